theorem q263 : (Cond.methodLink RX2 200 yX1_reachedFromReal) ∈ lwg := lwgR 263 (by decide +kernel) (by decide +kernel)
theorem q264 : (Cond.instanceMethod yX1_reachedFromReal) ∈ lwg := lwgR 264 (by decide +kernel) (by decide +kernel)
theorem q265 : (Cond.selects RX1 yX1_reachedFromReal yX1_reachedFromReal) ∈ lwg := lwgR 265 (by decide +kernel) (by decide +kernel)
theorem q266 : (Cond.code yX1_reachedFromReal cX1_reachedFromReal 2 (some .long)) ∈ lwg := lwgR 266 (by decide +kernel) (by decide +kernel)
theorem q267 : (Cond.methodLink RX2 238 yX1_countTrueInAllOf) ∈ lwg := lwgR 267 (by decide +kernel) (by decide +kernel)
theorem q268 : (Cond.methodLink RX2 241 yX1_nearestToReal) ∈ lwg := lwgR 268 (by decide +kernel) (by decide +kernel)
theorem q269 : (Cond.instanceMethod yX1_nearestToReal) ∈ lwg := lwgR 269 (by decide +kernel) (by decide +kernel)
theorem q270 : (Cond.selects RX1 yX1_nearestToReal yX1_nearestToReal) ∈ lwg := lwgR 270 (by decide +kernel) (by decide +kernel)
theorem q271 : (Cond.code yX1_nearestToReal cX1_nearestToReal 3 (some .int)) ∈ lwg := lwgR 271 (by decide +kernel) (by decide +kernel)
theorem q365 : (Cond.methodLink RX2 217 yX1_countCells) ∈ lwg := lwgR 365 (by decide +kernel) (by decide +kernel)
theorem q366 : (Cond.instanceMethod yX1_countCells) ∈ lwg := lwgR 366 (by decide +kernel) (by decide +kernel)
theorem q367 : (Cond.selects RX1 yX1_countCells yX1_countCells) ∈ lwg := lwgR 367 (by decide +kernel) (by decide +kernel)
theorem q368 : (Cond.code yX1_countCells cX1_countCells 6 (some .int)) ∈ lwg := lwgR 368 (by decide +kernel) (by decide +kernel)
theorem q370 : (Cond.methodLink RX2 220 yX1_factsSettledFor) ∈ lwg := lwgR 370 (by decide +kernel) (by decide +kernel)
theorem q371 : (Cond.instanceMethod yX1_factsSettledFor) ∈ lwg := lwgR 371 (by decide +kernel) (by decide +kernel)
theorem q372 : (Cond.selects RX1 yX1_factsSettledFor yX1_factsSettledFor) ∈ lwg := lwgR 372 (by decide +kernel) (by decide +kernel)
theorem q373 : (Cond.code yX1_factsSettledFor cX1_factsSettledFor 8 (some .int)) ∈ lwg := lwgR 373 (by decide +kernel) (by decide +kernel)
theorem q374 : (Cond.methodLink RX2 223 yX1_countKnownBy) ∈ lwg := lwgR 374 (by decide +kernel) (by decide +kernel)
theorem q375 : (Cond.instanceMethod yX1_countKnownBy) ∈ lwg := lwgR 375 (by decide +kernel) (by decide +kernel)
theorem q376 : (Cond.selects RX1 yX1_countKnownBy yX1_countKnownBy) ∈ lwg := lwgR 376 (by decide +kernel) (by decide +kernel)
theorem q377 : (Cond.code yX1_countKnownBy cX1_countKnownBy 2 (some .int)) ∈ lwg := lwgR 377 (by decide +kernel) (by decide +kernel)
theorem q378 : (Cond.methodLink RX2 226 yX1_asSharpAs) ∈ lwg := lwgR 378 (by decide +kernel) (by decide +kernel)
theorem q379 : (Cond.instanceMethod yX1_asSharpAs) ∈ lwg := lwgR 379 (by decide +kernel) (by decide +kernel)
theorem q380 : (Cond.selects RX1 yX1_asSharpAs yX1_asSharpAs) ∈ lwg := lwgR 380 (by decide +kernel) (by decide +kernel)
theorem q381 : (Cond.code yX1_asSharpAs cX1_asSharpAs 4 (some .int)) ∈ lwg := lwgR 381 (by decide +kernel) (by decide +kernel)
theorem q410 : (Cond.methodLink RX2 187 yX0_kindOf) ∈ lwg := lwgR 410 (by decide +kernel) (by decide +kernel)
theorem q411 : (Cond.methodLink RX2 190 yX0_firstOf) ∈ lwg := lwgR 411 (by decide +kernel) (by decide +kernel)
theorem q412 : (Cond.methodLink RX2 193 yX0_secondOf) ∈ lwg := lwgR 412 (by decide +kernel) (by decide +kernel)
theorem q415 : (Cond.methodLink RX2 196 yJ6_bitCount_0f7a4) ∈ lwg := lwgR 415 (by decide +kernel) (by decide +kernel)
theorem q421 : (Cond.methodLink RX2 203 yX2_isWithin) ∈ lwg := lwgR 421 (by decide +kernel) (by decide +kernel)
theorem q422 : (Cond.methodLink RX2 207 yX1_fewestFor) ∈ lwg := lwgR 422 (by decide +kernel) (by decide +kernel)
theorem q423 : (Cond.instanceMethod yX1_fewestFor) ∈ lwg := lwgR 423 (by decide +kernel) (by decide +kernel)
theorem q424 : (Cond.selects RX1 yX1_fewestFor yX1_fewestFor) ∈ lwg := lwgR 424 (by decide +kernel) (by decide +kernel)
theorem q425 : (Cond.code yX1_fewestFor cX1_fewestFor 6 (some .int)) ∈ lwg := lwgR 425 (by decide +kernel) (by decide +kernel)
theorem q427 : (Cond.methodLink RX2 210 yX0_builtDeep) ∈ lwg := lwgR 427 (by decide +kernel) (by decide +kernel)
theorem q440 : (Cond.methodLink RX2 231 yX1_depthFor) ∈ lwg := lwgR 440 (by decide +kernel) (by decide +kernel)
theorem q441 : (Cond.instanceMethod yX1_depthFor) ∈ lwg := lwgR 441 (by decide +kernel) (by decide +kernel)
theorem q442 : (Cond.selects RX1 yX1_depthFor yX1_depthFor) ∈ lwg := lwgR 442 (by decide +kernel) (by decide +kernel)
theorem q443 : (Cond.code yX1_depthFor cX1_depthFor 9 (some .int)) ∈ lwg := lwgR 443 (by decide +kernel) (by decide +kernel)
theorem tsw_0_4 {x : Int32} (h0 : ¬ x = 0) (h1 : ¬ x = 1) (h2 : ¬ x = 2) (h3 : ¬ x = 3) (h4 : ¬ x = 4) : x.toInt < 0 ∨ 4 < x.toInt := by
  have e0 : x.toInt ≠ 0 := fun e => h0 (Int32.toInt_inj.mp (e.trans (by decide)))
  have e1 : x.toInt ≠ 1 := fun e => h1 (Int32.toInt_inj.mp (e.trans (by decide)))
  have e2 : x.toInt ≠ 2 := fun e => h2 (Int32.toInt_inj.mp (e.trans (by decide)))
  have e3 : x.toInt ≠ 3 := fun e => h3 (Int32.toInt_inj.mp (e.trans (by decide)))
  have e4 : x.toInt ≠ 4 := fun e => h4 (Int32.toInt_inj.mp (e.trans (by decide)))
  omega
theorem tsw_0_9 {x : Int32} (h0 : ¬ x = 0) (h1 : ¬ x = 1) (h2 : ¬ x = 2) (h3 : ¬ x = 3) (h4 : ¬ x = 4) (h5 : ¬ x = 5) (h6 : ¬ x = 6) (h7 : ¬ x = 7) (h8 : ¬ x = 8) (h9 : ¬ x = 9) : x.toInt < 0 ∨ 9 < x.toInt := by
  have e0 : x.toInt ≠ 0 := fun e => h0 (Int32.toInt_inj.mp (e.trans (by decide)))
  have e1 : x.toInt ≠ 1 := fun e => h1 (Int32.toInt_inj.mp (e.trans (by decide)))
  have e2 : x.toInt ≠ 2 := fun e => h2 (Int32.toInt_inj.mp (e.trans (by decide)))
  have e3 : x.toInt ≠ 3 := fun e => h3 (Int32.toInt_inj.mp (e.trans (by decide)))
  have e4 : x.toInt ≠ 4 := fun e => h4 (Int32.toInt_inj.mp (e.trans (by decide)))
  have e5 : x.toInt ≠ 5 := fun e => h5 (Int32.toInt_inj.mp (e.trans (by decide)))
  have e6 : x.toInt ≠ 6 := fun e => h6 (Int32.toInt_inj.mp (e.trans (by decide)))
  have e7 : x.toInt ≠ 7 := fun e => h7 (Int32.toInt_inj.mp (e.trans (by decide)))
  have e8 : x.toInt ≠ 8 := fun e => h8 (Int32.toInt_inj.mp (e.trans (by decide)))
  have e9 : x.toInt ≠ 9 := fun e => h9 (Int32.toInt_inj.mp (e.trans (by decide)))
  omega
theorem tsw_0_12 {x : Int32} (h0 : ¬ x = 0) (h1 : ¬ x = 1) (h2 : ¬ x = 2) (h3 : ¬ x = 3) (h4 : ¬ x = 4) (h5 : ¬ x = 5) (h6 : ¬ x = 6) (h7 : ¬ x = 7) (h8 : ¬ x = 8) (h9 : ¬ x = 9) (h10 : ¬ x = 10) (h11 : ¬ x = 11) (h12 : ¬ x = 12) : x.toInt < 0 ∨ 12 < x.toInt := by
  have e0 : x.toInt ≠ 0 := fun e => h0 (Int32.toInt_inj.mp (e.trans (by decide)))
  have e1 : x.toInt ≠ 1 := fun e => h1 (Int32.toInt_inj.mp (e.trans (by decide)))
  have e2 : x.toInt ≠ 2 := fun e => h2 (Int32.toInt_inj.mp (e.trans (by decide)))
  have e3 : x.toInt ≠ 3 := fun e => h3 (Int32.toInt_inj.mp (e.trans (by decide)))
  have e4 : x.toInt ≠ 4 := fun e => h4 (Int32.toInt_inj.mp (e.trans (by decide)))
  have e5 : x.toInt ≠ 5 := fun e => h5 (Int32.toInt_inj.mp (e.trans (by decide)))
  have e6 : x.toInt ≠ 6 := fun e => h6 (Int32.toInt_inj.mp (e.trans (by decide)))
  have e7 : x.toInt ≠ 7 := fun e => h7 (Int32.toInt_inj.mp (e.trans (by decide)))
  have e8 : x.toInt ≠ 8 := fun e => h8 (Int32.toInt_inj.mp (e.trans (by decide)))
  have e9 : x.toInt ≠ 9 := fun e => h9 (Int32.toInt_inj.mp (e.trans (by decide)))
  have e10 : x.toInt ≠ 10 := fun e => h10 (Int32.toInt_inj.mp (e.trans (by decide)))
  have e11 : x.toInt ≠ 11 := fun e => h11 (Int32.toInt_inj.mp (e.trans (by decide)))
  have e12 : x.toInt ≠ 12 := fun e => h12 (Int32.toInt_inj.mp (e.trans (by decide)))
  omega
theorem dX2_isTrue_0 : decode cX2_isTrue 0 = .ok (.aload_n 0, 1) := by decide +kernel
theorem dX2_isTrue_1 : decode cX2_isTrue 1 = .ok (.getfield 10, 3) := by decide +kernel
theorem dX2_isTrue_4 : decode cX2_isTrue 4 = .ok (.iload_n 1, 1) := by decide +kernel
theorem dX2_isTrue_5 : decode cX2_isTrue 5 = .ok (.invokevirtual 116, 3) := by decide +kernel
theorem dX2_isTrue_8 : decode cX2_isTrue 8 = .ok (.ifCond .eq 10, 3) := by decide +kernel
theorem dX2_isTrue_11 : decode cX2_isTrue 11 = .ok (.iload_n 2, 1) := by decide +kernel
theorem dX2_isTrue_12 : decode cX2_isTrue 12 = .ok (.invokestatic 35, 3) := by decide +kernel
theorem dX2_isTrue_15 : decode cX2_isTrue 15 = .ok (.ifCond .ne 13, 3) := by decide +kernel
theorem dX2_isTrue_18 : decode cX2_isTrue 18 = .ok (.new 83, 3) := by decide +kernel
theorem dX2_isTrue_21 : decode cX2_isTrue 21 = .ok (.dup, 1) := by decide +kernel
theorem dX2_isTrue_22 : decode cX2_isTrue 22 = .ok (.ldc 181, 2) := by decide +kernel
theorem dX2_isTrue_24 : decode cX2_isTrue 24 = .ok (.invokespecial 87, 3) := by decide +kernel
theorem dX2_isTrue_27 : decode cX2_isTrue 27 = .ok (.athrow, 1) := by decide +kernel
theorem dX2_isTrue_28 : decode cX2_isTrue 28 = .ok (.aload_n 0, 1) := by decide +kernel
theorem dX2_isTrue_29 : decode cX2_isTrue 29 = .ok (.getfield 21, 3) := by decide +kernel
theorem dX2_isTrue_32 : decode cX2_isTrue 32 = .ok (.iload_n 1, 1) := by decide +kernel
theorem dX2_isTrue_33 : decode cX2_isTrue 33 = .ok (.invokevirtual 129, 3) := by decide +kernel
theorem dX2_isTrue_36 : decode cX2_isTrue 36 = .ok (.iload_n 2, 1) := by decide +kernel
theorem dX2_isTrue_37 : decode cX2_isTrue 37 = .ok (.invokestatic 183, 3) := by decide +kernel
theorem dX2_isTrue_40 : decode cX2_isTrue 40 = .ok (.ireturn, 1) := by decide +kernel
def wxX2_isTrue (post : Int32 → Unit → Prop) (postx : String → Prop) (wg : Nat → Int64) (bn : Int32) (p1 : Int32) (p2 : Int32) : Prop :=
  wX0_holds (fun r_1 : Int32 =>
    ((r_1 = 0) →
      postx "java/lang/IndexOutOfBoundsException"
    ) ∧ (¬ (r_1 = 0) →
      wX2_isWorld (fun r_2 : Int32 =>
        ((¬ r_2 = 0) →
          wX1_worldsOf (fun r_3 : Int64 =>
            wX2_has (fun r_4 : Int32 =>
              vZ r_4 ∧
              post r_4 ()
              ) r_3 p2
            ) wg bn p1
        ) ∧ ((r_2 = 0) →
          postx "java/lang/IndexOutOfBoundsException"
        )
        ) p2
    )
    ) bn p1
abbrev wl_xX2_isTrue : List Cond := .code yX2_isTrue cX2_isTrue 3 (some .boolean) :: lwg
abbrev rm_xX2_isTrue : Room := { frames := 6, cells := 1, slots := 6, locals := 98 }
set_option maxHeartbeats 4000000 in
set_option maxRecDepth 100000 in
theorem kxX2_isTrue {post : Int32 → Unit → Prop} {postx : String → Prop} (l : Launch) (hfl : l.stackTraces = false) (G : GT) (x0 : Nat) (s0 : Nat) (s1 : Nat) (s2 : Nat) (u0 : Nat) (u1 : Nat) (u2 : Nat) (v0 : Nat) (v1 : Nat) (v2 : Nat) (b0 : Nat) (b1 : Nat) (b2 : Nat) (b3 : Nat) (b4 : Nat) (b5 : Nat) (b6 : Nat) (tA : Int32) (wP : Int32) (nT : Int32) (aK : Int32) (lK : Int32) (sW : Int32) (rF : Int32) (dk : Nat → Int64) (wg : Nat → Int64) (op : Int64) (re : Int32) (uk : Nat → Int64) (uw : Nat → Int64) (uo : Int64) (ur : Int32) (vk : Nat → Int64) (vw : Nat → Int64) (vo : Int64) (vr : Int32) (kf : Nat → Int32) (ff : Nat → Int32) (sf : Nat → Int32) (df : Nat → Int32) (pf : Nat → Int64) (gf : Nat → Int64) (bn : Int32) (p1 : Int32) (p2 : Int32) (sz : Nat) (h : wxX2_isTrue post postx wg bn p1 p2) : vx_Met l yX2_isTrue wl_xX2_isTrue rm_xX2_isTrue (va_Pc [.ref x0, .int p1, .int p2] (fun U => U.heap.size = sz ∧ PP G [(x0, .inr (5, [.ref b0, .ref s0, .ref u0, .ref v0, .int tA, .int wP, .int nT, .int aK, .int lK, .int sW, .int rF])), (s0, .inr (4, [.ref b0, .ref s1, .ref s2, .long op, .int re])), (s1, .inl (G.2 1, 384, .inr (.inl dk))), (s2, .inl (G.2 1, 40, .inr (.inl wg))), (u0, .inr (4, [.ref b0, .ref u1, .ref u2, .long uo, .int ur])), (u1, .inl (G.2 1, 384, .inr (.inl uk))), (u2, .inl (G.2 1, 40, .inr (.inl uw))), (v0, .inr (4, [.ref b0, .ref v1, .ref v2, .long vo, .int vr])), (v1, .inl (G.2 1, 384, .inr (.inl vk))), (v2, .inl (G.2 1, 40, .inr (.inl vw))), (b0, .inr (3, [.ref b1, .ref b2, .ref b3, .ref b4, .ref b5, .ref b6, .int bn])), (b1, .inl (G.2 0, 40, .inl kf)), (b2, .inl (G.2 0, 40, .inl ff)), (b3, .inl (G.2 0, 40, .inl sf)), (b4, .inl (G.2 0, 40, .inl df)), (b5, .inl (G.2 1, 40, .inr (.inl pf))), (b6, .inl (G.2 1, 6, .inr (.inl gf)))] U.heap ∧ KK G U ∧ va_D (fun _ => True) [(x0, .inr (5, [.ref b0, .ref s0, .ref u0, .ref v0, .int tA, .int wP, .int nT, .int aK, .int lK, .int sW, .int rF])), (s0, .inr (4, [.ref b0, .ref s1, .ref s2, .long op, .int re])), (s1, .inl (G.2 1, 384, .inr (.inl dk))), (s2, .inl (G.2 1, 40, .inr (.inl wg))), (u0, .inr (4, [.ref b0, .ref u1, .ref u2, .long uo, .int ur])), (u1, .inl (G.2 1, 384, .inr (.inl uk))), (u2, .inl (G.2 1, 40, .inr (.inl uw))), (v0, .inr (4, [.ref b0, .ref v1, .ref v2, .long vo, .int vr])), (v1, .inl (G.2 1, 384, .inr (.inl vk))), (v2, .inl (G.2 1, 40, .inr (.inl vw))), (b0, .inr (3, [.ref b1, .ref b2, .ref b3, .ref b4, .ref b5, .ref b6, .int bn])), (b1, .inl (G.2 0, 40, .inl kf)), (b2, .inl (G.2 0, 40, .inl ff)), (b3, .inl (G.2 0, 40, .inl sf)), (b4, .inl (G.2 0, 40, .inl df)), (b5, .inl (G.2 1, 40, .inr (.inl pf))), (b6, .inl (G.2 1, 6, .inr (.inl gf)))] ∧ ZZ (va_A [(x0, .inr (5, [.ref b0, .ref s0, .ref u0, .ref v0, .int tA, .int wP, .int nT, .int aK, .int lK, .int sW, .int rF])), (s0, .inr (4, [.ref b0, .ref s1, .ref s2, .long op, .int re])), (s1, .inl (G.2 1, 384, .inr (.inl dk))), (s2, .inl (G.2 1, 40, .inr (.inl wg))), (u0, .inr (4, [.ref b0, .ref u1, .ref u2, .long uo, .int ur])), (u1, .inl (G.2 1, 384, .inr (.inl uk))), (u2, .inl (G.2 1, 40, .inr (.inl uw))), (v0, .inr (4, [.ref b0, .ref v1, .ref v2, .long vo, .int vr])), (v1, .inl (G.2 1, 384, .inr (.inl vk))), (v2, .inl (G.2 1, 40, .inr (.inl vw))), (b0, .inr (3, [.ref b1, .ref b2, .ref b3, .ref b4, .ref b5, .ref b6, .int bn])), (b1, .inl (G.2 0, 40, .inl kf)), (b2, .inl (G.2 0, 40, .inl ff)), (b3, .inl (G.2 0, 40, .inl sf)), (b4, .inl (G.2 0, 40, .inl df)), (b5, .inl (G.2 1, 40, .inr (.inl pf))), (b6, .inl (G.2 1, 6, .inr (.inl gf)))] sz) U U.heap)) (va_Qi post (fun u t => PP G [(x0, .inr (5, [.ref b0, .ref s0, .ref u0, .ref v0, .int tA, .int wP, .int nT, .int aK, .int lK, .int sW, .int rF])), (s0, .inr (4, [.ref b0, .ref s1, .ref s2, .long op, .int re])), (s1, .inl (G.2 1, 384, .inr (.inl dk))), (s2, .inl (G.2 1, 40, .inr (.inl wg))), (u0, .inr (4, [.ref b0, .ref u1, .ref u2, .long uo, .int ur])), (u1, .inl (G.2 1, 384, .inr (.inl uk))), (u2, .inl (G.2 1, 40, .inr (.inl uw))), (v0, .inr (4, [.ref b0, .ref v1, .ref v2, .long vo, .int vr])), (v1, .inl (G.2 1, 384, .inr (.inl vk))), (v2, .inl (G.2 1, 40, .inr (.inl vw))), (b0, .inr (3, [.ref b1, .ref b2, .ref b3, .ref b4, .ref b5, .ref b6, .int bn])), (b1, .inl (G.2 0, 40, .inl kf)), (b2, .inl (G.2 0, 40, .inl ff)), (b3, .inl (G.2 0, 40, .inl sf)), (b4, .inl (G.2 0, 40, .inl df)), (b5, .inl (G.2 1, 40, .inr (.inl pf))), (b6, .inl (G.2 1, 6, .inr (.inl gf)))] t.heap ∧ va_D (va_A [(x0, .inr (5, [.ref b0, .ref s0, .ref u0, .ref v0, .int tA, .int wP, .int nT, .int aK, .int lK, .int sW, .int rF])), (s0, .inr (4, [.ref b0, .ref s1, .ref s2, .long op, .int re])), (s1, .inl (G.2 1, 384, .inr (.inl dk))), (s2, .inl (G.2 1, 40, .inr (.inl wg))), (u0, .inr (4, [.ref b0, .ref u1, .ref u2, .long uo, .int ur])), (u1, .inl (G.2 1, 384, .inr (.inl uk))), (u2, .inl (G.2 1, 40, .inr (.inl uw))), (v0, .inr (4, [.ref b0, .ref v1, .ref v2, .long vo, .int vr])), (v1, .inl (G.2 1, 384, .inr (.inl vk))), (v2, .inl (G.2 1, 40, .inr (.inl vw))), (b0, .inr (3, [.ref b1, .ref b2, .ref b3, .ref b4, .ref b5, .ref b6, .int bn])), (b1, .inl (G.2 0, 40, .inl kf)), (b2, .inl (G.2 0, 40, .inl ff)), (b3, .inl (G.2 0, 40, .inl sf)), (b4, .inl (G.2 0, 40, .inl df)), (b5, .inl (G.2 1, 40, .inr (.inl pf))), (b6, .inl (G.2 1, 6, .inr (.inl gf)))] sz) [(x0, .inr (5, [.ref b0, .ref s0, .ref u0, .ref v0, .int tA, .int wP, .int nT, .int aK, .int lK, .int sW, .int rF])), (s0, .inr (4, [.ref b0, .ref s1, .ref s2, .long op, .int re])), (s1, .inl (G.2 1, 384, .inr (.inl dk))), (s2, .inl (G.2 1, 40, .inr (.inl wg))), (u0, .inr (4, [.ref b0, .ref u1, .ref u2, .long uo, .int ur])), (u1, .inl (G.2 1, 384, .inr (.inl uk))), (u2, .inl (G.2 1, 40, .inr (.inl uw))), (v0, .inr (4, [.ref b0, .ref v1, .ref v2, .long vo, .int vr])), (v1, .inl (G.2 1, 384, .inr (.inl vk))), (v2, .inl (G.2 1, 40, .inr (.inl vw))), (b0, .inr (3, [.ref b1, .ref b2, .ref b3, .ref b4, .ref b5, .ref b6, .int bn])), (b1, .inl (G.2 0, 40, .inl kf)), (b2, .inl (G.2 0, 40, .inl ff)), (b3, .inl (G.2 0, 40, .inl sf)), (b4, .inl (G.2 0, 40, .inl df)), (b5, .inl (G.2 1, 40, .inr (.inl pf))), (b6, .inl (G.2 1, 6, .inr (.inl gf)))]) (va_A [(x0, .inr (5, [.ref b0, .ref s0, .ref u0, .ref v0, .int tA, .int wP, .int nT, .int aK, .int lK, .int sW, .int rF])), (s0, .inr (4, [.ref b0, .ref s1, .ref s2, .long op, .int re])), (s1, .inl (G.2 1, 384, .inr (.inl dk))), (s2, .inl (G.2 1, 40, .inr (.inl wg))), (u0, .inr (4, [.ref b0, .ref u1, .ref u2, .long uo, .int ur])), (u1, .inl (G.2 1, 384, .inr (.inl uk))), (u2, .inl (G.2 1, 40, .inr (.inl uw))), (v0, .inr (4, [.ref b0, .ref v1, .ref v2, .long vo, .int vr])), (v1, .inl (G.2 1, 384, .inr (.inl vk))), (v2, .inl (G.2 1, 40, .inr (.inl vw))), (b0, .inr (3, [.ref b1, .ref b2, .ref b3, .ref b4, .ref b5, .ref b6, .int bn])), (b1, .inl (G.2 0, 40, .inl kf)), (b2, .inl (G.2 0, 40, .inl ff)), (b3, .inl (G.2 0, 40, .inl sf)), (b4, .inl (G.2 0, 40, .inl df)), (b5, .inl (G.2 1, 40, .inr (.inl pf))), (b6, .inl (G.2 1, 6, .inr (.inl gf)))] sz)) (vx_X (fun _ : Unit => True) (fun E _ t => PP G [(x0, .inr (5, [.ref b0, .ref s0, .ref u0, .ref v0, .int tA, .int wP, .int nT, .int aK, .int lK, .int sW, .int rF])), (s0, .inr (4, [.ref b0, .ref s1, .ref s2, .long op, .int re])), (s1, .inl (G.2 1, 384, .inr (.inl dk))), (s2, .inl (G.2 1, 40, .inr (.inl wg))), (u0, .inr (4, [.ref b0, .ref u1, .ref u2, .long uo, .int ur])), (u1, .inl (G.2 1, 384, .inr (.inl uk))), (u2, .inl (G.2 1, 40, .inr (.inl uw))), (v0, .inr (4, [.ref b0, .ref v1, .ref v2, .long vo, .int vr])), (v1, .inl (G.2 1, 384, .inr (.inl vk))), (v2, .inl (G.2 1, 40, .inr (.inl vw))), (b0, .inr (3, [.ref b1, .ref b2, .ref b3, .ref b4, .ref b5, .ref b6, .int bn])), (b1, .inl (G.2 0, 40, .inl kf)), (b2, .inl (G.2 0, 40, .inl ff)), (b3, .inl (G.2 0, 40, .inl sf)), (b4, .inl (G.2 0, 40, .inl df)), (b5, .inl (G.2 1, 40, .inr (.inl pf))), (b6, .inl (G.2 1, 6, .inr (.inl gf)))] t.heap ∧ va_D (va_A [(x0, .inr (5, [.ref b0, .ref s0, .ref u0, .ref v0, .int tA, .int wP, .int nT, .int aK, .int lK, .int sW, .int rF])), (s0, .inr (4, [.ref b0, .ref s1, .ref s2, .long op, .int re])), (s1, .inl (G.2 1, 384, .inr (.inl dk))), (s2, .inl (G.2 1, 40, .inr (.inl wg))), (u0, .inr (4, [.ref b0, .ref u1, .ref u2, .long uo, .int ur])), (u1, .inl (G.2 1, 384, .inr (.inl uk))), (u2, .inl (G.2 1, 40, .inr (.inl uw))), (v0, .inr (4, [.ref b0, .ref v1, .ref v2, .long vo, .int vr])), (v1, .inl (G.2 1, 384, .inr (.inl vk))), (v2, .inl (G.2 1, 40, .inr (.inl vw))), (b0, .inr (3, [.ref b1, .ref b2, .ref b3, .ref b4, .ref b5, .ref b6, .int bn])), (b1, .inl (G.2 0, 40, .inl kf)), (b2, .inl (G.2 0, 40, .inl ff)), (b3, .inl (G.2 0, 40, .inl sf)), (b4, .inl (G.2 0, 40, .inl df)), (b5, .inl (G.2 1, 40, .inr (.inl pf))), (b6, .inl (G.2 1, 6, .inr (.inl gf)))] sz) [(x0, .inr (5, [.ref b0, .ref s0, .ref u0, .ref v0, .int tA, .int wP, .int nT, .int aK, .int lK, .int sW, .int rF])), (s0, .inr (4, [.ref b0, .ref s1, .ref s2, .long op, .int re])), (s1, .inl (G.2 1, 384, .inr (.inl dk))), (s2, .inl (G.2 1, 40, .inr (.inl wg))), (u0, .inr (4, [.ref b0, .ref u1, .ref u2, .long uo, .int ur])), (u1, .inl (G.2 1, 384, .inr (.inl uk))), (u2, .inl (G.2 1, 40, .inr (.inl uw))), (v0, .inr (4, [.ref b0, .ref v1, .ref v2, .long vo, .int vr])), (v1, .inl (G.2 1, 384, .inr (.inl vk))), (v2, .inl (G.2 1, 40, .inr (.inl vw))), (b0, .inr (3, [.ref b1, .ref b2, .ref b3, .ref b4, .ref b5, .ref b6, .int bn])), (b1, .inl (G.2 0, 40, .inl kf)), (b2, .inl (G.2 0, 40, .inl ff)), (b3, .inl (G.2 0, 40, .inl sf)), (b4, .inl (G.2 0, 40, .inl df)), (b5, .inl (G.2 1, 40, .inr (.inl pf))), (b6, .inl (G.2 1, 6, .inr (.inl gf)))] ∧ postx E) (va_A [(x0, .inr (5, [.ref b0, .ref s0, .ref u0, .ref v0, .int tA, .int wP, .int nT, .int aK, .int lK, .int sW, .int rF])), (s0, .inr (4, [.ref b0, .ref s1, .ref s2, .long op, .int re])), (s1, .inl (G.2 1, 384, .inr (.inl dk))), (s2, .inl (G.2 1, 40, .inr (.inl wg))), (u0, .inr (4, [.ref b0, .ref u1, .ref u2, .long uo, .int ur])), (u1, .inl (G.2 1, 384, .inr (.inl uk))), (u2, .inl (G.2 1, 40, .inr (.inl uw))), (v0, .inr (4, [.ref b0, .ref v1, .ref v2, .long vo, .int vr])), (v1, .inl (G.2 1, 384, .inr (.inl vk))), (v2, .inl (G.2 1, 40, .inr (.inl vw))), (b0, .inr (3, [.ref b1, .ref b2, .ref b3, .ref b4, .ref b5, .ref b6, .int bn])), (b1, .inl (G.2 0, 40, .inl kf)), (b2, .inl (G.2 0, 40, .inl ff)), (b3, .inl (G.2 0, 40, .inl sf)), (b4, .inl (G.2 0, 40, .inl df)), (b5, .inl (G.2 1, 40, .inr (.inl pf))), (b6, .inl (G.2 1, 6, .inr (.inl gf)))] sz)) 1 6 (va_A [(x0, .inr (5, [.ref b0, .ref s0, .ref u0, .ref v0, .int tA, .int wP, .int nT, .int aK, .int lK, .int sW, .int rF])), (s0, .inr (4, [.ref b0, .ref s1, .ref s2, .long op, .int re])), (s1, .inl (G.2 1, 384, .inr (.inl dk))), (s2, .inl (G.2 1, 40, .inr (.inl wg))), (u0, .inr (4, [.ref b0, .ref u1, .ref u2, .long uo, .int ur])), (u1, .inl (G.2 1, 384, .inr (.inl uk))), (u2, .inl (G.2 1, 40, .inr (.inl uw))), (v0, .inr (4, [.ref b0, .ref v1, .ref v2, .long vo, .int vr])), (v1, .inl (G.2 1, 384, .inr (.inl vk))), (v2, .inl (G.2 1, 40, .inr (.inl vw))), (b0, .inr (3, [.ref b1, .ref b2, .ref b3, .ref b4, .ref b5, .ref b6, .int bn])), (b1, .inl (G.2 0, 40, .inl kf)), (b2, .inl (G.2 0, 40, .inl ff)), (b3, .inl (G.2 0, 40, .inl sf)), (b4, .inl (G.2 0, 40, .inl df)), (b5, .inl (G.2 1, 40, .inr (.inl pf))), (b6, .inl (G.2 1, 6, .inr (.inl gf)))] sz) := by
  refine vx_ofW (cc := cX2_isTrue) (maxL := 3) (ret := (some .boolean)) (by decide) rfl ?_
  intro p e s m args below meth c s₁ B hml hT hv
  obtain ⟨rfl, hsz, hP, hKK, hD0, hZ⟩ := hv
  obtain ⟨hK, hN, hR, hFW, hNC⟩ := id hKK
  have hx := B.exec
  have hb := B.bytes
  have hr := B.returns
  have hts0 := atoms_spec (ws := wl_xX2_isTrue) B.pre
  have hts : ∀ w ∈ lwg, w.before ([.ref x0, .int p1, .int p2] : List Value).toArray s = true := fun w hw => hts0 w (List.mem_cons_of_mem _ hw)
  have hown : s.vm.findClass RX2 = some m.cls := findClass_of_methodNamed B.named
  have hlocks := B.notSynchronized
  subst hsz
  have hD := hD0.self (sz := s.heap.size)
  generalize hAe : va_A [(x0, .inr (5, [.ref b0, .ref s0, .ref u0, .ref v0, .int tA, .int wP, .int nT, .int aK, .int lK, .int sW, .int rF])), (s0, .inr (4, [.ref b0, .ref s1, .ref s2, .long op, .int re])), (s1, .inl (G.2 1, 384, .inr (.inl dk))), (s2, .inl (G.2 1, 40, .inr (.inl wg))), (u0, .inr (4, [.ref b0, .ref u1, .ref u2, .long uo, .int ur])), (u1, .inl (G.2 1, 384, .inr (.inl uk))), (u2, .inl (G.2 1, 40, .inr (.inl uw))), (v0, .inr (4, [.ref b0, .ref v1, .ref v2, .long vo, .int vr])), (v1, .inl (G.2 1, 384, .inr (.inl vk))), (v2, .inl (G.2 1, 40, .inr (.inl vw))), (b0, .inr (3, [.ref b1, .ref b2, .ref b3, .ref b4, .ref b5, .ref b6, .int bn])), (b1, .inl (G.2 0, 40, .inl kf)), (b2, .inl (G.2 0, 40, .inl ff)), (b3, .inl (G.2 0, 40, .inl sf)), (b4, .inl (G.2 0, 40, .inl df)), (b5, .inl (G.2 1, 40, .inr (.inl pf))), (b6, .inl (G.2 1, 6, .inr (.inl gf)))] s.heap.size = A at hD hZ ⊢
  have hA : ∀ q : Nat, s.heap.size ≤ q → A q := fun q h => by rw [← hAe]; exact Or.inr h
  have hS : va_S A s.heap s.heap [] := va_S.rf
  obtain ⟨QC, hQC⟩ : ∃ Z, Z = (va_Qi post (fun u t => PP G [(x0, .inr (5, [.ref b0, .ref s0, .ref u0, .ref v0, .int tA, .int wP, .int nT, .int aK, .int lK, .int sW, .int rF])), (s0, .inr (4, [.ref b0, .ref s1, .ref s2, .long op, .int re])), (s1, .inl (G.2 1, 384, .inr (.inl dk))), (s2, .inl (G.2 1, 40, .inr (.inl wg))), (u0, .inr (4, [.ref b0, .ref u1, .ref u2, .long uo, .int ur])), (u1, .inl (G.2 1, 384, .inr (.inl uk))), (u2, .inl (G.2 1, 40, .inr (.inl uw))), (v0, .inr (4, [.ref b0, .ref v1, .ref v2, .long vo, .int vr])), (v1, .inl (G.2 1, 384, .inr (.inl vk))), (v2, .inl (G.2 1, 40, .inr (.inl vw))), (b0, .inr (3, [.ref b1, .ref b2, .ref b3, .ref b4, .ref b5, .ref b6, .int bn])), (b1, .inl (G.2 0, 40, .inl kf)), (b2, .inl (G.2 0, 40, .inl ff)), (b3, .inl (G.2 0, 40, .inl sf)), (b4, .inl (G.2 0, 40, .inl df)), (b5, .inl (G.2 1, 40, .inr (.inl pf))), (b6, .inl (G.2 1, 6, .inr (.inl gf)))] t.heap ∧ va_D A [(x0, .inr (5, [.ref b0, .ref s0, .ref u0, .ref v0, .int tA, .int wP, .int nT, .int aK, .int lK, .int sW, .int rF])), (s0, .inr (4, [.ref b0, .ref s1, .ref s2, .long op, .int re])), (s1, .inl (G.2 1, 384, .inr (.inl dk))), (s2, .inl (G.2 1, 40, .inr (.inl wg))), (u0, .inr (4, [.ref b0, .ref u1, .ref u2, .long uo, .int ur])), (u1, .inl (G.2 1, 384, .inr (.inl uk))), (u2, .inl (G.2 1, 40, .inr (.inl uw))), (v0, .inr (4, [.ref b0, .ref v1, .ref v2, .long vo, .int vr])), (v1, .inl (G.2 1, 384, .inr (.inl vk))), (v2, .inl (G.2 1, 40, .inr (.inl vw))), (b0, .inr (3, [.ref b1, .ref b2, .ref b3, .ref b4, .ref b5, .ref b6, .int bn])), (b1, .inl (G.2 0, 40, .inl kf)), (b2, .inl (G.2 0, 40, .inl ff)), (b3, .inl (G.2 0, 40, .inl sf)), (b4, .inl (G.2 0, 40, .inl df)), (b5, .inl (G.2 1, 40, .inr (.inl pf))), (b6, .inl (G.2 1, 6, .inr (.inl gf)))]) A) := ⟨_, rfl⟩
  rw [← hQC]
  obtain ⟨XC, hXC⟩ : ∃ Z, Z = (vx_X (fun _ : Unit => True) (fun E _ t => PP G [(x0, .inr (5, [.ref b0, .ref s0, .ref u0, .ref v0, .int tA, .int wP, .int nT, .int aK, .int lK, .int sW, .int rF])), (s0, .inr (4, [.ref b0, .ref s1, .ref s2, .long op, .int re])), (s1, .inl (G.2 1, 384, .inr (.inl dk))), (s2, .inl (G.2 1, 40, .inr (.inl wg))), (u0, .inr (4, [.ref b0, .ref u1, .ref u2, .long uo, .int ur])), (u1, .inl (G.2 1, 384, .inr (.inl uk))), (u2, .inl (G.2 1, 40, .inr (.inl uw))), (v0, .inr (4, [.ref b0, .ref v1, .ref v2, .long vo, .int vr])), (v1, .inl (G.2 1, 384, .inr (.inl vk))), (v2, .inl (G.2 1, 40, .inr (.inl vw))), (b0, .inr (3, [.ref b1, .ref b2, .ref b3, .ref b4, .ref b5, .ref b6, .int bn])), (b1, .inl (G.2 0, 40, .inl kf)), (b2, .inl (G.2 0, 40, .inl ff)), (b3, .inl (G.2 0, 40, .inl sf)), (b4, .inl (G.2 0, 40, .inl df)), (b5, .inl (G.2 1, 40, .inr (.inl pf))), (b6, .inl (G.2 1, 6, .inr (.inl gf)))] t.heap ∧ va_D A [(x0, .inr (5, [.ref b0, .ref s0, .ref u0, .ref v0, .int tA, .int wP, .int nT, .int aK, .int lK, .int sW, .int rF])), (s0, .inr (4, [.ref b0, .ref s1, .ref s2, .long op, .int re])), (s1, .inl (G.2 1, 384, .inr (.inl dk))), (s2, .inl (G.2 1, 40, .inr (.inl wg))), (u0, .inr (4, [.ref b0, .ref u1, .ref u2, .long uo, .int ur])), (u1, .inl (G.2 1, 384, .inr (.inl uk))), (u2, .inl (G.2 1, 40, .inr (.inl uw))), (v0, .inr (4, [.ref b0, .ref v1, .ref v2, .long vo, .int vr])), (v1, .inl (G.2 1, 384, .inr (.inl vk))), (v2, .inl (G.2 1, 40, .inr (.inl vw))), (b0, .inr (3, [.ref b1, .ref b2, .ref b3, .ref b4, .ref b5, .ref b6, .int bn])), (b1, .inl (G.2 0, 40, .inl kf)), (b2, .inl (G.2 0, 40, .inl ff)), (b3, .inl (G.2 0, 40, .inl sf)), (b4, .inl (G.2 0, 40, .inl df)), (b5, .inl (G.2 1, 40, .inr (.inl pf))), (b6, .inl (G.2 1, 6, .inr (.inl gf)))] ∧ postx E) A) := ⟨_, rfl⟩
  rw [← hXC]
  obtain ⟨⟨zt, hZ1, hT1⟩, hZ2⟩ := id hZ
  have hP : PP G [(x0, .inr (5, [.ref b0, .ref s0, .ref u0, .ref v0, .int tA, .int wP, .int nT, .int aK, .int lK, .int sW, .int rF])), (s0, .inr (4, [.ref b0, .ref s1, .ref s2, .long op, .int re])), (s1, .inl (G.2 1, 384, .inr (.inl dk))), (s2, .inl (G.2 1, 40, .inr (.inl wg))), (u0, .inr (4, [.ref b0, .ref u1, .ref u2, .long uo, .int ur])), (u1, .inl (G.2 1, 384, .inr (.inl uk))), (u2, .inl (G.2 1, 40, .inr (.inl uw))), (v0, .inr (4, [.ref b0, .ref v1, .ref v2, .long vo, .int vr])), (v1, .inl (G.2 1, 384, .inr (.inl vk))), (v2, .inl (G.2 1, 40, .inr (.inl vw))), (b0, .inr (3, [.ref b1, .ref b2, .ref b3, .ref b4, .ref b5, .ref b6, .int bn])), (b1, .inl (G.2 0, 40, .inl kf)), (b2, .inl (G.2 0, 40, .inl ff)), (b3, .inl (G.2 0, 40, .inl sf)), (b4, .inl (G.2 0, 40, .inl df)), (b5, .inl (G.2 1, 40, .inr (.inl pf))), (b6, .inl (G.2 1, 6, .inr (.inl gf)))] s.heap := hP
  have hl := lv_entry ([.ref x0, .int p1, .int p2]) (n := 3) (Nat.le_of_ble_eq_true rfl)
  rw [lg_entry_eq]
  generalize (lg_sl ([.ref x0, .int p1, .int p2]) ++ List.replicate (3 - (lg_sl ([.ref x0, .int p1, .int p2])).length) Slot.unset).toArray = ls at hl ⊢
  have hl : lv_has ls 3 [(0, .ref x0), (1, .int p1), (2, .int p2)] := hl
  refine lv_aload_n hx hb dX2_isTrue_0 rfl (lv_at hl 0 rfl) ?_
  refine va_get (D := G.1) (ci := 5) (v := .ref b0) (C := RX2) (T := TX2) (N := 11) hx hb hts igX2 hown hK hP 0 rfl rfl 0 (by decide) (hts _ q176) (fun _ h9 => h9) rfl dX2_isTrue_1 ?_
  refine lv_iload_n hx hb dX2_isTrue_4 rfl (lv_at hl 1 rfl) ?_
  have hPc := va_P.sub (ws' := [(b0, .inr (3, [.ref b1, .ref b2, .ref b3, .ref b4, .ref b5, .ref b6, .int bn])), (b1, .inl (G.2 0, 40, .inl kf)), (b2, .inl (G.2 0, 40, .inl ff)), (b3, .inl (G.2 0, 40, .inl sf)), (b4, .inl (G.2 0, 40, .inl df)), (b5, .inl (G.2 1, 40, .inr (.inl pf))), (b6, .inl (G.2 1, 6, .inr (.inl gf)))]) hP [10, 11, 12, 13, 14, 15, 16] rfl
  refine rdI (va_runV (C := RX0) (As := [.int p1]) (rest := []) ⟨hx, hb, hml, hown, hts⟩ (kX0_holds l G b0 b1 b2 b3 b4 b5 b6 kf ff sf df pf gf bn p1 h) (cwV 1 hts (gdV q403 q115 q116 q2 q117) rfl rfl rfl (by decide +kernel) ⟨Nat.le_of_ble_eq_true rfl, Nat.le_of_ble_eq_true rfl⟩) (preV hPc hKK (va_recv hK hPc (ci := 3) (q0 := 0) rfl rfl)) rfl rfl hl.1 rfl (lv_room (Nat.le_of_ble_eq_true rfl)) dX2_isTrue_5 ⟨Nat.zero_le _, Nat.zero_le _⟩) (fun r_1 h => ?_)
  refine lv_if_eq (tgt := 18) hx hb dX2_isTrue_8 (by decide) (fun hc => ?_) (fun hc => ?_)
  · have h := h.1 hc
    obtain ⟨sa, hsa⟩ := hR.1 ("NightdeskRota", 181, "no such sentence or world") (List.mem_of_getElem? (i := 15) rfl)
    subst hXC
    exact vx_throwS (names := rtx) (text := "no such sentence or world") (sa := sa) hx hb hfl hown (by decide +kernel) (by decide +kernel) (hts _ q349) (hts _ q22) hsa (hatX hat87a hat87b hts hN hZ) hgd87 hZ.2.1 hZ.2.2 hS (hl.1.trans hml.symm) dX2_isTrue_18 dX2_isTrue_21 dX2_isTrue_22 dX2_isTrue_24 dX2_isTrue_27 (fun x hx => (hT x hx).elim) (Nat.le_of_ble_eq_true rfl) (Nat.le_of_ble_eq_true rfl) (Nat.le_of_ble_eq_true rfl) (Nat.le_of_ble_eq_true rfl) hlocks (fun t ht h1 h2 => ⟨(), trivial, ⟨keepAll hP h2, hD, h⟩, h1, fun q hq _ => h2 q hq⟩) hS.2.2 (Nat.le_refl _) (Nat.le_refl _)
  · have h := h.2 hc
    refine lv_iload_n hx hb dX2_isTrue_11 rfl (lv_at hl 2 rfl) ?_
    have hPc := va_P.sub (ws' := []) hP [] rfl
    refine rdI (va_runS (As := [.int p2]) (rest := []) ⟨hx, hb, hml, hown, hts⟩ (kX2_isWorld l G p2 h) (va_cwS 1 hts (gdS q391 q392 q1 q393) rfl rfl rfl (by decide +kernel) ⟨Nat.le_of_ble_eq_true rfl, Nat.le_of_ble_eq_true rfl⟩) (preS hPc hKK) rfl rfl hl.1 rfl (lv_room (Nat.le_of_ble_eq_true rfl)) dX2_isTrue_12 ⟨Nat.zero_le _, Nat.zero_le _⟩) (fun r_2 h => ?_)
    refine lv_if_ne (tgt := 28) hx hb dX2_isTrue_15 (by decide) (fun hc => ?_) (fun hc => ?_)
    · have h := h.1 hc
      refine lv_aload_n hx hb dX2_isTrue_28 rfl (lv_at hl 0 rfl) ?_
      refine va_get (D := G.1) (ci := 5) (v := .ref s0) (C := RX2) (T := TX2) (N := 11) hx hb hts igX2 hown hK hP 0 rfl rfl 1 (by decide) (hts _ q177) (fun _ h9 => h9) rfl dX2_isTrue_29 ?_
      refine lv_iload_n hx hb dX2_isTrue_32 rfl (lv_at hl 1 rfl) ?_
      have hPc := va_P.sub (ws' := [(s0, .inr (4, [.ref b0, .ref s1, .ref s2, .long op, .int re])), (s1, .inl (G.2 1, 384, .inr (.inl dk))), (s2, .inl (G.2 1, 40, .inr (.inl wg))), (b0, .inr (3, [.ref b1, .ref b2, .ref b3, .ref b4, .ref b5, .ref b6, .int bn])), (b1, .inl (G.2 0, 40, .inl kf)), (b2, .inl (G.2 0, 40, .inl ff)), (b3, .inl (G.2 0, 40, .inl sf)), (b4, .inl (G.2 0, 40, .inl df)), (b5, .inl (G.2 1, 40, .inr (.inl pf))), (b6, .inl (G.2 1, 6, .inr (.inl gf)))]) hP [1, 2, 3, 10, 11, 12, 13, 14, 15, 16] rfl
      refine rdL (va_runV (C := RX1) (As := [.int p1]) (rest := []) ⟨hx, hb, hml, hown, hts⟩ (kX1_worldsOf l G s0 s1 s2 b0 b1 b2 b3 b4 b5 b6 dk wg op re kf ff sf df pf gf bn p1 h) (cwV 1 hts (gdV q405 q135 q136 q3 q137) rfl rfl rfl (by decide +kernel) ⟨Nat.le_of_ble_eq_true rfl, Nat.le_of_ble_eq_true rfl⟩) (preV hPc hKK (va_recv hK hPc (ci := 4) (q0 := 0) rfl rfl)) rfl rfl hl.1 rfl (lv_room (Nat.le_of_ble_eq_true rfl)) dX2_isTrue_33 ⟨Nat.zero_le _, Nat.zero_le _⟩) (fun r_3 h => ?_)
      refine lv_iload_n hx hb dX2_isTrue_36 rfl (lv_at hl 2 rfl) ?_
      have hPc := va_P.sub (ws' := []) hP [] rfl
      refine rdI (va_runS (As := [.long r_3, .int p2]) (rest := []) ⟨hx, hb, hml, hown, hts⟩ (kX2_has l G r_3 p2 h) (va_cwS 2 hts (gdS q222 q108 q1 q109) rfl rfl rfl (by decide +kernel) ⟨Nat.le_of_ble_eq_true rfl, Nat.le_of_ble_eq_true rfl⟩) (preS hPc hKK) rfl rfl hl.1 rfl (lv_room (Nat.le_of_ble_eq_true rfl)) dX2_isTrue_37 ⟨Nat.zero_le _, Nat.zero_le _⟩) (fun r_4 h => ?_)
      obtain ⟨hz, h⟩ := h
      refine vx_ret (W.widen (k := 1) (n := 6) (Nat.le_of_ble_eq_true rfl) (Nat.le_of_ble_eq_true rfl) ?_)
      subst hQC; exact W.zret (v := r_4) hx hb hr (vZn hz) (fun t ht hW => ⟨⟨_, (), rfl, h, by rw [ht]; exact hP, hD⟩, hS.F ht⟩) hS.2.2 dX2_isTrue_40
    · have h := h.2 hc
      obtain ⟨sa, hsa⟩ := hR.1 ("NightdeskRota", 181, "no such sentence or world") (List.mem_of_getElem? (i := 15) rfl)
      subst hXC
      exact vx_throwS (names := rtx) (text := "no such sentence or world") (sa := sa) hx hb hfl hown (by decide +kernel) (by decide +kernel) (hts _ q349) (hts _ q22) hsa (hatX hat87a hat87b hts hN hZ) hgd87 hZ.2.1 hZ.2.2 hS (hl.1.trans hml.symm) dX2_isTrue_18 dX2_isTrue_21 dX2_isTrue_22 dX2_isTrue_24 dX2_isTrue_27 (fun x hx => (hT x hx).elim) (Nat.le_of_ble_eq_true rfl) (Nat.le_of_ble_eq_true rfl) (Nat.le_of_ble_eq_true rfl) (Nat.le_of_ble_eq_true rfl) hlocks (fun t ht h1 h2 => ⟨(), trivial, ⟨keepAll hP h2, hD, h⟩, h1, fun q hq _ => h2 q hq⟩) hS.2.2 (Nat.le_refl _) (Nat.le_refl _)
def wnX2_isTrue (post : Int32 → Prop) (wg : Nat → Int64) (bn : Int32) (p1 : Int32) (p2 : Int32) : Prop :=
  wX0_holds (fun r_1 : Int32 =>
    ((r_1 = 0) →
      False
    ) ∧ (¬ (r_1 = 0) →
      wX2_isWorld (fun r_2 : Int32 =>
        ((¬ r_2 = 0) →
          wX1_worldsOf (fun r_3 : Int64 =>
            wX2_has (fun r_4 : Int32 =>
              vZ r_4 ∧
              post r_4
              ) r_3 p2
            ) wg bn p1
        ) ∧ ((r_2 = 0) →
          False
        )
        ) p2
    )
    ) bn p1
abbrev wl_nX2_isTrue : List Cond := .code yX2_isTrue cX2_isTrue 3 (some .boolean) :: lwg
abbrev rm_nX2_isTrue : Room := { frames := 2, cells := 0, slots := 0, locals := 42 }
set_option maxHeartbeats 4000000 in
set_option maxRecDepth 100000 in
theorem knX2_isTrue {post : Int32 → Prop} (l : Launch) (G : GT) (x0 : Nat) (s0 : Nat) (s1 : Nat) (s2 : Nat) (u0 : Nat) (u1 : Nat) (u2 : Nat) (v0 : Nat) (v1 : Nat) (v2 : Nat) (b0 : Nat) (b1 : Nat) (b2 : Nat) (b3 : Nat) (b4 : Nat) (b5 : Nat) (b6 : Nat) (tA : Int32) (wP : Int32) (nT : Int32) (aK : Int32) (lK : Int32) (sW : Int32) (rF : Int32) (dk : Nat → Int64) (wg : Nat → Int64) (op : Int64) (re : Int32) (uk : Nat → Int64) (uw : Nat → Int64) (uo : Int64) (ur : Int32) (vk : Nat → Int64) (vw : Nat → Int64) (vo : Int64) (vr : Int32) (kf : Nat → Int32) (ff : Nat → Int32) (sf : Nat → Int32) (df : Nat → Int32) (pf : Nat → Int64) (gf : Nat → Int64) (bn : Int32) (p1 : Int32) (p2 : Int32) (h : wnX2_isTrue post wg bn p1 p2) : Met l yX2_isTrue wl_nX2_isTrue rm_nX2_isTrue (va_Pc [.ref x0, .int p1, .int p2] (fun U => PP G [(x0, .inr (5, [.ref b0, .ref s0, .ref u0, .ref v0, .int tA, .int wP, .int nT, .int aK, .int lK, .int sW, .int rF])), (s0, .inr (4, [.ref b0, .ref s1, .ref s2, .long op, .int re])), (s1, .inl (G.2 1, 384, .inr (.inl dk))), (s2, .inl (G.2 1, 40, .inr (.inl wg))), (u0, .inr (4, [.ref b0, .ref u1, .ref u2, .long uo, .int ur])), (u1, .inl (G.2 1, 384, .inr (.inl uk))), (u2, .inl (G.2 1, 40, .inr (.inl uw))), (v0, .inr (4, [.ref b0, .ref v1, .ref v2, .long vo, .int vr])), (v1, .inl (G.2 1, 384, .inr (.inl vk))), (v2, .inl (G.2 1, 40, .inr (.inl vw))), (b0, .inr (3, [.ref b1, .ref b2, .ref b3, .ref b4, .ref b5, .ref b6, .int bn])), (b1, .inl (G.2 0, 40, .inl kf)), (b2, .inl (G.2 0, 40, .inl ff)), (b3, .inl (G.2 0, 40, .inl sf)), (b4, .inl (G.2 0, 40, .inl df)), (b5, .inl (G.2 1, 40, .inr (.inl pf))), (b6, .inl (G.2 1, 6, .inr (.inl gf)))] U.heap ∧ KK G U)) (vp_Si post) 0 0 (fun _ => False) := by
  refine Met.ofW (cc := cX2_isTrue) (maxL := 3) (ret := (some .boolean)) (by decide) rfl ?_
  intro p e s m args below meth c s₁ B hml hv
  obtain ⟨rfl, hP, hKK⟩ := hv
  obtain ⟨hK, hN, hR, hFW, hNC⟩ := id hKK
  have hx := B.exec
  have hb := B.bytes
  have hr := B.returns
  have hts0 := atoms_spec (ws := wl_nX2_isTrue) B.pre
  have hts : ∀ w ∈ lwg, w.before ([.ref x0, .int p1, .int p2] : List Value).toArray s = true := fun w hw => hts0 w (List.mem_cons_of_mem _ hw)
  have hown : s.vm.findClass RX2 = some m.cls := findClass_of_methodNamed B.named
  have hlocks := B.notSynchronized
  have hP : PP G [(x0, .inr (5, [.ref b0, .ref s0, .ref u0, .ref v0, .int tA, .int wP, .int nT, .int aK, .int lK, .int sW, .int rF])), (s0, .inr (4, [.ref b0, .ref s1, .ref s2, .long op, .int re])), (s1, .inl (G.2 1, 384, .inr (.inl dk))), (s2, .inl (G.2 1, 40, .inr (.inl wg))), (u0, .inr (4, [.ref b0, .ref u1, .ref u2, .long uo, .int ur])), (u1, .inl (G.2 1, 384, .inr (.inl uk))), (u2, .inl (G.2 1, 40, .inr (.inl uw))), (v0, .inr (4, [.ref b0, .ref v1, .ref v2, .long vo, .int vr])), (v1, .inl (G.2 1, 384, .inr (.inl vk))), (v2, .inl (G.2 1, 40, .inr (.inl vw))), (b0, .inr (3, [.ref b1, .ref b2, .ref b3, .ref b4, .ref b5, .ref b6, .int bn])), (b1, .inl (G.2 0, 40, .inl kf)), (b2, .inl (G.2 0, 40, .inl ff)), (b3, .inl (G.2 0, 40, .inl sf)), (b4, .inl (G.2 0, 40, .inl df)), (b5, .inl (G.2 1, 40, .inr (.inl pf))), (b6, .inl (G.2 1, 6, .inr (.inl gf)))] s.heap := hP
  have hl := lv_entry ([.ref x0, .int p1, .int p2]) (n := 3) (Nat.le_of_ble_eq_true rfl)
  rw [lg_entry_eq]
  generalize (lg_sl ([.ref x0, .int p1, .int p2]) ++ List.replicate (3 - (lg_sl ([.ref x0, .int p1, .int p2])).length) Slot.unset).toArray = ls at hl ⊢
  have hl : lv_has ls 3 [(0, .ref x0), (1, .int p1), (2, .int p2)] := hl
  refine lv_aload_n hx hb dX2_isTrue_0 rfl (lv_at hl 0 rfl) ?_
  refine va_get (D := G.1) (ci := 5) (v := .ref b0) (C := RX2) (T := TX2) (N := 11) hx hb hts igX2 hown hK hP 0 rfl rfl 0 (by decide) (hts _ q176) (fun _ h9 => h9) rfl dX2_isTrue_1 ?_
  refine lv_iload_n hx hb dX2_isTrue_4 rfl (lv_at hl 1 rfl) ?_
  have hPc := va_P.sub (ws' := [(b0, .inr (3, [.ref b1, .ref b2, .ref b3, .ref b4, .ref b5, .ref b6, .int bn])), (b1, .inl (G.2 0, 40, .inl kf)), (b2, .inl (G.2 0, 40, .inl ff)), (b3, .inl (G.2 0, 40, .inl sf)), (b4, .inl (G.2 0, 40, .inl df)), (b5, .inl (G.2 1, 40, .inr (.inl pf))), (b6, .inl (G.2 1, 6, .inr (.inl gf)))]) hP [10, 11, 12, 13, 14, 15, 16] rfl
  refine rdI (va_runV (C := RX0) (As := [.int p1]) (rest := []) ⟨hx, hb, hml, hown, hts⟩ (kX0_holds l G b0 b1 b2 b3 b4 b5 b6 kf ff sf df pf gf bn p1 h) (cwV 1 hts (gdV q403 q115 q116 q2 q117) rfl rfl rfl (by decide +kernel) ⟨Nat.le_of_ble_eq_true rfl, Nat.le_of_ble_eq_true rfl⟩) (preV hPc hKK (va_recv hK hPc (ci := 3) (q0 := 0) rfl rfl)) rfl rfl hl.1 rfl (lv_room (Nat.le_of_ble_eq_true rfl)) dX2_isTrue_5 ⟨Nat.zero_le _, Nat.zero_le _⟩) (fun r_1 h => ?_)
  refine lv_if_eq (tgt := 18) hx hb dX2_isTrue_8 (by decide) (fun hc => ?_) (fun hc => ?_)
  · have h := h.1 hc
    exact False.elim h
  · have h := h.2 hc
    refine lv_iload_n hx hb dX2_isTrue_11 rfl (lv_at hl 2 rfl) ?_
    have hPc := va_P.sub (ws' := []) hP [] rfl
    refine rdI (va_runS (As := [.int p2]) (rest := []) ⟨hx, hb, hml, hown, hts⟩ (kX2_isWorld l G p2 h) (va_cwS 1 hts (gdS q391 q392 q1 q393) rfl rfl rfl (by decide +kernel) ⟨Nat.le_of_ble_eq_true rfl, Nat.le_of_ble_eq_true rfl⟩) (preS hPc hKK) rfl rfl hl.1 rfl (lv_room (Nat.le_of_ble_eq_true rfl)) dX2_isTrue_12 ⟨Nat.zero_le _, Nat.zero_le _⟩) (fun r_2 h => ?_)
    refine lv_if_ne (tgt := 28) hx hb dX2_isTrue_15 (by decide) (fun hc => ?_) (fun hc => ?_)
    · have h := h.1 hc
      refine lv_aload_n hx hb dX2_isTrue_28 rfl (lv_at hl 0 rfl) ?_
      refine va_get (D := G.1) (ci := 5) (v := .ref s0) (C := RX2) (T := TX2) (N := 11) hx hb hts igX2 hown hK hP 0 rfl rfl 1 (by decide) (hts _ q177) (fun _ h9 => h9) rfl dX2_isTrue_29 ?_
      refine lv_iload_n hx hb dX2_isTrue_32 rfl (lv_at hl 1 rfl) ?_
      have hPc := va_P.sub (ws' := [(s0, .inr (4, [.ref b0, .ref s1, .ref s2, .long op, .int re])), (s1, .inl (G.2 1, 384, .inr (.inl dk))), (s2, .inl (G.2 1, 40, .inr (.inl wg))), (b0, .inr (3, [.ref b1, .ref b2, .ref b3, .ref b4, .ref b5, .ref b6, .int bn])), (b1, .inl (G.2 0, 40, .inl kf)), (b2, .inl (G.2 0, 40, .inl ff)), (b3, .inl (G.2 0, 40, .inl sf)), (b4, .inl (G.2 0, 40, .inl df)), (b5, .inl (G.2 1, 40, .inr (.inl pf))), (b6, .inl (G.2 1, 6, .inr (.inl gf)))]) hP [1, 2, 3, 10, 11, 12, 13, 14, 15, 16] rfl
      refine rdL (va_runV (C := RX1) (As := [.int p1]) (rest := []) ⟨hx, hb, hml, hown, hts⟩ (kX1_worldsOf l G s0 s1 s2 b0 b1 b2 b3 b4 b5 b6 dk wg op re kf ff sf df pf gf bn p1 h) (cwV 1 hts (gdV q405 q135 q136 q3 q137) rfl rfl rfl (by decide +kernel) ⟨Nat.le_of_ble_eq_true rfl, Nat.le_of_ble_eq_true rfl⟩) (preV hPc hKK (va_recv hK hPc (ci := 4) (q0 := 0) rfl rfl)) rfl rfl hl.1 rfl (lv_room (Nat.le_of_ble_eq_true rfl)) dX2_isTrue_33 ⟨Nat.zero_le _, Nat.zero_le _⟩) (fun r_3 h => ?_)
      refine lv_iload_n hx hb dX2_isTrue_36 rfl (lv_at hl 2 rfl) ?_
      have hPc := va_P.sub (ws' := []) hP [] rfl
      refine rdI (va_runS (As := [.long r_3, .int p2]) (rest := []) ⟨hx, hb, hml, hown, hts⟩ (kX2_has l G r_3 p2 h) (va_cwS 2 hts (gdS q222 q108 q1 q109) rfl rfl rfl (by decide +kernel) ⟨Nat.le_of_ble_eq_true rfl, Nat.le_of_ble_eq_true rfl⟩) (preS hPc hKK) rfl rfl hl.1 rfl (lv_room (Nat.le_of_ble_eq_true rfl)) dX2_isTrue_37 ⟨Nat.zero_le _, Nat.zero_le _⟩) (fun r_4 h => ?_)
      obtain ⟨hz, h⟩ := h
      exact W.zret (v := r_4) hx hb hr (vZn hz) (fun t ht _ => ⟨_, rfl, h, ht⟩) (fun _ hq => absurd hq List.not_mem_nil) dX2_isTrue_40
    · have h := h.2 hc
      exact False.elim h
theorem dX2_truth_0 : decode cX2_truth 0 = .ok (.aload_n 0, 1) := by decide +kernel
theorem dX2_truth_1 : decode cX2_truth 1 = .ok (.getfield 10, 3) := by decide +kernel
theorem dX2_truth_4 : decode cX2_truth 4 = .ok (.iload_n 1, 1) := by decide +kernel
theorem dX2_truth_5 : decode cX2_truth 5 = .ok (.invokevirtual 116, 3) := by decide +kernel
theorem dX2_truth_8 : decode cX2_truth 8 = .ok (.ifCond .ne 13, 3) := by decide +kernel
theorem dX2_truth_11 : decode cX2_truth 11 = .ok (.new 83, 3) := by decide +kernel
theorem dX2_truth_14 : decode cX2_truth 14 = .ok (.dup, 1) := by decide +kernel
theorem dX2_truth_15 : decode cX2_truth 15 = .ok (.ldc 119, 2) := by decide +kernel
theorem dX2_truth_17 : decode cX2_truth 17 = .ok (.invokespecial 87, 3) := by decide +kernel
theorem dX2_truth_20 : decode cX2_truth 20 = .ok (.athrow, 1) := by decide +kernel
theorem dX2_truth_21 : decode cX2_truth 21 = .ok (.aload_n 0, 1) := by decide +kernel
theorem dX2_truth_22 : decode cX2_truth 22 = .ok (.getfield 21, 3) := by decide +kernel
theorem dX2_truth_25 : decode cX2_truth 25 = .ok (.iload_n 1, 1) := by decide +kernel
theorem dX2_truth_26 : decode cX2_truth 26 = .ok (.invokevirtual 129, 3) := by decide +kernel
theorem dX2_truth_29 : decode cX2_truth 29 = .ok (.lreturn, 1) := by decide +kernel
def wxX2_truth (post : Int64 → Unit → Prop) (postx : String → Prop) (wg : Nat → Int64) (bn : Int32) (p1 : Int32) : Prop :=
  wX0_holds (fun r_1 : Int32 =>
    ((¬ r_1 = 0) →
      wX1_worldsOf (fun r_2 : Int64 =>
        post r_2 ()
        ) wg bn p1
    ) ∧ ((r_1 = 0) →
      postx "java/lang/IndexOutOfBoundsException"
    )
    ) bn p1
abbrev wl_xX2_truth : List Cond := .code yX2_truth cX2_truth 2 (some .long) :: lwg
abbrev rm_xX2_truth : Room := { frames := 6, cells := 1, slots := 6, locals := 98 }
set_option maxHeartbeats 4000000 in
set_option maxRecDepth 100000 in
theorem kxX2_truth {post : Int64 → Unit → Prop} {postx : String → Prop} (l : Launch) (hfl : l.stackTraces = false) (G : GT) (x0 : Nat) (s0 : Nat) (s1 : Nat) (s2 : Nat) (u0 : Nat) (u1 : Nat) (u2 : Nat) (v0 : Nat) (v1 : Nat) (v2 : Nat) (b0 : Nat) (b1 : Nat) (b2 : Nat) (b3 : Nat) (b4 : Nat) (b5 : Nat) (b6 : Nat) (tA : Int32) (wP : Int32) (nT : Int32) (aK : Int32) (lK : Int32) (sW : Int32) (rF : Int32) (dk : Nat → Int64) (wg : Nat → Int64) (op : Int64) (re : Int32) (uk : Nat → Int64) (uw : Nat → Int64) (uo : Int64) (ur : Int32) (vk : Nat → Int64) (vw : Nat → Int64) (vo : Int64) (vr : Int32) (kf : Nat → Int32) (ff : Nat → Int32) (sf : Nat → Int32) (df : Nat → Int32) (pf : Nat → Int64) (gf : Nat → Int64) (bn : Int32) (p1 : Int32) (sz : Nat) (h : wxX2_truth post postx wg bn p1) : vx_Met l yX2_truth wl_xX2_truth rm_xX2_truth (va_Pc [.ref x0, .int p1] (fun U => U.heap.size = sz ∧ PP G [(x0, .inr (5, [.ref b0, .ref s0, .ref u0, .ref v0, .int tA, .int wP, .int nT, .int aK, .int lK, .int sW, .int rF])), (s0, .inr (4, [.ref b0, .ref s1, .ref s2, .long op, .int re])), (s1, .inl (G.2 1, 384, .inr (.inl dk))), (s2, .inl (G.2 1, 40, .inr (.inl wg))), (u0, .inr (4, [.ref b0, .ref u1, .ref u2, .long uo, .int ur])), (u1, .inl (G.2 1, 384, .inr (.inl uk))), (u2, .inl (G.2 1, 40, .inr (.inl uw))), (v0, .inr (4, [.ref b0, .ref v1, .ref v2, .long vo, .int vr])), (v1, .inl (G.2 1, 384, .inr (.inl vk))), (v2, .inl (G.2 1, 40, .inr (.inl vw))), (b0, .inr (3, [.ref b1, .ref b2, .ref b3, .ref b4, .ref b5, .ref b6, .int bn])), (b1, .inl (G.2 0, 40, .inl kf)), (b2, .inl (G.2 0, 40, .inl ff)), (b3, .inl (G.2 0, 40, .inl sf)), (b4, .inl (G.2 0, 40, .inl df)), (b5, .inl (G.2 1, 40, .inr (.inl pf))), (b6, .inl (G.2 1, 6, .inr (.inl gf)))] U.heap ∧ KK G U ∧ va_D (fun _ => True) [(x0, .inr (5, [.ref b0, .ref s0, .ref u0, .ref v0, .int tA, .int wP, .int nT, .int aK, .int lK, .int sW, .int rF])), (s0, .inr (4, [.ref b0, .ref s1, .ref s2, .long op, .int re])), (s1, .inl (G.2 1, 384, .inr (.inl dk))), (s2, .inl (G.2 1, 40, .inr (.inl wg))), (u0, .inr (4, [.ref b0, .ref u1, .ref u2, .long uo, .int ur])), (u1, .inl (G.2 1, 384, .inr (.inl uk))), (u2, .inl (G.2 1, 40, .inr (.inl uw))), (v0, .inr (4, [.ref b0, .ref v1, .ref v2, .long vo, .int vr])), (v1, .inl (G.2 1, 384, .inr (.inl vk))), (v2, .inl (G.2 1, 40, .inr (.inl vw))), (b0, .inr (3, [.ref b1, .ref b2, .ref b3, .ref b4, .ref b5, .ref b6, .int bn])), (b1, .inl (G.2 0, 40, .inl kf)), (b2, .inl (G.2 0, 40, .inl ff)), (b3, .inl (G.2 0, 40, .inl sf)), (b4, .inl (G.2 0, 40, .inl df)), (b5, .inl (G.2 1, 40, .inr (.inl pf))), (b6, .inl (G.2 1, 6, .inr (.inl gf)))] ∧ ZZ (va_A [(x0, .inr (5, [.ref b0, .ref s0, .ref u0, .ref v0, .int tA, .int wP, .int nT, .int aK, .int lK, .int sW, .int rF])), (s0, .inr (4, [.ref b0, .ref s1, .ref s2, .long op, .int re])), (s1, .inl (G.2 1, 384, .inr (.inl dk))), (s2, .inl (G.2 1, 40, .inr (.inl wg))), (u0, .inr (4, [.ref b0, .ref u1, .ref u2, .long uo, .int ur])), (u1, .inl (G.2 1, 384, .inr (.inl uk))), (u2, .inl (G.2 1, 40, .inr (.inl uw))), (v0, .inr (4, [.ref b0, .ref v1, .ref v2, .long vo, .int vr])), (v1, .inl (G.2 1, 384, .inr (.inl vk))), (v2, .inl (G.2 1, 40, .inr (.inl vw))), (b0, .inr (3, [.ref b1, .ref b2, .ref b3, .ref b4, .ref b5, .ref b6, .int bn])), (b1, .inl (G.2 0, 40, .inl kf)), (b2, .inl (G.2 0, 40, .inl ff)), (b3, .inl (G.2 0, 40, .inl sf)), (b4, .inl (G.2 0, 40, .inl df)), (b5, .inl (G.2 1, 40, .inr (.inl pf))), (b6, .inl (G.2 1, 6, .inr (.inl gf)))] sz) U U.heap)) (va_Ql post (fun u t => PP G [(x0, .inr (5, [.ref b0, .ref s0, .ref u0, .ref v0, .int tA, .int wP, .int nT, .int aK, .int lK, .int sW, .int rF])), (s0, .inr (4, [.ref b0, .ref s1, .ref s2, .long op, .int re])), (s1, .inl (G.2 1, 384, .inr (.inl dk))), (s2, .inl (G.2 1, 40, .inr (.inl wg))), (u0, .inr (4, [.ref b0, .ref u1, .ref u2, .long uo, .int ur])), (u1, .inl (G.2 1, 384, .inr (.inl uk))), (u2, .inl (G.2 1, 40, .inr (.inl uw))), (v0, .inr (4, [.ref b0, .ref v1, .ref v2, .long vo, .int vr])), (v1, .inl (G.2 1, 384, .inr (.inl vk))), (v2, .inl (G.2 1, 40, .inr (.inl vw))), (b0, .inr (3, [.ref b1, .ref b2, .ref b3, .ref b4, .ref b5, .ref b6, .int bn])), (b1, .inl (G.2 0, 40, .inl kf)), (b2, .inl (G.2 0, 40, .inl ff)), (b3, .inl (G.2 0, 40, .inl sf)), (b4, .inl (G.2 0, 40, .inl df)), (b5, .inl (G.2 1, 40, .inr (.inl pf))), (b6, .inl (G.2 1, 6, .inr (.inl gf)))] t.heap ∧ va_D (va_A [(x0, .inr (5, [.ref b0, .ref s0, .ref u0, .ref v0, .int tA, .int wP, .int nT, .int aK, .int lK, .int sW, .int rF])), (s0, .inr (4, [.ref b0, .ref s1, .ref s2, .long op, .int re])), (s1, .inl (G.2 1, 384, .inr (.inl dk))), (s2, .inl (G.2 1, 40, .inr (.inl wg))), (u0, .inr (4, [.ref b0, .ref u1, .ref u2, .long uo, .int ur])), (u1, .inl (G.2 1, 384, .inr (.inl uk))), (u2, .inl (G.2 1, 40, .inr (.inl uw))), (v0, .inr (4, [.ref b0, .ref v1, .ref v2, .long vo, .int vr])), (v1, .inl (G.2 1, 384, .inr (.inl vk))), (v2, .inl (G.2 1, 40, .inr (.inl vw))), (b0, .inr (3, [.ref b1, .ref b2, .ref b3, .ref b4, .ref b5, .ref b6, .int bn])), (b1, .inl (G.2 0, 40, .inl kf)), (b2, .inl (G.2 0, 40, .inl ff)), (b3, .inl (G.2 0, 40, .inl sf)), (b4, .inl (G.2 0, 40, .inl df)), (b5, .inl (G.2 1, 40, .inr (.inl pf))), (b6, .inl (G.2 1, 6, .inr (.inl gf)))] sz) [(x0, .inr (5, [.ref b0, .ref s0, .ref u0, .ref v0, .int tA, .int wP, .int nT, .int aK, .int lK, .int sW, .int rF])), (s0, .inr (4, [.ref b0, .ref s1, .ref s2, .long op, .int re])), (s1, .inl (G.2 1, 384, .inr (.inl dk))), (s2, .inl (G.2 1, 40, .inr (.inl wg))), (u0, .inr (4, [.ref b0, .ref u1, .ref u2, .long uo, .int ur])), (u1, .inl (G.2 1, 384, .inr (.inl uk))), (u2, .inl (G.2 1, 40, .inr (.inl uw))), (v0, .inr (4, [.ref b0, .ref v1, .ref v2, .long vo, .int vr])), (v1, .inl (G.2 1, 384, .inr (.inl vk))), (v2, .inl (G.2 1, 40, .inr (.inl vw))), (b0, .inr (3, [.ref b1, .ref b2, .ref b3, .ref b4, .ref b5, .ref b6, .int bn])), (b1, .inl (G.2 0, 40, .inl kf)), (b2, .inl (G.2 0, 40, .inl ff)), (b3, .inl (G.2 0, 40, .inl sf)), (b4, .inl (G.2 0, 40, .inl df)), (b5, .inl (G.2 1, 40, .inr (.inl pf))), (b6, .inl (G.2 1, 6, .inr (.inl gf)))]) (va_A [(x0, .inr (5, [.ref b0, .ref s0, .ref u0, .ref v0, .int tA, .int wP, .int nT, .int aK, .int lK, .int sW, .int rF])), (s0, .inr (4, [.ref b0, .ref s1, .ref s2, .long op, .int re])), (s1, .inl (G.2 1, 384, .inr (.inl dk))), (s2, .inl (G.2 1, 40, .inr (.inl wg))), (u0, .inr (4, [.ref b0, .ref u1, .ref u2, .long uo, .int ur])), (u1, .inl (G.2 1, 384, .inr (.inl uk))), (u2, .inl (G.2 1, 40, .inr (.inl uw))), (v0, .inr (4, [.ref b0, .ref v1, .ref v2, .long vo, .int vr])), (v1, .inl (G.2 1, 384, .inr (.inl vk))), (v2, .inl (G.2 1, 40, .inr (.inl vw))), (b0, .inr (3, [.ref b1, .ref b2, .ref b3, .ref b4, .ref b5, .ref b6, .int bn])), (b1, .inl (G.2 0, 40, .inl kf)), (b2, .inl (G.2 0, 40, .inl ff)), (b3, .inl (G.2 0, 40, .inl sf)), (b4, .inl (G.2 0, 40, .inl df)), (b5, .inl (G.2 1, 40, .inr (.inl pf))), (b6, .inl (G.2 1, 6, .inr (.inl gf)))] sz)) (vx_X (fun _ : Unit => True) (fun E _ t => PP G [(x0, .inr (5, [.ref b0, .ref s0, .ref u0, .ref v0, .int tA, .int wP, .int nT, .int aK, .int lK, .int sW, .int rF])), (s0, .inr (4, [.ref b0, .ref s1, .ref s2, .long op, .int re])), (s1, .inl (G.2 1, 384, .inr (.inl dk))), (s2, .inl (G.2 1, 40, .inr (.inl wg))), (u0, .inr (4, [.ref b0, .ref u1, .ref u2, .long uo, .int ur])), (u1, .inl (G.2 1, 384, .inr (.inl uk))), (u2, .inl (G.2 1, 40, .inr (.inl uw))), (v0, .inr (4, [.ref b0, .ref v1, .ref v2, .long vo, .int vr])), (v1, .inl (G.2 1, 384, .inr (.inl vk))), (v2, .inl (G.2 1, 40, .inr (.inl vw))), (b0, .inr (3, [.ref b1, .ref b2, .ref b3, .ref b4, .ref b5, .ref b6, .int bn])), (b1, .inl (G.2 0, 40, .inl kf)), (b2, .inl (G.2 0, 40, .inl ff)), (b3, .inl (G.2 0, 40, .inl sf)), (b4, .inl (G.2 0, 40, .inl df)), (b5, .inl (G.2 1, 40, .inr (.inl pf))), (b6, .inl (G.2 1, 6, .inr (.inl gf)))] t.heap ∧ va_D (va_A [(x0, .inr (5, [.ref b0, .ref s0, .ref u0, .ref v0, .int tA, .int wP, .int nT, .int aK, .int lK, .int sW, .int rF])), (s0, .inr (4, [.ref b0, .ref s1, .ref s2, .long op, .int re])), (s1, .inl (G.2 1, 384, .inr (.inl dk))), (s2, .inl (G.2 1, 40, .inr (.inl wg))), (u0, .inr (4, [.ref b0, .ref u1, .ref u2, .long uo, .int ur])), (u1, .inl (G.2 1, 384, .inr (.inl uk))), (u2, .inl (G.2 1, 40, .inr (.inl uw))), (v0, .inr (4, [.ref b0, .ref v1, .ref v2, .long vo, .int vr])), (v1, .inl (G.2 1, 384, .inr (.inl vk))), (v2, .inl (G.2 1, 40, .inr (.inl vw))), (b0, .inr (3, [.ref b1, .ref b2, .ref b3, .ref b4, .ref b5, .ref b6, .int bn])), (b1, .inl (G.2 0, 40, .inl kf)), (b2, .inl (G.2 0, 40, .inl ff)), (b3, .inl (G.2 0, 40, .inl sf)), (b4, .inl (G.2 0, 40, .inl df)), (b5, .inl (G.2 1, 40, .inr (.inl pf))), (b6, .inl (G.2 1, 6, .inr (.inl gf)))] sz) [(x0, .inr (5, [.ref b0, .ref s0, .ref u0, .ref v0, .int tA, .int wP, .int nT, .int aK, .int lK, .int sW, .int rF])), (s0, .inr (4, [.ref b0, .ref s1, .ref s2, .long op, .int re])), (s1, .inl (G.2 1, 384, .inr (.inl dk))), (s2, .inl (G.2 1, 40, .inr (.inl wg))), (u0, .inr (4, [.ref b0, .ref u1, .ref u2, .long uo, .int ur])), (u1, .inl (G.2 1, 384, .inr (.inl uk))), (u2, .inl (G.2 1, 40, .inr (.inl uw))), (v0, .inr (4, [.ref b0, .ref v1, .ref v2, .long vo, .int vr])), (v1, .inl (G.2 1, 384, .inr (.inl vk))), (v2, .inl (G.2 1, 40, .inr (.inl vw))), (b0, .inr (3, [.ref b1, .ref b2, .ref b3, .ref b4, .ref b5, .ref b6, .int bn])), (b1, .inl (G.2 0, 40, .inl kf)), (b2, .inl (G.2 0, 40, .inl ff)), (b3, .inl (G.2 0, 40, .inl sf)), (b4, .inl (G.2 0, 40, .inl df)), (b5, .inl (G.2 1, 40, .inr (.inl pf))), (b6, .inl (G.2 1, 6, .inr (.inl gf)))] ∧ postx E) (va_A [(x0, .inr (5, [.ref b0, .ref s0, .ref u0, .ref v0, .int tA, .int wP, .int nT, .int aK, .int lK, .int sW, .int rF])), (s0, .inr (4, [.ref b0, .ref s1, .ref s2, .long op, .int re])), (s1, .inl (G.2 1, 384, .inr (.inl dk))), (s2, .inl (G.2 1, 40, .inr (.inl wg))), (u0, .inr (4, [.ref b0, .ref u1, .ref u2, .long uo, .int ur])), (u1, .inl (G.2 1, 384, .inr (.inl uk))), (u2, .inl (G.2 1, 40, .inr (.inl uw))), (v0, .inr (4, [.ref b0, .ref v1, .ref v2, .long vo, .int vr])), (v1, .inl (G.2 1, 384, .inr (.inl vk))), (v2, .inl (G.2 1, 40, .inr (.inl vw))), (b0, .inr (3, [.ref b1, .ref b2, .ref b3, .ref b4, .ref b5, .ref b6, .int bn])), (b1, .inl (G.2 0, 40, .inl kf)), (b2, .inl (G.2 0, 40, .inl ff)), (b3, .inl (G.2 0, 40, .inl sf)), (b4, .inl (G.2 0, 40, .inl df)), (b5, .inl (G.2 1, 40, .inr (.inl pf))), (b6, .inl (G.2 1, 6, .inr (.inl gf)))] sz)) 1 6 (va_A [(x0, .inr (5, [.ref b0, .ref s0, .ref u0, .ref v0, .int tA, .int wP, .int nT, .int aK, .int lK, .int sW, .int rF])), (s0, .inr (4, [.ref b0, .ref s1, .ref s2, .long op, .int re])), (s1, .inl (G.2 1, 384, .inr (.inl dk))), (s2, .inl (G.2 1, 40, .inr (.inl wg))), (u0, .inr (4, [.ref b0, .ref u1, .ref u2, .long uo, .int ur])), (u1, .inl (G.2 1, 384, .inr (.inl uk))), (u2, .inl (G.2 1, 40, .inr (.inl uw))), (v0, .inr (4, [.ref b0, .ref v1, .ref v2, .long vo, .int vr])), (v1, .inl (G.2 1, 384, .inr (.inl vk))), (v2, .inl (G.2 1, 40, .inr (.inl vw))), (b0, .inr (3, [.ref b1, .ref b2, .ref b3, .ref b4, .ref b5, .ref b6, .int bn])), (b1, .inl (G.2 0, 40, .inl kf)), (b2, .inl (G.2 0, 40, .inl ff)), (b3, .inl (G.2 0, 40, .inl sf)), (b4, .inl (G.2 0, 40, .inl df)), (b5, .inl (G.2 1, 40, .inr (.inl pf))), (b6, .inl (G.2 1, 6, .inr (.inl gf)))] sz) := by
  refine vx_ofW (cc := cX2_truth) (maxL := 2) (ret := (some .long)) (by decide) rfl ?_
  intro p e s m args below meth c s₁ B hml hT hv
  obtain ⟨rfl, hsz, hP, hKK, hD0, hZ⟩ := hv
  obtain ⟨hK, hN, hR, hFW, hNC⟩ := id hKK
  have hx := B.exec
  have hb := B.bytes
  have hr := B.returns
  have hts0 := atoms_spec (ws := wl_xX2_truth) B.pre
  have hts : ∀ w ∈ lwg, w.before ([.ref x0, .int p1] : List Value).toArray s = true := fun w hw => hts0 w (List.mem_cons_of_mem _ hw)
  have hown : s.vm.findClass RX2 = some m.cls := findClass_of_methodNamed B.named
  have hlocks := B.notSynchronized
  subst hsz
  have hD := hD0.self (sz := s.heap.size)
  generalize hAe : va_A [(x0, .inr (5, [.ref b0, .ref s0, .ref u0, .ref v0, .int tA, .int wP, .int nT, .int aK, .int lK, .int sW, .int rF])), (s0, .inr (4, [.ref b0, .ref s1, .ref s2, .long op, .int re])), (s1, .inl (G.2 1, 384, .inr (.inl dk))), (s2, .inl (G.2 1, 40, .inr (.inl wg))), (u0, .inr (4, [.ref b0, .ref u1, .ref u2, .long uo, .int ur])), (u1, .inl (G.2 1, 384, .inr (.inl uk))), (u2, .inl (G.2 1, 40, .inr (.inl uw))), (v0, .inr (4, [.ref b0, .ref v1, .ref v2, .long vo, .int vr])), (v1, .inl (G.2 1, 384, .inr (.inl vk))), (v2, .inl (G.2 1, 40, .inr (.inl vw))), (b0, .inr (3, [.ref b1, .ref b2, .ref b3, .ref b4, .ref b5, .ref b6, .int bn])), (b1, .inl (G.2 0, 40, .inl kf)), (b2, .inl (G.2 0, 40, .inl ff)), (b3, .inl (G.2 0, 40, .inl sf)), (b4, .inl (G.2 0, 40, .inl df)), (b5, .inl (G.2 1, 40, .inr (.inl pf))), (b6, .inl (G.2 1, 6, .inr (.inl gf)))] s.heap.size = A at hD hZ ⊢
  have hA : ∀ q : Nat, s.heap.size ≤ q → A q := fun q h => by rw [← hAe]; exact Or.inr h
  have hS : va_S A s.heap s.heap [] := va_S.rf
  obtain ⟨QC, hQC⟩ : ∃ Z, Z = (va_Ql post (fun u t => PP G [(x0, .inr (5, [.ref b0, .ref s0, .ref u0, .ref v0, .int tA, .int wP, .int nT, .int aK, .int lK, .int sW, .int rF])), (s0, .inr (4, [.ref b0, .ref s1, .ref s2, .long op, .int re])), (s1, .inl (G.2 1, 384, .inr (.inl dk))), (s2, .inl (G.2 1, 40, .inr (.inl wg))), (u0, .inr (4, [.ref b0, .ref u1, .ref u2, .long uo, .int ur])), (u1, .inl (G.2 1, 384, .inr (.inl uk))), (u2, .inl (G.2 1, 40, .inr (.inl uw))), (v0, .inr (4, [.ref b0, .ref v1, .ref v2, .long vo, .int vr])), (v1, .inl (G.2 1, 384, .inr (.inl vk))), (v2, .inl (G.2 1, 40, .inr (.inl vw))), (b0, .inr (3, [.ref b1, .ref b2, .ref b3, .ref b4, .ref b5, .ref b6, .int bn])), (b1, .inl (G.2 0, 40, .inl kf)), (b2, .inl (G.2 0, 40, .inl ff)), (b3, .inl (G.2 0, 40, .inl sf)), (b4, .inl (G.2 0, 40, .inl df)), (b5, .inl (G.2 1, 40, .inr (.inl pf))), (b6, .inl (G.2 1, 6, .inr (.inl gf)))] t.heap ∧ va_D A [(x0, .inr (5, [.ref b0, .ref s0, .ref u0, .ref v0, .int tA, .int wP, .int nT, .int aK, .int lK, .int sW, .int rF])), (s0, .inr (4, [.ref b0, .ref s1, .ref s2, .long op, .int re])), (s1, .inl (G.2 1, 384, .inr (.inl dk))), (s2, .inl (G.2 1, 40, .inr (.inl wg))), (u0, .inr (4, [.ref b0, .ref u1, .ref u2, .long uo, .int ur])), (u1, .inl (G.2 1, 384, .inr (.inl uk))), (u2, .inl (G.2 1, 40, .inr (.inl uw))), (v0, .inr (4, [.ref b0, .ref v1, .ref v2, .long vo, .int vr])), (v1, .inl (G.2 1, 384, .inr (.inl vk))), (v2, .inl (G.2 1, 40, .inr (.inl vw))), (b0, .inr (3, [.ref b1, .ref b2, .ref b3, .ref b4, .ref b5, .ref b6, .int bn])), (b1, .inl (G.2 0, 40, .inl kf)), (b2, .inl (G.2 0, 40, .inl ff)), (b3, .inl (G.2 0, 40, .inl sf)), (b4, .inl (G.2 0, 40, .inl df)), (b5, .inl (G.2 1, 40, .inr (.inl pf))), (b6, .inl (G.2 1, 6, .inr (.inl gf)))]) A) := ⟨_, rfl⟩
  rw [← hQC]
  obtain ⟨XC, hXC⟩ : ∃ Z, Z = (vx_X (fun _ : Unit => True) (fun E _ t => PP G [(x0, .inr (5, [.ref b0, .ref s0, .ref u0, .ref v0, .int tA, .int wP, .int nT, .int aK, .int lK, .int sW, .int rF])), (s0, .inr (4, [.ref b0, .ref s1, .ref s2, .long op, .int re])), (s1, .inl (G.2 1, 384, .inr (.inl dk))), (s2, .inl (G.2 1, 40, .inr (.inl wg))), (u0, .inr (4, [.ref b0, .ref u1, .ref u2, .long uo, .int ur])), (u1, .inl (G.2 1, 384, .inr (.inl uk))), (u2, .inl (G.2 1, 40, .inr (.inl uw))), (v0, .inr (4, [.ref b0, .ref v1, .ref v2, .long vo, .int vr])), (v1, .inl (G.2 1, 384, .inr (.inl vk))), (v2, .inl (G.2 1, 40, .inr (.inl vw))), (b0, .inr (3, [.ref b1, .ref b2, .ref b3, .ref b4, .ref b5, .ref b6, .int bn])), (b1, .inl (G.2 0, 40, .inl kf)), (b2, .inl (G.2 0, 40, .inl ff)), (b3, .inl (G.2 0, 40, .inl sf)), (b4, .inl (G.2 0, 40, .inl df)), (b5, .inl (G.2 1, 40, .inr (.inl pf))), (b6, .inl (G.2 1, 6, .inr (.inl gf)))] t.heap ∧ va_D A [(x0, .inr (5, [.ref b0, .ref s0, .ref u0, .ref v0, .int tA, .int wP, .int nT, .int aK, .int lK, .int sW, .int rF])), (s0, .inr (4, [.ref b0, .ref s1, .ref s2, .long op, .int re])), (s1, .inl (G.2 1, 384, .inr (.inl dk))), (s2, .inl (G.2 1, 40, .inr (.inl wg))), (u0, .inr (4, [.ref b0, .ref u1, .ref u2, .long uo, .int ur])), (u1, .inl (G.2 1, 384, .inr (.inl uk))), (u2, .inl (G.2 1, 40, .inr (.inl uw))), (v0, .inr (4, [.ref b0, .ref v1, .ref v2, .long vo, .int vr])), (v1, .inl (G.2 1, 384, .inr (.inl vk))), (v2, .inl (G.2 1, 40, .inr (.inl vw))), (b0, .inr (3, [.ref b1, .ref b2, .ref b3, .ref b4, .ref b5, .ref b6, .int bn])), (b1, .inl (G.2 0, 40, .inl kf)), (b2, .inl (G.2 0, 40, .inl ff)), (b3, .inl (G.2 0, 40, .inl sf)), (b4, .inl (G.2 0, 40, .inl df)), (b5, .inl (G.2 1, 40, .inr (.inl pf))), (b6, .inl (G.2 1, 6, .inr (.inl gf)))] ∧ postx E) A) := ⟨_, rfl⟩
  rw [← hXC]
  obtain ⟨⟨zt, hZ1, hT1⟩, hZ2⟩ := id hZ
  have hP : PP G [(x0, .inr (5, [.ref b0, .ref s0, .ref u0, .ref v0, .int tA, .int wP, .int nT, .int aK, .int lK, .int sW, .int rF])), (s0, .inr (4, [.ref b0, .ref s1, .ref s2, .long op, .int re])), (s1, .inl (G.2 1, 384, .inr (.inl dk))), (s2, .inl (G.2 1, 40, .inr (.inl wg))), (u0, .inr (4, [.ref b0, .ref u1, .ref u2, .long uo, .int ur])), (u1, .inl (G.2 1, 384, .inr (.inl uk))), (u2, .inl (G.2 1, 40, .inr (.inl uw))), (v0, .inr (4, [.ref b0, .ref v1, .ref v2, .long vo, .int vr])), (v1, .inl (G.2 1, 384, .inr (.inl vk))), (v2, .inl (G.2 1, 40, .inr (.inl vw))), (b0, .inr (3, [.ref b1, .ref b2, .ref b3, .ref b4, .ref b5, .ref b6, .int bn])), (b1, .inl (G.2 0, 40, .inl kf)), (b2, .inl (G.2 0, 40, .inl ff)), (b3, .inl (G.2 0, 40, .inl sf)), (b4, .inl (G.2 0, 40, .inl df)), (b5, .inl (G.2 1, 40, .inr (.inl pf))), (b6, .inl (G.2 1, 6, .inr (.inl gf)))] s.heap := hP
  have hl := lv_entry ([.ref x0, .int p1]) (n := 2) (Nat.le_of_ble_eq_true rfl)
  rw [lg_entry_eq]
  generalize (lg_sl ([.ref x0, .int p1]) ++ List.replicate (2 - (lg_sl ([.ref x0, .int p1])).length) Slot.unset).toArray = ls at hl ⊢
  have hl : lv_has ls 2 [(0, .ref x0), (1, .int p1)] := hl
  refine lv_aload_n hx hb dX2_truth_0 rfl (lv_at hl 0 rfl) ?_
  refine va_get (D := G.1) (ci := 5) (v := .ref b0) (C := RX2) (T := TX2) (N := 11) hx hb hts igX2 hown hK hP 0 rfl rfl 0 (by decide) (hts _ q176) (fun _ h9 => h9) rfl dX2_truth_1 ?_
  refine lv_iload_n hx hb dX2_truth_4 rfl (lv_at hl 1 rfl) ?_
  have hPc := va_P.sub (ws' := [(b0, .inr (3, [.ref b1, .ref b2, .ref b3, .ref b4, .ref b5, .ref b6, .int bn])), (b1, .inl (G.2 0, 40, .inl kf)), (b2, .inl (G.2 0, 40, .inl ff)), (b3, .inl (G.2 0, 40, .inl sf)), (b4, .inl (G.2 0, 40, .inl df)), (b5, .inl (G.2 1, 40, .inr (.inl pf))), (b6, .inl (G.2 1, 6, .inr (.inl gf)))]) hP [10, 11, 12, 13, 14, 15, 16] rfl
  refine rdI (va_runV (C := RX0) (As := [.int p1]) (rest := []) ⟨hx, hb, hml, hown, hts⟩ (kX0_holds l G b0 b1 b2 b3 b4 b5 b6 kf ff sf df pf gf bn p1 h) (cwV 1 hts (gdV q403 q115 q116 q2 q117) rfl rfl rfl (by decide +kernel) ⟨Nat.le_of_ble_eq_true rfl, Nat.le_of_ble_eq_true rfl⟩) (preV hPc hKK (va_recv hK hPc (ci := 3) (q0 := 0) rfl rfl)) rfl rfl hl.1 rfl (lv_room (Nat.le_of_ble_eq_true rfl)) dX2_truth_5 ⟨Nat.zero_le _, Nat.zero_le _⟩) (fun r_1 h => ?_)
  refine lv_if_ne (tgt := 21) hx hb dX2_truth_8 (by decide) (fun hc => ?_) (fun hc => ?_)
  · have h := h.1 hc
    refine lv_aload_n hx hb dX2_truth_21 rfl (lv_at hl 0 rfl) ?_
    refine va_get (D := G.1) (ci := 5) (v := .ref s0) (C := RX2) (T := TX2) (N := 11) hx hb hts igX2 hown hK hP 0 rfl rfl 1 (by decide) (hts _ q177) (fun _ h9 => h9) rfl dX2_truth_22 ?_
    refine lv_iload_n hx hb dX2_truth_25 rfl (lv_at hl 1 rfl) ?_
    have hPc := va_P.sub (ws' := [(s0, .inr (4, [.ref b0, .ref s1, .ref s2, .long op, .int re])), (s1, .inl (G.2 1, 384, .inr (.inl dk))), (s2, .inl (G.2 1, 40, .inr (.inl wg))), (b0, .inr (3, [.ref b1, .ref b2, .ref b3, .ref b4, .ref b5, .ref b6, .int bn])), (b1, .inl (G.2 0, 40, .inl kf)), (b2, .inl (G.2 0, 40, .inl ff)), (b3, .inl (G.2 0, 40, .inl sf)), (b4, .inl (G.2 0, 40, .inl df)), (b5, .inl (G.2 1, 40, .inr (.inl pf))), (b6, .inl (G.2 1, 6, .inr (.inl gf)))]) hP [1, 2, 3, 10, 11, 12, 13, 14, 15, 16] rfl
    refine rdL (va_runV (C := RX1) (As := [.int p1]) (rest := []) ⟨hx, hb, hml, hown, hts⟩ (kX1_worldsOf l G s0 s1 s2 b0 b1 b2 b3 b4 b5 b6 dk wg op re kf ff sf df pf gf bn p1 h) (cwV 1 hts (gdV q405 q135 q136 q3 q137) rfl rfl rfl (by decide +kernel) ⟨Nat.le_of_ble_eq_true rfl, Nat.le_of_ble_eq_true rfl⟩) (preV hPc hKK (va_recv hK hPc (ci := 4) (q0 := 0) rfl rfl)) rfl rfl hl.1 rfl (lv_room (Nat.le_of_ble_eq_true rfl)) dX2_truth_26 ⟨Nat.zero_le _, Nat.zero_le _⟩) (fun r_2 h => ?_)
    refine vx_ret (W.widen (k := 1) (n := 6) (Nat.le_of_ble_eq_true rfl) (Nat.le_of_ble_eq_true rfl) ?_)
    subst hQC; exact W.lret (v := r_2) hx hb hr (fun t ht hW => ⟨⟨_, (), rfl, h, by rw [ht]; exact hP, hD⟩, hS.F ht⟩) hS.2.2 dX2_truth_29
  · have h := h.2 hc
    obtain ⟨sa, hsa⟩ := hR.1 ("NightdeskRota", 119, "no such sentence") (List.mem_of_getElem? (i := 4) rfl)
    subst hXC
    exact vx_throwS (names := rtx) (text := "no such sentence") (sa := sa) hx hb hfl hown (by decide +kernel) (by decide +kernel) (hts _ q349) (hts _ q22) hsa (hatX hat87a hat87b hts hN hZ) hgd87 hZ.2.1 hZ.2.2 hS (hl.1.trans hml.symm) dX2_truth_11 dX2_truth_14 dX2_truth_15 dX2_truth_17 dX2_truth_20 (fun x hx => (hT x hx).elim) (Nat.le_of_ble_eq_true rfl) (Nat.le_of_ble_eq_true rfl) (Nat.le_of_ble_eq_true rfl) (Nat.le_of_ble_eq_true rfl) hlocks (fun t ht h1 h2 => ⟨(), trivial, ⟨keepAll hP h2, hD, h⟩, h1, fun q hq _ => h2 q hq⟩) hS.2.2 (Nat.le_refl _) (Nat.le_refl _)
def wnX2_truth (post : Int64 → Prop) (wg : Nat → Int64) (bn : Int32) (p1 : Int32) : Prop :=
  wX0_holds (fun r_1 : Int32 =>
    ((¬ r_1 = 0) →
      wX1_worldsOf (fun r_2 : Int64 =>
        post r_2
        ) wg bn p1
    ) ∧ ((r_1 = 0) →
      False
    )
    ) bn p1
abbrev wl_nX2_truth : List Cond := .code yX2_truth cX2_truth 2 (some .long) :: lwg
abbrev rm_nX2_truth : Room := { frames := 2, cells := 0, slots := 0, locals := 42 }
set_option maxHeartbeats 4000000 in
set_option maxRecDepth 100000 in
theorem knX2_truth {post : Int64 → Prop} (l : Launch) (G : GT) (x0 : Nat) (s0 : Nat) (s1 : Nat) (s2 : Nat) (u0 : Nat) (u1 : Nat) (u2 : Nat) (v0 : Nat) (v1 : Nat) (v2 : Nat) (b0 : Nat) (b1 : Nat) (b2 : Nat) (b3 : Nat) (b4 : Nat) (b5 : Nat) (b6 : Nat) (tA : Int32) (wP : Int32) (nT : Int32) (aK : Int32) (lK : Int32) (sW : Int32) (rF : Int32) (dk : Nat → Int64) (wg : Nat → Int64) (op : Int64) (re : Int32) (uk : Nat → Int64) (uw : Nat → Int64) (uo : Int64) (ur : Int32) (vk : Nat → Int64) (vw : Nat → Int64) (vo : Int64) (vr : Int32) (kf : Nat → Int32) (ff : Nat → Int32) (sf : Nat → Int32) (df : Nat → Int32) (pf : Nat → Int64) (gf : Nat → Int64) (bn : Int32) (p1 : Int32) (h : wnX2_truth post wg bn p1) : Met l yX2_truth wl_nX2_truth rm_nX2_truth (va_Pc [.ref x0, .int p1] (fun U => PP G [(x0, .inr (5, [.ref b0, .ref s0, .ref u0, .ref v0, .int tA, .int wP, .int nT, .int aK, .int lK, .int sW, .int rF])), (s0, .inr (4, [.ref b0, .ref s1, .ref s2, .long op, .int re])), (s1, .inl (G.2 1, 384, .inr (.inl dk))), (s2, .inl (G.2 1, 40, .inr (.inl wg))), (u0, .inr (4, [.ref b0, .ref u1, .ref u2, .long uo, .int ur])), (u1, .inl (G.2 1, 384, .inr (.inl uk))), (u2, .inl (G.2 1, 40, .inr (.inl uw))), (v0, .inr (4, [.ref b0, .ref v1, .ref v2, .long vo, .int vr])), (v1, .inl (G.2 1, 384, .inr (.inl vk))), (v2, .inl (G.2 1, 40, .inr (.inl vw))), (b0, .inr (3, [.ref b1, .ref b2, .ref b3, .ref b4, .ref b5, .ref b6, .int bn])), (b1, .inl (G.2 0, 40, .inl kf)), (b2, .inl (G.2 0, 40, .inl ff)), (b3, .inl (G.2 0, 40, .inl sf)), (b4, .inl (G.2 0, 40, .inl df)), (b5, .inl (G.2 1, 40, .inr (.inl pf))), (b6, .inl (G.2 1, 6, .inr (.inl gf)))] U.heap ∧ KK G U)) (vp_Sl post) 0 0 (fun _ => False) := by
  refine Met.ofW (cc := cX2_truth) (maxL := 2) (ret := (some .long)) (by decide) rfl ?_
  intro p e s m args below meth c s₁ B hml hv
  obtain ⟨rfl, hP, hKK⟩ := hv
  obtain ⟨hK, hN, hR, hFW, hNC⟩ := id hKK
  have hx := B.exec
  have hb := B.bytes
  have hr := B.returns
  have hts0 := atoms_spec (ws := wl_nX2_truth) B.pre
  have hts : ∀ w ∈ lwg, w.before ([.ref x0, .int p1] : List Value).toArray s = true := fun w hw => hts0 w (List.mem_cons_of_mem _ hw)
  have hown : s.vm.findClass RX2 = some m.cls := findClass_of_methodNamed B.named
  have hlocks := B.notSynchronized
  have hP : PP G [(x0, .inr (5, [.ref b0, .ref s0, .ref u0, .ref v0, .int tA, .int wP, .int nT, .int aK, .int lK, .int sW, .int rF])), (s0, .inr (4, [.ref b0, .ref s1, .ref s2, .long op, .int re])), (s1, .inl (G.2 1, 384, .inr (.inl dk))), (s2, .inl (G.2 1, 40, .inr (.inl wg))), (u0, .inr (4, [.ref b0, .ref u1, .ref u2, .long uo, .int ur])), (u1, .inl (G.2 1, 384, .inr (.inl uk))), (u2, .inl (G.2 1, 40, .inr (.inl uw))), (v0, .inr (4, [.ref b0, .ref v1, .ref v2, .long vo, .int vr])), (v1, .inl (G.2 1, 384, .inr (.inl vk))), (v2, .inl (G.2 1, 40, .inr (.inl vw))), (b0, .inr (3, [.ref b1, .ref b2, .ref b3, .ref b4, .ref b5, .ref b6, .int bn])), (b1, .inl (G.2 0, 40, .inl kf)), (b2, .inl (G.2 0, 40, .inl ff)), (b3, .inl (G.2 0, 40, .inl sf)), (b4, .inl (G.2 0, 40, .inl df)), (b5, .inl (G.2 1, 40, .inr (.inl pf))), (b6, .inl (G.2 1, 6, .inr (.inl gf)))] s.heap := hP
  have hl := lv_entry ([.ref x0, .int p1]) (n := 2) (Nat.le_of_ble_eq_true rfl)
  rw [lg_entry_eq]
  generalize (lg_sl ([.ref x0, .int p1]) ++ List.replicate (2 - (lg_sl ([.ref x0, .int p1])).length) Slot.unset).toArray = ls at hl ⊢
  have hl : lv_has ls 2 [(0, .ref x0), (1, .int p1)] := hl
  refine lv_aload_n hx hb dX2_truth_0 rfl (lv_at hl 0 rfl) ?_
  refine va_get (D := G.1) (ci := 5) (v := .ref b0) (C := RX2) (T := TX2) (N := 11) hx hb hts igX2 hown hK hP 0 rfl rfl 0 (by decide) (hts _ q176) (fun _ h9 => h9) rfl dX2_truth_1 ?_
  refine lv_iload_n hx hb dX2_truth_4 rfl (lv_at hl 1 rfl) ?_
  have hPc := va_P.sub (ws' := [(b0, .inr (3, [.ref b1, .ref b2, .ref b3, .ref b4, .ref b5, .ref b6, .int bn])), (b1, .inl (G.2 0, 40, .inl kf)), (b2, .inl (G.2 0, 40, .inl ff)), (b3, .inl (G.2 0, 40, .inl sf)), (b4, .inl (G.2 0, 40, .inl df)), (b5, .inl (G.2 1, 40, .inr (.inl pf))), (b6, .inl (G.2 1, 6, .inr (.inl gf)))]) hP [10, 11, 12, 13, 14, 15, 16] rfl
  refine rdI (va_runV (C := RX0) (As := [.int p1]) (rest := []) ⟨hx, hb, hml, hown, hts⟩ (kX0_holds l G b0 b1 b2 b3 b4 b5 b6 kf ff sf df pf gf bn p1 h) (cwV 1 hts (gdV q403 q115 q116 q2 q117) rfl rfl rfl (by decide +kernel) ⟨Nat.le_of_ble_eq_true rfl, Nat.le_of_ble_eq_true rfl⟩) (preV hPc hKK (va_recv hK hPc (ci := 3) (q0 := 0) rfl rfl)) rfl rfl hl.1 rfl (lv_room (Nat.le_of_ble_eq_true rfl)) dX2_truth_5 ⟨Nat.zero_le _, Nat.zero_le _⟩) (fun r_1 h => ?_)
  refine lv_if_ne (tgt := 21) hx hb dX2_truth_8 (by decide) (fun hc => ?_) (fun hc => ?_)
  · have h := h.1 hc
    refine lv_aload_n hx hb dX2_truth_21 rfl (lv_at hl 0 rfl) ?_
    refine va_get (D := G.1) (ci := 5) (v := .ref s0) (C := RX2) (T := TX2) (N := 11) hx hb hts igX2 hown hK hP 0 rfl rfl 1 (by decide) (hts _ q177) (fun _ h9 => h9) rfl dX2_truth_22 ?_
    refine lv_iload_n hx hb dX2_truth_25 rfl (lv_at hl 1 rfl) ?_
    have hPc := va_P.sub (ws' := [(s0, .inr (4, [.ref b0, .ref s1, .ref s2, .long op, .int re])), (s1, .inl (G.2 1, 384, .inr (.inl dk))), (s2, .inl (G.2 1, 40, .inr (.inl wg))), (b0, .inr (3, [.ref b1, .ref b2, .ref b3, .ref b4, .ref b5, .ref b6, .int bn])), (b1, .inl (G.2 0, 40, .inl kf)), (b2, .inl (G.2 0, 40, .inl ff)), (b3, .inl (G.2 0, 40, .inl sf)), (b4, .inl (G.2 0, 40, .inl df)), (b5, .inl (G.2 1, 40, .inr (.inl pf))), (b6, .inl (G.2 1, 6, .inr (.inl gf)))]) hP [1, 2, 3, 10, 11, 12, 13, 14, 15, 16] rfl
    refine rdL (va_runV (C := RX1) (As := [.int p1]) (rest := []) ⟨hx, hb, hml, hown, hts⟩ (kX1_worldsOf l G s0 s1 s2 b0 b1 b2 b3 b4 b5 b6 dk wg op re kf ff sf df pf gf bn p1 h) (cwV 1 hts (gdV q405 q135 q136 q3 q137) rfl rfl rfl (by decide +kernel) ⟨Nat.le_of_ble_eq_true rfl, Nat.le_of_ble_eq_true rfl⟩) (preV hPc hKK (va_recv hK hPc (ci := 4) (q0 := 0) rfl rfl)) rfl rfl hl.1 rfl (lv_room (Nat.le_of_ble_eq_true rfl)) dX2_truth_26 ⟨Nat.zero_le _, Nat.zero_le _⟩) (fun r_2 h => ?_)
    exact W.lret (v := r_2) hx hb hr (fun t ht _ => ⟨_, rfl, h, ht⟩) (fun _ hq => absurd hq List.not_mem_nil) dX2_truth_29
  · have h := h.2 hc
    exact False.elim h
theorem dX2_of_0 : decode cX2_of 0 = .ok (.aload_n 0, 1) := by decide +kernel
theorem dX2_of_1 : decode cX2_of 1 = .ok (.getfield 10, 3) := by decide +kernel
theorem dX2_of_4 : decode cX2_of 4 = .ok (.iload_n 1, 1) := by decide +kernel
theorem dX2_of_5 : decode cX2_of 5 = .ok (.invokevirtual 116, 3) := by decide +kernel
theorem dX2_of_8 : decode cX2_of 8 = .ok (.ifCond .ne 13, 3) := by decide +kernel
theorem dX2_of_11 : decode cX2_of 11 = .ok (.new 83, 3) := by decide +kernel
theorem dX2_of_14 : decode cX2_of 14 = .ok (.dup, 1) := by decide +kernel
theorem dX2_of_15 : decode cX2_of 15 = .ok (.ldc 119, 2) := by decide +kernel
theorem dX2_of_17 : decode cX2_of 17 = .ok (.invokespecial 87, 3) := by decide +kernel
theorem dX2_of_20 : decode cX2_of 20 = .ok (.athrow, 1) := by decide +kernel
theorem dX2_of_21 : decode cX2_of 21 = .ok (.iload_n 2, 1) := by decide +kernel
theorem dX2_of_22 : decode cX2_of 22 = .ok (.tableswitch 178 0 9 #[54, 63, 72, 81, 93, 110, 122, 131, 160, 169], 54) := by decide +kernel
theorem dX2_of_76 : decode cX2_of 76 = .ok (.aload_n 0, 1) := by decide +kernel
theorem dX2_of_77 : decode cX2_of 77 = .ok (.getfield 10, 3) := by decide +kernel
theorem dX2_of_80 : decode cX2_of 80 = .ok (.iload_n 1, 1) := by decide +kernel
theorem dX2_of_81 : decode cX2_of 81 = .ok (.invokevirtual 187, 3) := by decide +kernel
theorem dX2_of_84 : decode cX2_of 84 = .ok (.ireturn, 1) := by decide +kernel
theorem dX2_of_85 : decode cX2_of 85 = .ok (.aload_n 0, 1) := by decide +kernel
theorem dX2_of_86 : decode cX2_of 86 = .ok (.getfield 10, 3) := by decide +kernel
theorem dX2_of_89 : decode cX2_of 89 = .ok (.iload_n 1, 1) := by decide +kernel
theorem dX2_of_90 : decode cX2_of 90 = .ok (.invokevirtual 190, 3) := by decide +kernel
theorem dX2_of_93 : decode cX2_of 93 = .ok (.ireturn, 1) := by decide +kernel
theorem dX2_of_94 : decode cX2_of 94 = .ok (.aload_n 0, 1) := by decide +kernel
theorem dX2_of_95 : decode cX2_of 95 = .ok (.getfield 10, 3) := by decide +kernel
theorem dX2_of_98 : decode cX2_of 98 = .ok (.iload_n 1, 1) := by decide +kernel
theorem dX2_of_99 : decode cX2_of 99 = .ok (.invokevirtual 193, 3) := by decide +kernel
theorem dX2_of_102 : decode cX2_of 102 = .ok (.ireturn, 1) := by decide +kernel
theorem dX2_of_103 : decode cX2_of 103 = .ok (.aload_n 0, 1) := by decide +kernel
theorem dX2_of_104 : decode cX2_of 104 = .ok (.getfield 21, 3) := by decide +kernel
theorem dX2_of_107 : decode cX2_of 107 = .ok (.iload_n 1, 1) := by decide +kernel
theorem dX2_of_108 : decode cX2_of 108 = .ok (.invokevirtual 129, 3) := by decide +kernel
theorem dX2_of_111 : decode cX2_of 111 = .ok (.invokestatic 110, 3) := by decide +kernel
theorem dX2_of_114 : decode cX2_of 114 = .ok (.ireturn, 1) := by decide +kernel
theorem dX2_of_115 : decode cX2_of 115 = .ok (.aload_n 0, 1) := by decide +kernel
theorem dX2_of_116 : decode cX2_of 116 = .ok (.getfield 21, 3) := by decide +kernel
theorem dX2_of_119 : decode cX2_of 119 = .ok (.iload_n 1, 1) := by decide +kernel
theorem dX2_of_120 : decode cX2_of 120 = .ok (.invokevirtual 121, 3) := by decide +kernel
theorem dX2_of_123 : decode cX2_of 123 = .ok (.ifCond .eq 7, 3) := by decide +kernel
theorem dX2_of_126 : decode cX2_of 126 = .ok (.iconst 1, 1) := by decide +kernel
theorem dX2_of_127 : decode cX2_of 127 = .ok (.goto 4, 3) := by decide +kernel
theorem dX2_of_130 : decode cX2_of 130 = .ok (.iconst 0, 1) := by decide +kernel
theorem dX2_of_131 : decode cX2_of 131 = .ok (.ireturn, 1) := by decide +kernel
theorem dX2_of_132 : decode cX2_of 132 = .ok (.aload_n 0, 1) := by decide +kernel
theorem dX2_of_133 : decode cX2_of 133 = .ok (.getfield 21, 3) := by decide +kernel
theorem dX2_of_136 : decode cX2_of 136 = .ok (.iload_n 1, 1) := by decide +kernel
theorem dX2_of_137 : decode cX2_of 137 = .ok (.invokevirtual 163, 3) := by decide +kernel
theorem dX2_of_140 : decode cX2_of 140 = .ok (.invokestatic 196, 3) := by decide +kernel
theorem dX2_of_143 : decode cX2_of 143 = .ok (.ireturn, 1) := by decide +kernel
theorem dX2_of_144 : decode cX2_of 144 = .ok (.aload_n 0, 1) := by decide +kernel
theorem dX2_of_145 : decode cX2_of 145 = .ok (.getfield 21, 3) := by decide +kernel
theorem dX2_of_148 : decode cX2_of 148 = .ok (.iload_n 1, 1) := by decide +kernel
theorem dX2_of_149 : decode cX2_of 149 = .ok (.invokevirtual 163, 3) := by decide +kernel
theorem dX2_of_152 : decode cX2_of 152 = .ok (.ireturn, 1) := by decide +kernel
theorem dX2_of_153 : decode cX2_of 153 = .ok (.aload_n 0, 1) := by decide +kernel
theorem dX2_of_154 : decode cX2_of 154 = .ok (.getfield 21, 3) := by decide +kernel
theorem dX2_of_157 : decode cX2_of 157 = .ok (.bipush 63, 2) := by decide +kernel
theorem dX2_of_159 : decode cX2_of 159 = .ok (.invokevirtual 200, 3) := by decide +kernel
theorem dX2_of_162 : decode cX2_of 162 = .ok (.aload_n 0, 1) := by decide +kernel
theorem dX2_of_163 : decode cX2_of 163 = .ok (.getfield 21, 3) := by decide +kernel
theorem dX2_of_166 : decode cX2_of 166 = .ok (.iload_n 1, 1) := by decide +kernel
theorem dX2_of_167 : decode cX2_of 167 = .ok (.invokevirtual 129, 3) := by decide +kernel
theorem dX2_of_170 : decode cX2_of 170 = .ok (.invokestatic 203, 3) := by decide +kernel
theorem dX2_of_173 : decode cX2_of 173 = .ok (.ifCond .eq 7, 3) := by decide +kernel
theorem dX2_of_176 : decode cX2_of 176 = .ok (.iconst 1, 1) := by decide +kernel
theorem dX2_of_177 : decode cX2_of 177 = .ok (.goto 4, 3) := by decide +kernel
theorem dX2_of_180 : decode cX2_of 180 = .ok (.iconst 0, 1) := by decide +kernel
theorem dX2_of_181 : decode cX2_of 181 = .ok (.ireturn, 1) := by decide +kernel
theorem dX2_of_182 : decode cX2_of 182 = .ok (.aload_n 0, 1) := by decide +kernel
theorem dX2_of_183 : decode cX2_of 183 = .ok (.getfield 21, 3) := by decide +kernel
theorem dX2_of_186 : decode cX2_of 186 = .ok (.iload_n 1, 1) := by decide +kernel
theorem dX2_of_187 : decode cX2_of 187 = .ok (.invokevirtual 207, 3) := by decide +kernel
theorem dX2_of_190 : decode cX2_of 190 = .ok (.ireturn, 1) := by decide +kernel
theorem dX2_of_191 : decode cX2_of 191 = .ok (.aload_n 0, 1) := by decide +kernel
theorem dX2_of_192 : decode cX2_of 192 = .ok (.getfield 10, 3) := by decide +kernel
theorem dX2_of_195 : decode cX2_of 195 = .ok (.iload_n 1, 1) := by decide +kernel
theorem dX2_of_196 : decode cX2_of 196 = .ok (.invokevirtual 210, 3) := by decide +kernel
theorem dX2_of_199 : decode cX2_of 199 = .ok (.ireturn, 1) := by decide +kernel
theorem dX2_of_200 : decode cX2_of 200 = .ok (.new 39, 3) := by decide +kernel
theorem dX2_of_203 : decode cX2_of 203 = .ok (.dup, 1) := by decide +kernel
theorem dX2_of_204 : decode cX2_of 204 = .ok (.ldc 213, 2) := by decide +kernel
theorem dX2_of_206 : decode cX2_of 206 = .ok (.invokespecial 43, 3) := by decide +kernel
theorem dX2_of_209 : decode cX2_of 209 = .ok (.athrow, 1) := by decide +kernel
def wxX2_of (post : Int32 → Unit → Prop) (postx : String → Prop) (dk : Nat → Int64) (wg : Nat → Int64) (op : Int64) (re : Int32) (kf : Nat → Int32) (ff : Nat → Int32) (sf : Nat → Int32) (df : Nat → Int32) (bn : Int32) (p1 : Int32) (p2 : Int32) : Prop :=
  wX0_holds (fun r_1 : Int32 =>
    ((¬ r_1 = 0) →
      (p2 = 0 →
        wX0_kindOf (fun r_2 : Int32 =>
          post r_2 ()
          ) kf bn p1
      ) ∧ (¬ p2 = 0 →
      (p2 = 1 →
        wX0_firstOf (fun r_3 : Int32 =>
          post r_3 ()
          ) ff bn p1
      ) ∧ (¬ p2 = 1 →
      (p2 = 2 →
        wX0_secondOf (fun r_4 : Int32 =>
          post r_4 ()
          ) sf bn p1
      ) ∧ (¬ p2 = 2 →
      (p2 = 3 →
        wX1_worldsOf (fun r_5 : Int64 =>
          wJ13_bitCount_95d88 (fun r_6 : Int32 =>
            post r_6 ()
            ) r_5
          ) wg bn p1
      ) ∧ (¬ p2 = 3 →
      (p2 = 4 →
        wX1_isTrueInReal (fun r_7 : Int32 =>
          ((r_7 = 0) →
            post (0 : Int32) ()
          ) ∧ (¬ (r_7 = 0) →
            post (1 : Int32) ()
          )
          ) wg re bn p1
      ) ∧ (¬ p2 = 4 →
      (p2 = 5 →
        wX1_knowersOf (fun r_8 : Int32 =>
          wJ6_bitCount_0f7a4 (fun r_9 : Int32 =>
            post r_9 ()
            ) r_8
          ) dk wg op re bn p1
      ) ∧ (¬ p2 = 5 →
      (p2 = 6 →
        wX1_knowersOf (fun r_10 : Int32 =>
          post r_10 ()
          ) dk wg op re bn p1
      ) ∧ (¬ p2 = 6 →
      (p2 = 7 →
        wX1_reachedFromReal (fun r_11 : Int64 =>
          wX1_worldsOf (fun r_12 : Int64 =>
            wX2_isWithin (fun r_13 : Int32 =>
              ((r_13 = 0) →
                post (0 : Int32) ()
              ) ∧ (¬ (r_13 = 0) →
                post (1 : Int32) ()
              )
              ) r_11 r_12
            ) wg bn p1
          ) dk op re (63 : Int32)
      ) ∧ (¬ p2 = 7 →
      (p2 = 8 →
        wX1_fewestFor (fun r_14 : Int32 =>
          post r_14 ()
          ) dk wg op re bn p1
      ) ∧ (¬ p2 = 8 →
      (p2 = 9 →
        wX0_builtDeep (fun r_15 : Int32 =>
          post r_15 ()
          ) df bn p1
      ) ∧ (¬ p2 = 9 →
        postx "java/lang/IllegalArgumentException"
      ))))))))))
    ) ∧ ((r_1 = 0) →
      postx "java/lang/IndexOutOfBoundsException"
    )
    ) bn p1
abbrev wl_xX2_of : List Cond := .code yX2_of cX2_of 3 (some .int) :: lwg
abbrev rm_xX2_of : Room := { frames := 6, cells := 1, slots := 6, locals := 122 }
set_option maxHeartbeats 4000000 in
set_option maxRecDepth 100000 in
theorem kxX2_of {post : Int32 → Unit → Prop} {postx : String → Prop} (l : Launch) (hfl : l.stackTraces = false) (G : GT) (x0 : Nat) (s0 : Nat) (s1 : Nat) (s2 : Nat) (u0 : Nat) (u1 : Nat) (u2 : Nat) (v0 : Nat) (v1 : Nat) (v2 : Nat) (b0 : Nat) (b1 : Nat) (b2 : Nat) (b3 : Nat) (b4 : Nat) (b5 : Nat) (b6 : Nat) (tA : Int32) (wP : Int32) (nT : Int32) (aK : Int32) (lK : Int32) (sW : Int32) (rF : Int32) (dk : Nat → Int64) (wg : Nat → Int64) (op : Int64) (re : Int32) (uk : Nat → Int64) (uw : Nat → Int64) (uo : Int64) (ur : Int32) (vk : Nat → Int64) (vw : Nat → Int64) (vo : Int64) (vr : Int32) (kf : Nat → Int32) (ff : Nat → Int32) (sf : Nat → Int32) (df : Nat → Int32) (pf : Nat → Int64) (gf : Nat → Int64) (bn : Int32) (p1 : Int32) (p2 : Int32) (sz : Nat) (h : wxX2_of post postx dk wg op re kf ff sf df bn p1 p2) : vx_Met l yX2_of wl_xX2_of rm_xX2_of (va_Pc [.ref x0, .int p1, .int p2] (fun U => U.heap.size = sz ∧ PP G [(x0, .inr (5, [.ref b0, .ref s0, .ref u0, .ref v0, .int tA, .int wP, .int nT, .int aK, .int lK, .int sW, .int rF])), (s0, .inr (4, [.ref b0, .ref s1, .ref s2, .long op, .int re])), (s1, .inl (G.2 1, 384, .inr (.inl dk))), (s2, .inl (G.2 1, 40, .inr (.inl wg))), (u0, .inr (4, [.ref b0, .ref u1, .ref u2, .long uo, .int ur])), (u1, .inl (G.2 1, 384, .inr (.inl uk))), (u2, .inl (G.2 1, 40, .inr (.inl uw))), (v0, .inr (4, [.ref b0, .ref v1, .ref v2, .long vo, .int vr])), (v1, .inl (G.2 1, 384, .inr (.inl vk))), (v2, .inl (G.2 1, 40, .inr (.inl vw))), (b0, .inr (3, [.ref b1, .ref b2, .ref b3, .ref b4, .ref b5, .ref b6, .int bn])), (b1, .inl (G.2 0, 40, .inl kf)), (b2, .inl (G.2 0, 40, .inl ff)), (b3, .inl (G.2 0, 40, .inl sf)), (b4, .inl (G.2 0, 40, .inl df)), (b5, .inl (G.2 1, 40, .inr (.inl pf))), (b6, .inl (G.2 1, 6, .inr (.inl gf)))] U.heap ∧ KK G U ∧ va_D (fun _ => True) [(x0, .inr (5, [.ref b0, .ref s0, .ref u0, .ref v0, .int tA, .int wP, .int nT, .int aK, .int lK, .int sW, .int rF])), (s0, .inr (4, [.ref b0, .ref s1, .ref s2, .long op, .int re])), (s1, .inl (G.2 1, 384, .inr (.inl dk))), (s2, .inl (G.2 1, 40, .inr (.inl wg))), (u0, .inr (4, [.ref b0, .ref u1, .ref u2, .long uo, .int ur])), (u1, .inl (G.2 1, 384, .inr (.inl uk))), (u2, .inl (G.2 1, 40, .inr (.inl uw))), (v0, .inr (4, [.ref b0, .ref v1, .ref v2, .long vo, .int vr])), (v1, .inl (G.2 1, 384, .inr (.inl vk))), (v2, .inl (G.2 1, 40, .inr (.inl vw))), (b0, .inr (3, [.ref b1, .ref b2, .ref b3, .ref b4, .ref b5, .ref b6, .int bn])), (b1, .inl (G.2 0, 40, .inl kf)), (b2, .inl (G.2 0, 40, .inl ff)), (b3, .inl (G.2 0, 40, .inl sf)), (b4, .inl (G.2 0, 40, .inl df)), (b5, .inl (G.2 1, 40, .inr (.inl pf))), (b6, .inl (G.2 1, 6, .inr (.inl gf)))] ∧ ZZ (va_A [(x0, .inr (5, [.ref b0, .ref s0, .ref u0, .ref v0, .int tA, .int wP, .int nT, .int aK, .int lK, .int sW, .int rF])), (s0, .inr (4, [.ref b0, .ref s1, .ref s2, .long op, .int re])), (s1, .inl (G.2 1, 384, .inr (.inl dk))), (s2, .inl (G.2 1, 40, .inr (.inl wg))), (u0, .inr (4, [.ref b0, .ref u1, .ref u2, .long uo, .int ur])), (u1, .inl (G.2 1, 384, .inr (.inl uk))), (u2, .inl (G.2 1, 40, .inr (.inl uw))), (v0, .inr (4, [.ref b0, .ref v1, .ref v2, .long vo, .int vr])), (v1, .inl (G.2 1, 384, .inr (.inl vk))), (v2, .inl (G.2 1, 40, .inr (.inl vw))), (b0, .inr (3, [.ref b1, .ref b2, .ref b3, .ref b4, .ref b5, .ref b6, .int bn])), (b1, .inl (G.2 0, 40, .inl kf)), (b2, .inl (G.2 0, 40, .inl ff)), (b3, .inl (G.2 0, 40, .inl sf)), (b4, .inl (G.2 0, 40, .inl df)), (b5, .inl (G.2 1, 40, .inr (.inl pf))), (b6, .inl (G.2 1, 6, .inr (.inl gf)))] sz) U U.heap)) (va_Qi post (fun u t => PP G [(x0, .inr (5, [.ref b0, .ref s0, .ref u0, .ref v0, .int tA, .int wP, .int nT, .int aK, .int lK, .int sW, .int rF])), (s0, .inr (4, [.ref b0, .ref s1, .ref s2, .long op, .int re])), (s1, .inl (G.2 1, 384, .inr (.inl dk))), (s2, .inl (G.2 1, 40, .inr (.inl wg))), (u0, .inr (4, [.ref b0, .ref u1, .ref u2, .long uo, .int ur])), (u1, .inl (G.2 1, 384, .inr (.inl uk))), (u2, .inl (G.2 1, 40, .inr (.inl uw))), (v0, .inr (4, [.ref b0, .ref v1, .ref v2, .long vo, .int vr])), (v1, .inl (G.2 1, 384, .inr (.inl vk))), (v2, .inl (G.2 1, 40, .inr (.inl vw))), (b0, .inr (3, [.ref b1, .ref b2, .ref b3, .ref b4, .ref b5, .ref b6, .int bn])), (b1, .inl (G.2 0, 40, .inl kf)), (b2, .inl (G.2 0, 40, .inl ff)), (b3, .inl (G.2 0, 40, .inl sf)), (b4, .inl (G.2 0, 40, .inl df)), (b5, .inl (G.2 1, 40, .inr (.inl pf))), (b6, .inl (G.2 1, 6, .inr (.inl gf)))] t.heap ∧ va_D (va_A [(x0, .inr (5, [.ref b0, .ref s0, .ref u0, .ref v0, .int tA, .int wP, .int nT, .int aK, .int lK, .int sW, .int rF])), (s0, .inr (4, [.ref b0, .ref s1, .ref s2, .long op, .int re])), (s1, .inl (G.2 1, 384, .inr (.inl dk))), (s2, .inl (G.2 1, 40, .inr (.inl wg))), (u0, .inr (4, [.ref b0, .ref u1, .ref u2, .long uo, .int ur])), (u1, .inl (G.2 1, 384, .inr (.inl uk))), (u2, .inl (G.2 1, 40, .inr (.inl uw))), (v0, .inr (4, [.ref b0, .ref v1, .ref v2, .long vo, .int vr])), (v1, .inl (G.2 1, 384, .inr (.inl vk))), (v2, .inl (G.2 1, 40, .inr (.inl vw))), (b0, .inr (3, [.ref b1, .ref b2, .ref b3, .ref b4, .ref b5, .ref b6, .int bn])), (b1, .inl (G.2 0, 40, .inl kf)), (b2, .inl (G.2 0, 40, .inl ff)), (b3, .inl (G.2 0, 40, .inl sf)), (b4, .inl (G.2 0, 40, .inl df)), (b5, .inl (G.2 1, 40, .inr (.inl pf))), (b6, .inl (G.2 1, 6, .inr (.inl gf)))] sz) [(x0, .inr (5, [.ref b0, .ref s0, .ref u0, .ref v0, .int tA, .int wP, .int nT, .int aK, .int lK, .int sW, .int rF])), (s0, .inr (4, [.ref b0, .ref s1, .ref s2, .long op, .int re])), (s1, .inl (G.2 1, 384, .inr (.inl dk))), (s2, .inl (G.2 1, 40, .inr (.inl wg))), (u0, .inr (4, [.ref b0, .ref u1, .ref u2, .long uo, .int ur])), (u1, .inl (G.2 1, 384, .inr (.inl uk))), (u2, .inl (G.2 1, 40, .inr (.inl uw))), (v0, .inr (4, [.ref b0, .ref v1, .ref v2, .long vo, .int vr])), (v1, .inl (G.2 1, 384, .inr (.inl vk))), (v2, .inl (G.2 1, 40, .inr (.inl vw))), (b0, .inr (3, [.ref b1, .ref b2, .ref b3, .ref b4, .ref b5, .ref b6, .int bn])), (b1, .inl (G.2 0, 40, .inl kf)), (b2, .inl (G.2 0, 40, .inl ff)), (b3, .inl (G.2 0, 40, .inl sf)), (b4, .inl (G.2 0, 40, .inl df)), (b5, .inl (G.2 1, 40, .inr (.inl pf))), (b6, .inl (G.2 1, 6, .inr (.inl gf)))]) (va_A [(x0, .inr (5, [.ref b0, .ref s0, .ref u0, .ref v0, .int tA, .int wP, .int nT, .int aK, .int lK, .int sW, .int rF])), (s0, .inr (4, [.ref b0, .ref s1, .ref s2, .long op, .int re])), (s1, .inl (G.2 1, 384, .inr (.inl dk))), (s2, .inl (G.2 1, 40, .inr (.inl wg))), (u0, .inr (4, [.ref b0, .ref u1, .ref u2, .long uo, .int ur])), (u1, .inl (G.2 1, 384, .inr (.inl uk))), (u2, .inl (G.2 1, 40, .inr (.inl uw))), (v0, .inr (4, [.ref b0, .ref v1, .ref v2, .long vo, .int vr])), (v1, .inl (G.2 1, 384, .inr (.inl vk))), (v2, .inl (G.2 1, 40, .inr (.inl vw))), (b0, .inr (3, [.ref b1, .ref b2, .ref b3, .ref b4, .ref b5, .ref b6, .int bn])), (b1, .inl (G.2 0, 40, .inl kf)), (b2, .inl (G.2 0, 40, .inl ff)), (b3, .inl (G.2 0, 40, .inl sf)), (b4, .inl (G.2 0, 40, .inl df)), (b5, .inl (G.2 1, 40, .inr (.inl pf))), (b6, .inl (G.2 1, 6, .inr (.inl gf)))] sz)) (vx_X (fun _ : Unit => True) (fun E _ t => PP G [(x0, .inr (5, [.ref b0, .ref s0, .ref u0, .ref v0, .int tA, .int wP, .int nT, .int aK, .int lK, .int sW, .int rF])), (s0, .inr (4, [.ref b0, .ref s1, .ref s2, .long op, .int re])), (s1, .inl (G.2 1, 384, .inr (.inl dk))), (s2, .inl (G.2 1, 40, .inr (.inl wg))), (u0, .inr (4, [.ref b0, .ref u1, .ref u2, .long uo, .int ur])), (u1, .inl (G.2 1, 384, .inr (.inl uk))), (u2, .inl (G.2 1, 40, .inr (.inl uw))), (v0, .inr (4, [.ref b0, .ref v1, .ref v2, .long vo, .int vr])), (v1, .inl (G.2 1, 384, .inr (.inl vk))), (v2, .inl (G.2 1, 40, .inr (.inl vw))), (b0, .inr (3, [.ref b1, .ref b2, .ref b3, .ref b4, .ref b5, .ref b6, .int bn])), (b1, .inl (G.2 0, 40, .inl kf)), (b2, .inl (G.2 0, 40, .inl ff)), (b3, .inl (G.2 0, 40, .inl sf)), (b4, .inl (G.2 0, 40, .inl df)), (b5, .inl (G.2 1, 40, .inr (.inl pf))), (b6, .inl (G.2 1, 6, .inr (.inl gf)))] t.heap ∧ va_D (va_A [(x0, .inr (5, [.ref b0, .ref s0, .ref u0, .ref v0, .int tA, .int wP, .int nT, .int aK, .int lK, .int sW, .int rF])), (s0, .inr (4, [.ref b0, .ref s1, .ref s2, .long op, .int re])), (s1, .inl (G.2 1, 384, .inr (.inl dk))), (s2, .inl (G.2 1, 40, .inr (.inl wg))), (u0, .inr (4, [.ref b0, .ref u1, .ref u2, .long uo, .int ur])), (u1, .inl (G.2 1, 384, .inr (.inl uk))), (u2, .inl (G.2 1, 40, .inr (.inl uw))), (v0, .inr (4, [.ref b0, .ref v1, .ref v2, .long vo, .int vr])), (v1, .inl (G.2 1, 384, .inr (.inl vk))), (v2, .inl (G.2 1, 40, .inr (.inl vw))), (b0, .inr (3, [.ref b1, .ref b2, .ref b3, .ref b4, .ref b5, .ref b6, .int bn])), (b1, .inl (G.2 0, 40, .inl kf)), (b2, .inl (G.2 0, 40, .inl ff)), (b3, .inl (G.2 0, 40, .inl sf)), (b4, .inl (G.2 0, 40, .inl df)), (b5, .inl (G.2 1, 40, .inr (.inl pf))), (b6, .inl (G.2 1, 6, .inr (.inl gf)))] sz) [(x0, .inr (5, [.ref b0, .ref s0, .ref u0, .ref v0, .int tA, .int wP, .int nT, .int aK, .int lK, .int sW, .int rF])), (s0, .inr (4, [.ref b0, .ref s1, .ref s2, .long op, .int re])), (s1, .inl (G.2 1, 384, .inr (.inl dk))), (s2, .inl (G.2 1, 40, .inr (.inl wg))), (u0, .inr (4, [.ref b0, .ref u1, .ref u2, .long uo, .int ur])), (u1, .inl (G.2 1, 384, .inr (.inl uk))), (u2, .inl (G.2 1, 40, .inr (.inl uw))), (v0, .inr (4, [.ref b0, .ref v1, .ref v2, .long vo, .int vr])), (v1, .inl (G.2 1, 384, .inr (.inl vk))), (v2, .inl (G.2 1, 40, .inr (.inl vw))), (b0, .inr (3, [.ref b1, .ref b2, .ref b3, .ref b4, .ref b5, .ref b6, .int bn])), (b1, .inl (G.2 0, 40, .inl kf)), (b2, .inl (G.2 0, 40, .inl ff)), (b3, .inl (G.2 0, 40, .inl sf)), (b4, .inl (G.2 0, 40, .inl df)), (b5, .inl (G.2 1, 40, .inr (.inl pf))), (b6, .inl (G.2 1, 6, .inr (.inl gf)))] ∧ postx E) (va_A [(x0, .inr (5, [.ref b0, .ref s0, .ref u0, .ref v0, .int tA, .int wP, .int nT, .int aK, .int lK, .int sW, .int rF])), (s0, .inr (4, [.ref b0, .ref s1, .ref s2, .long op, .int re])), (s1, .inl (G.2 1, 384, .inr (.inl dk))), (s2, .inl (G.2 1, 40, .inr (.inl wg))), (u0, .inr (4, [.ref b0, .ref u1, .ref u2, .long uo, .int ur])), (u1, .inl (G.2 1, 384, .inr (.inl uk))), (u2, .inl (G.2 1, 40, .inr (.inl uw))), (v0, .inr (4, [.ref b0, .ref v1, .ref v2, .long vo, .int vr])), (v1, .inl (G.2 1, 384, .inr (.inl vk))), (v2, .inl (G.2 1, 40, .inr (.inl vw))), (b0, .inr (3, [.ref b1, .ref b2, .ref b3, .ref b4, .ref b5, .ref b6, .int bn])), (b1, .inl (G.2 0, 40, .inl kf)), (b2, .inl (G.2 0, 40, .inl ff)), (b3, .inl (G.2 0, 40, .inl sf)), (b4, .inl (G.2 0, 40, .inl df)), (b5, .inl (G.2 1, 40, .inr (.inl pf))), (b6, .inl (G.2 1, 6, .inr (.inl gf)))] sz)) 1 6 (va_A [(x0, .inr (5, [.ref b0, .ref s0, .ref u0, .ref v0, .int tA, .int wP, .int nT, .int aK, .int lK, .int sW, .int rF])), (s0, .inr (4, [.ref b0, .ref s1, .ref s2, .long op, .int re])), (s1, .inl (G.2 1, 384, .inr (.inl dk))), (s2, .inl (G.2 1, 40, .inr (.inl wg))), (u0, .inr (4, [.ref b0, .ref u1, .ref u2, .long uo, .int ur])), (u1, .inl (G.2 1, 384, .inr (.inl uk))), (u2, .inl (G.2 1, 40, .inr (.inl uw))), (v0, .inr (4, [.ref b0, .ref v1, .ref v2, .long vo, .int vr])), (v1, .inl (G.2 1, 384, .inr (.inl vk))), (v2, .inl (G.2 1, 40, .inr (.inl vw))), (b0, .inr (3, [.ref b1, .ref b2, .ref b3, .ref b4, .ref b5, .ref b6, .int bn])), (b1, .inl (G.2 0, 40, .inl kf)), (b2, .inl (G.2 0, 40, .inl ff)), (b3, .inl (G.2 0, 40, .inl sf)), (b4, .inl (G.2 0, 40, .inl df)), (b5, .inl (G.2 1, 40, .inr (.inl pf))), (b6, .inl (G.2 1, 6, .inr (.inl gf)))] sz) := by
  refine vx_ofW (cc := cX2_of) (maxL := 3) (ret := (some .int)) (by decide) rfl ?_
  intro p e s m args below meth c s₁ B hml hT hv
  obtain ⟨rfl, hsz, hP, hKK, hD0, hZ⟩ := hv
  obtain ⟨hK, hN, hR, hFW, hNC⟩ := id hKK
  have hx := B.exec
  have hb := B.bytes
  have hr := B.returns
  have hts0 := atoms_spec (ws := wl_xX2_of) B.pre
  have hts : ∀ w ∈ lwg, w.before ([.ref x0, .int p1, .int p2] : List Value).toArray s = true := fun w hw => hts0 w (List.mem_cons_of_mem _ hw)
  have hown : s.vm.findClass RX2 = some m.cls := findClass_of_methodNamed B.named
  have hlocks := B.notSynchronized
  subst hsz
  have hD := hD0.self (sz := s.heap.size)
  generalize hAe : va_A [(x0, .inr (5, [.ref b0, .ref s0, .ref u0, .ref v0, .int tA, .int wP, .int nT, .int aK, .int lK, .int sW, .int rF])), (s0, .inr (4, [.ref b0, .ref s1, .ref s2, .long op, .int re])), (s1, .inl (G.2 1, 384, .inr (.inl dk))), (s2, .inl (G.2 1, 40, .inr (.inl wg))), (u0, .inr (4, [.ref b0, .ref u1, .ref u2, .long uo, .int ur])), (u1, .inl (G.2 1, 384, .inr (.inl uk))), (u2, .inl (G.2 1, 40, .inr (.inl uw))), (v0, .inr (4, [.ref b0, .ref v1, .ref v2, .long vo, .int vr])), (v1, .inl (G.2 1, 384, .inr (.inl vk))), (v2, .inl (G.2 1, 40, .inr (.inl vw))), (b0, .inr (3, [.ref b1, .ref b2, .ref b3, .ref b4, .ref b5, .ref b6, .int bn])), (b1, .inl (G.2 0, 40, .inl kf)), (b2, .inl (G.2 0, 40, .inl ff)), (b3, .inl (G.2 0, 40, .inl sf)), (b4, .inl (G.2 0, 40, .inl df)), (b5, .inl (G.2 1, 40, .inr (.inl pf))), (b6, .inl (G.2 1, 6, .inr (.inl gf)))] s.heap.size = A at hD hZ ⊢
  have hA : ∀ q : Nat, s.heap.size ≤ q → A q := fun q h => by rw [← hAe]; exact Or.inr h
  have hS : va_S A s.heap s.heap [] := va_S.rf
  obtain ⟨QC, hQC⟩ : ∃ Z, Z = (va_Qi post (fun u t => PP G [(x0, .inr (5, [.ref b0, .ref s0, .ref u0, .ref v0, .int tA, .int wP, .int nT, .int aK, .int lK, .int sW, .int rF])), (s0, .inr (4, [.ref b0, .ref s1, .ref s2, .long op, .int re])), (s1, .inl (G.2 1, 384, .inr (.inl dk))), (s2, .inl (G.2 1, 40, .inr (.inl wg))), (u0, .inr (4, [.ref b0, .ref u1, .ref u2, .long uo, .int ur])), (u1, .inl (G.2 1, 384, .inr (.inl uk))), (u2, .inl (G.2 1, 40, .inr (.inl uw))), (v0, .inr (4, [.ref b0, .ref v1, .ref v2, .long vo, .int vr])), (v1, .inl (G.2 1, 384, .inr (.inl vk))), (v2, .inl (G.2 1, 40, .inr (.inl vw))), (b0, .inr (3, [.ref b1, .ref b2, .ref b3, .ref b4, .ref b5, .ref b6, .int bn])), (b1, .inl (G.2 0, 40, .inl kf)), (b2, .inl (G.2 0, 40, .inl ff)), (b3, .inl (G.2 0, 40, .inl sf)), (b4, .inl (G.2 0, 40, .inl df)), (b5, .inl (G.2 1, 40, .inr (.inl pf))), (b6, .inl (G.2 1, 6, .inr (.inl gf)))] t.heap ∧ va_D A [(x0, .inr (5, [.ref b0, .ref s0, .ref u0, .ref v0, .int tA, .int wP, .int nT, .int aK, .int lK, .int sW, .int rF])), (s0, .inr (4, [.ref b0, .ref s1, .ref s2, .long op, .int re])), (s1, .inl (G.2 1, 384, .inr (.inl dk))), (s2, .inl (G.2 1, 40, .inr (.inl wg))), (u0, .inr (4, [.ref b0, .ref u1, .ref u2, .long uo, .int ur])), (u1, .inl (G.2 1, 384, .inr (.inl uk))), (u2, .inl (G.2 1, 40, .inr (.inl uw))), (v0, .inr (4, [.ref b0, .ref v1, .ref v2, .long vo, .int vr])), (v1, .inl (G.2 1, 384, .inr (.inl vk))), (v2, .inl (G.2 1, 40, .inr (.inl vw))), (b0, .inr (3, [.ref b1, .ref b2, .ref b3, .ref b4, .ref b5, .ref b6, .int bn])), (b1, .inl (G.2 0, 40, .inl kf)), (b2, .inl (G.2 0, 40, .inl ff)), (b3, .inl (G.2 0, 40, .inl sf)), (b4, .inl (G.2 0, 40, .inl df)), (b5, .inl (G.2 1, 40, .inr (.inl pf))), (b6, .inl (G.2 1, 6, .inr (.inl gf)))]) A) := ⟨_, rfl⟩
  rw [← hQC]
  obtain ⟨XC, hXC⟩ : ∃ Z, Z = (vx_X (fun _ : Unit => True) (fun E _ t => PP G [(x0, .inr (5, [.ref b0, .ref s0, .ref u0, .ref v0, .int tA, .int wP, .int nT, .int aK, .int lK, .int sW, .int rF])), (s0, .inr (4, [.ref b0, .ref s1, .ref s2, .long op, .int re])), (s1, .inl (G.2 1, 384, .inr (.inl dk))), (s2, .inl (G.2 1, 40, .inr (.inl wg))), (u0, .inr (4, [.ref b0, .ref u1, .ref u2, .long uo, .int ur])), (u1, .inl (G.2 1, 384, .inr (.inl uk))), (u2, .inl (G.2 1, 40, .inr (.inl uw))), (v0, .inr (4, [.ref b0, .ref v1, .ref v2, .long vo, .int vr])), (v1, .inl (G.2 1, 384, .inr (.inl vk))), (v2, .inl (G.2 1, 40, .inr (.inl vw))), (b0, .inr (3, [.ref b1, .ref b2, .ref b3, .ref b4, .ref b5, .ref b6, .int bn])), (b1, .inl (G.2 0, 40, .inl kf)), (b2, .inl (G.2 0, 40, .inl ff)), (b3, .inl (G.2 0, 40, .inl sf)), (b4, .inl (G.2 0, 40, .inl df)), (b5, .inl (G.2 1, 40, .inr (.inl pf))), (b6, .inl (G.2 1, 6, .inr (.inl gf)))] t.heap ∧ va_D A [(x0, .inr (5, [.ref b0, .ref s0, .ref u0, .ref v0, .int tA, .int wP, .int nT, .int aK, .int lK, .int sW, .int rF])), (s0, .inr (4, [.ref b0, .ref s1, .ref s2, .long op, .int re])), (s1, .inl (G.2 1, 384, .inr (.inl dk))), (s2, .inl (G.2 1, 40, .inr (.inl wg))), (u0, .inr (4, [.ref b0, .ref u1, .ref u2, .long uo, .int ur])), (u1, .inl (G.2 1, 384, .inr (.inl uk))), (u2, .inl (G.2 1, 40, .inr (.inl uw))), (v0, .inr (4, [.ref b0, .ref v1, .ref v2, .long vo, .int vr])), (v1, .inl (G.2 1, 384, .inr (.inl vk))), (v2, .inl (G.2 1, 40, .inr (.inl vw))), (b0, .inr (3, [.ref b1, .ref b2, .ref b3, .ref b4, .ref b5, .ref b6, .int bn])), (b1, .inl (G.2 0, 40, .inl kf)), (b2, .inl (G.2 0, 40, .inl ff)), (b3, .inl (G.2 0, 40, .inl sf)), (b4, .inl (G.2 0, 40, .inl df)), (b5, .inl (G.2 1, 40, .inr (.inl pf))), (b6, .inl (G.2 1, 6, .inr (.inl gf)))] ∧ postx E) A) := ⟨_, rfl⟩
  rw [← hXC]
  obtain ⟨⟨zt, hZ1, hT1⟩, hZ2⟩ := id hZ
  have hP : PP G [(x0, .inr (5, [.ref b0, .ref s0, .ref u0, .ref v0, .int tA, .int wP, .int nT, .int aK, .int lK, .int sW, .int rF])), (s0, .inr (4, [.ref b0, .ref s1, .ref s2, .long op, .int re])), (s1, .inl (G.2 1, 384, .inr (.inl dk))), (s2, .inl (G.2 1, 40, .inr (.inl wg))), (u0, .inr (4, [.ref b0, .ref u1, .ref u2, .long uo, .int ur])), (u1, .inl (G.2 1, 384, .inr (.inl uk))), (u2, .inl (G.2 1, 40, .inr (.inl uw))), (v0, .inr (4, [.ref b0, .ref v1, .ref v2, .long vo, .int vr])), (v1, .inl (G.2 1, 384, .inr (.inl vk))), (v2, .inl (G.2 1, 40, .inr (.inl vw))), (b0, .inr (3, [.ref b1, .ref b2, .ref b3, .ref b4, .ref b5, .ref b6, .int bn])), (b1, .inl (G.2 0, 40, .inl kf)), (b2, .inl (G.2 0, 40, .inl ff)), (b3, .inl (G.2 0, 40, .inl sf)), (b4, .inl (G.2 0, 40, .inl df)), (b5, .inl (G.2 1, 40, .inr (.inl pf))), (b6, .inl (G.2 1, 6, .inr (.inl gf)))] s.heap := hP
  have hl := lv_entry ([.ref x0, .int p1, .int p2]) (n := 3) (Nat.le_of_ble_eq_true rfl)
  rw [lg_entry_eq]
  generalize (lg_sl ([.ref x0, .int p1, .int p2]) ++ List.replicate (3 - (lg_sl ([.ref x0, .int p1, .int p2])).length) Slot.unset).toArray = ls at hl ⊢
  have hl : lv_has ls 3 [(0, .ref x0), (1, .int p1), (2, .int p2)] := hl
  refine lv_aload_n hx hb dX2_of_0 rfl (lv_at hl 0 rfl) ?_
  refine va_get (D := G.1) (ci := 5) (v := .ref b0) (C := RX2) (T := TX2) (N := 11) hx hb hts igX2 hown hK hP 0 rfl rfl 0 (by decide) (hts _ q176) (fun _ h9 => h9) rfl dX2_of_1 ?_
  refine lv_iload_n hx hb dX2_of_4 rfl (lv_at hl 1 rfl) ?_
  have hPc := va_P.sub (ws' := [(b0, .inr (3, [.ref b1, .ref b2, .ref b3, .ref b4, .ref b5, .ref b6, .int bn])), (b1, .inl (G.2 0, 40, .inl kf)), (b2, .inl (G.2 0, 40, .inl ff)), (b3, .inl (G.2 0, 40, .inl sf)), (b4, .inl (G.2 0, 40, .inl df)), (b5, .inl (G.2 1, 40, .inr (.inl pf))), (b6, .inl (G.2 1, 6, .inr (.inl gf)))]) hP [10, 11, 12, 13, 14, 15, 16] rfl
  refine rdI (va_runV (C := RX0) (As := [.int p1]) (rest := []) ⟨hx, hb, hml, hown, hts⟩ (kX0_holds l G b0 b1 b2 b3 b4 b5 b6 kf ff sf df pf gf bn p1 h) (cwV 1 hts (gdV q403 q115 q116 q2 q117) rfl rfl rfl (by decide +kernel) ⟨Nat.le_of_ble_eq_true rfl, Nat.le_of_ble_eq_true rfl⟩) (preV hPc hKK (va_recv hK hPc (ci := 3) (q0 := 0) rfl rfl)) rfl rfl hl.1 rfl (lv_room (Nat.le_of_ble_eq_true rfl)) dX2_of_5 ⟨Nat.zero_le _, Nat.zero_le _⟩) (fun r_1 h => ?_)
  refine lv_if_ne (tgt := 21) hx hb dX2_of_8 (by decide) (fun hc => ?_) (fun hc => ?_)
  · have h := h.1 hc
    refine lv_iload_n hx hb dX2_of_21 rfl (lv_at hl 2 rfl) ?_
    by_cases hc0 : p2 = 0
    · have h := h.1 hc0
      refine lv_tableIn (tgt := 76) hx hb dX2_of_22 (by rw [hc0]; decide) (by rw [hc0]; decide) (by rw [hc0]; rfl) (by decide) ?_
      refine lv_aload_n hx hb dX2_of_76 rfl (lv_at hl 0 rfl) ?_
      refine va_get (D := G.1) (ci := 5) (v := .ref b0) (C := RX2) (T := TX2) (N := 11) hx hb hts igX2 hown hK hP 0 rfl rfl 0 (by decide) (hts _ q176) (fun _ h9 => h9) rfl dX2_of_77 ?_
      refine lv_iload_n hx hb dX2_of_80 rfl (lv_at hl 1 rfl) ?_
      have hPc := va_P.sub (ws' := [(b0, .inr (3, [.ref b1, .ref b2, .ref b3, .ref b4, .ref b5, .ref b6, .int bn])), (b1, .inl (G.2 0, 40, .inl kf)), (b2, .inl (G.2 0, 40, .inl ff)), (b3, .inl (G.2 0, 40, .inl sf)), (b4, .inl (G.2 0, 40, .inl df)), (b5, .inl (G.2 1, 40, .inr (.inl pf))), (b6, .inl (G.2 1, 6, .inr (.inl gf)))]) hP [10, 11, 12, 13, 14, 15, 16] rfl
      refine rdI (va_runV (C := RX0) (As := [.int p1]) (rest := []) ⟨hx, hb, hml, hown, hts⟩ (kX0_kindOf l G b0 b1 b2 b3 b4 b5 b6 kf ff sf df pf gf bn p1 h) (cwV 1 hts (gdV q410 q123 q124 q2 q125) rfl rfl rfl (by decide +kernel) ⟨Nat.le_of_ble_eq_true rfl, Nat.le_of_ble_eq_true rfl⟩) (preV hPc hKK (va_recv hK hPc (ci := 3) (q0 := 0) rfl rfl)) rfl rfl hl.1 rfl (lv_room (Nat.le_of_ble_eq_true rfl)) dX2_of_81 ⟨Nat.zero_le _, Nat.zero_le _⟩) (fun r_2 h => ?_)
      refine vx_ret (W.widen (k := 1) (n := 6) (Nat.le_of_ble_eq_true rfl) (Nat.le_of_ble_eq_true rfl) ?_)
      subst hQC; exact W.iret (v := r_2) hx hb hr (fun t ht hW => ⟨⟨_, (), rfl, h, by rw [ht]; exact hP, hD⟩, hS.F ht⟩) hS.2.2 dX2_of_84
    have h := h.2 hc0
    by_cases hc1 : p2 = 1
    · have h := h.1 hc1
      refine lv_tableIn (tgt := 85) hx hb dX2_of_22 (by rw [hc1]; decide) (by rw [hc1]; decide) (by rw [hc1]; rfl) (by decide) ?_
      refine lv_aload_n hx hb dX2_of_85 rfl (lv_at hl 0 rfl) ?_
      refine va_get (D := G.1) (ci := 5) (v := .ref b0) (C := RX2) (T := TX2) (N := 11) hx hb hts igX2 hown hK hP 0 rfl rfl 0 (by decide) (hts _ q176) (fun _ h9 => h9) rfl dX2_of_86 ?_
      refine lv_iload_n hx hb dX2_of_89 rfl (lv_at hl 1 rfl) ?_
      have hPc := va_P.sub (ws' := [(b0, .inr (3, [.ref b1, .ref b2, .ref b3, .ref b4, .ref b5, .ref b6, .int bn])), (b1, .inl (G.2 0, 40, .inl kf)), (b2, .inl (G.2 0, 40, .inl ff)), (b3, .inl (G.2 0, 40, .inl sf)), (b4, .inl (G.2 0, 40, .inl df)), (b5, .inl (G.2 1, 40, .inr (.inl pf))), (b6, .inl (G.2 1, 6, .inr (.inl gf)))]) hP [10, 11, 12, 13, 14, 15, 16] rfl
      refine rdI (va_runV (C := RX0) (As := [.int p1]) (rest := []) ⟨hx, hb, hml, hown, hts⟩ (kX0_firstOf l G b0 b1 b2 b3 b4 b5 b6 kf ff sf df pf gf bn p1 h) (cwV 1 hts (gdV q411 q111 q112 q2 q113) rfl rfl rfl (by decide +kernel) ⟨Nat.le_of_ble_eq_true rfl, Nat.le_of_ble_eq_true rfl⟩) (preV hPc hKK (va_recv hK hPc (ci := 3) (q0 := 0) rfl rfl)) rfl rfl hl.1 rfl (lv_room (Nat.le_of_ble_eq_true rfl)) dX2_of_90 ⟨Nat.zero_le _, Nat.zero_le _⟩) (fun r_3 h => ?_)
      refine vx_ret (W.widen (k := 1) (n := 6) (Nat.le_of_ble_eq_true rfl) (Nat.le_of_ble_eq_true rfl) ?_)
      subst hQC; exact W.iret (v := r_3) hx hb hr (fun t ht hW => ⟨⟨_, (), rfl, h, by rw [ht]; exact hP, hD⟩, hS.F ht⟩) hS.2.2 dX2_of_93
    have h := h.2 hc1
    by_cases hc2 : p2 = 2
    · have h := h.1 hc2
      refine lv_tableIn (tgt := 94) hx hb dX2_of_22 (by rw [hc2]; decide) (by rw [hc2]; decide) (by rw [hc2]; rfl) (by decide) ?_
      refine lv_aload_n hx hb dX2_of_94 rfl (lv_at hl 0 rfl) ?_
      refine va_get (D := G.1) (ci := 5) (v := .ref b0) (C := RX2) (T := TX2) (N := 11) hx hb hts igX2 hown hK hP 0 rfl rfl 0 (by decide) (hts _ q176) (fun _ h9 => h9) rfl dX2_of_95 ?_
      refine lv_iload_n hx hb dX2_of_98 rfl (lv_at hl 1 rfl) ?_
      have hPc := va_P.sub (ws' := [(b0, .inr (3, [.ref b1, .ref b2, .ref b3, .ref b4, .ref b5, .ref b6, .int bn])), (b1, .inl (G.2 0, 40, .inl kf)), (b2, .inl (G.2 0, 40, .inl ff)), (b3, .inl (G.2 0, 40, .inl sf)), (b4, .inl (G.2 0, 40, .inl df)), (b5, .inl (G.2 1, 40, .inr (.inl pf))), (b6, .inl (G.2 1, 6, .inr (.inl gf)))]) hP [10, 11, 12, 13, 14, 15, 16] rfl
      refine rdI (va_runV (C := RX0) (As := [.int p1]) (rest := []) ⟨hx, hb, hml, hown, hts⟩ (kX0_secondOf l G b0 b1 b2 b3 b4 b5 b6 kf ff sf df pf gf bn p1 h) (cwV 1 hts (gdV q412 q119 q120 q2 q121) rfl rfl rfl (by decide +kernel) ⟨Nat.le_of_ble_eq_true rfl, Nat.le_of_ble_eq_true rfl⟩) (preV hPc hKK (va_recv hK hPc (ci := 3) (q0 := 0) rfl rfl)) rfl rfl hl.1 rfl (lv_room (Nat.le_of_ble_eq_true rfl)) dX2_of_99 ⟨Nat.zero_le _, Nat.zero_le _⟩) (fun r_4 h => ?_)
      refine vx_ret (W.widen (k := 1) (n := 6) (Nat.le_of_ble_eq_true rfl) (Nat.le_of_ble_eq_true rfl) ?_)
      subst hQC; exact W.iret (v := r_4) hx hb hr (fun t ht hW => ⟨⟨_, (), rfl, h, by rw [ht]; exact hP, hD⟩, hS.F ht⟩) hS.2.2 dX2_of_102
    have h := h.2 hc2
    by_cases hc3 : p2 = 3
    · have h := h.1 hc3
      refine lv_tableIn (tgt := 103) hx hb dX2_of_22 (by rw [hc3]; decide) (by rw [hc3]; decide) (by rw [hc3]; rfl) (by decide) ?_
      refine lv_aload_n hx hb dX2_of_103 rfl (lv_at hl 0 rfl) ?_
      refine va_get (D := G.1) (ci := 5) (v := .ref s0) (C := RX2) (T := TX2) (N := 11) hx hb hts igX2 hown hK hP 0 rfl rfl 1 (by decide) (hts _ q177) (fun _ h9 => h9) rfl dX2_of_104 ?_
      refine lv_iload_n hx hb dX2_of_107 rfl (lv_at hl 1 rfl) ?_
      have hPc := va_P.sub (ws' := [(s0, .inr (4, [.ref b0, .ref s1, .ref s2, .long op, .int re])), (s1, .inl (G.2 1, 384, .inr (.inl dk))), (s2, .inl (G.2 1, 40, .inr (.inl wg))), (b0, .inr (3, [.ref b1, .ref b2, .ref b3, .ref b4, .ref b5, .ref b6, .int bn])), (b1, .inl (G.2 0, 40, .inl kf)), (b2, .inl (G.2 0, 40, .inl ff)), (b3, .inl (G.2 0, 40, .inl sf)), (b4, .inl (G.2 0, 40, .inl df)), (b5, .inl (G.2 1, 40, .inr (.inl pf))), (b6, .inl (G.2 1, 6, .inr (.inl gf)))]) hP [1, 2, 3, 10, 11, 12, 13, 14, 15, 16] rfl
      refine rdL (va_runV (C := RX1) (As := [.int p1]) (rest := []) ⟨hx, hb, hml, hown, hts⟩ (kX1_worldsOf l G s0 s1 s2 b0 b1 b2 b3 b4 b5 b6 dk wg op re kf ff sf df pf gf bn p1 h) (cwV 1 hts (gdV q405 q135 q136 q3 q137) rfl rfl rfl (by decide +kernel) ⟨Nat.le_of_ble_eq_true rfl, Nat.le_of_ble_eq_true rfl⟩) (preV hPc hKK (va_recv hK hPc (ci := 4) (q0 := 0) rfl rfl)) rfl rfl hl.1 rfl (lv_room (Nat.le_of_ble_eq_true rfl)) dX2_of_108 ⟨Nat.zero_le _, Nat.zero_le _⟩) (fun r_5 h => ?_)
      have hPc := va_P.sub (ws' := []) hP [] rfl
      refine rdI (va_runS (As := [.long r_5]) (rest := []) ⟨hx, hb, hml, hown, hts⟩ (kJ13_bitCount_95d88 l G r_5 h) (va_cwS 1 hts (gdS q150 q151 q5 q152) rfl rfl rfl (by decide +kernel) ⟨Nat.le_of_ble_eq_true rfl, Nat.le_of_ble_eq_true rfl⟩) (preS hPc hKK) rfl rfl hl.1 rfl (lv_room (Nat.le_of_ble_eq_true rfl)) dX2_of_111 ⟨Nat.zero_le _, Nat.zero_le _⟩) (fun r_6 h => ?_)
      refine vx_ret (W.widen (k := 1) (n := 6) (Nat.le_of_ble_eq_true rfl) (Nat.le_of_ble_eq_true rfl) ?_)
      subst hQC; exact W.iret (v := r_6) hx hb hr (fun t ht hW => ⟨⟨_, (), rfl, h, by rw [ht]; exact hP, hD⟩, hS.F ht⟩) hS.2.2 dX2_of_114
    have h := h.2 hc3
    by_cases hc4 : p2 = 4
    · have h := h.1 hc4
      refine lv_tableIn (tgt := 115) hx hb dX2_of_22 (by rw [hc4]; decide) (by rw [hc4]; decide) (by rw [hc4]; rfl) (by decide) ?_
      refine lv_aload_n hx hb dX2_of_115 rfl (lv_at hl 0 rfl) ?_
      refine va_get (D := G.1) (ci := 5) (v := .ref s0) (C := RX2) (T := TX2) (N := 11) hx hb hts igX2 hown hK hP 0 rfl rfl 1 (by decide) (hts _ q177) (fun _ h9 => h9) rfl dX2_of_116 ?_
      refine lv_iload_n hx hb dX2_of_119 rfl (lv_at hl 1 rfl) ?_
      have hPc := va_P.sub (ws' := [(s0, .inr (4, [.ref b0, .ref s1, .ref s2, .long op, .int re])), (s1, .inl (G.2 1, 384, .inr (.inl dk))), (s2, .inl (G.2 1, 40, .inr (.inl wg))), (b0, .inr (3, [.ref b1, .ref b2, .ref b3, .ref b4, .ref b5, .ref b6, .int bn])), (b1, .inl (G.2 0, 40, .inl kf)), (b2, .inl (G.2 0, 40, .inl ff)), (b3, .inl (G.2 0, 40, .inl sf)), (b4, .inl (G.2 0, 40, .inl df)), (b5, .inl (G.2 1, 40, .inr (.inl pf))), (b6, .inl (G.2 1, 6, .inr (.inl gf)))]) hP [1, 2, 3, 10, 11, 12, 13, 14, 15, 16] rfl
      refine rdI (va_runV (C := RX1) (As := [.int p1]) (rest := []) ⟨hx, hb, hml, hown, hts⟩ (kX1_isTrueInReal l G s0 s1 s2 b0 b1 b2 b3 b4 b5 b6 dk wg op re kf ff sf df pf gf bn p1 h) (cwV 1 hts (gdV q413 q240 q241 q3 q242) rfl rfl rfl (by decide +kernel) ⟨Nat.le_of_ble_eq_true rfl, Nat.le_of_ble_eq_true rfl⟩) (preV hPc hKK (va_recv hK hPc (ci := 4) (q0 := 0) rfl rfl)) rfl rfl hl.1 rfl (lv_room (Nat.le_of_ble_eq_true rfl)) dX2_of_120 ⟨Nat.zero_le _, Nat.zero_le _⟩) (fun r_7 h => ?_)
      refine lv_if_eq (tgt := 130) hx hb dX2_of_123 (by decide) (fun hc => ?_) (fun hc => ?_)
      · have h := h.1 hc
        refine lv_iconst (v := 0) hx hb dX2_of_130 (by decide) ?_
        refine vx_ret (W.widen (k := 1) (n := 6) (Nat.le_of_ble_eq_true rfl) (Nat.le_of_ble_eq_true rfl) ?_)
        subst hQC; exact W.iret (v := (0 : Int32)) hx hb hr (fun t ht hW => ⟨⟨_, (), rfl, h, by rw [ht]; exact hP, hD⟩, hS.F ht⟩) hS.2.2 dX2_of_131
      · have h := h.2 hc
        refine lv_iconst (v := 1) hx hb dX2_of_126 (by decide) ?_
        refine lv_goto (tgt := 131) hx hb dX2_of_127 (by decide) ?_
        refine vx_ret (W.widen (k := 1) (n := 6) (Nat.le_of_ble_eq_true rfl) (Nat.le_of_ble_eq_true rfl) ?_)
        subst hQC; exact W.iret (v := (1 : Int32)) hx hb hr (fun t ht hW => ⟨⟨_, (), rfl, h, by rw [ht]; exact hP, hD⟩, hS.F ht⟩) hS.2.2 dX2_of_131
    have h := h.2 hc4
    by_cases hc5 : p2 = 5
    · have h := h.1 hc5
      refine lv_tableIn (tgt := 132) hx hb dX2_of_22 (by rw [hc5]; decide) (by rw [hc5]; decide) (by rw [hc5]; rfl) (by decide) ?_
      refine lv_aload_n hx hb dX2_of_132 rfl (lv_at hl 0 rfl) ?_
      refine va_get (D := G.1) (ci := 5) (v := .ref s0) (C := RX2) (T := TX2) (N := 11) hx hb hts igX2 hown hK hP 0 rfl rfl 1 (by decide) (hts _ q177) (fun _ h9 => h9) rfl dX2_of_133 ?_
      refine lv_iload_n hx hb dX2_of_136 rfl (lv_at hl 1 rfl) ?_
      have hPc := va_P.sub (ws' := [(s0, .inr (4, [.ref b0, .ref s1, .ref s2, .long op, .int re])), (s1, .inl (G.2 1, 384, .inr (.inl dk))), (s2, .inl (G.2 1, 40, .inr (.inl wg))), (b0, .inr (3, [.ref b1, .ref b2, .ref b3, .ref b4, .ref b5, .ref b6, .int bn])), (b1, .inl (G.2 0, 40, .inl kf)), (b2, .inl (G.2 0, 40, .inl ff)), (b3, .inl (G.2 0, 40, .inl sf)), (b4, .inl (G.2 0, 40, .inl df)), (b5, .inl (G.2 1, 40, .inr (.inl pf))), (b6, .inl (G.2 1, 6, .inr (.inl gf)))]) hP [1, 2, 3, 10, 11, 12, 13, 14, 15, 16] rfl
      refine rdI (va_runV (C := RX1) (As := [.int p1]) (rest := []) ⟨hx, hb, hml, hown, hts⟩ (kX1_knowersOf l G s0 s1 s2 b0 b1 b2 b3 b4 b5 b6 dk wg op re kf ff sf df pf gf bn p1 h) (cwV 1 hts (gdV q414 q232 q233 q3 q234) rfl rfl rfl (by decide +kernel) ⟨Nat.le_of_ble_eq_true rfl, Nat.le_of_ble_eq_true rfl⟩) (preV hPc hKK (va_recv hK hPc (ci := 4) (q0 := 0) rfl rfl)) rfl rfl hl.1 rfl (lv_room (Nat.le_of_ble_eq_true rfl)) dX2_of_137 ⟨Nat.zero_le _, Nat.zero_le _⟩) (fun r_8 h => ?_)
      have hPc := va_P.sub (ws' := []) hP [] rfl
      refine rdI (va_runS (As := [.int r_8]) (rest := []) ⟨hx, hb, hml, hown, hts⟩ (kJ6_bitCount_0f7a4 l G r_8 h) (va_cwS 1 hts (gdS q415 q416 q23 q417) rfl rfl rfl (by decide +kernel) ⟨Nat.le_of_ble_eq_true rfl, Nat.le_of_ble_eq_true rfl⟩) (preS hPc hKK) rfl rfl hl.1 rfl (lv_room (Nat.le_of_ble_eq_true rfl)) dX2_of_140 ⟨Nat.zero_le _, Nat.zero_le _⟩) (fun r_9 h => ?_)
      refine vx_ret (W.widen (k := 1) (n := 6) (Nat.le_of_ble_eq_true rfl) (Nat.le_of_ble_eq_true rfl) ?_)
      subst hQC; exact W.iret (v := r_9) hx hb hr (fun t ht hW => ⟨⟨_, (), rfl, h, by rw [ht]; exact hP, hD⟩, hS.F ht⟩) hS.2.2 dX2_of_143
    have h := h.2 hc5
    by_cases hc6 : p2 = 6
    · have h := h.1 hc6
      refine lv_tableIn (tgt := 144) hx hb dX2_of_22 (by rw [hc6]; decide) (by rw [hc6]; decide) (by rw [hc6]; rfl) (by decide) ?_
      refine lv_aload_n hx hb dX2_of_144 rfl (lv_at hl 0 rfl) ?_
      refine va_get (D := G.1) (ci := 5) (v := .ref s0) (C := RX2) (T := TX2) (N := 11) hx hb hts igX2 hown hK hP 0 rfl rfl 1 (by decide) (hts _ q177) (fun _ h9 => h9) rfl dX2_of_145 ?_
      refine lv_iload_n hx hb dX2_of_148 rfl (lv_at hl 1 rfl) ?_
      have hPc := va_P.sub (ws' := [(s0, .inr (4, [.ref b0, .ref s1, .ref s2, .long op, .int re])), (s1, .inl (G.2 1, 384, .inr (.inl dk))), (s2, .inl (G.2 1, 40, .inr (.inl wg))), (b0, .inr (3, [.ref b1, .ref b2, .ref b3, .ref b4, .ref b5, .ref b6, .int bn])), (b1, .inl (G.2 0, 40, .inl kf)), (b2, .inl (G.2 0, 40, .inl ff)), (b3, .inl (G.2 0, 40, .inl sf)), (b4, .inl (G.2 0, 40, .inl df)), (b5, .inl (G.2 1, 40, .inr (.inl pf))), (b6, .inl (G.2 1, 6, .inr (.inl gf)))]) hP [1, 2, 3, 10, 11, 12, 13, 14, 15, 16] rfl
      refine rdI (va_runV (C := RX1) (As := [.int p1]) (rest := []) ⟨hx, hb, hml, hown, hts⟩ (kX1_knowersOf l G s0 s1 s2 b0 b1 b2 b3 b4 b5 b6 dk wg op re kf ff sf df pf gf bn p1 h) (cwV 1 hts (gdV q414 q232 q233 q3 q234) rfl rfl rfl (by decide +kernel) ⟨Nat.le_of_ble_eq_true rfl, Nat.le_of_ble_eq_true rfl⟩) (preV hPc hKK (va_recv hK hPc (ci := 4) (q0 := 0) rfl rfl)) rfl rfl hl.1 rfl (lv_room (Nat.le_of_ble_eq_true rfl)) dX2_of_149 ⟨Nat.zero_le _, Nat.zero_le _⟩) (fun r_10 h => ?_)
      refine vx_ret (W.widen (k := 1) (n := 6) (Nat.le_of_ble_eq_true rfl) (Nat.le_of_ble_eq_true rfl) ?_)
      subst hQC; exact W.iret (v := r_10) hx hb hr (fun t ht hW => ⟨⟨_, (), rfl, h, by rw [ht]; exact hP, hD⟩, hS.F ht⟩) hS.2.2 dX2_of_152
    have h := h.2 hc6
    by_cases hc7 : p2 = 7
    · have h := h.1 hc7
      refine lv_tableIn (tgt := 153) hx hb dX2_of_22 (by rw [hc7]; decide) (by rw [hc7]; decide) (by rw [hc7]; rfl) (by decide) ?_
      refine lv_aload_n hx hb dX2_of_153 rfl (lv_at hl 0 rfl) ?_
      refine va_get (D := G.1) (ci := 5) (v := .ref s0) (C := RX2) (T := TX2) (N := 11) hx hb hts igX2 hown hK hP 0 rfl rfl 1 (by decide) (hts _ q177) (fun _ h9 => h9) rfl dX2_of_154 ?_
      refine lv_bipush (v := 63) hx hb dX2_of_157 (by decide) ?_
      have hPc := va_P.sub (ws' := [(s0, .inr (4, [.ref b0, .ref s1, .ref s2, .long op, .int re])), (s1, .inl (G.2 1, 384, .inr (.inl dk))), (s2, .inl (G.2 1, 40, .inr (.inl wg))), (b0, .inr (3, [.ref b1, .ref b2, .ref b3, .ref b4, .ref b5, .ref b6, .int bn])), (b1, .inl (G.2 0, 40, .inl kf)), (b2, .inl (G.2 0, 40, .inl ff)), (b3, .inl (G.2 0, 40, .inl sf)), (b4, .inl (G.2 0, 40, .inl df)), (b5, .inl (G.2 1, 40, .inr (.inl pf))), (b6, .inl (G.2 1, 6, .inr (.inl gf)))]) hP [1, 2, 3, 10, 11, 12, 13, 14, 15, 16] rfl
      refine rdL (va_runV (C := RX1) (As := [.int (63 : Int32)]) (rest := []) ⟨hx, hb, hml, hown, hts⟩ (kX1_reachedFromReal l G s0 s1 s2 b0 b1 b2 b3 b4 b5 b6 dk wg op re kf ff sf df pf gf bn (63 : Int32) h) (cwV 1 hts (gdV q263 q264 q265 q3 q266) rfl rfl rfl (by decide +kernel) ⟨Nat.le_of_ble_eq_true rfl, Nat.le_of_ble_eq_true rfl⟩) (preV hPc hKK (va_recv hK hPc (ci := 4) (q0 := 0) rfl rfl)) rfl rfl hl.1 rfl (lv_room (Nat.le_of_ble_eq_true rfl)) dX2_of_159 ⟨Nat.zero_le _, Nat.zero_le _⟩) (fun r_11 h => ?_)
      refine lv_aload_n hx hb dX2_of_162 rfl (lv_at hl 0 rfl) ?_
      refine va_get (D := G.1) (ci := 5) (v := .ref s0) (C := RX2) (T := TX2) (N := 11) hx hb hts igX2 hown hK hP 0 rfl rfl 1 (by decide) (hts _ q177) (fun _ h9 => h9) rfl dX2_of_163 ?_
      refine lv_iload_n hx hb dX2_of_166 rfl (lv_at hl 1 rfl) ?_
      have hPc := va_P.sub (ws' := [(s0, .inr (4, [.ref b0, .ref s1, .ref s2, .long op, .int re])), (s1, .inl (G.2 1, 384, .inr (.inl dk))), (s2, .inl (G.2 1, 40, .inr (.inl wg))), (b0, .inr (3, [.ref b1, .ref b2, .ref b3, .ref b4, .ref b5, .ref b6, .int bn])), (b1, .inl (G.2 0, 40, .inl kf)), (b2, .inl (G.2 0, 40, .inl ff)), (b3, .inl (G.2 0, 40, .inl sf)), (b4, .inl (G.2 0, 40, .inl df)), (b5, .inl (G.2 1, 40, .inr (.inl pf))), (b6, .inl (G.2 1, 6, .inr (.inl gf)))]) hP [1, 2, 3, 10, 11, 12, 13, 14, 15, 16] rfl
      refine rdL (va_runV (C := RX1) (As := [.int p1]) (rest := [.long r_11]) ⟨hx, hb, hml, hown, hts⟩ (kX1_worldsOf l G s0 s1 s2 b0 b1 b2 b3 b4 b5 b6 dk wg op re kf ff sf df pf gf bn p1 h) (cwV 1 hts (gdV q405 q135 q136 q3 q137) rfl rfl rfl (by decide +kernel) ⟨Nat.le_of_ble_eq_true rfl, Nat.le_of_ble_eq_true rfl⟩) (preV hPc hKK (va_recv hK hPc (ci := 4) (q0 := 0) rfl rfl)) rfl rfl hl.1 rfl (lv_room (Nat.le_of_ble_eq_true rfl)) dX2_of_167 ⟨Nat.zero_le _, Nat.zero_le _⟩) (fun r_12 h => ?_)
      have hPc := va_P.sub (ws' := []) hP [] rfl
      refine rdI (va_runS (As := [.long r_11, .long r_12]) (rest := []) ⟨hx, hb, hml, hown, hts⟩ (kX2_isWithin l G r_11 r_12 h) (va_cwS 2 hts (gdS q421 q173 q1 q174) rfl rfl rfl (by decide +kernel) ⟨Nat.le_of_ble_eq_true rfl, Nat.le_of_ble_eq_true rfl⟩) (preS hPc hKK) rfl rfl hl.1 rfl (lv_room (Nat.le_of_ble_eq_true rfl)) dX2_of_170 ⟨Nat.zero_le _, Nat.zero_le _⟩) (fun r_13 h => ?_)
      refine lv_if_eq (tgt := 180) hx hb dX2_of_173 (by decide) (fun hc => ?_) (fun hc => ?_)
      · have h := h.1 hc
        refine lv_iconst (v := 0) hx hb dX2_of_180 (by decide) ?_
        refine vx_ret (W.widen (k := 1) (n := 6) (Nat.le_of_ble_eq_true rfl) (Nat.le_of_ble_eq_true rfl) ?_)
        subst hQC; exact W.iret (v := (0 : Int32)) hx hb hr (fun t ht hW => ⟨⟨_, (), rfl, h, by rw [ht]; exact hP, hD⟩, hS.F ht⟩) hS.2.2 dX2_of_181
      · have h := h.2 hc
        refine lv_iconst (v := 1) hx hb dX2_of_176 (by decide) ?_
        refine lv_goto (tgt := 181) hx hb dX2_of_177 (by decide) ?_
        refine vx_ret (W.widen (k := 1) (n := 6) (Nat.le_of_ble_eq_true rfl) (Nat.le_of_ble_eq_true rfl) ?_)
        subst hQC; exact W.iret (v := (1 : Int32)) hx hb hr (fun t ht hW => ⟨⟨_, (), rfl, h, by rw [ht]; exact hP, hD⟩, hS.F ht⟩) hS.2.2 dX2_of_181
    have h := h.2 hc7
    by_cases hc8 : p2 = 8
    · have h := h.1 hc8
      refine lv_tableIn (tgt := 182) hx hb dX2_of_22 (by rw [hc8]; decide) (by rw [hc8]; decide) (by rw [hc8]; rfl) (by decide) ?_
      refine lv_aload_n hx hb dX2_of_182 rfl (lv_at hl 0 rfl) ?_
      refine va_get (D := G.1) (ci := 5) (v := .ref s0) (C := RX2) (T := TX2) (N := 11) hx hb hts igX2 hown hK hP 0 rfl rfl 1 (by decide) (hts _ q177) (fun _ h9 => h9) rfl dX2_of_183 ?_
      refine lv_iload_n hx hb dX2_of_186 rfl (lv_at hl 1 rfl) ?_
      have hPc := va_P.sub (ws' := [(s0, .inr (4, [.ref b0, .ref s1, .ref s2, .long op, .int re])), (s1, .inl (G.2 1, 384, .inr (.inl dk))), (s2, .inl (G.2 1, 40, .inr (.inl wg))), (b0, .inr (3, [.ref b1, .ref b2, .ref b3, .ref b4, .ref b5, .ref b6, .int bn])), (b1, .inl (G.2 0, 40, .inl kf)), (b2, .inl (G.2 0, 40, .inl ff)), (b3, .inl (G.2 0, 40, .inl sf)), (b4, .inl (G.2 0, 40, .inl df)), (b5, .inl (G.2 1, 40, .inr (.inl pf))), (b6, .inl (G.2 1, 6, .inr (.inl gf)))]) hP [1, 2, 3, 10, 11, 12, 13, 14, 15, 16] rfl
      refine rdI (va_runV (C := RX1) (As := [.int p1]) (rest := []) ⟨hx, hb, hml, hown, hts⟩ (kX1_fewestFor l G s0 s1 s2 b0 b1 b2 b3 b4 b5 b6 dk wg op re kf ff sf df pf gf bn p1 h) (cwV 1 hts (gdV q422 q423 q424 q3 q425) rfl rfl rfl (by decide +kernel) ⟨Nat.le_of_ble_eq_true rfl, Nat.le_of_ble_eq_true rfl⟩) (preV hPc hKK (va_recv hK hPc (ci := 4) (q0 := 0) rfl rfl)) rfl rfl hl.1 rfl (lv_room (Nat.le_of_ble_eq_true rfl)) dX2_of_187 ⟨Nat.zero_le _, Nat.zero_le _⟩) (fun r_14 h => ?_)
      refine vx_ret (W.widen (k := 1) (n := 6) (Nat.le_of_ble_eq_true rfl) (Nat.le_of_ble_eq_true rfl) ?_)
      subst hQC; exact W.iret (v := r_14) hx hb hr (fun t ht hW => ⟨⟨_, (), rfl, h, by rw [ht]; exact hP, hD⟩, hS.F ht⟩) hS.2.2 dX2_of_190
    have h := h.2 hc8
    by_cases hc9 : p2 = 9
    · have h := h.1 hc9
      refine lv_tableIn (tgt := 191) hx hb dX2_of_22 (by rw [hc9]; decide) (by rw [hc9]; decide) (by rw [hc9]; rfl) (by decide) ?_
      refine lv_aload_n hx hb dX2_of_191 rfl (lv_at hl 0 rfl) ?_
      refine va_get (D := G.1) (ci := 5) (v := .ref b0) (C := RX2) (T := TX2) (N := 11) hx hb hts igX2 hown hK hP 0 rfl rfl 0 (by decide) (hts _ q176) (fun _ h9 => h9) rfl dX2_of_192 ?_
      refine lv_iload_n hx hb dX2_of_195 rfl (lv_at hl 1 rfl) ?_
      have hPc := va_P.sub (ws' := [(b0, .inr (3, [.ref b1, .ref b2, .ref b3, .ref b4, .ref b5, .ref b6, .int bn])), (b1, .inl (G.2 0, 40, .inl kf)), (b2, .inl (G.2 0, 40, .inl ff)), (b3, .inl (G.2 0, 40, .inl sf)), (b4, .inl (G.2 0, 40, .inl df)), (b5, .inl (G.2 1, 40, .inr (.inl pf))), (b6, .inl (G.2 1, 6, .inr (.inl gf)))]) hP [10, 11, 12, 13, 14, 15, 16] rfl
      refine rdI (va_runV (C := RX0) (As := [.int p1]) (rest := []) ⟨hx, hb, hml, hown, hts⟩ (kX0_builtDeep l G b0 b1 b2 b3 b4 b5 b6 kf ff sf df pf gf bn p1 h) (cwV 1 hts (gdV q427 q428 q429 q2 q430) rfl rfl rfl (by decide +kernel) ⟨Nat.le_of_ble_eq_true rfl, Nat.le_of_ble_eq_true rfl⟩) (preV hPc hKK (va_recv hK hPc (ci := 3) (q0 := 0) rfl rfl)) rfl rfl hl.1 rfl (lv_room (Nat.le_of_ble_eq_true rfl)) dX2_of_196 ⟨Nat.zero_le _, Nat.zero_le _⟩) (fun r_15 h => ?_)
      refine vx_ret (W.widen (k := 1) (n := 6) (Nat.le_of_ble_eq_true rfl) (Nat.le_of_ble_eq_true rfl) ?_)
      subst hQC; exact W.iret (v := r_15) hx hb hr (fun t ht hW => ⟨⟨_, (), rfl, h, by rw [ht]; exact hP, hD⟩, hS.F ht⟩) hS.2.2 dX2_of_199
    have h := h.2 hc9
    refine lv_tableOut (tgt := 200) hx hb dX2_of_22 (tsw_0_9 hc0 hc1 hc2 hc3 hc4 hc5 hc6 hc7 hc8 hc9) (by decide) ?_
    obtain ⟨sa, hsa⟩ := hR.1 ("NightdeskRota", 213, "no such question of a sentence") (List.mem_of_getElem? (i := 5) rfl)
    subst hXC
    exact vx_throwS (names := rtx) (text := "no such question of a sentence") (sa := sa) hx hb hfl hown (by decide +kernel) (by decide +kernel) (hts _ q273) (hts _ q14) hsa (hatX hat43a hat43b hts hN hZ) hgd43 hZ.2.1 hZ.2.2 hS (hl.1.trans hml.symm) dX2_of_200 dX2_of_203 dX2_of_204 dX2_of_206 dX2_of_209 (fun x hx => (hT x hx).elim) (Nat.le_of_ble_eq_true rfl) (Nat.le_of_ble_eq_true rfl) (Nat.le_of_ble_eq_true rfl) (Nat.le_of_ble_eq_true rfl) hlocks (fun t ht h1 h2 => ⟨(), trivial, ⟨keepAll hP h2, hD, h⟩, h1, fun q hq _ => h2 q hq⟩) hS.2.2 (Nat.le_refl _) (Nat.le_refl _)
  · have h := h.2 hc
    obtain ⟨sa, hsa⟩ := hR.1 ("NightdeskRota", 119, "no such sentence") (List.mem_of_getElem? (i := 4) rfl)
    subst hXC
    exact vx_throwS (names := rtx) (text := "no such sentence") (sa := sa) hx hb hfl hown (by decide +kernel) (by decide +kernel) (hts _ q349) (hts _ q22) hsa (hatX hat87a hat87b hts hN hZ) hgd87 hZ.2.1 hZ.2.2 hS (hl.1.trans hml.symm) dX2_of_11 dX2_of_14 dX2_of_15 dX2_of_17 dX2_of_20 (fun x hx => (hT x hx).elim) (Nat.le_of_ble_eq_true rfl) (Nat.le_of_ble_eq_true rfl) (Nat.le_of_ble_eq_true rfl) (Nat.le_of_ble_eq_true rfl) hlocks (fun t ht h1 h2 => ⟨(), trivial, ⟨keepAll hP h2, hD, h⟩, h1, fun q hq _ => h2 q hq⟩) hS.2.2 (Nat.le_refl _) (Nat.le_refl _)
def wnX2_of (post : Int32 → Prop) (dk : Nat → Int64) (wg : Nat → Int64) (op : Int64) (re : Int32) (kf : Nat → Int32) (ff : Nat → Int32) (sf : Nat → Int32) (df : Nat → Int32) (bn : Int32) (p1 : Int32) (p2 : Int32) : Prop :=
  wX0_holds (fun r_1 : Int32 =>
    ((¬ r_1 = 0) →
      (p2 = 0 →
        wX0_kindOf (fun r_2 : Int32 =>
          post r_2
          ) kf bn p1
      ) ∧ (¬ p2 = 0 →
      (p2 = 1 →
        wX0_firstOf (fun r_3 : Int32 =>
          post r_3
          ) ff bn p1
      ) ∧ (¬ p2 = 1 →
      (p2 = 2 →
        wX0_secondOf (fun r_4 : Int32 =>
          post r_4
          ) sf bn p1
      ) ∧ (¬ p2 = 2 →
      (p2 = 3 →
        wX1_worldsOf (fun r_5 : Int64 =>
          wJ13_bitCount_95d88 (fun r_6 : Int32 =>
            post r_6
            ) r_5
          ) wg bn p1
      ) ∧ (¬ p2 = 3 →
      (p2 = 4 →
        wX1_isTrueInReal (fun r_7 : Int32 =>
          ((r_7 = 0) →
            post (0 : Int32)
          ) ∧ (¬ (r_7 = 0) →
            post (1 : Int32)
          )
          ) wg re bn p1
      ) ∧ (¬ p2 = 4 →
      (p2 = 5 →
        wX1_knowersOf (fun r_8 : Int32 =>
          wJ6_bitCount_0f7a4 (fun r_9 : Int32 =>
            post r_9
            ) r_8
          ) dk wg op re bn p1
      ) ∧ (¬ p2 = 5 →
      (p2 = 6 →
        wX1_knowersOf (fun r_10 : Int32 =>
          post r_10
          ) dk wg op re bn p1
      ) ∧ (¬ p2 = 6 →
      (p2 = 7 →
        wX1_reachedFromReal (fun r_11 : Int64 =>
          wX1_worldsOf (fun r_12 : Int64 =>
            wX2_isWithin (fun r_13 : Int32 =>
              ((r_13 = 0) →
                post (0 : Int32)
              ) ∧ (¬ (r_13 = 0) →
                post (1 : Int32)
              )
              ) r_11 r_12
            ) wg bn p1
          ) dk op re (63 : Int32)
      ) ∧ (¬ p2 = 7 →
      (p2 = 8 →
        wX1_fewestFor (fun r_14 : Int32 =>
          post r_14
          ) dk wg op re bn p1
      ) ∧ (¬ p2 = 8 →
      (p2 = 9 →
        wX0_builtDeep (fun r_15 : Int32 =>
          post r_15
          ) df bn p1
      ) ∧ (¬ p2 = 9 →
        False
      ))))))))))
    ) ∧ ((r_1 = 0) →
      False
    )
    ) bn p1
abbrev wl_nX2_of : List Cond := .code yX2_of cX2_of 3 (some .int) :: lwg
abbrev rm_nX2_of : Room := { frames := 5, cells := 0, slots := 0, locals := 122 }
set_option maxHeartbeats 4000000 in
set_option maxRecDepth 100000 in
theorem knX2_of {post : Int32 → Prop} (l : Launch) (G : GT) (x0 : Nat) (s0 : Nat) (s1 : Nat) (s2 : Nat) (u0 : Nat) (u1 : Nat) (u2 : Nat) (v0 : Nat) (v1 : Nat) (v2 : Nat) (b0 : Nat) (b1 : Nat) (b2 : Nat) (b3 : Nat) (b4 : Nat) (b5 : Nat) (b6 : Nat) (tA : Int32) (wP : Int32) (nT : Int32) (aK : Int32) (lK : Int32) (sW : Int32) (rF : Int32) (dk : Nat → Int64) (wg : Nat → Int64) (op : Int64) (re : Int32) (uk : Nat → Int64) (uw : Nat → Int64) (uo : Int64) (ur : Int32) (vk : Nat → Int64) (vw : Nat → Int64) (vo : Int64) (vr : Int32) (kf : Nat → Int32) (ff : Nat → Int32) (sf : Nat → Int32) (df : Nat → Int32) (pf : Nat → Int64) (gf : Nat → Int64) (bn : Int32) (p1 : Int32) (p2 : Int32) (h : wnX2_of post dk wg op re kf ff sf df bn p1 p2) : Met l yX2_of wl_nX2_of rm_nX2_of (va_Pc [.ref x0, .int p1, .int p2] (fun U => PP G [(x0, .inr (5, [.ref b0, .ref s0, .ref u0, .ref v0, .int tA, .int wP, .int nT, .int aK, .int lK, .int sW, .int rF])), (s0, .inr (4, [.ref b0, .ref s1, .ref s2, .long op, .int re])), (s1, .inl (G.2 1, 384, .inr (.inl dk))), (s2, .inl (G.2 1, 40, .inr (.inl wg))), (u0, .inr (4, [.ref b0, .ref u1, .ref u2, .long uo, .int ur])), (u1, .inl (G.2 1, 384, .inr (.inl uk))), (u2, .inl (G.2 1, 40, .inr (.inl uw))), (v0, .inr (4, [.ref b0, .ref v1, .ref v2, .long vo, .int vr])), (v1, .inl (G.2 1, 384, .inr (.inl vk))), (v2, .inl (G.2 1, 40, .inr (.inl vw))), (b0, .inr (3, [.ref b1, .ref b2, .ref b3, .ref b4, .ref b5, .ref b6, .int bn])), (b1, .inl (G.2 0, 40, .inl kf)), (b2, .inl (G.2 0, 40, .inl ff)), (b3, .inl (G.2 0, 40, .inl sf)), (b4, .inl (G.2 0, 40, .inl df)), (b5, .inl (G.2 1, 40, .inr (.inl pf))), (b6, .inl (G.2 1, 6, .inr (.inl gf)))] U.heap ∧ KK G U)) (vp_Si post) 0 0 (fun _ => False) := by
  refine Met.ofW (cc := cX2_of) (maxL := 3) (ret := (some .int)) (by decide) rfl ?_
  intro p e s m args below meth c s₁ B hml hv
  obtain ⟨rfl, hP, hKK⟩ := hv
  obtain ⟨hK, hN, hR, hFW, hNC⟩ := id hKK
  have hx := B.exec
  have hb := B.bytes
  have hr := B.returns
  have hts0 := atoms_spec (ws := wl_nX2_of) B.pre
  have hts : ∀ w ∈ lwg, w.before ([.ref x0, .int p1, .int p2] : List Value).toArray s = true := fun w hw => hts0 w (List.mem_cons_of_mem _ hw)
  have hown : s.vm.findClass RX2 = some m.cls := findClass_of_methodNamed B.named
  have hlocks := B.notSynchronized
  have hP : PP G [(x0, .inr (5, [.ref b0, .ref s0, .ref u0, .ref v0, .int tA, .int wP, .int nT, .int aK, .int lK, .int sW, .int rF])), (s0, .inr (4, [.ref b0, .ref s1, .ref s2, .long op, .int re])), (s1, .inl (G.2 1, 384, .inr (.inl dk))), (s2, .inl (G.2 1, 40, .inr (.inl wg))), (u0, .inr (4, [.ref b0, .ref u1, .ref u2, .long uo, .int ur])), (u1, .inl (G.2 1, 384, .inr (.inl uk))), (u2, .inl (G.2 1, 40, .inr (.inl uw))), (v0, .inr (4, [.ref b0, .ref v1, .ref v2, .long vo, .int vr])), (v1, .inl (G.2 1, 384, .inr (.inl vk))), (v2, .inl (G.2 1, 40, .inr (.inl vw))), (b0, .inr (3, [.ref b1, .ref b2, .ref b3, .ref b4, .ref b5, .ref b6, .int bn])), (b1, .inl (G.2 0, 40, .inl kf)), (b2, .inl (G.2 0, 40, .inl ff)), (b3, .inl (G.2 0, 40, .inl sf)), (b4, .inl (G.2 0, 40, .inl df)), (b5, .inl (G.2 1, 40, .inr (.inl pf))), (b6, .inl (G.2 1, 6, .inr (.inl gf)))] s.heap := hP
  have hl := lv_entry ([.ref x0, .int p1, .int p2]) (n := 3) (Nat.le_of_ble_eq_true rfl)
  rw [lg_entry_eq]
  generalize (lg_sl ([.ref x0, .int p1, .int p2]) ++ List.replicate (3 - (lg_sl ([.ref x0, .int p1, .int p2])).length) Slot.unset).toArray = ls at hl ⊢
  have hl : lv_has ls 3 [(0, .ref x0), (1, .int p1), (2, .int p2)] := hl
  refine lv_aload_n hx hb dX2_of_0 rfl (lv_at hl 0 rfl) ?_
  refine va_get (D := G.1) (ci := 5) (v := .ref b0) (C := RX2) (T := TX2) (N := 11) hx hb hts igX2 hown hK hP 0 rfl rfl 0 (by decide) (hts _ q176) (fun _ h9 => h9) rfl dX2_of_1 ?_
  refine lv_iload_n hx hb dX2_of_4 rfl (lv_at hl 1 rfl) ?_
  have hPc := va_P.sub (ws' := [(b0, .inr (3, [.ref b1, .ref b2, .ref b3, .ref b4, .ref b5, .ref b6, .int bn])), (b1, .inl (G.2 0, 40, .inl kf)), (b2, .inl (G.2 0, 40, .inl ff)), (b3, .inl (G.2 0, 40, .inl sf)), (b4, .inl (G.2 0, 40, .inl df)), (b5, .inl (G.2 1, 40, .inr (.inl pf))), (b6, .inl (G.2 1, 6, .inr (.inl gf)))]) hP [10, 11, 12, 13, 14, 15, 16] rfl
  refine rdI (va_runV (C := RX0) (As := [.int p1]) (rest := []) ⟨hx, hb, hml, hown, hts⟩ (kX0_holds l G b0 b1 b2 b3 b4 b5 b6 kf ff sf df pf gf bn p1 h) (cwV 1 hts (gdV q403 q115 q116 q2 q117) rfl rfl rfl (by decide +kernel) ⟨Nat.le_of_ble_eq_true rfl, Nat.le_of_ble_eq_true rfl⟩) (preV hPc hKK (va_recv hK hPc (ci := 3) (q0 := 0) rfl rfl)) rfl rfl hl.1 rfl (lv_room (Nat.le_of_ble_eq_true rfl)) dX2_of_5 ⟨Nat.zero_le _, Nat.zero_le _⟩) (fun r_1 h => ?_)
  refine lv_if_ne (tgt := 21) hx hb dX2_of_8 (by decide) (fun hc => ?_) (fun hc => ?_)
  · have h := h.1 hc
    refine lv_iload_n hx hb dX2_of_21 rfl (lv_at hl 2 rfl) ?_
    by_cases hc0 : p2 = 0
    · have h := h.1 hc0
      refine lv_tableIn (tgt := 76) hx hb dX2_of_22 (by rw [hc0]; decide) (by rw [hc0]; decide) (by rw [hc0]; rfl) (by decide) ?_
      refine lv_aload_n hx hb dX2_of_76 rfl (lv_at hl 0 rfl) ?_
      refine va_get (D := G.1) (ci := 5) (v := .ref b0) (C := RX2) (T := TX2) (N := 11) hx hb hts igX2 hown hK hP 0 rfl rfl 0 (by decide) (hts _ q176) (fun _ h9 => h9) rfl dX2_of_77 ?_
      refine lv_iload_n hx hb dX2_of_80 rfl (lv_at hl 1 rfl) ?_
      have hPc := va_P.sub (ws' := [(b0, .inr (3, [.ref b1, .ref b2, .ref b3, .ref b4, .ref b5, .ref b6, .int bn])), (b1, .inl (G.2 0, 40, .inl kf)), (b2, .inl (G.2 0, 40, .inl ff)), (b3, .inl (G.2 0, 40, .inl sf)), (b4, .inl (G.2 0, 40, .inl df)), (b5, .inl (G.2 1, 40, .inr (.inl pf))), (b6, .inl (G.2 1, 6, .inr (.inl gf)))]) hP [10, 11, 12, 13, 14, 15, 16] rfl
      refine rdI (va_runV (C := RX0) (As := [.int p1]) (rest := []) ⟨hx, hb, hml, hown, hts⟩ (kX0_kindOf l G b0 b1 b2 b3 b4 b5 b6 kf ff sf df pf gf bn p1 h) (cwV 1 hts (gdV q410 q123 q124 q2 q125) rfl rfl rfl (by decide +kernel) ⟨Nat.le_of_ble_eq_true rfl, Nat.le_of_ble_eq_true rfl⟩) (preV hPc hKK (va_recv hK hPc (ci := 3) (q0 := 0) rfl rfl)) rfl rfl hl.1 rfl (lv_room (Nat.le_of_ble_eq_true rfl)) dX2_of_81 ⟨Nat.zero_le _, Nat.zero_le _⟩) (fun r_2 h => ?_)
      exact W.iret (v := r_2) hx hb hr (fun t ht _ => ⟨_, rfl, h, ht⟩) (fun _ hq => absurd hq List.not_mem_nil) dX2_of_84
    have h := h.2 hc0
    by_cases hc1 : p2 = 1
    · have h := h.1 hc1
      refine lv_tableIn (tgt := 85) hx hb dX2_of_22 (by rw [hc1]; decide) (by rw [hc1]; decide) (by rw [hc1]; rfl) (by decide) ?_
      refine lv_aload_n hx hb dX2_of_85 rfl (lv_at hl 0 rfl) ?_
      refine va_get (D := G.1) (ci := 5) (v := .ref b0) (C := RX2) (T := TX2) (N := 11) hx hb hts igX2 hown hK hP 0 rfl rfl 0 (by decide) (hts _ q176) (fun _ h9 => h9) rfl dX2_of_86 ?_
      refine lv_iload_n hx hb dX2_of_89 rfl (lv_at hl 1 rfl) ?_
      have hPc := va_P.sub (ws' := [(b0, .inr (3, [.ref b1, .ref b2, .ref b3, .ref b4, .ref b5, .ref b6, .int bn])), (b1, .inl (G.2 0, 40, .inl kf)), (b2, .inl (G.2 0, 40, .inl ff)), (b3, .inl (G.2 0, 40, .inl sf)), (b4, .inl (G.2 0, 40, .inl df)), (b5, .inl (G.2 1, 40, .inr (.inl pf))), (b6, .inl (G.2 1, 6, .inr (.inl gf)))]) hP [10, 11, 12, 13, 14, 15, 16] rfl
      refine rdI (va_runV (C := RX0) (As := [.int p1]) (rest := []) ⟨hx, hb, hml, hown, hts⟩ (kX0_firstOf l G b0 b1 b2 b3 b4 b5 b6 kf ff sf df pf gf bn p1 h) (cwV 1 hts (gdV q411 q111 q112 q2 q113) rfl rfl rfl (by decide +kernel) ⟨Nat.le_of_ble_eq_true rfl, Nat.le_of_ble_eq_true rfl⟩) (preV hPc hKK (va_recv hK hPc (ci := 3) (q0 := 0) rfl rfl)) rfl rfl hl.1 rfl (lv_room (Nat.le_of_ble_eq_true rfl)) dX2_of_90 ⟨Nat.zero_le _, Nat.zero_le _⟩) (fun r_3 h => ?_)
      exact W.iret (v := r_3) hx hb hr (fun t ht _ => ⟨_, rfl, h, ht⟩) (fun _ hq => absurd hq List.not_mem_nil) dX2_of_93
    have h := h.2 hc1
    by_cases hc2 : p2 = 2
    · have h := h.1 hc2
      refine lv_tableIn (tgt := 94) hx hb dX2_of_22 (by rw [hc2]; decide) (by rw [hc2]; decide) (by rw [hc2]; rfl) (by decide) ?_
      refine lv_aload_n hx hb dX2_of_94 rfl (lv_at hl 0 rfl) ?_
      refine va_get (D := G.1) (ci := 5) (v := .ref b0) (C := RX2) (T := TX2) (N := 11) hx hb hts igX2 hown hK hP 0 rfl rfl 0 (by decide) (hts _ q176) (fun _ h9 => h9) rfl dX2_of_95 ?_
      refine lv_iload_n hx hb dX2_of_98 rfl (lv_at hl 1 rfl) ?_
      have hPc := va_P.sub (ws' := [(b0, .inr (3, [.ref b1, .ref b2, .ref b3, .ref b4, .ref b5, .ref b6, .int bn])), (b1, .inl (G.2 0, 40, .inl kf)), (b2, .inl (G.2 0, 40, .inl ff)), (b3, .inl (G.2 0, 40, .inl sf)), (b4, .inl (G.2 0, 40, .inl df)), (b5, .inl (G.2 1, 40, .inr (.inl pf))), (b6, .inl (G.2 1, 6, .inr (.inl gf)))]) hP [10, 11, 12, 13, 14, 15, 16] rfl
      refine rdI (va_runV (C := RX0) (As := [.int p1]) (rest := []) ⟨hx, hb, hml, hown, hts⟩ (kX0_secondOf l G b0 b1 b2 b3 b4 b5 b6 kf ff sf df pf gf bn p1 h) (cwV 1 hts (gdV q412 q119 q120 q2 q121) rfl rfl rfl (by decide +kernel) ⟨Nat.le_of_ble_eq_true rfl, Nat.le_of_ble_eq_true rfl⟩) (preV hPc hKK (va_recv hK hPc (ci := 3) (q0 := 0) rfl rfl)) rfl rfl hl.1 rfl (lv_room (Nat.le_of_ble_eq_true rfl)) dX2_of_99 ⟨Nat.zero_le _, Nat.zero_le _⟩) (fun r_4 h => ?_)
      exact W.iret (v := r_4) hx hb hr (fun t ht _ => ⟨_, rfl, h, ht⟩) (fun _ hq => absurd hq List.not_mem_nil) dX2_of_102
    have h := h.2 hc2
    by_cases hc3 : p2 = 3
    · have h := h.1 hc3
      refine lv_tableIn (tgt := 103) hx hb dX2_of_22 (by rw [hc3]; decide) (by rw [hc3]; decide) (by rw [hc3]; rfl) (by decide) ?_
      refine lv_aload_n hx hb dX2_of_103 rfl (lv_at hl 0 rfl) ?_
      refine va_get (D := G.1) (ci := 5) (v := .ref s0) (C := RX2) (T := TX2) (N := 11) hx hb hts igX2 hown hK hP 0 rfl rfl 1 (by decide) (hts _ q177) (fun _ h9 => h9) rfl dX2_of_104 ?_
      refine lv_iload_n hx hb dX2_of_107 rfl (lv_at hl 1 rfl) ?_
      have hPc := va_P.sub (ws' := [(s0, .inr (4, [.ref b0, .ref s1, .ref s2, .long op, .int re])), (s1, .inl (G.2 1, 384, .inr (.inl dk))), (s2, .inl (G.2 1, 40, .inr (.inl wg))), (b0, .inr (3, [.ref b1, .ref b2, .ref b3, .ref b4, .ref b5, .ref b6, .int bn])), (b1, .inl (G.2 0, 40, .inl kf)), (b2, .inl (G.2 0, 40, .inl ff)), (b3, .inl (G.2 0, 40, .inl sf)), (b4, .inl (G.2 0, 40, .inl df)), (b5, .inl (G.2 1, 40, .inr (.inl pf))), (b6, .inl (G.2 1, 6, .inr (.inl gf)))]) hP [1, 2, 3, 10, 11, 12, 13, 14, 15, 16] rfl
      refine rdL (va_runV (C := RX1) (As := [.int p1]) (rest := []) ⟨hx, hb, hml, hown, hts⟩ (kX1_worldsOf l G s0 s1 s2 b0 b1 b2 b3 b4 b5 b6 dk wg op re kf ff sf df pf gf bn p1 h) (cwV 1 hts (gdV q405 q135 q136 q3 q137) rfl rfl rfl (by decide +kernel) ⟨Nat.le_of_ble_eq_true rfl, Nat.le_of_ble_eq_true rfl⟩) (preV hPc hKK (va_recv hK hPc (ci := 4) (q0 := 0) rfl rfl)) rfl rfl hl.1 rfl (lv_room (Nat.le_of_ble_eq_true rfl)) dX2_of_108 ⟨Nat.zero_le _, Nat.zero_le _⟩) (fun r_5 h => ?_)
      have hPc := va_P.sub (ws' := []) hP [] rfl
      refine rdI (va_runS (As := [.long r_5]) (rest := []) ⟨hx, hb, hml, hown, hts⟩ (kJ13_bitCount_95d88 l G r_5 h) (va_cwS 1 hts (gdS q150 q151 q5 q152) rfl rfl rfl (by decide +kernel) ⟨Nat.le_of_ble_eq_true rfl, Nat.le_of_ble_eq_true rfl⟩) (preS hPc hKK) rfl rfl hl.1 rfl (lv_room (Nat.le_of_ble_eq_true rfl)) dX2_of_111 ⟨Nat.zero_le _, Nat.zero_le _⟩) (fun r_6 h => ?_)
      exact W.iret (v := r_6) hx hb hr (fun t ht _ => ⟨_, rfl, h, ht⟩) (fun _ hq => absurd hq List.not_mem_nil) dX2_of_114
    have h := h.2 hc3
    by_cases hc4 : p2 = 4
    · have h := h.1 hc4
      refine lv_tableIn (tgt := 115) hx hb dX2_of_22 (by rw [hc4]; decide) (by rw [hc4]; decide) (by rw [hc4]; rfl) (by decide) ?_
      refine lv_aload_n hx hb dX2_of_115 rfl (lv_at hl 0 rfl) ?_
      refine va_get (D := G.1) (ci := 5) (v := .ref s0) (C := RX2) (T := TX2) (N := 11) hx hb hts igX2 hown hK hP 0 rfl rfl 1 (by decide) (hts _ q177) (fun _ h9 => h9) rfl dX2_of_116 ?_
      refine lv_iload_n hx hb dX2_of_119 rfl (lv_at hl 1 rfl) ?_
      have hPc := va_P.sub (ws' := [(s0, .inr (4, [.ref b0, .ref s1, .ref s2, .long op, .int re])), (s1, .inl (G.2 1, 384, .inr (.inl dk))), (s2, .inl (G.2 1, 40, .inr (.inl wg))), (b0, .inr (3, [.ref b1, .ref b2, .ref b3, .ref b4, .ref b5, .ref b6, .int bn])), (b1, .inl (G.2 0, 40, .inl kf)), (b2, .inl (G.2 0, 40, .inl ff)), (b3, .inl (G.2 0, 40, .inl sf)), (b4, .inl (G.2 0, 40, .inl df)), (b5, .inl (G.2 1, 40, .inr (.inl pf))), (b6, .inl (G.2 1, 6, .inr (.inl gf)))]) hP [1, 2, 3, 10, 11, 12, 13, 14, 15, 16] rfl
      refine rdI (va_runV (C := RX1) (As := [.int p1]) (rest := []) ⟨hx, hb, hml, hown, hts⟩ (kX1_isTrueInReal l G s0 s1 s2 b0 b1 b2 b3 b4 b5 b6 dk wg op re kf ff sf df pf gf bn p1 h) (cwV 1 hts (gdV q413 q240 q241 q3 q242) rfl rfl rfl (by decide +kernel) ⟨Nat.le_of_ble_eq_true rfl, Nat.le_of_ble_eq_true rfl⟩) (preV hPc hKK (va_recv hK hPc (ci := 4) (q0 := 0) rfl rfl)) rfl rfl hl.1 rfl (lv_room (Nat.le_of_ble_eq_true rfl)) dX2_of_120 ⟨Nat.zero_le _, Nat.zero_le _⟩) (fun r_7 h => ?_)
      refine lv_if_eq (tgt := 130) hx hb dX2_of_123 (by decide) (fun hc => ?_) (fun hc => ?_)
      · have h := h.1 hc
        refine lv_iconst (v := 0) hx hb dX2_of_130 (by decide) ?_
        exact W.iret (v := (0 : Int32)) hx hb hr (fun t ht _ => ⟨_, rfl, h, ht⟩) (fun _ hq => absurd hq List.not_mem_nil) dX2_of_131
      · have h := h.2 hc
        refine lv_iconst (v := 1) hx hb dX2_of_126 (by decide) ?_
        refine lv_goto (tgt := 131) hx hb dX2_of_127 (by decide) ?_
        exact W.iret (v := (1 : Int32)) hx hb hr (fun t ht _ => ⟨_, rfl, h, ht⟩) (fun _ hq => absurd hq List.not_mem_nil) dX2_of_131
    have h := h.2 hc4
    by_cases hc5 : p2 = 5
    · have h := h.1 hc5
      refine lv_tableIn (tgt := 132) hx hb dX2_of_22 (by rw [hc5]; decide) (by rw [hc5]; decide) (by rw [hc5]; rfl) (by decide) ?_
      refine lv_aload_n hx hb dX2_of_132 rfl (lv_at hl 0 rfl) ?_
      refine va_get (D := G.1) (ci := 5) (v := .ref s0) (C := RX2) (T := TX2) (N := 11) hx hb hts igX2 hown hK hP 0 rfl rfl 1 (by decide) (hts _ q177) (fun _ h9 => h9) rfl dX2_of_133 ?_
      refine lv_iload_n hx hb dX2_of_136 rfl (lv_at hl 1 rfl) ?_
      have hPc := va_P.sub (ws' := [(s0, .inr (4, [.ref b0, .ref s1, .ref s2, .long op, .int re])), (s1, .inl (G.2 1, 384, .inr (.inl dk))), (s2, .inl (G.2 1, 40, .inr (.inl wg))), (b0, .inr (3, [.ref b1, .ref b2, .ref b3, .ref b4, .ref b5, .ref b6, .int bn])), (b1, .inl (G.2 0, 40, .inl kf)), (b2, .inl (G.2 0, 40, .inl ff)), (b3, .inl (G.2 0, 40, .inl sf)), (b4, .inl (G.2 0, 40, .inl df)), (b5, .inl (G.2 1, 40, .inr (.inl pf))), (b6, .inl (G.2 1, 6, .inr (.inl gf)))]) hP [1, 2, 3, 10, 11, 12, 13, 14, 15, 16] rfl
      refine rdI (va_runV (C := RX1) (As := [.int p1]) (rest := []) ⟨hx, hb, hml, hown, hts⟩ (kX1_knowersOf l G s0 s1 s2 b0 b1 b2 b3 b4 b5 b6 dk wg op re kf ff sf df pf gf bn p1 h) (cwV 1 hts (gdV q414 q232 q233 q3 q234) rfl rfl rfl (by decide +kernel) ⟨Nat.le_of_ble_eq_true rfl, Nat.le_of_ble_eq_true rfl⟩) (preV hPc hKK (va_recv hK hPc (ci := 4) (q0 := 0) rfl rfl)) rfl rfl hl.1 rfl (lv_room (Nat.le_of_ble_eq_true rfl)) dX2_of_137 ⟨Nat.zero_le _, Nat.zero_le _⟩) (fun r_8 h => ?_)
      have hPc := va_P.sub (ws' := []) hP [] rfl
      refine rdI (va_runS (As := [.int r_8]) (rest := []) ⟨hx, hb, hml, hown, hts⟩ (kJ6_bitCount_0f7a4 l G r_8 h) (va_cwS 1 hts (gdS q415 q416 q23 q417) rfl rfl rfl (by decide +kernel) ⟨Nat.le_of_ble_eq_true rfl, Nat.le_of_ble_eq_true rfl⟩) (preS hPc hKK) rfl rfl hl.1 rfl (lv_room (Nat.le_of_ble_eq_true rfl)) dX2_of_140 ⟨Nat.zero_le _, Nat.zero_le _⟩) (fun r_9 h => ?_)
      exact W.iret (v := r_9) hx hb hr (fun t ht _ => ⟨_, rfl, h, ht⟩) (fun _ hq => absurd hq List.not_mem_nil) dX2_of_143
    have h := h.2 hc5
    by_cases hc6 : p2 = 6
    · have h := h.1 hc6
      refine lv_tableIn (tgt := 144) hx hb dX2_of_22 (by rw [hc6]; decide) (by rw [hc6]; decide) (by rw [hc6]; rfl) (by decide) ?_
      refine lv_aload_n hx hb dX2_of_144 rfl (lv_at hl 0 rfl) ?_
      refine va_get (D := G.1) (ci := 5) (v := .ref s0) (C := RX2) (T := TX2) (N := 11) hx hb hts igX2 hown hK hP 0 rfl rfl 1 (by decide) (hts _ q177) (fun _ h9 => h9) rfl dX2_of_145 ?_
      refine lv_iload_n hx hb dX2_of_148 rfl (lv_at hl 1 rfl) ?_
      have hPc := va_P.sub (ws' := [(s0, .inr (4, [.ref b0, .ref s1, .ref s2, .long op, .int re])), (s1, .inl (G.2 1, 384, .inr (.inl dk))), (s2, .inl (G.2 1, 40, .inr (.inl wg))), (b0, .inr (3, [.ref b1, .ref b2, .ref b3, .ref b4, .ref b5, .ref b6, .int bn])), (b1, .inl (G.2 0, 40, .inl kf)), (b2, .inl (G.2 0, 40, .inl ff)), (b3, .inl (G.2 0, 40, .inl sf)), (b4, .inl (G.2 0, 40, .inl df)), (b5, .inl (G.2 1, 40, .inr (.inl pf))), (b6, .inl (G.2 1, 6, .inr (.inl gf)))]) hP [1, 2, 3, 10, 11, 12, 13, 14, 15, 16] rfl
      refine rdI (va_runV (C := RX1) (As := [.int p1]) (rest := []) ⟨hx, hb, hml, hown, hts⟩ (kX1_knowersOf l G s0 s1 s2 b0 b1 b2 b3 b4 b5 b6 dk wg op re kf ff sf df pf gf bn p1 h) (cwV 1 hts (gdV q414 q232 q233 q3 q234) rfl rfl rfl (by decide +kernel) ⟨Nat.le_of_ble_eq_true rfl, Nat.le_of_ble_eq_true rfl⟩) (preV hPc hKK (va_recv hK hPc (ci := 4) (q0 := 0) rfl rfl)) rfl rfl hl.1 rfl (lv_room (Nat.le_of_ble_eq_true rfl)) dX2_of_149 ⟨Nat.zero_le _, Nat.zero_le _⟩) (fun r_10 h => ?_)
      exact W.iret (v := r_10) hx hb hr (fun t ht _ => ⟨_, rfl, h, ht⟩) (fun _ hq => absurd hq List.not_mem_nil) dX2_of_152
    have h := h.2 hc6
    by_cases hc7 : p2 = 7
    · have h := h.1 hc7
      refine lv_tableIn (tgt := 153) hx hb dX2_of_22 (by rw [hc7]; decide) (by rw [hc7]; decide) (by rw [hc7]; rfl) (by decide) ?_
      refine lv_aload_n hx hb dX2_of_153 rfl (lv_at hl 0 rfl) ?_
      refine va_get (D := G.1) (ci := 5) (v := .ref s0) (C := RX2) (T := TX2) (N := 11) hx hb hts igX2 hown hK hP 0 rfl rfl 1 (by decide) (hts _ q177) (fun _ h9 => h9) rfl dX2_of_154 ?_
      refine lv_bipush (v := 63) hx hb dX2_of_157 (by decide) ?_
      have hPc := va_P.sub (ws' := [(s0, .inr (4, [.ref b0, .ref s1, .ref s2, .long op, .int re])), (s1, .inl (G.2 1, 384, .inr (.inl dk))), (s2, .inl (G.2 1, 40, .inr (.inl wg))), (b0, .inr (3, [.ref b1, .ref b2, .ref b3, .ref b4, .ref b5, .ref b6, .int bn])), (b1, .inl (G.2 0, 40, .inl kf)), (b2, .inl (G.2 0, 40, .inl ff)), (b3, .inl (G.2 0, 40, .inl sf)), (b4, .inl (G.2 0, 40, .inl df)), (b5, .inl (G.2 1, 40, .inr (.inl pf))), (b6, .inl (G.2 1, 6, .inr (.inl gf)))]) hP [1, 2, 3, 10, 11, 12, 13, 14, 15, 16] rfl
      refine rdL (va_runV (C := RX1) (As := [.int (63 : Int32)]) (rest := []) ⟨hx, hb, hml, hown, hts⟩ (kX1_reachedFromReal l G s0 s1 s2 b0 b1 b2 b3 b4 b5 b6 dk wg op re kf ff sf df pf gf bn (63 : Int32) h) (cwV 1 hts (gdV q263 q264 q265 q3 q266) rfl rfl rfl (by decide +kernel) ⟨Nat.le_of_ble_eq_true rfl, Nat.le_of_ble_eq_true rfl⟩) (preV hPc hKK (va_recv hK hPc (ci := 4) (q0 := 0) rfl rfl)) rfl rfl hl.1 rfl (lv_room (Nat.le_of_ble_eq_true rfl)) dX2_of_159 ⟨Nat.zero_le _, Nat.zero_le _⟩) (fun r_11 h => ?_)
      refine lv_aload_n hx hb dX2_of_162 rfl (lv_at hl 0 rfl) ?_
      refine va_get (D := G.1) (ci := 5) (v := .ref s0) (C := RX2) (T := TX2) (N := 11) hx hb hts igX2 hown hK hP 0 rfl rfl 1 (by decide) (hts _ q177) (fun _ h9 => h9) rfl dX2_of_163 ?_
      refine lv_iload_n hx hb dX2_of_166 rfl (lv_at hl 1 rfl) ?_
      have hPc := va_P.sub (ws' := [(s0, .inr (4, [.ref b0, .ref s1, .ref s2, .long op, .int re])), (s1, .inl (G.2 1, 384, .inr (.inl dk))), (s2, .inl (G.2 1, 40, .inr (.inl wg))), (b0, .inr (3, [.ref b1, .ref b2, .ref b3, .ref b4, .ref b5, .ref b6, .int bn])), (b1, .inl (G.2 0, 40, .inl kf)), (b2, .inl (G.2 0, 40, .inl ff)), (b3, .inl (G.2 0, 40, .inl sf)), (b4, .inl (G.2 0, 40, .inl df)), (b5, .inl (G.2 1, 40, .inr (.inl pf))), (b6, .inl (G.2 1, 6, .inr (.inl gf)))]) hP [1, 2, 3, 10, 11, 12, 13, 14, 15, 16] rfl
      refine rdL (va_runV (C := RX1) (As := [.int p1]) (rest := [.long r_11]) ⟨hx, hb, hml, hown, hts⟩ (kX1_worldsOf l G s0 s1 s2 b0 b1 b2 b3 b4 b5 b6 dk wg op re kf ff sf df pf gf bn p1 h) (cwV 1 hts (gdV q405 q135 q136 q3 q137) rfl rfl rfl (by decide +kernel) ⟨Nat.le_of_ble_eq_true rfl, Nat.le_of_ble_eq_true rfl⟩) (preV hPc hKK (va_recv hK hPc (ci := 4) (q0 := 0) rfl rfl)) rfl rfl hl.1 rfl (lv_room (Nat.le_of_ble_eq_true rfl)) dX2_of_167 ⟨Nat.zero_le _, Nat.zero_le _⟩) (fun r_12 h => ?_)
      have hPc := va_P.sub (ws' := []) hP [] rfl
      refine rdI (va_runS (As := [.long r_11, .long r_12]) (rest := []) ⟨hx, hb, hml, hown, hts⟩ (kX2_isWithin l G r_11 r_12 h) (va_cwS 2 hts (gdS q421 q173 q1 q174) rfl rfl rfl (by decide +kernel) ⟨Nat.le_of_ble_eq_true rfl, Nat.le_of_ble_eq_true rfl⟩) (preS hPc hKK) rfl rfl hl.1 rfl (lv_room (Nat.le_of_ble_eq_true rfl)) dX2_of_170 ⟨Nat.zero_le _, Nat.zero_le _⟩) (fun r_13 h => ?_)
      refine lv_if_eq (tgt := 180) hx hb dX2_of_173 (by decide) (fun hc => ?_) (fun hc => ?_)
      · have h := h.1 hc
        refine lv_iconst (v := 0) hx hb dX2_of_180 (by decide) ?_
        exact W.iret (v := (0 : Int32)) hx hb hr (fun t ht _ => ⟨_, rfl, h, ht⟩) (fun _ hq => absurd hq List.not_mem_nil) dX2_of_181
      · have h := h.2 hc
        refine lv_iconst (v := 1) hx hb dX2_of_176 (by decide) ?_
        refine lv_goto (tgt := 181) hx hb dX2_of_177 (by decide) ?_
        exact W.iret (v := (1 : Int32)) hx hb hr (fun t ht _ => ⟨_, rfl, h, ht⟩) (fun _ hq => absurd hq List.not_mem_nil) dX2_of_181
    have h := h.2 hc7
    by_cases hc8 : p2 = 8
    · have h := h.1 hc8
      refine lv_tableIn (tgt := 182) hx hb dX2_of_22 (by rw [hc8]; decide) (by rw [hc8]; decide) (by rw [hc8]; rfl) (by decide) ?_
      refine lv_aload_n hx hb dX2_of_182 rfl (lv_at hl 0 rfl) ?_
      refine va_get (D := G.1) (ci := 5) (v := .ref s0) (C := RX2) (T := TX2) (N := 11) hx hb hts igX2 hown hK hP 0 rfl rfl 1 (by decide) (hts _ q177) (fun _ h9 => h9) rfl dX2_of_183 ?_
      refine lv_iload_n hx hb dX2_of_186 rfl (lv_at hl 1 rfl) ?_
      have hPc := va_P.sub (ws' := [(s0, .inr (4, [.ref b0, .ref s1, .ref s2, .long op, .int re])), (s1, .inl (G.2 1, 384, .inr (.inl dk))), (s2, .inl (G.2 1, 40, .inr (.inl wg))), (b0, .inr (3, [.ref b1, .ref b2, .ref b3, .ref b4, .ref b5, .ref b6, .int bn])), (b1, .inl (G.2 0, 40, .inl kf)), (b2, .inl (G.2 0, 40, .inl ff)), (b3, .inl (G.2 0, 40, .inl sf)), (b4, .inl (G.2 0, 40, .inl df)), (b5, .inl (G.2 1, 40, .inr (.inl pf))), (b6, .inl (G.2 1, 6, .inr (.inl gf)))]) hP [1, 2, 3, 10, 11, 12, 13, 14, 15, 16] rfl
      refine rdI (va_runV (C := RX1) (As := [.int p1]) (rest := []) ⟨hx, hb, hml, hown, hts⟩ (kX1_fewestFor l G s0 s1 s2 b0 b1 b2 b3 b4 b5 b6 dk wg op re kf ff sf df pf gf bn p1 h) (cwV 1 hts (gdV q422 q423 q424 q3 q425) rfl rfl rfl (by decide +kernel) ⟨Nat.le_of_ble_eq_true rfl, Nat.le_of_ble_eq_true rfl⟩) (preV hPc hKK (va_recv hK hPc (ci := 4) (q0 := 0) rfl rfl)) rfl rfl hl.1 rfl (lv_room (Nat.le_of_ble_eq_true rfl)) dX2_of_187 ⟨Nat.zero_le _, Nat.zero_le _⟩) (fun r_14 h => ?_)
      exact W.iret (v := r_14) hx hb hr (fun t ht _ => ⟨_, rfl, h, ht⟩) (fun _ hq => absurd hq List.not_mem_nil) dX2_of_190
    have h := h.2 hc8
    by_cases hc9 : p2 = 9
    · have h := h.1 hc9
      refine lv_tableIn (tgt := 191) hx hb dX2_of_22 (by rw [hc9]; decide) (by rw [hc9]; decide) (by rw [hc9]; rfl) (by decide) ?_
      refine lv_aload_n hx hb dX2_of_191 rfl (lv_at hl 0 rfl) ?_
      refine va_get (D := G.1) (ci := 5) (v := .ref b0) (C := RX2) (T := TX2) (N := 11) hx hb hts igX2 hown hK hP 0 rfl rfl 0 (by decide) (hts _ q176) (fun _ h9 => h9) rfl dX2_of_192 ?_
      refine lv_iload_n hx hb dX2_of_195 rfl (lv_at hl 1 rfl) ?_
      have hPc := va_P.sub (ws' := [(b0, .inr (3, [.ref b1, .ref b2, .ref b3, .ref b4, .ref b5, .ref b6, .int bn])), (b1, .inl (G.2 0, 40, .inl kf)), (b2, .inl (G.2 0, 40, .inl ff)), (b3, .inl (G.2 0, 40, .inl sf)), (b4, .inl (G.2 0, 40, .inl df)), (b5, .inl (G.2 1, 40, .inr (.inl pf))), (b6, .inl (G.2 1, 6, .inr (.inl gf)))]) hP [10, 11, 12, 13, 14, 15, 16] rfl
      refine rdI (va_runV (C := RX0) (As := [.int p1]) (rest := []) ⟨hx, hb, hml, hown, hts⟩ (kX0_builtDeep l G b0 b1 b2 b3 b4 b5 b6 kf ff sf df pf gf bn p1 h) (cwV 1 hts (gdV q427 q428 q429 q2 q430) rfl rfl rfl (by decide +kernel) ⟨Nat.le_of_ble_eq_true rfl, Nat.le_of_ble_eq_true rfl⟩) (preV hPc hKK (va_recv hK hPc (ci := 3) (q0 := 0) rfl rfl)) rfl rfl hl.1 rfl (lv_room (Nat.le_of_ble_eq_true rfl)) dX2_of_196 ⟨Nat.zero_le _, Nat.zero_le _⟩) (fun r_15 h => ?_)
      exact W.iret (v := r_15) hx hb hr (fun t ht _ => ⟨_, rfl, h, ht⟩) (fun _ hq => absurd hq List.not_mem_nil) dX2_of_199
    have h := h.2 hc9
    refine lv_tableOut (tgt := 200) hx hb dX2_of_22 (tsw_0_9 hc0 hc1 hc2 hc3 hc4 hc5 hc6 hc7 hc8 hc9) (by decide) ?_
    exact False.elim h
  · have h := h.2 hc
    exact False.elim h
theorem dX2_alike_0 : decode cX2_alike 0 = .ok (.iload_n 1, 1) := by decide +kernel
theorem dX2_alike_1 : decode cX2_alike 1 = .ok (.invokestatic 77, 3) := by decide +kernel
theorem dX2_alike_4 : decode cX2_alike 4 = .ok (.ifCond .eq 10, 3) := by decide +kernel
theorem dX2_alike_7 : decode cX2_alike 7 = .ok (.iload_n 2, 1) := by decide +kernel
theorem dX2_alike_8 : decode cX2_alike 8 = .ok (.invokestatic 35, 3) := by decide +kernel
theorem dX2_alike_11 : decode cX2_alike 11 = .ok (.ifCond .ne 13, 3) := by decide +kernel
theorem dX2_alike_14 : decode cX2_alike 14 = .ok (.new 83, 3) := by decide +kernel
theorem dX2_alike_17 : decode cX2_alike 17 = .ok (.dup, 1) := by decide +kernel
theorem dX2_alike_18 : decode cX2_alike 18 = .ok (.ldc 215, 2) := by decide +kernel
theorem dX2_alike_20 : decode cX2_alike 20 = .ok (.invokespecial 87, 3) := by decide +kernel
theorem dX2_alike_23 : decode cX2_alike 23 = .ok (.athrow, 1) := by decide +kernel
theorem dX2_alike_24 : decode cX2_alike 24 = .ok (.aload_n 0, 1) := by decide +kernel
theorem dX2_alike_25 : decode cX2_alike 25 = .ok (.getfield 21, 3) := by decide +kernel
theorem dX2_alike_28 : decode cX2_alike 28 = .ok (.getfield 135, 3) := by decide +kernel
theorem dX2_alike_31 : decode cX2_alike 31 = .ok (.iload_n 2, 1) := by decide +kernel
theorem dX2_alike_32 : decode cX2_alike 32 = .ok (.invokestatic 183, 3) := by decide +kernel
theorem dX2_alike_35 : decode cX2_alike 35 = .ok (.ifCond .eq 15, 3) := by decide +kernel
theorem dX2_alike_38 : decode cX2_alike 38 = .ok (.aload_n 0, 1) := by decide +kernel
theorem dX2_alike_39 : decode cX2_alike 39 = .ok (.getfield 21, 3) := by decide +kernel
theorem dX2_alike_42 : decode cX2_alike 42 = .ok (.iload_n 1, 1) := by decide +kernel
theorem dX2_alike_43 : decode cX2_alike 43 = .ok (.iload_n 2, 1) := by decide +kernel
theorem dX2_alike_44 : decode cX2_alike 44 = .ok (.invokevirtual 106, 3) := by decide +kernel
theorem dX2_alike_47 : decode cX2_alike 47 = .ok (.goto 4, 3) := by decide +kernel
theorem dX2_alike_50 : decode cX2_alike 50 = .ok (.lconst 0, 1) := by decide +kernel
theorem dX2_alike_51 : decode cX2_alike 51 = .ok (.lreturn, 1) := by decide +kernel
def wxX2_alike (post : Int64 → Unit → Prop) (postx : String → Prop) (dk : Nat → Int64) (op : Int64) (p1 : Int32) (p2 : Int32) : Prop :=
  wX2_isGuard (fun r_1 : Int32 =>
    ((r_1 = 0) →
      postx "java/lang/IndexOutOfBoundsException"
    ) ∧ (¬ (r_1 = 0) →
      wX2_isWorld (fun r_2 : Int32 =>
        ((¬ r_2 = 0) →
          wX2_has (fun r_3 : Int32 =>
            ((r_3 = 0) →
              post (0 : Int64) ()
            ) ∧ (¬ (r_3 = 0) →
              wX1_cell (fun r_4 : Int64 =>
                post r_4 ()
                ) dk op p1 p2
            )
            ) op p2
        ) ∧ ((r_2 = 0) →
          postx "java/lang/IndexOutOfBoundsException"
        )
        ) p2
    )
    ) p1
abbrev wl_xX2_alike : List Cond := .code yX2_alike cX2_alike 3 (some .long) :: lwg
abbrev rm_xX2_alike : Room := { frames := 6, cells := 1, slots := 6, locals := 98 }
set_option maxHeartbeats 4000000 in
set_option maxRecDepth 100000 in
theorem kxX2_alike {post : Int64 → Unit → Prop} {postx : String → Prop} (l : Launch) (hfl : l.stackTraces = false) (G : GT) (x0 : Nat) (s0 : Nat) (s1 : Nat) (s2 : Nat) (u0 : Nat) (u1 : Nat) (u2 : Nat) (v0 : Nat) (v1 : Nat) (v2 : Nat) (b0 : Nat) (b1 : Nat) (b2 : Nat) (b3 : Nat) (b4 : Nat) (b5 : Nat) (b6 : Nat) (tA : Int32) (wP : Int32) (nT : Int32) (aK : Int32) (lK : Int32) (sW : Int32) (rF : Int32) (dk : Nat → Int64) (wg : Nat → Int64) (op : Int64) (re : Int32) (uk : Nat → Int64) (uw : Nat → Int64) (uo : Int64) (ur : Int32) (vk : Nat → Int64) (vw : Nat → Int64) (vo : Int64) (vr : Int32) (kf : Nat → Int32) (ff : Nat → Int32) (sf : Nat → Int32) (df : Nat → Int32) (pf : Nat → Int64) (gf : Nat → Int64) (bn : Int32) (p1 : Int32) (p2 : Int32) (sz : Nat) (h : wxX2_alike post postx dk op p1 p2) : vx_Met l yX2_alike wl_xX2_alike rm_xX2_alike (va_Pc [.ref x0, .int p1, .int p2] (fun U => U.heap.size = sz ∧ PP G [(x0, .inr (5, [.ref b0, .ref s0, .ref u0, .ref v0, .int tA, .int wP, .int nT, .int aK, .int lK, .int sW, .int rF])), (s0, .inr (4, [.ref b0, .ref s1, .ref s2, .long op, .int re])), (s1, .inl (G.2 1, 384, .inr (.inl dk))), (s2, .inl (G.2 1, 40, .inr (.inl wg))), (u0, .inr (4, [.ref b0, .ref u1, .ref u2, .long uo, .int ur])), (u1, .inl (G.2 1, 384, .inr (.inl uk))), (u2, .inl (G.2 1, 40, .inr (.inl uw))), (v0, .inr (4, [.ref b0, .ref v1, .ref v2, .long vo, .int vr])), (v1, .inl (G.2 1, 384, .inr (.inl vk))), (v2, .inl (G.2 1, 40, .inr (.inl vw))), (b0, .inr (3, [.ref b1, .ref b2, .ref b3, .ref b4, .ref b5, .ref b6, .int bn])), (b1, .inl (G.2 0, 40, .inl kf)), (b2, .inl (G.2 0, 40, .inl ff)), (b3, .inl (G.2 0, 40, .inl sf)), (b4, .inl (G.2 0, 40, .inl df)), (b5, .inl (G.2 1, 40, .inr (.inl pf))), (b6, .inl (G.2 1, 6, .inr (.inl gf)))] U.heap ∧ KK G U ∧ va_D (fun _ => True) [(x0, .inr (5, [.ref b0, .ref s0, .ref u0, .ref v0, .int tA, .int wP, .int nT, .int aK, .int lK, .int sW, .int rF])), (s0, .inr (4, [.ref b0, .ref s1, .ref s2, .long op, .int re])), (s1, .inl (G.2 1, 384, .inr (.inl dk))), (s2, .inl (G.2 1, 40, .inr (.inl wg))), (u0, .inr (4, [.ref b0, .ref u1, .ref u2, .long uo, .int ur])), (u1, .inl (G.2 1, 384, .inr (.inl uk))), (u2, .inl (G.2 1, 40, .inr (.inl uw))), (v0, .inr (4, [.ref b0, .ref v1, .ref v2, .long vo, .int vr])), (v1, .inl (G.2 1, 384, .inr (.inl vk))), (v2, .inl (G.2 1, 40, .inr (.inl vw))), (b0, .inr (3, [.ref b1, .ref b2, .ref b3, .ref b4, .ref b5, .ref b6, .int bn])), (b1, .inl (G.2 0, 40, .inl kf)), (b2, .inl (G.2 0, 40, .inl ff)), (b3, .inl (G.2 0, 40, .inl sf)), (b4, .inl (G.2 0, 40, .inl df)), (b5, .inl (G.2 1, 40, .inr (.inl pf))), (b6, .inl (G.2 1, 6, .inr (.inl gf)))] ∧ ZZ (va_A [(x0, .inr (5, [.ref b0, .ref s0, .ref u0, .ref v0, .int tA, .int wP, .int nT, .int aK, .int lK, .int sW, .int rF])), (s0, .inr (4, [.ref b0, .ref s1, .ref s2, .long op, .int re])), (s1, .inl (G.2 1, 384, .inr (.inl dk))), (s2, .inl (G.2 1, 40, .inr (.inl wg))), (u0, .inr (4, [.ref b0, .ref u1, .ref u2, .long uo, .int ur])), (u1, .inl (G.2 1, 384, .inr (.inl uk))), (u2, .inl (G.2 1, 40, .inr (.inl uw))), (v0, .inr (4, [.ref b0, .ref v1, .ref v2, .long vo, .int vr])), (v1, .inl (G.2 1, 384, .inr (.inl vk))), (v2, .inl (G.2 1, 40, .inr (.inl vw))), (b0, .inr (3, [.ref b1, .ref b2, .ref b3, .ref b4, .ref b5, .ref b6, .int bn])), (b1, .inl (G.2 0, 40, .inl kf)), (b2, .inl (G.2 0, 40, .inl ff)), (b3, .inl (G.2 0, 40, .inl sf)), (b4, .inl (G.2 0, 40, .inl df)), (b5, .inl (G.2 1, 40, .inr (.inl pf))), (b6, .inl (G.2 1, 6, .inr (.inl gf)))] sz) U U.heap)) (va_Ql post (fun u t => PP G [(x0, .inr (5, [.ref b0, .ref s0, .ref u0, .ref v0, .int tA, .int wP, .int nT, .int aK, .int lK, .int sW, .int rF])), (s0, .inr (4, [.ref b0, .ref s1, .ref s2, .long op, .int re])), (s1, .inl (G.2 1, 384, .inr (.inl dk))), (s2, .inl (G.2 1, 40, .inr (.inl wg))), (u0, .inr (4, [.ref b0, .ref u1, .ref u2, .long uo, .int ur])), (u1, .inl (G.2 1, 384, .inr (.inl uk))), (u2, .inl (G.2 1, 40, .inr (.inl uw))), (v0, .inr (4, [.ref b0, .ref v1, .ref v2, .long vo, .int vr])), (v1, .inl (G.2 1, 384, .inr (.inl vk))), (v2, .inl (G.2 1, 40, .inr (.inl vw))), (b0, .inr (3, [.ref b1, .ref b2, .ref b3, .ref b4, .ref b5, .ref b6, .int bn])), (b1, .inl (G.2 0, 40, .inl kf)), (b2, .inl (G.2 0, 40, .inl ff)), (b3, .inl (G.2 0, 40, .inl sf)), (b4, .inl (G.2 0, 40, .inl df)), (b5, .inl (G.2 1, 40, .inr (.inl pf))), (b6, .inl (G.2 1, 6, .inr (.inl gf)))] t.heap ∧ va_D (va_A [(x0, .inr (5, [.ref b0, .ref s0, .ref u0, .ref v0, .int tA, .int wP, .int nT, .int aK, .int lK, .int sW, .int rF])), (s0, .inr (4, [.ref b0, .ref s1, .ref s2, .long op, .int re])), (s1, .inl (G.2 1, 384, .inr (.inl dk))), (s2, .inl (G.2 1, 40, .inr (.inl wg))), (u0, .inr (4, [.ref b0, .ref u1, .ref u2, .long uo, .int ur])), (u1, .inl (G.2 1, 384, .inr (.inl uk))), (u2, .inl (G.2 1, 40, .inr (.inl uw))), (v0, .inr (4, [.ref b0, .ref v1, .ref v2, .long vo, .int vr])), (v1, .inl (G.2 1, 384, .inr (.inl vk))), (v2, .inl (G.2 1, 40, .inr (.inl vw))), (b0, .inr (3, [.ref b1, .ref b2, .ref b3, .ref b4, .ref b5, .ref b6, .int bn])), (b1, .inl (G.2 0, 40, .inl kf)), (b2, .inl (G.2 0, 40, .inl ff)), (b3, .inl (G.2 0, 40, .inl sf)), (b4, .inl (G.2 0, 40, .inl df)), (b5, .inl (G.2 1, 40, .inr (.inl pf))), (b6, .inl (G.2 1, 6, .inr (.inl gf)))] sz) [(x0, .inr (5, [.ref b0, .ref s0, .ref u0, .ref v0, .int tA, .int wP, .int nT, .int aK, .int lK, .int sW, .int rF])), (s0, .inr (4, [.ref b0, .ref s1, .ref s2, .long op, .int re])), (s1, .inl (G.2 1, 384, .inr (.inl dk))), (s2, .inl (G.2 1, 40, .inr (.inl wg))), (u0, .inr (4, [.ref b0, .ref u1, .ref u2, .long uo, .int ur])), (u1, .inl (G.2 1, 384, .inr (.inl uk))), (u2, .inl (G.2 1, 40, .inr (.inl uw))), (v0, .inr (4, [.ref b0, .ref v1, .ref v2, .long vo, .int vr])), (v1, .inl (G.2 1, 384, .inr (.inl vk))), (v2, .inl (G.2 1, 40, .inr (.inl vw))), (b0, .inr (3, [.ref b1, .ref b2, .ref b3, .ref b4, .ref b5, .ref b6, .int bn])), (b1, .inl (G.2 0, 40, .inl kf)), (b2, .inl (G.2 0, 40, .inl ff)), (b3, .inl (G.2 0, 40, .inl sf)), (b4, .inl (G.2 0, 40, .inl df)), (b5, .inl (G.2 1, 40, .inr (.inl pf))), (b6, .inl (G.2 1, 6, .inr (.inl gf)))]) (va_A [(x0, .inr (5, [.ref b0, .ref s0, .ref u0, .ref v0, .int tA, .int wP, .int nT, .int aK, .int lK, .int sW, .int rF])), (s0, .inr (4, [.ref b0, .ref s1, .ref s2, .long op, .int re])), (s1, .inl (G.2 1, 384, .inr (.inl dk))), (s2, .inl (G.2 1, 40, .inr (.inl wg))), (u0, .inr (4, [.ref b0, .ref u1, .ref u2, .long uo, .int ur])), (u1, .inl (G.2 1, 384, .inr (.inl uk))), (u2, .inl (G.2 1, 40, .inr (.inl uw))), (v0, .inr (4, [.ref b0, .ref v1, .ref v2, .long vo, .int vr])), (v1, .inl (G.2 1, 384, .inr (.inl vk))), (v2, .inl (G.2 1, 40, .inr (.inl vw))), (b0, .inr (3, [.ref b1, .ref b2, .ref b3, .ref b4, .ref b5, .ref b6, .int bn])), (b1, .inl (G.2 0, 40, .inl kf)), (b2, .inl (G.2 0, 40, .inl ff)), (b3, .inl (G.2 0, 40, .inl sf)), (b4, .inl (G.2 0, 40, .inl df)), (b5, .inl (G.2 1, 40, .inr (.inl pf))), (b6, .inl (G.2 1, 6, .inr (.inl gf)))] sz)) (vx_X (fun _ : Unit => True) (fun E _ t => PP G [(x0, .inr (5, [.ref b0, .ref s0, .ref u0, .ref v0, .int tA, .int wP, .int nT, .int aK, .int lK, .int sW, .int rF])), (s0, .inr (4, [.ref b0, .ref s1, .ref s2, .long op, .int re])), (s1, .inl (G.2 1, 384, .inr (.inl dk))), (s2, .inl (G.2 1, 40, .inr (.inl wg))), (u0, .inr (4, [.ref b0, .ref u1, .ref u2, .long uo, .int ur])), (u1, .inl (G.2 1, 384, .inr (.inl uk))), (u2, .inl (G.2 1, 40, .inr (.inl uw))), (v0, .inr (4, [.ref b0, .ref v1, .ref v2, .long vo, .int vr])), (v1, .inl (G.2 1, 384, .inr (.inl vk))), (v2, .inl (G.2 1, 40, .inr (.inl vw))), (b0, .inr (3, [.ref b1, .ref b2, .ref b3, .ref b4, .ref b5, .ref b6, .int bn])), (b1, .inl (G.2 0, 40, .inl kf)), (b2, .inl (G.2 0, 40, .inl ff)), (b3, .inl (G.2 0, 40, .inl sf)), (b4, .inl (G.2 0, 40, .inl df)), (b5, .inl (G.2 1, 40, .inr (.inl pf))), (b6, .inl (G.2 1, 6, .inr (.inl gf)))] t.heap ∧ va_D (va_A [(x0, .inr (5, [.ref b0, .ref s0, .ref u0, .ref v0, .int tA, .int wP, .int nT, .int aK, .int lK, .int sW, .int rF])), (s0, .inr (4, [.ref b0, .ref s1, .ref s2, .long op, .int re])), (s1, .inl (G.2 1, 384, .inr (.inl dk))), (s2, .inl (G.2 1, 40, .inr (.inl wg))), (u0, .inr (4, [.ref b0, .ref u1, .ref u2, .long uo, .int ur])), (u1, .inl (G.2 1, 384, .inr (.inl uk))), (u2, .inl (G.2 1, 40, .inr (.inl uw))), (v0, .inr (4, [.ref b0, .ref v1, .ref v2, .long vo, .int vr])), (v1, .inl (G.2 1, 384, .inr (.inl vk))), (v2, .inl (G.2 1, 40, .inr (.inl vw))), (b0, .inr (3, [.ref b1, .ref b2, .ref b3, .ref b4, .ref b5, .ref b6, .int bn])), (b1, .inl (G.2 0, 40, .inl kf)), (b2, .inl (G.2 0, 40, .inl ff)), (b3, .inl (G.2 0, 40, .inl sf)), (b4, .inl (G.2 0, 40, .inl df)), (b5, .inl (G.2 1, 40, .inr (.inl pf))), (b6, .inl (G.2 1, 6, .inr (.inl gf)))] sz) [(x0, .inr (5, [.ref b0, .ref s0, .ref u0, .ref v0, .int tA, .int wP, .int nT, .int aK, .int lK, .int sW, .int rF])), (s0, .inr (4, [.ref b0, .ref s1, .ref s2, .long op, .int re])), (s1, .inl (G.2 1, 384, .inr (.inl dk))), (s2, .inl (G.2 1, 40, .inr (.inl wg))), (u0, .inr (4, [.ref b0, .ref u1, .ref u2, .long uo, .int ur])), (u1, .inl (G.2 1, 384, .inr (.inl uk))), (u2, .inl (G.2 1, 40, .inr (.inl uw))), (v0, .inr (4, [.ref b0, .ref v1, .ref v2, .long vo, .int vr])), (v1, .inl (G.2 1, 384, .inr (.inl vk))), (v2, .inl (G.2 1, 40, .inr (.inl vw))), (b0, .inr (3, [.ref b1, .ref b2, .ref b3, .ref b4, .ref b5, .ref b6, .int bn])), (b1, .inl (G.2 0, 40, .inl kf)), (b2, .inl (G.2 0, 40, .inl ff)), (b3, .inl (G.2 0, 40, .inl sf)), (b4, .inl (G.2 0, 40, .inl df)), (b5, .inl (G.2 1, 40, .inr (.inl pf))), (b6, .inl (G.2 1, 6, .inr (.inl gf)))] ∧ postx E) (va_A [(x0, .inr (5, [.ref b0, .ref s0, .ref u0, .ref v0, .int tA, .int wP, .int nT, .int aK, .int lK, .int sW, .int rF])), (s0, .inr (4, [.ref b0, .ref s1, .ref s2, .long op, .int re])), (s1, .inl (G.2 1, 384, .inr (.inl dk))), (s2, .inl (G.2 1, 40, .inr (.inl wg))), (u0, .inr (4, [.ref b0, .ref u1, .ref u2, .long uo, .int ur])), (u1, .inl (G.2 1, 384, .inr (.inl uk))), (u2, .inl (G.2 1, 40, .inr (.inl uw))), (v0, .inr (4, [.ref b0, .ref v1, .ref v2, .long vo, .int vr])), (v1, .inl (G.2 1, 384, .inr (.inl vk))), (v2, .inl (G.2 1, 40, .inr (.inl vw))), (b0, .inr (3, [.ref b1, .ref b2, .ref b3, .ref b4, .ref b5, .ref b6, .int bn])), (b1, .inl (G.2 0, 40, .inl kf)), (b2, .inl (G.2 0, 40, .inl ff)), (b3, .inl (G.2 0, 40, .inl sf)), (b4, .inl (G.2 0, 40, .inl df)), (b5, .inl (G.2 1, 40, .inr (.inl pf))), (b6, .inl (G.2 1, 6, .inr (.inl gf)))] sz)) 1 6 (va_A [(x0, .inr (5, [.ref b0, .ref s0, .ref u0, .ref v0, .int tA, .int wP, .int nT, .int aK, .int lK, .int sW, .int rF])), (s0, .inr (4, [.ref b0, .ref s1, .ref s2, .long op, .int re])), (s1, .inl (G.2 1, 384, .inr (.inl dk))), (s2, .inl (G.2 1, 40, .inr (.inl wg))), (u0, .inr (4, [.ref b0, .ref u1, .ref u2, .long uo, .int ur])), (u1, .inl (G.2 1, 384, .inr (.inl uk))), (u2, .inl (G.2 1, 40, .inr (.inl uw))), (v0, .inr (4, [.ref b0, .ref v1, .ref v2, .long vo, .int vr])), (v1, .inl (G.2 1, 384, .inr (.inl vk))), (v2, .inl (G.2 1, 40, .inr (.inl vw))), (b0, .inr (3, [.ref b1, .ref b2, .ref b3, .ref b4, .ref b5, .ref b6, .int bn])), (b1, .inl (G.2 0, 40, .inl kf)), (b2, .inl (G.2 0, 40, .inl ff)), (b3, .inl (G.2 0, 40, .inl sf)), (b4, .inl (G.2 0, 40, .inl df)), (b5, .inl (G.2 1, 40, .inr (.inl pf))), (b6, .inl (G.2 1, 6, .inr (.inl gf)))] sz) := by
  refine vx_ofW (cc := cX2_alike) (maxL := 3) (ret := (some .long)) (by decide) rfl ?_
  intro p e s m args below meth c s₁ B hml hT hv
  obtain ⟨rfl, hsz, hP, hKK, hD0, hZ⟩ := hv
  obtain ⟨hK, hN, hR, hFW, hNC⟩ := id hKK
  have hx := B.exec
  have hb := B.bytes
  have hr := B.returns
  have hts0 := atoms_spec (ws := wl_xX2_alike) B.pre
  have hts : ∀ w ∈ lwg, w.before ([.ref x0, .int p1, .int p2] : List Value).toArray s = true := fun w hw => hts0 w (List.mem_cons_of_mem _ hw)
  have hown : s.vm.findClass RX2 = some m.cls := findClass_of_methodNamed B.named
  have hlocks := B.notSynchronized
  subst hsz
  have hD := hD0.self (sz := s.heap.size)
  generalize hAe : va_A [(x0, .inr (5, [.ref b0, .ref s0, .ref u0, .ref v0, .int tA, .int wP, .int nT, .int aK, .int lK, .int sW, .int rF])), (s0, .inr (4, [.ref b0, .ref s1, .ref s2, .long op, .int re])), (s1, .inl (G.2 1, 384, .inr (.inl dk))), (s2, .inl (G.2 1, 40, .inr (.inl wg))), (u0, .inr (4, [.ref b0, .ref u1, .ref u2, .long uo, .int ur])), (u1, .inl (G.2 1, 384, .inr (.inl uk))), (u2, .inl (G.2 1, 40, .inr (.inl uw))), (v0, .inr (4, [.ref b0, .ref v1, .ref v2, .long vo, .int vr])), (v1, .inl (G.2 1, 384, .inr (.inl vk))), (v2, .inl (G.2 1, 40, .inr (.inl vw))), (b0, .inr (3, [.ref b1, .ref b2, .ref b3, .ref b4, .ref b5, .ref b6, .int bn])), (b1, .inl (G.2 0, 40, .inl kf)), (b2, .inl (G.2 0, 40, .inl ff)), (b3, .inl (G.2 0, 40, .inl sf)), (b4, .inl (G.2 0, 40, .inl df)), (b5, .inl (G.2 1, 40, .inr (.inl pf))), (b6, .inl (G.2 1, 6, .inr (.inl gf)))] s.heap.size = A at hD hZ ⊢
  have hA : ∀ q : Nat, s.heap.size ≤ q → A q := fun q h => by rw [← hAe]; exact Or.inr h
  have hS : va_S A s.heap s.heap [] := va_S.rf
  obtain ⟨QC, hQC⟩ : ∃ Z, Z = (va_Ql post (fun u t => PP G [(x0, .inr (5, [.ref b0, .ref s0, .ref u0, .ref v0, .int tA, .int wP, .int nT, .int aK, .int lK, .int sW, .int rF])), (s0, .inr (4, [.ref b0, .ref s1, .ref s2, .long op, .int re])), (s1, .inl (G.2 1, 384, .inr (.inl dk))), (s2, .inl (G.2 1, 40, .inr (.inl wg))), (u0, .inr (4, [.ref b0, .ref u1, .ref u2, .long uo, .int ur])), (u1, .inl (G.2 1, 384, .inr (.inl uk))), (u2, .inl (G.2 1, 40, .inr (.inl uw))), (v0, .inr (4, [.ref b0, .ref v1, .ref v2, .long vo, .int vr])), (v1, .inl (G.2 1, 384, .inr (.inl vk))), (v2, .inl (G.2 1, 40, .inr (.inl vw))), (b0, .inr (3, [.ref b1, .ref b2, .ref b3, .ref b4, .ref b5, .ref b6, .int bn])), (b1, .inl (G.2 0, 40, .inl kf)), (b2, .inl (G.2 0, 40, .inl ff)), (b3, .inl (G.2 0, 40, .inl sf)), (b4, .inl (G.2 0, 40, .inl df)), (b5, .inl (G.2 1, 40, .inr (.inl pf))), (b6, .inl (G.2 1, 6, .inr (.inl gf)))] t.heap ∧ va_D A [(x0, .inr (5, [.ref b0, .ref s0, .ref u0, .ref v0, .int tA, .int wP, .int nT, .int aK, .int lK, .int sW, .int rF])), (s0, .inr (4, [.ref b0, .ref s1, .ref s2, .long op, .int re])), (s1, .inl (G.2 1, 384, .inr (.inl dk))), (s2, .inl (G.2 1, 40, .inr (.inl wg))), (u0, .inr (4, [.ref b0, .ref u1, .ref u2, .long uo, .int ur])), (u1, .inl (G.2 1, 384, .inr (.inl uk))), (u2, .inl (G.2 1, 40, .inr (.inl uw))), (v0, .inr (4, [.ref b0, .ref v1, .ref v2, .long vo, .int vr])), (v1, .inl (G.2 1, 384, .inr (.inl vk))), (v2, .inl (G.2 1, 40, .inr (.inl vw))), (b0, .inr (3, [.ref b1, .ref b2, .ref b3, .ref b4, .ref b5, .ref b6, .int bn])), (b1, .inl (G.2 0, 40, .inl kf)), (b2, .inl (G.2 0, 40, .inl ff)), (b3, .inl (G.2 0, 40, .inl sf)), (b4, .inl (G.2 0, 40, .inl df)), (b5, .inl (G.2 1, 40, .inr (.inl pf))), (b6, .inl (G.2 1, 6, .inr (.inl gf)))]) A) := ⟨_, rfl⟩
  rw [← hQC]
  obtain ⟨XC, hXC⟩ : ∃ Z, Z = (vx_X (fun _ : Unit => True) (fun E _ t => PP G [(x0, .inr (5, [.ref b0, .ref s0, .ref u0, .ref v0, .int tA, .int wP, .int nT, .int aK, .int lK, .int sW, .int rF])), (s0, .inr (4, [.ref b0, .ref s1, .ref s2, .long op, .int re])), (s1, .inl (G.2 1, 384, .inr (.inl dk))), (s2, .inl (G.2 1, 40, .inr (.inl wg))), (u0, .inr (4, [.ref b0, .ref u1, .ref u2, .long uo, .int ur])), (u1, .inl (G.2 1, 384, .inr (.inl uk))), (u2, .inl (G.2 1, 40, .inr (.inl uw))), (v0, .inr (4, [.ref b0, .ref v1, .ref v2, .long vo, .int vr])), (v1, .inl (G.2 1, 384, .inr (.inl vk))), (v2, .inl (G.2 1, 40, .inr (.inl vw))), (b0, .inr (3, [.ref b1, .ref b2, .ref b3, .ref b4, .ref b5, .ref b6, .int bn])), (b1, .inl (G.2 0, 40, .inl kf)), (b2, .inl (G.2 0, 40, .inl ff)), (b3, .inl (G.2 0, 40, .inl sf)), (b4, .inl (G.2 0, 40, .inl df)), (b5, .inl (G.2 1, 40, .inr (.inl pf))), (b6, .inl (G.2 1, 6, .inr (.inl gf)))] t.heap ∧ va_D A [(x0, .inr (5, [.ref b0, .ref s0, .ref u0, .ref v0, .int tA, .int wP, .int nT, .int aK, .int lK, .int sW, .int rF])), (s0, .inr (4, [.ref b0, .ref s1, .ref s2, .long op, .int re])), (s1, .inl (G.2 1, 384, .inr (.inl dk))), (s2, .inl (G.2 1, 40, .inr (.inl wg))), (u0, .inr (4, [.ref b0, .ref u1, .ref u2, .long uo, .int ur])), (u1, .inl (G.2 1, 384, .inr (.inl uk))), (u2, .inl (G.2 1, 40, .inr (.inl uw))), (v0, .inr (4, [.ref b0, .ref v1, .ref v2, .long vo, .int vr])), (v1, .inl (G.2 1, 384, .inr (.inl vk))), (v2, .inl (G.2 1, 40, .inr (.inl vw))), (b0, .inr (3, [.ref b1, .ref b2, .ref b3, .ref b4, .ref b5, .ref b6, .int bn])), (b1, .inl (G.2 0, 40, .inl kf)), (b2, .inl (G.2 0, 40, .inl ff)), (b3, .inl (G.2 0, 40, .inl sf)), (b4, .inl (G.2 0, 40, .inl df)), (b5, .inl (G.2 1, 40, .inr (.inl pf))), (b6, .inl (G.2 1, 6, .inr (.inl gf)))] ∧ postx E) A) := ⟨_, rfl⟩
  rw [← hXC]
  obtain ⟨⟨zt, hZ1, hT1⟩, hZ2⟩ := id hZ
  have hP : PP G [(x0, .inr (5, [.ref b0, .ref s0, .ref u0, .ref v0, .int tA, .int wP, .int nT, .int aK, .int lK, .int sW, .int rF])), (s0, .inr (4, [.ref b0, .ref s1, .ref s2, .long op, .int re])), (s1, .inl (G.2 1, 384, .inr (.inl dk))), (s2, .inl (G.2 1, 40, .inr (.inl wg))), (u0, .inr (4, [.ref b0, .ref u1, .ref u2, .long uo, .int ur])), (u1, .inl (G.2 1, 384, .inr (.inl uk))), (u2, .inl (G.2 1, 40, .inr (.inl uw))), (v0, .inr (4, [.ref b0, .ref v1, .ref v2, .long vo, .int vr])), (v1, .inl (G.2 1, 384, .inr (.inl vk))), (v2, .inl (G.2 1, 40, .inr (.inl vw))), (b0, .inr (3, [.ref b1, .ref b2, .ref b3, .ref b4, .ref b5, .ref b6, .int bn])), (b1, .inl (G.2 0, 40, .inl kf)), (b2, .inl (G.2 0, 40, .inl ff)), (b3, .inl (G.2 0, 40, .inl sf)), (b4, .inl (G.2 0, 40, .inl df)), (b5, .inl (G.2 1, 40, .inr (.inl pf))), (b6, .inl (G.2 1, 6, .inr (.inl gf)))] s.heap := hP
  have hl := lv_entry ([.ref x0, .int p1, .int p2]) (n := 3) (Nat.le_of_ble_eq_true rfl)
  rw [lg_entry_eq]
  generalize (lg_sl ([.ref x0, .int p1, .int p2]) ++ List.replicate (3 - (lg_sl ([.ref x0, .int p1, .int p2])).length) Slot.unset).toArray = ls at hl ⊢
  have hl : lv_has ls 3 [(0, .ref x0), (1, .int p1), (2, .int p2)] := hl
  refine lv_iload_n hx hb dX2_alike_0 rfl (lv_at hl 1 rfl) ?_
  have hPc := va_P.sub (ws' := []) hP [] rfl
  refine rdI (va_runS (As := [.int p1]) (rest := []) ⟨hx, hb, hml, hown, hts⟩ (kX2_isGuard l G p1 h) (va_cwS 1 hts (gdS q346 q347 q1 q348) rfl rfl rfl (by decide +kernel) ⟨Nat.le_of_ble_eq_true rfl, Nat.le_of_ble_eq_true rfl⟩) (preS hPc hKK) rfl rfl hl.1 rfl (lv_room (Nat.le_of_ble_eq_true rfl)) dX2_alike_1 ⟨Nat.zero_le _, Nat.zero_le _⟩) (fun r_1 h => ?_)
  refine lv_if_eq (tgt := 14) hx hb dX2_alike_4 (by decide) (fun hc => ?_) (fun hc => ?_)
  · have h := h.1 hc
    obtain ⟨sa, hsa⟩ := hR.1 ("NightdeskRota", 215, "no such guard or world") (List.mem_of_getElem? (i := 3) rfl)
    subst hXC
    exact vx_throwS (names := rtx) (text := "no such guard or world") (sa := sa) hx hb hfl hown (by decide +kernel) (by decide +kernel) (hts _ q349) (hts _ q22) hsa (hatX hat87a hat87b hts hN hZ) hgd87 hZ.2.1 hZ.2.2 hS (hl.1.trans hml.symm) dX2_alike_14 dX2_alike_17 dX2_alike_18 dX2_alike_20 dX2_alike_23 (fun x hx => (hT x hx).elim) (Nat.le_of_ble_eq_true rfl) (Nat.le_of_ble_eq_true rfl) (Nat.le_of_ble_eq_true rfl) (Nat.le_of_ble_eq_true rfl) hlocks (fun t ht h1 h2 => ⟨(), trivial, ⟨keepAll hP h2, hD, h⟩, h1, fun q hq _ => h2 q hq⟩) hS.2.2 (Nat.le_refl _) (Nat.le_refl _)
  · have h := h.2 hc
    refine lv_iload_n hx hb dX2_alike_7 rfl (lv_at hl 2 rfl) ?_
    have hPc := va_P.sub (ws' := []) hP [] rfl
    refine rdI (va_runS (As := [.int p2]) (rest := []) ⟨hx, hb, hml, hown, hts⟩ (kX2_isWorld l G p2 h) (va_cwS 1 hts (gdS q391 q392 q1 q393) rfl rfl rfl (by decide +kernel) ⟨Nat.le_of_ble_eq_true rfl, Nat.le_of_ble_eq_true rfl⟩) (preS hPc hKK) rfl rfl hl.1 rfl (lv_room (Nat.le_of_ble_eq_true rfl)) dX2_alike_8 ⟨Nat.zero_le _, Nat.zero_le _⟩) (fun r_2 h => ?_)
    refine lv_if_ne (tgt := 24) hx hb dX2_alike_11 (by decide) (fun hc => ?_) (fun hc => ?_)
    · have h := h.1 hc
      refine lv_aload_n hx hb dX2_alike_24 rfl (lv_at hl 0 rfl) ?_
      refine va_get (D := G.1) (ci := 5) (v := .ref s0) (C := RX2) (T := TX2) (N := 11) hx hb hts igX2 hown hK hP 0 rfl rfl 1 (by decide) (hts _ q177) (fun _ h9 => h9) rfl dX2_alike_25 ?_
      refine va_getN (D := G.1) (ci := 4) (v := .long op) (C := RX1) (T := TX1) (N := 5) hx hb hts igX1 hown hK hP 1 rfl rfl 3 (by decide) (va_Nw.use rfl (hN _ n77)) (fun _ h9 => h9) rfl dX2_alike_28 ?_
      refine lv_iload_n hx hb dX2_alike_31 rfl (lv_at hl 2 rfl) ?_
      have hPc := va_P.sub (ws' := []) hP [] rfl
      refine rdI (va_runS (As := [.long op, .int p2]) (rest := []) ⟨hx, hb, hml, hown, hts⟩ (kX2_has l G op p2 h) (va_cwS 2 hts (gdS q222 q108 q1 q109) rfl rfl rfl (by decide +kernel) ⟨Nat.le_of_ble_eq_true rfl, Nat.le_of_ble_eq_true rfl⟩) (preS hPc hKK) rfl rfl hl.1 rfl (lv_room (Nat.le_of_ble_eq_true rfl)) dX2_alike_32 ⟨Nat.zero_le _, Nat.zero_le _⟩) (fun r_3 h => ?_)
      refine lv_if_eq (tgt := 50) hx hb dX2_alike_35 (by decide) (fun hc => ?_) (fun hc => ?_)
      · have h := h.1 hc
        refine lv_lconst (v := 0) hx hb dX2_alike_50 (by decide) ?_
        refine vx_ret (W.widen (k := 1) (n := 6) (Nat.le_of_ble_eq_true rfl) (Nat.le_of_ble_eq_true rfl) ?_)
        subst hQC; exact W.lret (v := (0 : Int64)) hx hb hr (fun t ht hW => ⟨⟨_, (), rfl, h, by rw [ht]; exact hP, hD⟩, hS.F ht⟩) hS.2.2 dX2_alike_51
      · have h := h.2 hc
        refine lv_aload_n hx hb dX2_alike_38 rfl (lv_at hl 0 rfl) ?_
        refine va_get (D := G.1) (ci := 5) (v := .ref s0) (C := RX2) (T := TX2) (N := 11) hx hb hts igX2 hown hK hP 0 rfl rfl 1 (by decide) (hts _ q177) (fun _ h9 => h9) rfl dX2_alike_39 ?_
        refine lv_iload_n hx hb dX2_alike_42 rfl (lv_at hl 1 rfl) ?_
        refine lv_iload_n hx hb dX2_alike_43 rfl (lv_at hl 2 rfl) ?_
        have hPc := va_P.sub (ws' := [(s0, .inr (4, [.ref b0, .ref s1, .ref s2, .long op, .int re])), (s1, .inl (G.2 1, 384, .inr (.inl dk))), (s2, .inl (G.2 1, 40, .inr (.inl wg))), (b0, .inr (3, [.ref b1, .ref b2, .ref b3, .ref b4, .ref b5, .ref b6, .int bn])), (b1, .inl (G.2 0, 40, .inl kf)), (b2, .inl (G.2 0, 40, .inl ff)), (b3, .inl (G.2 0, 40, .inl sf)), (b4, .inl (G.2 0, 40, .inl df)), (b5, .inl (G.2 1, 40, .inr (.inl pf))), (b6, .inl (G.2 1, 6, .inr (.inl gf)))]) hP [1, 2, 3, 10, 11, 12, 13, 14, 15, 16] rfl
        refine rdL (va_runV (C := RX1) (As := [.int p1, .int p2]) (rest := []) ⟨hx, hb, hml, hown, hts⟩ (kX1_cell l G s0 s1 s2 b0 b1 b2 b3 b4 b5 b6 dk wg op re kf ff sf df pf gf bn p1 p2 h) (cwV 2 hts (gdV q369 q157 q158 q3 q159) rfl rfl rfl (by decide +kernel) ⟨Nat.le_of_ble_eq_true rfl, Nat.le_of_ble_eq_true rfl⟩) (preV hPc hKK (va_recv hK hPc (ci := 4) (q0 := 0) rfl rfl)) rfl rfl hl.1 rfl (lv_room (Nat.le_of_ble_eq_true rfl)) dX2_alike_44 ⟨Nat.zero_le _, Nat.zero_le _⟩) (fun r_4 h => ?_)
        refine lv_goto (tgt := 51) hx hb dX2_alike_47 (by decide) ?_
        refine vx_ret (W.widen (k := 1) (n := 6) (Nat.le_of_ble_eq_true rfl) (Nat.le_of_ble_eq_true rfl) ?_)
        subst hQC; exact W.lret (v := r_4) hx hb hr (fun t ht hW => ⟨⟨_, (), rfl, h, by rw [ht]; exact hP, hD⟩, hS.F ht⟩) hS.2.2 dX2_alike_51
    · have h := h.2 hc
      obtain ⟨sa, hsa⟩ := hR.1 ("NightdeskRota", 215, "no such guard or world") (List.mem_of_getElem? (i := 3) rfl)
      subst hXC
      exact vx_throwS (names := rtx) (text := "no such guard or world") (sa := sa) hx hb hfl hown (by decide +kernel) (by decide +kernel) (hts _ q349) (hts _ q22) hsa (hatX hat87a hat87b hts hN hZ) hgd87 hZ.2.1 hZ.2.2 hS (hl.1.trans hml.symm) dX2_alike_14 dX2_alike_17 dX2_alike_18 dX2_alike_20 dX2_alike_23 (fun x hx => (hT x hx).elim) (Nat.le_of_ble_eq_true rfl) (Nat.le_of_ble_eq_true rfl) (Nat.le_of_ble_eq_true rfl) (Nat.le_of_ble_eq_true rfl) hlocks (fun t ht h1 h2 => ⟨(), trivial, ⟨keepAll hP h2, hD, h⟩, h1, fun q hq _ => h2 q hq⟩) hS.2.2 (Nat.le_refl _) (Nat.le_refl _)
def wnX2_alike (post : Int64 → Prop) (dk : Nat → Int64) (op : Int64) (p1 : Int32) (p2 : Int32) : Prop :=
  wX2_isGuard (fun r_1 : Int32 =>
    ((r_1 = 0) →
      False
    ) ∧ (¬ (r_1 = 0) →
      wX2_isWorld (fun r_2 : Int32 =>
        ((¬ r_2 = 0) →
          wX2_has (fun r_3 : Int32 =>
            ((r_3 = 0) →
              post (0 : Int64)
            ) ∧ (¬ (r_3 = 0) →
              wX1_cell (fun r_4 : Int64 =>
                post r_4
                ) dk op p1 p2
            )
            ) op p2
        ) ∧ ((r_2 = 0) →
          False
        )
        ) p2
    )
    ) p1
abbrev wl_nX2_alike : List Cond := .code yX2_alike cX2_alike 3 (some .long) :: lwg
abbrev rm_nX2_alike : Room := { frames := 1, cells := 0, slots := 0, locals := 23 }
set_option maxHeartbeats 4000000 in
set_option maxRecDepth 100000 in
theorem knX2_alike {post : Int64 → Prop} (l : Launch) (G : GT) (x0 : Nat) (s0 : Nat) (s1 : Nat) (s2 : Nat) (u0 : Nat) (u1 : Nat) (u2 : Nat) (v0 : Nat) (v1 : Nat) (v2 : Nat) (b0 : Nat) (b1 : Nat) (b2 : Nat) (b3 : Nat) (b4 : Nat) (b5 : Nat) (b6 : Nat) (tA : Int32) (wP : Int32) (nT : Int32) (aK : Int32) (lK : Int32) (sW : Int32) (rF : Int32) (dk : Nat → Int64) (wg : Nat → Int64) (op : Int64) (re : Int32) (uk : Nat → Int64) (uw : Nat → Int64) (uo : Int64) (ur : Int32) (vk : Nat → Int64) (vw : Nat → Int64) (vo : Int64) (vr : Int32) (kf : Nat → Int32) (ff : Nat → Int32) (sf : Nat → Int32) (df : Nat → Int32) (pf : Nat → Int64) (gf : Nat → Int64) (bn : Int32) (p1 : Int32) (p2 : Int32) (h : wnX2_alike post dk op p1 p2) : Met l yX2_alike wl_nX2_alike rm_nX2_alike (va_Pc [.ref x0, .int p1, .int p2] (fun U => PP G [(x0, .inr (5, [.ref b0, .ref s0, .ref u0, .ref v0, .int tA, .int wP, .int nT, .int aK, .int lK, .int sW, .int rF])), (s0, .inr (4, [.ref b0, .ref s1, .ref s2, .long op, .int re])), (s1, .inl (G.2 1, 384, .inr (.inl dk))), (s2, .inl (G.2 1, 40, .inr (.inl wg))), (u0, .inr (4, [.ref b0, .ref u1, .ref u2, .long uo, .int ur])), (u1, .inl (G.2 1, 384, .inr (.inl uk))), (u2, .inl (G.2 1, 40, .inr (.inl uw))), (v0, .inr (4, [.ref b0, .ref v1, .ref v2, .long vo, .int vr])), (v1, .inl (G.2 1, 384, .inr (.inl vk))), (v2, .inl (G.2 1, 40, .inr (.inl vw))), (b0, .inr (3, [.ref b1, .ref b2, .ref b3, .ref b4, .ref b5, .ref b6, .int bn])), (b1, .inl (G.2 0, 40, .inl kf)), (b2, .inl (G.2 0, 40, .inl ff)), (b3, .inl (G.2 0, 40, .inl sf)), (b4, .inl (G.2 0, 40, .inl df)), (b5, .inl (G.2 1, 40, .inr (.inl pf))), (b6, .inl (G.2 1, 6, .inr (.inl gf)))] U.heap ∧ KK G U)) (vp_Sl post) 0 0 (fun _ => False) := by
  refine Met.ofW (cc := cX2_alike) (maxL := 3) (ret := (some .long)) (by decide) rfl ?_
  intro p e s m args below meth c s₁ B hml hv
  obtain ⟨rfl, hP, hKK⟩ := hv
  obtain ⟨hK, hN, hR, hFW, hNC⟩ := id hKK
  have hx := B.exec
  have hb := B.bytes
  have hr := B.returns
  have hts0 := atoms_spec (ws := wl_nX2_alike) B.pre
  have hts : ∀ w ∈ lwg, w.before ([.ref x0, .int p1, .int p2] : List Value).toArray s = true := fun w hw => hts0 w (List.mem_cons_of_mem _ hw)
  have hown : s.vm.findClass RX2 = some m.cls := findClass_of_methodNamed B.named
  have hlocks := B.notSynchronized
  have hP : PP G [(x0, .inr (5, [.ref b0, .ref s0, .ref u0, .ref v0, .int tA, .int wP, .int nT, .int aK, .int lK, .int sW, .int rF])), (s0, .inr (4, [.ref b0, .ref s1, .ref s2, .long op, .int re])), (s1, .inl (G.2 1, 384, .inr (.inl dk))), (s2, .inl (G.2 1, 40, .inr (.inl wg))), (u0, .inr (4, [.ref b0, .ref u1, .ref u2, .long uo, .int ur])), (u1, .inl (G.2 1, 384, .inr (.inl uk))), (u2, .inl (G.2 1, 40, .inr (.inl uw))), (v0, .inr (4, [.ref b0, .ref v1, .ref v2, .long vo, .int vr])), (v1, .inl (G.2 1, 384, .inr (.inl vk))), (v2, .inl (G.2 1, 40, .inr (.inl vw))), (b0, .inr (3, [.ref b1, .ref b2, .ref b3, .ref b4, .ref b5, .ref b6, .int bn])), (b1, .inl (G.2 0, 40, .inl kf)), (b2, .inl (G.2 0, 40, .inl ff)), (b3, .inl (G.2 0, 40, .inl sf)), (b4, .inl (G.2 0, 40, .inl df)), (b5, .inl (G.2 1, 40, .inr (.inl pf))), (b6, .inl (G.2 1, 6, .inr (.inl gf)))] s.heap := hP
  have hl := lv_entry ([.ref x0, .int p1, .int p2]) (n := 3) (Nat.le_of_ble_eq_true rfl)
  rw [lg_entry_eq]
  generalize (lg_sl ([.ref x0, .int p1, .int p2]) ++ List.replicate (3 - (lg_sl ([.ref x0, .int p1, .int p2])).length) Slot.unset).toArray = ls at hl ⊢
  have hl : lv_has ls 3 [(0, .ref x0), (1, .int p1), (2, .int p2)] := hl
  refine lv_iload_n hx hb dX2_alike_0 rfl (lv_at hl 1 rfl) ?_
  have hPc := va_P.sub (ws' := []) hP [] rfl
  refine rdI (va_runS (As := [.int p1]) (rest := []) ⟨hx, hb, hml, hown, hts⟩ (kX2_isGuard l G p1 h) (va_cwS 1 hts (gdS q346 q347 q1 q348) rfl rfl rfl (by decide +kernel) ⟨Nat.le_of_ble_eq_true rfl, Nat.le_of_ble_eq_true rfl⟩) (preS hPc hKK) rfl rfl hl.1 rfl (lv_room (Nat.le_of_ble_eq_true rfl)) dX2_alike_1 ⟨Nat.zero_le _, Nat.zero_le _⟩) (fun r_1 h => ?_)
  refine lv_if_eq (tgt := 14) hx hb dX2_alike_4 (by decide) (fun hc => ?_) (fun hc => ?_)
  · have h := h.1 hc
    exact False.elim h
  · have h := h.2 hc
    refine lv_iload_n hx hb dX2_alike_7 rfl (lv_at hl 2 rfl) ?_
    have hPc := va_P.sub (ws' := []) hP [] rfl
    refine rdI (va_runS (As := [.int p2]) (rest := []) ⟨hx, hb, hml, hown, hts⟩ (kX2_isWorld l G p2 h) (va_cwS 1 hts (gdS q391 q392 q1 q393) rfl rfl rfl (by decide +kernel) ⟨Nat.le_of_ble_eq_true rfl, Nat.le_of_ble_eq_true rfl⟩) (preS hPc hKK) rfl rfl hl.1 rfl (lv_room (Nat.le_of_ble_eq_true rfl)) dX2_alike_8 ⟨Nat.zero_le _, Nat.zero_le _⟩) (fun r_2 h => ?_)
    refine lv_if_ne (tgt := 24) hx hb dX2_alike_11 (by decide) (fun hc => ?_) (fun hc => ?_)
    · have h := h.1 hc
      refine lv_aload_n hx hb dX2_alike_24 rfl (lv_at hl 0 rfl) ?_
      refine va_get (D := G.1) (ci := 5) (v := .ref s0) (C := RX2) (T := TX2) (N := 11) hx hb hts igX2 hown hK hP 0 rfl rfl 1 (by decide) (hts _ q177) (fun _ h9 => h9) rfl dX2_alike_25 ?_
      refine va_getN (D := G.1) (ci := 4) (v := .long op) (C := RX1) (T := TX1) (N := 5) hx hb hts igX1 hown hK hP 1 rfl rfl 3 (by decide) (va_Nw.use rfl (hN _ n77)) (fun _ h9 => h9) rfl dX2_alike_28 ?_
      refine lv_iload_n hx hb dX2_alike_31 rfl (lv_at hl 2 rfl) ?_
      have hPc := va_P.sub (ws' := []) hP [] rfl
      refine rdI (va_runS (As := [.long op, .int p2]) (rest := []) ⟨hx, hb, hml, hown, hts⟩ (kX2_has l G op p2 h) (va_cwS 2 hts (gdS q222 q108 q1 q109) rfl rfl rfl (by decide +kernel) ⟨Nat.le_of_ble_eq_true rfl, Nat.le_of_ble_eq_true rfl⟩) (preS hPc hKK) rfl rfl hl.1 rfl (lv_room (Nat.le_of_ble_eq_true rfl)) dX2_alike_32 ⟨Nat.zero_le _, Nat.zero_le _⟩) (fun r_3 h => ?_)
      refine lv_if_eq (tgt := 50) hx hb dX2_alike_35 (by decide) (fun hc => ?_) (fun hc => ?_)
      · have h := h.1 hc
        refine lv_lconst (v := 0) hx hb dX2_alike_50 (by decide) ?_
        exact W.lret (v := (0 : Int64)) hx hb hr (fun t ht _ => ⟨_, rfl, h, ht⟩) (fun _ hq => absurd hq List.not_mem_nil) dX2_alike_51
      · have h := h.2 hc
        refine lv_aload_n hx hb dX2_alike_38 rfl (lv_at hl 0 rfl) ?_
        refine va_get (D := G.1) (ci := 5) (v := .ref s0) (C := RX2) (T := TX2) (N := 11) hx hb hts igX2 hown hK hP 0 rfl rfl 1 (by decide) (hts _ q177) (fun _ h9 => h9) rfl dX2_alike_39 ?_
        refine lv_iload_n hx hb dX2_alike_42 rfl (lv_at hl 1 rfl) ?_
        refine lv_iload_n hx hb dX2_alike_43 rfl (lv_at hl 2 rfl) ?_
        have hPc := va_P.sub (ws' := [(s0, .inr (4, [.ref b0, .ref s1, .ref s2, .long op, .int re])), (s1, .inl (G.2 1, 384, .inr (.inl dk))), (s2, .inl (G.2 1, 40, .inr (.inl wg))), (b0, .inr (3, [.ref b1, .ref b2, .ref b3, .ref b4, .ref b5, .ref b6, .int bn])), (b1, .inl (G.2 0, 40, .inl kf)), (b2, .inl (G.2 0, 40, .inl ff)), (b3, .inl (G.2 0, 40, .inl sf)), (b4, .inl (G.2 0, 40, .inl df)), (b5, .inl (G.2 1, 40, .inr (.inl pf))), (b6, .inl (G.2 1, 6, .inr (.inl gf)))]) hP [1, 2, 3, 10, 11, 12, 13, 14, 15, 16] rfl
        refine rdL (va_runV (C := RX1) (As := [.int p1, .int p2]) (rest := []) ⟨hx, hb, hml, hown, hts⟩ (kX1_cell l G s0 s1 s2 b0 b1 b2 b3 b4 b5 b6 dk wg op re kf ff sf df pf gf bn p1 p2 h) (cwV 2 hts (gdV q369 q157 q158 q3 q159) rfl rfl rfl (by decide +kernel) ⟨Nat.le_of_ble_eq_true rfl, Nat.le_of_ble_eq_true rfl⟩) (preV hPc hKK (va_recv hK hPc (ci := 4) (q0 := 0) rfl rfl)) rfl rfl hl.1 rfl (lv_room (Nat.le_of_ble_eq_true rfl)) dX2_alike_44 ⟨Nat.zero_le _, Nat.zero_le _⟩) (fun r_4 h => ?_)
        refine lv_goto (tgt := 51) hx hb dX2_alike_47 (by decide) ?_
        exact W.lret (v := r_4) hx hb hr (fun t ht _ => ⟨_, rfl, h, ht⟩) (fun _ hq => absurd hq List.not_mem_nil) dX2_alike_51
    · have h := h.2 hc
      exact False.elim h
theorem dX2_ofGuard_0 : decode cX2_ofGuard 0 = .ok (.iload_n 1, 1) := by decide +kernel
theorem dX2_ofGuard_1 : decode cX2_ofGuard 1 = .ok (.invokestatic 77, 3) := by decide +kernel
theorem dX2_ofGuard_4 : decode cX2_ofGuard 4 = .ok (.ifCond .ne 13, 3) := by decide +kernel
theorem dX2_ofGuard_7 : decode cX2_ofGuard 7 = .ok (.new 83, 3) := by decide +kernel
theorem dX2_ofGuard_10 : decode cX2_ofGuard 10 = .ok (.dup, 1) := by decide +kernel
theorem dX2_ofGuard_11 : decode cX2_ofGuard 11 = .ok (.ldc 144, 2) := by decide +kernel
theorem dX2_ofGuard_13 : decode cX2_ofGuard 13 = .ok (.invokespecial 87, 3) := by decide +kernel
theorem dX2_ofGuard_16 : decode cX2_ofGuard 16 = .ok (.athrow, 1) := by decide +kernel
theorem dX2_ofGuard_17 : decode cX2_ofGuard 17 = .ok (.iload_n 2, 1) := by decide +kernel
theorem dX2_ofGuard_18 : decode cX2_ofGuard 18 = .ok (.tableswitch 89 0 4 #[34, 43, 62, 71, 80], 34) := by decide +kernel
theorem dX2_ofGuard_52 : decode cX2_ofGuard 52 = .ok (.aload_n 0, 1) := by decide +kernel
theorem dX2_ofGuard_53 : decode cX2_ofGuard 53 = .ok (.getfield 21, 3) := by decide +kernel
theorem dX2_ofGuard_56 : decode cX2_ofGuard 56 = .ok (.iload_n 1, 1) := by decide +kernel
theorem dX2_ofGuard_57 : decode cX2_ofGuard 57 = .ok (.invokevirtual 217, 3) := by decide +kernel
theorem dX2_ofGuard_60 : decode cX2_ofGuard 60 = .ok (.ireturn, 1) := by decide +kernel
theorem dX2_ofGuard_61 : decode cX2_ofGuard 61 = .ok (.aload_n 0, 1) := by decide +kernel
theorem dX2_ofGuard_62 : decode cX2_ofGuard 62 = .ok (.getfield 21, 3) := by decide +kernel
theorem dX2_ofGuard_65 : decode cX2_ofGuard 65 = .ok (.iload_n 1, 1) := by decide +kernel
theorem dX2_ofGuard_66 : decode cX2_ofGuard 66 = .ok (.aload_n 0, 1) := by decide +kernel
theorem dX2_ofGuard_67 : decode cX2_ofGuard 67 = .ok (.getfield 21, 3) := by decide +kernel
theorem dX2_ofGuard_70 : decode cX2_ofGuard 70 = .ok (.getfield 103, 3) := by decide +kernel
theorem dX2_ofGuard_73 : decode cX2_ofGuard 73 = .ok (.invokevirtual 106, 3) := by decide +kernel
theorem dX2_ofGuard_76 : decode cX2_ofGuard 76 = .ok (.invokestatic 110, 3) := by decide +kernel
theorem dX2_ofGuard_79 : decode cX2_ofGuard 79 = .ok (.ireturn, 1) := by decide +kernel
theorem dX2_ofGuard_80 : decode cX2_ofGuard 80 = .ok (.aload_n 0, 1) := by decide +kernel
theorem dX2_ofGuard_81 : decode cX2_ofGuard 81 = .ok (.getfield 21, 3) := by decide +kernel
theorem dX2_ofGuard_84 : decode cX2_ofGuard 84 = .ok (.iload_n 1, 1) := by decide +kernel
theorem dX2_ofGuard_85 : decode cX2_ofGuard 85 = .ok (.invokevirtual 220, 3) := by decide +kernel
theorem dX2_ofGuard_88 : decode cX2_ofGuard 88 = .ok (.ireturn, 1) := by decide +kernel
theorem dX2_ofGuard_89 : decode cX2_ofGuard 89 = .ok (.aload_n 0, 1) := by decide +kernel
theorem dX2_ofGuard_90 : decode cX2_ofGuard 90 = .ok (.getfield 21, 3) := by decide +kernel
theorem dX2_ofGuard_93 : decode cX2_ofGuard 93 = .ok (.iload_n 1, 1) := by decide +kernel
theorem dX2_ofGuard_94 : decode cX2_ofGuard 94 = .ok (.invokevirtual 223, 3) := by decide +kernel
theorem dX2_ofGuard_97 : decode cX2_ofGuard 97 = .ok (.ireturn, 1) := by decide +kernel
theorem dX2_ofGuard_98 : decode cX2_ofGuard 98 = .ok (.aload_n 0, 1) := by decide +kernel
theorem dX2_ofGuard_99 : decode cX2_ofGuard 99 = .ok (.getfield 21, 3) := by decide +kernel
theorem dX2_ofGuard_102 : decode cX2_ofGuard 102 = .ok (.iload_n 1, 1) := by decide +kernel
theorem dX2_ofGuard_103 : decode cX2_ofGuard 103 = .ok (.invokevirtual 226, 3) := by decide +kernel
theorem dX2_ofGuard_106 : decode cX2_ofGuard 106 = .ok (.ireturn, 1) := by decide +kernel
theorem dX2_ofGuard_107 : decode cX2_ofGuard 107 = .ok (.new 39, 3) := by decide +kernel
theorem dX2_ofGuard_110 : decode cX2_ofGuard 110 = .ok (.dup, 1) := by decide +kernel
theorem dX2_ofGuard_111 : decode cX2_ofGuard 111 = .ok (.ldc 229, 2) := by decide +kernel
theorem dX2_ofGuard_113 : decode cX2_ofGuard 113 = .ok (.invokespecial 43, 3) := by decide +kernel
theorem dX2_ofGuard_116 : decode cX2_ofGuard 116 = .ok (.athrow, 1) := by decide +kernel
def wxX2_ofGuard (post : Int32 → Unit → Prop) (postx : String → Prop) (dk : Nat → Int64) (wg : Nat → Int64) (op : Int64) (re : Int32) (bn : Int32) (p1 : Int32) (p2 : Int32) : Prop :=
  wX2_isGuard (fun r_1 : Int32 =>
    ((¬ r_1 = 0) →
      (p2 = 0 →
        wX1_countCells (fun r_2 : Int32 =>
          post r_2 ()
          ) dk op p1
      ) ∧ (¬ p2 = 0 →
      (p2 = 1 →
        wX1_cell (fun r_3 : Int64 =>
          wJ13_bitCount_95d88 (fun r_4 : Int32 =>
            post r_4 ()
            ) r_3
          ) dk op p1 re
      ) ∧ (¬ p2 = 1 →
      (p2 = 2 →
        wX1_factsSettledFor (fun r_5 : Int32 =>
          post r_5 ()
          ) dk op re p1
      ) ∧ (¬ p2 = 2 →
      (p2 = 3 →
        wX1_countKnownBy (fun r_6 : Int32 =>
          post r_6 ()
          ) dk wg op re bn p1
      ) ∧ (¬ p2 = 3 →
      (p2 = 4 →
        wX1_asSharpAs (fun r_7 : Int32 =>
          post r_7 ()
          ) dk op p1
      ) ∧ (¬ p2 = 4 →
        postx "java/lang/IllegalArgumentException"
      )))))
    ) ∧ ((r_1 = 0) →
      postx "java/lang/IndexOutOfBoundsException"
    )
    ) p1
abbrev wl_xX2_ofGuard : List Cond := .code yX2_ofGuard cX2_ofGuard 3 (some .int) :: lwg
abbrev rm_xX2_ofGuard : Room := { frames := 6, cells := 1, slots := 6, locals := 98 }
set_option maxHeartbeats 4000000 in
set_option maxRecDepth 100000 in
theorem kxX2_ofGuard {post : Int32 → Unit → Prop} {postx : String → Prop} (l : Launch) (hfl : l.stackTraces = false) (G : GT) (x0 : Nat) (s0 : Nat) (s1 : Nat) (s2 : Nat) (u0 : Nat) (u1 : Nat) (u2 : Nat) (v0 : Nat) (v1 : Nat) (v2 : Nat) (b0 : Nat) (b1 : Nat) (b2 : Nat) (b3 : Nat) (b4 : Nat) (b5 : Nat) (b6 : Nat) (tA : Int32) (wP : Int32) (nT : Int32) (aK : Int32) (lK : Int32) (sW : Int32) (rF : Int32) (dk : Nat → Int64) (wg : Nat → Int64) (op : Int64) (re : Int32) (uk : Nat → Int64) (uw : Nat → Int64) (uo : Int64) (ur : Int32) (vk : Nat → Int64) (vw : Nat → Int64) (vo : Int64) (vr : Int32) (kf : Nat → Int32) (ff : Nat → Int32) (sf : Nat → Int32) (df : Nat → Int32) (pf : Nat → Int64) (gf : Nat → Int64) (bn : Int32) (p1 : Int32) (p2 : Int32) (sz : Nat) (h : wxX2_ofGuard post postx dk wg op re bn p1 p2) : vx_Met l yX2_ofGuard wl_xX2_ofGuard rm_xX2_ofGuard (va_Pc [.ref x0, .int p1, .int p2] (fun U => U.heap.size = sz ∧ PP G [(x0, .inr (5, [.ref b0, .ref s0, .ref u0, .ref v0, .int tA, .int wP, .int nT, .int aK, .int lK, .int sW, .int rF])), (s0, .inr (4, [.ref b0, .ref s1, .ref s2, .long op, .int re])), (s1, .inl (G.2 1, 384, .inr (.inl dk))), (s2, .inl (G.2 1, 40, .inr (.inl wg))), (u0, .inr (4, [.ref b0, .ref u1, .ref u2, .long uo, .int ur])), (u1, .inl (G.2 1, 384, .inr (.inl uk))), (u2, .inl (G.2 1, 40, .inr (.inl uw))), (v0, .inr (4, [.ref b0, .ref v1, .ref v2, .long vo, .int vr])), (v1, .inl (G.2 1, 384, .inr (.inl vk))), (v2, .inl (G.2 1, 40, .inr (.inl vw))), (b0, .inr (3, [.ref b1, .ref b2, .ref b3, .ref b4, .ref b5, .ref b6, .int bn])), (b1, .inl (G.2 0, 40, .inl kf)), (b2, .inl (G.2 0, 40, .inl ff)), (b3, .inl (G.2 0, 40, .inl sf)), (b4, .inl (G.2 0, 40, .inl df)), (b5, .inl (G.2 1, 40, .inr (.inl pf))), (b6, .inl (G.2 1, 6, .inr (.inl gf)))] U.heap ∧ KK G U ∧ va_D (fun _ => True) [(x0, .inr (5, [.ref b0, .ref s0, .ref u0, .ref v0, .int tA, .int wP, .int nT, .int aK, .int lK, .int sW, .int rF])), (s0, .inr (4, [.ref b0, .ref s1, .ref s2, .long op, .int re])), (s1, .inl (G.2 1, 384, .inr (.inl dk))), (s2, .inl (G.2 1, 40, .inr (.inl wg))), (u0, .inr (4, [.ref b0, .ref u1, .ref u2, .long uo, .int ur])), (u1, .inl (G.2 1, 384, .inr (.inl uk))), (u2, .inl (G.2 1, 40, .inr (.inl uw))), (v0, .inr (4, [.ref b0, .ref v1, .ref v2, .long vo, .int vr])), (v1, .inl (G.2 1, 384, .inr (.inl vk))), (v2, .inl (G.2 1, 40, .inr (.inl vw))), (b0, .inr (3, [.ref b1, .ref b2, .ref b3, .ref b4, .ref b5, .ref b6, .int bn])), (b1, .inl (G.2 0, 40, .inl kf)), (b2, .inl (G.2 0, 40, .inl ff)), (b3, .inl (G.2 0, 40, .inl sf)), (b4, .inl (G.2 0, 40, .inl df)), (b5, .inl (G.2 1, 40, .inr (.inl pf))), (b6, .inl (G.2 1, 6, .inr (.inl gf)))] ∧ ZZ (va_A [(x0, .inr (5, [.ref b0, .ref s0, .ref u0, .ref v0, .int tA, .int wP, .int nT, .int aK, .int lK, .int sW, .int rF])), (s0, .inr (4, [.ref b0, .ref s1, .ref s2, .long op, .int re])), (s1, .inl (G.2 1, 384, .inr (.inl dk))), (s2, .inl (G.2 1, 40, .inr (.inl wg))), (u0, .inr (4, [.ref b0, .ref u1, .ref u2, .long uo, .int ur])), (u1, .inl (G.2 1, 384, .inr (.inl uk))), (u2, .inl (G.2 1, 40, .inr (.inl uw))), (v0, .inr (4, [.ref b0, .ref v1, .ref v2, .long vo, .int vr])), (v1, .inl (G.2 1, 384, .inr (.inl vk))), (v2, .inl (G.2 1, 40, .inr (.inl vw))), (b0, .inr (3, [.ref b1, .ref b2, .ref b3, .ref b4, .ref b5, .ref b6, .int bn])), (b1, .inl (G.2 0, 40, .inl kf)), (b2, .inl (G.2 0, 40, .inl ff)), (b3, .inl (G.2 0, 40, .inl sf)), (b4, .inl (G.2 0, 40, .inl df)), (b5, .inl (G.2 1, 40, .inr (.inl pf))), (b6, .inl (G.2 1, 6, .inr (.inl gf)))] sz) U U.heap)) (va_Qi post (fun u t => PP G [(x0, .inr (5, [.ref b0, .ref s0, .ref u0, .ref v0, .int tA, .int wP, .int nT, .int aK, .int lK, .int sW, .int rF])), (s0, .inr (4, [.ref b0, .ref s1, .ref s2, .long op, .int re])), (s1, .inl (G.2 1, 384, .inr (.inl dk))), (s2, .inl (G.2 1, 40, .inr (.inl wg))), (u0, .inr (4, [.ref b0, .ref u1, .ref u2, .long uo, .int ur])), (u1, .inl (G.2 1, 384, .inr (.inl uk))), (u2, .inl (G.2 1, 40, .inr (.inl uw))), (v0, .inr (4, [.ref b0, .ref v1, .ref v2, .long vo, .int vr])), (v1, .inl (G.2 1, 384, .inr (.inl vk))), (v2, .inl (G.2 1, 40, .inr (.inl vw))), (b0, .inr (3, [.ref b1, .ref b2, .ref b3, .ref b4, .ref b5, .ref b6, .int bn])), (b1, .inl (G.2 0, 40, .inl kf)), (b2, .inl (G.2 0, 40, .inl ff)), (b3, .inl (G.2 0, 40, .inl sf)), (b4, .inl (G.2 0, 40, .inl df)), (b5, .inl (G.2 1, 40, .inr (.inl pf))), (b6, .inl (G.2 1, 6, .inr (.inl gf)))] t.heap ∧ va_D (va_A [(x0, .inr (5, [.ref b0, .ref s0, .ref u0, .ref v0, .int tA, .int wP, .int nT, .int aK, .int lK, .int sW, .int rF])), (s0, .inr (4, [.ref b0, .ref s1, .ref s2, .long op, .int re])), (s1, .inl (G.2 1, 384, .inr (.inl dk))), (s2, .inl (G.2 1, 40, .inr (.inl wg))), (u0, .inr (4, [.ref b0, .ref u1, .ref u2, .long uo, .int ur])), (u1, .inl (G.2 1, 384, .inr (.inl uk))), (u2, .inl (G.2 1, 40, .inr (.inl uw))), (v0, .inr (4, [.ref b0, .ref v1, .ref v2, .long vo, .int vr])), (v1, .inl (G.2 1, 384, .inr (.inl vk))), (v2, .inl (G.2 1, 40, .inr (.inl vw))), (b0, .inr (3, [.ref b1, .ref b2, .ref b3, .ref b4, .ref b5, .ref b6, .int bn])), (b1, .inl (G.2 0, 40, .inl kf)), (b2, .inl (G.2 0, 40, .inl ff)), (b3, .inl (G.2 0, 40, .inl sf)), (b4, .inl (G.2 0, 40, .inl df)), (b5, .inl (G.2 1, 40, .inr (.inl pf))), (b6, .inl (G.2 1, 6, .inr (.inl gf)))] sz) [(x0, .inr (5, [.ref b0, .ref s0, .ref u0, .ref v0, .int tA, .int wP, .int nT, .int aK, .int lK, .int sW, .int rF])), (s0, .inr (4, [.ref b0, .ref s1, .ref s2, .long op, .int re])), (s1, .inl (G.2 1, 384, .inr (.inl dk))), (s2, .inl (G.2 1, 40, .inr (.inl wg))), (u0, .inr (4, [.ref b0, .ref u1, .ref u2, .long uo, .int ur])), (u1, .inl (G.2 1, 384, .inr (.inl uk))), (u2, .inl (G.2 1, 40, .inr (.inl uw))), (v0, .inr (4, [.ref b0, .ref v1, .ref v2, .long vo, .int vr])), (v1, .inl (G.2 1, 384, .inr (.inl vk))), (v2, .inl (G.2 1, 40, .inr (.inl vw))), (b0, .inr (3, [.ref b1, .ref b2, .ref b3, .ref b4, .ref b5, .ref b6, .int bn])), (b1, .inl (G.2 0, 40, .inl kf)), (b2, .inl (G.2 0, 40, .inl ff)), (b3, .inl (G.2 0, 40, .inl sf)), (b4, .inl (G.2 0, 40, .inl df)), (b5, .inl (G.2 1, 40, .inr (.inl pf))), (b6, .inl (G.2 1, 6, .inr (.inl gf)))]) (va_A [(x0, .inr (5, [.ref b0, .ref s0, .ref u0, .ref v0, .int tA, .int wP, .int nT, .int aK, .int lK, .int sW, .int rF])), (s0, .inr (4, [.ref b0, .ref s1, .ref s2, .long op, .int re])), (s1, .inl (G.2 1, 384, .inr (.inl dk))), (s2, .inl (G.2 1, 40, .inr (.inl wg))), (u0, .inr (4, [.ref b0, .ref u1, .ref u2, .long uo, .int ur])), (u1, .inl (G.2 1, 384, .inr (.inl uk))), (u2, .inl (G.2 1, 40, .inr (.inl uw))), (v0, .inr (4, [.ref b0, .ref v1, .ref v2, .long vo, .int vr])), (v1, .inl (G.2 1, 384, .inr (.inl vk))), (v2, .inl (G.2 1, 40, .inr (.inl vw))), (b0, .inr (3, [.ref b1, .ref b2, .ref b3, .ref b4, .ref b5, .ref b6, .int bn])), (b1, .inl (G.2 0, 40, .inl kf)), (b2, .inl (G.2 0, 40, .inl ff)), (b3, .inl (G.2 0, 40, .inl sf)), (b4, .inl (G.2 0, 40, .inl df)), (b5, .inl (G.2 1, 40, .inr (.inl pf))), (b6, .inl (G.2 1, 6, .inr (.inl gf)))] sz)) (vx_X (fun _ : Unit => True) (fun E _ t => PP G [(x0, .inr (5, [.ref b0, .ref s0, .ref u0, .ref v0, .int tA, .int wP, .int nT, .int aK, .int lK, .int sW, .int rF])), (s0, .inr (4, [.ref b0, .ref s1, .ref s2, .long op, .int re])), (s1, .inl (G.2 1, 384, .inr (.inl dk))), (s2, .inl (G.2 1, 40, .inr (.inl wg))), (u0, .inr (4, [.ref b0, .ref u1, .ref u2, .long uo, .int ur])), (u1, .inl (G.2 1, 384, .inr (.inl uk))), (u2, .inl (G.2 1, 40, .inr (.inl uw))), (v0, .inr (4, [.ref b0, .ref v1, .ref v2, .long vo, .int vr])), (v1, .inl (G.2 1, 384, .inr (.inl vk))), (v2, .inl (G.2 1, 40, .inr (.inl vw))), (b0, .inr (3, [.ref b1, .ref b2, .ref b3, .ref b4, .ref b5, .ref b6, .int bn])), (b1, .inl (G.2 0, 40, .inl kf)), (b2, .inl (G.2 0, 40, .inl ff)), (b3, .inl (G.2 0, 40, .inl sf)), (b4, .inl (G.2 0, 40, .inl df)), (b5, .inl (G.2 1, 40, .inr (.inl pf))), (b6, .inl (G.2 1, 6, .inr (.inl gf)))] t.heap ∧ va_D (va_A [(x0, .inr (5, [.ref b0, .ref s0, .ref u0, .ref v0, .int tA, .int wP, .int nT, .int aK, .int lK, .int sW, .int rF])), (s0, .inr (4, [.ref b0, .ref s1, .ref s2, .long op, .int re])), (s1, .inl (G.2 1, 384, .inr (.inl dk))), (s2, .inl (G.2 1, 40, .inr (.inl wg))), (u0, .inr (4, [.ref b0, .ref u1, .ref u2, .long uo, .int ur])), (u1, .inl (G.2 1, 384, .inr (.inl uk))), (u2, .inl (G.2 1, 40, .inr (.inl uw))), (v0, .inr (4, [.ref b0, .ref v1, .ref v2, .long vo, .int vr])), (v1, .inl (G.2 1, 384, .inr (.inl vk))), (v2, .inl (G.2 1, 40, .inr (.inl vw))), (b0, .inr (3, [.ref b1, .ref b2, .ref b3, .ref b4, .ref b5, .ref b6, .int bn])), (b1, .inl (G.2 0, 40, .inl kf)), (b2, .inl (G.2 0, 40, .inl ff)), (b3, .inl (G.2 0, 40, .inl sf)), (b4, .inl (G.2 0, 40, .inl df)), (b5, .inl (G.2 1, 40, .inr (.inl pf))), (b6, .inl (G.2 1, 6, .inr (.inl gf)))] sz) [(x0, .inr (5, [.ref b0, .ref s0, .ref u0, .ref v0, .int tA, .int wP, .int nT, .int aK, .int lK, .int sW, .int rF])), (s0, .inr (4, [.ref b0, .ref s1, .ref s2, .long op, .int re])), (s1, .inl (G.2 1, 384, .inr (.inl dk))), (s2, .inl (G.2 1, 40, .inr (.inl wg))), (u0, .inr (4, [.ref b0, .ref u1, .ref u2, .long uo, .int ur])), (u1, .inl (G.2 1, 384, .inr (.inl uk))), (u2, .inl (G.2 1, 40, .inr (.inl uw))), (v0, .inr (4, [.ref b0, .ref v1, .ref v2, .long vo, .int vr])), (v1, .inl (G.2 1, 384, .inr (.inl vk))), (v2, .inl (G.2 1, 40, .inr (.inl vw))), (b0, .inr (3, [.ref b1, .ref b2, .ref b3, .ref b4, .ref b5, .ref b6, .int bn])), (b1, .inl (G.2 0, 40, .inl kf)), (b2, .inl (G.2 0, 40, .inl ff)), (b3, .inl (G.2 0, 40, .inl sf)), (b4, .inl (G.2 0, 40, .inl df)), (b5, .inl (G.2 1, 40, .inr (.inl pf))), (b6, .inl (G.2 1, 6, .inr (.inl gf)))] ∧ postx E) (va_A [(x0, .inr (5, [.ref b0, .ref s0, .ref u0, .ref v0, .int tA, .int wP, .int nT, .int aK, .int lK, .int sW, .int rF])), (s0, .inr (4, [.ref b0, .ref s1, .ref s2, .long op, .int re])), (s1, .inl (G.2 1, 384, .inr (.inl dk))), (s2, .inl (G.2 1, 40, .inr (.inl wg))), (u0, .inr (4, [.ref b0, .ref u1, .ref u2, .long uo, .int ur])), (u1, .inl (G.2 1, 384, .inr (.inl uk))), (u2, .inl (G.2 1, 40, .inr (.inl uw))), (v0, .inr (4, [.ref b0, .ref v1, .ref v2, .long vo, .int vr])), (v1, .inl (G.2 1, 384, .inr (.inl vk))), (v2, .inl (G.2 1, 40, .inr (.inl vw))), (b0, .inr (3, [.ref b1, .ref b2, .ref b3, .ref b4, .ref b5, .ref b6, .int bn])), (b1, .inl (G.2 0, 40, .inl kf)), (b2, .inl (G.2 0, 40, .inl ff)), (b3, .inl (G.2 0, 40, .inl sf)), (b4, .inl (G.2 0, 40, .inl df)), (b5, .inl (G.2 1, 40, .inr (.inl pf))), (b6, .inl (G.2 1, 6, .inr (.inl gf)))] sz)) 1 6 (va_A [(x0, .inr (5, [.ref b0, .ref s0, .ref u0, .ref v0, .int tA, .int wP, .int nT, .int aK, .int lK, .int sW, .int rF])), (s0, .inr (4, [.ref b0, .ref s1, .ref s2, .long op, .int re])), (s1, .inl (G.2 1, 384, .inr (.inl dk))), (s2, .inl (G.2 1, 40, .inr (.inl wg))), (u0, .inr (4, [.ref b0, .ref u1, .ref u2, .long uo, .int ur])), (u1, .inl (G.2 1, 384, .inr (.inl uk))), (u2, .inl (G.2 1, 40, .inr (.inl uw))), (v0, .inr (4, [.ref b0, .ref v1, .ref v2, .long vo, .int vr])), (v1, .inl (G.2 1, 384, .inr (.inl vk))), (v2, .inl (G.2 1, 40, .inr (.inl vw))), (b0, .inr (3, [.ref b1, .ref b2, .ref b3, .ref b4, .ref b5, .ref b6, .int bn])), (b1, .inl (G.2 0, 40, .inl kf)), (b2, .inl (G.2 0, 40, .inl ff)), (b3, .inl (G.2 0, 40, .inl sf)), (b4, .inl (G.2 0, 40, .inl df)), (b5, .inl (G.2 1, 40, .inr (.inl pf))), (b6, .inl (G.2 1, 6, .inr (.inl gf)))] sz) := by
  refine vx_ofW (cc := cX2_ofGuard) (maxL := 3) (ret := (some .int)) (by decide) rfl ?_
  intro p e s m args below meth c s₁ B hml hT hv
  obtain ⟨rfl, hsz, hP, hKK, hD0, hZ⟩ := hv
  obtain ⟨hK, hN, hR, hFW, hNC⟩ := id hKK
  have hx := B.exec
  have hb := B.bytes
  have hr := B.returns
  have hts0 := atoms_spec (ws := wl_xX2_ofGuard) B.pre
  have hts : ∀ w ∈ lwg, w.before ([.ref x0, .int p1, .int p2] : List Value).toArray s = true := fun w hw => hts0 w (List.mem_cons_of_mem _ hw)
  have hown : s.vm.findClass RX2 = some m.cls := findClass_of_methodNamed B.named
  have hlocks := B.notSynchronized
  subst hsz
  have hD := hD0.self (sz := s.heap.size)
  generalize hAe : va_A [(x0, .inr (5, [.ref b0, .ref s0, .ref u0, .ref v0, .int tA, .int wP, .int nT, .int aK, .int lK, .int sW, .int rF])), (s0, .inr (4, [.ref b0, .ref s1, .ref s2, .long op, .int re])), (s1, .inl (G.2 1, 384, .inr (.inl dk))), (s2, .inl (G.2 1, 40, .inr (.inl wg))), (u0, .inr (4, [.ref b0, .ref u1, .ref u2, .long uo, .int ur])), (u1, .inl (G.2 1, 384, .inr (.inl uk))), (u2, .inl (G.2 1, 40, .inr (.inl uw))), (v0, .inr (4, [.ref b0, .ref v1, .ref v2, .long vo, .int vr])), (v1, .inl (G.2 1, 384, .inr (.inl vk))), (v2, .inl (G.2 1, 40, .inr (.inl vw))), (b0, .inr (3, [.ref b1, .ref b2, .ref b3, .ref b4, .ref b5, .ref b6, .int bn])), (b1, .inl (G.2 0, 40, .inl kf)), (b2, .inl (G.2 0, 40, .inl ff)), (b3, .inl (G.2 0, 40, .inl sf)), (b4, .inl (G.2 0, 40, .inl df)), (b5, .inl (G.2 1, 40, .inr (.inl pf))), (b6, .inl (G.2 1, 6, .inr (.inl gf)))] s.heap.size = A at hD hZ ⊢
  have hA : ∀ q : Nat, s.heap.size ≤ q → A q := fun q h => by rw [← hAe]; exact Or.inr h
  have hS : va_S A s.heap s.heap [] := va_S.rf
  obtain ⟨QC, hQC⟩ : ∃ Z, Z = (va_Qi post (fun u t => PP G [(x0, .inr (5, [.ref b0, .ref s0, .ref u0, .ref v0, .int tA, .int wP, .int nT, .int aK, .int lK, .int sW, .int rF])), (s0, .inr (4, [.ref b0, .ref s1, .ref s2, .long op, .int re])), (s1, .inl (G.2 1, 384, .inr (.inl dk))), (s2, .inl (G.2 1, 40, .inr (.inl wg))), (u0, .inr (4, [.ref b0, .ref u1, .ref u2, .long uo, .int ur])), (u1, .inl (G.2 1, 384, .inr (.inl uk))), (u2, .inl (G.2 1, 40, .inr (.inl uw))), (v0, .inr (4, [.ref b0, .ref v1, .ref v2, .long vo, .int vr])), (v1, .inl (G.2 1, 384, .inr (.inl vk))), (v2, .inl (G.2 1, 40, .inr (.inl vw))), (b0, .inr (3, [.ref b1, .ref b2, .ref b3, .ref b4, .ref b5, .ref b6, .int bn])), (b1, .inl (G.2 0, 40, .inl kf)), (b2, .inl (G.2 0, 40, .inl ff)), (b3, .inl (G.2 0, 40, .inl sf)), (b4, .inl (G.2 0, 40, .inl df)), (b5, .inl (G.2 1, 40, .inr (.inl pf))), (b6, .inl (G.2 1, 6, .inr (.inl gf)))] t.heap ∧ va_D A [(x0, .inr (5, [.ref b0, .ref s0, .ref u0, .ref v0, .int tA, .int wP, .int nT, .int aK, .int lK, .int sW, .int rF])), (s0, .inr (4, [.ref b0, .ref s1, .ref s2, .long op, .int re])), (s1, .inl (G.2 1, 384, .inr (.inl dk))), (s2, .inl (G.2 1, 40, .inr (.inl wg))), (u0, .inr (4, [.ref b0, .ref u1, .ref u2, .long uo, .int ur])), (u1, .inl (G.2 1, 384, .inr (.inl uk))), (u2, .inl (G.2 1, 40, .inr (.inl uw))), (v0, .inr (4, [.ref b0, .ref v1, .ref v2, .long vo, .int vr])), (v1, .inl (G.2 1, 384, .inr (.inl vk))), (v2, .inl (G.2 1, 40, .inr (.inl vw))), (b0, .inr (3, [.ref b1, .ref b2, .ref b3, .ref b4, .ref b5, .ref b6, .int bn])), (b1, .inl (G.2 0, 40, .inl kf)), (b2, .inl (G.2 0, 40, .inl ff)), (b3, .inl (G.2 0, 40, .inl sf)), (b4, .inl (G.2 0, 40, .inl df)), (b5, .inl (G.2 1, 40, .inr (.inl pf))), (b6, .inl (G.2 1, 6, .inr (.inl gf)))]) A) := ⟨_, rfl⟩
  rw [← hQC]
  obtain ⟨XC, hXC⟩ : ∃ Z, Z = (vx_X (fun _ : Unit => True) (fun E _ t => PP G [(x0, .inr (5, [.ref b0, .ref s0, .ref u0, .ref v0, .int tA, .int wP, .int nT, .int aK, .int lK, .int sW, .int rF])), (s0, .inr (4, [.ref b0, .ref s1, .ref s2, .long op, .int re])), (s1, .inl (G.2 1, 384, .inr (.inl dk))), (s2, .inl (G.2 1, 40, .inr (.inl wg))), (u0, .inr (4, [.ref b0, .ref u1, .ref u2, .long uo, .int ur])), (u1, .inl (G.2 1, 384, .inr (.inl uk))), (u2, .inl (G.2 1, 40, .inr (.inl uw))), (v0, .inr (4, [.ref b0, .ref v1, .ref v2, .long vo, .int vr])), (v1, .inl (G.2 1, 384, .inr (.inl vk))), (v2, .inl (G.2 1, 40, .inr (.inl vw))), (b0, .inr (3, [.ref b1, .ref b2, .ref b3, .ref b4, .ref b5, .ref b6, .int bn])), (b1, .inl (G.2 0, 40, .inl kf)), (b2, .inl (G.2 0, 40, .inl ff)), (b3, .inl (G.2 0, 40, .inl sf)), (b4, .inl (G.2 0, 40, .inl df)), (b5, .inl (G.2 1, 40, .inr (.inl pf))), (b6, .inl (G.2 1, 6, .inr (.inl gf)))] t.heap ∧ va_D A [(x0, .inr (5, [.ref b0, .ref s0, .ref u0, .ref v0, .int tA, .int wP, .int nT, .int aK, .int lK, .int sW, .int rF])), (s0, .inr (4, [.ref b0, .ref s1, .ref s2, .long op, .int re])), (s1, .inl (G.2 1, 384, .inr (.inl dk))), (s2, .inl (G.2 1, 40, .inr (.inl wg))), (u0, .inr (4, [.ref b0, .ref u1, .ref u2, .long uo, .int ur])), (u1, .inl (G.2 1, 384, .inr (.inl uk))), (u2, .inl (G.2 1, 40, .inr (.inl uw))), (v0, .inr (4, [.ref b0, .ref v1, .ref v2, .long vo, .int vr])), (v1, .inl (G.2 1, 384, .inr (.inl vk))), (v2, .inl (G.2 1, 40, .inr (.inl vw))), (b0, .inr (3, [.ref b1, .ref b2, .ref b3, .ref b4, .ref b5, .ref b6, .int bn])), (b1, .inl (G.2 0, 40, .inl kf)), (b2, .inl (G.2 0, 40, .inl ff)), (b3, .inl (G.2 0, 40, .inl sf)), (b4, .inl (G.2 0, 40, .inl df)), (b5, .inl (G.2 1, 40, .inr (.inl pf))), (b6, .inl (G.2 1, 6, .inr (.inl gf)))] ∧ postx E) A) := ⟨_, rfl⟩
  rw [← hXC]
  obtain ⟨⟨zt, hZ1, hT1⟩, hZ2⟩ := id hZ
  have hP : PP G [(x0, .inr (5, [.ref b0, .ref s0, .ref u0, .ref v0, .int tA, .int wP, .int nT, .int aK, .int lK, .int sW, .int rF])), (s0, .inr (4, [.ref b0, .ref s1, .ref s2, .long op, .int re])), (s1, .inl (G.2 1, 384, .inr (.inl dk))), (s2, .inl (G.2 1, 40, .inr (.inl wg))), (u0, .inr (4, [.ref b0, .ref u1, .ref u2, .long uo, .int ur])), (u1, .inl (G.2 1, 384, .inr (.inl uk))), (u2, .inl (G.2 1, 40, .inr (.inl uw))), (v0, .inr (4, [.ref b0, .ref v1, .ref v2, .long vo, .int vr])), (v1, .inl (G.2 1, 384, .inr (.inl vk))), (v2, .inl (G.2 1, 40, .inr (.inl vw))), (b0, .inr (3, [.ref b1, .ref b2, .ref b3, .ref b4, .ref b5, .ref b6, .int bn])), (b1, .inl (G.2 0, 40, .inl kf)), (b2, .inl (G.2 0, 40, .inl ff)), (b3, .inl (G.2 0, 40, .inl sf)), (b4, .inl (G.2 0, 40, .inl df)), (b5, .inl (G.2 1, 40, .inr (.inl pf))), (b6, .inl (G.2 1, 6, .inr (.inl gf)))] s.heap := hP
  have hl := lv_entry ([.ref x0, .int p1, .int p2]) (n := 3) (Nat.le_of_ble_eq_true rfl)
  rw [lg_entry_eq]
  generalize (lg_sl ([.ref x0, .int p1, .int p2]) ++ List.replicate (3 - (lg_sl ([.ref x0, .int p1, .int p2])).length) Slot.unset).toArray = ls at hl ⊢
  have hl : lv_has ls 3 [(0, .ref x0), (1, .int p1), (2, .int p2)] := hl
  refine lv_iload_n hx hb dX2_ofGuard_0 rfl (lv_at hl 1 rfl) ?_
  have hPc := va_P.sub (ws' := []) hP [] rfl
  refine rdI (va_runS (As := [.int p1]) (rest := []) ⟨hx, hb, hml, hown, hts⟩ (kX2_isGuard l G p1 h) (va_cwS 1 hts (gdS q346 q347 q1 q348) rfl rfl rfl (by decide +kernel) ⟨Nat.le_of_ble_eq_true rfl, Nat.le_of_ble_eq_true rfl⟩) (preS hPc hKK) rfl rfl hl.1 rfl (lv_room (Nat.le_of_ble_eq_true rfl)) dX2_ofGuard_1 ⟨Nat.zero_le _, Nat.zero_le _⟩) (fun r_1 h => ?_)
  refine lv_if_ne (tgt := 17) hx hb dX2_ofGuard_4 (by decide) (fun hc => ?_) (fun hc => ?_)
  · have h := h.1 hc
    refine lv_iload_n hx hb dX2_ofGuard_17 rfl (lv_at hl 2 rfl) ?_
    by_cases hc0 : p2 = 0
    · have h := h.1 hc0
      refine lv_tableIn (tgt := 52) hx hb dX2_ofGuard_18 (by rw [hc0]; decide) (by rw [hc0]; decide) (by rw [hc0]; rfl) (by decide) ?_
      refine lv_aload_n hx hb dX2_ofGuard_52 rfl (lv_at hl 0 rfl) ?_
      refine va_get (D := G.1) (ci := 5) (v := .ref s0) (C := RX2) (T := TX2) (N := 11) hx hb hts igX2 hown hK hP 0 rfl rfl 1 (by decide) (hts _ q177) (fun _ h9 => h9) rfl dX2_ofGuard_53 ?_
      refine lv_iload_n hx hb dX2_ofGuard_56 rfl (lv_at hl 1 rfl) ?_
      have hPc := va_P.sub (ws' := [(s0, .inr (4, [.ref b0, .ref s1, .ref s2, .long op, .int re])), (s1, .inl (G.2 1, 384, .inr (.inl dk))), (s2, .inl (G.2 1, 40, .inr (.inl wg))), (b0, .inr (3, [.ref b1, .ref b2, .ref b3, .ref b4, .ref b5, .ref b6, .int bn])), (b1, .inl (G.2 0, 40, .inl kf)), (b2, .inl (G.2 0, 40, .inl ff)), (b3, .inl (G.2 0, 40, .inl sf)), (b4, .inl (G.2 0, 40, .inl df)), (b5, .inl (G.2 1, 40, .inr (.inl pf))), (b6, .inl (G.2 1, 6, .inr (.inl gf)))]) hP [1, 2, 3, 10, 11, 12, 13, 14, 15, 16] rfl
      refine rdI (va_runV (C := RX1) (As := [.int p1]) (rest := []) ⟨hx, hb, hml, hown, hts⟩ (kX1_countCells l G s0 s1 s2 b0 b1 b2 b3 b4 b5 b6 dk wg op re kf ff sf df pf gf bn p1 h) (cwV 1 hts (gdV q365 q366 q367 q3 q368) rfl rfl rfl (by decide +kernel) ⟨Nat.le_of_ble_eq_true rfl, Nat.le_of_ble_eq_true rfl⟩) (preV hPc hKK (va_recv hK hPc (ci := 4) (q0 := 0) rfl rfl)) rfl rfl hl.1 rfl (lv_room (Nat.le_of_ble_eq_true rfl)) dX2_ofGuard_57 ⟨Nat.zero_le _, Nat.zero_le _⟩) (fun r_2 h => ?_)
      refine vx_ret (W.widen (k := 1) (n := 6) (Nat.le_of_ble_eq_true rfl) (Nat.le_of_ble_eq_true rfl) ?_)
      subst hQC; exact W.iret (v := r_2) hx hb hr (fun t ht hW => ⟨⟨_, (), rfl, h, by rw [ht]; exact hP, hD⟩, hS.F ht⟩) hS.2.2 dX2_ofGuard_60
    have h := h.2 hc0
    by_cases hc1 : p2 = 1
    · have h := h.1 hc1
      refine lv_tableIn (tgt := 61) hx hb dX2_ofGuard_18 (by rw [hc1]; decide) (by rw [hc1]; decide) (by rw [hc1]; rfl) (by decide) ?_
      refine lv_aload_n hx hb dX2_ofGuard_61 rfl (lv_at hl 0 rfl) ?_
      refine va_get (D := G.1) (ci := 5) (v := .ref s0) (C := RX2) (T := TX2) (N := 11) hx hb hts igX2 hown hK hP 0 rfl rfl 1 (by decide) (hts _ q177) (fun _ h9 => h9) rfl dX2_ofGuard_62 ?_
      refine lv_iload_n hx hb dX2_ofGuard_65 rfl (lv_at hl 1 rfl) ?_
      refine lv_aload_n hx hb dX2_ofGuard_66 rfl (lv_at hl 0 rfl) ?_
      refine va_get (D := G.1) (ci := 5) (v := .ref s0) (C := RX2) (T := TX2) (N := 11) hx hb hts igX2 hown hK hP 0 rfl rfl 1 (by decide) (hts _ q177) (fun _ h9 => h9) rfl dX2_ofGuard_67 ?_
      refine va_getN (D := G.1) (ci := 4) (v := .int re) (C := RX1) (T := TX1) (N := 5) hx hb hts igX1 hown hK hP 1 rfl rfl 4 (by decide) (va_Nw.use rfl (hN _ n79)) (fun _ h9 => h9) rfl dX2_ofGuard_70 ?_
      have hPc := va_P.sub (ws' := [(s0, .inr (4, [.ref b0, .ref s1, .ref s2, .long op, .int re])), (s1, .inl (G.2 1, 384, .inr (.inl dk))), (s2, .inl (G.2 1, 40, .inr (.inl wg))), (b0, .inr (3, [.ref b1, .ref b2, .ref b3, .ref b4, .ref b5, .ref b6, .int bn])), (b1, .inl (G.2 0, 40, .inl kf)), (b2, .inl (G.2 0, 40, .inl ff)), (b3, .inl (G.2 0, 40, .inl sf)), (b4, .inl (G.2 0, 40, .inl df)), (b5, .inl (G.2 1, 40, .inr (.inl pf))), (b6, .inl (G.2 1, 6, .inr (.inl gf)))]) hP [1, 2, 3, 10, 11, 12, 13, 14, 15, 16] rfl
      refine rdL (va_runV (C := RX1) (As := [.int p1, .int re]) (rest := []) ⟨hx, hb, hml, hown, hts⟩ (kX1_cell l G s0 s1 s2 b0 b1 b2 b3 b4 b5 b6 dk wg op re kf ff sf df pf gf bn p1 re h) (cwV 2 hts (gdV q369 q157 q158 q3 q159) rfl rfl rfl (by decide +kernel) ⟨Nat.le_of_ble_eq_true rfl, Nat.le_of_ble_eq_true rfl⟩) (preV hPc hKK (va_recv hK hPc (ci := 4) (q0 := 0) rfl rfl)) rfl rfl hl.1 rfl (lv_room (Nat.le_of_ble_eq_true rfl)) dX2_ofGuard_73 ⟨Nat.zero_le _, Nat.zero_le _⟩) (fun r_3 h => ?_)
      have hPc := va_P.sub (ws' := []) hP [] rfl
      refine rdI (va_runS (As := [.long r_3]) (rest := []) ⟨hx, hb, hml, hown, hts⟩ (kJ13_bitCount_95d88 l G r_3 h) (va_cwS 1 hts (gdS q150 q151 q5 q152) rfl rfl rfl (by decide +kernel) ⟨Nat.le_of_ble_eq_true rfl, Nat.le_of_ble_eq_true rfl⟩) (preS hPc hKK) rfl rfl hl.1 rfl (lv_room (Nat.le_of_ble_eq_true rfl)) dX2_ofGuard_76 ⟨Nat.zero_le _, Nat.zero_le _⟩) (fun r_4 h => ?_)
      refine vx_ret (W.widen (k := 1) (n := 6) (Nat.le_of_ble_eq_true rfl) (Nat.le_of_ble_eq_true rfl) ?_)
      subst hQC; exact W.iret (v := r_4) hx hb hr (fun t ht hW => ⟨⟨_, (), rfl, h, by rw [ht]; exact hP, hD⟩, hS.F ht⟩) hS.2.2 dX2_ofGuard_79
    have h := h.2 hc1
    by_cases hc2 : p2 = 2
    · have h := h.1 hc2
      refine lv_tableIn (tgt := 80) hx hb dX2_ofGuard_18 (by rw [hc2]; decide) (by rw [hc2]; decide) (by rw [hc2]; rfl) (by decide) ?_
      refine lv_aload_n hx hb dX2_ofGuard_80 rfl (lv_at hl 0 rfl) ?_
      refine va_get (D := G.1) (ci := 5) (v := .ref s0) (C := RX2) (T := TX2) (N := 11) hx hb hts igX2 hown hK hP 0 rfl rfl 1 (by decide) (hts _ q177) (fun _ h9 => h9) rfl dX2_ofGuard_81 ?_
      refine lv_iload_n hx hb dX2_ofGuard_84 rfl (lv_at hl 1 rfl) ?_
      have hPc := va_P.sub (ws' := [(s0, .inr (4, [.ref b0, .ref s1, .ref s2, .long op, .int re])), (s1, .inl (G.2 1, 384, .inr (.inl dk))), (s2, .inl (G.2 1, 40, .inr (.inl wg))), (b0, .inr (3, [.ref b1, .ref b2, .ref b3, .ref b4, .ref b5, .ref b6, .int bn])), (b1, .inl (G.2 0, 40, .inl kf)), (b2, .inl (G.2 0, 40, .inl ff)), (b3, .inl (G.2 0, 40, .inl sf)), (b4, .inl (G.2 0, 40, .inl df)), (b5, .inl (G.2 1, 40, .inr (.inl pf))), (b6, .inl (G.2 1, 6, .inr (.inl gf)))]) hP [1, 2, 3, 10, 11, 12, 13, 14, 15, 16] rfl
      have hZc : ZZ (fun _ => False) s _ := (hZ.kept hS.2.1).narrow (fun _ h => False.elim h)
      refine rdI (va_runV (C := RX1) (As := [.int p1]) (rest := []) ⟨hx, hb, hml, hown, hts⟩ (kX1_factsSettledFor l G s0 s1 s2 b0 b1 b2 b3 b4 b5 b6 dk wg op re kf ff sf df pf gf bn p1 h) (cwV 1 hts (gdV q370 q371 q372 q3 q373) rfl rfl rfl (by decide +kernel) ⟨Nat.le_of_ble_eq_true rfl, Nat.le_of_ble_eq_true rfl⟩) (preVz hPc hKK hZc (va_recv hK hPc (ci := 4) (q0 := 0) rfl rfl)) rfl rfl hl.1 rfl (lv_room (Nat.le_of_ble_eq_true rfl)) dX2_ofGuard_85 ⟨Nat.zero_le _, Nat.zero_le _⟩) (fun r_5 h => ?_)
      refine vx_ret (W.widen (k := 1) (n := 6) (Nat.le_of_ble_eq_true rfl) (Nat.le_of_ble_eq_true rfl) ?_)
      subst hQC; exact W.iret (v := r_5) hx hb hr (fun t ht hW => ⟨⟨_, (), rfl, h, by rw [ht]; exact hP, hD⟩, hS.F ht⟩) hS.2.2 dX2_ofGuard_88
    have h := h.2 hc2
    by_cases hc3 : p2 = 3
    · have h := h.1 hc3
      refine lv_tableIn (tgt := 89) hx hb dX2_ofGuard_18 (by rw [hc3]; decide) (by rw [hc3]; decide) (by rw [hc3]; rfl) (by decide) ?_
      refine lv_aload_n hx hb dX2_ofGuard_89 rfl (lv_at hl 0 rfl) ?_
      refine va_get (D := G.1) (ci := 5) (v := .ref s0) (C := RX2) (T := TX2) (N := 11) hx hb hts igX2 hown hK hP 0 rfl rfl 1 (by decide) (hts _ q177) (fun _ h9 => h9) rfl dX2_ofGuard_90 ?_
      refine lv_iload_n hx hb dX2_ofGuard_93 rfl (lv_at hl 1 rfl) ?_
      have hPc := va_P.sub (ws' := [(s0, .inr (4, [.ref b0, .ref s1, .ref s2, .long op, .int re])), (s1, .inl (G.2 1, 384, .inr (.inl dk))), (s2, .inl (G.2 1, 40, .inr (.inl wg))), (b0, .inr (3, [.ref b1, .ref b2, .ref b3, .ref b4, .ref b5, .ref b6, .int bn])), (b1, .inl (G.2 0, 40, .inl kf)), (b2, .inl (G.2 0, 40, .inl ff)), (b3, .inl (G.2 0, 40, .inl sf)), (b4, .inl (G.2 0, 40, .inl df)), (b5, .inl (G.2 1, 40, .inr (.inl pf))), (b6, .inl (G.2 1, 6, .inr (.inl gf)))]) hP [1, 2, 3, 10, 11, 12, 13, 14, 15, 16] rfl
      refine rdI (va_runV (C := RX1) (As := [.int p1]) (rest := []) ⟨hx, hb, hml, hown, hts⟩ (kX1_countKnownBy l G s0 s1 s2 b0 b1 b2 b3 b4 b5 b6 dk wg op re kf ff sf df pf gf bn p1 h) (cwV 1 hts (gdV q374 q375 q376 q3 q377) rfl rfl rfl (by decide +kernel) ⟨Nat.le_of_ble_eq_true rfl, Nat.le_of_ble_eq_true rfl⟩) (preV hPc hKK (va_recv hK hPc (ci := 4) (q0 := 0) rfl rfl)) rfl rfl hl.1 rfl (lv_room (Nat.le_of_ble_eq_true rfl)) dX2_ofGuard_94 ⟨Nat.zero_le _, Nat.zero_le _⟩) (fun r_6 h => ?_)
      refine vx_ret (W.widen (k := 1) (n := 6) (Nat.le_of_ble_eq_true rfl) (Nat.le_of_ble_eq_true rfl) ?_)
      subst hQC; exact W.iret (v := r_6) hx hb hr (fun t ht hW => ⟨⟨_, (), rfl, h, by rw [ht]; exact hP, hD⟩, hS.F ht⟩) hS.2.2 dX2_ofGuard_97
    have h := h.2 hc3
    by_cases hc4 : p2 = 4
    · have h := h.1 hc4
      refine lv_tableIn (tgt := 98) hx hb dX2_ofGuard_18 (by rw [hc4]; decide) (by rw [hc4]; decide) (by rw [hc4]; rfl) (by decide) ?_
      refine lv_aload_n hx hb dX2_ofGuard_98 rfl (lv_at hl 0 rfl) ?_
      refine va_get (D := G.1) (ci := 5) (v := .ref s0) (C := RX2) (T := TX2) (N := 11) hx hb hts igX2 hown hK hP 0 rfl rfl 1 (by decide) (hts _ q177) (fun _ h9 => h9) rfl dX2_ofGuard_99 ?_
      refine lv_iload_n hx hb dX2_ofGuard_102 rfl (lv_at hl 1 rfl) ?_
      have hPc := va_P.sub (ws' := [(s0, .inr (4, [.ref b0, .ref s1, .ref s2, .long op, .int re])), (s1, .inl (G.2 1, 384, .inr (.inl dk))), (s2, .inl (G.2 1, 40, .inr (.inl wg))), (b0, .inr (3, [.ref b1, .ref b2, .ref b3, .ref b4, .ref b5, .ref b6, .int bn])), (b1, .inl (G.2 0, 40, .inl kf)), (b2, .inl (G.2 0, 40, .inl ff)), (b3, .inl (G.2 0, 40, .inl sf)), (b4, .inl (G.2 0, 40, .inl df)), (b5, .inl (G.2 1, 40, .inr (.inl pf))), (b6, .inl (G.2 1, 6, .inr (.inl gf)))]) hP [1, 2, 3, 10, 11, 12, 13, 14, 15, 16] rfl
      refine rdI (va_runV (C := RX1) (As := [.int p1]) (rest := []) ⟨hx, hb, hml, hown, hts⟩ (kX1_asSharpAs l G s0 s1 s2 b0 b1 b2 b3 b4 b5 b6 dk wg op re kf ff sf df pf gf bn p1 h) (cwV 1 hts (gdV q378 q379 q380 q3 q381) rfl rfl rfl (by decide +kernel) ⟨Nat.le_of_ble_eq_true rfl, Nat.le_of_ble_eq_true rfl⟩) (preV hPc hKK (va_recv hK hPc (ci := 4) (q0 := 0) rfl rfl)) rfl rfl hl.1 rfl (lv_room (Nat.le_of_ble_eq_true rfl)) dX2_ofGuard_103 ⟨Nat.zero_le _, Nat.zero_le _⟩) (fun r_7 h => ?_)
      refine vx_ret (W.widen (k := 1) (n := 6) (Nat.le_of_ble_eq_true rfl) (Nat.le_of_ble_eq_true rfl) ?_)
      subst hQC; exact W.iret (v := r_7) hx hb hr (fun t ht hW => ⟨⟨_, (), rfl, h, by rw [ht]; exact hP, hD⟩, hS.F ht⟩) hS.2.2 dX2_ofGuard_106
    have h := h.2 hc4
    refine lv_tableOut (tgt := 107) hx hb dX2_ofGuard_18 (tsw_0_4 hc0 hc1 hc2 hc3 hc4) (by decide) ?_
    obtain ⟨sa, hsa⟩ := hR.1 ("NightdeskRota", 229, "no such question of a guard") (List.mem_of_getElem? (i := 2) rfl)
    subst hXC
    exact vx_throwS (names := rtx) (text := "no such question of a guard") (sa := sa) hx hb hfl hown (by decide +kernel) (by decide +kernel) (hts _ q273) (hts _ q14) hsa (hatX hat43a hat43b hts hN hZ) hgd43 hZ.2.1 hZ.2.2 hS (hl.1.trans hml.symm) dX2_ofGuard_107 dX2_ofGuard_110 dX2_ofGuard_111 dX2_ofGuard_113 dX2_ofGuard_116 (fun x hx => (hT x hx).elim) (Nat.le_of_ble_eq_true rfl) (Nat.le_of_ble_eq_true rfl) (Nat.le_of_ble_eq_true rfl) (Nat.le_of_ble_eq_true rfl) hlocks (fun t ht h1 h2 => ⟨(), trivial, ⟨keepAll hP h2, hD, h⟩, h1, fun q hq _ => h2 q hq⟩) hS.2.2 (Nat.le_refl _) (Nat.le_refl _)
  · have h := h.2 hc
    obtain ⟨sa, hsa⟩ := hR.1 ("NightdeskRota", 144, "no such guard") (List.mem_of_getElem? (i := 1) rfl)
    subst hXC
    exact vx_throwS (names := rtx) (text := "no such guard") (sa := sa) hx hb hfl hown (by decide +kernel) (by decide +kernel) (hts _ q349) (hts _ q22) hsa (hatX hat87a hat87b hts hN hZ) hgd87 hZ.2.1 hZ.2.2 hS (hl.1.trans hml.symm) dX2_ofGuard_7 dX2_ofGuard_10 dX2_ofGuard_11 dX2_ofGuard_13 dX2_ofGuard_16 (fun x hx => (hT x hx).elim) (Nat.le_of_ble_eq_true rfl) (Nat.le_of_ble_eq_true rfl) (Nat.le_of_ble_eq_true rfl) (Nat.le_of_ble_eq_true rfl) hlocks (fun t ht h1 h2 => ⟨(), trivial, ⟨keepAll hP h2, hD, h⟩, h1, fun q hq _ => h2 q hq⟩) hS.2.2 (Nat.le_refl _) (Nat.le_refl _)
def wnX2_ofGuard (post : Int32 → Prop) (dk : Nat → Int64) (wg : Nat → Int64) (op : Int64) (re : Int32) (bn : Int32) (p1 : Int32) (p2 : Int32) : Prop :=
  wX2_isGuard (fun r_1 : Int32 =>
    ((¬ r_1 = 0) →
      (p2 = 0 →
        wX1_countCells (fun r_2 : Int32 =>
          post r_2
          ) dk op p1
      ) ∧ (¬ p2 = 0 →
      (p2 = 1 →
        wX1_cell (fun r_3 : Int64 =>
          wJ13_bitCount_95d88 (fun r_4 : Int32 =>
            post r_4
            ) r_3
          ) dk op p1 re
      ) ∧ (¬ p2 = 1 →
      (p2 = 2 →
        wX1_factsSettledFor (fun r_5 : Int32 =>
          post r_5
          ) dk op re p1
      ) ∧ (¬ p2 = 2 →
      (p2 = 3 →
        wX1_countKnownBy (fun r_6 : Int32 =>
          post r_6
          ) dk wg op re bn p1
      ) ∧ (¬ p2 = 3 →
      (p2 = 4 →
        wX1_asSharpAs (fun r_7 : Int32 =>
          post r_7
          ) dk op p1
      ) ∧ (¬ p2 = 4 →
        False
      )))))
    ) ∧ ((r_1 = 0) →
      False
    )
    ) p1
abbrev wl_nX2_ofGuard : List Cond := .code yX2_ofGuard cX2_ofGuard 3 (some .int) :: lwg
abbrev rm_nX2_ofGuard : Room := { frames := 4, cells := 0, slots := 0, locals := 87 }
set_option maxHeartbeats 4000000 in
set_option maxRecDepth 100000 in
theorem knX2_ofGuard {post : Int32 → Prop} (l : Launch) (G : GT) (x0 : Nat) (s0 : Nat) (s1 : Nat) (s2 : Nat) (u0 : Nat) (u1 : Nat) (u2 : Nat) (v0 : Nat) (v1 : Nat) (v2 : Nat) (b0 : Nat) (b1 : Nat) (b2 : Nat) (b3 : Nat) (b4 : Nat) (b5 : Nat) (b6 : Nat) (tA : Int32) (wP : Int32) (nT : Int32) (aK : Int32) (lK : Int32) (sW : Int32) (rF : Int32) (dk : Nat → Int64) (wg : Nat → Int64) (op : Int64) (re : Int32) (uk : Nat → Int64) (uw : Nat → Int64) (uo : Int64) (ur : Int32) (vk : Nat → Int64) (vw : Nat → Int64) (vo : Int64) (vr : Int32) (kf : Nat → Int32) (ff : Nat → Int32) (sf : Nat → Int32) (df : Nat → Int32) (pf : Nat → Int64) (gf : Nat → Int64) (bn : Int32) (p1 : Int32) (p2 : Int32) (h : wnX2_ofGuard post dk wg op re bn p1 p2) : Met l yX2_ofGuard wl_nX2_ofGuard rm_nX2_ofGuard (va_Pc [.ref x0, .int p1, .int p2] (fun U => PP G [(x0, .inr (5, [.ref b0, .ref s0, .ref u0, .ref v0, .int tA, .int wP, .int nT, .int aK, .int lK, .int sW, .int rF])), (s0, .inr (4, [.ref b0, .ref s1, .ref s2, .long op, .int re])), (s1, .inl (G.2 1, 384, .inr (.inl dk))), (s2, .inl (G.2 1, 40, .inr (.inl wg))), (u0, .inr (4, [.ref b0, .ref u1, .ref u2, .long uo, .int ur])), (u1, .inl (G.2 1, 384, .inr (.inl uk))), (u2, .inl (G.2 1, 40, .inr (.inl uw))), (v0, .inr (4, [.ref b0, .ref v1, .ref v2, .long vo, .int vr])), (v1, .inl (G.2 1, 384, .inr (.inl vk))), (v2, .inl (G.2 1, 40, .inr (.inl vw))), (b0, .inr (3, [.ref b1, .ref b2, .ref b3, .ref b4, .ref b5, .ref b6, .int bn])), (b1, .inl (G.2 0, 40, .inl kf)), (b2, .inl (G.2 0, 40, .inl ff)), (b3, .inl (G.2 0, 40, .inl sf)), (b4, .inl (G.2 0, 40, .inl df)), (b5, .inl (G.2 1, 40, .inr (.inl pf))), (b6, .inl (G.2 1, 6, .inr (.inl gf)))] U.heap ∧ KK G U ∧ ZZ (fun _ => False) U U.heap)) (vp_Si post) 0 0 (fun _ => False) := by
  refine Met.ofW (cc := cX2_ofGuard) (maxL := 3) (ret := (some .int)) (by decide) rfl ?_
  intro p e s m args below meth c s₁ B hml hv
  obtain ⟨rfl, hP, hKK, hZ⟩ := hv
  obtain ⟨hK, hN, hR, hFW, hNC⟩ := id hKK
  have hx := B.exec
  have hb := B.bytes
  have hr := B.returns
  have hts0 := atoms_spec (ws := wl_nX2_ofGuard) B.pre
  have hts : ∀ w ∈ lwg, w.before ([.ref x0, .int p1, .int p2] : List Value).toArray s = true := fun w hw => hts0 w (List.mem_cons_of_mem _ hw)
  have hown : s.vm.findClass RX2 = some m.cls := findClass_of_methodNamed B.named
  have hlocks := B.notSynchronized
  have hS : va_S (fun _ => False) s.heap s.heap [] := va_S.rf
  obtain ⟨⟨zt, hZ1, hT1⟩, hZ2⟩ := id hZ
  have hP : PP G [(x0, .inr (5, [.ref b0, .ref s0, .ref u0, .ref v0, .int tA, .int wP, .int nT, .int aK, .int lK, .int sW, .int rF])), (s0, .inr (4, [.ref b0, .ref s1, .ref s2, .long op, .int re])), (s1, .inl (G.2 1, 384, .inr (.inl dk))), (s2, .inl (G.2 1, 40, .inr (.inl wg))), (u0, .inr (4, [.ref b0, .ref u1, .ref u2, .long uo, .int ur])), (u1, .inl (G.2 1, 384, .inr (.inl uk))), (u2, .inl (G.2 1, 40, .inr (.inl uw))), (v0, .inr (4, [.ref b0, .ref v1, .ref v2, .long vo, .int vr])), (v1, .inl (G.2 1, 384, .inr (.inl vk))), (v2, .inl (G.2 1, 40, .inr (.inl vw))), (b0, .inr (3, [.ref b1, .ref b2, .ref b3, .ref b4, .ref b5, .ref b6, .int bn])), (b1, .inl (G.2 0, 40, .inl kf)), (b2, .inl (G.2 0, 40, .inl ff)), (b3, .inl (G.2 0, 40, .inl sf)), (b4, .inl (G.2 0, 40, .inl df)), (b5, .inl (G.2 1, 40, .inr (.inl pf))), (b6, .inl (G.2 1, 6, .inr (.inl gf)))] s.heap := hP
  have hl := lv_entry ([.ref x0, .int p1, .int p2]) (n := 3) (Nat.le_of_ble_eq_true rfl)
  rw [lg_entry_eq]
  generalize (lg_sl ([.ref x0, .int p1, .int p2]) ++ List.replicate (3 - (lg_sl ([.ref x0, .int p1, .int p2])).length) Slot.unset).toArray = ls at hl ⊢
  have hl : lv_has ls 3 [(0, .ref x0), (1, .int p1), (2, .int p2)] := hl
  refine lv_iload_n hx hb dX2_ofGuard_0 rfl (lv_at hl 1 rfl) ?_
  have hPc := va_P.sub (ws' := []) hP [] rfl
  refine rdI (va_runS (As := [.int p1]) (rest := []) ⟨hx, hb, hml, hown, hts⟩ (kX2_isGuard l G p1 h) (va_cwS 1 hts (gdS q346 q347 q1 q348) rfl rfl rfl (by decide +kernel) ⟨Nat.le_of_ble_eq_true rfl, Nat.le_of_ble_eq_true rfl⟩) (preS hPc hKK) rfl rfl hl.1 rfl (lv_room (Nat.le_of_ble_eq_true rfl)) dX2_ofGuard_1 ⟨Nat.zero_le _, Nat.zero_le _⟩) (fun r_1 h => ?_)
  refine lv_if_ne (tgt := 17) hx hb dX2_ofGuard_4 (by decide) (fun hc => ?_) (fun hc => ?_)
  · have h := h.1 hc
    refine lv_iload_n hx hb dX2_ofGuard_17 rfl (lv_at hl 2 rfl) ?_
    by_cases hc0 : p2 = 0
    · have h := h.1 hc0
      refine lv_tableIn (tgt := 52) hx hb dX2_ofGuard_18 (by rw [hc0]; decide) (by rw [hc0]; decide) (by rw [hc0]; rfl) (by decide) ?_
      refine lv_aload_n hx hb dX2_ofGuard_52 rfl (lv_at hl 0 rfl) ?_
      refine va_get (D := G.1) (ci := 5) (v := .ref s0) (C := RX2) (T := TX2) (N := 11) hx hb hts igX2 hown hK hP 0 rfl rfl 1 (by decide) (hts _ q177) (fun _ h9 => h9) rfl dX2_ofGuard_53 ?_
      refine lv_iload_n hx hb dX2_ofGuard_56 rfl (lv_at hl 1 rfl) ?_
      have hPc := va_P.sub (ws' := [(s0, .inr (4, [.ref b0, .ref s1, .ref s2, .long op, .int re])), (s1, .inl (G.2 1, 384, .inr (.inl dk))), (s2, .inl (G.2 1, 40, .inr (.inl wg))), (b0, .inr (3, [.ref b1, .ref b2, .ref b3, .ref b4, .ref b5, .ref b6, .int bn])), (b1, .inl (G.2 0, 40, .inl kf)), (b2, .inl (G.2 0, 40, .inl ff)), (b3, .inl (G.2 0, 40, .inl sf)), (b4, .inl (G.2 0, 40, .inl df)), (b5, .inl (G.2 1, 40, .inr (.inl pf))), (b6, .inl (G.2 1, 6, .inr (.inl gf)))]) hP [1, 2, 3, 10, 11, 12, 13, 14, 15, 16] rfl
      refine rdI (va_runV (C := RX1) (As := [.int p1]) (rest := []) ⟨hx, hb, hml, hown, hts⟩ (kX1_countCells l G s0 s1 s2 b0 b1 b2 b3 b4 b5 b6 dk wg op re kf ff sf df pf gf bn p1 h) (cwV 1 hts (gdV q365 q366 q367 q3 q368) rfl rfl rfl (by decide +kernel) ⟨Nat.le_of_ble_eq_true rfl, Nat.le_of_ble_eq_true rfl⟩) (preV hPc hKK (va_recv hK hPc (ci := 4) (q0 := 0) rfl rfl)) rfl rfl hl.1 rfl (lv_room (Nat.le_of_ble_eq_true rfl)) dX2_ofGuard_57 ⟨Nat.zero_le _, Nat.zero_le _⟩) (fun r_2 h => ?_)
      exact W.iret (v := r_2) hx hb hr (fun t ht _ => ⟨_, rfl, h, ht⟩) (fun _ hq => absurd hq List.not_mem_nil) dX2_ofGuard_60
    have h := h.2 hc0
    by_cases hc1 : p2 = 1
    · have h := h.1 hc1
      refine lv_tableIn (tgt := 61) hx hb dX2_ofGuard_18 (by rw [hc1]; decide) (by rw [hc1]; decide) (by rw [hc1]; rfl) (by decide) ?_
      refine lv_aload_n hx hb dX2_ofGuard_61 rfl (lv_at hl 0 rfl) ?_
      refine va_get (D := G.1) (ci := 5) (v := .ref s0) (C := RX2) (T := TX2) (N := 11) hx hb hts igX2 hown hK hP 0 rfl rfl 1 (by decide) (hts _ q177) (fun _ h9 => h9) rfl dX2_ofGuard_62 ?_
      refine lv_iload_n hx hb dX2_ofGuard_65 rfl (lv_at hl 1 rfl) ?_
      refine lv_aload_n hx hb dX2_ofGuard_66 rfl (lv_at hl 0 rfl) ?_
      refine va_get (D := G.1) (ci := 5) (v := .ref s0) (C := RX2) (T := TX2) (N := 11) hx hb hts igX2 hown hK hP 0 rfl rfl 1 (by decide) (hts _ q177) (fun _ h9 => h9) rfl dX2_ofGuard_67 ?_
      refine va_getN (D := G.1) (ci := 4) (v := .int re) (C := RX1) (T := TX1) (N := 5) hx hb hts igX1 hown hK hP 1 rfl rfl 4 (by decide) (va_Nw.use rfl (hN _ n79)) (fun _ h9 => h9) rfl dX2_ofGuard_70 ?_
      have hPc := va_P.sub (ws' := [(s0, .inr (4, [.ref b0, .ref s1, .ref s2, .long op, .int re])), (s1, .inl (G.2 1, 384, .inr (.inl dk))), (s2, .inl (G.2 1, 40, .inr (.inl wg))), (b0, .inr (3, [.ref b1, .ref b2, .ref b3, .ref b4, .ref b5, .ref b6, .int bn])), (b1, .inl (G.2 0, 40, .inl kf)), (b2, .inl (G.2 0, 40, .inl ff)), (b3, .inl (G.2 0, 40, .inl sf)), (b4, .inl (G.2 0, 40, .inl df)), (b5, .inl (G.2 1, 40, .inr (.inl pf))), (b6, .inl (G.2 1, 6, .inr (.inl gf)))]) hP [1, 2, 3, 10, 11, 12, 13, 14, 15, 16] rfl
      refine rdL (va_runV (C := RX1) (As := [.int p1, .int re]) (rest := []) ⟨hx, hb, hml, hown, hts⟩ (kX1_cell l G s0 s1 s2 b0 b1 b2 b3 b4 b5 b6 dk wg op re kf ff sf df pf gf bn p1 re h) (cwV 2 hts (gdV q369 q157 q158 q3 q159) rfl rfl rfl (by decide +kernel) ⟨Nat.le_of_ble_eq_true rfl, Nat.le_of_ble_eq_true rfl⟩) (preV hPc hKK (va_recv hK hPc (ci := 4) (q0 := 0) rfl rfl)) rfl rfl hl.1 rfl (lv_room (Nat.le_of_ble_eq_true rfl)) dX2_ofGuard_73 ⟨Nat.zero_le _, Nat.zero_le _⟩) (fun r_3 h => ?_)
      have hPc := va_P.sub (ws' := []) hP [] rfl
      refine rdI (va_runS (As := [.long r_3]) (rest := []) ⟨hx, hb, hml, hown, hts⟩ (kJ13_bitCount_95d88 l G r_3 h) (va_cwS 1 hts (gdS q150 q151 q5 q152) rfl rfl rfl (by decide +kernel) ⟨Nat.le_of_ble_eq_true rfl, Nat.le_of_ble_eq_true rfl⟩) (preS hPc hKK) rfl rfl hl.1 rfl (lv_room (Nat.le_of_ble_eq_true rfl)) dX2_ofGuard_76 ⟨Nat.zero_le _, Nat.zero_le _⟩) (fun r_4 h => ?_)
      exact W.iret (v := r_4) hx hb hr (fun t ht _ => ⟨_, rfl, h, ht⟩) (fun _ hq => absurd hq List.not_mem_nil) dX2_ofGuard_79
    have h := h.2 hc1
    by_cases hc2 : p2 = 2
    · have h := h.1 hc2
      refine lv_tableIn (tgt := 80) hx hb dX2_ofGuard_18 (by rw [hc2]; decide) (by rw [hc2]; decide) (by rw [hc2]; rfl) (by decide) ?_
      refine lv_aload_n hx hb dX2_ofGuard_80 rfl (lv_at hl 0 rfl) ?_
      refine va_get (D := G.1) (ci := 5) (v := .ref s0) (C := RX2) (T := TX2) (N := 11) hx hb hts igX2 hown hK hP 0 rfl rfl 1 (by decide) (hts _ q177) (fun _ h9 => h9) rfl dX2_ofGuard_81 ?_
      refine lv_iload_n hx hb dX2_ofGuard_84 rfl (lv_at hl 1 rfl) ?_
      have hPc := va_P.sub (ws' := [(s0, .inr (4, [.ref b0, .ref s1, .ref s2, .long op, .int re])), (s1, .inl (G.2 1, 384, .inr (.inl dk))), (s2, .inl (G.2 1, 40, .inr (.inl wg))), (b0, .inr (3, [.ref b1, .ref b2, .ref b3, .ref b4, .ref b5, .ref b6, .int bn])), (b1, .inl (G.2 0, 40, .inl kf)), (b2, .inl (G.2 0, 40, .inl ff)), (b3, .inl (G.2 0, 40, .inl sf)), (b4, .inl (G.2 0, 40, .inl df)), (b5, .inl (G.2 1, 40, .inr (.inl pf))), (b6, .inl (G.2 1, 6, .inr (.inl gf)))]) hP [1, 2, 3, 10, 11, 12, 13, 14, 15, 16] rfl
      have hZc : ZZ (fun _ => False) s _ := (hZ.kept hS.2.1).narrow (fun _ h => False.elim h)
      refine rdI (va_runV (C := RX1) (As := [.int p1]) (rest := []) ⟨hx, hb, hml, hown, hts⟩ (kX1_factsSettledFor l G s0 s1 s2 b0 b1 b2 b3 b4 b5 b6 dk wg op re kf ff sf df pf gf bn p1 h) (cwV 1 hts (gdV q370 q371 q372 q3 q373) rfl rfl rfl (by decide +kernel) ⟨Nat.le_of_ble_eq_true rfl, Nat.le_of_ble_eq_true rfl⟩) (preVz hPc hKK hZc (va_recv hK hPc (ci := 4) (q0 := 0) rfl rfl)) rfl rfl hl.1 rfl (lv_room (Nat.le_of_ble_eq_true rfl)) dX2_ofGuard_85 ⟨Nat.zero_le _, Nat.zero_le _⟩) (fun r_5 h => ?_)
      exact W.iret (v := r_5) hx hb hr (fun t ht _ => ⟨_, rfl, h, ht⟩) (fun _ hq => absurd hq List.not_mem_nil) dX2_ofGuard_88
    have h := h.2 hc2
    by_cases hc3 : p2 = 3
    · have h := h.1 hc3
      refine lv_tableIn (tgt := 89) hx hb dX2_ofGuard_18 (by rw [hc3]; decide) (by rw [hc3]; decide) (by rw [hc3]; rfl) (by decide) ?_
      refine lv_aload_n hx hb dX2_ofGuard_89 rfl (lv_at hl 0 rfl) ?_
      refine va_get (D := G.1) (ci := 5) (v := .ref s0) (C := RX2) (T := TX2) (N := 11) hx hb hts igX2 hown hK hP 0 rfl rfl 1 (by decide) (hts _ q177) (fun _ h9 => h9) rfl dX2_ofGuard_90 ?_
      refine lv_iload_n hx hb dX2_ofGuard_93 rfl (lv_at hl 1 rfl) ?_
      have hPc := va_P.sub (ws' := [(s0, .inr (4, [.ref b0, .ref s1, .ref s2, .long op, .int re])), (s1, .inl (G.2 1, 384, .inr (.inl dk))), (s2, .inl (G.2 1, 40, .inr (.inl wg))), (b0, .inr (3, [.ref b1, .ref b2, .ref b3, .ref b4, .ref b5, .ref b6, .int bn])), (b1, .inl (G.2 0, 40, .inl kf)), (b2, .inl (G.2 0, 40, .inl ff)), (b3, .inl (G.2 0, 40, .inl sf)), (b4, .inl (G.2 0, 40, .inl df)), (b5, .inl (G.2 1, 40, .inr (.inl pf))), (b6, .inl (G.2 1, 6, .inr (.inl gf)))]) hP [1, 2, 3, 10, 11, 12, 13, 14, 15, 16] rfl
      refine rdI (va_runV (C := RX1) (As := [.int p1]) (rest := []) ⟨hx, hb, hml, hown, hts⟩ (kX1_countKnownBy l G s0 s1 s2 b0 b1 b2 b3 b4 b5 b6 dk wg op re kf ff sf df pf gf bn p1 h) (cwV 1 hts (gdV q374 q375 q376 q3 q377) rfl rfl rfl (by decide +kernel) ⟨Nat.le_of_ble_eq_true rfl, Nat.le_of_ble_eq_true rfl⟩) (preV hPc hKK (va_recv hK hPc (ci := 4) (q0 := 0) rfl rfl)) rfl rfl hl.1 rfl (lv_room (Nat.le_of_ble_eq_true rfl)) dX2_ofGuard_94 ⟨Nat.zero_le _, Nat.zero_le _⟩) (fun r_6 h => ?_)
      exact W.iret (v := r_6) hx hb hr (fun t ht _ => ⟨_, rfl, h, ht⟩) (fun _ hq => absurd hq List.not_mem_nil) dX2_ofGuard_97
    have h := h.2 hc3
    by_cases hc4 : p2 = 4
    · have h := h.1 hc4
      refine lv_tableIn (tgt := 98) hx hb dX2_ofGuard_18 (by rw [hc4]; decide) (by rw [hc4]; decide) (by rw [hc4]; rfl) (by decide) ?_
      refine lv_aload_n hx hb dX2_ofGuard_98 rfl (lv_at hl 0 rfl) ?_
      refine va_get (D := G.1) (ci := 5) (v := .ref s0) (C := RX2) (T := TX2) (N := 11) hx hb hts igX2 hown hK hP 0 rfl rfl 1 (by decide) (hts _ q177) (fun _ h9 => h9) rfl dX2_ofGuard_99 ?_
      refine lv_iload_n hx hb dX2_ofGuard_102 rfl (lv_at hl 1 rfl) ?_
      have hPc := va_P.sub (ws' := [(s0, .inr (4, [.ref b0, .ref s1, .ref s2, .long op, .int re])), (s1, .inl (G.2 1, 384, .inr (.inl dk))), (s2, .inl (G.2 1, 40, .inr (.inl wg))), (b0, .inr (3, [.ref b1, .ref b2, .ref b3, .ref b4, .ref b5, .ref b6, .int bn])), (b1, .inl (G.2 0, 40, .inl kf)), (b2, .inl (G.2 0, 40, .inl ff)), (b3, .inl (G.2 0, 40, .inl sf)), (b4, .inl (G.2 0, 40, .inl df)), (b5, .inl (G.2 1, 40, .inr (.inl pf))), (b6, .inl (G.2 1, 6, .inr (.inl gf)))]) hP [1, 2, 3, 10, 11, 12, 13, 14, 15, 16] rfl
      refine rdI (va_runV (C := RX1) (As := [.int p1]) (rest := []) ⟨hx, hb, hml, hown, hts⟩ (kX1_asSharpAs l G s0 s1 s2 b0 b1 b2 b3 b4 b5 b6 dk wg op re kf ff sf df pf gf bn p1 h) (cwV 1 hts (gdV q378 q379 q380 q3 q381) rfl rfl rfl (by decide +kernel) ⟨Nat.le_of_ble_eq_true rfl, Nat.le_of_ble_eq_true rfl⟩) (preV hPc hKK (va_recv hK hPc (ci := 4) (q0 := 0) rfl rfl)) rfl rfl hl.1 rfl (lv_room (Nat.le_of_ble_eq_true rfl)) dX2_ofGuard_103 ⟨Nat.zero_le _, Nat.zero_le _⟩) (fun r_7 h => ?_)
      exact W.iret (v := r_7) hx hb hr (fun t ht _ => ⟨_, rfl, h, ht⟩) (fun _ hq => absurd hq List.not_mem_nil) dX2_ofGuard_106
    have h := h.2 hc4
    refine lv_tableOut (tgt := 107) hx hb dX2_ofGuard_18 (tsw_0_4 hc0 hc1 hc2 hc3 hc4) (by decide) ?_
    exact False.elim h
  · have h := h.2 hc
    exact False.elim h
theorem dX2_depth_0 : decode cX2_depth 0 = .ok (.aload_n 0, 1) := by decide +kernel
theorem dX2_depth_1 : decode cX2_depth 1 = .ok (.getfield 10, 3) := by decide +kernel
theorem dX2_depth_4 : decode cX2_depth 4 = .ok (.iload_n 2, 1) := by decide +kernel
theorem dX2_depth_5 : decode cX2_depth 5 = .ok (.invokevirtual 116, 3) := by decide +kernel
theorem dX2_depth_8 : decode cX2_depth 8 = .ok (.ifCond .ne 13, 3) := by decide +kernel
theorem dX2_depth_11 : decode cX2_depth 11 = .ok (.new 83, 3) := by decide +kernel
theorem dX2_depth_14 : decode cX2_depth 14 = .ok (.dup, 1) := by decide +kernel
theorem dX2_depth_15 : decode cX2_depth 15 = .ok (.ldc 119, 2) := by decide +kernel
theorem dX2_depth_17 : decode cX2_depth 17 = .ok (.invokespecial 87, 3) := by decide +kernel
theorem dX2_depth_20 : decode cX2_depth 20 = .ok (.athrow, 1) := by decide +kernel
theorem dX2_depth_21 : decode cX2_depth 21 = .ok (.iload_n 1, 1) := by decide +kernel
theorem dX2_depth_22 : decode cX2_depth 22 = .ok (.invokestatic 155, 3) := by decide +kernel
theorem dX2_depth_25 : decode cX2_depth 25 = .ok (.ifCond .ne 13, 3) := by decide +kernel
theorem dX2_depth_28 : decode cX2_depth 28 = .ok (.new 39, 3) := by decide +kernel
theorem dX2_depth_31 : decode cX2_depth 31 = .ok (.dup, 1) := by decide +kernel
theorem dX2_depth_32 : decode cX2_depth 32 = .ok (.ldc 158, 2) := by decide +kernel
theorem dX2_depth_34 : decode cX2_depth 34 = .ok (.invokespecial 43, 3) := by decide +kernel
theorem dX2_depth_37 : decode cX2_depth 37 = .ok (.athrow, 1) := by decide +kernel
theorem dX2_depth_38 : decode cX2_depth 38 = .ok (.aload_n 0, 1) := by decide +kernel
theorem dX2_depth_39 : decode cX2_depth 39 = .ok (.getfield 21, 3) := by decide +kernel
theorem dX2_depth_42 : decode cX2_depth 42 = .ok (.iload_n 1, 1) := by decide +kernel
theorem dX2_depth_43 : decode cX2_depth 43 = .ok (.aload_n 0, 1) := by decide +kernel
theorem dX2_depth_44 : decode cX2_depth 44 = .ok (.getfield 21, 3) := by decide +kernel
theorem dX2_depth_47 : decode cX2_depth 47 = .ok (.iload_n 2, 1) := by decide +kernel
theorem dX2_depth_48 : decode cX2_depth 48 = .ok (.invokevirtual 129, 3) := by decide +kernel
theorem dX2_depth_51 : decode cX2_depth 51 = .ok (.invokevirtual 231, 3) := by decide +kernel
theorem dX2_depth_54 : decode cX2_depth 54 = .ok (.ireturn, 1) := by decide +kernel
def wxX2_depth (post : Int32 → Unit → Prop) (postx : String → Prop) (dk : Nat → Int64) (wg : Nat → Int64) (op : Int64) (re : Int32) (bn : Int32) (p1 : Int32) (p2 : Int32) : Prop :=
  wX0_holds (fun r_1 : Int32 =>
    ((¬ r_1 = 0) →
      wX2_isSetOfGuards (fun r_2 : Int32 =>
        ((¬ r_2 = 0) →
          wX1_worldsOf (fun r_3 : Int64 =>
            wX1_depthFor (fun r_4 : Int32 =>
              post r_4 ()
              ) dk op re p1 r_3
            ) wg bn p2
        ) ∧ ((r_2 = 0) →
          postx "java/lang/IllegalArgumentException"
        )
        ) p1
    ) ∧ ((r_1 = 0) →
      postx "java/lang/IndexOutOfBoundsException"
    )
    ) bn p2
abbrev wl_xX2_depth : List Cond := .code yX2_depth cX2_depth 3 (some .int) :: lwg
abbrev rm_xX2_depth : Room := { frames := 6, cells := 1, slots := 6, locals := 124 }
set_option maxHeartbeats 4000000 in
set_option maxRecDepth 100000 in
theorem kxX2_depth {post : Int32 → Unit → Prop} {postx : String → Prop} (l : Launch) (hfl : l.stackTraces = false) (G : GT) (x0 : Nat) (s0 : Nat) (s1 : Nat) (s2 : Nat) (u0 : Nat) (u1 : Nat) (u2 : Nat) (v0 : Nat) (v1 : Nat) (v2 : Nat) (b0 : Nat) (b1 : Nat) (b2 : Nat) (b3 : Nat) (b4 : Nat) (b5 : Nat) (b6 : Nat) (tA : Int32) (wP : Int32) (nT : Int32) (aK : Int32) (lK : Int32) (sW : Int32) (rF : Int32) (dk : Nat → Int64) (wg : Nat → Int64) (op : Int64) (re : Int32) (uk : Nat → Int64) (uw : Nat → Int64) (uo : Int64) (ur : Int32) (vk : Nat → Int64) (vw : Nat → Int64) (vo : Int64) (vr : Int32) (kf : Nat → Int32) (ff : Nat → Int32) (sf : Nat → Int32) (df : Nat → Int32) (pf : Nat → Int64) (gf : Nat → Int64) (bn : Int32) (p1 : Int32) (p2 : Int32) (sz : Nat) (h : wxX2_depth post postx dk wg op re bn p1 p2) : vx_Met l yX2_depth wl_xX2_depth rm_xX2_depth (va_Pc [.ref x0, .int p1, .int p2] (fun U => U.heap.size = sz ∧ PP G [(x0, .inr (5, [.ref b0, .ref s0, .ref u0, .ref v0, .int tA, .int wP, .int nT, .int aK, .int lK, .int sW, .int rF])), (s0, .inr (4, [.ref b0, .ref s1, .ref s2, .long op, .int re])), (s1, .inl (G.2 1, 384, .inr (.inl dk))), (s2, .inl (G.2 1, 40, .inr (.inl wg))), (u0, .inr (4, [.ref b0, .ref u1, .ref u2, .long uo, .int ur])), (u1, .inl (G.2 1, 384, .inr (.inl uk))), (u2, .inl (G.2 1, 40, .inr (.inl uw))), (v0, .inr (4, [.ref b0, .ref v1, .ref v2, .long vo, .int vr])), (v1, .inl (G.2 1, 384, .inr (.inl vk))), (v2, .inl (G.2 1, 40, .inr (.inl vw))), (b0, .inr (3, [.ref b1, .ref b2, .ref b3, .ref b4, .ref b5, .ref b6, .int bn])), (b1, .inl (G.2 0, 40, .inl kf)), (b2, .inl (G.2 0, 40, .inl ff)), (b3, .inl (G.2 0, 40, .inl sf)), (b4, .inl (G.2 0, 40, .inl df)), (b5, .inl (G.2 1, 40, .inr (.inl pf))), (b6, .inl (G.2 1, 6, .inr (.inl gf)))] U.heap ∧ KK G U ∧ va_D (fun _ => True) [(x0, .inr (5, [.ref b0, .ref s0, .ref u0, .ref v0, .int tA, .int wP, .int nT, .int aK, .int lK, .int sW, .int rF])), (s0, .inr (4, [.ref b0, .ref s1, .ref s2, .long op, .int re])), (s1, .inl (G.2 1, 384, .inr (.inl dk))), (s2, .inl (G.2 1, 40, .inr (.inl wg))), (u0, .inr (4, [.ref b0, .ref u1, .ref u2, .long uo, .int ur])), (u1, .inl (G.2 1, 384, .inr (.inl uk))), (u2, .inl (G.2 1, 40, .inr (.inl uw))), (v0, .inr (4, [.ref b0, .ref v1, .ref v2, .long vo, .int vr])), (v1, .inl (G.2 1, 384, .inr (.inl vk))), (v2, .inl (G.2 1, 40, .inr (.inl vw))), (b0, .inr (3, [.ref b1, .ref b2, .ref b3, .ref b4, .ref b5, .ref b6, .int bn])), (b1, .inl (G.2 0, 40, .inl kf)), (b2, .inl (G.2 0, 40, .inl ff)), (b3, .inl (G.2 0, 40, .inl sf)), (b4, .inl (G.2 0, 40, .inl df)), (b5, .inl (G.2 1, 40, .inr (.inl pf))), (b6, .inl (G.2 1, 6, .inr (.inl gf)))] ∧ ZZ (va_A [(x0, .inr (5, [.ref b0, .ref s0, .ref u0, .ref v0, .int tA, .int wP, .int nT, .int aK, .int lK, .int sW, .int rF])), (s0, .inr (4, [.ref b0, .ref s1, .ref s2, .long op, .int re])), (s1, .inl (G.2 1, 384, .inr (.inl dk))), (s2, .inl (G.2 1, 40, .inr (.inl wg))), (u0, .inr (4, [.ref b0, .ref u1, .ref u2, .long uo, .int ur])), (u1, .inl (G.2 1, 384, .inr (.inl uk))), (u2, .inl (G.2 1, 40, .inr (.inl uw))), (v0, .inr (4, [.ref b0, .ref v1, .ref v2, .long vo, .int vr])), (v1, .inl (G.2 1, 384, .inr (.inl vk))), (v2, .inl (G.2 1, 40, .inr (.inl vw))), (b0, .inr (3, [.ref b1, .ref b2, .ref b3, .ref b4, .ref b5, .ref b6, .int bn])), (b1, .inl (G.2 0, 40, .inl kf)), (b2, .inl (G.2 0, 40, .inl ff)), (b3, .inl (G.2 0, 40, .inl sf)), (b4, .inl (G.2 0, 40, .inl df)), (b5, .inl (G.2 1, 40, .inr (.inl pf))), (b6, .inl (G.2 1, 6, .inr (.inl gf)))] sz) U U.heap)) (va_Qi post (fun u t => PP G [(x0, .inr (5, [.ref b0, .ref s0, .ref u0, .ref v0, .int tA, .int wP, .int nT, .int aK, .int lK, .int sW, .int rF])), (s0, .inr (4, [.ref b0, .ref s1, .ref s2, .long op, .int re])), (s1, .inl (G.2 1, 384, .inr (.inl dk))), (s2, .inl (G.2 1, 40, .inr (.inl wg))), (u0, .inr (4, [.ref b0, .ref u1, .ref u2, .long uo, .int ur])), (u1, .inl (G.2 1, 384, .inr (.inl uk))), (u2, .inl (G.2 1, 40, .inr (.inl uw))), (v0, .inr (4, [.ref b0, .ref v1, .ref v2, .long vo, .int vr])), (v1, .inl (G.2 1, 384, .inr (.inl vk))), (v2, .inl (G.2 1, 40, .inr (.inl vw))), (b0, .inr (3, [.ref b1, .ref b2, .ref b3, .ref b4, .ref b5, .ref b6, .int bn])), (b1, .inl (G.2 0, 40, .inl kf)), (b2, .inl (G.2 0, 40, .inl ff)), (b3, .inl (G.2 0, 40, .inl sf)), (b4, .inl (G.2 0, 40, .inl df)), (b5, .inl (G.2 1, 40, .inr (.inl pf))), (b6, .inl (G.2 1, 6, .inr (.inl gf)))] t.heap ∧ va_D (va_A [(x0, .inr (5, [.ref b0, .ref s0, .ref u0, .ref v0, .int tA, .int wP, .int nT, .int aK, .int lK, .int sW, .int rF])), (s0, .inr (4, [.ref b0, .ref s1, .ref s2, .long op, .int re])), (s1, .inl (G.2 1, 384, .inr (.inl dk))), (s2, .inl (G.2 1, 40, .inr (.inl wg))), (u0, .inr (4, [.ref b0, .ref u1, .ref u2, .long uo, .int ur])), (u1, .inl (G.2 1, 384, .inr (.inl uk))), (u2, .inl (G.2 1, 40, .inr (.inl uw))), (v0, .inr (4, [.ref b0, .ref v1, .ref v2, .long vo, .int vr])), (v1, .inl (G.2 1, 384, .inr (.inl vk))), (v2, .inl (G.2 1, 40, .inr (.inl vw))), (b0, .inr (3, [.ref b1, .ref b2, .ref b3, .ref b4, .ref b5, .ref b6, .int bn])), (b1, .inl (G.2 0, 40, .inl kf)), (b2, .inl (G.2 0, 40, .inl ff)), (b3, .inl (G.2 0, 40, .inl sf)), (b4, .inl (G.2 0, 40, .inl df)), (b5, .inl (G.2 1, 40, .inr (.inl pf))), (b6, .inl (G.2 1, 6, .inr (.inl gf)))] sz) [(x0, .inr (5, [.ref b0, .ref s0, .ref u0, .ref v0, .int tA, .int wP, .int nT, .int aK, .int lK, .int sW, .int rF])), (s0, .inr (4, [.ref b0, .ref s1, .ref s2, .long op, .int re])), (s1, .inl (G.2 1, 384, .inr (.inl dk))), (s2, .inl (G.2 1, 40, .inr (.inl wg))), (u0, .inr (4, [.ref b0, .ref u1, .ref u2, .long uo, .int ur])), (u1, .inl (G.2 1, 384, .inr (.inl uk))), (u2, .inl (G.2 1, 40, .inr (.inl uw))), (v0, .inr (4, [.ref b0, .ref v1, .ref v2, .long vo, .int vr])), (v1, .inl (G.2 1, 384, .inr (.inl vk))), (v2, .inl (G.2 1, 40, .inr (.inl vw))), (b0, .inr (3, [.ref b1, .ref b2, .ref b3, .ref b4, .ref b5, .ref b6, .int bn])), (b1, .inl (G.2 0, 40, .inl kf)), (b2, .inl (G.2 0, 40, .inl ff)), (b3, .inl (G.2 0, 40, .inl sf)), (b4, .inl (G.2 0, 40, .inl df)), (b5, .inl (G.2 1, 40, .inr (.inl pf))), (b6, .inl (G.2 1, 6, .inr (.inl gf)))]) (va_A [(x0, .inr (5, [.ref b0, .ref s0, .ref u0, .ref v0, .int tA, .int wP, .int nT, .int aK, .int lK, .int sW, .int rF])), (s0, .inr (4, [.ref b0, .ref s1, .ref s2, .long op, .int re])), (s1, .inl (G.2 1, 384, .inr (.inl dk))), (s2, .inl (G.2 1, 40, .inr (.inl wg))), (u0, .inr (4, [.ref b0, .ref u1, .ref u2, .long uo, .int ur])), (u1, .inl (G.2 1, 384, .inr (.inl uk))), (u2, .inl (G.2 1, 40, .inr (.inl uw))), (v0, .inr (4, [.ref b0, .ref v1, .ref v2, .long vo, .int vr])), (v1, .inl (G.2 1, 384, .inr (.inl vk))), (v2, .inl (G.2 1, 40, .inr (.inl vw))), (b0, .inr (3, [.ref b1, .ref b2, .ref b3, .ref b4, .ref b5, .ref b6, .int bn])), (b1, .inl (G.2 0, 40, .inl kf)), (b2, .inl (G.2 0, 40, .inl ff)), (b3, .inl (G.2 0, 40, .inl sf)), (b4, .inl (G.2 0, 40, .inl df)), (b5, .inl (G.2 1, 40, .inr (.inl pf))), (b6, .inl (G.2 1, 6, .inr (.inl gf)))] sz)) (vx_X (fun _ : Unit => True) (fun E _ t => PP G [(x0, .inr (5, [.ref b0, .ref s0, .ref u0, .ref v0, .int tA, .int wP, .int nT, .int aK, .int lK, .int sW, .int rF])), (s0, .inr (4, [.ref b0, .ref s1, .ref s2, .long op, .int re])), (s1, .inl (G.2 1, 384, .inr (.inl dk))), (s2, .inl (G.2 1, 40, .inr (.inl wg))), (u0, .inr (4, [.ref b0, .ref u1, .ref u2, .long uo, .int ur])), (u1, .inl (G.2 1, 384, .inr (.inl uk))), (u2, .inl (G.2 1, 40, .inr (.inl uw))), (v0, .inr (4, [.ref b0, .ref v1, .ref v2, .long vo, .int vr])), (v1, .inl (G.2 1, 384, .inr (.inl vk))), (v2, .inl (G.2 1, 40, .inr (.inl vw))), (b0, .inr (3, [.ref b1, .ref b2, .ref b3, .ref b4, .ref b5, .ref b6, .int bn])), (b1, .inl (G.2 0, 40, .inl kf)), (b2, .inl (G.2 0, 40, .inl ff)), (b3, .inl (G.2 0, 40, .inl sf)), (b4, .inl (G.2 0, 40, .inl df)), (b5, .inl (G.2 1, 40, .inr (.inl pf))), (b6, .inl (G.2 1, 6, .inr (.inl gf)))] t.heap ∧ va_D (va_A [(x0, .inr (5, [.ref b0, .ref s0, .ref u0, .ref v0, .int tA, .int wP, .int nT, .int aK, .int lK, .int sW, .int rF])), (s0, .inr (4, [.ref b0, .ref s1, .ref s2, .long op, .int re])), (s1, .inl (G.2 1, 384, .inr (.inl dk))), (s2, .inl (G.2 1, 40, .inr (.inl wg))), (u0, .inr (4, [.ref b0, .ref u1, .ref u2, .long uo, .int ur])), (u1, .inl (G.2 1, 384, .inr (.inl uk))), (u2, .inl (G.2 1, 40, .inr (.inl uw))), (v0, .inr (4, [.ref b0, .ref v1, .ref v2, .long vo, .int vr])), (v1, .inl (G.2 1, 384, .inr (.inl vk))), (v2, .inl (G.2 1, 40, .inr (.inl vw))), (b0, .inr (3, [.ref b1, .ref b2, .ref b3, .ref b4, .ref b5, .ref b6, .int bn])), (b1, .inl (G.2 0, 40, .inl kf)), (b2, .inl (G.2 0, 40, .inl ff)), (b3, .inl (G.2 0, 40, .inl sf)), (b4, .inl (G.2 0, 40, .inl df)), (b5, .inl (G.2 1, 40, .inr (.inl pf))), (b6, .inl (G.2 1, 6, .inr (.inl gf)))] sz) [(x0, .inr (5, [.ref b0, .ref s0, .ref u0, .ref v0, .int tA, .int wP, .int nT, .int aK, .int lK, .int sW, .int rF])), (s0, .inr (4, [.ref b0, .ref s1, .ref s2, .long op, .int re])), (s1, .inl (G.2 1, 384, .inr (.inl dk))), (s2, .inl (G.2 1, 40, .inr (.inl wg))), (u0, .inr (4, [.ref b0, .ref u1, .ref u2, .long uo, .int ur])), (u1, .inl (G.2 1, 384, .inr (.inl uk))), (u2, .inl (G.2 1, 40, .inr (.inl uw))), (v0, .inr (4, [.ref b0, .ref v1, .ref v2, .long vo, .int vr])), (v1, .inl (G.2 1, 384, .inr (.inl vk))), (v2, .inl (G.2 1, 40, .inr (.inl vw))), (b0, .inr (3, [.ref b1, .ref b2, .ref b3, .ref b4, .ref b5, .ref b6, .int bn])), (b1, .inl (G.2 0, 40, .inl kf)), (b2, .inl (G.2 0, 40, .inl ff)), (b3, .inl (G.2 0, 40, .inl sf)), (b4, .inl (G.2 0, 40, .inl df)), (b5, .inl (G.2 1, 40, .inr (.inl pf))), (b6, .inl (G.2 1, 6, .inr (.inl gf)))] ∧ postx E) (va_A [(x0, .inr (5, [.ref b0, .ref s0, .ref u0, .ref v0, .int tA, .int wP, .int nT, .int aK, .int lK, .int sW, .int rF])), (s0, .inr (4, [.ref b0, .ref s1, .ref s2, .long op, .int re])), (s1, .inl (G.2 1, 384, .inr (.inl dk))), (s2, .inl (G.2 1, 40, .inr (.inl wg))), (u0, .inr (4, [.ref b0, .ref u1, .ref u2, .long uo, .int ur])), (u1, .inl (G.2 1, 384, .inr (.inl uk))), (u2, .inl (G.2 1, 40, .inr (.inl uw))), (v0, .inr (4, [.ref b0, .ref v1, .ref v2, .long vo, .int vr])), (v1, .inl (G.2 1, 384, .inr (.inl vk))), (v2, .inl (G.2 1, 40, .inr (.inl vw))), (b0, .inr (3, [.ref b1, .ref b2, .ref b3, .ref b4, .ref b5, .ref b6, .int bn])), (b1, .inl (G.2 0, 40, .inl kf)), (b2, .inl (G.2 0, 40, .inl ff)), (b3, .inl (G.2 0, 40, .inl sf)), (b4, .inl (G.2 0, 40, .inl df)), (b5, .inl (G.2 1, 40, .inr (.inl pf))), (b6, .inl (G.2 1, 6, .inr (.inl gf)))] sz)) 1 6 (va_A [(x0, .inr (5, [.ref b0, .ref s0, .ref u0, .ref v0, .int tA, .int wP, .int nT, .int aK, .int lK, .int sW, .int rF])), (s0, .inr (4, [.ref b0, .ref s1, .ref s2, .long op, .int re])), (s1, .inl (G.2 1, 384, .inr (.inl dk))), (s2, .inl (G.2 1, 40, .inr (.inl wg))), (u0, .inr (4, [.ref b0, .ref u1, .ref u2, .long uo, .int ur])), (u1, .inl (G.2 1, 384, .inr (.inl uk))), (u2, .inl (G.2 1, 40, .inr (.inl uw))), (v0, .inr (4, [.ref b0, .ref v1, .ref v2, .long vo, .int vr])), (v1, .inl (G.2 1, 384, .inr (.inl vk))), (v2, .inl (G.2 1, 40, .inr (.inl vw))), (b0, .inr (3, [.ref b1, .ref b2, .ref b3, .ref b4, .ref b5, .ref b6, .int bn])), (b1, .inl (G.2 0, 40, .inl kf)), (b2, .inl (G.2 0, 40, .inl ff)), (b3, .inl (G.2 0, 40, .inl sf)), (b4, .inl (G.2 0, 40, .inl df)), (b5, .inl (G.2 1, 40, .inr (.inl pf))), (b6, .inl (G.2 1, 6, .inr (.inl gf)))] sz) := by
  refine vx_ofW (cc := cX2_depth) (maxL := 3) (ret := (some .int)) (by decide) rfl ?_
  intro p e s m args below meth c s₁ B hml hT hv
  obtain ⟨rfl, hsz, hP, hKK, hD0, hZ⟩ := hv
  obtain ⟨hK, hN, hR, hFW, hNC⟩ := id hKK
  have hx := B.exec
  have hb := B.bytes
  have hr := B.returns
  have hts0 := atoms_spec (ws := wl_xX2_depth) B.pre
  have hts : ∀ w ∈ lwg, w.before ([.ref x0, .int p1, .int p2] : List Value).toArray s = true := fun w hw => hts0 w (List.mem_cons_of_mem _ hw)
  have hown : s.vm.findClass RX2 = some m.cls := findClass_of_methodNamed B.named
  have hlocks := B.notSynchronized
  subst hsz
  have hD := hD0.self (sz := s.heap.size)
  generalize hAe : va_A [(x0, .inr (5, [.ref b0, .ref s0, .ref u0, .ref v0, .int tA, .int wP, .int nT, .int aK, .int lK, .int sW, .int rF])), (s0, .inr (4, [.ref b0, .ref s1, .ref s2, .long op, .int re])), (s1, .inl (G.2 1, 384, .inr (.inl dk))), (s2, .inl (G.2 1, 40, .inr (.inl wg))), (u0, .inr (4, [.ref b0, .ref u1, .ref u2, .long uo, .int ur])), (u1, .inl (G.2 1, 384, .inr (.inl uk))), (u2, .inl (G.2 1, 40, .inr (.inl uw))), (v0, .inr (4, [.ref b0, .ref v1, .ref v2, .long vo, .int vr])), (v1, .inl (G.2 1, 384, .inr (.inl vk))), (v2, .inl (G.2 1, 40, .inr (.inl vw))), (b0, .inr (3, [.ref b1, .ref b2, .ref b3, .ref b4, .ref b5, .ref b6, .int bn])), (b1, .inl (G.2 0, 40, .inl kf)), (b2, .inl (G.2 0, 40, .inl ff)), (b3, .inl (G.2 0, 40, .inl sf)), (b4, .inl (G.2 0, 40, .inl df)), (b5, .inl (G.2 1, 40, .inr (.inl pf))), (b6, .inl (G.2 1, 6, .inr (.inl gf)))] s.heap.size = A at hD hZ ⊢
  have hA : ∀ q : Nat, s.heap.size ≤ q → A q := fun q h => by rw [← hAe]; exact Or.inr h
  have hS : va_S A s.heap s.heap [] := va_S.rf
  obtain ⟨QC, hQC⟩ : ∃ Z, Z = (va_Qi post (fun u t => PP G [(x0, .inr (5, [.ref b0, .ref s0, .ref u0, .ref v0, .int tA, .int wP, .int nT, .int aK, .int lK, .int sW, .int rF])), (s0, .inr (4, [.ref b0, .ref s1, .ref s2, .long op, .int re])), (s1, .inl (G.2 1, 384, .inr (.inl dk))), (s2, .inl (G.2 1, 40, .inr (.inl wg))), (u0, .inr (4, [.ref b0, .ref u1, .ref u2, .long uo, .int ur])), (u1, .inl (G.2 1, 384, .inr (.inl uk))), (u2, .inl (G.2 1, 40, .inr (.inl uw))), (v0, .inr (4, [.ref b0, .ref v1, .ref v2, .long vo, .int vr])), (v1, .inl (G.2 1, 384, .inr (.inl vk))), (v2, .inl (G.2 1, 40, .inr (.inl vw))), (b0, .inr (3, [.ref b1, .ref b2, .ref b3, .ref b4, .ref b5, .ref b6, .int bn])), (b1, .inl (G.2 0, 40, .inl kf)), (b2, .inl (G.2 0, 40, .inl ff)), (b3, .inl (G.2 0, 40, .inl sf)), (b4, .inl (G.2 0, 40, .inl df)), (b5, .inl (G.2 1, 40, .inr (.inl pf))), (b6, .inl (G.2 1, 6, .inr (.inl gf)))] t.heap ∧ va_D A [(x0, .inr (5, [.ref b0, .ref s0, .ref u0, .ref v0, .int tA, .int wP, .int nT, .int aK, .int lK, .int sW, .int rF])), (s0, .inr (4, [.ref b0, .ref s1, .ref s2, .long op, .int re])), (s1, .inl (G.2 1, 384, .inr (.inl dk))), (s2, .inl (G.2 1, 40, .inr (.inl wg))), (u0, .inr (4, [.ref b0, .ref u1, .ref u2, .long uo, .int ur])), (u1, .inl (G.2 1, 384, .inr (.inl uk))), (u2, .inl (G.2 1, 40, .inr (.inl uw))), (v0, .inr (4, [.ref b0, .ref v1, .ref v2, .long vo, .int vr])), (v1, .inl (G.2 1, 384, .inr (.inl vk))), (v2, .inl (G.2 1, 40, .inr (.inl vw))), (b0, .inr (3, [.ref b1, .ref b2, .ref b3, .ref b4, .ref b5, .ref b6, .int bn])), (b1, .inl (G.2 0, 40, .inl kf)), (b2, .inl (G.2 0, 40, .inl ff)), (b3, .inl (G.2 0, 40, .inl sf)), (b4, .inl (G.2 0, 40, .inl df)), (b5, .inl (G.2 1, 40, .inr (.inl pf))), (b6, .inl (G.2 1, 6, .inr (.inl gf)))]) A) := ⟨_, rfl⟩
  rw [← hQC]
  obtain ⟨XC, hXC⟩ : ∃ Z, Z = (vx_X (fun _ : Unit => True) (fun E _ t => PP G [(x0, .inr (5, [.ref b0, .ref s0, .ref u0, .ref v0, .int tA, .int wP, .int nT, .int aK, .int lK, .int sW, .int rF])), (s0, .inr (4, [.ref b0, .ref s1, .ref s2, .long op, .int re])), (s1, .inl (G.2 1, 384, .inr (.inl dk))), (s2, .inl (G.2 1, 40, .inr (.inl wg))), (u0, .inr (4, [.ref b0, .ref u1, .ref u2, .long uo, .int ur])), (u1, .inl (G.2 1, 384, .inr (.inl uk))), (u2, .inl (G.2 1, 40, .inr (.inl uw))), (v0, .inr (4, [.ref b0, .ref v1, .ref v2, .long vo, .int vr])), (v1, .inl (G.2 1, 384, .inr (.inl vk))), (v2, .inl (G.2 1, 40, .inr (.inl vw))), (b0, .inr (3, [.ref b1, .ref b2, .ref b3, .ref b4, .ref b5, .ref b6, .int bn])), (b1, .inl (G.2 0, 40, .inl kf)), (b2, .inl (G.2 0, 40, .inl ff)), (b3, .inl (G.2 0, 40, .inl sf)), (b4, .inl (G.2 0, 40, .inl df)), (b5, .inl (G.2 1, 40, .inr (.inl pf))), (b6, .inl (G.2 1, 6, .inr (.inl gf)))] t.heap ∧ va_D A [(x0, .inr (5, [.ref b0, .ref s0, .ref u0, .ref v0, .int tA, .int wP, .int nT, .int aK, .int lK, .int sW, .int rF])), (s0, .inr (4, [.ref b0, .ref s1, .ref s2, .long op, .int re])), (s1, .inl (G.2 1, 384, .inr (.inl dk))), (s2, .inl (G.2 1, 40, .inr (.inl wg))), (u0, .inr (4, [.ref b0, .ref u1, .ref u2, .long uo, .int ur])), (u1, .inl (G.2 1, 384, .inr (.inl uk))), (u2, .inl (G.2 1, 40, .inr (.inl uw))), (v0, .inr (4, [.ref b0, .ref v1, .ref v2, .long vo, .int vr])), (v1, .inl (G.2 1, 384, .inr (.inl vk))), (v2, .inl (G.2 1, 40, .inr (.inl vw))), (b0, .inr (3, [.ref b1, .ref b2, .ref b3, .ref b4, .ref b5, .ref b6, .int bn])), (b1, .inl (G.2 0, 40, .inl kf)), (b2, .inl (G.2 0, 40, .inl ff)), (b3, .inl (G.2 0, 40, .inl sf)), (b4, .inl (G.2 0, 40, .inl df)), (b5, .inl (G.2 1, 40, .inr (.inl pf))), (b6, .inl (G.2 1, 6, .inr (.inl gf)))] ∧ postx E) A) := ⟨_, rfl⟩
  rw [← hXC]
  obtain ⟨⟨zt, hZ1, hT1⟩, hZ2⟩ := id hZ
  have hP : PP G [(x0, .inr (5, [.ref b0, .ref s0, .ref u0, .ref v0, .int tA, .int wP, .int nT, .int aK, .int lK, .int sW, .int rF])), (s0, .inr (4, [.ref b0, .ref s1, .ref s2, .long op, .int re])), (s1, .inl (G.2 1, 384, .inr (.inl dk))), (s2, .inl (G.2 1, 40, .inr (.inl wg))), (u0, .inr (4, [.ref b0, .ref u1, .ref u2, .long uo, .int ur])), (u1, .inl (G.2 1, 384, .inr (.inl uk))), (u2, .inl (G.2 1, 40, .inr (.inl uw))), (v0, .inr (4, [.ref b0, .ref v1, .ref v2, .long vo, .int vr])), (v1, .inl (G.2 1, 384, .inr (.inl vk))), (v2, .inl (G.2 1, 40, .inr (.inl vw))), (b0, .inr (3, [.ref b1, .ref b2, .ref b3, .ref b4, .ref b5, .ref b6, .int bn])), (b1, .inl (G.2 0, 40, .inl kf)), (b2, .inl (G.2 0, 40, .inl ff)), (b3, .inl (G.2 0, 40, .inl sf)), (b4, .inl (G.2 0, 40, .inl df)), (b5, .inl (G.2 1, 40, .inr (.inl pf))), (b6, .inl (G.2 1, 6, .inr (.inl gf)))] s.heap := hP
  have hl := lv_entry ([.ref x0, .int p1, .int p2]) (n := 3) (Nat.le_of_ble_eq_true rfl)
  rw [lg_entry_eq]
  generalize (lg_sl ([.ref x0, .int p1, .int p2]) ++ List.replicate (3 - (lg_sl ([.ref x0, .int p1, .int p2])).length) Slot.unset).toArray = ls at hl ⊢
  have hl : lv_has ls 3 [(0, .ref x0), (1, .int p1), (2, .int p2)] := hl
  refine lv_aload_n hx hb dX2_depth_0 rfl (lv_at hl 0 rfl) ?_
  refine va_get (D := G.1) (ci := 5) (v := .ref b0) (C := RX2) (T := TX2) (N := 11) hx hb hts igX2 hown hK hP 0 rfl rfl 0 (by decide) (hts _ q176) (fun _ h9 => h9) rfl dX2_depth_1 ?_
  refine lv_iload_n hx hb dX2_depth_4 rfl (lv_at hl 2 rfl) ?_
  have hPc := va_P.sub (ws' := [(b0, .inr (3, [.ref b1, .ref b2, .ref b3, .ref b4, .ref b5, .ref b6, .int bn])), (b1, .inl (G.2 0, 40, .inl kf)), (b2, .inl (G.2 0, 40, .inl ff)), (b3, .inl (G.2 0, 40, .inl sf)), (b4, .inl (G.2 0, 40, .inl df)), (b5, .inl (G.2 1, 40, .inr (.inl pf))), (b6, .inl (G.2 1, 6, .inr (.inl gf)))]) hP [10, 11, 12, 13, 14, 15, 16] rfl
  refine rdI (va_runV (C := RX0) (As := [.int p2]) (rest := []) ⟨hx, hb, hml, hown, hts⟩ (kX0_holds l G b0 b1 b2 b3 b4 b5 b6 kf ff sf df pf gf bn p2 h) (cwV 1 hts (gdV q403 q115 q116 q2 q117) rfl rfl rfl (by decide +kernel) ⟨Nat.le_of_ble_eq_true rfl, Nat.le_of_ble_eq_true rfl⟩) (preV hPc hKK (va_recv hK hPc (ci := 3) (q0 := 0) rfl rfl)) rfl rfl hl.1 rfl (lv_room (Nat.le_of_ble_eq_true rfl)) dX2_depth_5 ⟨Nat.zero_le _, Nat.zero_le _⟩) (fun r_1 h => ?_)
  refine lv_if_ne (tgt := 21) hx hb dX2_depth_8 (by decide) (fun hc => ?_) (fun hc => ?_)
  · have h := h.1 hc
    refine lv_iload_n hx hb dX2_depth_21 rfl (lv_at hl 1 rfl) ?_
    have hPc := va_P.sub (ws' := []) hP [] rfl
    refine rdI (va_runS (As := [.int p1]) (rest := []) ⟨hx, hb, hml, hown, hts⟩ (kX2_isSetOfGuards l G p1 h) (va_cwS 1 hts (gdS q436 q437 q1 q438) rfl rfl rfl (by decide +kernel) ⟨Nat.le_of_ble_eq_true rfl, Nat.le_of_ble_eq_true rfl⟩) (preS hPc hKK) rfl rfl hl.1 rfl (lv_room (Nat.le_of_ble_eq_true rfl)) dX2_depth_22 ⟨Nat.zero_le _, Nat.zero_le _⟩) (fun r_2 h => ?_)
    refine lv_if_ne (tgt := 38) hx hb dX2_depth_25 (by decide) (fun hc => ?_) (fun hc => ?_)
    · have h := h.1 hc
      refine lv_aload_n hx hb dX2_depth_38 rfl (lv_at hl 0 rfl) ?_
      refine va_get (D := G.1) (ci := 5) (v := .ref s0) (C := RX2) (T := TX2) (N := 11) hx hb hts igX2 hown hK hP 0 rfl rfl 1 (by decide) (hts _ q177) (fun _ h9 => h9) rfl dX2_depth_39 ?_
      refine lv_iload_n hx hb dX2_depth_42 rfl (lv_at hl 1 rfl) ?_
      refine lv_aload_n hx hb dX2_depth_43 rfl (lv_at hl 0 rfl) ?_
      refine va_get (D := G.1) (ci := 5) (v := .ref s0) (C := RX2) (T := TX2) (N := 11) hx hb hts igX2 hown hK hP 0 rfl rfl 1 (by decide) (hts _ q177) (fun _ h9 => h9) rfl dX2_depth_44 ?_
      refine lv_iload_n hx hb dX2_depth_47 rfl (lv_at hl 2 rfl) ?_
      have hPc := va_P.sub (ws' := [(s0, .inr (4, [.ref b0, .ref s1, .ref s2, .long op, .int re])), (s1, .inl (G.2 1, 384, .inr (.inl dk))), (s2, .inl (G.2 1, 40, .inr (.inl wg))), (b0, .inr (3, [.ref b1, .ref b2, .ref b3, .ref b4, .ref b5, .ref b6, .int bn])), (b1, .inl (G.2 0, 40, .inl kf)), (b2, .inl (G.2 0, 40, .inl ff)), (b3, .inl (G.2 0, 40, .inl sf)), (b4, .inl (G.2 0, 40, .inl df)), (b5, .inl (G.2 1, 40, .inr (.inl pf))), (b6, .inl (G.2 1, 6, .inr (.inl gf)))]) hP [1, 2, 3, 10, 11, 12, 13, 14, 15, 16] rfl
      refine rdL (va_runV (C := RX1) (As := [.int p2]) (rest := [.int p1, .ref s0]) ⟨hx, hb, hml, hown, hts⟩ (kX1_worldsOf l G s0 s1 s2 b0 b1 b2 b3 b4 b5 b6 dk wg op re kf ff sf df pf gf bn p2 h) (cwV 1 hts (gdV q405 q135 q136 q3 q137) rfl rfl rfl (by decide +kernel) ⟨Nat.le_of_ble_eq_true rfl, Nat.le_of_ble_eq_true rfl⟩) (preV hPc hKK (va_recv hK hPc (ci := 4) (q0 := 0) rfl rfl)) rfl rfl hl.1 rfl (lv_room (Nat.le_of_ble_eq_true rfl)) dX2_depth_48 ⟨Nat.zero_le _, Nat.zero_le _⟩) (fun r_3 h => ?_)
      have hPc := va_P.sub (ws' := [(s0, .inr (4, [.ref b0, .ref s1, .ref s2, .long op, .int re])), (s1, .inl (G.2 1, 384, .inr (.inl dk))), (s2, .inl (G.2 1, 40, .inr (.inl wg))), (b0, .inr (3, [.ref b1, .ref b2, .ref b3, .ref b4, .ref b5, .ref b6, .int bn])), (b1, .inl (G.2 0, 40, .inl kf)), (b2, .inl (G.2 0, 40, .inl ff)), (b3, .inl (G.2 0, 40, .inl sf)), (b4, .inl (G.2 0, 40, .inl df)), (b5, .inl (G.2 1, 40, .inr (.inl pf))), (b6, .inl (G.2 1, 6, .inr (.inl gf)))]) hP [1, 2, 3, 10, 11, 12, 13, 14, 15, 16] rfl
      refine rdI (va_runV (C := RX1) (As := [.int p1, .long r_3]) (rest := []) ⟨hx, hb, hml, hown, hts⟩ (kX1_depthFor l G s0 s1 s2 b0 b1 b2 b3 b4 b5 b6 dk wg op re kf ff sf df pf gf bn p1 r_3 h) (cwV 2 hts (gdV q440 q441 q442 q3 q443) rfl rfl rfl (by decide +kernel) ⟨Nat.le_of_ble_eq_true rfl, Nat.le_of_ble_eq_true rfl⟩) (preV hPc hKK (va_recv hK hPc (ci := 4) (q0 := 0) rfl rfl)) rfl rfl hl.1 rfl (lv_room (Nat.le_of_ble_eq_true rfl)) dX2_depth_51 ⟨Nat.zero_le _, Nat.zero_le _⟩) (fun r_4 h => ?_)
      refine vx_ret (W.widen (k := 1) (n := 6) (Nat.le_of_ble_eq_true rfl) (Nat.le_of_ble_eq_true rfl) ?_)
      subst hQC; exact W.iret (v := r_4) hx hb hr (fun t ht hW => ⟨⟨_, (), rfl, h, by rw [ht]; exact hP, hD⟩, hS.F ht⟩) hS.2.2 dX2_depth_54
    · have h := h.2 hc
      obtain ⟨sa, hsa⟩ := hR.1 ("NightdeskRota", 158, "no such set of guards") (List.mem_of_getElem? (i := 6) rfl)
      subst hXC
      exact vx_throwS (names := rtx) (text := "no such set of guards") (sa := sa) hx hb hfl hown (by decide +kernel) (by decide +kernel) (hts _ q273) (hts _ q14) hsa (hatX hat43a hat43b hts hN hZ) hgd43 hZ.2.1 hZ.2.2 hS (hl.1.trans hml.symm) dX2_depth_28 dX2_depth_31 dX2_depth_32 dX2_depth_34 dX2_depth_37 (fun x hx => (hT x hx).elim) (Nat.le_of_ble_eq_true rfl) (Nat.le_of_ble_eq_true rfl) (Nat.le_of_ble_eq_true rfl) (Nat.le_of_ble_eq_true rfl) hlocks (fun t ht h1 h2 => ⟨(), trivial, ⟨keepAll hP h2, hD, h⟩, h1, fun q hq _ => h2 q hq⟩) hS.2.2 (Nat.le_refl _) (Nat.le_refl _)
  · have h := h.2 hc
    obtain ⟨sa, hsa⟩ := hR.1 ("NightdeskRota", 119, "no such sentence") (List.mem_of_getElem? (i := 4) rfl)
    subst hXC
    exact vx_throwS (names := rtx) (text := "no such sentence") (sa := sa) hx hb hfl hown (by decide +kernel) (by decide +kernel) (hts _ q349) (hts _ q22) hsa (hatX hat87a hat87b hts hN hZ) hgd87 hZ.2.1 hZ.2.2 hS (hl.1.trans hml.symm) dX2_depth_11 dX2_depth_14 dX2_depth_15 dX2_depth_17 dX2_depth_20 (fun x hx => (hT x hx).elim) (Nat.le_of_ble_eq_true rfl) (Nat.le_of_ble_eq_true rfl) (Nat.le_of_ble_eq_true rfl) (Nat.le_of_ble_eq_true rfl) hlocks (fun t ht h1 h2 => ⟨(), trivial, ⟨keepAll hP h2, hD, h⟩, h1, fun q hq _ => h2 q hq⟩) hS.2.2 (Nat.le_refl _) (Nat.le_refl _)
def wnX2_depth (post : Int32 → Prop) (dk : Nat → Int64) (wg : Nat → Int64) (op : Int64) (re : Int32) (bn : Int32) (p1 : Int32) (p2 : Int32) : Prop :=
  wX0_holds (fun r_1 : Int32 =>
    ((¬ r_1 = 0) →
      wX2_isSetOfGuards (fun r_2 : Int32 =>
        ((¬ r_2 = 0) →
          wX1_worldsOf (fun r_3 : Int64 =>
            wX1_depthFor (fun r_4 : Int32 =>
              post r_4
              ) dk op re p1 r_3
            ) wg bn p2
        ) ∧ ((r_2 = 0) →
          False
        )
        ) p1
    ) ∧ ((r_1 = 0) →
      False
    )
    ) bn p2
abbrev wl_nX2_depth : List Cond := .code yX2_depth cX2_depth 3 (some .int) :: lwg
abbrev rm_nX2_depth : Room := { frames := 5, cells := 0, slots := 0, locals := 124 }
set_option maxHeartbeats 4000000 in
set_option maxRecDepth 100000 in
theorem knX2_depth {post : Int32 → Prop} (l : Launch) (G : GT) (x0 : Nat) (s0 : Nat) (s1 : Nat) (s2 : Nat) (u0 : Nat) (u1 : Nat) (u2 : Nat) (v0 : Nat) (v1 : Nat) (v2 : Nat) (b0 : Nat) (b1 : Nat) (b2 : Nat) (b3 : Nat) (b4 : Nat) (b5 : Nat) (b6 : Nat) (tA : Int32) (wP : Int32) (nT : Int32) (aK : Int32) (lK : Int32) (sW : Int32) (rF : Int32) (dk : Nat → Int64) (wg : Nat → Int64) (op : Int64) (re : Int32) (uk : Nat → Int64) (uw : Nat → Int64) (uo : Int64) (ur : Int32) (vk : Nat → Int64) (vw : Nat → Int64) (vo : Int64) (vr : Int32) (kf : Nat → Int32) (ff : Nat → Int32) (sf : Nat → Int32) (df : Nat → Int32) (pf : Nat → Int64) (gf : Nat → Int64) (bn : Int32) (p1 : Int32) (p2 : Int32) (h : wnX2_depth post dk wg op re bn p1 p2) : Met l yX2_depth wl_nX2_depth rm_nX2_depth (va_Pc [.ref x0, .int p1, .int p2] (fun U => PP G [(x0, .inr (5, [.ref b0, .ref s0, .ref u0, .ref v0, .int tA, .int wP, .int nT, .int aK, .int lK, .int sW, .int rF])), (s0, .inr (4, [.ref b0, .ref s1, .ref s2, .long op, .int re])), (s1, .inl (G.2 1, 384, .inr (.inl dk))), (s2, .inl (G.2 1, 40, .inr (.inl wg))), (u0, .inr (4, [.ref b0, .ref u1, .ref u2, .long uo, .int ur])), (u1, .inl (G.2 1, 384, .inr (.inl uk))), (u2, .inl (G.2 1, 40, .inr (.inl uw))), (v0, .inr (4, [.ref b0, .ref v1, .ref v2, .long vo, .int vr])), (v1, .inl (G.2 1, 384, .inr (.inl vk))), (v2, .inl (G.2 1, 40, .inr (.inl vw))), (b0, .inr (3, [.ref b1, .ref b2, .ref b3, .ref b4, .ref b5, .ref b6, .int bn])), (b1, .inl (G.2 0, 40, .inl kf)), (b2, .inl (G.2 0, 40, .inl ff)), (b3, .inl (G.2 0, 40, .inl sf)), (b4, .inl (G.2 0, 40, .inl df)), (b5, .inl (G.2 1, 40, .inr (.inl pf))), (b6, .inl (G.2 1, 6, .inr (.inl gf)))] U.heap ∧ KK G U)) (vp_Si post) 0 0 (fun _ => False) := by
  refine Met.ofW (cc := cX2_depth) (maxL := 3) (ret := (some .int)) (by decide) rfl ?_
  intro p e s m args below meth c s₁ B hml hv
  obtain ⟨rfl, hP, hKK⟩ := hv
  obtain ⟨hK, hN, hR, hFW, hNC⟩ := id hKK
  have hx := B.exec
  have hb := B.bytes
  have hr := B.returns
  have hts0 := atoms_spec (ws := wl_nX2_depth) B.pre
  have hts : ∀ w ∈ lwg, w.before ([.ref x0, .int p1, .int p2] : List Value).toArray s = true := fun w hw => hts0 w (List.mem_cons_of_mem _ hw)
  have hown : s.vm.findClass RX2 = some m.cls := findClass_of_methodNamed B.named
  have hlocks := B.notSynchronized
  have hP : PP G [(x0, .inr (5, [.ref b0, .ref s0, .ref u0, .ref v0, .int tA, .int wP, .int nT, .int aK, .int lK, .int sW, .int rF])), (s0, .inr (4, [.ref b0, .ref s1, .ref s2, .long op, .int re])), (s1, .inl (G.2 1, 384, .inr (.inl dk))), (s2, .inl (G.2 1, 40, .inr (.inl wg))), (u0, .inr (4, [.ref b0, .ref u1, .ref u2, .long uo, .int ur])), (u1, .inl (G.2 1, 384, .inr (.inl uk))), (u2, .inl (G.2 1, 40, .inr (.inl uw))), (v0, .inr (4, [.ref b0, .ref v1, .ref v2, .long vo, .int vr])), (v1, .inl (G.2 1, 384, .inr (.inl vk))), (v2, .inl (G.2 1, 40, .inr (.inl vw))), (b0, .inr (3, [.ref b1, .ref b2, .ref b3, .ref b4, .ref b5, .ref b6, .int bn])), (b1, .inl (G.2 0, 40, .inl kf)), (b2, .inl (G.2 0, 40, .inl ff)), (b3, .inl (G.2 0, 40, .inl sf)), (b4, .inl (G.2 0, 40, .inl df)), (b5, .inl (G.2 1, 40, .inr (.inl pf))), (b6, .inl (G.2 1, 6, .inr (.inl gf)))] s.heap := hP
  have hl := lv_entry ([.ref x0, .int p1, .int p2]) (n := 3) (Nat.le_of_ble_eq_true rfl)
  rw [lg_entry_eq]
  generalize (lg_sl ([.ref x0, .int p1, .int p2]) ++ List.replicate (3 - (lg_sl ([.ref x0, .int p1, .int p2])).length) Slot.unset).toArray = ls at hl ⊢
  have hl : lv_has ls 3 [(0, .ref x0), (1, .int p1), (2, .int p2)] := hl
  refine lv_aload_n hx hb dX2_depth_0 rfl (lv_at hl 0 rfl) ?_
  refine va_get (D := G.1) (ci := 5) (v := .ref b0) (C := RX2) (T := TX2) (N := 11) hx hb hts igX2 hown hK hP 0 rfl rfl 0 (by decide) (hts _ q176) (fun _ h9 => h9) rfl dX2_depth_1 ?_
  refine lv_iload_n hx hb dX2_depth_4 rfl (lv_at hl 2 rfl) ?_
  have hPc := va_P.sub (ws' := [(b0, .inr (3, [.ref b1, .ref b2, .ref b3, .ref b4, .ref b5, .ref b6, .int bn])), (b1, .inl (G.2 0, 40, .inl kf)), (b2, .inl (G.2 0, 40, .inl ff)), (b3, .inl (G.2 0, 40, .inl sf)), (b4, .inl (G.2 0, 40, .inl df)), (b5, .inl (G.2 1, 40, .inr (.inl pf))), (b6, .inl (G.2 1, 6, .inr (.inl gf)))]) hP [10, 11, 12, 13, 14, 15, 16] rfl
  refine rdI (va_runV (C := RX0) (As := [.int p2]) (rest := []) ⟨hx, hb, hml, hown, hts⟩ (kX0_holds l G b0 b1 b2 b3 b4 b5 b6 kf ff sf df pf gf bn p2 h) (cwV 1 hts (gdV q403 q115 q116 q2 q117) rfl rfl rfl (by decide +kernel) ⟨Nat.le_of_ble_eq_true rfl, Nat.le_of_ble_eq_true rfl⟩) (preV hPc hKK (va_recv hK hPc (ci := 3) (q0 := 0) rfl rfl)) rfl rfl hl.1 rfl (lv_room (Nat.le_of_ble_eq_true rfl)) dX2_depth_5 ⟨Nat.zero_le _, Nat.zero_le _⟩) (fun r_1 h => ?_)
  refine lv_if_ne (tgt := 21) hx hb dX2_depth_8 (by decide) (fun hc => ?_) (fun hc => ?_)
  · have h := h.1 hc
    refine lv_iload_n hx hb dX2_depth_21 rfl (lv_at hl 1 rfl) ?_
    have hPc := va_P.sub (ws' := []) hP [] rfl
    refine rdI (va_runS (As := [.int p1]) (rest := []) ⟨hx, hb, hml, hown, hts⟩ (kX2_isSetOfGuards l G p1 h) (va_cwS 1 hts (gdS q436 q437 q1 q438) rfl rfl rfl (by decide +kernel) ⟨Nat.le_of_ble_eq_true rfl, Nat.le_of_ble_eq_true rfl⟩) (preS hPc hKK) rfl rfl hl.1 rfl (lv_room (Nat.le_of_ble_eq_true rfl)) dX2_depth_22 ⟨Nat.zero_le _, Nat.zero_le _⟩) (fun r_2 h => ?_)
    refine lv_if_ne (tgt := 38) hx hb dX2_depth_25 (by decide) (fun hc => ?_) (fun hc => ?_)
    · have h := h.1 hc
      refine lv_aload_n hx hb dX2_depth_38 rfl (lv_at hl 0 rfl) ?_
      refine va_get (D := G.1) (ci := 5) (v := .ref s0) (C := RX2) (T := TX2) (N := 11) hx hb hts igX2 hown hK hP 0 rfl rfl 1 (by decide) (hts _ q177) (fun _ h9 => h9) rfl dX2_depth_39 ?_
      refine lv_iload_n hx hb dX2_depth_42 rfl (lv_at hl 1 rfl) ?_
      refine lv_aload_n hx hb dX2_depth_43 rfl (lv_at hl 0 rfl) ?_
      refine va_get (D := G.1) (ci := 5) (v := .ref s0) (C := RX2) (T := TX2) (N := 11) hx hb hts igX2 hown hK hP 0 rfl rfl 1 (by decide) (hts _ q177) (fun _ h9 => h9) rfl dX2_depth_44 ?_
      refine lv_iload_n hx hb dX2_depth_47 rfl (lv_at hl 2 rfl) ?_
      have hPc := va_P.sub (ws' := [(s0, .inr (4, [.ref b0, .ref s1, .ref s2, .long op, .int re])), (s1, .inl (G.2 1, 384, .inr (.inl dk))), (s2, .inl (G.2 1, 40, .inr (.inl wg))), (b0, .inr (3, [.ref b1, .ref b2, .ref b3, .ref b4, .ref b5, .ref b6, .int bn])), (b1, .inl (G.2 0, 40, .inl kf)), (b2, .inl (G.2 0, 40, .inl ff)), (b3, .inl (G.2 0, 40, .inl sf)), (b4, .inl (G.2 0, 40, .inl df)), (b5, .inl (G.2 1, 40, .inr (.inl pf))), (b6, .inl (G.2 1, 6, .inr (.inl gf)))]) hP [1, 2, 3, 10, 11, 12, 13, 14, 15, 16] rfl
      refine rdL (va_runV (C := RX1) (As := [.int p2]) (rest := [.int p1, .ref s0]) ⟨hx, hb, hml, hown, hts⟩ (kX1_worldsOf l G s0 s1 s2 b0 b1 b2 b3 b4 b5 b6 dk wg op re kf ff sf df pf gf bn p2 h) (cwV 1 hts (gdV q405 q135 q136 q3 q137) rfl rfl rfl (by decide +kernel) ⟨Nat.le_of_ble_eq_true rfl, Nat.le_of_ble_eq_true rfl⟩) (preV hPc hKK (va_recv hK hPc (ci := 4) (q0 := 0) rfl rfl)) rfl rfl hl.1 rfl (lv_room (Nat.le_of_ble_eq_true rfl)) dX2_depth_48 ⟨Nat.zero_le _, Nat.zero_le _⟩) (fun r_3 h => ?_)
      have hPc := va_P.sub (ws' := [(s0, .inr (4, [.ref b0, .ref s1, .ref s2, .long op, .int re])), (s1, .inl (G.2 1, 384, .inr (.inl dk))), (s2, .inl (G.2 1, 40, .inr (.inl wg))), (b0, .inr (3, [.ref b1, .ref b2, .ref b3, .ref b4, .ref b5, .ref b6, .int bn])), (b1, .inl (G.2 0, 40, .inl kf)), (b2, .inl (G.2 0, 40, .inl ff)), (b3, .inl (G.2 0, 40, .inl sf)), (b4, .inl (G.2 0, 40, .inl df)), (b5, .inl (G.2 1, 40, .inr (.inl pf))), (b6, .inl (G.2 1, 6, .inr (.inl gf)))]) hP [1, 2, 3, 10, 11, 12, 13, 14, 15, 16] rfl
      refine rdI (va_runV (C := RX1) (As := [.int p1, .long r_3]) (rest := []) ⟨hx, hb, hml, hown, hts⟩ (kX1_depthFor l G s0 s1 s2 b0 b1 b2 b3 b4 b5 b6 dk wg op re kf ff sf df pf gf bn p1 r_3 h) (cwV 2 hts (gdV q440 q441 q442 q3 q443) rfl rfl rfl (by decide +kernel) ⟨Nat.le_of_ble_eq_true rfl, Nat.le_of_ble_eq_true rfl⟩) (preV hPc hKK (va_recv hK hPc (ci := 4) (q0 := 0) rfl rfl)) rfl rfl hl.1 rfl (lv_room (Nat.le_of_ble_eq_true rfl)) dX2_depth_51 ⟨Nat.zero_le _, Nat.zero_le _⟩) (fun r_4 h => ?_)
      exact W.iret (v := r_4) hx hb hr (fun t ht _ => ⟨_, rfl, h, ht⟩) (fun _ hq => absurd hq List.not_mem_nil) dX2_depth_54
    · have h := h.2 hc
      exact False.elim h
  · have h := h.2 hc
    exact False.elim h
theorem dX2_night_0 : decode cX2_night 0 = .ok (.iload_n 1, 1) := by decide +kernel
theorem dX2_night_1 : decode cX2_night 1 = .ok (.tableswitch 162 0 12 #[67, 75, 86, 94, 102, 119, 124, 129, 134, 139, 144, 149, 157], 67) := by decide +kernel
theorem dX2_night_68 : decode cX2_night 68 = .ok (.aload_n 0, 1) := by decide +kernel
theorem dX2_night_69 : decode cX2_night 69 = .ok (.getfield 21, 3) := by decide +kernel
theorem dX2_night_72 : decode cX2_night 72 = .ok (.getfield 103, 3) := by decide +kernel
theorem dX2_night_75 : decode cX2_night 75 = .ok (.ireturn, 1) := by decide +kernel
theorem dX2_night_76 : decode cX2_night 76 = .ok (.aload_n 0, 1) := by decide +kernel
theorem dX2_night_77 : decode cX2_night 77 = .ok (.getfield 21, 3) := by decide +kernel
theorem dX2_night_80 : decode cX2_night 80 = .ok (.getfield 135, 3) := by decide +kernel
theorem dX2_night_83 : decode cX2_night 83 = .ok (.invokestatic 110, 3) := by decide +kernel
theorem dX2_night_86 : decode cX2_night 86 = .ok (.ireturn, 1) := by decide +kernel
theorem dX2_night_87 : decode cX2_night 87 = .ok (.aload_n 0, 1) := by decide +kernel
theorem dX2_night_88 : decode cX2_night 88 = .ok (.getfield 10, 3) := by decide +kernel
theorem dX2_night_91 : decode cX2_night 91 = .ok (.invokevirtual 235, 3) := by decide +kernel
theorem dX2_night_94 : decode cX2_night 94 = .ok (.ireturn, 1) := by decide +kernel
theorem dX2_night_95 : decode cX2_night 95 = .ok (.aload_n 0, 1) := by decide +kernel
theorem dX2_night_96 : decode cX2_night 96 = .ok (.getfield 21, 3) := by decide +kernel
theorem dX2_night_99 : decode cX2_night 99 = .ok (.invokevirtual 46, 3) := by decide +kernel
theorem dX2_night_102 : decode cX2_night 102 = .ok (.ireturn, 1) := by decide +kernel
theorem dX2_night_103 : decode cX2_night 103 = .ok (.aload_n 0, 1) := by decide +kernel
theorem dX2_night_104 : decode cX2_night 104 = .ok (.getfield 21, 3) := by decide +kernel
theorem dX2_night_107 : decode cX2_night 107 = .ok (.aload_n 0, 1) := by decide +kernel
theorem dX2_night_108 : decode cX2_night 108 = .ok (.getfield 21, 3) := by decide +kernel
theorem dX2_night_111 : decode cX2_night 111 = .ok (.bipush 63, 2) := by decide +kernel
theorem dX2_night_113 : decode cX2_night 113 = .ok (.invokevirtual 200, 3) := by decide +kernel
theorem dX2_night_116 : decode cX2_night 116 = .ok (.invokevirtual 238, 3) := by decide +kernel
theorem dX2_night_119 : decode cX2_night 119 = .ok (.ireturn, 1) := by decide +kernel
theorem dX2_night_120 : decode cX2_night 120 = .ok (.aload_n 0, 1) := by decide +kernel
theorem dX2_night_121 : decode cX2_night 121 = .ok (.getfield 126, 3) := by decide +kernel
theorem dX2_night_124 : decode cX2_night 124 = .ok (.ireturn, 1) := by decide +kernel
theorem dX2_night_125 : decode cX2_night 125 = .ok (.aload_n 0, 1) := by decide +kernel
theorem dX2_night_126 : decode cX2_night 126 = .ok (.getfield 141, 3) := by decide +kernel
theorem dX2_night_129 : decode cX2_night 129 = .ok (.ireturn, 1) := by decide +kernel
theorem dX2_night_130 : decode cX2_night 130 = .ok (.aload_n 0, 1) := by decide +kernel
theorem dX2_night_131 : decode cX2_night 131 = .ok (.getfield 148, 3) := by decide +kernel
theorem dX2_night_134 : decode cX2_night 134 = .ok (.ireturn, 1) := by decide +kernel
theorem dX2_night_135 : decode cX2_night 135 = .ok (.aload_n 0, 1) := by decide +kernel
theorem dX2_night_136 : decode cX2_night 136 = .ok (.getfield 160, 3) := by decide +kernel
theorem dX2_night_139 : decode cX2_night 139 = .ok (.ireturn, 1) := by decide +kernel
theorem dX2_night_140 : decode cX2_night 140 = .ok (.aload_n 0, 1) := by decide +kernel
theorem dX2_night_141 : decode cX2_night 141 = .ok (.getfield 88, 3) := by decide +kernel
theorem dX2_night_144 : decode cX2_night 144 = .ok (.ireturn, 1) := by decide +kernel
theorem dX2_night_145 : decode cX2_night 145 = .ok (.aload_n 0, 1) := by decide +kernel
theorem dX2_night_146 : decode cX2_night 146 = .ok (.getfield 172, 3) := by decide +kernel
theorem dX2_night_149 : decode cX2_night 149 = .ok (.ireturn, 1) := by decide +kernel
theorem dX2_night_150 : decode cX2_night 150 = .ok (.aload_n 0, 1) := by decide +kernel
theorem dX2_night_151 : decode cX2_night 151 = .ok (.getfield 21, 3) := by decide +kernel
theorem dX2_night_154 : decode cX2_night 154 = .ok (.invokevirtual 241, 3) := by decide +kernel
theorem dX2_night_157 : decode cX2_night 157 = .ok (.ireturn, 1) := by decide +kernel
theorem dX2_night_158 : decode cX2_night 158 = .ok (.aload_n 0, 1) := by decide +kernel
theorem dX2_night_159 : decode cX2_night 159 = .ok (.getfield 178, 3) := by decide +kernel
theorem dX2_night_162 : decode cX2_night 162 = .ok (.ireturn, 1) := by decide +kernel
theorem dX2_night_163 : decode cX2_night 163 = .ok (.new 39, 3) := by decide +kernel
theorem dX2_night_166 : decode cX2_night 166 = .ok (.dup, 1) := by decide +kernel
theorem dX2_night_167 : decode cX2_night 167 = .ok (.ldc 244, 2) := by decide +kernel
theorem dX2_night_169 : decode cX2_night 169 = .ok (.invokespecial 43, 3) := by decide +kernel
theorem dX2_night_172 : decode cX2_night 172 = .ok (.athrow, 1) := by decide +kernel
def wxX2_night (post : Int32 → Unit → Prop) (postx : String → Prop) (tA : Int32) (wP : Int32) (nT : Int32) (aK : Int32) (lK : Int32) (sW : Int32) (rF : Int32) (dk : Nat → Int64) (wg : Nat → Int64) (op : Int64) (re : Int32) (bn : Int32) (p1 : Int32) : Prop :=
  (p1 = 0 →
    post re ()
  ) ∧ (¬ p1 = 0 →
  (p1 = 1 →
    wJ13_bitCount_95d88 (fun r_1 : Int32 =>
      post r_1 ()
      ) op
  ) ∧ (¬ p1 = 1 →
  (p1 = 2 →
    wX0_count (fun r_2 : Int32 =>
      post r_2 ()
      ) bn
  ) ∧ (¬ p1 = 2 →
  (p1 = 3 →
    wX1_countTrueInReal (fun r_3 : Int32 =>
      post r_3 ()
      ) wg re bn
  ) ∧ (¬ p1 = 3 →
  (p1 = 4 →
    wX1_reachedFromReal (fun r_4 : Int64 =>
      wX1_countTrueInAllOf (fun r_5 : Int32 =>
        post r_5 ()
        ) wg bn r_4
      ) dk op re (63 : Int32)
  ) ∧ (¬ p1 = 4 →
  (p1 = 5 →
    post tA ()
  ) ∧ (¬ p1 = 5 →
  (p1 = 6 →
    post wP ()
  ) ∧ (¬ p1 = 6 →
  (p1 = 7 →
    post nT ()
  ) ∧ (¬ p1 = 7 →
  (p1 = 8 →
    post aK ()
  ) ∧ (¬ p1 = 8 →
  (p1 = 9 →
    post lK ()
  ) ∧ (¬ p1 = 9 →
  (p1 = 10 →
    post sW ()
  ) ∧ (¬ p1 = 10 →
  (p1 = 11 →
    wX1_nearestToReal (fun r_6 : Int32 =>
      post r_6 ()
      ) dk op re
  ) ∧ (¬ p1 = 11 →
  (p1 = 12 →
    post rF ()
  ) ∧ (¬ p1 = 12 →
    postx "java/lang/IllegalArgumentException"
  )))))))))))))
abbrev wl_xX2_night : List Cond := .code yX2_night cX2_night 2 (some .int) :: lwg
abbrev rm_xX2_night : Room := { frames := 6, cells := 1, slots := 6, locals := 122 }
set_option maxHeartbeats 4000000 in
set_option maxRecDepth 100000 in
theorem kxX2_night {post : Int32 → Unit → Prop} {postx : String → Prop} (l : Launch) (hfl : l.stackTraces = false) (G : GT) (x0 : Nat) (s0 : Nat) (s1 : Nat) (s2 : Nat) (u0 : Nat) (u1 : Nat) (u2 : Nat) (v0 : Nat) (v1 : Nat) (v2 : Nat) (b0 : Nat) (b1 : Nat) (b2 : Nat) (b3 : Nat) (b4 : Nat) (b5 : Nat) (b6 : Nat) (tA : Int32) (wP : Int32) (nT : Int32) (aK : Int32) (lK : Int32) (sW : Int32) (rF : Int32) (dk : Nat → Int64) (wg : Nat → Int64) (op : Int64) (re : Int32) (uk : Nat → Int64) (uw : Nat → Int64) (uo : Int64) (ur : Int32) (vk : Nat → Int64) (vw : Nat → Int64) (vo : Int64) (vr : Int32) (kf : Nat → Int32) (ff : Nat → Int32) (sf : Nat → Int32) (df : Nat → Int32) (pf : Nat → Int64) (gf : Nat → Int64) (bn : Int32) (p1 : Int32) (sz : Nat) (h : wxX2_night post postx tA wP nT aK lK sW rF dk wg op re bn p1) : vx_Met l yX2_night wl_xX2_night rm_xX2_night (va_Pc [.ref x0, .int p1] (fun U => U.heap.size = sz ∧ PP G [(x0, .inr (5, [.ref b0, .ref s0, .ref u0, .ref v0, .int tA, .int wP, .int nT, .int aK, .int lK, .int sW, .int rF])), (s0, .inr (4, [.ref b0, .ref s1, .ref s2, .long op, .int re])), (s1, .inl (G.2 1, 384, .inr (.inl dk))), (s2, .inl (G.2 1, 40, .inr (.inl wg))), (u0, .inr (4, [.ref b0, .ref u1, .ref u2, .long uo, .int ur])), (u1, .inl (G.2 1, 384, .inr (.inl uk))), (u2, .inl (G.2 1, 40, .inr (.inl uw))), (v0, .inr (4, [.ref b0, .ref v1, .ref v2, .long vo, .int vr])), (v1, .inl (G.2 1, 384, .inr (.inl vk))), (v2, .inl (G.2 1, 40, .inr (.inl vw))), (b0, .inr (3, [.ref b1, .ref b2, .ref b3, .ref b4, .ref b5, .ref b6, .int bn])), (b1, .inl (G.2 0, 40, .inl kf)), (b2, .inl (G.2 0, 40, .inl ff)), (b3, .inl (G.2 0, 40, .inl sf)), (b4, .inl (G.2 0, 40, .inl df)), (b5, .inl (G.2 1, 40, .inr (.inl pf))), (b6, .inl (G.2 1, 6, .inr (.inl gf)))] U.heap ∧ KK G U ∧ va_D (fun _ => True) [(x0, .inr (5, [.ref b0, .ref s0, .ref u0, .ref v0, .int tA, .int wP, .int nT, .int aK, .int lK, .int sW, .int rF])), (s0, .inr (4, [.ref b0, .ref s1, .ref s2, .long op, .int re])), (s1, .inl (G.2 1, 384, .inr (.inl dk))), (s2, .inl (G.2 1, 40, .inr (.inl wg))), (u0, .inr (4, [.ref b0, .ref u1, .ref u2, .long uo, .int ur])), (u1, .inl (G.2 1, 384, .inr (.inl uk))), (u2, .inl (G.2 1, 40, .inr (.inl uw))), (v0, .inr (4, [.ref b0, .ref v1, .ref v2, .long vo, .int vr])), (v1, .inl (G.2 1, 384, .inr (.inl vk))), (v2, .inl (G.2 1, 40, .inr (.inl vw))), (b0, .inr (3, [.ref b1, .ref b2, .ref b3, .ref b4, .ref b5, .ref b6, .int bn])), (b1, .inl (G.2 0, 40, .inl kf)), (b2, .inl (G.2 0, 40, .inl ff)), (b3, .inl (G.2 0, 40, .inl sf)), (b4, .inl (G.2 0, 40, .inl df)), (b5, .inl (G.2 1, 40, .inr (.inl pf))), (b6, .inl (G.2 1, 6, .inr (.inl gf)))] ∧ ZZ (va_A [(x0, .inr (5, [.ref b0, .ref s0, .ref u0, .ref v0, .int tA, .int wP, .int nT, .int aK, .int lK, .int sW, .int rF])), (s0, .inr (4, [.ref b0, .ref s1, .ref s2, .long op, .int re])), (s1, .inl (G.2 1, 384, .inr (.inl dk))), (s2, .inl (G.2 1, 40, .inr (.inl wg))), (u0, .inr (4, [.ref b0, .ref u1, .ref u2, .long uo, .int ur])), (u1, .inl (G.2 1, 384, .inr (.inl uk))), (u2, .inl (G.2 1, 40, .inr (.inl uw))), (v0, .inr (4, [.ref b0, .ref v1, .ref v2, .long vo, .int vr])), (v1, .inl (G.2 1, 384, .inr (.inl vk))), (v2, .inl (G.2 1, 40, .inr (.inl vw))), (b0, .inr (3, [.ref b1, .ref b2, .ref b3, .ref b4, .ref b5, .ref b6, .int bn])), (b1, .inl (G.2 0, 40, .inl kf)), (b2, .inl (G.2 0, 40, .inl ff)), (b3, .inl (G.2 0, 40, .inl sf)), (b4, .inl (G.2 0, 40, .inl df)), (b5, .inl (G.2 1, 40, .inr (.inl pf))), (b6, .inl (G.2 1, 6, .inr (.inl gf)))] sz) U U.heap)) (va_Qi post (fun u t => PP G [(x0, .inr (5, [.ref b0, .ref s0, .ref u0, .ref v0, .int tA, .int wP, .int nT, .int aK, .int lK, .int sW, .int rF])), (s0, .inr (4, [.ref b0, .ref s1, .ref s2, .long op, .int re])), (s1, .inl (G.2 1, 384, .inr (.inl dk))), (s2, .inl (G.2 1, 40, .inr (.inl wg))), (u0, .inr (4, [.ref b0, .ref u1, .ref u2, .long uo, .int ur])), (u1, .inl (G.2 1, 384, .inr (.inl uk))), (u2, .inl (G.2 1, 40, .inr (.inl uw))), (v0, .inr (4, [.ref b0, .ref v1, .ref v2, .long vo, .int vr])), (v1, .inl (G.2 1, 384, .inr (.inl vk))), (v2, .inl (G.2 1, 40, .inr (.inl vw))), (b0, .inr (3, [.ref b1, .ref b2, .ref b3, .ref b4, .ref b5, .ref b6, .int bn])), (b1, .inl (G.2 0, 40, .inl kf)), (b2, .inl (G.2 0, 40, .inl ff)), (b3, .inl (G.2 0, 40, .inl sf)), (b4, .inl (G.2 0, 40, .inl df)), (b5, .inl (G.2 1, 40, .inr (.inl pf))), (b6, .inl (G.2 1, 6, .inr (.inl gf)))] t.heap ∧ va_D (va_A [(x0, .inr (5, [.ref b0, .ref s0, .ref u0, .ref v0, .int tA, .int wP, .int nT, .int aK, .int lK, .int sW, .int rF])), (s0, .inr (4, [.ref b0, .ref s1, .ref s2, .long op, .int re])), (s1, .inl (G.2 1, 384, .inr (.inl dk))), (s2, .inl (G.2 1, 40, .inr (.inl wg))), (u0, .inr (4, [.ref b0, .ref u1, .ref u2, .long uo, .int ur])), (u1, .inl (G.2 1, 384, .inr (.inl uk))), (u2, .inl (G.2 1, 40, .inr (.inl uw))), (v0, .inr (4, [.ref b0, .ref v1, .ref v2, .long vo, .int vr])), (v1, .inl (G.2 1, 384, .inr (.inl vk))), (v2, .inl (G.2 1, 40, .inr (.inl vw))), (b0, .inr (3, [.ref b1, .ref b2, .ref b3, .ref b4, .ref b5, .ref b6, .int bn])), (b1, .inl (G.2 0, 40, .inl kf)), (b2, .inl (G.2 0, 40, .inl ff)), (b3, .inl (G.2 0, 40, .inl sf)), (b4, .inl (G.2 0, 40, .inl df)), (b5, .inl (G.2 1, 40, .inr (.inl pf))), (b6, .inl (G.2 1, 6, .inr (.inl gf)))] sz) [(x0, .inr (5, [.ref b0, .ref s0, .ref u0, .ref v0, .int tA, .int wP, .int nT, .int aK, .int lK, .int sW, .int rF])), (s0, .inr (4, [.ref b0, .ref s1, .ref s2, .long op, .int re])), (s1, .inl (G.2 1, 384, .inr (.inl dk))), (s2, .inl (G.2 1, 40, .inr (.inl wg))), (u0, .inr (4, [.ref b0, .ref u1, .ref u2, .long uo, .int ur])), (u1, .inl (G.2 1, 384, .inr (.inl uk))), (u2, .inl (G.2 1, 40, .inr (.inl uw))), (v0, .inr (4, [.ref b0, .ref v1, .ref v2, .long vo, .int vr])), (v1, .inl (G.2 1, 384, .inr (.inl vk))), (v2, .inl (G.2 1, 40, .inr (.inl vw))), (b0, .inr (3, [.ref b1, .ref b2, .ref b3, .ref b4, .ref b5, .ref b6, .int bn])), (b1, .inl (G.2 0, 40, .inl kf)), (b2, .inl (G.2 0, 40, .inl ff)), (b3, .inl (G.2 0, 40, .inl sf)), (b4, .inl (G.2 0, 40, .inl df)), (b5, .inl (G.2 1, 40, .inr (.inl pf))), (b6, .inl (G.2 1, 6, .inr (.inl gf)))]) (va_A [(x0, .inr (5, [.ref b0, .ref s0, .ref u0, .ref v0, .int tA, .int wP, .int nT, .int aK, .int lK, .int sW, .int rF])), (s0, .inr (4, [.ref b0, .ref s1, .ref s2, .long op, .int re])), (s1, .inl (G.2 1, 384, .inr (.inl dk))), (s2, .inl (G.2 1, 40, .inr (.inl wg))), (u0, .inr (4, [.ref b0, .ref u1, .ref u2, .long uo, .int ur])), (u1, .inl (G.2 1, 384, .inr (.inl uk))), (u2, .inl (G.2 1, 40, .inr (.inl uw))), (v0, .inr (4, [.ref b0, .ref v1, .ref v2, .long vo, .int vr])), (v1, .inl (G.2 1, 384, .inr (.inl vk))), (v2, .inl (G.2 1, 40, .inr (.inl vw))), (b0, .inr (3, [.ref b1, .ref b2, .ref b3, .ref b4, .ref b5, .ref b6, .int bn])), (b1, .inl (G.2 0, 40, .inl kf)), (b2, .inl (G.2 0, 40, .inl ff)), (b3, .inl (G.2 0, 40, .inl sf)), (b4, .inl (G.2 0, 40, .inl df)), (b5, .inl (G.2 1, 40, .inr (.inl pf))), (b6, .inl (G.2 1, 6, .inr (.inl gf)))] sz)) (vx_X (fun _ : Unit => True) (fun E _ t => PP G [(x0, .inr (5, [.ref b0, .ref s0, .ref u0, .ref v0, .int tA, .int wP, .int nT, .int aK, .int lK, .int sW, .int rF])), (s0, .inr (4, [.ref b0, .ref s1, .ref s2, .long op, .int re])), (s1, .inl (G.2 1, 384, .inr (.inl dk))), (s2, .inl (G.2 1, 40, .inr (.inl wg))), (u0, .inr (4, [.ref b0, .ref u1, .ref u2, .long uo, .int ur])), (u1, .inl (G.2 1, 384, .inr (.inl uk))), (u2, .inl (G.2 1, 40, .inr (.inl uw))), (v0, .inr (4, [.ref b0, .ref v1, .ref v2, .long vo, .int vr])), (v1, .inl (G.2 1, 384, .inr (.inl vk))), (v2, .inl (G.2 1, 40, .inr (.inl vw))), (b0, .inr (3, [.ref b1, .ref b2, .ref b3, .ref b4, .ref b5, .ref b6, .int bn])), (b1, .inl (G.2 0, 40, .inl kf)), (b2, .inl (G.2 0, 40, .inl ff)), (b3, .inl (G.2 0, 40, .inl sf)), (b4, .inl (G.2 0, 40, .inl df)), (b5, .inl (G.2 1, 40, .inr (.inl pf))), (b6, .inl (G.2 1, 6, .inr (.inl gf)))] t.heap ∧ va_D (va_A [(x0, .inr (5, [.ref b0, .ref s0, .ref u0, .ref v0, .int tA, .int wP, .int nT, .int aK, .int lK, .int sW, .int rF])), (s0, .inr (4, [.ref b0, .ref s1, .ref s2, .long op, .int re])), (s1, .inl (G.2 1, 384, .inr (.inl dk))), (s2, .inl (G.2 1, 40, .inr (.inl wg))), (u0, .inr (4, [.ref b0, .ref u1, .ref u2, .long uo, .int ur])), (u1, .inl (G.2 1, 384, .inr (.inl uk))), (u2, .inl (G.2 1, 40, .inr (.inl uw))), (v0, .inr (4, [.ref b0, .ref v1, .ref v2, .long vo, .int vr])), (v1, .inl (G.2 1, 384, .inr (.inl vk))), (v2, .inl (G.2 1, 40, .inr (.inl vw))), (b0, .inr (3, [.ref b1, .ref b2, .ref b3, .ref b4, .ref b5, .ref b6, .int bn])), (b1, .inl (G.2 0, 40, .inl kf)), (b2, .inl (G.2 0, 40, .inl ff)), (b3, .inl (G.2 0, 40, .inl sf)), (b4, .inl (G.2 0, 40, .inl df)), (b5, .inl (G.2 1, 40, .inr (.inl pf))), (b6, .inl (G.2 1, 6, .inr (.inl gf)))] sz) [(x0, .inr (5, [.ref b0, .ref s0, .ref u0, .ref v0, .int tA, .int wP, .int nT, .int aK, .int lK, .int sW, .int rF])), (s0, .inr (4, [.ref b0, .ref s1, .ref s2, .long op, .int re])), (s1, .inl (G.2 1, 384, .inr (.inl dk))), (s2, .inl (G.2 1, 40, .inr (.inl wg))), (u0, .inr (4, [.ref b0, .ref u1, .ref u2, .long uo, .int ur])), (u1, .inl (G.2 1, 384, .inr (.inl uk))), (u2, .inl (G.2 1, 40, .inr (.inl uw))), (v0, .inr (4, [.ref b0, .ref v1, .ref v2, .long vo, .int vr])), (v1, .inl (G.2 1, 384, .inr (.inl vk))), (v2, .inl (G.2 1, 40, .inr (.inl vw))), (b0, .inr (3, [.ref b1, .ref b2, .ref b3, .ref b4, .ref b5, .ref b6, .int bn])), (b1, .inl (G.2 0, 40, .inl kf)), (b2, .inl (G.2 0, 40, .inl ff)), (b3, .inl (G.2 0, 40, .inl sf)), (b4, .inl (G.2 0, 40, .inl df)), (b5, .inl (G.2 1, 40, .inr (.inl pf))), (b6, .inl (G.2 1, 6, .inr (.inl gf)))] ∧ postx E) (va_A [(x0, .inr (5, [.ref b0, .ref s0, .ref u0, .ref v0, .int tA, .int wP, .int nT, .int aK, .int lK, .int sW, .int rF])), (s0, .inr (4, [.ref b0, .ref s1, .ref s2, .long op, .int re])), (s1, .inl (G.2 1, 384, .inr (.inl dk))), (s2, .inl (G.2 1, 40, .inr (.inl wg))), (u0, .inr (4, [.ref b0, .ref u1, .ref u2, .long uo, .int ur])), (u1, .inl (G.2 1, 384, .inr (.inl uk))), (u2, .inl (G.2 1, 40, .inr (.inl uw))), (v0, .inr (4, [.ref b0, .ref v1, .ref v2, .long vo, .int vr])), (v1, .inl (G.2 1, 384, .inr (.inl vk))), (v2, .inl (G.2 1, 40, .inr (.inl vw))), (b0, .inr (3, [.ref b1, .ref b2, .ref b3, .ref b4, .ref b5, .ref b6, .int bn])), (b1, .inl (G.2 0, 40, .inl kf)), (b2, .inl (G.2 0, 40, .inl ff)), (b3, .inl (G.2 0, 40, .inl sf)), (b4, .inl (G.2 0, 40, .inl df)), (b5, .inl (G.2 1, 40, .inr (.inl pf))), (b6, .inl (G.2 1, 6, .inr (.inl gf)))] sz)) 1 6 (va_A [(x0, .inr (5, [.ref b0, .ref s0, .ref u0, .ref v0, .int tA, .int wP, .int nT, .int aK, .int lK, .int sW, .int rF])), (s0, .inr (4, [.ref b0, .ref s1, .ref s2, .long op, .int re])), (s1, .inl (G.2 1, 384, .inr (.inl dk))), (s2, .inl (G.2 1, 40, .inr (.inl wg))), (u0, .inr (4, [.ref b0, .ref u1, .ref u2, .long uo, .int ur])), (u1, .inl (G.2 1, 384, .inr (.inl uk))), (u2, .inl (G.2 1, 40, .inr (.inl uw))), (v0, .inr (4, [.ref b0, .ref v1, .ref v2, .long vo, .int vr])), (v1, .inl (G.2 1, 384, .inr (.inl vk))), (v2, .inl (G.2 1, 40, .inr (.inl vw))), (b0, .inr (3, [.ref b1, .ref b2, .ref b3, .ref b4, .ref b5, .ref b6, .int bn])), (b1, .inl (G.2 0, 40, .inl kf)), (b2, .inl (G.2 0, 40, .inl ff)), (b3, .inl (G.2 0, 40, .inl sf)), (b4, .inl (G.2 0, 40, .inl df)), (b5, .inl (G.2 1, 40, .inr (.inl pf))), (b6, .inl (G.2 1, 6, .inr (.inl gf)))] sz) := by
  refine vx_ofW (cc := cX2_night) (maxL := 2) (ret := (some .int)) (by decide) rfl ?_
  intro p e s m args below meth c s₁ B hml hT hv
  obtain ⟨rfl, hsz, hP, hKK, hD0, hZ⟩ := hv
  obtain ⟨hK, hN, hR, hFW, hNC⟩ := id hKK
  have hx := B.exec
  have hb := B.bytes
  have hr := B.returns
  have hts0 := atoms_spec (ws := wl_xX2_night) B.pre
  have hts : ∀ w ∈ lwg, w.before ([.ref x0, .int p1] : List Value).toArray s = true := fun w hw => hts0 w (List.mem_cons_of_mem _ hw)
  have hown : s.vm.findClass RX2 = some m.cls := findClass_of_methodNamed B.named
  have hlocks := B.notSynchronized
  subst hsz
  have hD := hD0.self (sz := s.heap.size)
  generalize hAe : va_A [(x0, .inr (5, [.ref b0, .ref s0, .ref u0, .ref v0, .int tA, .int wP, .int nT, .int aK, .int lK, .int sW, .int rF])), (s0, .inr (4, [.ref b0, .ref s1, .ref s2, .long op, .int re])), (s1, .inl (G.2 1, 384, .inr (.inl dk))), (s2, .inl (G.2 1, 40, .inr (.inl wg))), (u0, .inr (4, [.ref b0, .ref u1, .ref u2, .long uo, .int ur])), (u1, .inl (G.2 1, 384, .inr (.inl uk))), (u2, .inl (G.2 1, 40, .inr (.inl uw))), (v0, .inr (4, [.ref b0, .ref v1, .ref v2, .long vo, .int vr])), (v1, .inl (G.2 1, 384, .inr (.inl vk))), (v2, .inl (G.2 1, 40, .inr (.inl vw))), (b0, .inr (3, [.ref b1, .ref b2, .ref b3, .ref b4, .ref b5, .ref b6, .int bn])), (b1, .inl (G.2 0, 40, .inl kf)), (b2, .inl (G.2 0, 40, .inl ff)), (b3, .inl (G.2 0, 40, .inl sf)), (b4, .inl (G.2 0, 40, .inl df)), (b5, .inl (G.2 1, 40, .inr (.inl pf))), (b6, .inl (G.2 1, 6, .inr (.inl gf)))] s.heap.size = A at hD hZ ⊢
  have hA : ∀ q : Nat, s.heap.size ≤ q → A q := fun q h => by rw [← hAe]; exact Or.inr h
  have hS : va_S A s.heap s.heap [] := va_S.rf
  obtain ⟨QC, hQC⟩ : ∃ Z, Z = (va_Qi post (fun u t => PP G [(x0, .inr (5, [.ref b0, .ref s0, .ref u0, .ref v0, .int tA, .int wP, .int nT, .int aK, .int lK, .int sW, .int rF])), (s0, .inr (4, [.ref b0, .ref s1, .ref s2, .long op, .int re])), (s1, .inl (G.2 1, 384, .inr (.inl dk))), (s2, .inl (G.2 1, 40, .inr (.inl wg))), (u0, .inr (4, [.ref b0, .ref u1, .ref u2, .long uo, .int ur])), (u1, .inl (G.2 1, 384, .inr (.inl uk))), (u2, .inl (G.2 1, 40, .inr (.inl uw))), (v0, .inr (4, [.ref b0, .ref v1, .ref v2, .long vo, .int vr])), (v1, .inl (G.2 1, 384, .inr (.inl vk))), (v2, .inl (G.2 1, 40, .inr (.inl vw))), (b0, .inr (3, [.ref b1, .ref b2, .ref b3, .ref b4, .ref b5, .ref b6, .int bn])), (b1, .inl (G.2 0, 40, .inl kf)), (b2, .inl (G.2 0, 40, .inl ff)), (b3, .inl (G.2 0, 40, .inl sf)), (b4, .inl (G.2 0, 40, .inl df)), (b5, .inl (G.2 1, 40, .inr (.inl pf))), (b6, .inl (G.2 1, 6, .inr (.inl gf)))] t.heap ∧ va_D A [(x0, .inr (5, [.ref b0, .ref s0, .ref u0, .ref v0, .int tA, .int wP, .int nT, .int aK, .int lK, .int sW, .int rF])), (s0, .inr (4, [.ref b0, .ref s1, .ref s2, .long op, .int re])), (s1, .inl (G.2 1, 384, .inr (.inl dk))), (s2, .inl (G.2 1, 40, .inr (.inl wg))), (u0, .inr (4, [.ref b0, .ref u1, .ref u2, .long uo, .int ur])), (u1, .inl (G.2 1, 384, .inr (.inl uk))), (u2, .inl (G.2 1, 40, .inr (.inl uw))), (v0, .inr (4, [.ref b0, .ref v1, .ref v2, .long vo, .int vr])), (v1, .inl (G.2 1, 384, .inr (.inl vk))), (v2, .inl (G.2 1, 40, .inr (.inl vw))), (b0, .inr (3, [.ref b1, .ref b2, .ref b3, .ref b4, .ref b5, .ref b6, .int bn])), (b1, .inl (G.2 0, 40, .inl kf)), (b2, .inl (G.2 0, 40, .inl ff)), (b3, .inl (G.2 0, 40, .inl sf)), (b4, .inl (G.2 0, 40, .inl df)), (b5, .inl (G.2 1, 40, .inr (.inl pf))), (b6, .inl (G.2 1, 6, .inr (.inl gf)))]) A) := ⟨_, rfl⟩
  rw [← hQC]
  obtain ⟨XC, hXC⟩ : ∃ Z, Z = (vx_X (fun _ : Unit => True) (fun E _ t => PP G [(x0, .inr (5, [.ref b0, .ref s0, .ref u0, .ref v0, .int tA, .int wP, .int nT, .int aK, .int lK, .int sW, .int rF])), (s0, .inr (4, [.ref b0, .ref s1, .ref s2, .long op, .int re])), (s1, .inl (G.2 1, 384, .inr (.inl dk))), (s2, .inl (G.2 1, 40, .inr (.inl wg))), (u0, .inr (4, [.ref b0, .ref u1, .ref u2, .long uo, .int ur])), (u1, .inl (G.2 1, 384, .inr (.inl uk))), (u2, .inl (G.2 1, 40, .inr (.inl uw))), (v0, .inr (4, [.ref b0, .ref v1, .ref v2, .long vo, .int vr])), (v1, .inl (G.2 1, 384, .inr (.inl vk))), (v2, .inl (G.2 1, 40, .inr (.inl vw))), (b0, .inr (3, [.ref b1, .ref b2, .ref b3, .ref b4, .ref b5, .ref b6, .int bn])), (b1, .inl (G.2 0, 40, .inl kf)), (b2, .inl (G.2 0, 40, .inl ff)), (b3, .inl (G.2 0, 40, .inl sf)), (b4, .inl (G.2 0, 40, .inl df)), (b5, .inl (G.2 1, 40, .inr (.inl pf))), (b6, .inl (G.2 1, 6, .inr (.inl gf)))] t.heap ∧ va_D A [(x0, .inr (5, [.ref b0, .ref s0, .ref u0, .ref v0, .int tA, .int wP, .int nT, .int aK, .int lK, .int sW, .int rF])), (s0, .inr (4, [.ref b0, .ref s1, .ref s2, .long op, .int re])), (s1, .inl (G.2 1, 384, .inr (.inl dk))), (s2, .inl (G.2 1, 40, .inr (.inl wg))), (u0, .inr (4, [.ref b0, .ref u1, .ref u2, .long uo, .int ur])), (u1, .inl (G.2 1, 384, .inr (.inl uk))), (u2, .inl (G.2 1, 40, .inr (.inl uw))), (v0, .inr (4, [.ref b0, .ref v1, .ref v2, .long vo, .int vr])), (v1, .inl (G.2 1, 384, .inr (.inl vk))), (v2, .inl (G.2 1, 40, .inr (.inl vw))), (b0, .inr (3, [.ref b1, .ref b2, .ref b3, .ref b4, .ref b5, .ref b6, .int bn])), (b1, .inl (G.2 0, 40, .inl kf)), (b2, .inl (G.2 0, 40, .inl ff)), (b3, .inl (G.2 0, 40, .inl sf)), (b4, .inl (G.2 0, 40, .inl df)), (b5, .inl (G.2 1, 40, .inr (.inl pf))), (b6, .inl (G.2 1, 6, .inr (.inl gf)))] ∧ postx E) A) := ⟨_, rfl⟩
  rw [← hXC]
  obtain ⟨⟨zt, hZ1, hT1⟩, hZ2⟩ := id hZ
  have hP : PP G [(x0, .inr (5, [.ref b0, .ref s0, .ref u0, .ref v0, .int tA, .int wP, .int nT, .int aK, .int lK, .int sW, .int rF])), (s0, .inr (4, [.ref b0, .ref s1, .ref s2, .long op, .int re])), (s1, .inl (G.2 1, 384, .inr (.inl dk))), (s2, .inl (G.2 1, 40, .inr (.inl wg))), (u0, .inr (4, [.ref b0, .ref u1, .ref u2, .long uo, .int ur])), (u1, .inl (G.2 1, 384, .inr (.inl uk))), (u2, .inl (G.2 1, 40, .inr (.inl uw))), (v0, .inr (4, [.ref b0, .ref v1, .ref v2, .long vo, .int vr])), (v1, .inl (G.2 1, 384, .inr (.inl vk))), (v2, .inl (G.2 1, 40, .inr (.inl vw))), (b0, .inr (3, [.ref b1, .ref b2, .ref b3, .ref b4, .ref b5, .ref b6, .int bn])), (b1, .inl (G.2 0, 40, .inl kf)), (b2, .inl (G.2 0, 40, .inl ff)), (b3, .inl (G.2 0, 40, .inl sf)), (b4, .inl (G.2 0, 40, .inl df)), (b5, .inl (G.2 1, 40, .inr (.inl pf))), (b6, .inl (G.2 1, 6, .inr (.inl gf)))] s.heap := hP
  have hl := lv_entry ([.ref x0, .int p1]) (n := 2) (Nat.le_of_ble_eq_true rfl)
  rw [lg_entry_eq]
  generalize (lg_sl ([.ref x0, .int p1]) ++ List.replicate (2 - (lg_sl ([.ref x0, .int p1])).length) Slot.unset).toArray = ls at hl ⊢
  have hl : lv_has ls 2 [(0, .ref x0), (1, .int p1)] := hl
  refine lv_iload_n hx hb dX2_night_0 rfl (lv_at hl 1 rfl) ?_
  by_cases hc0 : p1 = 0
  · have h := h.1 hc0
    refine lv_tableIn (tgt := 68) hx hb dX2_night_1 (by rw [hc0]; decide) (by rw [hc0]; decide) (by rw [hc0]; rfl) (by decide) ?_
    refine lv_aload_n hx hb dX2_night_68 rfl (lv_at hl 0 rfl) ?_
    refine va_get (D := G.1) (ci := 5) (v := .ref s0) (C := RX2) (T := TX2) (N := 11) hx hb hts igX2 hown hK hP 0 rfl rfl 1 (by decide) (hts _ q177) (fun _ h9 => h9) rfl dX2_night_69 ?_
    refine va_getN (D := G.1) (ci := 4) (v := .int re) (C := RX1) (T := TX1) (N := 5) hx hb hts igX1 hown hK hP 1 rfl rfl 4 (by decide) (va_Nw.use rfl (hN _ n79)) (fun _ h9 => h9) rfl dX2_night_72 ?_
    refine vx_ret (W.widen (k := 1) (n := 6) (Nat.le_of_ble_eq_true rfl) (Nat.le_of_ble_eq_true rfl) ?_)
    subst hQC; exact W.iret (v := re) hx hb hr (fun t ht hW => ⟨⟨_, (), rfl, h, by rw [ht]; exact hP, hD⟩, hS.F ht⟩) hS.2.2 dX2_night_75
  have h := h.2 hc0
  by_cases hc1 : p1 = 1
  · have h := h.1 hc1
    refine lv_tableIn (tgt := 76) hx hb dX2_night_1 (by rw [hc1]; decide) (by rw [hc1]; decide) (by rw [hc1]; rfl) (by decide) ?_
    refine lv_aload_n hx hb dX2_night_76 rfl (lv_at hl 0 rfl) ?_
    refine va_get (D := G.1) (ci := 5) (v := .ref s0) (C := RX2) (T := TX2) (N := 11) hx hb hts igX2 hown hK hP 0 rfl rfl 1 (by decide) (hts _ q177) (fun _ h9 => h9) rfl dX2_night_77 ?_
    refine va_getN (D := G.1) (ci := 4) (v := .long op) (C := RX1) (T := TX1) (N := 5) hx hb hts igX1 hown hK hP 1 rfl rfl 3 (by decide) (va_Nw.use rfl (hN _ n77)) (fun _ h9 => h9) rfl dX2_night_80 ?_
    have hPc := va_P.sub (ws' := []) hP [] rfl
    refine rdI (va_runS (As := [.long op]) (rest := []) ⟨hx, hb, hml, hown, hts⟩ (kJ13_bitCount_95d88 l G op h) (va_cwS 1 hts (gdS q150 q151 q5 q152) rfl rfl rfl (by decide +kernel) ⟨Nat.le_of_ble_eq_true rfl, Nat.le_of_ble_eq_true rfl⟩) (preS hPc hKK) rfl rfl hl.1 rfl (lv_room (Nat.le_of_ble_eq_true rfl)) dX2_night_83 ⟨Nat.zero_le _, Nat.zero_le _⟩) (fun r_1 h => ?_)
    refine vx_ret (W.widen (k := 1) (n := 6) (Nat.le_of_ble_eq_true rfl) (Nat.le_of_ble_eq_true rfl) ?_)
    subst hQC; exact W.iret (v := r_1) hx hb hr (fun t ht hW => ⟨⟨_, (), rfl, h, by rw [ht]; exact hP, hD⟩, hS.F ht⟩) hS.2.2 dX2_night_86
  have h := h.2 hc1
  by_cases hc2 : p1 = 2
  · have h := h.1 hc2
    refine lv_tableIn (tgt := 87) hx hb dX2_night_1 (by rw [hc2]; decide) (by rw [hc2]; decide) (by rw [hc2]; rfl) (by decide) ?_
    refine lv_aload_n hx hb dX2_night_87 rfl (lv_at hl 0 rfl) ?_
    refine va_get (D := G.1) (ci := 5) (v := .ref b0) (C := RX2) (T := TX2) (N := 11) hx hb hts igX2 hown hK hP 0 rfl rfl 0 (by decide) (hts _ q176) (fun _ h9 => h9) rfl dX2_night_88 ?_
    have hPc := va_P.sub (ws' := [(b0, .inr (3, [.ref b1, .ref b2, .ref b3, .ref b4, .ref b5, .ref b6, .int bn])), (b1, .inl (G.2 0, 40, .inl kf)), (b2, .inl (G.2 0, 40, .inl ff)), (b3, .inl (G.2 0, 40, .inl sf)), (b4, .inl (G.2 0, 40, .inl df)), (b5, .inl (G.2 1, 40, .inr (.inl pf))), (b6, .inl (G.2 1, 6, .inr (.inl gf)))]) hP [10, 11, 12, 13, 14, 15, 16] rfl
    refine rdI (va_runV (C := RX0) (As := []) (rest := []) ⟨hx, hb, hml, hown, hts⟩ (kX0_count l G b0 b1 b2 b3 b4 b5 b6 kf ff sf df pf gf bn h) (cwV 0 hts (gdV q223 q224 q225 q2 q226) rfl rfl rfl (by decide +kernel) ⟨Nat.le_of_ble_eq_true rfl, Nat.le_of_ble_eq_true rfl⟩) (preV hPc hKK (va_recv hK hPc (ci := 3) (q0 := 0) rfl rfl)) rfl rfl hl.1 rfl (lv_room (Nat.le_of_ble_eq_true rfl)) dX2_night_91 ⟨Nat.zero_le _, Nat.zero_le _⟩) (fun r_2 h => ?_)
    refine vx_ret (W.widen (k := 1) (n := 6) (Nat.le_of_ble_eq_true rfl) (Nat.le_of_ble_eq_true rfl) ?_)
    subst hQC; exact W.iret (v := r_2) hx hb hr (fun t ht hW => ⟨⟨_, (), rfl, h, by rw [ht]; exact hP, hD⟩, hS.F ht⟩) hS.2.2 dX2_night_94
  have h := h.2 hc2
  by_cases hc3 : p1 = 3
  · have h := h.1 hc3
    refine lv_tableIn (tgt := 95) hx hb dX2_night_1 (by rw [hc3]; decide) (by rw [hc3]; decide) (by rw [hc3]; rfl) (by decide) ?_
    refine lv_aload_n hx hb dX2_night_95 rfl (lv_at hl 0 rfl) ?_
    refine va_get (D := G.1) (ci := 5) (v := .ref s0) (C := RX2) (T := TX2) (N := 11) hx hb hts igX2 hown hK hP 0 rfl rfl 1 (by decide) (hts _ q177) (fun _ h9 => h9) rfl dX2_night_96 ?_
    have hPc := va_P.sub (ws' := [(s0, .inr (4, [.ref b0, .ref s1, .ref s2, .long op, .int re])), (s1, .inl (G.2 1, 384, .inr (.inl dk))), (s2, .inl (G.2 1, 40, .inr (.inl wg))), (b0, .inr (3, [.ref b1, .ref b2, .ref b3, .ref b4, .ref b5, .ref b6, .int bn])), (b1, .inl (G.2 0, 40, .inl kf)), (b2, .inl (G.2 0, 40, .inl ff)), (b3, .inl (G.2 0, 40, .inl sf)), (b4, .inl (G.2 0, 40, .inl df)), (b5, .inl (G.2 1, 40, .inr (.inl pf))), (b6, .inl (G.2 1, 6, .inr (.inl gf)))]) hP [1, 2, 3, 10, 11, 12, 13, 14, 15, 16] rfl
    refine rdI (va_runV (C := RX1) (As := []) (rest := []) ⟨hx, hb, hml, hown, hts⟩ (kX1_countTrueInReal l G s0 s1 s2 b0 b1 b2 b3 b4 b5 b6 dk wg op re kf ff sf df pf gf bn h) (cwV 0 hts (gdV q253 q254 q255 q3 q256) rfl rfl rfl (by decide +kernel) ⟨Nat.le_of_ble_eq_true rfl, Nat.le_of_ble_eq_true rfl⟩) (preV hPc hKK (va_recv hK hPc (ci := 4) (q0 := 0) rfl rfl)) rfl rfl hl.1 rfl (lv_room (Nat.le_of_ble_eq_true rfl)) dX2_night_99 ⟨Nat.zero_le _, Nat.zero_le _⟩) (fun r_3 h => ?_)
    refine vx_ret (W.widen (k := 1) (n := 6) (Nat.le_of_ble_eq_true rfl) (Nat.le_of_ble_eq_true rfl) ?_)
    subst hQC; exact W.iret (v := r_3) hx hb hr (fun t ht hW => ⟨⟨_, (), rfl, h, by rw [ht]; exact hP, hD⟩, hS.F ht⟩) hS.2.2 dX2_night_102
  have h := h.2 hc3
  by_cases hc4 : p1 = 4
  · have h := h.1 hc4
    refine lv_tableIn (tgt := 103) hx hb dX2_night_1 (by rw [hc4]; decide) (by rw [hc4]; decide) (by rw [hc4]; rfl) (by decide) ?_
    refine lv_aload_n hx hb dX2_night_103 rfl (lv_at hl 0 rfl) ?_
    refine va_get (D := G.1) (ci := 5) (v := .ref s0) (C := RX2) (T := TX2) (N := 11) hx hb hts igX2 hown hK hP 0 rfl rfl 1 (by decide) (hts _ q177) (fun _ h9 => h9) rfl dX2_night_104 ?_
    refine lv_aload_n hx hb dX2_night_107 rfl (lv_at hl 0 rfl) ?_
    refine va_get (D := G.1) (ci := 5) (v := .ref s0) (C := RX2) (T := TX2) (N := 11) hx hb hts igX2 hown hK hP 0 rfl rfl 1 (by decide) (hts _ q177) (fun _ h9 => h9) rfl dX2_night_108 ?_
    refine lv_bipush (v := 63) hx hb dX2_night_111 (by decide) ?_
    have hPc := va_P.sub (ws' := [(s0, .inr (4, [.ref b0, .ref s1, .ref s2, .long op, .int re])), (s1, .inl (G.2 1, 384, .inr (.inl dk))), (s2, .inl (G.2 1, 40, .inr (.inl wg))), (b0, .inr (3, [.ref b1, .ref b2, .ref b3, .ref b4, .ref b5, .ref b6, .int bn])), (b1, .inl (G.2 0, 40, .inl kf)), (b2, .inl (G.2 0, 40, .inl ff)), (b3, .inl (G.2 0, 40, .inl sf)), (b4, .inl (G.2 0, 40, .inl df)), (b5, .inl (G.2 1, 40, .inr (.inl pf))), (b6, .inl (G.2 1, 6, .inr (.inl gf)))]) hP [1, 2, 3, 10, 11, 12, 13, 14, 15, 16] rfl
    refine rdL (va_runV (C := RX1) (As := [.int (63 : Int32)]) (rest := [.ref s0]) ⟨hx, hb, hml, hown, hts⟩ (kX1_reachedFromReal l G s0 s1 s2 b0 b1 b2 b3 b4 b5 b6 dk wg op re kf ff sf df pf gf bn (63 : Int32) h) (cwV 1 hts (gdV q263 q264 q265 q3 q266) rfl rfl rfl (by decide +kernel) ⟨Nat.le_of_ble_eq_true rfl, Nat.le_of_ble_eq_true rfl⟩) (preV hPc hKK (va_recv hK hPc (ci := 4) (q0 := 0) rfl rfl)) rfl rfl hl.1 rfl (lv_room (Nat.le_of_ble_eq_true rfl)) dX2_night_113 ⟨Nat.zero_le _, Nat.zero_le _⟩) (fun r_4 h => ?_)
    have hPc := va_P.sub (ws' := [(s0, .inr (4, [.ref b0, .ref s1, .ref s2, .long op, .int re])), (s1, .inl (G.2 1, 384, .inr (.inl dk))), (s2, .inl (G.2 1, 40, .inr (.inl wg))), (b0, .inr (3, [.ref b1, .ref b2, .ref b3, .ref b4, .ref b5, .ref b6, .int bn])), (b1, .inl (G.2 0, 40, .inl kf)), (b2, .inl (G.2 0, 40, .inl ff)), (b3, .inl (G.2 0, 40, .inl sf)), (b4, .inl (G.2 0, 40, .inl df)), (b5, .inl (G.2 1, 40, .inr (.inl pf))), (b6, .inl (G.2 1, 6, .inr (.inl gf)))]) hP [1, 2, 3, 10, 11, 12, 13, 14, 15, 16] rfl
    refine rdI (va_runV (C := RX1) (As := [.long r_4]) (rest := []) ⟨hx, hb, hml, hown, hts⟩ (kX1_countTrueInAllOf l G s0 s1 s2 b0 b1 b2 b3 b4 b5 b6 dk wg op re kf ff sf df pf gf bn r_4 h) (cwV 1 hts (gdV q267 q259 q260 q3 q261) rfl rfl rfl (by decide +kernel) ⟨Nat.le_of_ble_eq_true rfl, Nat.le_of_ble_eq_true rfl⟩) (preV hPc hKK (va_recv hK hPc (ci := 4) (q0 := 0) rfl rfl)) rfl rfl hl.1 rfl (lv_room (Nat.le_of_ble_eq_true rfl)) dX2_night_116 ⟨Nat.zero_le _, Nat.zero_le _⟩) (fun r_5 h => ?_)
    refine vx_ret (W.widen (k := 1) (n := 6) (Nat.le_of_ble_eq_true rfl) (Nat.le_of_ble_eq_true rfl) ?_)
    subst hQC; exact W.iret (v := r_5) hx hb hr (fun t ht hW => ⟨⟨_, (), rfl, h, by rw [ht]; exact hP, hD⟩, hS.F ht⟩) hS.2.2 dX2_night_119
  have h := h.2 hc4
  by_cases hc5 : p1 = 5
  · have h := h.1 hc5
    refine lv_tableIn (tgt := 120) hx hb dX2_night_1 (by rw [hc5]; decide) (by rw [hc5]; decide) (by rw [hc5]; rfl) (by decide) ?_
    refine lv_aload_n hx hb dX2_night_120 rfl (lv_at hl 0 rfl) ?_
    refine va_get (D := G.1) (ci := 5) (v := .int tA) (C := RX2) (T := TX2) (N := 11) hx hb hts igX2 hown hK hP 0 rfl rfl 4 (by decide) (hts _ q180) (fun _ h9 => h9) rfl dX2_night_121 ?_
    refine vx_ret (W.widen (k := 1) (n := 6) (Nat.le_of_ble_eq_true rfl) (Nat.le_of_ble_eq_true rfl) ?_)
    subst hQC; exact W.iret (v := tA) hx hb hr (fun t ht hW => ⟨⟨_, (), rfl, h, by rw [ht]; exact hP, hD⟩, hS.F ht⟩) hS.2.2 dX2_night_124
  have h := h.2 hc5
  by_cases hc6 : p1 = 6
  · have h := h.1 hc6
    refine lv_tableIn (tgt := 125) hx hb dX2_night_1 (by rw [hc6]; decide) (by rw [hc6]; decide) (by rw [hc6]; rfl) (by decide) ?_
    refine lv_aload_n hx hb dX2_night_125 rfl (lv_at hl 0 rfl) ?_
    refine va_get (D := G.1) (ci := 5) (v := .int wP) (C := RX2) (T := TX2) (N := 11) hx hb hts igX2 hown hK hP 0 rfl rfl 5 (by decide) (hts _ q181) (fun _ h9 => h9) rfl dX2_night_126 ?_
    refine vx_ret (W.widen (k := 1) (n := 6) (Nat.le_of_ble_eq_true rfl) (Nat.le_of_ble_eq_true rfl) ?_)
    subst hQC; exact W.iret (v := wP) hx hb hr (fun t ht hW => ⟨⟨_, (), rfl, h, by rw [ht]; exact hP, hD⟩, hS.F ht⟩) hS.2.2 dX2_night_129
  have h := h.2 hc6
  by_cases hc7 : p1 = 7
  · have h := h.1 hc7
    refine lv_tableIn (tgt := 130) hx hb dX2_night_1 (by rw [hc7]; decide) (by rw [hc7]; decide) (by rw [hc7]; rfl) (by decide) ?_
    refine lv_aload_n hx hb dX2_night_130 rfl (lv_at hl 0 rfl) ?_
    refine va_get (D := G.1) (ci := 5) (v := .int nT) (C := RX2) (T := TX2) (N := 11) hx hb hts igX2 hown hK hP 0 rfl rfl 6 (by decide) (hts _ q182) (fun _ h9 => h9) rfl dX2_night_131 ?_
    refine vx_ret (W.widen (k := 1) (n := 6) (Nat.le_of_ble_eq_true rfl) (Nat.le_of_ble_eq_true rfl) ?_)
    subst hQC; exact W.iret (v := nT) hx hb hr (fun t ht hW => ⟨⟨_, (), rfl, h, by rw [ht]; exact hP, hD⟩, hS.F ht⟩) hS.2.2 dX2_night_134
  have h := h.2 hc7
  by_cases hc8 : p1 = 8
  · have h := h.1 hc8
    refine lv_tableIn (tgt := 135) hx hb dX2_night_1 (by rw [hc8]; decide) (by rw [hc8]; decide) (by rw [hc8]; rfl) (by decide) ?_
    refine lv_aload_n hx hb dX2_night_135 rfl (lv_at hl 0 rfl) ?_
    refine va_get (D := G.1) (ci := 5) (v := .int aK) (C := RX2) (T := TX2) (N := 11) hx hb hts igX2 hown hK hP 0 rfl rfl 7 (by decide) (hts _ q183) (fun _ h9 => h9) rfl dX2_night_136 ?_
    refine vx_ret (W.widen (k := 1) (n := 6) (Nat.le_of_ble_eq_true rfl) (Nat.le_of_ble_eq_true rfl) ?_)
    subst hQC; exact W.iret (v := aK) hx hb hr (fun t ht hW => ⟨⟨_, (), rfl, h, by rw [ht]; exact hP, hD⟩, hS.F ht⟩) hS.2.2 dX2_night_139
  have h := h.2 hc8
  by_cases hc9 : p1 = 9
  · have h := h.1 hc9
    refine lv_tableIn (tgt := 140) hx hb dX2_night_1 (by rw [hc9]; decide) (by rw [hc9]; decide) (by rw [hc9]; rfl) (by decide) ?_
    refine lv_aload_n hx hb dX2_night_140 rfl (lv_at hl 0 rfl) ?_
    refine va_get (D := G.1) (ci := 5) (v := .int lK) (C := RX2) (T := TX2) (N := 11) hx hb hts igX2 hown hK hP 0 rfl rfl 8 (by decide) (hts _ q184) (fun _ h9 => h9) rfl dX2_night_141 ?_
    refine vx_ret (W.widen (k := 1) (n := 6) (Nat.le_of_ble_eq_true rfl) (Nat.le_of_ble_eq_true rfl) ?_)
    subst hQC; exact W.iret (v := lK) hx hb hr (fun t ht hW => ⟨⟨_, (), rfl, h, by rw [ht]; exact hP, hD⟩, hS.F ht⟩) hS.2.2 dX2_night_144
  have h := h.2 hc9
  by_cases hc10 : p1 = 10
  · have h := h.1 hc10
    refine lv_tableIn (tgt := 145) hx hb dX2_night_1 (by rw [hc10]; decide) (by rw [hc10]; decide) (by rw [hc10]; rfl) (by decide) ?_
    refine lv_aload_n hx hb dX2_night_145 rfl (lv_at hl 0 rfl) ?_
    refine va_get (D := G.1) (ci := 5) (v := .int sW) (C := RX2) (T := TX2) (N := 11) hx hb hts igX2 hown hK hP 0 rfl rfl 9 (by decide) (hts _ q185) (fun _ h9 => h9) rfl dX2_night_146 ?_
    refine vx_ret (W.widen (k := 1) (n := 6) (Nat.le_of_ble_eq_true rfl) (Nat.le_of_ble_eq_true rfl) ?_)
    subst hQC; exact W.iret (v := sW) hx hb hr (fun t ht hW => ⟨⟨_, (), rfl, h, by rw [ht]; exact hP, hD⟩, hS.F ht⟩) hS.2.2 dX2_night_149
  have h := h.2 hc10
  by_cases hc11 : p1 = 11
  · have h := h.1 hc11
    refine lv_tableIn (tgt := 150) hx hb dX2_night_1 (by rw [hc11]; decide) (by rw [hc11]; decide) (by rw [hc11]; rfl) (by decide) ?_
    refine lv_aload_n hx hb dX2_night_150 rfl (lv_at hl 0 rfl) ?_
    refine va_get (D := G.1) (ci := 5) (v := .ref s0) (C := RX2) (T := TX2) (N := 11) hx hb hts igX2 hown hK hP 0 rfl rfl 1 (by decide) (hts _ q177) (fun _ h9 => h9) rfl dX2_night_151 ?_
    have hPc := va_P.sub (ws' := [(s0, .inr (4, [.ref b0, .ref s1, .ref s2, .long op, .int re])), (s1, .inl (G.2 1, 384, .inr (.inl dk))), (s2, .inl (G.2 1, 40, .inr (.inl wg))), (b0, .inr (3, [.ref b1, .ref b2, .ref b3, .ref b4, .ref b5, .ref b6, .int bn])), (b1, .inl (G.2 0, 40, .inl kf)), (b2, .inl (G.2 0, 40, .inl ff)), (b3, .inl (G.2 0, 40, .inl sf)), (b4, .inl (G.2 0, 40, .inl df)), (b5, .inl (G.2 1, 40, .inr (.inl pf))), (b6, .inl (G.2 1, 6, .inr (.inl gf)))]) hP [1, 2, 3, 10, 11, 12, 13, 14, 15, 16] rfl
    refine rdI (va_runV (C := RX1) (As := []) (rest := []) ⟨hx, hb, hml, hown, hts⟩ (kX1_nearestToReal l G s0 s1 s2 b0 b1 b2 b3 b4 b5 b6 dk wg op re kf ff sf df pf gf bn h) (cwV 0 hts (gdV q268 q269 q270 q3 q271) rfl rfl rfl (by decide +kernel) ⟨Nat.le_of_ble_eq_true rfl, Nat.le_of_ble_eq_true rfl⟩) (preV hPc hKK (va_recv hK hPc (ci := 4) (q0 := 0) rfl rfl)) rfl rfl hl.1 rfl (lv_room (Nat.le_of_ble_eq_true rfl)) dX2_night_154 ⟨Nat.zero_le _, Nat.zero_le _⟩) (fun r_6 h => ?_)
    refine vx_ret (W.widen (k := 1) (n := 6) (Nat.le_of_ble_eq_true rfl) (Nat.le_of_ble_eq_true rfl) ?_)
    subst hQC; exact W.iret (v := r_6) hx hb hr (fun t ht hW => ⟨⟨_, (), rfl, h, by rw [ht]; exact hP, hD⟩, hS.F ht⟩) hS.2.2 dX2_night_157
  have h := h.2 hc11
  by_cases hc12 : p1 = 12
  · have h := h.1 hc12
    refine lv_tableIn (tgt := 158) hx hb dX2_night_1 (by rw [hc12]; decide) (by rw [hc12]; decide) (by rw [hc12]; rfl) (by decide) ?_
    refine lv_aload_n hx hb dX2_night_158 rfl (lv_at hl 0 rfl) ?_
    refine va_get (D := G.1) (ci := 5) (v := .int rF) (C := RX2) (T := TX2) (N := 11) hx hb hts igX2 hown hK hP 0 rfl rfl 10 (by decide) (hts _ q186) (fun _ h9 => h9) rfl dX2_night_159 ?_
    refine vx_ret (W.widen (k := 1) (n := 6) (Nat.le_of_ble_eq_true rfl) (Nat.le_of_ble_eq_true rfl) ?_)
    subst hQC; exact W.iret (v := rF) hx hb hr (fun t ht hW => ⟨⟨_, (), rfl, h, by rw [ht]; exact hP, hD⟩, hS.F ht⟩) hS.2.2 dX2_night_162
  have h := h.2 hc12
  refine lv_tableOut (tgt := 163) hx hb dX2_night_1 (tsw_0_12 hc0 hc1 hc2 hc3 hc4 hc5 hc6 hc7 hc8 hc9 hc10 hc11 hc12) (by decide) ?_
  obtain ⟨sa, hsa⟩ := hR.1 ("NightdeskRota", 244, "no such question of the night") (List.mem_of_getElem? (i := 0) rfl)
  subst hXC
  exact vx_throwS (names := rtx) (text := "no such question of the night") (sa := sa) hx hb hfl hown (by decide +kernel) (by decide +kernel) (hts _ q273) (hts _ q14) hsa (hatX hat43a hat43b hts hN hZ) hgd43 hZ.2.1 hZ.2.2 hS (hl.1.trans hml.symm) dX2_night_163 dX2_night_166 dX2_night_167 dX2_night_169 dX2_night_172 (fun x hx => (hT x hx).elim) (Nat.le_of_ble_eq_true rfl) (Nat.le_of_ble_eq_true rfl) (Nat.le_of_ble_eq_true rfl) (Nat.le_of_ble_eq_true rfl) hlocks (fun t ht h1 h2 => ⟨(), trivial, ⟨keepAll hP h2, hD, h⟩, h1, fun q hq _ => h2 q hq⟩) hS.2.2 (Nat.le_refl _) (Nat.le_refl _)
def wnX2_night (post : Int32 → Prop) (tA : Int32) (wP : Int32) (nT : Int32) (aK : Int32) (lK : Int32) (sW : Int32) (rF : Int32) (dk : Nat → Int64) (wg : Nat → Int64) (op : Int64) (re : Int32) (bn : Int32) (p1 : Int32) : Prop :=
  (p1 = 0 →
    post re
  ) ∧ (¬ p1 = 0 →
  (p1 = 1 →
    wJ13_bitCount_95d88 (fun r_1 : Int32 =>
      post r_1
      ) op
  ) ∧ (¬ p1 = 1 →
  (p1 = 2 →
    wX0_count (fun r_2 : Int32 =>
      post r_2
      ) bn
  ) ∧ (¬ p1 = 2 →
  (p1 = 3 →
    wX1_countTrueInReal (fun r_3 : Int32 =>
      post r_3
      ) wg re bn
  ) ∧ (¬ p1 = 3 →
  (p1 = 4 →
    wX1_reachedFromReal (fun r_4 : Int64 =>
      wX1_countTrueInAllOf (fun r_5 : Int32 =>
        post r_5
        ) wg bn r_4
      ) dk op re (63 : Int32)
  ) ∧ (¬ p1 = 4 →
  (p1 = 5 →
    post tA
  ) ∧ (¬ p1 = 5 →
  (p1 = 6 →
    post wP
  ) ∧ (¬ p1 = 6 →
  (p1 = 7 →
    post nT
  ) ∧ (¬ p1 = 7 →
  (p1 = 8 →
    post aK
  ) ∧ (¬ p1 = 8 →
  (p1 = 9 →
    post lK
  ) ∧ (¬ p1 = 9 →
  (p1 = 10 →
    post sW
  ) ∧ (¬ p1 = 10 →
  (p1 = 11 →
    wX1_nearestToReal (fun r_6 : Int32 =>
      post r_6
      ) dk op re
  ) ∧ (¬ p1 = 11 →
  (p1 = 12 →
    post rF
  ) ∧ (¬ p1 = 12 →
    False
  )))))))))))))
abbrev wl_nX2_night : List Cond := .code yX2_night cX2_night 2 (some .int) :: lwg
abbrev rm_nX2_night : Room := { frames := 5, cells := 0, slots := 0, locals := 122 }
set_option maxHeartbeats 4000000 in
set_option maxRecDepth 100000 in
theorem knX2_night {post : Int32 → Prop} (l : Launch) (G : GT) (x0 : Nat) (s0 : Nat) (s1 : Nat) (s2 : Nat) (u0 : Nat) (u1 : Nat) (u2 : Nat) (v0 : Nat) (v1 : Nat) (v2 : Nat) (b0 : Nat) (b1 : Nat) (b2 : Nat) (b3 : Nat) (b4 : Nat) (b5 : Nat) (b6 : Nat) (tA : Int32) (wP : Int32) (nT : Int32) (aK : Int32) (lK : Int32) (sW : Int32) (rF : Int32) (dk : Nat → Int64) (wg : Nat → Int64) (op : Int64) (re : Int32) (uk : Nat → Int64) (uw : Nat → Int64) (uo : Int64) (ur : Int32) (vk : Nat → Int64) (vw : Nat → Int64) (vo : Int64) (vr : Int32) (kf : Nat → Int32) (ff : Nat → Int32) (sf : Nat → Int32) (df : Nat → Int32) (pf : Nat → Int64) (gf : Nat → Int64) (bn : Int32) (p1 : Int32) (h : wnX2_night post tA wP nT aK lK sW rF dk wg op re bn p1) : Met l yX2_night wl_nX2_night rm_nX2_night (va_Pc [.ref x0, .int p1] (fun U => PP G [(x0, .inr (5, [.ref b0, .ref s0, .ref u0, .ref v0, .int tA, .int wP, .int nT, .int aK, .int lK, .int sW, .int rF])), (s0, .inr (4, [.ref b0, .ref s1, .ref s2, .long op, .int re])), (s1, .inl (G.2 1, 384, .inr (.inl dk))), (s2, .inl (G.2 1, 40, .inr (.inl wg))), (u0, .inr (4, [.ref b0, .ref u1, .ref u2, .long uo, .int ur])), (u1, .inl (G.2 1, 384, .inr (.inl uk))), (u2, .inl (G.2 1, 40, .inr (.inl uw))), (v0, .inr (4, [.ref b0, .ref v1, .ref v2, .long vo, .int vr])), (v1, .inl (G.2 1, 384, .inr (.inl vk))), (v2, .inl (G.2 1, 40, .inr (.inl vw))), (b0, .inr (3, [.ref b1, .ref b2, .ref b3, .ref b4, .ref b5, .ref b6, .int bn])), (b1, .inl (G.2 0, 40, .inl kf)), (b2, .inl (G.2 0, 40, .inl ff)), (b3, .inl (G.2 0, 40, .inl sf)), (b4, .inl (G.2 0, 40, .inl df)), (b5, .inl (G.2 1, 40, .inr (.inl pf))), (b6, .inl (G.2 1, 6, .inr (.inl gf)))] U.heap ∧ KK G U)) (vp_Si post) 0 0 (fun _ => False) := by
  refine Met.ofW (cc := cX2_night) (maxL := 2) (ret := (some .int)) (by decide) rfl ?_
  intro p e s m args below meth c s₁ B hml hv
  obtain ⟨rfl, hP, hKK⟩ := hv
  obtain ⟨hK, hN, hR, hFW, hNC⟩ := id hKK
  have hx := B.exec
  have hb := B.bytes
  have hr := B.returns
  have hts0 := atoms_spec (ws := wl_nX2_night) B.pre
  have hts : ∀ w ∈ lwg, w.before ([.ref x0, .int p1] : List Value).toArray s = true := fun w hw => hts0 w (List.mem_cons_of_mem _ hw)
  have hown : s.vm.findClass RX2 = some m.cls := findClass_of_methodNamed B.named
  have hlocks := B.notSynchronized
  have hP : PP G [(x0, .inr (5, [.ref b0, .ref s0, .ref u0, .ref v0, .int tA, .int wP, .int nT, .int aK, .int lK, .int sW, .int rF])), (s0, .inr (4, [.ref b0, .ref s1, .ref s2, .long op, .int re])), (s1, .inl (G.2 1, 384, .inr (.inl dk))), (s2, .inl (G.2 1, 40, .inr (.inl wg))), (u0, .inr (4, [.ref b0, .ref u1, .ref u2, .long uo, .int ur])), (u1, .inl (G.2 1, 384, .inr (.inl uk))), (u2, .inl (G.2 1, 40, .inr (.inl uw))), (v0, .inr (4, [.ref b0, .ref v1, .ref v2, .long vo, .int vr])), (v1, .inl (G.2 1, 384, .inr (.inl vk))), (v2, .inl (G.2 1, 40, .inr (.inl vw))), (b0, .inr (3, [.ref b1, .ref b2, .ref b3, .ref b4, .ref b5, .ref b6, .int bn])), (b1, .inl (G.2 0, 40, .inl kf)), (b2, .inl (G.2 0, 40, .inl ff)), (b3, .inl (G.2 0, 40, .inl sf)), (b4, .inl (G.2 0, 40, .inl df)), (b5, .inl (G.2 1, 40, .inr (.inl pf))), (b6, .inl (G.2 1, 6, .inr (.inl gf)))] s.heap := hP
  have hl := lv_entry ([.ref x0, .int p1]) (n := 2) (Nat.le_of_ble_eq_true rfl)
  rw [lg_entry_eq]
  generalize (lg_sl ([.ref x0, .int p1]) ++ List.replicate (2 - (lg_sl ([.ref x0, .int p1])).length) Slot.unset).toArray = ls at hl ⊢
  have hl : lv_has ls 2 [(0, .ref x0), (1, .int p1)] := hl
  refine lv_iload_n hx hb dX2_night_0 rfl (lv_at hl 1 rfl) ?_
  by_cases hc0 : p1 = 0
  · have h := h.1 hc0
    refine lv_tableIn (tgt := 68) hx hb dX2_night_1 (by rw [hc0]; decide) (by rw [hc0]; decide) (by rw [hc0]; rfl) (by decide) ?_
    refine lv_aload_n hx hb dX2_night_68 rfl (lv_at hl 0 rfl) ?_
    refine va_get (D := G.1) (ci := 5) (v := .ref s0) (C := RX2) (T := TX2) (N := 11) hx hb hts igX2 hown hK hP 0 rfl rfl 1 (by decide) (hts _ q177) (fun _ h9 => h9) rfl dX2_night_69 ?_
    refine va_getN (D := G.1) (ci := 4) (v := .int re) (C := RX1) (T := TX1) (N := 5) hx hb hts igX1 hown hK hP 1 rfl rfl 4 (by decide) (va_Nw.use rfl (hN _ n79)) (fun _ h9 => h9) rfl dX2_night_72 ?_
    exact W.iret (v := re) hx hb hr (fun t ht _ => ⟨_, rfl, h, ht⟩) (fun _ hq => absurd hq List.not_mem_nil) dX2_night_75
  have h := h.2 hc0
  by_cases hc1 : p1 = 1
  · have h := h.1 hc1
    refine lv_tableIn (tgt := 76) hx hb dX2_night_1 (by rw [hc1]; decide) (by rw [hc1]; decide) (by rw [hc1]; rfl) (by decide) ?_
    refine lv_aload_n hx hb dX2_night_76 rfl (lv_at hl 0 rfl) ?_
    refine va_get (D := G.1) (ci := 5) (v := .ref s0) (C := RX2) (T := TX2) (N := 11) hx hb hts igX2 hown hK hP 0 rfl rfl 1 (by decide) (hts _ q177) (fun _ h9 => h9) rfl dX2_night_77 ?_
    refine va_getN (D := G.1) (ci := 4) (v := .long op) (C := RX1) (T := TX1) (N := 5) hx hb hts igX1 hown hK hP 1 rfl rfl 3 (by decide) (va_Nw.use rfl (hN _ n77)) (fun _ h9 => h9) rfl dX2_night_80 ?_
    have hPc := va_P.sub (ws' := []) hP [] rfl
    refine rdI (va_runS (As := [.long op]) (rest := []) ⟨hx, hb, hml, hown, hts⟩ (kJ13_bitCount_95d88 l G op h) (va_cwS 1 hts (gdS q150 q151 q5 q152) rfl rfl rfl (by decide +kernel) ⟨Nat.le_of_ble_eq_true rfl, Nat.le_of_ble_eq_true rfl⟩) (preS hPc hKK) rfl rfl hl.1 rfl (lv_room (Nat.le_of_ble_eq_true rfl)) dX2_night_83 ⟨Nat.zero_le _, Nat.zero_le _⟩) (fun r_1 h => ?_)
    exact W.iret (v := r_1) hx hb hr (fun t ht _ => ⟨_, rfl, h, ht⟩) (fun _ hq => absurd hq List.not_mem_nil) dX2_night_86
  have h := h.2 hc1
  by_cases hc2 : p1 = 2
  · have h := h.1 hc2
    refine lv_tableIn (tgt := 87) hx hb dX2_night_1 (by rw [hc2]; decide) (by rw [hc2]; decide) (by rw [hc2]; rfl) (by decide) ?_
    refine lv_aload_n hx hb dX2_night_87 rfl (lv_at hl 0 rfl) ?_
    refine va_get (D := G.1) (ci := 5) (v := .ref b0) (C := RX2) (T := TX2) (N := 11) hx hb hts igX2 hown hK hP 0 rfl rfl 0 (by decide) (hts _ q176) (fun _ h9 => h9) rfl dX2_night_88 ?_
    have hPc := va_P.sub (ws' := [(b0, .inr (3, [.ref b1, .ref b2, .ref b3, .ref b4, .ref b5, .ref b6, .int bn])), (b1, .inl (G.2 0, 40, .inl kf)), (b2, .inl (G.2 0, 40, .inl ff)), (b3, .inl (G.2 0, 40, .inl sf)), (b4, .inl (G.2 0, 40, .inl df)), (b5, .inl (G.2 1, 40, .inr (.inl pf))), (b6, .inl (G.2 1, 6, .inr (.inl gf)))]) hP [10, 11, 12, 13, 14, 15, 16] rfl
    refine rdI (va_runV (C := RX0) (As := []) (rest := []) ⟨hx, hb, hml, hown, hts⟩ (kX0_count l G b0 b1 b2 b3 b4 b5 b6 kf ff sf df pf gf bn h) (cwV 0 hts (gdV q223 q224 q225 q2 q226) rfl rfl rfl (by decide +kernel) ⟨Nat.le_of_ble_eq_true rfl, Nat.le_of_ble_eq_true rfl⟩) (preV hPc hKK (va_recv hK hPc (ci := 3) (q0 := 0) rfl rfl)) rfl rfl hl.1 rfl (lv_room (Nat.le_of_ble_eq_true rfl)) dX2_night_91 ⟨Nat.zero_le _, Nat.zero_le _⟩) (fun r_2 h => ?_)
    exact W.iret (v := r_2) hx hb hr (fun t ht _ => ⟨_, rfl, h, ht⟩) (fun _ hq => absurd hq List.not_mem_nil) dX2_night_94
  have h := h.2 hc2
  by_cases hc3 : p1 = 3
  · have h := h.1 hc3
    refine lv_tableIn (tgt := 95) hx hb dX2_night_1 (by rw [hc3]; decide) (by rw [hc3]; decide) (by rw [hc3]; rfl) (by decide) ?_
    refine lv_aload_n hx hb dX2_night_95 rfl (lv_at hl 0 rfl) ?_
    refine va_get (D := G.1) (ci := 5) (v := .ref s0) (C := RX2) (T := TX2) (N := 11) hx hb hts igX2 hown hK hP 0 rfl rfl 1 (by decide) (hts _ q177) (fun _ h9 => h9) rfl dX2_night_96 ?_
    have hPc := va_P.sub (ws' := [(s0, .inr (4, [.ref b0, .ref s1, .ref s2, .long op, .int re])), (s1, .inl (G.2 1, 384, .inr (.inl dk))), (s2, .inl (G.2 1, 40, .inr (.inl wg))), (b0, .inr (3, [.ref b1, .ref b2, .ref b3, .ref b4, .ref b5, .ref b6, .int bn])), (b1, .inl (G.2 0, 40, .inl kf)), (b2, .inl (G.2 0, 40, .inl ff)), (b3, .inl (G.2 0, 40, .inl sf)), (b4, .inl (G.2 0, 40, .inl df)), (b5, .inl (G.2 1, 40, .inr (.inl pf))), (b6, .inl (G.2 1, 6, .inr (.inl gf)))]) hP [1, 2, 3, 10, 11, 12, 13, 14, 15, 16] rfl
    refine rdI (va_runV (C := RX1) (As := []) (rest := []) ⟨hx, hb, hml, hown, hts⟩ (kX1_countTrueInReal l G s0 s1 s2 b0 b1 b2 b3 b4 b5 b6 dk wg op re kf ff sf df pf gf bn h) (cwV 0 hts (gdV q253 q254 q255 q3 q256) rfl rfl rfl (by decide +kernel) ⟨Nat.le_of_ble_eq_true rfl, Nat.le_of_ble_eq_true rfl⟩) (preV hPc hKK (va_recv hK hPc (ci := 4) (q0 := 0) rfl rfl)) rfl rfl hl.1 rfl (lv_room (Nat.le_of_ble_eq_true rfl)) dX2_night_99 ⟨Nat.zero_le _, Nat.zero_le _⟩) (fun r_3 h => ?_)
    exact W.iret (v := r_3) hx hb hr (fun t ht _ => ⟨_, rfl, h, ht⟩) (fun _ hq => absurd hq List.not_mem_nil) dX2_night_102
  have h := h.2 hc3
  by_cases hc4 : p1 = 4
  · have h := h.1 hc4
    refine lv_tableIn (tgt := 103) hx hb dX2_night_1 (by rw [hc4]; decide) (by rw [hc4]; decide) (by rw [hc4]; rfl) (by decide) ?_
    refine lv_aload_n hx hb dX2_night_103 rfl (lv_at hl 0 rfl) ?_
    refine va_get (D := G.1) (ci := 5) (v := .ref s0) (C := RX2) (T := TX2) (N := 11) hx hb hts igX2 hown hK hP 0 rfl rfl 1 (by decide) (hts _ q177) (fun _ h9 => h9) rfl dX2_night_104 ?_
    refine lv_aload_n hx hb dX2_night_107 rfl (lv_at hl 0 rfl) ?_
    refine va_get (D := G.1) (ci := 5) (v := .ref s0) (C := RX2) (T := TX2) (N := 11) hx hb hts igX2 hown hK hP 0 rfl rfl 1 (by decide) (hts _ q177) (fun _ h9 => h9) rfl dX2_night_108 ?_
    refine lv_bipush (v := 63) hx hb dX2_night_111 (by decide) ?_
    have hPc := va_P.sub (ws' := [(s0, .inr (4, [.ref b0, .ref s1, .ref s2, .long op, .int re])), (s1, .inl (G.2 1, 384, .inr (.inl dk))), (s2, .inl (G.2 1, 40, .inr (.inl wg))), (b0, .inr (3, [.ref b1, .ref b2, .ref b3, .ref b4, .ref b5, .ref b6, .int bn])), (b1, .inl (G.2 0, 40, .inl kf)), (b2, .inl (G.2 0, 40, .inl ff)), (b3, .inl (G.2 0, 40, .inl sf)), (b4, .inl (G.2 0, 40, .inl df)), (b5, .inl (G.2 1, 40, .inr (.inl pf))), (b6, .inl (G.2 1, 6, .inr (.inl gf)))]) hP [1, 2, 3, 10, 11, 12, 13, 14, 15, 16] rfl
    refine rdL (va_runV (C := RX1) (As := [.int (63 : Int32)]) (rest := [.ref s0]) ⟨hx, hb, hml, hown, hts⟩ (kX1_reachedFromReal l G s0 s1 s2 b0 b1 b2 b3 b4 b5 b6 dk wg op re kf ff sf df pf gf bn (63 : Int32) h) (cwV 1 hts (gdV q263 q264 q265 q3 q266) rfl rfl rfl (by decide +kernel) ⟨Nat.le_of_ble_eq_true rfl, Nat.le_of_ble_eq_true rfl⟩) (preV hPc hKK (va_recv hK hPc (ci := 4) (q0 := 0) rfl rfl)) rfl rfl hl.1 rfl (lv_room (Nat.le_of_ble_eq_true rfl)) dX2_night_113 ⟨Nat.zero_le _, Nat.zero_le _⟩) (fun r_4 h => ?_)
    have hPc := va_P.sub (ws' := [(s0, .inr (4, [.ref b0, .ref s1, .ref s2, .long op, .int re])), (s1, .inl (G.2 1, 384, .inr (.inl dk))), (s2, .inl (G.2 1, 40, .inr (.inl wg))), (b0, .inr (3, [.ref b1, .ref b2, .ref b3, .ref b4, .ref b5, .ref b6, .int bn])), (b1, .inl (G.2 0, 40, .inl kf)), (b2, .inl (G.2 0, 40, .inl ff)), (b3, .inl (G.2 0, 40, .inl sf)), (b4, .inl (G.2 0, 40, .inl df)), (b5, .inl (G.2 1, 40, .inr (.inl pf))), (b6, .inl (G.2 1, 6, .inr (.inl gf)))]) hP [1, 2, 3, 10, 11, 12, 13, 14, 15, 16] rfl
    refine rdI (va_runV (C := RX1) (As := [.long r_4]) (rest := []) ⟨hx, hb, hml, hown, hts⟩ (kX1_countTrueInAllOf l G s0 s1 s2 b0 b1 b2 b3 b4 b5 b6 dk wg op re kf ff sf df pf gf bn r_4 h) (cwV 1 hts (gdV q267 q259 q260 q3 q261) rfl rfl rfl (by decide +kernel) ⟨Nat.le_of_ble_eq_true rfl, Nat.le_of_ble_eq_true rfl⟩) (preV hPc hKK (va_recv hK hPc (ci := 4) (q0 := 0) rfl rfl)) rfl rfl hl.1 rfl (lv_room (Nat.le_of_ble_eq_true rfl)) dX2_night_116 ⟨Nat.zero_le _, Nat.zero_le _⟩) (fun r_5 h => ?_)
    exact W.iret (v := r_5) hx hb hr (fun t ht _ => ⟨_, rfl, h, ht⟩) (fun _ hq => absurd hq List.not_mem_nil) dX2_night_119
  have h := h.2 hc4
  by_cases hc5 : p1 = 5
  · have h := h.1 hc5
    refine lv_tableIn (tgt := 120) hx hb dX2_night_1 (by rw [hc5]; decide) (by rw [hc5]; decide) (by rw [hc5]; rfl) (by decide) ?_
    refine lv_aload_n hx hb dX2_night_120 rfl (lv_at hl 0 rfl) ?_
    refine va_get (D := G.1) (ci := 5) (v := .int tA) (C := RX2) (T := TX2) (N := 11) hx hb hts igX2 hown hK hP 0 rfl rfl 4 (by decide) (hts _ q180) (fun _ h9 => h9) rfl dX2_night_121 ?_
    exact W.iret (v := tA) hx hb hr (fun t ht _ => ⟨_, rfl, h, ht⟩) (fun _ hq => absurd hq List.not_mem_nil) dX2_night_124
  have h := h.2 hc5
  by_cases hc6 : p1 = 6
  · have h := h.1 hc6
    refine lv_tableIn (tgt := 125) hx hb dX2_night_1 (by rw [hc6]; decide) (by rw [hc6]; decide) (by rw [hc6]; rfl) (by decide) ?_
    refine lv_aload_n hx hb dX2_night_125 rfl (lv_at hl 0 rfl) ?_
    refine va_get (D := G.1) (ci := 5) (v := .int wP) (C := RX2) (T := TX2) (N := 11) hx hb hts igX2 hown hK hP 0 rfl rfl 5 (by decide) (hts _ q181) (fun _ h9 => h9) rfl dX2_night_126 ?_
    exact W.iret (v := wP) hx hb hr (fun t ht _ => ⟨_, rfl, h, ht⟩) (fun _ hq => absurd hq List.not_mem_nil) dX2_night_129
  have h := h.2 hc6
  by_cases hc7 : p1 = 7
  · have h := h.1 hc7
    refine lv_tableIn (tgt := 130) hx hb dX2_night_1 (by rw [hc7]; decide) (by rw [hc7]; decide) (by rw [hc7]; rfl) (by decide) ?_
    refine lv_aload_n hx hb dX2_night_130 rfl (lv_at hl 0 rfl) ?_
    refine va_get (D := G.1) (ci := 5) (v := .int nT) (C := RX2) (T := TX2) (N := 11) hx hb hts igX2 hown hK hP 0 rfl rfl 6 (by decide) (hts _ q182) (fun _ h9 => h9) rfl dX2_night_131 ?_
    exact W.iret (v := nT) hx hb hr (fun t ht _ => ⟨_, rfl, h, ht⟩) (fun _ hq => absurd hq List.not_mem_nil) dX2_night_134
  have h := h.2 hc7
  by_cases hc8 : p1 = 8
  · have h := h.1 hc8
    refine lv_tableIn (tgt := 135) hx hb dX2_night_1 (by rw [hc8]; decide) (by rw [hc8]; decide) (by rw [hc8]; rfl) (by decide) ?_
    refine lv_aload_n hx hb dX2_night_135 rfl (lv_at hl 0 rfl) ?_
    refine va_get (D := G.1) (ci := 5) (v := .int aK) (C := RX2) (T := TX2) (N := 11) hx hb hts igX2 hown hK hP 0 rfl rfl 7 (by decide) (hts _ q183) (fun _ h9 => h9) rfl dX2_night_136 ?_
    exact W.iret (v := aK) hx hb hr (fun t ht _ => ⟨_, rfl, h, ht⟩) (fun _ hq => absurd hq List.not_mem_nil) dX2_night_139
  have h := h.2 hc8
  by_cases hc9 : p1 = 9
  · have h := h.1 hc9
    refine lv_tableIn (tgt := 140) hx hb dX2_night_1 (by rw [hc9]; decide) (by rw [hc9]; decide) (by rw [hc9]; rfl) (by decide) ?_
    refine lv_aload_n hx hb dX2_night_140 rfl (lv_at hl 0 rfl) ?_
    refine va_get (D := G.1) (ci := 5) (v := .int lK) (C := RX2) (T := TX2) (N := 11) hx hb hts igX2 hown hK hP 0 rfl rfl 8 (by decide) (hts _ q184) (fun _ h9 => h9) rfl dX2_night_141 ?_
    exact W.iret (v := lK) hx hb hr (fun t ht _ => ⟨_, rfl, h, ht⟩) (fun _ hq => absurd hq List.not_mem_nil) dX2_night_144
  have h := h.2 hc9
  by_cases hc10 : p1 = 10
  · have h := h.1 hc10
    refine lv_tableIn (tgt := 145) hx hb dX2_night_1 (by rw [hc10]; decide) (by rw [hc10]; decide) (by rw [hc10]; rfl) (by decide) ?_
    refine lv_aload_n hx hb dX2_night_145 rfl (lv_at hl 0 rfl) ?_
    refine va_get (D := G.1) (ci := 5) (v := .int sW) (C := RX2) (T := TX2) (N := 11) hx hb hts igX2 hown hK hP 0 rfl rfl 9 (by decide) (hts _ q185) (fun _ h9 => h9) rfl dX2_night_146 ?_
    exact W.iret (v := sW) hx hb hr (fun t ht _ => ⟨_, rfl, h, ht⟩) (fun _ hq => absurd hq List.not_mem_nil) dX2_night_149
  have h := h.2 hc10
  by_cases hc11 : p1 = 11
  · have h := h.1 hc11
    refine lv_tableIn (tgt := 150) hx hb dX2_night_1 (by rw [hc11]; decide) (by rw [hc11]; decide) (by rw [hc11]; rfl) (by decide) ?_
    refine lv_aload_n hx hb dX2_night_150 rfl (lv_at hl 0 rfl) ?_
    refine va_get (D := G.1) (ci := 5) (v := .ref s0) (C := RX2) (T := TX2) (N := 11) hx hb hts igX2 hown hK hP 0 rfl rfl 1 (by decide) (hts _ q177) (fun _ h9 => h9) rfl dX2_night_151 ?_
    have hPc := va_P.sub (ws' := [(s0, .inr (4, [.ref b0, .ref s1, .ref s2, .long op, .int re])), (s1, .inl (G.2 1, 384, .inr (.inl dk))), (s2, .inl (G.2 1, 40, .inr (.inl wg))), (b0, .inr (3, [.ref b1, .ref b2, .ref b3, .ref b4, .ref b5, .ref b6, .int bn])), (b1, .inl (G.2 0, 40, .inl kf)), (b2, .inl (G.2 0, 40, .inl ff)), (b3, .inl (G.2 0, 40, .inl sf)), (b4, .inl (G.2 0, 40, .inl df)), (b5, .inl (G.2 1, 40, .inr (.inl pf))), (b6, .inl (G.2 1, 6, .inr (.inl gf)))]) hP [1, 2, 3, 10, 11, 12, 13, 14, 15, 16] rfl
    refine rdI (va_runV (C := RX1) (As := []) (rest := []) ⟨hx, hb, hml, hown, hts⟩ (kX1_nearestToReal l G s0 s1 s2 b0 b1 b2 b3 b4 b5 b6 dk wg op re kf ff sf df pf gf bn h) (cwV 0 hts (gdV q268 q269 q270 q3 q271) rfl rfl rfl (by decide +kernel) ⟨Nat.le_of_ble_eq_true rfl, Nat.le_of_ble_eq_true rfl⟩) (preV hPc hKK (va_recv hK hPc (ci := 4) (q0 := 0) rfl rfl)) rfl rfl hl.1 rfl (lv_room (Nat.le_of_ble_eq_true rfl)) dX2_night_154 ⟨Nat.zero_le _, Nat.zero_le _⟩) (fun r_6 h => ?_)
    exact W.iret (v := r_6) hx hb hr (fun t ht _ => ⟨_, rfl, h, ht⟩) (fun _ hq => absurd hq List.not_mem_nil) dX2_night_157
  have h := h.2 hc11
  by_cases hc12 : p1 = 12
  · have h := h.1 hc12
    refine lv_tableIn (tgt := 158) hx hb dX2_night_1 (by rw [hc12]; decide) (by rw [hc12]; decide) (by rw [hc12]; rfl) (by decide) ?_
    refine lv_aload_n hx hb dX2_night_158 rfl (lv_at hl 0 rfl) ?_
    refine va_get (D := G.1) (ci := 5) (v := .int rF) (C := RX2) (T := TX2) (N := 11) hx hb hts igX2 hown hK hP 0 rfl rfl 10 (by decide) (hts _ q186) (fun _ h9 => h9) rfl dX2_night_159 ?_
    exact W.iret (v := rF) hx hb hr (fun t ht _ => ⟨_, rfl, h, ht⟩) (fun _ hq => absurd hq List.not_mem_nil) dX2_night_162
  have h := h.2 hc12
  refine lv_tableOut (tgt := 163) hx hb dX2_night_1 (tsw_0_12 hc0 hc1 hc2 hc3 hc4 hc5 hc6 hc7 hc8 hc9 hc10 hc11 hc12) (by decide) ?_
  exact False.elim h
theorem dX2_wit_0 : decode cX2_wit 0 = .ok (.iload_n 1, 1) := by decide +kernel
theorem dX2_wit_1 : decode cX2_wit 1 = .ok (.invokestatic 77, 3) := by decide +kernel
theorem dX2_wit_4 : decode cX2_wit 4 = .ok (.ifCond .ne 13, 3) := by decide +kernel
theorem dX2_wit_7 : decode cX2_wit 7 = .ok (.new 83, 3) := by decide +kernel
theorem dX2_wit_10 : decode cX2_wit 10 = .ok (.dup, 1) := by decide +kernel
theorem dX2_wit_11 : decode cX2_wit 11 = .ok (.ldc 144, 2) := by decide +kernel
theorem dX2_wit_13 : decode cX2_wit 13 = .ok (.invokespecial 87, 3) := by decide +kernel
theorem dX2_wit_16 : decode cX2_wit 16 = .ok (.athrow, 1) := by decide +kernel
theorem dX2_wit_17 : decode cX2_wit 17 = .ok (.aload_n 0, 1) := by decide +kernel
theorem dX2_wit_18 : decode cX2_wit 18 = .ok (.getfield 10, 3) := by decide +kernel
theorem dX2_wit_21 : decode cX2_wit 21 = .ok (.invokevirtual 235, 3) := by decide +kernel
theorem dX2_wit_24 : decode cX2_wit 24 = .ok (.istore_n 2, 1) := by decide +kernel
theorem dX2_wit_25 : decode cX2_wit 25 = .ok (.iload_n 2, 1) := by decide +kernel
theorem dX2_wit_26 : decode cX2_wit 26 = .ok (.ifCond .ne 5, 3) := by decide +kernel
theorem dX2_wit_29 : decode cX2_wit 29 = .ok (.dconst 0, 1) := by decide +kernel
theorem dX2_wit_30 : decode cX2_wit 30 = .ok (.dreturn, 1) := by decide +kernel
theorem dX2_wit_31 : decode cX2_wit 31 = .ok (.aload_n 0, 1) := by decide +kernel
theorem dX2_wit_32 : decode cX2_wit 32 = .ok (.getfield 21, 3) := by decide +kernel
theorem dX2_wit_35 : decode cX2_wit 35 = .ok (.iload_n 1, 1) := by decide +kernel
theorem dX2_wit_36 : decode cX2_wit 36 = .ok (.invokevirtual 223, 3) := by decide +kernel
theorem dX2_wit_39 : decode cX2_wit 39 = .ok (.i2d, 1) := by decide +kernel
theorem dX2_wit_40 : decode cX2_wit 40 = .ok (.iload_n 2, 1) := by decide +kernel
theorem dX2_wit_41 : decode cX2_wit 41 = .ok (.i2d, 1) := by decide +kernel
theorem dX2_wit_42 : decode cX2_wit 42 = .ok (.ddiv, 1) := by decide +kernel
theorem dX2_wit_43 : decode cX2_wit 43 = .ok (.dreturn, 1) := by decide +kernel
def wxX2_wit (post : UInt64 → Unit → Prop) (postx : String → Prop) (dk : Nat → Int64) (wg : Nat → Int64) (op : Int64) (re : Int32) (bn : Int32) (p1 : Int32) : Prop :=
  wX2_isGuard (fun r_1 : Int32 =>
    ((¬ r_1 = 0) →
      wX0_count (fun r_2 : Int32 =>
        ((¬ r_2 = 0) →
          wX1_countKnownBy (fun r_3 : Int32 =>
            vf_n64 (FP.ddiv (FP.i2d r_3) (FP.i2d r_2)) ∧
            post (FP.ddiv (FP.i2d r_3) (FP.i2d r_2)) ()
            ) dk wg op re bn p1
        ) ∧ ((r_2 = 0) →
          post (FP.dconst0) ()
        )
        ) bn
    ) ∧ ((r_1 = 0) →
      postx "java/lang/IndexOutOfBoundsException"
    )
    ) p1
abbrev wl_xX2_wit : List Cond := .code yX2_wit cX2_wit 3 (some .double) :: lwg
abbrev rm_xX2_wit : Room := { frames := 6, cells := 1, slots := 6, locals := 98 }
set_option maxHeartbeats 4000000 in
set_option maxRecDepth 100000 in
theorem kxX2_wit {post : UInt64 → Unit → Prop} {postx : String → Prop} (l : Launch) (hfl : l.stackTraces = false) (G : GT) (x0 : Nat) (s0 : Nat) (s1 : Nat) (s2 : Nat) (u0 : Nat) (u1 : Nat) (u2 : Nat) (v0 : Nat) (v1 : Nat) (v2 : Nat) (b0 : Nat) (b1 : Nat) (b2 : Nat) (b3 : Nat) (b4 : Nat) (b5 : Nat) (b6 : Nat) (tA : Int32) (wP : Int32) (nT : Int32) (aK : Int32) (lK : Int32) (sW : Int32) (rF : Int32) (dk : Nat → Int64) (wg : Nat → Int64) (op : Int64) (re : Int32) (uk : Nat → Int64) (uw : Nat → Int64) (uo : Int64) (ur : Int32) (vk : Nat → Int64) (vw : Nat → Int64) (vo : Int64) (vr : Int32) (kf : Nat → Int32) (ff : Nat → Int32) (sf : Nat → Int32) (df : Nat → Int32) (pf : Nat → Int64) (gf : Nat → Int64) (bn : Int32) (p1 : Int32) (sz : Nat) (h : wxX2_wit post postx dk wg op re bn p1) : vx_Met l yX2_wit wl_xX2_wit rm_xX2_wit (va_Pc [.ref x0, .int p1] (fun U => U.heap.size = sz ∧ PP G [(x0, .inr (5, [.ref b0, .ref s0, .ref u0, .ref v0, .int tA, .int wP, .int nT, .int aK, .int lK, .int sW, .int rF])), (s0, .inr (4, [.ref b0, .ref s1, .ref s2, .long op, .int re])), (s1, .inl (G.2 1, 384, .inr (.inl dk))), (s2, .inl (G.2 1, 40, .inr (.inl wg))), (u0, .inr (4, [.ref b0, .ref u1, .ref u2, .long uo, .int ur])), (u1, .inl (G.2 1, 384, .inr (.inl uk))), (u2, .inl (G.2 1, 40, .inr (.inl uw))), (v0, .inr (4, [.ref b0, .ref v1, .ref v2, .long vo, .int vr])), (v1, .inl (G.2 1, 384, .inr (.inl vk))), (v2, .inl (G.2 1, 40, .inr (.inl vw))), (b0, .inr (3, [.ref b1, .ref b2, .ref b3, .ref b4, .ref b5, .ref b6, .int bn])), (b1, .inl (G.2 0, 40, .inl kf)), (b2, .inl (G.2 0, 40, .inl ff)), (b3, .inl (G.2 0, 40, .inl sf)), (b4, .inl (G.2 0, 40, .inl df)), (b5, .inl (G.2 1, 40, .inr (.inl pf))), (b6, .inl (G.2 1, 6, .inr (.inl gf)))] U.heap ∧ KK G U ∧ va_D (fun _ => True) [(x0, .inr (5, [.ref b0, .ref s0, .ref u0, .ref v0, .int tA, .int wP, .int nT, .int aK, .int lK, .int sW, .int rF])), (s0, .inr (4, [.ref b0, .ref s1, .ref s2, .long op, .int re])), (s1, .inl (G.2 1, 384, .inr (.inl dk))), (s2, .inl (G.2 1, 40, .inr (.inl wg))), (u0, .inr (4, [.ref b0, .ref u1, .ref u2, .long uo, .int ur])), (u1, .inl (G.2 1, 384, .inr (.inl uk))), (u2, .inl (G.2 1, 40, .inr (.inl uw))), (v0, .inr (4, [.ref b0, .ref v1, .ref v2, .long vo, .int vr])), (v1, .inl (G.2 1, 384, .inr (.inl vk))), (v2, .inl (G.2 1, 40, .inr (.inl vw))), (b0, .inr (3, [.ref b1, .ref b2, .ref b3, .ref b4, .ref b5, .ref b6, .int bn])), (b1, .inl (G.2 0, 40, .inl kf)), (b2, .inl (G.2 0, 40, .inl ff)), (b3, .inl (G.2 0, 40, .inl sf)), (b4, .inl (G.2 0, 40, .inl df)), (b5, .inl (G.2 1, 40, .inr (.inl pf))), (b6, .inl (G.2 1, 6, .inr (.inl gf)))] ∧ ZZ (va_A [(x0, .inr (5, [.ref b0, .ref s0, .ref u0, .ref v0, .int tA, .int wP, .int nT, .int aK, .int lK, .int sW, .int rF])), (s0, .inr (4, [.ref b0, .ref s1, .ref s2, .long op, .int re])), (s1, .inl (G.2 1, 384, .inr (.inl dk))), (s2, .inl (G.2 1, 40, .inr (.inl wg))), (u0, .inr (4, [.ref b0, .ref u1, .ref u2, .long uo, .int ur])), (u1, .inl (G.2 1, 384, .inr (.inl uk))), (u2, .inl (G.2 1, 40, .inr (.inl uw))), (v0, .inr (4, [.ref b0, .ref v1, .ref v2, .long vo, .int vr])), (v1, .inl (G.2 1, 384, .inr (.inl vk))), (v2, .inl (G.2 1, 40, .inr (.inl vw))), (b0, .inr (3, [.ref b1, .ref b2, .ref b3, .ref b4, .ref b5, .ref b6, .int bn])), (b1, .inl (G.2 0, 40, .inl kf)), (b2, .inl (G.2 0, 40, .inl ff)), (b3, .inl (G.2 0, 40, .inl sf)), (b4, .inl (G.2 0, 40, .inl df)), (b5, .inl (G.2 1, 40, .inr (.inl pf))), (b6, .inl (G.2 1, 6, .inr (.inl gf)))] sz) U U.heap)) (va_Qd post (fun u t => PP G [(x0, .inr (5, [.ref b0, .ref s0, .ref u0, .ref v0, .int tA, .int wP, .int nT, .int aK, .int lK, .int sW, .int rF])), (s0, .inr (4, [.ref b0, .ref s1, .ref s2, .long op, .int re])), (s1, .inl (G.2 1, 384, .inr (.inl dk))), (s2, .inl (G.2 1, 40, .inr (.inl wg))), (u0, .inr (4, [.ref b0, .ref u1, .ref u2, .long uo, .int ur])), (u1, .inl (G.2 1, 384, .inr (.inl uk))), (u2, .inl (G.2 1, 40, .inr (.inl uw))), (v0, .inr (4, [.ref b0, .ref v1, .ref v2, .long vo, .int vr])), (v1, .inl (G.2 1, 384, .inr (.inl vk))), (v2, .inl (G.2 1, 40, .inr (.inl vw))), (b0, .inr (3, [.ref b1, .ref b2, .ref b3, .ref b4, .ref b5, .ref b6, .int bn])), (b1, .inl (G.2 0, 40, .inl kf)), (b2, .inl (G.2 0, 40, .inl ff)), (b3, .inl (G.2 0, 40, .inl sf)), (b4, .inl (G.2 0, 40, .inl df)), (b5, .inl (G.2 1, 40, .inr (.inl pf))), (b6, .inl (G.2 1, 6, .inr (.inl gf)))] t.heap ∧ va_D (va_A [(x0, .inr (5, [.ref b0, .ref s0, .ref u0, .ref v0, .int tA, .int wP, .int nT, .int aK, .int lK, .int sW, .int rF])), (s0, .inr (4, [.ref b0, .ref s1, .ref s2, .long op, .int re])), (s1, .inl (G.2 1, 384, .inr (.inl dk))), (s2, .inl (G.2 1, 40, .inr (.inl wg))), (u0, .inr (4, [.ref b0, .ref u1, .ref u2, .long uo, .int ur])), (u1, .inl (G.2 1, 384, .inr (.inl uk))), (u2, .inl (G.2 1, 40, .inr (.inl uw))), (v0, .inr (4, [.ref b0, .ref v1, .ref v2, .long vo, .int vr])), (v1, .inl (G.2 1, 384, .inr (.inl vk))), (v2, .inl (G.2 1, 40, .inr (.inl vw))), (b0, .inr (3, [.ref b1, .ref b2, .ref b3, .ref b4, .ref b5, .ref b6, .int bn])), (b1, .inl (G.2 0, 40, .inl kf)), (b2, .inl (G.2 0, 40, .inl ff)), (b3, .inl (G.2 0, 40, .inl sf)), (b4, .inl (G.2 0, 40, .inl df)), (b5, .inl (G.2 1, 40, .inr (.inl pf))), (b6, .inl (G.2 1, 6, .inr (.inl gf)))] sz) [(x0, .inr (5, [.ref b0, .ref s0, .ref u0, .ref v0, .int tA, .int wP, .int nT, .int aK, .int lK, .int sW, .int rF])), (s0, .inr (4, [.ref b0, .ref s1, .ref s2, .long op, .int re])), (s1, .inl (G.2 1, 384, .inr (.inl dk))), (s2, .inl (G.2 1, 40, .inr (.inl wg))), (u0, .inr (4, [.ref b0, .ref u1, .ref u2, .long uo, .int ur])), (u1, .inl (G.2 1, 384, .inr (.inl uk))), (u2, .inl (G.2 1, 40, .inr (.inl uw))), (v0, .inr (4, [.ref b0, .ref v1, .ref v2, .long vo, .int vr])), (v1, .inl (G.2 1, 384, .inr (.inl vk))), (v2, .inl (G.2 1, 40, .inr (.inl vw))), (b0, .inr (3, [.ref b1, .ref b2, .ref b3, .ref b4, .ref b5, .ref b6, .int bn])), (b1, .inl (G.2 0, 40, .inl kf)), (b2, .inl (G.2 0, 40, .inl ff)), (b3, .inl (G.2 0, 40, .inl sf)), (b4, .inl (G.2 0, 40, .inl df)), (b5, .inl (G.2 1, 40, .inr (.inl pf))), (b6, .inl (G.2 1, 6, .inr (.inl gf)))]) (va_A [(x0, .inr (5, [.ref b0, .ref s0, .ref u0, .ref v0, .int tA, .int wP, .int nT, .int aK, .int lK, .int sW, .int rF])), (s0, .inr (4, [.ref b0, .ref s1, .ref s2, .long op, .int re])), (s1, .inl (G.2 1, 384, .inr (.inl dk))), (s2, .inl (G.2 1, 40, .inr (.inl wg))), (u0, .inr (4, [.ref b0, .ref u1, .ref u2, .long uo, .int ur])), (u1, .inl (G.2 1, 384, .inr (.inl uk))), (u2, .inl (G.2 1, 40, .inr (.inl uw))), (v0, .inr (4, [.ref b0, .ref v1, .ref v2, .long vo, .int vr])), (v1, .inl (G.2 1, 384, .inr (.inl vk))), (v2, .inl (G.2 1, 40, .inr (.inl vw))), (b0, .inr (3, [.ref b1, .ref b2, .ref b3, .ref b4, .ref b5, .ref b6, .int bn])), (b1, .inl (G.2 0, 40, .inl kf)), (b2, .inl (G.2 0, 40, .inl ff)), (b3, .inl (G.2 0, 40, .inl sf)), (b4, .inl (G.2 0, 40, .inl df)), (b5, .inl (G.2 1, 40, .inr (.inl pf))), (b6, .inl (G.2 1, 6, .inr (.inl gf)))] sz)) (vx_X (fun _ : Unit => True) (fun E _ t => PP G [(x0, .inr (5, [.ref b0, .ref s0, .ref u0, .ref v0, .int tA, .int wP, .int nT, .int aK, .int lK, .int sW, .int rF])), (s0, .inr (4, [.ref b0, .ref s1, .ref s2, .long op, .int re])), (s1, .inl (G.2 1, 384, .inr (.inl dk))), (s2, .inl (G.2 1, 40, .inr (.inl wg))), (u0, .inr (4, [.ref b0, .ref u1, .ref u2, .long uo, .int ur])), (u1, .inl (G.2 1, 384, .inr (.inl uk))), (u2, .inl (G.2 1, 40, .inr (.inl uw))), (v0, .inr (4, [.ref b0, .ref v1, .ref v2, .long vo, .int vr])), (v1, .inl (G.2 1, 384, .inr (.inl vk))), (v2, .inl (G.2 1, 40, .inr (.inl vw))), (b0, .inr (3, [.ref b1, .ref b2, .ref b3, .ref b4, .ref b5, .ref b6, .int bn])), (b1, .inl (G.2 0, 40, .inl kf)), (b2, .inl (G.2 0, 40, .inl ff)), (b3, .inl (G.2 0, 40, .inl sf)), (b4, .inl (G.2 0, 40, .inl df)), (b5, .inl (G.2 1, 40, .inr (.inl pf))), (b6, .inl (G.2 1, 6, .inr (.inl gf)))] t.heap ∧ va_D (va_A [(x0, .inr (5, [.ref b0, .ref s0, .ref u0, .ref v0, .int tA, .int wP, .int nT, .int aK, .int lK, .int sW, .int rF])), (s0, .inr (4, [.ref b0, .ref s1, .ref s2, .long op, .int re])), (s1, .inl (G.2 1, 384, .inr (.inl dk))), (s2, .inl (G.2 1, 40, .inr (.inl wg))), (u0, .inr (4, [.ref b0, .ref u1, .ref u2, .long uo, .int ur])), (u1, .inl (G.2 1, 384, .inr (.inl uk))), (u2, .inl (G.2 1, 40, .inr (.inl uw))), (v0, .inr (4, [.ref b0, .ref v1, .ref v2, .long vo, .int vr])), (v1, .inl (G.2 1, 384, .inr (.inl vk))), (v2, .inl (G.2 1, 40, .inr (.inl vw))), (b0, .inr (3, [.ref b1, .ref b2, .ref b3, .ref b4, .ref b5, .ref b6, .int bn])), (b1, .inl (G.2 0, 40, .inl kf)), (b2, .inl (G.2 0, 40, .inl ff)), (b3, .inl (G.2 0, 40, .inl sf)), (b4, .inl (G.2 0, 40, .inl df)), (b5, .inl (G.2 1, 40, .inr (.inl pf))), (b6, .inl (G.2 1, 6, .inr (.inl gf)))] sz) [(x0, .inr (5, [.ref b0, .ref s0, .ref u0, .ref v0, .int tA, .int wP, .int nT, .int aK, .int lK, .int sW, .int rF])), (s0, .inr (4, [.ref b0, .ref s1, .ref s2, .long op, .int re])), (s1, .inl (G.2 1, 384, .inr (.inl dk))), (s2, .inl (G.2 1, 40, .inr (.inl wg))), (u0, .inr (4, [.ref b0, .ref u1, .ref u2, .long uo, .int ur])), (u1, .inl (G.2 1, 384, .inr (.inl uk))), (u2, .inl (G.2 1, 40, .inr (.inl uw))), (v0, .inr (4, [.ref b0, .ref v1, .ref v2, .long vo, .int vr])), (v1, .inl (G.2 1, 384, .inr (.inl vk))), (v2, .inl (G.2 1, 40, .inr (.inl vw))), (b0, .inr (3, [.ref b1, .ref b2, .ref b3, .ref b4, .ref b5, .ref b6, .int bn])), (b1, .inl (G.2 0, 40, .inl kf)), (b2, .inl (G.2 0, 40, .inl ff)), (b3, .inl (G.2 0, 40, .inl sf)), (b4, .inl (G.2 0, 40, .inl df)), (b5, .inl (G.2 1, 40, .inr (.inl pf))), (b6, .inl (G.2 1, 6, .inr (.inl gf)))] ∧ postx E) (va_A [(x0, .inr (5, [.ref b0, .ref s0, .ref u0, .ref v0, .int tA, .int wP, .int nT, .int aK, .int lK, .int sW, .int rF])), (s0, .inr (4, [.ref b0, .ref s1, .ref s2, .long op, .int re])), (s1, .inl (G.2 1, 384, .inr (.inl dk))), (s2, .inl (G.2 1, 40, .inr (.inl wg))), (u0, .inr (4, [.ref b0, .ref u1, .ref u2, .long uo, .int ur])), (u1, .inl (G.2 1, 384, .inr (.inl uk))), (u2, .inl (G.2 1, 40, .inr (.inl uw))), (v0, .inr (4, [.ref b0, .ref v1, .ref v2, .long vo, .int vr])), (v1, .inl (G.2 1, 384, .inr (.inl vk))), (v2, .inl (G.2 1, 40, .inr (.inl vw))), (b0, .inr (3, [.ref b1, .ref b2, .ref b3, .ref b4, .ref b5, .ref b6, .int bn])), (b1, .inl (G.2 0, 40, .inl kf)), (b2, .inl (G.2 0, 40, .inl ff)), (b3, .inl (G.2 0, 40, .inl sf)), (b4, .inl (G.2 0, 40, .inl df)), (b5, .inl (G.2 1, 40, .inr (.inl pf))), (b6, .inl (G.2 1, 6, .inr (.inl gf)))] sz)) 1 6 (va_A [(x0, .inr (5, [.ref b0, .ref s0, .ref u0, .ref v0, .int tA, .int wP, .int nT, .int aK, .int lK, .int sW, .int rF])), (s0, .inr (4, [.ref b0, .ref s1, .ref s2, .long op, .int re])), (s1, .inl (G.2 1, 384, .inr (.inl dk))), (s2, .inl (G.2 1, 40, .inr (.inl wg))), (u0, .inr (4, [.ref b0, .ref u1, .ref u2, .long uo, .int ur])), (u1, .inl (G.2 1, 384, .inr (.inl uk))), (u2, .inl (G.2 1, 40, .inr (.inl uw))), (v0, .inr (4, [.ref b0, .ref v1, .ref v2, .long vo, .int vr])), (v1, .inl (G.2 1, 384, .inr (.inl vk))), (v2, .inl (G.2 1, 40, .inr (.inl vw))), (b0, .inr (3, [.ref b1, .ref b2, .ref b3, .ref b4, .ref b5, .ref b6, .int bn])), (b1, .inl (G.2 0, 40, .inl kf)), (b2, .inl (G.2 0, 40, .inl ff)), (b3, .inl (G.2 0, 40, .inl sf)), (b4, .inl (G.2 0, 40, .inl df)), (b5, .inl (G.2 1, 40, .inr (.inl pf))), (b6, .inl (G.2 1, 6, .inr (.inl gf)))] sz) := by
  refine vx_ofW (cc := cX2_wit) (maxL := 3) (ret := (some .double)) (by decide) rfl ?_
  intro p e s m args below meth c s₁ B hml hT hv
  obtain ⟨rfl, hsz, hP, hKK, hD0, hZ⟩ := hv
  obtain ⟨hK, hN, hR, hFW, hNC⟩ := id hKK
  have hx := B.exec
  have hb := B.bytes
  have hr := B.returns
  have hts0 := atoms_spec (ws := wl_xX2_wit) B.pre
  have hts : ∀ w ∈ lwg, w.before ([.ref x0, .int p1] : List Value).toArray s = true := fun w hw => hts0 w (List.mem_cons_of_mem _ hw)
  have hown : s.vm.findClass RX2 = some m.cls := findClass_of_methodNamed B.named
  have hlocks := B.notSynchronized
  subst hsz
  have hD := hD0.self (sz := s.heap.size)
  generalize hAe : va_A [(x0, .inr (5, [.ref b0, .ref s0, .ref u0, .ref v0, .int tA, .int wP, .int nT, .int aK, .int lK, .int sW, .int rF])), (s0, .inr (4, [.ref b0, .ref s1, .ref s2, .long op, .int re])), (s1, .inl (G.2 1, 384, .inr (.inl dk))), (s2, .inl (G.2 1, 40, .inr (.inl wg))), (u0, .inr (4, [.ref b0, .ref u1, .ref u2, .long uo, .int ur])), (u1, .inl (G.2 1, 384, .inr (.inl uk))), (u2, .inl (G.2 1, 40, .inr (.inl uw))), (v0, .inr (4, [.ref b0, .ref v1, .ref v2, .long vo, .int vr])), (v1, .inl (G.2 1, 384, .inr (.inl vk))), (v2, .inl (G.2 1, 40, .inr (.inl vw))), (b0, .inr (3, [.ref b1, .ref b2, .ref b3, .ref b4, .ref b5, .ref b6, .int bn])), (b1, .inl (G.2 0, 40, .inl kf)), (b2, .inl (G.2 0, 40, .inl ff)), (b3, .inl (G.2 0, 40, .inl sf)), (b4, .inl (G.2 0, 40, .inl df)), (b5, .inl (G.2 1, 40, .inr (.inl pf))), (b6, .inl (G.2 1, 6, .inr (.inl gf)))] s.heap.size = A at hD hZ ⊢
  have hA : ∀ q : Nat, s.heap.size ≤ q → A q := fun q h => by rw [← hAe]; exact Or.inr h
  have hS : va_S A s.heap s.heap [] := va_S.rf
  obtain ⟨QC, hQC⟩ : ∃ Z, Z = (va_Qd post (fun u t => PP G [(x0, .inr (5, [.ref b0, .ref s0, .ref u0, .ref v0, .int tA, .int wP, .int nT, .int aK, .int lK, .int sW, .int rF])), (s0, .inr (4, [.ref b0, .ref s1, .ref s2, .long op, .int re])), (s1, .inl (G.2 1, 384, .inr (.inl dk))), (s2, .inl (G.2 1, 40, .inr (.inl wg))), (u0, .inr (4, [.ref b0, .ref u1, .ref u2, .long uo, .int ur])), (u1, .inl (G.2 1, 384, .inr (.inl uk))), (u2, .inl (G.2 1, 40, .inr (.inl uw))), (v0, .inr (4, [.ref b0, .ref v1, .ref v2, .long vo, .int vr])), (v1, .inl (G.2 1, 384, .inr (.inl vk))), (v2, .inl (G.2 1, 40, .inr (.inl vw))), (b0, .inr (3, [.ref b1, .ref b2, .ref b3, .ref b4, .ref b5, .ref b6, .int bn])), (b1, .inl (G.2 0, 40, .inl kf)), (b2, .inl (G.2 0, 40, .inl ff)), (b3, .inl (G.2 0, 40, .inl sf)), (b4, .inl (G.2 0, 40, .inl df)), (b5, .inl (G.2 1, 40, .inr (.inl pf))), (b6, .inl (G.2 1, 6, .inr (.inl gf)))] t.heap ∧ va_D A [(x0, .inr (5, [.ref b0, .ref s0, .ref u0, .ref v0, .int tA, .int wP, .int nT, .int aK, .int lK, .int sW, .int rF])), (s0, .inr (4, [.ref b0, .ref s1, .ref s2, .long op, .int re])), (s1, .inl (G.2 1, 384, .inr (.inl dk))), (s2, .inl (G.2 1, 40, .inr (.inl wg))), (u0, .inr (4, [.ref b0, .ref u1, .ref u2, .long uo, .int ur])), (u1, .inl (G.2 1, 384, .inr (.inl uk))), (u2, .inl (G.2 1, 40, .inr (.inl uw))), (v0, .inr (4, [.ref b0, .ref v1, .ref v2, .long vo, .int vr])), (v1, .inl (G.2 1, 384, .inr (.inl vk))), (v2, .inl (G.2 1, 40, .inr (.inl vw))), (b0, .inr (3, [.ref b1, .ref b2, .ref b3, .ref b4, .ref b5, .ref b6, .int bn])), (b1, .inl (G.2 0, 40, .inl kf)), (b2, .inl (G.2 0, 40, .inl ff)), (b3, .inl (G.2 0, 40, .inl sf)), (b4, .inl (G.2 0, 40, .inl df)), (b5, .inl (G.2 1, 40, .inr (.inl pf))), (b6, .inl (G.2 1, 6, .inr (.inl gf)))]) A) := ⟨_, rfl⟩
  rw [← hQC]
  obtain ⟨XC, hXC⟩ : ∃ Z, Z = (vx_X (fun _ : Unit => True) (fun E _ t => PP G [(x0, .inr (5, [.ref b0, .ref s0, .ref u0, .ref v0, .int tA, .int wP, .int nT, .int aK, .int lK, .int sW, .int rF])), (s0, .inr (4, [.ref b0, .ref s1, .ref s2, .long op, .int re])), (s1, .inl (G.2 1, 384, .inr (.inl dk))), (s2, .inl (G.2 1, 40, .inr (.inl wg))), (u0, .inr (4, [.ref b0, .ref u1, .ref u2, .long uo, .int ur])), (u1, .inl (G.2 1, 384, .inr (.inl uk))), (u2, .inl (G.2 1, 40, .inr (.inl uw))), (v0, .inr (4, [.ref b0, .ref v1, .ref v2, .long vo, .int vr])), (v1, .inl (G.2 1, 384, .inr (.inl vk))), (v2, .inl (G.2 1, 40, .inr (.inl vw))), (b0, .inr (3, [.ref b1, .ref b2, .ref b3, .ref b4, .ref b5, .ref b6, .int bn])), (b1, .inl (G.2 0, 40, .inl kf)), (b2, .inl (G.2 0, 40, .inl ff)), (b3, .inl (G.2 0, 40, .inl sf)), (b4, .inl (G.2 0, 40, .inl df)), (b5, .inl (G.2 1, 40, .inr (.inl pf))), (b6, .inl (G.2 1, 6, .inr (.inl gf)))] t.heap ∧ va_D A [(x0, .inr (5, [.ref b0, .ref s0, .ref u0, .ref v0, .int tA, .int wP, .int nT, .int aK, .int lK, .int sW, .int rF])), (s0, .inr (4, [.ref b0, .ref s1, .ref s2, .long op, .int re])), (s1, .inl (G.2 1, 384, .inr (.inl dk))), (s2, .inl (G.2 1, 40, .inr (.inl wg))), (u0, .inr (4, [.ref b0, .ref u1, .ref u2, .long uo, .int ur])), (u1, .inl (G.2 1, 384, .inr (.inl uk))), (u2, .inl (G.2 1, 40, .inr (.inl uw))), (v0, .inr (4, [.ref b0, .ref v1, .ref v2, .long vo, .int vr])), (v1, .inl (G.2 1, 384, .inr (.inl vk))), (v2, .inl (G.2 1, 40, .inr (.inl vw))), (b0, .inr (3, [.ref b1, .ref b2, .ref b3, .ref b4, .ref b5, .ref b6, .int bn])), (b1, .inl (G.2 0, 40, .inl kf)), (b2, .inl (G.2 0, 40, .inl ff)), (b3, .inl (G.2 0, 40, .inl sf)), (b4, .inl (G.2 0, 40, .inl df)), (b5, .inl (G.2 1, 40, .inr (.inl pf))), (b6, .inl (G.2 1, 6, .inr (.inl gf)))] ∧ postx E) A) := ⟨_, rfl⟩
  rw [← hXC]
  obtain ⟨⟨zt, hZ1, hT1⟩, hZ2⟩ := id hZ
  have hP : PP G [(x0, .inr (5, [.ref b0, .ref s0, .ref u0, .ref v0, .int tA, .int wP, .int nT, .int aK, .int lK, .int sW, .int rF])), (s0, .inr (4, [.ref b0, .ref s1, .ref s2, .long op, .int re])), (s1, .inl (G.2 1, 384, .inr (.inl dk))), (s2, .inl (G.2 1, 40, .inr (.inl wg))), (u0, .inr (4, [.ref b0, .ref u1, .ref u2, .long uo, .int ur])), (u1, .inl (G.2 1, 384, .inr (.inl uk))), (u2, .inl (G.2 1, 40, .inr (.inl uw))), (v0, .inr (4, [.ref b0, .ref v1, .ref v2, .long vo, .int vr])), (v1, .inl (G.2 1, 384, .inr (.inl vk))), (v2, .inl (G.2 1, 40, .inr (.inl vw))), (b0, .inr (3, [.ref b1, .ref b2, .ref b3, .ref b4, .ref b5, .ref b6, .int bn])), (b1, .inl (G.2 0, 40, .inl kf)), (b2, .inl (G.2 0, 40, .inl ff)), (b3, .inl (G.2 0, 40, .inl sf)), (b4, .inl (G.2 0, 40, .inl df)), (b5, .inl (G.2 1, 40, .inr (.inl pf))), (b6, .inl (G.2 1, 6, .inr (.inl gf)))] s.heap := hP
  have hl := lv_entry ([.ref x0, .int p1]) (n := 3) (Nat.le_of_ble_eq_true rfl)
  rw [lg_entry_eq]
  generalize (lg_sl ([.ref x0, .int p1]) ++ List.replicate (3 - (lg_sl ([.ref x0, .int p1])).length) Slot.unset).toArray = ls at hl ⊢
  have hl : lv_has ls 3 [(0, .ref x0), (1, .int p1)] := hl
  refine lv_iload_n hx hb dX2_wit_0 rfl (lv_at hl 1 rfl) ?_
  have hPc := va_P.sub (ws' := []) hP [] rfl
  refine rdI (va_runS (As := [.int p1]) (rest := []) ⟨hx, hb, hml, hown, hts⟩ (kX2_isGuard l G p1 h) (va_cwS 1 hts (gdS q346 q347 q1 q348) rfl rfl rfl (by decide +kernel) ⟨Nat.le_of_ble_eq_true rfl, Nat.le_of_ble_eq_true rfl⟩) (preS hPc hKK) rfl rfl hl.1 rfl (lv_room (Nat.le_of_ble_eq_true rfl)) dX2_wit_1 ⟨Nat.zero_le _, Nat.zero_le _⟩) (fun r_1 h => ?_)
  refine lv_if_ne (tgt := 17) hx hb dX2_wit_4 (by decide) (fun hc => ?_) (fun hc => ?_)
  · have h := h.1 hc
    refine lv_aload_n hx hb dX2_wit_17 rfl (lv_at hl 0 rfl) ?_
    refine va_get (D := G.1) (ci := 5) (v := .ref b0) (C := RX2) (T := TX2) (N := 11) hx hb hts igX2 hown hK hP 0 rfl rfl 0 (by decide) (hts _ q176) (fun _ h9 => h9) rfl dX2_wit_18 ?_
    have hPc := va_P.sub (ws' := [(b0, .inr (3, [.ref b1, .ref b2, .ref b3, .ref b4, .ref b5, .ref b6, .int bn])), (b1, .inl (G.2 0, 40, .inl kf)), (b2, .inl (G.2 0, 40, .inl ff)), (b3, .inl (G.2 0, 40, .inl sf)), (b4, .inl (G.2 0, 40, .inl df)), (b5, .inl (G.2 1, 40, .inr (.inl pf))), (b6, .inl (G.2 1, 6, .inr (.inl gf)))]) hP [10, 11, 12, 13, 14, 15, 16] rfl
    refine rdI (va_runV (C := RX0) (As := []) (rest := []) ⟨hx, hb, hml, hown, hts⟩ (kX0_count l G b0 b1 b2 b3 b4 b5 b6 kf ff sf df pf gf bn h) (cwV 0 hts (gdV q223 q224 q225 q2 q226) rfl rfl rfl (by decide +kernel) ⟨Nat.le_of_ble_eq_true rfl, Nat.le_of_ble_eq_true rfl⟩) (preV hPc hKK (va_recv hK hPc (ci := 3) (q0 := 0) rfl rfl)) rfl rfl hl.1 rfl (lv_room (Nat.le_of_ble_eq_true rfl)) dX2_wit_21 ⟨Nat.zero_le _, Nat.zero_le _⟩) (fun r_2 h => ?_)
    refine lv_istore_n hx hb dX2_wit_24 rfl hl (Nat.le_of_ble_eq_true rfl) rfl (fun ls hl => ?_)
    have hl : lv_has ls 3 [(2, .int r_2), (0, .ref x0), (1, .int p1)] := hl
    refine lv_iload_n hx hb dX2_wit_25 rfl (lv_at hl 0 rfl) ?_
    refine lv_if_ne (tgt := 31) hx hb dX2_wit_26 (by decide) (fun hc => ?_) (fun hc => ?_)
    · have h := h.1 hc
      refine lv_aload_n hx hb dX2_wit_31 rfl (lv_at hl 1 rfl) ?_
      refine va_get (D := G.1) (ci := 5) (v := .ref s0) (C := RX2) (T := TX2) (N := 11) hx hb hts igX2 hown hK hP 0 rfl rfl 1 (by decide) (hts _ q177) (fun _ h9 => h9) rfl dX2_wit_32 ?_
      refine lv_iload_n hx hb dX2_wit_35 rfl (lv_at hl 2 rfl) ?_
      have hPc := va_P.sub (ws' := [(s0, .inr (4, [.ref b0, .ref s1, .ref s2, .long op, .int re])), (s1, .inl (G.2 1, 384, .inr (.inl dk))), (s2, .inl (G.2 1, 40, .inr (.inl wg))), (b0, .inr (3, [.ref b1, .ref b2, .ref b3, .ref b4, .ref b5, .ref b6, .int bn])), (b1, .inl (G.2 0, 40, .inl kf)), (b2, .inl (G.2 0, 40, .inl ff)), (b3, .inl (G.2 0, 40, .inl sf)), (b4, .inl (G.2 0, 40, .inl df)), (b5, .inl (G.2 1, 40, .inr (.inl pf))), (b6, .inl (G.2 1, 6, .inr (.inl gf)))]) hP [1, 2, 3, 10, 11, 12, 13, 14, 15, 16] rfl
      refine rdI (va_runV (C := RX1) (As := [.int p1]) (rest := []) ⟨hx, hb, hml, hown, hts⟩ (kX1_countKnownBy l G s0 s1 s2 b0 b1 b2 b3 b4 b5 b6 dk wg op re kf ff sf df pf gf bn p1 h) (cwV 1 hts (gdV q374 q375 q376 q3 q377) rfl rfl rfl (by decide +kernel) ⟨Nat.le_of_ble_eq_true rfl, Nat.le_of_ble_eq_true rfl⟩) (preV hPc hKK (va_recv hK hPc (ci := 4) (q0 := 0) rfl rfl)) rfl rfl hl.1 rfl (lv_room (Nat.le_of_ble_eq_true rfl)) dX2_wit_36 ⟨Nat.zero_le _, Nat.zero_le _⟩) (fun r_3 h => ?_)
      refine lv_i2d hx hb dX2_wit_39 ?_
      refine lv_iload_n hx hb dX2_wit_40 rfl (lv_at hl 0 rfl) ?_
      refine lv_i2d hx hb dX2_wit_41 ?_
      obtain ⟨hnn, h⟩ := h
      refine lv_ddiv hx hb dX2_wit_42 hnn ?_
      refine vx_ret (W.widen (k := 1) (n := 6) (Nat.le_of_ble_eq_true rfl) (Nat.le_of_ble_eq_true rfl) ?_)
      subst hQC; exact W.dret (v := (FP.ddiv (FP.i2d r_3) (FP.i2d r_2))) hx hb hr (fun t ht hW => ⟨⟨_, (), rfl, h, by rw [ht]; exact hP, hD⟩, hS.F ht⟩) hS.2.2 dX2_wit_43
    · have h := h.2 hc
      refine lv_dconst0 hx hb dX2_wit_29 ?_
      refine vx_ret (W.widen (k := 1) (n := 6) (Nat.le_of_ble_eq_true rfl) (Nat.le_of_ble_eq_true rfl) ?_)
      subst hQC; exact W.dret (v := FP.dconst0) hx hb hr (fun t ht hW => ⟨⟨_, (), rfl, h, by rw [ht]; exact hP, hD⟩, hS.F ht⟩) hS.2.2 dX2_wit_30
  · have h := h.2 hc
    obtain ⟨sa, hsa⟩ := hR.1 ("NightdeskRota", 144, "no such guard") (List.mem_of_getElem? (i := 1) rfl)
    subst hXC
    exact vx_throwS (names := rtx) (text := "no such guard") (sa := sa) hx hb hfl hown (by decide +kernel) (by decide +kernel) (hts _ q349) (hts _ q22) hsa (hatX hat87a hat87b hts hN hZ) hgd87 hZ.2.1 hZ.2.2 hS (hl.1.trans hml.symm) dX2_wit_7 dX2_wit_10 dX2_wit_11 dX2_wit_13 dX2_wit_16 (fun x hx => (hT x hx).elim) (Nat.le_of_ble_eq_true rfl) (Nat.le_of_ble_eq_true rfl) (Nat.le_of_ble_eq_true rfl) (Nat.le_of_ble_eq_true rfl) hlocks (fun t ht h1 h2 => ⟨(), trivial, ⟨keepAll hP h2, hD, h⟩, h1, fun q hq _ => h2 q hq⟩) hS.2.2 (Nat.le_refl _) (Nat.le_refl _)
def wnX2_wit (post : UInt64 → Prop) (dk : Nat → Int64) (wg : Nat → Int64) (op : Int64) (re : Int32) (bn : Int32) (p1 : Int32) : Prop :=
  wX2_isGuard (fun r_1 : Int32 =>
    ((¬ r_1 = 0) →
      wX0_count (fun r_2 : Int32 =>
        ((¬ r_2 = 0) →
          wX1_countKnownBy (fun r_3 : Int32 =>
            vf_n64 (FP.ddiv (FP.i2d r_3) (FP.i2d r_2)) ∧
            post (FP.ddiv (FP.i2d r_3) (FP.i2d r_2))
            ) dk wg op re bn p1
        ) ∧ ((r_2 = 0) →
          post (FP.dconst0)
        )
        ) bn
    ) ∧ ((r_1 = 0) →
      False
    )
    ) p1
abbrev wl_nX2_wit : List Cond := .code yX2_wit cX2_wit 3 (some .double) :: lwg
abbrev rm_nX2_wit : Room := { frames := 4, cells := 0, slots := 0, locals := 87 }
set_option maxHeartbeats 4000000 in
set_option maxRecDepth 100000 in
theorem knX2_wit {post : UInt64 → Prop} (l : Launch) (G : GT) (x0 : Nat) (s0 : Nat) (s1 : Nat) (s2 : Nat) (u0 : Nat) (u1 : Nat) (u2 : Nat) (v0 : Nat) (v1 : Nat) (v2 : Nat) (b0 : Nat) (b1 : Nat) (b2 : Nat) (b3 : Nat) (b4 : Nat) (b5 : Nat) (b6 : Nat) (tA : Int32) (wP : Int32) (nT : Int32) (aK : Int32) (lK : Int32) (sW : Int32) (rF : Int32) (dk : Nat → Int64) (wg : Nat → Int64) (op : Int64) (re : Int32) (uk : Nat → Int64) (uw : Nat → Int64) (uo : Int64) (ur : Int32) (vk : Nat → Int64) (vw : Nat → Int64) (vo : Int64) (vr : Int32) (kf : Nat → Int32) (ff : Nat → Int32) (sf : Nat → Int32) (df : Nat → Int32) (pf : Nat → Int64) (gf : Nat → Int64) (bn : Int32) (p1 : Int32) (h : wnX2_wit post dk wg op re bn p1) : Met l yX2_wit wl_nX2_wit rm_nX2_wit (va_Pc [.ref x0, .int p1] (fun U => PP G [(x0, .inr (5, [.ref b0, .ref s0, .ref u0, .ref v0, .int tA, .int wP, .int nT, .int aK, .int lK, .int sW, .int rF])), (s0, .inr (4, [.ref b0, .ref s1, .ref s2, .long op, .int re])), (s1, .inl (G.2 1, 384, .inr (.inl dk))), (s2, .inl (G.2 1, 40, .inr (.inl wg))), (u0, .inr (4, [.ref b0, .ref u1, .ref u2, .long uo, .int ur])), (u1, .inl (G.2 1, 384, .inr (.inl uk))), (u2, .inl (G.2 1, 40, .inr (.inl uw))), (v0, .inr (4, [.ref b0, .ref v1, .ref v2, .long vo, .int vr])), (v1, .inl (G.2 1, 384, .inr (.inl vk))), (v2, .inl (G.2 1, 40, .inr (.inl vw))), (b0, .inr (3, [.ref b1, .ref b2, .ref b3, .ref b4, .ref b5, .ref b6, .int bn])), (b1, .inl (G.2 0, 40, .inl kf)), (b2, .inl (G.2 0, 40, .inl ff)), (b3, .inl (G.2 0, 40, .inl sf)), (b4, .inl (G.2 0, 40, .inl df)), (b5, .inl (G.2 1, 40, .inr (.inl pf))), (b6, .inl (G.2 1, 6, .inr (.inl gf)))] U.heap ∧ KK G U)) (vp_Sd post) 0 0 (fun _ => False) := by
  refine Met.ofW (cc := cX2_wit) (maxL := 3) (ret := (some .double)) (by decide) rfl ?_
  intro p e s m args below meth c s₁ B hml hv
  obtain ⟨rfl, hP, hKK⟩ := hv
  obtain ⟨hK, hN, hR, hFW, hNC⟩ := id hKK
  have hx := B.exec
  have hb := B.bytes
  have hr := B.returns
  have hts0 := atoms_spec (ws := wl_nX2_wit) B.pre
  have hts : ∀ w ∈ lwg, w.before ([.ref x0, .int p1] : List Value).toArray s = true := fun w hw => hts0 w (List.mem_cons_of_mem _ hw)
  have hown : s.vm.findClass RX2 = some m.cls := findClass_of_methodNamed B.named
  have hlocks := B.notSynchronized
  have hP : PP G [(x0, .inr (5, [.ref b0, .ref s0, .ref u0, .ref v0, .int tA, .int wP, .int nT, .int aK, .int lK, .int sW, .int rF])), (s0, .inr (4, [.ref b0, .ref s1, .ref s2, .long op, .int re])), (s1, .inl (G.2 1, 384, .inr (.inl dk))), (s2, .inl (G.2 1, 40, .inr (.inl wg))), (u0, .inr (4, [.ref b0, .ref u1, .ref u2, .long uo, .int ur])), (u1, .inl (G.2 1, 384, .inr (.inl uk))), (u2, .inl (G.2 1, 40, .inr (.inl uw))), (v0, .inr (4, [.ref b0, .ref v1, .ref v2, .long vo, .int vr])), (v1, .inl (G.2 1, 384, .inr (.inl vk))), (v2, .inl (G.2 1, 40, .inr (.inl vw))), (b0, .inr (3, [.ref b1, .ref b2, .ref b3, .ref b4, .ref b5, .ref b6, .int bn])), (b1, .inl (G.2 0, 40, .inl kf)), (b2, .inl (G.2 0, 40, .inl ff)), (b3, .inl (G.2 0, 40, .inl sf)), (b4, .inl (G.2 0, 40, .inl df)), (b5, .inl (G.2 1, 40, .inr (.inl pf))), (b6, .inl (G.2 1, 6, .inr (.inl gf)))] s.heap := hP
  have hl := lv_entry ([.ref x0, .int p1]) (n := 3) (Nat.le_of_ble_eq_true rfl)
  rw [lg_entry_eq]
  generalize (lg_sl ([.ref x0, .int p1]) ++ List.replicate (3 - (lg_sl ([.ref x0, .int p1])).length) Slot.unset).toArray = ls at hl ⊢
  have hl : lv_has ls 3 [(0, .ref x0), (1, .int p1)] := hl
  refine lv_iload_n hx hb dX2_wit_0 rfl (lv_at hl 1 rfl) ?_
  have hPc := va_P.sub (ws' := []) hP [] rfl
  refine rdI (va_runS (As := [.int p1]) (rest := []) ⟨hx, hb, hml, hown, hts⟩ (kX2_isGuard l G p1 h) (va_cwS 1 hts (gdS q346 q347 q1 q348) rfl rfl rfl (by decide +kernel) ⟨Nat.le_of_ble_eq_true rfl, Nat.le_of_ble_eq_true rfl⟩) (preS hPc hKK) rfl rfl hl.1 rfl (lv_room (Nat.le_of_ble_eq_true rfl)) dX2_wit_1 ⟨Nat.zero_le _, Nat.zero_le _⟩) (fun r_1 h => ?_)
  refine lv_if_ne (tgt := 17) hx hb dX2_wit_4 (by decide) (fun hc => ?_) (fun hc => ?_)
  · have h := h.1 hc
    refine lv_aload_n hx hb dX2_wit_17 rfl (lv_at hl 0 rfl) ?_
    refine va_get (D := G.1) (ci := 5) (v := .ref b0) (C := RX2) (T := TX2) (N := 11) hx hb hts igX2 hown hK hP 0 rfl rfl 0 (by decide) (hts _ q176) (fun _ h9 => h9) rfl dX2_wit_18 ?_
    have hPc := va_P.sub (ws' := [(b0, .inr (3, [.ref b1, .ref b2, .ref b3, .ref b4, .ref b5, .ref b6, .int bn])), (b1, .inl (G.2 0, 40, .inl kf)), (b2, .inl (G.2 0, 40, .inl ff)), (b3, .inl (G.2 0, 40, .inl sf)), (b4, .inl (G.2 0, 40, .inl df)), (b5, .inl (G.2 1, 40, .inr (.inl pf))), (b6, .inl (G.2 1, 6, .inr (.inl gf)))]) hP [10, 11, 12, 13, 14, 15, 16] rfl
    refine rdI (va_runV (C := RX0) (As := []) (rest := []) ⟨hx, hb, hml, hown, hts⟩ (kX0_count l G b0 b1 b2 b3 b4 b5 b6 kf ff sf df pf gf bn h) (cwV 0 hts (gdV q223 q224 q225 q2 q226) rfl rfl rfl (by decide +kernel) ⟨Nat.le_of_ble_eq_true rfl, Nat.le_of_ble_eq_true rfl⟩) (preV hPc hKK (va_recv hK hPc (ci := 3) (q0 := 0) rfl rfl)) rfl rfl hl.1 rfl (lv_room (Nat.le_of_ble_eq_true rfl)) dX2_wit_21 ⟨Nat.zero_le _, Nat.zero_le _⟩) (fun r_2 h => ?_)
    refine lv_istore_n hx hb dX2_wit_24 rfl hl (Nat.le_of_ble_eq_true rfl) rfl (fun ls hl => ?_)
    have hl : lv_has ls 3 [(2, .int r_2), (0, .ref x0), (1, .int p1)] := hl
    refine lv_iload_n hx hb dX2_wit_25 rfl (lv_at hl 0 rfl) ?_
    refine lv_if_ne (tgt := 31) hx hb dX2_wit_26 (by decide) (fun hc => ?_) (fun hc => ?_)
    · have h := h.1 hc
      refine lv_aload_n hx hb dX2_wit_31 rfl (lv_at hl 1 rfl) ?_
      refine va_get (D := G.1) (ci := 5) (v := .ref s0) (C := RX2) (T := TX2) (N := 11) hx hb hts igX2 hown hK hP 0 rfl rfl 1 (by decide) (hts _ q177) (fun _ h9 => h9) rfl dX2_wit_32 ?_
      refine lv_iload_n hx hb dX2_wit_35 rfl (lv_at hl 2 rfl) ?_
      have hPc := va_P.sub (ws' := [(s0, .inr (4, [.ref b0, .ref s1, .ref s2, .long op, .int re])), (s1, .inl (G.2 1, 384, .inr (.inl dk))), (s2, .inl (G.2 1, 40, .inr (.inl wg))), (b0, .inr (3, [.ref b1, .ref b2, .ref b3, .ref b4, .ref b5, .ref b6, .int bn])), (b1, .inl (G.2 0, 40, .inl kf)), (b2, .inl (G.2 0, 40, .inl ff)), (b3, .inl (G.2 0, 40, .inl sf)), (b4, .inl (G.2 0, 40, .inl df)), (b5, .inl (G.2 1, 40, .inr (.inl pf))), (b6, .inl (G.2 1, 6, .inr (.inl gf)))]) hP [1, 2, 3, 10, 11, 12, 13, 14, 15, 16] rfl
      refine rdI (va_runV (C := RX1) (As := [.int p1]) (rest := []) ⟨hx, hb, hml, hown, hts⟩ (kX1_countKnownBy l G s0 s1 s2 b0 b1 b2 b3 b4 b5 b6 dk wg op re kf ff sf df pf gf bn p1 h) (cwV 1 hts (gdV q374 q375 q376 q3 q377) rfl rfl rfl (by decide +kernel) ⟨Nat.le_of_ble_eq_true rfl, Nat.le_of_ble_eq_true rfl⟩) (preV hPc hKK (va_recv hK hPc (ci := 4) (q0 := 0) rfl rfl)) rfl rfl hl.1 rfl (lv_room (Nat.le_of_ble_eq_true rfl)) dX2_wit_36 ⟨Nat.zero_le _, Nat.zero_le _⟩) (fun r_3 h => ?_)
      refine lv_i2d hx hb dX2_wit_39 ?_
      refine lv_iload_n hx hb dX2_wit_40 rfl (lv_at hl 0 rfl) ?_
      refine lv_i2d hx hb dX2_wit_41 ?_
      obtain ⟨hnn, h⟩ := h
      refine lv_ddiv hx hb dX2_wit_42 hnn ?_
      exact W.dret (v := (FP.ddiv (FP.i2d r_3) (FP.i2d r_2))) hx hb hr (fun t ht _ => ⟨_, rfl, h, ht⟩) (fun _ hq => absurd hq List.not_mem_nil) dX2_wit_43
    · have h := h.2 hc
      refine lv_dconst0 hx hb dX2_wit_29 ?_
      exact W.dret (v := FP.dconst0) hx hb hr (fun t ht _ => ⟨_, rfl, h, ht⟩) (fun _ hq => absurd hq List.not_mem_nil) dX2_wit_30
  · have h := h.2 hc
    exact False.elim h
