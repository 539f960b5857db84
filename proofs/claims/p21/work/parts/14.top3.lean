theorem q178 : (Cond.fieldLink RX2 25 "NightdeskRota" "once" "LNightdeskRota$Scene;") ∈ lwg := lwgR 178 (by decide +kernel) (by decide +kernel)
theorem q179 : (Cond.fieldLink RX2 28 "NightdeskRota" "twice" "LNightdeskRota$Scene;") ∈ lwg := lwgR 179 (by decide +kernel) (by decide +kernel)
theorem q215 : (Cond.instanceMethod yX2_possible) ∈ lwg := lwgR 215 (by decide +kernel) (by decide +kernel)
theorem q216 : (Cond.selects RX2 yX2_possible yX2_possible) ∈ lwg := lwgR 216 (by decide +kernel) (by decide +kernel)
theorem q217 : (Cond.code yX2_possible cX2_possible 1 (some .long)) ∈ lwg := lwgR 217 (by decide +kernel) (by decide +kernel)
theorem q219 : (Cond.instanceMethod yX2_isSound) ∈ lwg := lwgR 219 (by decide +kernel) (by decide +kernel)
theorem q220 : (Cond.selects RX2 yX2_isSound yX2_isSound) ∈ lwg := lwgR 220 (by decide +kernel) (by decide +kernel)
theorem q221 : (Cond.code yX2_isSound cX2_isSound 2 (some .boolean)) ∈ lwg := lwgR 221 (by decide +kernel) (by decide +kernel)
theorem q247 : (Cond.constantLong RX2 270 (6121)) ∈ lwg := lwgR 247 (by decide +kernel) (by decide +kernel)
theorem q248 : (Cond.constantLong RX2 272 (31)) ∈ lwg := lwgR 248 (by decide +kernel) (by decide +kernel)
theorem q249 : (Cond.methodLink RX2 274 yX2_night) ∈ lwg := lwgR 249 (by decide +kernel) (by decide +kernel)
theorem q250 : (Cond.instanceMethod yX2_night) ∈ lwg := lwgR 250 (by decide +kernel) (by decide +kernel)
theorem q251 : (Cond.selects RX2 yX2_night yX2_night) ∈ lwg := lwgR 251 (by decide +kernel) (by decide +kernel)
theorem q252 : (Cond.code yX2_night cX2_night 2 (some .int)) ∈ lwg := lwgR 252 (by decide +kernel) (by decide +kernel)
theorem q341 : (Cond.methodLink RX2 277 yX2_possible) ∈ lwg := lwgR 341 (by decide +kernel) (by decide +kernel)
theorem q342 : (Cond.methodLink RX2 280 yX2_ofGuard) ∈ lwg := lwgR 342 (by decide +kernel) (by decide +kernel)
theorem q343 : (Cond.instanceMethod yX2_ofGuard) ∈ lwg := lwgR 343 (by decide +kernel) (by decide +kernel)
theorem q344 : (Cond.selects RX2 yX2_ofGuard yX2_ofGuard) ∈ lwg := lwgR 344 (by decide +kernel) (by decide +kernel)
theorem q345 : (Cond.code yX2_ofGuard cX2_ofGuard 3 (some .int)) ∈ lwg := lwgR 345 (by decide +kernel) (by decide +kernel)
theorem q387 : (Cond.methodLink RX2 284 yX2_alike) ∈ lwg := lwgR 387 (by decide +kernel) (by decide +kernel)
theorem q388 : (Cond.instanceMethod yX2_alike) ∈ lwg := lwgR 388 (by decide +kernel) (by decide +kernel)
theorem q389 : (Cond.selects RX2 yX2_alike yX2_alike) ∈ lwg := lwgR 389 (by decide +kernel) (by decide +kernel)
theorem q390 : (Cond.code yX2_alike cX2_alike 3 (some .long)) ∈ lwg := lwgR 390 (by decide +kernel) (by decide +kernel)
theorem q395 : (Cond.methodLink RX2 287 yX2_digestOfSentence) ∈ lwg := lwgR 395 (by decide +kernel) (by decide +kernel)
theorem q397 : (Cond.instanceMethod yX2_digestOfSentence) ∈ lwg := lwgR 397 (by decide +kernel) (by decide +kernel)
theorem q398 : (Cond.code yX2_digestOfSentence cX2_digestOfSentence 7 (some .long)) ∈ lwg := lwgR 398 (by decide +kernel) (by decide +kernel)
theorem q399 : (Cond.methodLink RX2 306 yX2_truth) ∈ lwg := lwgR 399 (by decide +kernel) (by decide +kernel)
theorem q400 : (Cond.instanceMethod yX2_truth) ∈ lwg := lwgR 400 (by decide +kernel) (by decide +kernel)
theorem q401 : (Cond.selects RX2 yX2_truth yX2_truth) ∈ lwg := lwgR 401 (by decide +kernel) (by decide +kernel)
theorem q402 : (Cond.code yX2_truth cX2_truth 2 (some .long)) ∈ lwg := lwgR 402 (by decide +kernel) (by decide +kernel)
theorem q406 : (Cond.methodLink RX2 309 yX2_of) ∈ lwg := lwgR 406 (by decide +kernel) (by decide +kernel)
theorem q407 : (Cond.instanceMethod yX2_of) ∈ lwg := lwgR 407 (by decide +kernel) (by decide +kernel)
theorem q408 : (Cond.selects RX2 yX2_of yX2_of) ∈ lwg := lwgR 408 (by decide +kernel) (by decide +kernel)
theorem q409 : (Cond.code yX2_of cX2_of 3 (some .int)) ∈ lwg := lwgR 409 (by decide +kernel) (by decide +kernel)
theorem q432 : (Cond.methodLink RX2 312 yX2_depth) ∈ lwg := lwgR 432 (by decide +kernel) (by decide +kernel)
theorem q433 : (Cond.instanceMethod yX2_depth) ∈ lwg := lwgR 433 (by decide +kernel) (by decide +kernel)
theorem q434 : (Cond.selects RX2 yX2_depth yX2_depth) ∈ lwg := lwgR 434 (by decide +kernel) (by decide +kernel)
theorem q435 : (Cond.code yX2_depth cX2_depth 3 (some .int)) ∈ lwg := lwgR 435 (by decide +kernel) (by decide +kernel)
theorem q444 : (Cond.methodLink RX2 291 yX2_notes) ∈ lwg := lwgR 444 (by decide +kernel) (by decide +kernel)
theorem q445 : (Cond.instanceMethod yX2_notes) ∈ lwg := lwgR 445 (by decide +kernel) (by decide +kernel)
theorem q446 : (Cond.selects RX2 yX2_notes yX2_notes) ∈ lwg := lwgR 446 (by decide +kernel) (by decide +kernel)
theorem q447 : (Cond.code yX2_notes cX2_notes 5 (some .int)) ∈ lwg := lwgR 447 (by decide +kernel) (by decide +kernel)
theorem q449 : (Cond.methodLink RX2 250 yX1_knows) ∈ lwg := lwgR 449 (by decide +kernel) (by decide +kernel)
theorem q450 : (Cond.methodLink RX2 253 yX2_oneNoteDoes) ∈ lwg := lwgR 450 (by decide +kernel) (by decide +kernel)
theorem q452 : (Cond.instanceMethod yX2_oneNoteDoes) ∈ lwg := lwgR 452 (by decide +kernel) (by decide +kernel)
theorem q453 : (Cond.code yX2_oneNoteDoes cX2_oneNoteDoes 9 (some .boolean)) ∈ lwg := lwgR 453 (by decide +kernel) (by decide +kernel)
theorem q454 : (Cond.methodLink RX2 261 yX0_hangingOn) ∈ lwg := lwgR 454 (by decide +kernel) (by decide +kernel)
theorem q455 : (Cond.instanceMethod yX0_hangingOn) ∈ lwg := lwgR 455 (by decide +kernel) (by decide +kernel)
theorem q456 : (Cond.selects RX0 yX0_hangingOn yX0_hangingOn) ∈ lwg := lwgR 456 (by decide +kernel) (by decide +kernel)
theorem q457 : (Cond.code yX0_hangingOn cX0_hangingOn 3 (some .long)) ∈ lwg := lwgR 457 (by decide +kernel) (by decide +kernel)
theorem q463 : (Cond.methodLink RX2 257 yX1_copyFrom) ∈ lwg := lwgR 463 (by decide +kernel) (by decide +kernel)
theorem q464 : (Cond.instanceMethod yX1_copyFrom) ∈ lwg := lwgR 464 (by decide +kernel) (by decide +kernel)
theorem q465 : (Cond.selects RX1 yX1_copyFrom yX1_copyFrom) ∈ lwg := lwgR 465 (by decide +kernel) (by decide +kernel)
theorem q466 : (Cond.code yX1_copyFrom cX1_copyFrom 2 none) ∈ lwg := lwgR 466 (by decide +kernel) (by decide +kernel)
theorem q476 : (Cond.methodLink RX2 294 yX2_rounds) ∈ lwg := lwgR 476 (by decide +kernel) (by decide +kernel)
theorem q477 : (Cond.instanceMethod yX2_rounds) ∈ lwg := lwgR 477 (by decide +kernel) (by decide +kernel)
theorem q478 : (Cond.selects RX2 yX2_rounds yX2_rounds) ∈ lwg := lwgR 478 (by decide +kernel) (by decide +kernel)
theorem q479 : (Cond.code yX2_rounds cX2_rounds 6 (some .int)) ∈ lwg := lwgR 479 (by decide +kernel) (by decide +kernel)
theorem q488 : (Cond.methodLink RX2 264 yX0_partsOf) ∈ lwg := lwgR 488 (by decide +kernel) (by decide +kernel)
theorem q489 : (Cond.constantDouble RX2 297 (4634204016564240384)) ∈ lwg := lwgR 489 (by decide +kernel) (by decide +kernel)
theorem q490 : (Cond.methodLink RX2 299 yX2_wit) ∈ lwg := lwgR 490 (by decide +kernel) (by decide +kernel)
theorem q491 : (Cond.instanceMethod yX2_wit) ∈ lwg := lwgR 491 (by decide +kernel) (by decide +kernel)
theorem q492 : (Cond.selects RX2 yX2_wit yX2_wit) ∈ lwg := lwgR 492 (by decide +kernel) (by decide +kernel)
theorem q493 : (Cond.code yX2_wit cX2_wit 3 (some .double)) ∈ lwg := lwgR 493 (by decide +kernel) (by decide +kernel)
theorem q494 : (Cond.methodLink RX2 303 yX2_isSound) ∈ lwg := lwgR 494 (by decide +kernel) (by decide +kernel)
theorem qs7 : (Cond.selects RX2 yX2_digestOfSentence yX2_digestOfSentence) ∈ lwg := lwgL 7 (by decide +kernel) (by decide +kernel)
theorem qs8 : (Cond.selects RX2 yX2_oneNoteDoes yX2_oneNoteDoes) ∈ lwg := lwgL 8 (by decide +kernel) (by decide +kernel)
theorem dX2_oneNoteDoes_0 : decode cX2_oneNoteDoes 0 = .ok (.iconst 0, 1) := by decide +kernel
theorem dX2_oneNoteDoes_1 : decode cX2_oneNoteDoes 1 = .ok (.istore 5, 2) := by decide +kernel
theorem dX2_oneNoteDoes_3 : decode cX2_oneNoteDoes 3 = .ok (.iload 5, 2) := by decide +kernel
theorem dX2_oneNoteDoes_5 : decode cX2_oneNoteDoes 5 = .ok (.bipush 6, 2) := by decide +kernel
theorem dX2_oneNoteDoes_7 : decode cX2_oneNoteDoes 7 = .ok (.if_icmp .ge 101, 3) := by decide +kernel
theorem dX2_oneNoteDoes_10 : decode cX2_oneNoteDoes 10 = .ok (.aload_n 0, 1) := by decide +kernel
theorem dX2_oneNoteDoes_11 : decode cX2_oneNoteDoes 11 = .ok (.getfield 10, 3) := by decide +kernel
theorem dX2_oneNoteDoes_14 : decode cX2_oneNoteDoes 14 = .ok (.iload 5, 2) := by decide +kernel
theorem dX2_oneNoteDoes_16 : decode cX2_oneNoteDoes 16 = .ok (.iload 4, 2) := by decide +kernel
theorem dX2_oneNoteDoes_18 : decode cX2_oneNoteDoes 18 = .ok (.invokevirtual 261, 3) := by decide +kernel
theorem dX2_oneNoteDoes_21 : decode cX2_oneNoteDoes 21 = .ok (.lstore 6, 2) := by decide +kernel
theorem dX2_oneNoteDoes_23 : decode cX2_oneNoteDoes 23 = .ok (.iload 5, 2) := by decide +kernel
theorem dX2_oneNoteDoes_25 : decode cX2_oneNoteDoes 25 = .ok (.iload_n 3, 1) := by decide +kernel
theorem dX2_oneNoteDoes_26 : decode cX2_oneNoteDoes 26 = .ok (.if_icmp .eq 13, 3) := by decide +kernel
theorem dX2_oneNoteDoes_29 : decode cX2_oneNoteDoes 29 = .ok (.lload 6, 2) := by decide +kernel
theorem dX2_oneNoteDoes_31 : decode cX2_oneNoteDoes 31 = .ok (.lconst 0, 1) := by decide +kernel
theorem dX2_oneNoteDoes_32 : decode cX2_oneNoteDoes 32 = .ok (.lcmp, 1) := by decide +kernel
theorem dX2_oneNoteDoes_33 : decode cX2_oneNoteDoes 33 = .ok (.ifCond .ne 6, 3) := by decide +kernel
theorem dX2_oneNoteDoes_36 : decode cX2_oneNoteDoes 36 = .ok (.goto 66, 3) := by decide +kernel
theorem dX2_oneNoteDoes_39 : decode cX2_oneNoteDoes 39 = .ok (.iconst 0, 1) := by decide +kernel
theorem dX2_oneNoteDoes_40 : decode cX2_oneNoteDoes 40 = .ok (.istore 8, 2) := by decide +kernel
theorem dX2_oneNoteDoes_42 : decode cX2_oneNoteDoes 42 = .ok (.iload 8, 2) := by decide +kernel
theorem dX2_oneNoteDoes_44 : decode cX2_oneNoteDoes 44 = .ok (.bipush 6, 2) := by decide +kernel
theorem dX2_oneNoteDoes_46 : decode cX2_oneNoteDoes 46 = .ok (.if_icmp .ge 56, 3) := by decide +kernel
theorem dX2_oneNoteDoes_49 : decode cX2_oneNoteDoes 49 = .ok (.iload 8, 2) := by decide +kernel
theorem dX2_oneNoteDoes_51 : decode cX2_oneNoteDoes 51 = .ok (.iload 5, 2) := by decide +kernel
theorem dX2_oneNoteDoes_53 : decode cX2_oneNoteDoes 53 = .ok (.if_icmp .ne 6, 3) := by decide +kernel
theorem dX2_oneNoteDoes_56 : decode cX2_oneNoteDoes 56 = .ok (.goto 40, 3) := by decide +kernel
theorem dX2_oneNoteDoes_59 : decode cX2_oneNoteDoes 59 = .ok (.aload_n 2, 1) := by decide +kernel
theorem dX2_oneNoteDoes_60 : decode cX2_oneNoteDoes 60 = .ok (.aload_n 1, 1) := by decide +kernel
theorem dX2_oneNoteDoes_61 : decode cX2_oneNoteDoes 61 = .ok (.invokevirtual 257, 3) := by decide +kernel
theorem dX2_oneNoteDoes_64 : decode cX2_oneNoteDoes 64 = .ok (.aload_n 2, 1) := by decide +kernel
theorem dX2_oneNoteDoes_65 : decode cX2_oneNoteDoes 65 = .ok (.iload 8, 2) := by decide +kernel
theorem dX2_oneNoteDoes_67 : decode cX2_oneNoteDoes 67 = .ok (.iload 5, 2) := by decide +kernel
theorem dX2_oneNoteDoes_69 : decode cX2_oneNoteDoes 69 = .ok (.invokevirtual 151, 3) := by decide +kernel
theorem dX2_oneNoteDoes_72 : decode cX2_oneNoteDoes 72 = .ok (.ifCond .ne 6, 3) := by decide +kernel
theorem dX2_oneNoteDoes_75 : decode cX2_oneNoteDoes 75 = .ok (.goto 21, 3) := by decide +kernel
theorem dX2_oneNoteDoes_78 : decode cX2_oneNoteDoes 78 = .ok (.aload_n 2, 1) := by decide +kernel
theorem dX2_oneNoteDoes_79 : decode cX2_oneNoteDoes 79 = .ok (.lload 6, 2) := by decide +kernel
theorem dX2_oneNoteDoes_81 : decode cX2_oneNoteDoes 81 = .ok (.invokevirtual 73, 3) := by decide +kernel
theorem dX2_oneNoteDoes_84 : decode cX2_oneNoteDoes 84 = .ok (.aload_n 2, 1) := by decide +kernel
theorem dX2_oneNoteDoes_85 : decode cX2_oneNoteDoes 85 = .ok (.iload_n 3, 1) := by decide +kernel
theorem dX2_oneNoteDoes_86 : decode cX2_oneNoteDoes 86 = .ok (.iload 4, 2) := by decide +kernel
theorem dX2_oneNoteDoes_88 : decode cX2_oneNoteDoes 88 = .ok (.invokevirtual 250, 3) := by decide +kernel
theorem dX2_oneNoteDoes_91 : decode cX2_oneNoteDoes 91 = .ok (.ifCond .eq 5, 3) := by decide +kernel
theorem dX2_oneNoteDoes_94 : decode cX2_oneNoteDoes 94 = .ok (.iconst 1, 1) := by decide +kernel
theorem dX2_oneNoteDoes_95 : decode cX2_oneNoteDoes 95 = .ok (.ireturn, 1) := by decide +kernel
theorem dX2_oneNoteDoes_96 : decode cX2_oneNoteDoes 96 = .ok (.iinc 8 1, 3) := by decide +kernel
theorem dX2_oneNoteDoes_99 : decode cX2_oneNoteDoes 99 = .ok (.goto (-57), 3) := by decide +kernel
theorem dX2_oneNoteDoes_102 : decode cX2_oneNoteDoes 102 = .ok (.iinc 5 1, 3) := by decide +kernel
theorem dX2_oneNoteDoes_105 : decode cX2_oneNoteDoes 105 = .ok (.goto (-102), 3) := by decide +kernel
theorem dX2_oneNoteDoes_108 : decode cX2_oneNoteDoes 108 = .ok (.iconst 0, 1) := by decide +kernel
theorem dX2_oneNoteDoes_109 : decode cX2_oneNoteDoes 109 = .ok (.ireturn, 1) := by decide +kernel
def wX2_oneNoteDoes_L42 (post : Int32 → (Nat → Int64) × (Nat → Int64) × Int64 × Int32 → Prop) (K102 : Int32 → (Nat → Int64) → (Nat → Int64) → Int64 → Int32 → Prop) (dk : Nat → Int64) (wg : Nat → Int64) (op : Int64) (re : Int32) (kf : Nat → Int32) (ff : Nat → Int32) (sf : Nat → Int32) (bn : Int32) (p3 : Int32) (p4 : Int32) (i5 : Int32) (r_1 : Int64) : Nat → Int32 → (Nat → Int64) → (Nat → Int64) → Int64 → Int32 → Prop
  | 0, _, _, _, _, _ => False
  | n+1, i8, uk', uw', uo', ur' =>
    (((6 : Int32) ≤ i8) →
      K102 i8 uk' uw' uo' ur'
    ) ∧ (¬ ((6 : Int32) ≤ i8) →
      ((¬ i8 = i5) →
        wX1_copyFrom (fun (z_1 : (Nat → Int64) × (Nat → Int64) × Int64 × Int32) =>
          wX1_passOn (fun (r_3 : Int32) (dk_2 : Nat → Int64) =>
            ((¬ r_3 = 0) →
              wX1_weigh (fun (wg_2 : Nat → Int64) =>
                wX1_knows (fun r_5 : Int32 =>
                  ((r_5 = 0) →
                    wX2_oneNoteDoes_L42 post K102 dk wg op re kf ff sf bn p3 p4 i5 r_1 n (i8 + 1) dk_2 wg_2 z_1.2.2.1 z_1.2.2.2
                  ) ∧ (¬ (r_5 = 0) →
                    post (1 : Int32) (dk_2, wg_2, z_1.2.2.1, z_1.2.2.2)
                  )
                  ) dk_2 wg_2 z_1.2.2.1 z_1.2.2.2 bn p3 p4
                ) dk_2 z_1.2.1 z_1.2.2.1 kf ff sf bn r_1
            ) ∧ ((r_3 = 0) →
              wX2_oneNoteDoes_L42 post K102 dk wg op re kf ff sf bn p3 p4 i5 r_1 n (i8 + 1) dk_2 z_1.2.1 z_1.2.2.1 z_1.2.2.2
            )
            ) z_1.1 z_1.2.2.1 i8 i5
          ) uk' uw' uo' ur' dk wg op re
      ) ∧ ((i8 = i5) →
        wX2_oneNoteDoes_L42 post K102 dk wg op re kf ff sf bn p3 p4 i5 r_1 n (i8 + 1) uk' uw' uo' ur'
      )
    )
def wX2_oneNoteDoes_L3 (post : Int32 → (Nat → Int64) × (Nat → Int64) × Int64 × Int32 → Prop) (K108 : Int32 → (Nat → Int64) → (Nat → Int64) → Int64 → Int32 → Prop) (dk : Nat → Int64) (wg : Nat → Int64) (op : Int64) (re : Int32) (kf : Nat → Int32) (ff : Nat → Int32) (sf : Nat → Int32) (pf : Nat → Int64) (gf : Nat → Int64) (bn : Int32) (p3 : Int32) (p4 : Int32) : Nat → Int32 → (Nat → Int64) → (Nat → Int64) → Int64 → Int32 → Prop
  | 0, _, _, _, _, _ => False
  | n+1, i5, uk', uw', uo', ur' =>
    (((6 : Int32) ≤ i5) →
      K108 i5 uk' uw' uo' ur'
    ) ∧ (¬ ((6 : Int32) ≤ i5) →
      wX0_hangingOn (fun r_1 : Int64 =>
        ((i5 = p3) →
          ∃ nF, wX2_oneNoteDoes_L42 post
            (fun i8 uk' uw' uo' ur' =>
              wX2_oneNoteDoes_L3 post K108 dk wg op re kf ff sf pf gf bn p3 p4 n (i5 + 1) uk' uw' uo' ur'
            )
            dk wg op re kf ff sf bn p3 p4 i5 r_1 nF (0 : Int32) uk' uw' uo' ur'
        ) ∧ (¬ (i5 = p3) →
          ((¬ (lg_cmp r_1 (0 : Int64)) = 0) →
            ∃ nF, wX2_oneNoteDoes_L42 post
              (fun i8 uk' uw' uo' ur' =>
                wX2_oneNoteDoes_L3 post K108 dk wg op re kf ff sf pf gf bn p3 p4 n (i5 + 1) uk' uw' uo' ur'
              )
              dk wg op re kf ff sf bn p3 p4 i5 r_1 nF (0 : Int32) uk' uw' uo' ur'
          ) ∧ (((lg_cmp r_1 (0 : Int64)) = 0) →
            wX2_oneNoteDoes_L3 post K108 dk wg op re kf ff sf pf gf bn p3 p4 n (i5 + 1) uk' uw' uo' ur'
          )
        )
        ) pf gf bn i5 p4
    )
def wX2_oneNoteDoes (post : Int32 → (Nat → Int64) × (Nat → Int64) × Int64 × Int32 → Prop) (dk : Nat → Int64) (wg : Nat → Int64) (op : Int64) (re : Int32) (uk : Nat → Int64) (uw : Nat → Int64) (uo : Int64) (ur : Int32) (kf : Nat → Int32) (ff : Nat → Int32) (sf : Nat → Int32) (pf : Nat → Int64) (gf : Nat → Int64) (bn : Int32) (p3 : Int32) (p4 : Int32) : Prop :=
  ∃ nF, wX2_oneNoteDoes_L3 post
    (fun i5 uk' uw' uo' ur' =>
      post (0 : Int32) (uk', uw', uo', ur')
    )
    dk wg op re kf ff sf pf gf bn p3 p4 nF (0 : Int32) uk uw uo ur
abbrev wl_X2_oneNoteDoes : List Cond := .code yX2_oneNoteDoes cX2_oneNoteDoes 9 (some .boolean) :: lwg
abbrev rm_X2_oneNoteDoes : Room := { frames := 5, cells := 0, slots := 0, locals := 128 }
set_option maxHeartbeats 4000000 in
set_option maxRecDepth 100000 in
theorem kX2_oneNoteDoes {post : Int32 → (Nat → Int64) × (Nat → Int64) × Int64 × Int32 → Prop} (l : Launch) (G : GT) (x0 : Nat) (n0 : Nat) (n1 : Nat) (n2 : Nat) (s0 : Nat) (s1 : Nat) (s2 : Nat) (u0 : Nat) (u1 : Nat) (u2 : Nat) (b0 : Nat) (b1 : Nat) (b2 : Nat) (b3 : Nat) (b4 : Nat) (b5 : Nat) (b6 : Nat) (dk : Nat → Int64) (wg : Nat → Int64) (op : Int64) (re : Int32) (uk : Nat → Int64) (uw : Nat → Int64) (uo : Int64) (ur : Int32) (kf : Nat → Int32) (ff : Nat → Int32) (sf : Nat → Int32) (df : Nat → Int32) (pf : Nat → Int64) (gf : Nat → Int64) (bn : Int32) (tA : Int32) (wP : Int32) (nT : Int32) (aK : Int32) (lK : Int32) (sW : Int32) (rF : Int32) (p3 : Int32) (p4 : Int32) (sz : Nat) (h : wX2_oneNoteDoes post dk wg op re uk uw uo ur kf ff sf pf gf bn p3 p4) : Met l yX2_oneNoteDoes wl_X2_oneNoteDoes rm_X2_oneNoteDoes (va_Pc [.ref x0, .ref s0, .ref u0, .int p3, .int p4] (fun U => U.heap.size = sz ∧ PP G [(x0, .inr (5, [.ref b0, .ref n0, .ref n1, .ref n2, .int tA, .int wP, .int nT, .int aK, .int lK, .int sW, .int rF])), (s0, .inr (4, [.ref b0, .ref s1, .ref s2, .long op, .int re])), (s1, .inl (G.2 1, 384, .inr (.inl dk))), (s2, .inl (G.2 1, 40, .inr (.inl wg))), (u0, .inr (4, [.ref b0, .ref u1, .ref u2, .long uo, .int ur])), (u1, .inl (G.2 1, 384, .inr (.inl uk))), (u2, .inl (G.2 1, 40, .inr (.inl uw))), (b0, .inr (3, [.ref b1, .ref b2, .ref b3, .ref b4, .ref b5, .ref b6, .int bn])), (b1, .inl (G.2 0, 40, .inl kf)), (b2, .inl (G.2 0, 40, .inl ff)), (b3, .inl (G.2 0, 40, .inl sf)), (b4, .inl (G.2 0, 40, .inl df)), (b5, .inl (G.2 1, 40, .inr (.inl pf))), (b6, .inl (G.2 1, 6, .inr (.inl gf)))] U.heap ∧ KK G U ∧ va_D (fun _ => True) [(x0, .inr (5, [.ref b0, .ref n0, .ref n1, .ref n2, .int tA, .int wP, .int nT, .int aK, .int lK, .int sW, .int rF])), (s0, .inr (4, [.ref b0, .ref s1, .ref s2, .long op, .int re])), (s1, .inl (G.2 1, 384, .inr (.inl dk))), (s2, .inl (G.2 1, 40, .inr (.inl wg))), (u0, .inr (4, [.ref b0, .ref u1, .ref u2, .long uo, .int ur])), (u1, .inl (G.2 1, 384, .inr (.inl uk))), (u2, .inl (G.2 1, 40, .inr (.inl uw))), (b0, .inr (3, [.ref b1, .ref b2, .ref b3, .ref b4, .ref b5, .ref b6, .int bn])), (b1, .inl (G.2 0, 40, .inl kf)), (b2, .inl (G.2 0, 40, .inl ff)), (b3, .inl (G.2 0, 40, .inl sf)), (b4, .inl (G.2 0, 40, .inl df)), (b5, .inl (G.2 1, 40, .inr (.inl pf))), (b6, .inl (G.2 1, 6, .inr (.inl gf)))] ∧ ZZ (va_A [(x0, .inr (5, [.ref b0, .ref n0, .ref n1, .ref n2, .int tA, .int wP, .int nT, .int aK, .int lK, .int sW, .int rF])), (s0, .inr (4, [.ref b0, .ref s1, .ref s2, .long op, .int re])), (s1, .inl (G.2 1, 384, .inr (.inl dk))), (s2, .inl (G.2 1, 40, .inr (.inl wg))), (u0, .inr (4, [.ref b0, .ref u1, .ref u2, .long uo, .int ur])), (u1, .inl (G.2 1, 384, .inr (.inl uk))), (u2, .inl (G.2 1, 40, .inr (.inl uw))), (b0, .inr (3, [.ref b1, .ref b2, .ref b3, .ref b4, .ref b5, .ref b6, .int bn])), (b1, .inl (G.2 0, 40, .inl kf)), (b2, .inl (G.2 0, 40, .inl ff)), (b3, .inl (G.2 0, 40, .inl sf)), (b4, .inl (G.2 0, 40, .inl df)), (b5, .inl (G.2 1, 40, .inr (.inl pf))), (b6, .inl (G.2 1, 6, .inr (.inl gf)))] sz) U U.heap)) (va_Qi post (fun u t => PP G [(x0, .inr (5, [.ref b0, .ref n0, .ref n1, .ref n2, .int tA, .int wP, .int nT, .int aK, .int lK, .int sW, .int rF])), (s0, .inr (4, [.ref b0, .ref s1, .ref s2, .long op, .int re])), (s1, .inl (G.2 1, 384, .inr (.inl dk))), (s2, .inl (G.2 1, 40, .inr (.inl wg))), (u0, .inr (4, [.ref b0, .ref u1, .ref u2, .long (u.2.2.1), .int (u.2.2.2)])), (u1, .inl (G.2 1, 384, .inr (.inl (u.1)))), (u2, .inl (G.2 1, 40, .inr (.inl (u.2.1)))), (b0, .inr (3, [.ref b1, .ref b2, .ref b3, .ref b4, .ref b5, .ref b6, .int bn])), (b1, .inl (G.2 0, 40, .inl kf)), (b2, .inl (G.2 0, 40, .inl ff)), (b3, .inl (G.2 0, 40, .inl sf)), (b4, .inl (G.2 0, 40, .inl df)), (b5, .inl (G.2 1, 40, .inr (.inl pf))), (b6, .inl (G.2 1, 6, .inr (.inl gf)))] t.heap ∧ va_D (va_A [(x0, .inr (5, [.ref b0, .ref n0, .ref n1, .ref n2, .int tA, .int wP, .int nT, .int aK, .int lK, .int sW, .int rF])), (s0, .inr (4, [.ref b0, .ref s1, .ref s2, .long op, .int re])), (s1, .inl (G.2 1, 384, .inr (.inl dk))), (s2, .inl (G.2 1, 40, .inr (.inl wg))), (u0, .inr (4, [.ref b0, .ref u1, .ref u2, .long uo, .int ur])), (u1, .inl (G.2 1, 384, .inr (.inl uk))), (u2, .inl (G.2 1, 40, .inr (.inl uw))), (b0, .inr (3, [.ref b1, .ref b2, .ref b3, .ref b4, .ref b5, .ref b6, .int bn])), (b1, .inl (G.2 0, 40, .inl kf)), (b2, .inl (G.2 0, 40, .inl ff)), (b3, .inl (G.2 0, 40, .inl sf)), (b4, .inl (G.2 0, 40, .inl df)), (b5, .inl (G.2 1, 40, .inr (.inl pf))), (b6, .inl (G.2 1, 6, .inr (.inl gf)))] sz) [(x0, .inr (5, [.ref b0, .ref n0, .ref n1, .ref n2, .int tA, .int wP, .int nT, .int aK, .int lK, .int sW, .int rF])), (s0, .inr (4, [.ref b0, .ref s1, .ref s2, .long op, .int re])), (s1, .inl (G.2 1, 384, .inr (.inl dk))), (s2, .inl (G.2 1, 40, .inr (.inl wg))), (u0, .inr (4, [.ref b0, .ref u1, .ref u2, .long (u.2.2.1), .int (u.2.2.2)])), (u1, .inl (G.2 1, 384, .inr (.inl (u.1)))), (u2, .inl (G.2 1, 40, .inr (.inl (u.2.1)))), (b0, .inr (3, [.ref b1, .ref b2, .ref b3, .ref b4, .ref b5, .ref b6, .int bn])), (b1, .inl (G.2 0, 40, .inl kf)), (b2, .inl (G.2 0, 40, .inl ff)), (b3, .inl (G.2 0, 40, .inl sf)), (b4, .inl (G.2 0, 40, .inl df)), (b5, .inl (G.2 1, 40, .inr (.inl pf))), (b6, .inl (G.2 1, 6, .inr (.inl gf)))]) (va_A [(x0, .inr (5, [.ref b0, .ref n0, .ref n1, .ref n2, .int tA, .int wP, .int nT, .int aK, .int lK, .int sW, .int rF])), (s0, .inr (4, [.ref b0, .ref s1, .ref s2, .long op, .int re])), (s1, .inl (G.2 1, 384, .inr (.inl dk))), (s2, .inl (G.2 1, 40, .inr (.inl wg))), (u0, .inr (4, [.ref b0, .ref u1, .ref u2, .long uo, .int ur])), (u1, .inl (G.2 1, 384, .inr (.inl uk))), (u2, .inl (G.2 1, 40, .inr (.inl uw))), (b0, .inr (3, [.ref b1, .ref b2, .ref b3, .ref b4, .ref b5, .ref b6, .int bn])), (b1, .inl (G.2 0, 40, .inl kf)), (b2, .inl (G.2 0, 40, .inl ff)), (b3, .inl (G.2 0, 40, .inl sf)), (b4, .inl (G.2 0, 40, .inl df)), (b5, .inl (G.2 1, 40, .inr (.inl pf))), (b6, .inl (G.2 1, 6, .inr (.inl gf)))] sz)) 0 0 (va_A [(x0, .inr (5, [.ref b0, .ref n0, .ref n1, .ref n2, .int tA, .int wP, .int nT, .int aK, .int lK, .int sW, .int rF])), (s0, .inr (4, [.ref b0, .ref s1, .ref s2, .long op, .int re])), (s1, .inl (G.2 1, 384, .inr (.inl dk))), (s2, .inl (G.2 1, 40, .inr (.inl wg))), (u0, .inr (4, [.ref b0, .ref u1, .ref u2, .long uo, .int ur])), (u1, .inl (G.2 1, 384, .inr (.inl uk))), (u2, .inl (G.2 1, 40, .inr (.inl uw))), (b0, .inr (3, [.ref b1, .ref b2, .ref b3, .ref b4, .ref b5, .ref b6, .int bn])), (b1, .inl (G.2 0, 40, .inl kf)), (b2, .inl (G.2 0, 40, .inl ff)), (b3, .inl (G.2 0, 40, .inl sf)), (b4, .inl (G.2 0, 40, .inl df)), (b5, .inl (G.2 1, 40, .inr (.inl pf))), (b6, .inl (G.2 1, 6, .inr (.inl gf)))] sz) := by
  refine Met.ofW (cc := cX2_oneNoteDoes) (maxL := 9) (ret := (some .boolean)) (by decide) rfl ?_
  intro p e s m args below meth c s₁ B hml hv
  obtain ⟨rfl, hsz, hP, hKK, hD0, hZ⟩ := hv
  obtain ⟨hK, hN, hR, hFW, hNC⟩ := id hKK
  have hx := B.exec
  have hb := B.bytes
  have hr := B.returns
  have hts0 := atoms_spec (ws := wl_X2_oneNoteDoes) B.pre
  have hts : ∀ w ∈ lwg, w.before ([.ref x0, .ref s0, .ref u0, .int p3, .int p4] : List Value).toArray s = true := fun w hw => hts0 w (List.mem_cons_of_mem _ hw)
  have hown : s.vm.findClass RX2 = some m.cls := findClass_of_methodNamed B.named
  have hlocks := B.notSynchronized
  subst hsz
  have hD := hD0.self (sz := s.heap.size)
  generalize hAe : va_A [(x0, .inr (5, [.ref b0, .ref n0, .ref n1, .ref n2, .int tA, .int wP, .int nT, .int aK, .int lK, .int sW, .int rF])), (s0, .inr (4, [.ref b0, .ref s1, .ref s2, .long op, .int re])), (s1, .inl (G.2 1, 384, .inr (.inl dk))), (s2, .inl (G.2 1, 40, .inr (.inl wg))), (u0, .inr (4, [.ref b0, .ref u1, .ref u2, .long uo, .int ur])), (u1, .inl (G.2 1, 384, .inr (.inl uk))), (u2, .inl (G.2 1, 40, .inr (.inl uw))), (b0, .inr (3, [.ref b1, .ref b2, .ref b3, .ref b4, .ref b5, .ref b6, .int bn])), (b1, .inl (G.2 0, 40, .inl kf)), (b2, .inl (G.2 0, 40, .inl ff)), (b3, .inl (G.2 0, 40, .inl sf)), (b4, .inl (G.2 0, 40, .inl df)), (b5, .inl (G.2 1, 40, .inr (.inl pf))), (b6, .inl (G.2 1, 6, .inr (.inl gf)))] s.heap.size = A at hD hZ ⊢
  have hA : ∀ q : Nat, s.heap.size ≤ q → A q := fun q h => by rw [← hAe]; exact Or.inr h
  have hS : va_S A s.heap s.heap [] := va_S.rf
  obtain ⟨QC, hQC⟩ : ∃ Z, Z = (va_Qi post (fun u t => PP G [(x0, .inr (5, [.ref b0, .ref n0, .ref n1, .ref n2, .int tA, .int wP, .int nT, .int aK, .int lK, .int sW, .int rF])), (s0, .inr (4, [.ref b0, .ref s1, .ref s2, .long op, .int re])), (s1, .inl (G.2 1, 384, .inr (.inl dk))), (s2, .inl (G.2 1, 40, .inr (.inl wg))), (u0, .inr (4, [.ref b0, .ref u1, .ref u2, .long (u.2.2.1), .int (u.2.2.2)])), (u1, .inl (G.2 1, 384, .inr (.inl (u.1)))), (u2, .inl (G.2 1, 40, .inr (.inl (u.2.1)))), (b0, .inr (3, [.ref b1, .ref b2, .ref b3, .ref b4, .ref b5, .ref b6, .int bn])), (b1, .inl (G.2 0, 40, .inl kf)), (b2, .inl (G.2 0, 40, .inl ff)), (b3, .inl (G.2 0, 40, .inl sf)), (b4, .inl (G.2 0, 40, .inl df)), (b5, .inl (G.2 1, 40, .inr (.inl pf))), (b6, .inl (G.2 1, 6, .inr (.inl gf)))] t.heap ∧ va_D A [(x0, .inr (5, [.ref b0, .ref n0, .ref n1, .ref n2, .int tA, .int wP, .int nT, .int aK, .int lK, .int sW, .int rF])), (s0, .inr (4, [.ref b0, .ref s1, .ref s2, .long op, .int re])), (s1, .inl (G.2 1, 384, .inr (.inl dk))), (s2, .inl (G.2 1, 40, .inr (.inl wg))), (u0, .inr (4, [.ref b0, .ref u1, .ref u2, .long (u.2.2.1), .int (u.2.2.2)])), (u1, .inl (G.2 1, 384, .inr (.inl (u.1)))), (u2, .inl (G.2 1, 40, .inr (.inl (u.2.1)))), (b0, .inr (3, [.ref b1, .ref b2, .ref b3, .ref b4, .ref b5, .ref b6, .int bn])), (b1, .inl (G.2 0, 40, .inl kf)), (b2, .inl (G.2 0, 40, .inl ff)), (b3, .inl (G.2 0, 40, .inl sf)), (b4, .inl (G.2 0, 40, .inl df)), (b5, .inl (G.2 1, 40, .inr (.inl pf))), (b6, .inl (G.2 1, 6, .inr (.inl gf)))]) A) := ⟨_, rfl⟩
  rw [← hQC]
  obtain ⟨⟨zt, hZ1, hT1⟩, hZ2⟩ := id hZ
  have hP : PP G [(x0, .inr (5, [.ref b0, .ref n0, .ref n1, .ref n2, .int tA, .int wP, .int nT, .int aK, .int lK, .int sW, .int rF])), (s0, .inr (4, [.ref b0, .ref s1, .ref s2, .long op, .int re])), (s1, .inl (G.2 1, 384, .inr (.inl dk))), (s2, .inl (G.2 1, 40, .inr (.inl wg))), (u0, .inr (4, [.ref b0, .ref u1, .ref u2, .long uo, .int ur])), (u1, .inl (G.2 1, 384, .inr (.inl uk))), (u2, .inl (G.2 1, 40, .inr (.inl uw))), (b0, .inr (3, [.ref b1, .ref b2, .ref b3, .ref b4, .ref b5, .ref b6, .int bn])), (b1, .inl (G.2 0, 40, .inl kf)), (b2, .inl (G.2 0, 40, .inl ff)), (b3, .inl (G.2 0, 40, .inl sf)), (b4, .inl (G.2 0, 40, .inl df)), (b5, .inl (G.2 1, 40, .inr (.inl pf))), (b6, .inl (G.2 1, 6, .inr (.inl gf)))] s.heap := hP
  have hl := lv_entry ([.ref x0, .ref s0, .ref u0, .int p3, .int p4]) (n := 9) (Nat.le_of_ble_eq_true rfl)
  rw [lg_entry_eq]
  generalize (lg_sl ([.ref x0, .ref s0, .ref u0, .int p3, .int p4]) ++ List.replicate (9 - (lg_sl ([.ref x0, .ref s0, .ref u0, .int p3, .int p4])).length) Slot.unset).toArray = ls at hl ⊢
  have hl : lv_has ls 9 [(0, .ref x0), (1, .ref s0), (2, .ref u0), (3, .int p3), (4, .int p4)] := hl
  have loop42 : ∀ (K102 : Int32 → (Nat → Int64) → (Nat → Int64) → Int64 → Int32 → Prop) (i5 : Int32) (r_1 : Int64), True → (∀ (i8 : Int32) (uk' : Nat → Int64) (uw' : Nat → Int64) (uo' : Int64) (ur' : Int32) (ls : Array Slot) (H : Heap) (locs : List Loc), lv_has ls 9 [(0, .ref x0), (1, .ref s0), (2, .ref u0), (3, .int p3), (4, .int p4), (5, .int i5), (6, .long r_1), (8, .int i8)] → PP G [(x0, .inr (5, [.ref b0, .ref n0, .ref n1, .ref n2, .int tA, .int wP, .int nT, .int aK, .int lK, .int sW, .int rF])), (s0, .inr (4, [.ref b0, .ref s1, .ref s2, .long op, .int re])), (s1, .inl (G.2 1, 384, .inr (.inl dk))), (s2, .inl (G.2 1, 40, .inr (.inl wg))), (u0, .inr (4, [.ref b0, .ref u1, .ref u2, .long uo', .int ur'])), (u1, .inl (G.2 1, 384, .inr (.inl uk'))), (u2, .inl (G.2 1, 40, .inr (.inl uw'))), (b0, .inr (3, [.ref b1, .ref b2, .ref b3, .ref b4, .ref b5, .ref b6, .int bn])), (b1, .inl (G.2 0, 40, .inl kf)), (b2, .inl (G.2 0, 40, .inl ff)), (b3, .inl (G.2 0, 40, .inl sf)), (b4, .inl (G.2 0, 40, .inl df)), (b5, .inl (G.2 1, 40, .inr (.inl pf))), (b6, .inl (G.2 1, 6, .inr (.inl gf)))] H → va_D A [(x0, .inr (5, [.ref b0, .ref n0, .ref n1, .ref n2, .int tA, .int wP, .int nT, .int aK, .int lK, .int sW, .int rF])), (s0, .inr (4, [.ref b0, .ref s1, .ref s2, .long op, .int re])), (s1, .inl (G.2 1, 384, .inr (.inl dk))), (s2, .inl (G.2 1, 40, .inr (.inl wg))), (u0, .inr (4, [.ref b0, .ref u1, .ref u2, .long uo', .int ur'])), (u1, .inl (G.2 1, 384, .inr (.inl uk'))), (u2, .inl (G.2 1, 40, .inr (.inl uw'))), (b0, .inr (3, [.ref b1, .ref b2, .ref b3, .ref b4, .ref b5, .ref b6, .int bn])), (b1, .inl (G.2 0, 40, .inl kf)), (b2, .inl (G.2 0, 40, .inl ff)), (b3, .inl (G.2 0, 40, .inl sf)), (b4, .inl (G.2 0, 40, .inl df)), (b5, .inl (G.2 1, 40, .inr (.inl pf))), (b6, .inl (G.2 1, 6, .inr (.inl gf)))] → va_S A s.heap H locs → K102 i8 uk' uw' uo' ur' → W p l e (headSpec (wl_X2_oneNoteDoes) rm_X2_oneNoteDoes).room s m ([.ref x0, .ref s0, .ref u0, .int p3, .int p4] : List Value).toArray below meth c H locs 0 0 (MQ below QC ([.ref x0, .ref s0, .ref u0, .int p3, .int p4] : List Value).toArray s 0 0 A) (F0 m 102 ls [])) → ∀ (n : Nat) (i8 : Int32) (uk' : Nat → Int64) (uw' : Nat → Int64) (uo' : Int64) (ur' : Int32) (ls : Array Slot) (H : Heap) (locs : List Loc), lv_has ls 9 [(0, .ref x0), (1, .ref s0), (2, .ref u0), (3, .int p3), (4, .int p4), (5, .int i5), (6, .long r_1), (8, .int i8)] → PP G [(x0, .inr (5, [.ref b0, .ref n0, .ref n1, .ref n2, .int tA, .int wP, .int nT, .int aK, .int lK, .int sW, .int rF])), (s0, .inr (4, [.ref b0, .ref s1, .ref s2, .long op, .int re])), (s1, .inl (G.2 1, 384, .inr (.inl dk))), (s2, .inl (G.2 1, 40, .inr (.inl wg))), (u0, .inr (4, [.ref b0, .ref u1, .ref u2, .long uo', .int ur'])), (u1, .inl (G.2 1, 384, .inr (.inl uk'))), (u2, .inl (G.2 1, 40, .inr (.inl uw'))), (b0, .inr (3, [.ref b1, .ref b2, .ref b3, .ref b4, .ref b5, .ref b6, .int bn])), (b1, .inl (G.2 0, 40, .inl kf)), (b2, .inl (G.2 0, 40, .inl ff)), (b3, .inl (G.2 0, 40, .inl sf)), (b4, .inl (G.2 0, 40, .inl df)), (b5, .inl (G.2 1, 40, .inr (.inl pf))), (b6, .inl (G.2 1, 6, .inr (.inl gf)))] H → va_D A [(x0, .inr (5, [.ref b0, .ref n0, .ref n1, .ref n2, .int tA, .int wP, .int nT, .int aK, .int lK, .int sW, .int rF])), (s0, .inr (4, [.ref b0, .ref s1, .ref s2, .long op, .int re])), (s1, .inl (G.2 1, 384, .inr (.inl dk))), (s2, .inl (G.2 1, 40, .inr (.inl wg))), (u0, .inr (4, [.ref b0, .ref u1, .ref u2, .long uo', .int ur'])), (u1, .inl (G.2 1, 384, .inr (.inl uk'))), (u2, .inl (G.2 1, 40, .inr (.inl uw'))), (b0, .inr (3, [.ref b1, .ref b2, .ref b3, .ref b4, .ref b5, .ref b6, .int bn])), (b1, .inl (G.2 0, 40, .inl kf)), (b2, .inl (G.2 0, 40, .inl ff)), (b3, .inl (G.2 0, 40, .inl sf)), (b4, .inl (G.2 0, 40, .inl df)), (b5, .inl (G.2 1, 40, .inr (.inl pf))), (b6, .inl (G.2 1, 6, .inr (.inl gf)))] → va_S A s.heap H locs → wX2_oneNoteDoes_L42 post K102 dk wg op re kf ff sf bn p3 p4 i5 r_1 n i8 uk' uw' uo' ur' → W p l e (headSpec (wl_X2_oneNoteDoes) rm_X2_oneNoteDoes).room s m ([.ref x0, .ref s0, .ref u0, .int p3, .int p4] : List Value).toArray below meth c H locs 0 0 (MQ below QC ([.ref x0, .ref s0, .ref u0, .int p3, .int p4] : List Value).toArray s 0 0 A) (F0 m 42 ls []) := by
    intro K102 i5 r_1 _ hexit102 n
    induction n with
    | zero => intro i8 uk' uw' uo' ur' ls H locs hl hP hD hS h; exact False.elim h
    | succ n ih =>
      intro i8 uk' uw' uo' ur' ls H locs hl hP hD hS h
      refine lv_iload hx hb dX2_oneNoteDoes_42 (lv_at hl 7 rfl) ?_
      refine lv_bipush (v := 6) hx hb dX2_oneNoteDoes_44 (by decide) ?_
      refine lv_icmp_ge (tgt := 102) hx hb dX2_oneNoteDoes_46 (by decide) (fun hc => ?_) (fun hc => ?_)
      · have h := h.1 hc
        have hl := lv_sub (l' := [(0, .ref x0), (1, .ref s0), (2, .ref u0), (3, .int p3), (4, .int p4), (5, .int i5), (6, .long r_1), (8, .int i8)]) hl [0, 1, 2, 3, 4, 5, 6, 7] rfl
        exact hexit102 _ _ _ _ _ ls H locs hl hP hD hS h
      · have h := h.2 hc
        refine lv_iload hx hb dX2_oneNoteDoes_49 (lv_at hl 7 rfl) ?_
        refine lv_iload hx hb dX2_oneNoteDoes_51 (lv_at hl 5 rfl) ?_
        refine lv_icmp_ne (tgt := 59) hx hb dX2_oneNoteDoes_53 (by decide) (fun hc => ?_) (fun hc => ?_)
        · have h := h.1 hc
          refine lv_aload_n hx hb dX2_oneNoteDoes_59 rfl (lv_at hl 2 rfl) ?_
          refine lv_aload_n hx hb dX2_oneNoteDoes_60 rfl (lv_at hl 1 rfl) ?_
          have hPc := va_P.sub (ws' := [(u0, .inr (4, [.ref b0, .ref u1, .ref u2, .long uo', .int ur'])), (u1, .inl (G.2 1, 384, .inr (.inl uk'))), (u2, .inl (G.2 1, 40, .inr (.inl uw'))), (s0, .inr (4, [.ref b0, .ref s1, .ref s2, .long op, .int re])), (s1, .inl (G.2 1, 384, .inr (.inl dk))), (s2, .inl (G.2 1, 40, .inr (.inl wg)))]) hP [4, 5, 6, 1, 2, 3] rfl
          have hDc := hD.sub (ws' := [(u0, .inr (4, [.ref b0, .ref u1, .ref u2, .long uo', .int ur'])), (u1, .inl (G.2 1, 384, .inr (.inl uk'))), (u2, .inl (G.2 1, 40, .inr (.inl uw'))), (s0, .inr (4, [.ref b0, .ref s1, .ref s2, .long op, .int re])), (s1, .inl (G.2 1, 384, .inr (.inl dk))), (s2, .inl (G.2 1, 40, .inr (.inl wg)))]) [4, 5, 6, 1, 2, 3] (by decide) rfl
          have hFc := va_free (wc := [(u0, .inr (4, [.ref b0, .ref u1, .ref u2, .long uo', .int ur'])), (u1, .inl (G.2 1, 384, .inr (.inl uk'))), (u2, .inl (G.2 1, 40, .inr (.inl uw'))), (s0, .inr (4, [.ref b0, .ref s1, .ref s2, .long op, .int re])), (s1, .inl (G.2 1, 384, .inr (.inl dk))), (s2, .inl (G.2 1, 40, .inr (.inl wg)))]) hD hS hA [4, 5, 6, 1, 2, 3] rfl
          refine va_callv (va_runV (C := RX1) (As := [.ref s0]) (rest := []) ⟨hx, hb, hml, hown, hts⟩ (kX1_copyFrom l G u0 u1 u2 b0 b0 s0 s1 s2 uk' uw' uo' ur' dk wg op re _ h) (cwV 1 hts (gdV q463 q464 q465 q3 q466) rfl rfl rfl (by decide +kernel) ⟨Nat.le_of_ble_eq_true rfl, Nat.le_of_ble_eq_true rfl⟩) (preVw hPc hKK hDc (va_recv hK hPc (ci := 4) (q0 := 0) rfl rfl)) rfl rfl hl.1 rfl (lv_room (Nat.le_of_ble_eq_true rfl)) dX2_oneNoteDoes_61 ⟨Nat.zero_le _, Nat.zero_le _⟩) hS (fun q _ h => hFc q h) hFc (fun u t H1 locs ht hvm h hB hz1 hk1 hS => ?_)
          obtain ⟨dk_1, wg_1, op_1, re_1⟩ := u
          obtain ⟨hP1, hD1⟩ := hB
          rw [ht] at hP1
          obtain ⟨hP, hD⟩ := va_join (wr := [(x0, .inr (5, [.ref b0, .ref n0, .ref n1, .ref n2, .int tA, .int wP, .int nT, .int aK, .int lK, .int sW, .int rF])), (b0, .inr (3, [.ref b1, .ref b2, .ref b3, .ref b4, .ref b5, .ref b6, .int bn])), (b1, .inl (G.2 0, 40, .inl kf)), (b2, .inl (G.2 0, 40, .inl ff)), (b3, .inl (G.2 0, 40, .inl sf)), (b4, .inl (G.2 0, 40, .inl df)), (b5, .inl (G.2 1, 40, .inr (.inl pf))), (b6, .inl (G.2 1, 6, .inr (.inl gf)))]) (w1 := [(u0, .inr (4, [.ref b0, .ref u1, .ref u2, .long op_1, .int re_1])), (u1, .inl (G.2 1, 384, .inr (.inl dk_1))), (u2, .inl (G.2 1, 40, .inr (.inl wg_1))), (s0, .inr (4, [.ref b0, .ref s1, .ref s2, .long op, .int re])), (s1, .inl (G.2 1, 384, .inr (.inl dk))), (s2, .inl (G.2 1, 40, .inr (.inl wg)))]) hP hD [4, 5, 6, 1, 2, 3] [0, 7, 8, 9, 10, 11, 12, 13] rfl rfl (by decide) (by decide) hk1 hFc hP1 hD1
          generalize H1 = H at hP hS ⊢
          have hP : PP G [(x0, .inr (5, [.ref b0, .ref n0, .ref n1, .ref n2, .int tA, .int wP, .int nT, .int aK, .int lK, .int sW, .int rF])), (s0, .inr (4, [.ref b0, .ref s1, .ref s2, .long op, .int re])), (s1, .inl (G.2 1, 384, .inr (.inl dk))), (s2, .inl (G.2 1, 40, .inr (.inl wg))), (u0, .inr (4, [.ref b0, .ref u1, .ref u2, .long op_1, .int re_1])), (u1, .inl (G.2 1, 384, .inr (.inl dk_1))), (u2, .inl (G.2 1, 40, .inr (.inl wg_1))), (b0, .inr (3, [.ref b1, .ref b2, .ref b3, .ref b4, .ref b5, .ref b6, .int bn])), (b1, .inl (G.2 0, 40, .inl kf)), (b2, .inl (G.2 0, 40, .inl ff)), (b3, .inl (G.2 0, 40, .inl sf)), (b4, .inl (G.2 0, 40, .inl df)), (b5, .inl (G.2 1, 40, .inr (.inl pf))), (b6, .inl (G.2 1, 6, .inr (.inl gf)))] H := va_P.sub hP [0, 11, 12, 13, 8, 9, 10, 1, 2, 3, 4, 5, 6, 7] rfl
          have hD : va_D A [(x0, .inr (5, [.ref b0, .ref n0, .ref n1, .ref n2, .int tA, .int wP, .int nT, .int aK, .int lK, .int sW, .int rF])), (s0, .inr (4, [.ref b0, .ref s1, .ref s2, .long op, .int re])), (s1, .inl (G.2 1, 384, .inr (.inl dk))), (s2, .inl (G.2 1, 40, .inr (.inl wg))), (u0, .inr (4, [.ref b0, .ref u1, .ref u2, .long op_1, .int re_1])), (u1, .inl (G.2 1, 384, .inr (.inl dk_1))), (u2, .inl (G.2 1, 40, .inr (.inl wg_1))), (b0, .inr (3, [.ref b1, .ref b2, .ref b3, .ref b4, .ref b5, .ref b6, .int bn])), (b1, .inl (G.2 0, 40, .inl kf)), (b2, .inl (G.2 0, 40, .inl ff)), (b3, .inl (G.2 0, 40, .inl sf)), (b4, .inl (G.2 0, 40, .inl df)), (b5, .inl (G.2 1, 40, .inr (.inl pf))), (b6, .inl (G.2 1, 6, .inr (.inl gf)))] := hD.sub [0, 11, 12, 13, 8, 9, 10, 1, 2, 3, 4, 5, 6, 7] (by decide) rfl
          refine lv_aload_n hx hb dX2_oneNoteDoes_64 rfl (lv_at hl 2 rfl) ?_
          refine lv_iload hx hb dX2_oneNoteDoes_65 (lv_at hl 7 rfl) ?_
          refine lv_iload hx hb dX2_oneNoteDoes_67 (lv_at hl 5 rfl) ?_
          have hPc := va_P.sub (ws' := [(u0, .inr (4, [.ref b0, .ref u1, .ref u2, .long op_1, .int re_1])), (u1, .inl (G.2 1, 384, .inr (.inl dk_1))), (u2, .inl (G.2 1, 40, .inr (.inl wg_1))), (b0, .inr (3, [.ref b1, .ref b2, .ref b3, .ref b4, .ref b5, .ref b6, .int bn])), (b1, .inl (G.2 0, 40, .inl kf)), (b2, .inl (G.2 0, 40, .inl ff)), (b3, .inl (G.2 0, 40, .inl sf)), (b4, .inl (G.2 0, 40, .inl df)), (b5, .inl (G.2 1, 40, .inr (.inl pf))), (b6, .inl (G.2 1, 6, .inr (.inl gf)))]) hP [4, 5, 6, 7, 8, 9, 10, 11, 12, 13] rfl
          have hDc := hD.sub (ws' := [(u0, .inr (4, [.ref b0, .ref u1, .ref u2, .long op_1, .int re_1])), (u1, .inl (G.2 1, 384, .inr (.inl dk_1))), (u2, .inl (G.2 1, 40, .inr (.inl wg_1))), (b0, .inr (3, [.ref b1, .ref b2, .ref b3, .ref b4, .ref b5, .ref b6, .int bn])), (b1, .inl (G.2 0, 40, .inl kf)), (b2, .inl (G.2 0, 40, .inl ff)), (b3, .inl (G.2 0, 40, .inl sf)), (b4, .inl (G.2 0, 40, .inl df)), (b5, .inl (G.2 1, 40, .inr (.inl pf))), (b6, .inl (G.2 1, 6, .inr (.inl gf)))]) [4, 5, 6, 7, 8, 9, 10, 11, 12, 13] (by decide) rfl
          have hFc := va_free (wc := [(u0, .inr (4, [.ref b0, .ref u1, .ref u2, .long op_1, .int re_1])), (u1, .inl (G.2 1, 384, .inr (.inl dk_1))), (u2, .inl (G.2 1, 40, .inr (.inl wg_1))), (b0, .inr (3, [.ref b1, .ref b2, .ref b3, .ref b4, .ref b5, .ref b6, .int bn])), (b1, .inl (G.2 0, 40, .inl kf)), (b2, .inl (G.2 0, 40, .inl ff)), (b3, .inl (G.2 0, 40, .inl sf)), (b4, .inl (G.2 0, 40, .inl df)), (b5, .inl (G.2 1, 40, .inr (.inl pf))), (b6, .inl (G.2 1, 6, .inr (.inl gf)))]) hD hS hA [4, 5, 6, 7, 8, 9, 10, 11, 12, 13] rfl
          refine va_calli (va_runV (C := RX1) (As := [.int i8, .int i5]) (rest := []) ⟨hx, hb, hml, hown, hts⟩ (kX1_passOn l G u0 u1 u2 b0 b1 b2 b3 b4 b5 b6 dk_1 wg_1 op_1 re_1 kf ff sf df pf gf bn i8 i5 _ h) (cwV 2 hts (gdV q470 q471 q472 q3 q473) rfl rfl rfl (by decide +kernel) ⟨Nat.le_of_ble_eq_true rfl, Nat.le_of_ble_eq_true rfl⟩) (preVw hPc hKK hDc (va_recv hK hPc (ci := 4) (q0 := 0) rfl rfl)) rfl rfl hl.1 rfl (lv_room (Nat.le_of_ble_eq_true rfl)) dX2_oneNoteDoes_69 ⟨Nat.zero_le _, Nat.zero_le _⟩) hS (fun q _ h => hFc q h) hFc (fun r_3 u t H1 locs ht hvm h hB hz1 hk1 hS => ?_)
          obtain ⟨dk_2, rfl⟩ : ∃ z, z = u := ⟨_, rfl⟩
          obtain ⟨hP1, hD1⟩ := hB
          rw [ht] at hP1
          obtain ⟨hP, hD⟩ := va_join (wr := [(x0, .inr (5, [.ref b0, .ref n0, .ref n1, .ref n2, .int tA, .int wP, .int nT, .int aK, .int lK, .int sW, .int rF])), (s0, .inr (4, [.ref b0, .ref s1, .ref s2, .long op, .int re])), (s1, .inl (G.2 1, 384, .inr (.inl dk))), (s2, .inl (G.2 1, 40, .inr (.inl wg)))]) (w1 := [(u0, .inr (4, [.ref b0, .ref u1, .ref u2, .long op_1, .int re_1])), (u1, .inl (G.2 1, 384, .inr (.inl dk_2))), (u2, .inl (G.2 1, 40, .inr (.inl wg_1))), (b0, .inr (3, [.ref b1, .ref b2, .ref b3, .ref b4, .ref b5, .ref b6, .int bn])), (b1, .inl (G.2 0, 40, .inl kf)), (b2, .inl (G.2 0, 40, .inl ff)), (b3, .inl (G.2 0, 40, .inl sf)), (b4, .inl (G.2 0, 40, .inl df)), (b5, .inl (G.2 1, 40, .inr (.inl pf))), (b6, .inl (G.2 1, 6, .inr (.inl gf)))]) hP hD [4, 5, 6, 7, 8, 9, 10, 11, 12, 13] [0, 1, 2, 3] rfl rfl (by decide) (by decide) hk1 hFc hP1 hD1
          generalize H1 = H at hP hS ⊢
          have hP : PP G [(x0, .inr (5, [.ref b0, .ref n0, .ref n1, .ref n2, .int tA, .int wP, .int nT, .int aK, .int lK, .int sW, .int rF])), (s0, .inr (4, [.ref b0, .ref s1, .ref s2, .long op, .int re])), (s1, .inl (G.2 1, 384, .inr (.inl dk))), (s2, .inl (G.2 1, 40, .inr (.inl wg))), (u0, .inr (4, [.ref b0, .ref u1, .ref u2, .long op_1, .int re_1])), (u1, .inl (G.2 1, 384, .inr (.inl dk_2))), (u2, .inl (G.2 1, 40, .inr (.inl wg_1))), (b0, .inr (3, [.ref b1, .ref b2, .ref b3, .ref b4, .ref b5, .ref b6, .int bn])), (b1, .inl (G.2 0, 40, .inl kf)), (b2, .inl (G.2 0, 40, .inl ff)), (b3, .inl (G.2 0, 40, .inl sf)), (b4, .inl (G.2 0, 40, .inl df)), (b5, .inl (G.2 1, 40, .inr (.inl pf))), (b6, .inl (G.2 1, 6, .inr (.inl gf)))] H := va_P.sub hP [0, 1, 2, 3, 4, 5, 6, 7, 8, 9, 10, 11, 12, 13] rfl
          have hD : va_D A [(x0, .inr (5, [.ref b0, .ref n0, .ref n1, .ref n2, .int tA, .int wP, .int nT, .int aK, .int lK, .int sW, .int rF])), (s0, .inr (4, [.ref b0, .ref s1, .ref s2, .long op, .int re])), (s1, .inl (G.2 1, 384, .inr (.inl dk))), (s2, .inl (G.2 1, 40, .inr (.inl wg))), (u0, .inr (4, [.ref b0, .ref u1, .ref u2, .long op_1, .int re_1])), (u1, .inl (G.2 1, 384, .inr (.inl dk_2))), (u2, .inl (G.2 1, 40, .inr (.inl wg_1))), (b0, .inr (3, [.ref b1, .ref b2, .ref b3, .ref b4, .ref b5, .ref b6, .int bn])), (b1, .inl (G.2 0, 40, .inl kf)), (b2, .inl (G.2 0, 40, .inl ff)), (b3, .inl (G.2 0, 40, .inl sf)), (b4, .inl (G.2 0, 40, .inl df)), (b5, .inl (G.2 1, 40, .inr (.inl pf))), (b6, .inl (G.2 1, 6, .inr (.inl gf)))] := hD.sub [0, 1, 2, 3, 4, 5, 6, 7, 8, 9, 10, 11, 12, 13] (by decide) rfl
          refine lv_if_ne (tgt := 78) hx hb dX2_oneNoteDoes_72 (by decide) (fun hc => ?_) (fun hc => ?_)
          · have h := h.1 hc
            refine lv_aload_n hx hb dX2_oneNoteDoes_78 rfl (lv_at hl 2 rfl) ?_
            refine lv_lload hx hb dX2_oneNoteDoes_79 (lv_at hl 6 rfl) ?_
            have hPc := va_P.sub (ws' := [(u0, .inr (4, [.ref b0, .ref u1, .ref u2, .long op_1, .int re_1])), (u1, .inl (G.2 1, 384, .inr (.inl dk_2))), (u2, .inl (G.2 1, 40, .inr (.inl wg_1))), (b0, .inr (3, [.ref b1, .ref b2, .ref b3, .ref b4, .ref b5, .ref b6, .int bn])), (b1, .inl (G.2 0, 40, .inl kf)), (b2, .inl (G.2 0, 40, .inl ff)), (b3, .inl (G.2 0, 40, .inl sf)), (b4, .inl (G.2 0, 40, .inl df)), (b5, .inl (G.2 1, 40, .inr (.inl pf))), (b6, .inl (G.2 1, 6, .inr (.inl gf)))]) hP [4, 5, 6, 7, 8, 9, 10, 11, 12, 13] rfl
            have hDc := hD.sub (ws' := [(u0, .inr (4, [.ref b0, .ref u1, .ref u2, .long op_1, .int re_1])), (u1, .inl (G.2 1, 384, .inr (.inl dk_2))), (u2, .inl (G.2 1, 40, .inr (.inl wg_1))), (b0, .inr (3, [.ref b1, .ref b2, .ref b3, .ref b4, .ref b5, .ref b6, .int bn])), (b1, .inl (G.2 0, 40, .inl kf)), (b2, .inl (G.2 0, 40, .inl ff)), (b3, .inl (G.2 0, 40, .inl sf)), (b4, .inl (G.2 0, 40, .inl df)), (b5, .inl (G.2 1, 40, .inr (.inl pf))), (b6, .inl (G.2 1, 6, .inr (.inl gf)))]) [4, 5, 6, 7, 8, 9, 10, 11, 12, 13] (by decide) rfl
            have hFc := va_free (wc := [(u0, .inr (4, [.ref b0, .ref u1, .ref u2, .long op_1, .int re_1])), (u1, .inl (G.2 1, 384, .inr (.inl dk_2))), (u2, .inl (G.2 1, 40, .inr (.inl wg_1))), (b0, .inr (3, [.ref b1, .ref b2, .ref b3, .ref b4, .ref b5, .ref b6, .int bn])), (b1, .inl (G.2 0, 40, .inl kf)), (b2, .inl (G.2 0, 40, .inl ff)), (b3, .inl (G.2 0, 40, .inl sf)), (b4, .inl (G.2 0, 40, .inl df)), (b5, .inl (G.2 1, 40, .inr (.inl pf))), (b6, .inl (G.2 1, 6, .inr (.inl gf)))]) hD hS hA [4, 5, 6, 7, 8, 9, 10, 11, 12, 13] rfl
            have hZc := (hZ.kept hS.2.1).narrow hFc
            refine va_callv (va_runV (C := RX1) (As := [.long r_1]) (rest := []) ⟨hx, hb, hml, hown, hts⟩ (kX1_weigh l G u0 u1 u2 b0 b1 b2 b3 b4 b5 b6 dk_2 wg_1 op_1 re_1 kf ff sf df pf gf bn r_1 _ h) (cwV 1 hts (gdV q475 q104 q105 q3 q106) rfl rfl rfl (by decide +kernel) ⟨Nat.le_of_ble_eq_true rfl, Nat.le_of_ble_eq_true rfl⟩) (preVwz hPc hKK hDc hZc (va_recv hK hPc (ci := 4) (q0 := 0) rfl rfl)) rfl rfl hl.1 rfl (lv_room (Nat.le_of_ble_eq_true rfl)) dX2_oneNoteDoes_81 ⟨Nat.zero_le _, Nat.zero_le _⟩) hS (fun q _ h => hFc q h) hFc (fun u t H1 locs ht hvm h hB hz1 hk1 hS => ?_)
            obtain ⟨wg_2, rfl⟩ : ∃ z, z = u := ⟨_, rfl⟩
            obtain ⟨hP1, hD1⟩ := hB
            rw [ht] at hP1
            obtain ⟨hP, hD⟩ := va_join (wr := [(x0, .inr (5, [.ref b0, .ref n0, .ref n1, .ref n2, .int tA, .int wP, .int nT, .int aK, .int lK, .int sW, .int rF])), (s0, .inr (4, [.ref b0, .ref s1, .ref s2, .long op, .int re])), (s1, .inl (G.2 1, 384, .inr (.inl dk))), (s2, .inl (G.2 1, 40, .inr (.inl wg)))]) (w1 := [(u0, .inr (4, [.ref b0, .ref u1, .ref u2, .long op_1, .int re_1])), (u1, .inl (G.2 1, 384, .inr (.inl dk_2))), (u2, .inl (G.2 1, 40, .inr (.inl wg_2))), (b0, .inr (3, [.ref b1, .ref b2, .ref b3, .ref b4, .ref b5, .ref b6, .int bn])), (b1, .inl (G.2 0, 40, .inl kf)), (b2, .inl (G.2 0, 40, .inl ff)), (b3, .inl (G.2 0, 40, .inl sf)), (b4, .inl (G.2 0, 40, .inl df)), (b5, .inl (G.2 1, 40, .inr (.inl pf))), (b6, .inl (G.2 1, 6, .inr (.inl gf)))]) hP hD [4, 5, 6, 7, 8, 9, 10, 11, 12, 13] [0, 1, 2, 3] rfl rfl (by decide) (by decide) hk1 hFc hP1 hD1
            generalize H1 = H at hP hS ⊢
            have hP : PP G [(x0, .inr (5, [.ref b0, .ref n0, .ref n1, .ref n2, .int tA, .int wP, .int nT, .int aK, .int lK, .int sW, .int rF])), (s0, .inr (4, [.ref b0, .ref s1, .ref s2, .long op, .int re])), (s1, .inl (G.2 1, 384, .inr (.inl dk))), (s2, .inl (G.2 1, 40, .inr (.inl wg))), (u0, .inr (4, [.ref b0, .ref u1, .ref u2, .long op_1, .int re_1])), (u1, .inl (G.2 1, 384, .inr (.inl dk_2))), (u2, .inl (G.2 1, 40, .inr (.inl wg_2))), (b0, .inr (3, [.ref b1, .ref b2, .ref b3, .ref b4, .ref b5, .ref b6, .int bn])), (b1, .inl (G.2 0, 40, .inl kf)), (b2, .inl (G.2 0, 40, .inl ff)), (b3, .inl (G.2 0, 40, .inl sf)), (b4, .inl (G.2 0, 40, .inl df)), (b5, .inl (G.2 1, 40, .inr (.inl pf))), (b6, .inl (G.2 1, 6, .inr (.inl gf)))] H := va_P.sub hP [0, 1, 2, 3, 4, 5, 6, 7, 8, 9, 10, 11, 12, 13] rfl
            have hD : va_D A [(x0, .inr (5, [.ref b0, .ref n0, .ref n1, .ref n2, .int tA, .int wP, .int nT, .int aK, .int lK, .int sW, .int rF])), (s0, .inr (4, [.ref b0, .ref s1, .ref s2, .long op, .int re])), (s1, .inl (G.2 1, 384, .inr (.inl dk))), (s2, .inl (G.2 1, 40, .inr (.inl wg))), (u0, .inr (4, [.ref b0, .ref u1, .ref u2, .long op_1, .int re_1])), (u1, .inl (G.2 1, 384, .inr (.inl dk_2))), (u2, .inl (G.2 1, 40, .inr (.inl wg_2))), (b0, .inr (3, [.ref b1, .ref b2, .ref b3, .ref b4, .ref b5, .ref b6, .int bn])), (b1, .inl (G.2 0, 40, .inl kf)), (b2, .inl (G.2 0, 40, .inl ff)), (b3, .inl (G.2 0, 40, .inl sf)), (b4, .inl (G.2 0, 40, .inl df)), (b5, .inl (G.2 1, 40, .inr (.inl pf))), (b6, .inl (G.2 1, 6, .inr (.inl gf)))] := hD.sub [0, 1, 2, 3, 4, 5, 6, 7, 8, 9, 10, 11, 12, 13] (by decide) rfl
            refine lv_aload_n hx hb dX2_oneNoteDoes_84 rfl (lv_at hl 2 rfl) ?_
            refine lv_iload_n hx hb dX2_oneNoteDoes_85 rfl (lv_at hl 3 rfl) ?_
            refine lv_iload hx hb dX2_oneNoteDoes_86 (lv_at hl 4 rfl) ?_
            have hPc := va_P.sub (ws' := [(u0, .inr (4, [.ref b0, .ref u1, .ref u2, .long op_1, .int re_1])), (u1, .inl (G.2 1, 384, .inr (.inl dk_2))), (u2, .inl (G.2 1, 40, .inr (.inl wg_2))), (b0, .inr (3, [.ref b1, .ref b2, .ref b3, .ref b4, .ref b5, .ref b6, .int bn])), (b1, .inl (G.2 0, 40, .inl kf)), (b2, .inl (G.2 0, 40, .inl ff)), (b3, .inl (G.2 0, 40, .inl sf)), (b4, .inl (G.2 0, 40, .inl df)), (b5, .inl (G.2 1, 40, .inr (.inl pf))), (b6, .inl (G.2 1, 6, .inr (.inl gf)))]) hP [4, 5, 6, 7, 8, 9, 10, 11, 12, 13] rfl
            refine rdI (va_runV (C := RX1) (As := [.int p3, .int p4]) (rest := []) ⟨hx, hb, hml, hown, hts⟩ (kX1_knows l G u0 u1 u2 b0 b1 b2 b3 b4 b5 b6 dk_2 wg_2 op_1 re_1 kf ff sf df pf gf bn p3 p4 h) (cwV 2 hts (gdV q449 q236 q237 q3 q238) rfl rfl rfl (by decide +kernel) ⟨Nat.le_of_ble_eq_true rfl, Nat.le_of_ble_eq_true rfl⟩) (preV hPc hKK (va_recv hK hPc (ci := 4) (q0 := 0) rfl rfl)) rfl rfl hl.1 rfl (lv_room (Nat.le_of_ble_eq_true rfl)) dX2_oneNoteDoes_88 ⟨Nat.zero_le _, Nat.zero_le _⟩) (fun r_5 h => ?_)
            refine lv_if_eq (tgt := 96) hx hb dX2_oneNoteDoes_91 (by decide) (fun hc => ?_) (fun hc => ?_)
            · have h := h.1 hc
              refine lv_iinc (v := (i8 + 1)) hx hb dX2_oneNoteDoes_96 hl (k := 7) rfl (by rw [show Int32.ofInt 1 = 1 from by decide]) (Nat.le_of_ble_eq_true rfl) rfl (fun ls hl => ?_)
              have hl : lv_has ls 9 [(8, .int (i8 + 1)), (0, .ref x0), (1, .ref s0), (2, .ref u0), (3, .int p3), (4, .int p4), (5, .int i5), (6, .long r_1)] := hl
              refine lv_goto (tgt := 42) hx hb dX2_oneNoteDoes_99 (by decide) ?_
              have hl := lv_sub (l' := [(0, .ref x0), (1, .ref s0), (2, .ref u0), (3, .int p3), (4, .int p4), (5, .int i5), (6, .long r_1), (8, .int (i8 + 1))]) hl [1, 2, 3, 4, 5, 6, 7, 0] rfl
              exact ih _ _ _ _ _ ls H locs hl hP hD hS h
            · have h := h.2 hc
              refine lv_iconst (v := 1) hx hb dX2_oneNoteDoes_94 (by decide) ?_
              subst hQC; exact W.zret (v := (1 : Int32)) hx hb hr (by decide) (fun t ht hW => ⟨⟨_, (dk_2, wg_2, op_1, re_1), rfl, h, by rw [ht]; exact hP, hD⟩, hS.F ht⟩) hS.2.2 dX2_oneNoteDoes_95
          · have h := h.2 hc
            refine lv_goto (tgt := 96) hx hb dX2_oneNoteDoes_75 (by decide) ?_
            refine lv_iinc (v := (i8 + 1)) hx hb dX2_oneNoteDoes_96 hl (k := 7) rfl (by rw [show Int32.ofInt 1 = 1 from by decide]) (Nat.le_of_ble_eq_true rfl) rfl (fun ls hl => ?_)
            have hl : lv_has ls 9 [(8, .int (i8 + 1)), (0, .ref x0), (1, .ref s0), (2, .ref u0), (3, .int p3), (4, .int p4), (5, .int i5), (6, .long r_1)] := hl
            refine lv_goto (tgt := 42) hx hb dX2_oneNoteDoes_99 (by decide) ?_
            have hl := lv_sub (l' := [(0, .ref x0), (1, .ref s0), (2, .ref u0), (3, .int p3), (4, .int p4), (5, .int i5), (6, .long r_1), (8, .int (i8 + 1))]) hl [1, 2, 3, 4, 5, 6, 7, 0] rfl
            exact ih _ _ _ _ _ ls H locs hl hP hD hS h
        · have h := h.2 hc
          refine lv_goto (tgt := 96) hx hb dX2_oneNoteDoes_56 (by decide) ?_
          refine lv_iinc (v := (i8 + 1)) hx hb dX2_oneNoteDoes_96 hl (k := 7) rfl (by rw [show Int32.ofInt 1 = 1 from by decide]) (Nat.le_of_ble_eq_true rfl) rfl (fun ls hl => ?_)
          have hl : lv_has ls 9 [(8, .int (i8 + 1)), (0, .ref x0), (1, .ref s0), (2, .ref u0), (3, .int p3), (4, .int p4), (5, .int i5), (6, .long r_1)] := hl
          refine lv_goto (tgt := 42) hx hb dX2_oneNoteDoes_99 (by decide) ?_
          have hl := lv_sub (l' := [(0, .ref x0), (1, .ref s0), (2, .ref u0), (3, .int p3), (4, .int p4), (5, .int i5), (6, .long r_1), (8, .int (i8 + 1))]) hl [1, 2, 3, 4, 5, 6, 7, 0] rfl
          exact ih _ _ _ _ _ ls H locs hl hP hD hS h
  have loop3 : ∀ (K108 : Int32 → (Nat → Int64) → (Nat → Int64) → Int64 → Int32 → Prop), True → (∀ (i5 : Int32) (uk' : Nat → Int64) (uw' : Nat → Int64) (uo' : Int64) (ur' : Int32) (ls : Array Slot) (H : Heap) (locs : List Loc), lv_has ls 9 [(0, .ref x0), (1, .ref s0), (2, .ref u0), (3, .int p3), (4, .int p4), (5, .int i5)] → PP G [(x0, .inr (5, [.ref b0, .ref n0, .ref n1, .ref n2, .int tA, .int wP, .int nT, .int aK, .int lK, .int sW, .int rF])), (s0, .inr (4, [.ref b0, .ref s1, .ref s2, .long op, .int re])), (s1, .inl (G.2 1, 384, .inr (.inl dk))), (s2, .inl (G.2 1, 40, .inr (.inl wg))), (u0, .inr (4, [.ref b0, .ref u1, .ref u2, .long uo', .int ur'])), (u1, .inl (G.2 1, 384, .inr (.inl uk'))), (u2, .inl (G.2 1, 40, .inr (.inl uw'))), (b0, .inr (3, [.ref b1, .ref b2, .ref b3, .ref b4, .ref b5, .ref b6, .int bn])), (b1, .inl (G.2 0, 40, .inl kf)), (b2, .inl (G.2 0, 40, .inl ff)), (b3, .inl (G.2 0, 40, .inl sf)), (b4, .inl (G.2 0, 40, .inl df)), (b5, .inl (G.2 1, 40, .inr (.inl pf))), (b6, .inl (G.2 1, 6, .inr (.inl gf)))] H → va_D A [(x0, .inr (5, [.ref b0, .ref n0, .ref n1, .ref n2, .int tA, .int wP, .int nT, .int aK, .int lK, .int sW, .int rF])), (s0, .inr (4, [.ref b0, .ref s1, .ref s2, .long op, .int re])), (s1, .inl (G.2 1, 384, .inr (.inl dk))), (s2, .inl (G.2 1, 40, .inr (.inl wg))), (u0, .inr (4, [.ref b0, .ref u1, .ref u2, .long uo', .int ur'])), (u1, .inl (G.2 1, 384, .inr (.inl uk'))), (u2, .inl (G.2 1, 40, .inr (.inl uw'))), (b0, .inr (3, [.ref b1, .ref b2, .ref b3, .ref b4, .ref b5, .ref b6, .int bn])), (b1, .inl (G.2 0, 40, .inl kf)), (b2, .inl (G.2 0, 40, .inl ff)), (b3, .inl (G.2 0, 40, .inl sf)), (b4, .inl (G.2 0, 40, .inl df)), (b5, .inl (G.2 1, 40, .inr (.inl pf))), (b6, .inl (G.2 1, 6, .inr (.inl gf)))] → va_S A s.heap H locs → K108 i5 uk' uw' uo' ur' → W p l e (headSpec (wl_X2_oneNoteDoes) rm_X2_oneNoteDoes).room s m ([.ref x0, .ref s0, .ref u0, .int p3, .int p4] : List Value).toArray below meth c H locs 0 0 (MQ below QC ([.ref x0, .ref s0, .ref u0, .int p3, .int p4] : List Value).toArray s 0 0 A) (F0 m 108 ls [])) → ∀ (n : Nat) (i5 : Int32) (uk' : Nat → Int64) (uw' : Nat → Int64) (uo' : Int64) (ur' : Int32) (ls : Array Slot) (H : Heap) (locs : List Loc), lv_has ls 9 [(0, .ref x0), (1, .ref s0), (2, .ref u0), (3, .int p3), (4, .int p4), (5, .int i5)] → PP G [(x0, .inr (5, [.ref b0, .ref n0, .ref n1, .ref n2, .int tA, .int wP, .int nT, .int aK, .int lK, .int sW, .int rF])), (s0, .inr (4, [.ref b0, .ref s1, .ref s2, .long op, .int re])), (s1, .inl (G.2 1, 384, .inr (.inl dk))), (s2, .inl (G.2 1, 40, .inr (.inl wg))), (u0, .inr (4, [.ref b0, .ref u1, .ref u2, .long uo', .int ur'])), (u1, .inl (G.2 1, 384, .inr (.inl uk'))), (u2, .inl (G.2 1, 40, .inr (.inl uw'))), (b0, .inr (3, [.ref b1, .ref b2, .ref b3, .ref b4, .ref b5, .ref b6, .int bn])), (b1, .inl (G.2 0, 40, .inl kf)), (b2, .inl (G.2 0, 40, .inl ff)), (b3, .inl (G.2 0, 40, .inl sf)), (b4, .inl (G.2 0, 40, .inl df)), (b5, .inl (G.2 1, 40, .inr (.inl pf))), (b6, .inl (G.2 1, 6, .inr (.inl gf)))] H → va_D A [(x0, .inr (5, [.ref b0, .ref n0, .ref n1, .ref n2, .int tA, .int wP, .int nT, .int aK, .int lK, .int sW, .int rF])), (s0, .inr (4, [.ref b0, .ref s1, .ref s2, .long op, .int re])), (s1, .inl (G.2 1, 384, .inr (.inl dk))), (s2, .inl (G.2 1, 40, .inr (.inl wg))), (u0, .inr (4, [.ref b0, .ref u1, .ref u2, .long uo', .int ur'])), (u1, .inl (G.2 1, 384, .inr (.inl uk'))), (u2, .inl (G.2 1, 40, .inr (.inl uw'))), (b0, .inr (3, [.ref b1, .ref b2, .ref b3, .ref b4, .ref b5, .ref b6, .int bn])), (b1, .inl (G.2 0, 40, .inl kf)), (b2, .inl (G.2 0, 40, .inl ff)), (b3, .inl (G.2 0, 40, .inl sf)), (b4, .inl (G.2 0, 40, .inl df)), (b5, .inl (G.2 1, 40, .inr (.inl pf))), (b6, .inl (G.2 1, 6, .inr (.inl gf)))] → va_S A s.heap H locs → wX2_oneNoteDoes_L3 post K108 dk wg op re kf ff sf pf gf bn p3 p4 n i5 uk' uw' uo' ur' → W p l e (headSpec (wl_X2_oneNoteDoes) rm_X2_oneNoteDoes).room s m ([.ref x0, .ref s0, .ref u0, .int p3, .int p4] : List Value).toArray below meth c H locs 0 0 (MQ below QC ([.ref x0, .ref s0, .ref u0, .int p3, .int p4] : List Value).toArray s 0 0 A) (F0 m 3 ls []) := by
    intro K108 _ hexit108 n
    induction n with
    | zero => intro i5 uk' uw' uo' ur' ls H locs hl hP hD hS h; exact False.elim h
    | succ n ih =>
      intro i5 uk' uw' uo' ur' ls H locs hl hP hD hS h
      refine lv_iload hx hb dX2_oneNoteDoes_3 (lv_at hl 5 rfl) ?_
      refine lv_bipush (v := 6) hx hb dX2_oneNoteDoes_5 (by decide) ?_
      refine lv_icmp_ge (tgt := 108) hx hb dX2_oneNoteDoes_7 (by decide) (fun hc => ?_) (fun hc => ?_)
      · have h := h.1 hc
        have hl := lv_sub (l' := [(0, .ref x0), (1, .ref s0), (2, .ref u0), (3, .int p3), (4, .int p4), (5, .int i5)]) hl [0, 1, 2, 3, 4, 5] rfl
        exact hexit108 _ _ _ _ _ ls H locs hl hP hD hS h
      · have h := h.2 hc
        refine lv_aload_n hx hb dX2_oneNoteDoes_10 rfl (lv_at hl 0 rfl) ?_
        refine va_get (D := G.1) (ci := 5) (v := .ref b0) (C := RX2) (T := TX2) (N := 11) hx hb hts igX2 hown hK hP 0 rfl rfl 0 (by decide) (hts _ q176) (fun _ h9 => h9) rfl dX2_oneNoteDoes_11 ?_
        refine lv_iload hx hb dX2_oneNoteDoes_14 (lv_at hl 5 rfl) ?_
        refine lv_iload hx hb dX2_oneNoteDoes_16 (lv_at hl 4 rfl) ?_
        have hPc := va_P.sub (ws' := [(b0, .inr (3, [.ref b1, .ref b2, .ref b3, .ref b4, .ref b5, .ref b6, .int bn])), (b1, .inl (G.2 0, 40, .inl kf)), (b2, .inl (G.2 0, 40, .inl ff)), (b3, .inl (G.2 0, 40, .inl sf)), (b4, .inl (G.2 0, 40, .inl df)), (b5, .inl (G.2 1, 40, .inr (.inl pf))), (b6, .inl (G.2 1, 6, .inr (.inl gf)))]) hP [7, 8, 9, 10, 11, 12, 13] rfl
        refine rdL (va_runV (C := RX0) (As := [.int i5, .int p4]) (rest := []) ⟨hx, hb, hml, hown, hts⟩ (kX0_hangingOn l G b0 b1 b2 b3 b4 b5 b6 kf ff sf df pf gf bn i5 p4 h) (cwV 2 hts (gdV q454 q455 q456 q2 q457) rfl rfl rfl (by decide +kernel) ⟨Nat.le_of_ble_eq_true rfl, Nat.le_of_ble_eq_true rfl⟩) (preV hPc hKK (va_recv hK hPc (ci := 3) (q0 := 0) rfl rfl)) rfl rfl hl.1 rfl (lv_room (Nat.le_of_ble_eq_true rfl)) dX2_oneNoteDoes_18 ⟨Nat.zero_le _, Nat.zero_le _⟩) (fun r_1 h => ?_)
        refine lv_lstore hx hb dX2_oneNoteDoes_21 hl (Nat.le_of_ble_eq_true rfl) rfl (fun ls hl => ?_)
        have hl : lv_has ls 9 [(6, .long r_1), (0, .ref x0), (1, .ref s0), (2, .ref u0), (3, .int p3), (4, .int p4), (5, .int i5)] := hl
        refine lv_iload hx hb dX2_oneNoteDoes_23 (lv_at hl 6 rfl) ?_
        refine lv_iload_n hx hb dX2_oneNoteDoes_25 rfl (lv_at hl 4 rfl) ?_
        refine lv_icmp_eq (tgt := 39) hx hb dX2_oneNoteDoes_26 (by decide) (fun hc => ?_) (fun hc => ?_)
        · have h := h.1 hc
          refine lv_iconst (v := 0) hx hb dX2_oneNoteDoes_39 (by decide) ?_
          refine lv_istore hx hb dX2_oneNoteDoes_40 hl (Nat.le_of_ble_eq_true rfl) rfl (fun ls hl => ?_)
          have hl : lv_has ls 9 [(8, .int (0 : Int32)), (6, .long r_1), (0, .ref x0), (1, .ref s0), (2, .ref u0), (3, .int p3), (4, .int p4), (5, .int i5)] := hl
          have hl := lv_sub (l' := [(0, .ref x0), (1, .ref s0), (2, .ref u0), (3, .int p3), (4, .int p4), (5, .int i5), (6, .long r_1), (8, .int (0 : Int32))]) hl [2, 3, 4, 5, 6, 7, 1, 0] rfl
          obtain ⟨nF, h⟩ := h
          refine loop42 _ i5 r_1 trivial ?_ nF (0 : Int32) uk' uw' uo' ur' _ _ _ hl hP hD hS h
          · intro i8 uk' uw' uo' ur' ls H locs hl hP hD hS h
            refine lv_iinc (v := (i5 + 1)) hx hb dX2_oneNoteDoes_102 hl (k := 5) rfl (by rw [show Int32.ofInt 1 = 1 from by decide]) (Nat.le_of_ble_eq_true rfl) rfl (fun ls hl => ?_)
            have hl : lv_has ls 9 [(5, .int (i5 + 1)), (0, .ref x0), (1, .ref s0), (2, .ref u0), (3, .int p3), (4, .int p4), (6, .long r_1), (8, .int i8)] := hl
            refine lv_goto (tgt := 3) hx hb dX2_oneNoteDoes_105 (by decide) ?_
            have hl := lv_sub (l' := [(0, .ref x0), (1, .ref s0), (2, .ref u0), (3, .int p3), (4, .int p4), (5, .int (i5 + 1))]) hl [1, 2, 3, 4, 5, 0] rfl
            exact ih _ _ _ _ _ ls H locs hl hP hD hS h
        · have h := h.2 hc
          refine lv_lload hx hb dX2_oneNoteDoes_29 (lv_at hl 0 rfl) ?_
          refine lv_lconst (v := 0) hx hb dX2_oneNoteDoes_31 (by decide) ?_
          refine W.lcmp hx hb dX2_oneNoteDoes_32 ?_
          refine lv_if_ne (tgt := 39) hx hb dX2_oneNoteDoes_33 (by decide) (fun hc => ?_) (fun hc => ?_)
          · have h := h.1 hc
            refine lv_iconst (v := 0) hx hb dX2_oneNoteDoes_39 (by decide) ?_
            refine lv_istore hx hb dX2_oneNoteDoes_40 hl (Nat.le_of_ble_eq_true rfl) rfl (fun ls hl => ?_)
            have hl : lv_has ls 9 [(8, .int (0 : Int32)), (6, .long r_1), (0, .ref x0), (1, .ref s0), (2, .ref u0), (3, .int p3), (4, .int p4), (5, .int i5)] := hl
            have hl := lv_sub (l' := [(0, .ref x0), (1, .ref s0), (2, .ref u0), (3, .int p3), (4, .int p4), (5, .int i5), (6, .long r_1), (8, .int (0 : Int32))]) hl [2, 3, 4, 5, 6, 7, 1, 0] rfl
            obtain ⟨nF, h⟩ := h
            refine loop42 _ i5 r_1 trivial ?_ nF (0 : Int32) uk' uw' uo' ur' _ _ _ hl hP hD hS h
            · intro i8 uk' uw' uo' ur' ls H locs hl hP hD hS h
              refine lv_iinc (v := (i5 + 1)) hx hb dX2_oneNoteDoes_102 hl (k := 5) rfl (by rw [show Int32.ofInt 1 = 1 from by decide]) (Nat.le_of_ble_eq_true rfl) rfl (fun ls hl => ?_)
              have hl : lv_has ls 9 [(5, .int (i5 + 1)), (0, .ref x0), (1, .ref s0), (2, .ref u0), (3, .int p3), (4, .int p4), (6, .long r_1), (8, .int i8)] := hl
              refine lv_goto (tgt := 3) hx hb dX2_oneNoteDoes_105 (by decide) ?_
              have hl := lv_sub (l' := [(0, .ref x0), (1, .ref s0), (2, .ref u0), (3, .int p3), (4, .int p4), (5, .int (i5 + 1))]) hl [1, 2, 3, 4, 5, 0] rfl
              exact ih _ _ _ _ _ ls H locs hl hP hD hS h
          · have h := h.2 hc
            refine lv_goto (tgt := 102) hx hb dX2_oneNoteDoes_36 (by decide) ?_
            refine lv_iinc (v := (i5 + 1)) hx hb dX2_oneNoteDoes_102 hl (k := 6) rfl (by rw [show Int32.ofInt 1 = 1 from by decide]) (Nat.le_of_ble_eq_true rfl) rfl (fun ls hl => ?_)
            have hl : lv_has ls 9 [(5, .int (i5 + 1)), (6, .long r_1), (0, .ref x0), (1, .ref s0), (2, .ref u0), (3, .int p3), (4, .int p4)] := hl
            refine lv_goto (tgt := 3) hx hb dX2_oneNoteDoes_105 (by decide) ?_
            have hl := lv_sub (l' := [(0, .ref x0), (1, .ref s0), (2, .ref u0), (3, .int p3), (4, .int p4), (5, .int (i5 + 1))]) hl [2, 3, 4, 5, 6, 0] rfl
            exact ih _ _ _ _ _ ls H locs hl hP hD hS h
  refine lv_iconst (v := 0) hx hb dX2_oneNoteDoes_0 (by decide) ?_
  refine lv_istore hx hb dX2_oneNoteDoes_1 hl (Nat.le_of_ble_eq_true rfl) rfl (fun ls hl => ?_)
  have hl : lv_has ls 9 [(5, .int (0 : Int32)), (0, .ref x0), (1, .ref s0), (2, .ref u0), (3, .int p3), (4, .int p4)] := hl
  have hl := lv_sub (l' := [(0, .ref x0), (1, .ref s0), (2, .ref u0), (3, .int p3), (4, .int p4), (5, .int (0 : Int32))]) hl [1, 2, 3, 4, 5, 0] rfl
  obtain ⟨nF, h⟩ := h
  refine loop3 _ trivial ?_ nF (0 : Int32) uk uw uo ur _ _ _ hl hP hD hS h
  · intro i5 uk' uw' uo' ur' ls H locs hl hP hD hS h
    refine lv_iconst (v := 0) hx hb dX2_oneNoteDoes_108 (by decide) ?_
    subst hQC; exact W.zret (v := (0 : Int32)) hx hb hr (by decide) (fun t ht hW => ⟨⟨_, (uk', uw', uo', ur'), rfl, h, by rw [ht]; exact hP, hD⟩, hS.F ht⟩) hS.2.2 dX2_oneNoteDoes_109
theorem dX2_notes_0 : decode cX2_notes 0 = .ok (.iload_n 1, 1) := by decide +kernel
theorem dX2_notes_1 : decode cX2_notes 1 = .ok (.invokestatic 77, 3) := by decide +kernel
theorem dX2_notes_4 : decode cX2_notes 4 = .ok (.ifCond .eq 14, 3) := by decide +kernel
theorem dX2_notes_7 : decode cX2_notes 7 = .ok (.aload_n 0, 1) := by decide +kernel
theorem dX2_notes_8 : decode cX2_notes 8 = .ok (.getfield 10, 3) := by decide +kernel
theorem dX2_notes_11 : decode cX2_notes 11 = .ok (.iload_n 2, 1) := by decide +kernel
theorem dX2_notes_12 : decode cX2_notes 12 = .ok (.invokevirtual 116, 3) := by decide +kernel
theorem dX2_notes_15 : decode cX2_notes 15 = .ok (.ifCond .ne 13, 3) := by decide +kernel
theorem dX2_notes_18 : decode cX2_notes 18 = .ok (.new 83, 3) := by decide +kernel
theorem dX2_notes_21 : decode cX2_notes 21 = .ok (.dup, 1) := by decide +kernel
theorem dX2_notes_22 : decode cX2_notes 22 = .ok (.ldc 139, 2) := by decide +kernel
theorem dX2_notes_24 : decode cX2_notes 24 = .ok (.invokespecial 87, 3) := by decide +kernel
theorem dX2_notes_27 : decode cX2_notes 27 = .ok (.athrow, 1) := by decide +kernel
theorem dX2_notes_28 : decode cX2_notes 28 = .ok (.aload_n 0, 1) := by decide +kernel
theorem dX2_notes_29 : decode cX2_notes 29 = .ok (.getfield 21, 3) := by decide +kernel
theorem dX2_notes_32 : decode cX2_notes 32 = .ok (.iload_n 1, 1) := by decide +kernel
theorem dX2_notes_33 : decode cX2_notes 33 = .ok (.iload_n 2, 1) := by decide +kernel
theorem dX2_notes_34 : decode cX2_notes 34 = .ok (.invokevirtual 250, 3) := by decide +kernel
theorem dX2_notes_37 : decode cX2_notes 37 = .ok (.ifCond .eq 5, 3) := by decide +kernel
theorem dX2_notes_40 : decode cX2_notes 40 = .ok (.iconst 0, 1) := by decide +kernel
theorem dX2_notes_41 : decode cX2_notes 41 = .ok (.ireturn, 1) := by decide +kernel
theorem dX2_notes_42 : decode cX2_notes 42 = .ok (.aload_n 0, 1) := by decide +kernel
theorem dX2_notes_43 : decode cX2_notes 43 = .ok (.aload_n 0, 1) := by decide +kernel
theorem dX2_notes_44 : decode cX2_notes 44 = .ok (.getfield 21, 3) := by decide +kernel
theorem dX2_notes_47 : decode cX2_notes 47 = .ok (.aload_n 0, 1) := by decide +kernel
theorem dX2_notes_48 : decode cX2_notes 48 = .ok (.getfield 25, 3) := by decide +kernel
theorem dX2_notes_51 : decode cX2_notes 51 = .ok (.iload_n 1, 1) := by decide +kernel
theorem dX2_notes_52 : decode cX2_notes 52 = .ok (.iload_n 2, 1) := by decide +kernel
theorem dX2_notes_53 : decode cX2_notes 53 = .ok (.invokevirtual 253, 3) := by decide +kernel
theorem dX2_notes_56 : decode cX2_notes 56 = .ok (.ifCond .eq 5, 3) := by decide +kernel
theorem dX2_notes_59 : decode cX2_notes 59 = .ok (.iconst 1, 1) := by decide +kernel
theorem dX2_notes_60 : decode cX2_notes 60 = .ok (.ireturn, 1) := by decide +kernel
theorem dX2_notes_61 : decode cX2_notes 61 = .ok (.iconst 0, 1) := by decide +kernel
theorem dX2_notes_62 : decode cX2_notes 62 = .ok (.istore_n 3, 1) := by decide +kernel
theorem dX2_notes_63 : decode cX2_notes 63 = .ok (.iload_n 3, 1) := by decide +kernel
theorem dX2_notes_64 : decode cX2_notes 64 = .ok (.bipush 6, 2) := by decide +kernel
theorem dX2_notes_66 : decode cX2_notes 66 = .ok (.if_icmp .ge 97, 3) := by decide +kernel
theorem dX2_notes_69 : decode cX2_notes 69 = .ok (.iconst 0, 1) := by decide +kernel
theorem dX2_notes_70 : decode cX2_notes 70 = .ok (.istore 4, 2) := by decide +kernel
theorem dX2_notes_72 : decode cX2_notes 72 = .ok (.iload 4, 2) := by decide +kernel
theorem dX2_notes_74 : decode cX2_notes 74 = .ok (.bipush 6, 2) := by decide +kernel
theorem dX2_notes_76 : decode cX2_notes 76 = .ok (.if_icmp .ge 81, 3) := by decide +kernel
theorem dX2_notes_79 : decode cX2_notes 79 = .ok (.iload_n 3, 1) := by decide +kernel
theorem dX2_notes_80 : decode cX2_notes 80 = .ok (.iload 4, 2) := by decide +kernel
theorem dX2_notes_82 : decode cX2_notes 82 = .ok (.if_icmp .ne 6, 3) := by decide +kernel
theorem dX2_notes_85 : decode cX2_notes 85 = .ok (.goto 66, 3) := by decide +kernel
theorem dX2_notes_88 : decode cX2_notes 88 = .ok (.aload_n 0, 1) := by decide +kernel
theorem dX2_notes_89 : decode cX2_notes 89 = .ok (.getfield 25, 3) := by decide +kernel
theorem dX2_notes_92 : decode cX2_notes 92 = .ok (.aload_n 0, 1) := by decide +kernel
theorem dX2_notes_93 : decode cX2_notes 93 = .ok (.getfield 21, 3) := by decide +kernel
theorem dX2_notes_96 : decode cX2_notes 96 = .ok (.invokevirtual 257, 3) := by decide +kernel
theorem dX2_notes_99 : decode cX2_notes 99 = .ok (.aload_n 0, 1) := by decide +kernel
theorem dX2_notes_100 : decode cX2_notes 100 = .ok (.getfield 25, 3) := by decide +kernel
theorem dX2_notes_103 : decode cX2_notes 103 = .ok (.iload_n 3, 1) := by decide +kernel
theorem dX2_notes_104 : decode cX2_notes 104 = .ok (.iload 4, 2) := by decide +kernel
theorem dX2_notes_106 : decode cX2_notes 106 = .ok (.invokevirtual 151, 3) := by decide +kernel
theorem dX2_notes_109 : decode cX2_notes 109 = .ok (.ifCond .ne 6, 3) := by decide +kernel
theorem dX2_notes_112 : decode cX2_notes 112 = .ok (.goto 39, 3) := by decide +kernel
theorem dX2_notes_115 : decode cX2_notes 115 = .ok (.aload_n 0, 1) := by decide +kernel
theorem dX2_notes_116 : decode cX2_notes 116 = .ok (.getfield 25, 3) := by decide +kernel
theorem dX2_notes_119 : decode cX2_notes 119 = .ok (.aload_n 0, 1) := by decide +kernel
theorem dX2_notes_120 : decode cX2_notes 120 = .ok (.getfield 10, 3) := by decide +kernel
theorem dX2_notes_123 : decode cX2_notes 123 = .ok (.iload 4, 2) := by decide +kernel
theorem dX2_notes_125 : decode cX2_notes 125 = .ok (.iload_n 2, 1) := by decide +kernel
theorem dX2_notes_126 : decode cX2_notes 126 = .ok (.invokevirtual 261, 3) := by decide +kernel
theorem dX2_notes_129 : decode cX2_notes 129 = .ok (.invokevirtual 73, 3) := by decide +kernel
theorem dX2_notes_132 : decode cX2_notes 132 = .ok (.aload_n 0, 1) := by decide +kernel
theorem dX2_notes_133 : decode cX2_notes 133 = .ok (.aload_n 0, 1) := by decide +kernel
theorem dX2_notes_134 : decode cX2_notes 134 = .ok (.getfield 25, 3) := by decide +kernel
theorem dX2_notes_137 : decode cX2_notes 137 = .ok (.aload_n 0, 1) := by decide +kernel
theorem dX2_notes_138 : decode cX2_notes 138 = .ok (.getfield 28, 3) := by decide +kernel
theorem dX2_notes_141 : decode cX2_notes 141 = .ok (.iload_n 1, 1) := by decide +kernel
theorem dX2_notes_142 : decode cX2_notes 142 = .ok (.iload_n 2, 1) := by decide +kernel
theorem dX2_notes_143 : decode cX2_notes 143 = .ok (.invokevirtual 253, 3) := by decide +kernel
theorem dX2_notes_146 : decode cX2_notes 146 = .ok (.ifCond .eq 5, 3) := by decide +kernel
theorem dX2_notes_149 : decode cX2_notes 149 = .ok (.iconst 2, 1) := by decide +kernel
theorem dX2_notes_150 : decode cX2_notes 150 = .ok (.ireturn, 1) := by decide +kernel
theorem dX2_notes_151 : decode cX2_notes 151 = .ok (.iinc 4 1, 3) := by decide +kernel
theorem dX2_notes_154 : decode cX2_notes 154 = .ok (.goto (-82), 3) := by decide +kernel
theorem dX2_notes_157 : decode cX2_notes 157 = .ok (.iinc 3 1, 3) := by decide +kernel
theorem dX2_notes_160 : decode cX2_notes 160 = .ok (.goto (-97), 3) := by decide +kernel
theorem dX2_notes_163 : decode cX2_notes 163 = .ok (.iconst (-1), 1) := by decide +kernel
theorem dX2_notes_164 : decode cX2_notes 164 = .ok (.ireturn, 1) := by decide +kernel
def wxX2_notes_L72 (post : Int32 → (Nat → Int64) × (Nat → Int64) × Int64 × Int32 × (Nat → Int64) × (Nat → Int64) × Int64 × Int32 → Prop) (postx : String → Prop) (K157 : Int32 → (Nat → Int64) → (Nat → Int64) → Int64 → Int32 → (Nat → Int64) → (Nat → Int64) → Int64 → Int32 → Prop) (dk : Nat → Int64) (wg : Nat → Int64) (op : Int64) (re : Int32) (kf : Nat → Int32) (ff : Nat → Int32) (sf : Nat → Int32) (pf : Nat → Int64) (gf : Nat → Int64) (bn : Int32) (p1 : Int32) (p2 : Int32) (i3 : Int32) : Nat → Int32 → (Nat → Int64) → (Nat → Int64) → Int64 → Int32 → (Nat → Int64) → (Nat → Int64) → Int64 → Int32 → Prop
  | 0, _, _, _, _, _, _, _, _, _ => False
  | n+1, i4, uk', uw', uo', ur', vk', vw', vo', vr' =>
    (((6 : Int32) ≤ i4) →
      K157 i4 uk' uw' uo' ur' vk' vw' vo' vr'
    ) ∧ (¬ ((6 : Int32) ≤ i4) →
      ((¬ i3 = i4) →
        wX1_copyFrom (fun (z_2 : (Nat → Int64) × (Nat → Int64) × Int64 × Int32) =>
          wX1_passOn (fun (r_6 : Int32) (dk_2 : Nat → Int64) =>
            ((¬ r_6 = 0) →
              wX0_hangingOn (fun r_7 : Int64 =>
                wX1_weigh (fun (wg_2 : Nat → Int64) =>
                  wX2_oneNoteDoes (fun (r_9 : Int32) (z_3 : (Nat → Int64) × (Nat → Int64) × Int64 × Int32) =>
                    ((r_9 = 0) →
                      wxX2_notes_L72 post postx K157 dk wg op re kf ff sf pf gf bn p1 p2 i3 n (i4 + 1) dk_2 wg_2 z_2.2.2.1 z_2.2.2.2 z_3.1 z_3.2.1 z_3.2.2.1 z_3.2.2.2
                    ) ∧ (¬ (r_9 = 0) →
                      post (2 : Int32) (dk_2, wg_2, z_2.2.2.1, z_2.2.2.2, z_3.1, z_3.2.1, z_3.2.2.1, z_3.2.2.2)
                    )
                    ) dk_2 wg_2 z_2.2.2.1 z_2.2.2.2 vk' vw' vo' vr' kf ff sf pf gf bn p1 p2
                  ) dk_2 z_2.2.1 z_2.2.2.1 kf ff sf bn r_7
                ) pf gf bn i4 p2
            ) ∧ ((r_6 = 0) →
              wxX2_notes_L72 post postx K157 dk wg op re kf ff sf pf gf bn p1 p2 i3 n (i4 + 1) dk_2 z_2.2.1 z_2.2.2.1 z_2.2.2.2 vk' vw' vo' vr'
            )
            ) z_2.1 z_2.2.2.1 i3 i4
          ) uk' uw' uo' ur' dk wg op re
      ) ∧ ((i3 = i4) →
        wxX2_notes_L72 post postx K157 dk wg op re kf ff sf pf gf bn p1 p2 i3 n (i4 + 1) uk' uw' uo' ur' vk' vw' vo' vr'
      )
    )
def wxX2_notes_L63 (post : Int32 → (Nat → Int64) × (Nat → Int64) × Int64 × Int32 × (Nat → Int64) × (Nat → Int64) × Int64 × Int32 → Prop) (postx : String → Prop) (K163 : Int32 → (Nat → Int64) → (Nat → Int64) → Int64 → Int32 → (Nat → Int64) → (Nat → Int64) → Int64 → Int32 → Prop) (dk : Nat → Int64) (wg : Nat → Int64) (op : Int64) (re : Int32) (kf : Nat → Int32) (ff : Nat → Int32) (sf : Nat → Int32) (pf : Nat → Int64) (gf : Nat → Int64) (bn : Int32) (p1 : Int32) (p2 : Int32) : Nat → Int32 → (Nat → Int64) → (Nat → Int64) → Int64 → Int32 → (Nat → Int64) → (Nat → Int64) → Int64 → Int32 → Prop
  | 0, _, _, _, _, _, _, _, _, _ => False
  | n+1, i3, uk', uw', uo', ur', vk', vw', vo', vr' =>
    (((6 : Int32) ≤ i3) →
      K163 i3 uk' uw' uo' ur' vk' vw' vo' vr'
    ) ∧ (¬ ((6 : Int32) ≤ i3) →
      ∃ nF, wxX2_notes_L72 post postx
        (fun i4 uk' uw' uo' ur' vk' vw' vo' vr' =>
          wxX2_notes_L63 post postx K163 dk wg op re kf ff sf pf gf bn p1 p2 n (i3 + 1) uk' uw' uo' ur' vk' vw' vo' vr'
        )
        dk wg op re kf ff sf pf gf bn p1 p2 i3 nF (0 : Int32) uk' uw' uo' ur' vk' vw' vo' vr'
    )
def wxX2_notes (post : Int32 → (Nat → Int64) × (Nat → Int64) × Int64 × Int32 × (Nat → Int64) × (Nat → Int64) × Int64 × Int32 → Prop) (postx : String → Prop) (dk : Nat → Int64) (wg : Nat → Int64) (op : Int64) (re : Int32) (uk : Nat → Int64) (uw : Nat → Int64) (uo : Int64) (ur : Int32) (vk : Nat → Int64) (vw : Nat → Int64) (vo : Int64) (vr : Int32) (kf : Nat → Int32) (ff : Nat → Int32) (sf : Nat → Int32) (pf : Nat → Int64) (gf : Nat → Int64) (bn : Int32) (p1 : Int32) (p2 : Int32) : Prop :=
  wX2_isGuard (fun r_1 : Int32 =>
    ((r_1 = 0) →
      postx "java/lang/IndexOutOfBoundsException"
    ) ∧ (¬ (r_1 = 0) →
      wX0_holds (fun r_2 : Int32 =>
        ((¬ r_2 = 0) →
          wX1_knows (fun r_3 : Int32 =>
            ((r_3 = 0) →
              wX2_oneNoteDoes (fun (r_4 : Int32) (z_1 : (Nat → Int64) × (Nat → Int64) × Int64 × Int32) =>
                ((r_4 = 0) →
                  ∃ nF, wxX2_notes_L63 post postx
                    (fun i3 uk' uw' uo' ur' vk' vw' vo' vr' =>
                      post (-1 : Int32) (uk', uw', uo', ur', vk', vw', vo', vr')
                    )
                    dk wg op re kf ff sf pf gf bn p1 p2 nF (0 : Int32) z_1.1 z_1.2.1 z_1.2.2.1 z_1.2.2.2 vk vw vo vr
                ) ∧ (¬ (r_4 = 0) →
                  post (1 : Int32) (z_1.1, z_1.2.1, z_1.2.2.1, z_1.2.2.2, vk, vw, vo, vr)
                )
                ) dk wg op re uk uw uo ur kf ff sf pf gf bn p1 p2
            ) ∧ (¬ (r_3 = 0) →
              post (0 : Int32) (uk, uw, uo, ur, vk, vw, vo, vr)
            )
            ) dk wg op re bn p1 p2
        ) ∧ ((r_2 = 0) →
          postx "java/lang/IndexOutOfBoundsException"
        )
        ) bn p2
    )
    ) p1
abbrev wl_xX2_notes : List Cond := .code yX2_notes cX2_notes 5 (some .int) :: lwg
abbrev rm_xX2_notes : Room := { frames := 6, cells := 1, slots := 6, locals := 156 }
set_option maxHeartbeats 4000000 in
set_option maxRecDepth 100000 in
theorem kxX2_notes {post : Int32 → (Nat → Int64) × (Nat → Int64) × Int64 × Int32 × (Nat → Int64) × (Nat → Int64) × Int64 × Int32 → Prop} {postx : String → Prop} (l : Launch) (hfl : l.stackTraces = false) (G : GT) (x0 : Nat) (s0 : Nat) (s1 : Nat) (s2 : Nat) (u0 : Nat) (u1 : Nat) (u2 : Nat) (v0 : Nat) (v1 : Nat) (v2 : Nat) (b0 : Nat) (b1 : Nat) (b2 : Nat) (b3 : Nat) (b4 : Nat) (b5 : Nat) (b6 : Nat) (tA : Int32) (wP : Int32) (nT : Int32) (aK : Int32) (lK : Int32) (sW : Int32) (rF : Int32) (dk : Nat → Int64) (wg : Nat → Int64) (op : Int64) (re : Int32) (uk : Nat → Int64) (uw : Nat → Int64) (uo : Int64) (ur : Int32) (vk : Nat → Int64) (vw : Nat → Int64) (vo : Int64) (vr : Int32) (kf : Nat → Int32) (ff : Nat → Int32) (sf : Nat → Int32) (df : Nat → Int32) (pf : Nat → Int64) (gf : Nat → Int64) (bn : Int32) (p1 : Int32) (p2 : Int32) (sz : Nat) (h : wxX2_notes post postx dk wg op re uk uw uo ur vk vw vo vr kf ff sf pf gf bn p1 p2) : vx_Met l yX2_notes wl_xX2_notes rm_xX2_notes (va_Pc [.ref x0, .int p1, .int p2] (fun U => U.heap.size = sz ∧ PP G [(x0, .inr (5, [.ref b0, .ref s0, .ref u0, .ref v0, .int tA, .int wP, .int nT, .int aK, .int lK, .int sW, .int rF])), (s0, .inr (4, [.ref b0, .ref s1, .ref s2, .long op, .int re])), (s1, .inl (G.2 1, 384, .inr (.inl dk))), (s2, .inl (G.2 1, 40, .inr (.inl wg))), (u0, .inr (4, [.ref b0, .ref u1, .ref u2, .long uo, .int ur])), (u1, .inl (G.2 1, 384, .inr (.inl uk))), (u2, .inl (G.2 1, 40, .inr (.inl uw))), (v0, .inr (4, [.ref b0, .ref v1, .ref v2, .long vo, .int vr])), (v1, .inl (G.2 1, 384, .inr (.inl vk))), (v2, .inl (G.2 1, 40, .inr (.inl vw))), (b0, .inr (3, [.ref b1, .ref b2, .ref b3, .ref b4, .ref b5, .ref b6, .int bn])), (b1, .inl (G.2 0, 40, .inl kf)), (b2, .inl (G.2 0, 40, .inl ff)), (b3, .inl (G.2 0, 40, .inl sf)), (b4, .inl (G.2 0, 40, .inl df)), (b5, .inl (G.2 1, 40, .inr (.inl pf))), (b6, .inl (G.2 1, 6, .inr (.inl gf)))] U.heap ∧ KK G U ∧ va_D (fun _ => True) [(x0, .inr (5, [.ref b0, .ref s0, .ref u0, .ref v0, .int tA, .int wP, .int nT, .int aK, .int lK, .int sW, .int rF])), (s0, .inr (4, [.ref b0, .ref s1, .ref s2, .long op, .int re])), (s1, .inl (G.2 1, 384, .inr (.inl dk))), (s2, .inl (G.2 1, 40, .inr (.inl wg))), (u0, .inr (4, [.ref b0, .ref u1, .ref u2, .long uo, .int ur])), (u1, .inl (G.2 1, 384, .inr (.inl uk))), (u2, .inl (G.2 1, 40, .inr (.inl uw))), (v0, .inr (4, [.ref b0, .ref v1, .ref v2, .long vo, .int vr])), (v1, .inl (G.2 1, 384, .inr (.inl vk))), (v2, .inl (G.2 1, 40, .inr (.inl vw))), (b0, .inr (3, [.ref b1, .ref b2, .ref b3, .ref b4, .ref b5, .ref b6, .int bn])), (b1, .inl (G.2 0, 40, .inl kf)), (b2, .inl (G.2 0, 40, .inl ff)), (b3, .inl (G.2 0, 40, .inl sf)), (b4, .inl (G.2 0, 40, .inl df)), (b5, .inl (G.2 1, 40, .inr (.inl pf))), (b6, .inl (G.2 1, 6, .inr (.inl gf)))] ∧ ZZ (va_A [(x0, .inr (5, [.ref b0, .ref s0, .ref u0, .ref v0, .int tA, .int wP, .int nT, .int aK, .int lK, .int sW, .int rF])), (s0, .inr (4, [.ref b0, .ref s1, .ref s2, .long op, .int re])), (s1, .inl (G.2 1, 384, .inr (.inl dk))), (s2, .inl (G.2 1, 40, .inr (.inl wg))), (u0, .inr (4, [.ref b0, .ref u1, .ref u2, .long uo, .int ur])), (u1, .inl (G.2 1, 384, .inr (.inl uk))), (u2, .inl (G.2 1, 40, .inr (.inl uw))), (v0, .inr (4, [.ref b0, .ref v1, .ref v2, .long vo, .int vr])), (v1, .inl (G.2 1, 384, .inr (.inl vk))), (v2, .inl (G.2 1, 40, .inr (.inl vw))), (b0, .inr (3, [.ref b1, .ref b2, .ref b3, .ref b4, .ref b5, .ref b6, .int bn])), (b1, .inl (G.2 0, 40, .inl kf)), (b2, .inl (G.2 0, 40, .inl ff)), (b3, .inl (G.2 0, 40, .inl sf)), (b4, .inl (G.2 0, 40, .inl df)), (b5, .inl (G.2 1, 40, .inr (.inl pf))), (b6, .inl (G.2 1, 6, .inr (.inl gf)))] sz) U U.heap)) (va_Qi post (fun u t => PP G [(x0, .inr (5, [.ref b0, .ref s0, .ref u0, .ref v0, .int tA, .int wP, .int nT, .int aK, .int lK, .int sW, .int rF])), (s0, .inr (4, [.ref b0, .ref s1, .ref s2, .long op, .int re])), (s1, .inl (G.2 1, 384, .inr (.inl dk))), (s2, .inl (G.2 1, 40, .inr (.inl wg))), (u0, .inr (4, [.ref b0, .ref u1, .ref u2, .long (u.2.2.1), .int (u.2.2.2.1)])), (u1, .inl (G.2 1, 384, .inr (.inl (u.1)))), (u2, .inl (G.2 1, 40, .inr (.inl (u.2.1)))), (v0, .inr (4, [.ref b0, .ref v1, .ref v2, .long (u.2.2.2.2.2.2.1), .int (u.2.2.2.2.2.2.2)])), (v1, .inl (G.2 1, 384, .inr (.inl (u.2.2.2.2.1)))), (v2, .inl (G.2 1, 40, .inr (.inl (u.2.2.2.2.2.1)))), (b0, .inr (3, [.ref b1, .ref b2, .ref b3, .ref b4, .ref b5, .ref b6, .int bn])), (b1, .inl (G.2 0, 40, .inl kf)), (b2, .inl (G.2 0, 40, .inl ff)), (b3, .inl (G.2 0, 40, .inl sf)), (b4, .inl (G.2 0, 40, .inl df)), (b5, .inl (G.2 1, 40, .inr (.inl pf))), (b6, .inl (G.2 1, 6, .inr (.inl gf)))] t.heap ∧ va_D (va_A [(x0, .inr (5, [.ref b0, .ref s0, .ref u0, .ref v0, .int tA, .int wP, .int nT, .int aK, .int lK, .int sW, .int rF])), (s0, .inr (4, [.ref b0, .ref s1, .ref s2, .long op, .int re])), (s1, .inl (G.2 1, 384, .inr (.inl dk))), (s2, .inl (G.2 1, 40, .inr (.inl wg))), (u0, .inr (4, [.ref b0, .ref u1, .ref u2, .long uo, .int ur])), (u1, .inl (G.2 1, 384, .inr (.inl uk))), (u2, .inl (G.2 1, 40, .inr (.inl uw))), (v0, .inr (4, [.ref b0, .ref v1, .ref v2, .long vo, .int vr])), (v1, .inl (G.2 1, 384, .inr (.inl vk))), (v2, .inl (G.2 1, 40, .inr (.inl vw))), (b0, .inr (3, [.ref b1, .ref b2, .ref b3, .ref b4, .ref b5, .ref b6, .int bn])), (b1, .inl (G.2 0, 40, .inl kf)), (b2, .inl (G.2 0, 40, .inl ff)), (b3, .inl (G.2 0, 40, .inl sf)), (b4, .inl (G.2 0, 40, .inl df)), (b5, .inl (G.2 1, 40, .inr (.inl pf))), (b6, .inl (G.2 1, 6, .inr (.inl gf)))] sz) [(x0, .inr (5, [.ref b0, .ref s0, .ref u0, .ref v0, .int tA, .int wP, .int nT, .int aK, .int lK, .int sW, .int rF])), (s0, .inr (4, [.ref b0, .ref s1, .ref s2, .long op, .int re])), (s1, .inl (G.2 1, 384, .inr (.inl dk))), (s2, .inl (G.2 1, 40, .inr (.inl wg))), (u0, .inr (4, [.ref b0, .ref u1, .ref u2, .long (u.2.2.1), .int (u.2.2.2.1)])), (u1, .inl (G.2 1, 384, .inr (.inl (u.1)))), (u2, .inl (G.2 1, 40, .inr (.inl (u.2.1)))), (v0, .inr (4, [.ref b0, .ref v1, .ref v2, .long (u.2.2.2.2.2.2.1), .int (u.2.2.2.2.2.2.2)])), (v1, .inl (G.2 1, 384, .inr (.inl (u.2.2.2.2.1)))), (v2, .inl (G.2 1, 40, .inr (.inl (u.2.2.2.2.2.1)))), (b0, .inr (3, [.ref b1, .ref b2, .ref b3, .ref b4, .ref b5, .ref b6, .int bn])), (b1, .inl (G.2 0, 40, .inl kf)), (b2, .inl (G.2 0, 40, .inl ff)), (b3, .inl (G.2 0, 40, .inl sf)), (b4, .inl (G.2 0, 40, .inl df)), (b5, .inl (G.2 1, 40, .inr (.inl pf))), (b6, .inl (G.2 1, 6, .inr (.inl gf)))]) (va_A [(x0, .inr (5, [.ref b0, .ref s0, .ref u0, .ref v0, .int tA, .int wP, .int nT, .int aK, .int lK, .int sW, .int rF])), (s0, .inr (4, [.ref b0, .ref s1, .ref s2, .long op, .int re])), (s1, .inl (G.2 1, 384, .inr (.inl dk))), (s2, .inl (G.2 1, 40, .inr (.inl wg))), (u0, .inr (4, [.ref b0, .ref u1, .ref u2, .long uo, .int ur])), (u1, .inl (G.2 1, 384, .inr (.inl uk))), (u2, .inl (G.2 1, 40, .inr (.inl uw))), (v0, .inr (4, [.ref b0, .ref v1, .ref v2, .long vo, .int vr])), (v1, .inl (G.2 1, 384, .inr (.inl vk))), (v2, .inl (G.2 1, 40, .inr (.inl vw))), (b0, .inr (3, [.ref b1, .ref b2, .ref b3, .ref b4, .ref b5, .ref b6, .int bn])), (b1, .inl (G.2 0, 40, .inl kf)), (b2, .inl (G.2 0, 40, .inl ff)), (b3, .inl (G.2 0, 40, .inl sf)), (b4, .inl (G.2 0, 40, .inl df)), (b5, .inl (G.2 1, 40, .inr (.inl pf))), (b6, .inl (G.2 1, 6, .inr (.inl gf)))] sz)) (vx_X (fun _ : Unit => True) (fun E _ t => PP G [(x0, .inr (5, [.ref b0, .ref s0, .ref u0, .ref v0, .int tA, .int wP, .int nT, .int aK, .int lK, .int sW, .int rF])), (s0, .inr (4, [.ref b0, .ref s1, .ref s2, .long op, .int re])), (s1, .inl (G.2 1, 384, .inr (.inl dk))), (s2, .inl (G.2 1, 40, .inr (.inl wg))), (u0, .inr (4, [.ref b0, .ref u1, .ref u2, .long uo, .int ur])), (u1, .inl (G.2 1, 384, .inr (.inl uk))), (u2, .inl (G.2 1, 40, .inr (.inl uw))), (v0, .inr (4, [.ref b0, .ref v1, .ref v2, .long vo, .int vr])), (v1, .inl (G.2 1, 384, .inr (.inl vk))), (v2, .inl (G.2 1, 40, .inr (.inl vw))), (b0, .inr (3, [.ref b1, .ref b2, .ref b3, .ref b4, .ref b5, .ref b6, .int bn])), (b1, .inl (G.2 0, 40, .inl kf)), (b2, .inl (G.2 0, 40, .inl ff)), (b3, .inl (G.2 0, 40, .inl sf)), (b4, .inl (G.2 0, 40, .inl df)), (b5, .inl (G.2 1, 40, .inr (.inl pf))), (b6, .inl (G.2 1, 6, .inr (.inl gf)))] t.heap ∧ va_D (va_A [(x0, .inr (5, [.ref b0, .ref s0, .ref u0, .ref v0, .int tA, .int wP, .int nT, .int aK, .int lK, .int sW, .int rF])), (s0, .inr (4, [.ref b0, .ref s1, .ref s2, .long op, .int re])), (s1, .inl (G.2 1, 384, .inr (.inl dk))), (s2, .inl (G.2 1, 40, .inr (.inl wg))), (u0, .inr (4, [.ref b0, .ref u1, .ref u2, .long uo, .int ur])), (u1, .inl (G.2 1, 384, .inr (.inl uk))), (u2, .inl (G.2 1, 40, .inr (.inl uw))), (v0, .inr (4, [.ref b0, .ref v1, .ref v2, .long vo, .int vr])), (v1, .inl (G.2 1, 384, .inr (.inl vk))), (v2, .inl (G.2 1, 40, .inr (.inl vw))), (b0, .inr (3, [.ref b1, .ref b2, .ref b3, .ref b4, .ref b5, .ref b6, .int bn])), (b1, .inl (G.2 0, 40, .inl kf)), (b2, .inl (G.2 0, 40, .inl ff)), (b3, .inl (G.2 0, 40, .inl sf)), (b4, .inl (G.2 0, 40, .inl df)), (b5, .inl (G.2 1, 40, .inr (.inl pf))), (b6, .inl (G.2 1, 6, .inr (.inl gf)))] sz) [(x0, .inr (5, [.ref b0, .ref s0, .ref u0, .ref v0, .int tA, .int wP, .int nT, .int aK, .int lK, .int sW, .int rF])), (s0, .inr (4, [.ref b0, .ref s1, .ref s2, .long op, .int re])), (s1, .inl (G.2 1, 384, .inr (.inl dk))), (s2, .inl (G.2 1, 40, .inr (.inl wg))), (u0, .inr (4, [.ref b0, .ref u1, .ref u2, .long uo, .int ur])), (u1, .inl (G.2 1, 384, .inr (.inl uk))), (u2, .inl (G.2 1, 40, .inr (.inl uw))), (v0, .inr (4, [.ref b0, .ref v1, .ref v2, .long vo, .int vr])), (v1, .inl (G.2 1, 384, .inr (.inl vk))), (v2, .inl (G.2 1, 40, .inr (.inl vw))), (b0, .inr (3, [.ref b1, .ref b2, .ref b3, .ref b4, .ref b5, .ref b6, .int bn])), (b1, .inl (G.2 0, 40, .inl kf)), (b2, .inl (G.2 0, 40, .inl ff)), (b3, .inl (G.2 0, 40, .inl sf)), (b4, .inl (G.2 0, 40, .inl df)), (b5, .inl (G.2 1, 40, .inr (.inl pf))), (b6, .inl (G.2 1, 6, .inr (.inl gf)))] ∧ postx E) (va_A [(x0, .inr (5, [.ref b0, .ref s0, .ref u0, .ref v0, .int tA, .int wP, .int nT, .int aK, .int lK, .int sW, .int rF])), (s0, .inr (4, [.ref b0, .ref s1, .ref s2, .long op, .int re])), (s1, .inl (G.2 1, 384, .inr (.inl dk))), (s2, .inl (G.2 1, 40, .inr (.inl wg))), (u0, .inr (4, [.ref b0, .ref u1, .ref u2, .long uo, .int ur])), (u1, .inl (G.2 1, 384, .inr (.inl uk))), (u2, .inl (G.2 1, 40, .inr (.inl uw))), (v0, .inr (4, [.ref b0, .ref v1, .ref v2, .long vo, .int vr])), (v1, .inl (G.2 1, 384, .inr (.inl vk))), (v2, .inl (G.2 1, 40, .inr (.inl vw))), (b0, .inr (3, [.ref b1, .ref b2, .ref b3, .ref b4, .ref b5, .ref b6, .int bn])), (b1, .inl (G.2 0, 40, .inl kf)), (b2, .inl (G.2 0, 40, .inl ff)), (b3, .inl (G.2 0, 40, .inl sf)), (b4, .inl (G.2 0, 40, .inl df)), (b5, .inl (G.2 1, 40, .inr (.inl pf))), (b6, .inl (G.2 1, 6, .inr (.inl gf)))] sz)) 1 6 (va_A [(x0, .inr (5, [.ref b0, .ref s0, .ref u0, .ref v0, .int tA, .int wP, .int nT, .int aK, .int lK, .int sW, .int rF])), (s0, .inr (4, [.ref b0, .ref s1, .ref s2, .long op, .int re])), (s1, .inl (G.2 1, 384, .inr (.inl dk))), (s2, .inl (G.2 1, 40, .inr (.inl wg))), (u0, .inr (4, [.ref b0, .ref u1, .ref u2, .long uo, .int ur])), (u1, .inl (G.2 1, 384, .inr (.inl uk))), (u2, .inl (G.2 1, 40, .inr (.inl uw))), (v0, .inr (4, [.ref b0, .ref v1, .ref v2, .long vo, .int vr])), (v1, .inl (G.2 1, 384, .inr (.inl vk))), (v2, .inl (G.2 1, 40, .inr (.inl vw))), (b0, .inr (3, [.ref b1, .ref b2, .ref b3, .ref b4, .ref b5, .ref b6, .int bn])), (b1, .inl (G.2 0, 40, .inl kf)), (b2, .inl (G.2 0, 40, .inl ff)), (b3, .inl (G.2 0, 40, .inl sf)), (b4, .inl (G.2 0, 40, .inl df)), (b5, .inl (G.2 1, 40, .inr (.inl pf))), (b6, .inl (G.2 1, 6, .inr (.inl gf)))] sz) := by
  refine vx_ofW (cc := cX2_notes) (maxL := 5) (ret := (some .int)) (by decide) rfl ?_
  intro p e s m args below meth c s₁ B hml hT hv
  obtain ⟨rfl, hsz, hP, hKK, hD0, hZ⟩ := hv
  obtain ⟨hK, hN, hR, hFW, hNC⟩ := id hKK
  have hx := B.exec
  have hb := B.bytes
  have hr := B.returns
  have hts0 := atoms_spec (ws := wl_xX2_notes) B.pre
  have hts : ∀ w ∈ lwg, w.before ([.ref x0, .int p1, .int p2] : List Value).toArray s = true := fun w hw => hts0 w (List.mem_cons_of_mem _ hw)
  have hown : s.vm.findClass RX2 = some m.cls := findClass_of_methodNamed B.named
  have hlocks := B.notSynchronized
  subst hsz
  have hD := hD0.self (sz := s.heap.size)
  generalize hAe : va_A [(x0, .inr (5, [.ref b0, .ref s0, .ref u0, .ref v0, .int tA, .int wP, .int nT, .int aK, .int lK, .int sW, .int rF])), (s0, .inr (4, [.ref b0, .ref s1, .ref s2, .long op, .int re])), (s1, .inl (G.2 1, 384, .inr (.inl dk))), (s2, .inl (G.2 1, 40, .inr (.inl wg))), (u0, .inr (4, [.ref b0, .ref u1, .ref u2, .long uo, .int ur])), (u1, .inl (G.2 1, 384, .inr (.inl uk))), (u2, .inl (G.2 1, 40, .inr (.inl uw))), (v0, .inr (4, [.ref b0, .ref v1, .ref v2, .long vo, .int vr])), (v1, .inl (G.2 1, 384, .inr (.inl vk))), (v2, .inl (G.2 1, 40, .inr (.inl vw))), (b0, .inr (3, [.ref b1, .ref b2, .ref b3, .ref b4, .ref b5, .ref b6, .int bn])), (b1, .inl (G.2 0, 40, .inl kf)), (b2, .inl (G.2 0, 40, .inl ff)), (b3, .inl (G.2 0, 40, .inl sf)), (b4, .inl (G.2 0, 40, .inl df)), (b5, .inl (G.2 1, 40, .inr (.inl pf))), (b6, .inl (G.2 1, 6, .inr (.inl gf)))] s.heap.size = A at hD hZ ⊢
  have hA : ∀ q : Nat, s.heap.size ≤ q → A q := fun q h => by rw [← hAe]; exact Or.inr h
  have hS : va_S A s.heap s.heap [] := va_S.rf
  obtain ⟨QC, hQC⟩ : ∃ Z, Z = (va_Qi post (fun u t => PP G [(x0, .inr (5, [.ref b0, .ref s0, .ref u0, .ref v0, .int tA, .int wP, .int nT, .int aK, .int lK, .int sW, .int rF])), (s0, .inr (4, [.ref b0, .ref s1, .ref s2, .long op, .int re])), (s1, .inl (G.2 1, 384, .inr (.inl dk))), (s2, .inl (G.2 1, 40, .inr (.inl wg))), (u0, .inr (4, [.ref b0, .ref u1, .ref u2, .long (u.2.2.1), .int (u.2.2.2.1)])), (u1, .inl (G.2 1, 384, .inr (.inl (u.1)))), (u2, .inl (G.2 1, 40, .inr (.inl (u.2.1)))), (v0, .inr (4, [.ref b0, .ref v1, .ref v2, .long (u.2.2.2.2.2.2.1), .int (u.2.2.2.2.2.2.2)])), (v1, .inl (G.2 1, 384, .inr (.inl (u.2.2.2.2.1)))), (v2, .inl (G.2 1, 40, .inr (.inl (u.2.2.2.2.2.1)))), (b0, .inr (3, [.ref b1, .ref b2, .ref b3, .ref b4, .ref b5, .ref b6, .int bn])), (b1, .inl (G.2 0, 40, .inl kf)), (b2, .inl (G.2 0, 40, .inl ff)), (b3, .inl (G.2 0, 40, .inl sf)), (b4, .inl (G.2 0, 40, .inl df)), (b5, .inl (G.2 1, 40, .inr (.inl pf))), (b6, .inl (G.2 1, 6, .inr (.inl gf)))] t.heap ∧ va_D A [(x0, .inr (5, [.ref b0, .ref s0, .ref u0, .ref v0, .int tA, .int wP, .int nT, .int aK, .int lK, .int sW, .int rF])), (s0, .inr (4, [.ref b0, .ref s1, .ref s2, .long op, .int re])), (s1, .inl (G.2 1, 384, .inr (.inl dk))), (s2, .inl (G.2 1, 40, .inr (.inl wg))), (u0, .inr (4, [.ref b0, .ref u1, .ref u2, .long (u.2.2.1), .int (u.2.2.2.1)])), (u1, .inl (G.2 1, 384, .inr (.inl (u.1)))), (u2, .inl (G.2 1, 40, .inr (.inl (u.2.1)))), (v0, .inr (4, [.ref b0, .ref v1, .ref v2, .long (u.2.2.2.2.2.2.1), .int (u.2.2.2.2.2.2.2)])), (v1, .inl (G.2 1, 384, .inr (.inl (u.2.2.2.2.1)))), (v2, .inl (G.2 1, 40, .inr (.inl (u.2.2.2.2.2.1)))), (b0, .inr (3, [.ref b1, .ref b2, .ref b3, .ref b4, .ref b5, .ref b6, .int bn])), (b1, .inl (G.2 0, 40, .inl kf)), (b2, .inl (G.2 0, 40, .inl ff)), (b3, .inl (G.2 0, 40, .inl sf)), (b4, .inl (G.2 0, 40, .inl df)), (b5, .inl (G.2 1, 40, .inr (.inl pf))), (b6, .inl (G.2 1, 6, .inr (.inl gf)))]) A) := ⟨_, rfl⟩
  rw [← hQC]
  obtain ⟨XC, hXC⟩ : ∃ Z, Z = (vx_X (fun _ : Unit => True) (fun E _ t => PP G [(x0, .inr (5, [.ref b0, .ref s0, .ref u0, .ref v0, .int tA, .int wP, .int nT, .int aK, .int lK, .int sW, .int rF])), (s0, .inr (4, [.ref b0, .ref s1, .ref s2, .long op, .int re])), (s1, .inl (G.2 1, 384, .inr (.inl dk))), (s2, .inl (G.2 1, 40, .inr (.inl wg))), (u0, .inr (4, [.ref b0, .ref u1, .ref u2, .long uo, .int ur])), (u1, .inl (G.2 1, 384, .inr (.inl uk))), (u2, .inl (G.2 1, 40, .inr (.inl uw))), (v0, .inr (4, [.ref b0, .ref v1, .ref v2, .long vo, .int vr])), (v1, .inl (G.2 1, 384, .inr (.inl vk))), (v2, .inl (G.2 1, 40, .inr (.inl vw))), (b0, .inr (3, [.ref b1, .ref b2, .ref b3, .ref b4, .ref b5, .ref b6, .int bn])), (b1, .inl (G.2 0, 40, .inl kf)), (b2, .inl (G.2 0, 40, .inl ff)), (b3, .inl (G.2 0, 40, .inl sf)), (b4, .inl (G.2 0, 40, .inl df)), (b5, .inl (G.2 1, 40, .inr (.inl pf))), (b6, .inl (G.2 1, 6, .inr (.inl gf)))] t.heap ∧ va_D A [(x0, .inr (5, [.ref b0, .ref s0, .ref u0, .ref v0, .int tA, .int wP, .int nT, .int aK, .int lK, .int sW, .int rF])), (s0, .inr (4, [.ref b0, .ref s1, .ref s2, .long op, .int re])), (s1, .inl (G.2 1, 384, .inr (.inl dk))), (s2, .inl (G.2 1, 40, .inr (.inl wg))), (u0, .inr (4, [.ref b0, .ref u1, .ref u2, .long uo, .int ur])), (u1, .inl (G.2 1, 384, .inr (.inl uk))), (u2, .inl (G.2 1, 40, .inr (.inl uw))), (v0, .inr (4, [.ref b0, .ref v1, .ref v2, .long vo, .int vr])), (v1, .inl (G.2 1, 384, .inr (.inl vk))), (v2, .inl (G.2 1, 40, .inr (.inl vw))), (b0, .inr (3, [.ref b1, .ref b2, .ref b3, .ref b4, .ref b5, .ref b6, .int bn])), (b1, .inl (G.2 0, 40, .inl kf)), (b2, .inl (G.2 0, 40, .inl ff)), (b3, .inl (G.2 0, 40, .inl sf)), (b4, .inl (G.2 0, 40, .inl df)), (b5, .inl (G.2 1, 40, .inr (.inl pf))), (b6, .inl (G.2 1, 6, .inr (.inl gf)))] ∧ postx E) A) := ⟨_, rfl⟩
  rw [← hXC]
  obtain ⟨⟨zt, hZ1, hT1⟩, hZ2⟩ := id hZ
  have hP : PP G [(x0, .inr (5, [.ref b0, .ref s0, .ref u0, .ref v0, .int tA, .int wP, .int nT, .int aK, .int lK, .int sW, .int rF])), (s0, .inr (4, [.ref b0, .ref s1, .ref s2, .long op, .int re])), (s1, .inl (G.2 1, 384, .inr (.inl dk))), (s2, .inl (G.2 1, 40, .inr (.inl wg))), (u0, .inr (4, [.ref b0, .ref u1, .ref u2, .long uo, .int ur])), (u1, .inl (G.2 1, 384, .inr (.inl uk))), (u2, .inl (G.2 1, 40, .inr (.inl uw))), (v0, .inr (4, [.ref b0, .ref v1, .ref v2, .long vo, .int vr])), (v1, .inl (G.2 1, 384, .inr (.inl vk))), (v2, .inl (G.2 1, 40, .inr (.inl vw))), (b0, .inr (3, [.ref b1, .ref b2, .ref b3, .ref b4, .ref b5, .ref b6, .int bn])), (b1, .inl (G.2 0, 40, .inl kf)), (b2, .inl (G.2 0, 40, .inl ff)), (b3, .inl (G.2 0, 40, .inl sf)), (b4, .inl (G.2 0, 40, .inl df)), (b5, .inl (G.2 1, 40, .inr (.inl pf))), (b6, .inl (G.2 1, 6, .inr (.inl gf)))] s.heap := hP
  have hl := lv_entry ([.ref x0, .int p1, .int p2]) (n := 5) (Nat.le_of_ble_eq_true rfl)
  rw [lg_entry_eq]
  generalize (lg_sl ([.ref x0, .int p1, .int p2]) ++ List.replicate (5 - (lg_sl ([.ref x0, .int p1, .int p2])).length) Slot.unset).toArray = ls at hl ⊢
  have hl : lv_has ls 5 [(0, .ref x0), (1, .int p1), (2, .int p2)] := hl
  have loop72 : ∀ (K157 : Int32 → (Nat → Int64) → (Nat → Int64) → Int64 → Int32 → (Nat → Int64) → (Nat → Int64) → Int64 → Int32 → Prop) (i3 : Int32), True → (∀ (i4 : Int32) (uk' : Nat → Int64) (uw' : Nat → Int64) (uo' : Int64) (ur' : Int32) (vk' : Nat → Int64) (vw' : Nat → Int64) (vo' : Int64) (vr' : Int32) (ls : Array Slot) (H : Heap) (locs : List Loc), lv_has ls 5 [(0, .ref x0), (1, .int p1), (2, .int p2), (3, .int i3), (4, .int i4)] → PP G [(x0, .inr (5, [.ref b0, .ref s0, .ref u0, .ref v0, .int tA, .int wP, .int nT, .int aK, .int lK, .int sW, .int rF])), (s0, .inr (4, [.ref b0, .ref s1, .ref s2, .long op, .int re])), (s1, .inl (G.2 1, 384, .inr (.inl dk))), (s2, .inl (G.2 1, 40, .inr (.inl wg))), (u0, .inr (4, [.ref b0, .ref u1, .ref u2, .long uo', .int ur'])), (u1, .inl (G.2 1, 384, .inr (.inl uk'))), (u2, .inl (G.2 1, 40, .inr (.inl uw'))), (v0, .inr (4, [.ref b0, .ref v1, .ref v2, .long vo', .int vr'])), (v1, .inl (G.2 1, 384, .inr (.inl vk'))), (v2, .inl (G.2 1, 40, .inr (.inl vw'))), (b0, .inr (3, [.ref b1, .ref b2, .ref b3, .ref b4, .ref b5, .ref b6, .int bn])), (b1, .inl (G.2 0, 40, .inl kf)), (b2, .inl (G.2 0, 40, .inl ff)), (b3, .inl (G.2 0, 40, .inl sf)), (b4, .inl (G.2 0, 40, .inl df)), (b5, .inl (G.2 1, 40, .inr (.inl pf))), (b6, .inl (G.2 1, 6, .inr (.inl gf)))] H → va_D A [(x0, .inr (5, [.ref b0, .ref s0, .ref u0, .ref v0, .int tA, .int wP, .int nT, .int aK, .int lK, .int sW, .int rF])), (s0, .inr (4, [.ref b0, .ref s1, .ref s2, .long op, .int re])), (s1, .inl (G.2 1, 384, .inr (.inl dk))), (s2, .inl (G.2 1, 40, .inr (.inl wg))), (u0, .inr (4, [.ref b0, .ref u1, .ref u2, .long uo', .int ur'])), (u1, .inl (G.2 1, 384, .inr (.inl uk'))), (u2, .inl (G.2 1, 40, .inr (.inl uw'))), (v0, .inr (4, [.ref b0, .ref v1, .ref v2, .long vo', .int vr'])), (v1, .inl (G.2 1, 384, .inr (.inl vk'))), (v2, .inl (G.2 1, 40, .inr (.inl vw'))), (b0, .inr (3, [.ref b1, .ref b2, .ref b3, .ref b4, .ref b5, .ref b6, .int bn])), (b1, .inl (G.2 0, 40, .inl kf)), (b2, .inl (G.2 0, 40, .inl ff)), (b3, .inl (G.2 0, 40, .inl sf)), (b4, .inl (G.2 0, 40, .inl df)), (b5, .inl (G.2 1, 40, .inr (.inl pf))), (b6, .inl (G.2 1, 6, .inr (.inl gf)))] → va_S A s.heap H locs → K157 i4 uk' uw' uo' ur' vk' vw' vo' vr' → W p l e (headSpec (wl_xX2_notes) rm_xX2_notes).room s m ([.ref x0, .int p1, .int p2] : List Value).toArray below meth c H locs 0 0 (vx_MQ below QC XC ([.ref x0, .int p1, .int p2] : List Value).toArray s 1 6 A) (F0 m 157 ls [])) → ∀ (n : Nat) (i4 : Int32) (uk' : Nat → Int64) (uw' : Nat → Int64) (uo' : Int64) (ur' : Int32) (vk' : Nat → Int64) (vw' : Nat → Int64) (vo' : Int64) (vr' : Int32) (ls : Array Slot) (H : Heap) (locs : List Loc), lv_has ls 5 [(0, .ref x0), (1, .int p1), (2, .int p2), (3, .int i3), (4, .int i4)] → PP G [(x0, .inr (5, [.ref b0, .ref s0, .ref u0, .ref v0, .int tA, .int wP, .int nT, .int aK, .int lK, .int sW, .int rF])), (s0, .inr (4, [.ref b0, .ref s1, .ref s2, .long op, .int re])), (s1, .inl (G.2 1, 384, .inr (.inl dk))), (s2, .inl (G.2 1, 40, .inr (.inl wg))), (u0, .inr (4, [.ref b0, .ref u1, .ref u2, .long uo', .int ur'])), (u1, .inl (G.2 1, 384, .inr (.inl uk'))), (u2, .inl (G.2 1, 40, .inr (.inl uw'))), (v0, .inr (4, [.ref b0, .ref v1, .ref v2, .long vo', .int vr'])), (v1, .inl (G.2 1, 384, .inr (.inl vk'))), (v2, .inl (G.2 1, 40, .inr (.inl vw'))), (b0, .inr (3, [.ref b1, .ref b2, .ref b3, .ref b4, .ref b5, .ref b6, .int bn])), (b1, .inl (G.2 0, 40, .inl kf)), (b2, .inl (G.2 0, 40, .inl ff)), (b3, .inl (G.2 0, 40, .inl sf)), (b4, .inl (G.2 0, 40, .inl df)), (b5, .inl (G.2 1, 40, .inr (.inl pf))), (b6, .inl (G.2 1, 6, .inr (.inl gf)))] H → va_D A [(x0, .inr (5, [.ref b0, .ref s0, .ref u0, .ref v0, .int tA, .int wP, .int nT, .int aK, .int lK, .int sW, .int rF])), (s0, .inr (4, [.ref b0, .ref s1, .ref s2, .long op, .int re])), (s1, .inl (G.2 1, 384, .inr (.inl dk))), (s2, .inl (G.2 1, 40, .inr (.inl wg))), (u0, .inr (4, [.ref b0, .ref u1, .ref u2, .long uo', .int ur'])), (u1, .inl (G.2 1, 384, .inr (.inl uk'))), (u2, .inl (G.2 1, 40, .inr (.inl uw'))), (v0, .inr (4, [.ref b0, .ref v1, .ref v2, .long vo', .int vr'])), (v1, .inl (G.2 1, 384, .inr (.inl vk'))), (v2, .inl (G.2 1, 40, .inr (.inl vw'))), (b0, .inr (3, [.ref b1, .ref b2, .ref b3, .ref b4, .ref b5, .ref b6, .int bn])), (b1, .inl (G.2 0, 40, .inl kf)), (b2, .inl (G.2 0, 40, .inl ff)), (b3, .inl (G.2 0, 40, .inl sf)), (b4, .inl (G.2 0, 40, .inl df)), (b5, .inl (G.2 1, 40, .inr (.inl pf))), (b6, .inl (G.2 1, 6, .inr (.inl gf)))] → va_S A s.heap H locs → wxX2_notes_L72 post postx K157 dk wg op re kf ff sf pf gf bn p1 p2 i3 n i4 uk' uw' uo' ur' vk' vw' vo' vr' → W p l e (headSpec (wl_xX2_notes) rm_xX2_notes).room s m ([.ref x0, .int p1, .int p2] : List Value).toArray below meth c H locs 0 0 (vx_MQ below QC XC ([.ref x0, .int p1, .int p2] : List Value).toArray s 1 6 A) (F0 m 72 ls []) := by
    intro K157 i3 _ hexit157 n
    induction n with
    | zero => intro i4 uk' uw' uo' ur' vk' vw' vo' vr' ls H locs hl hP hD hS h; exact False.elim h
    | succ n ih =>
      intro i4 uk' uw' uo' ur' vk' vw' vo' vr' ls H locs hl hP hD hS h
      refine lv_iload hx hb dX2_notes_72 (lv_at hl 4 rfl) ?_
      refine lv_bipush (v := 6) hx hb dX2_notes_74 (by decide) ?_
      refine lv_icmp_ge (tgt := 157) hx hb dX2_notes_76 (by decide) (fun hc => ?_) (fun hc => ?_)
      · have h := h.1 hc
        have hl := lv_sub (l' := [(0, .ref x0), (1, .int p1), (2, .int p2), (3, .int i3), (4, .int i4)]) hl [0, 1, 2, 3, 4] rfl
        exact hexit157 _ _ _ _ _ _ _ _ _ ls H locs hl hP hD hS h
      · have h := h.2 hc
        refine lv_iload_n hx hb dX2_notes_79 rfl (lv_at hl 3 rfl) ?_
        refine lv_iload hx hb dX2_notes_80 (lv_at hl 4 rfl) ?_
        refine lv_icmp_ne (tgt := 88) hx hb dX2_notes_82 (by decide) (fun hc => ?_) (fun hc => ?_)
        · have h := h.1 hc
          refine lv_aload_n hx hb dX2_notes_88 rfl (lv_at hl 0 rfl) ?_
          refine va_get (D := G.1) (ci := 5) (v := .ref u0) (C := RX2) (T := TX2) (N := 11) hx hb hts igX2 hown hK hP 0 rfl rfl 2 (by decide) (hts _ q178) (fun _ h9 => h9) rfl dX2_notes_89 ?_
          refine lv_aload_n hx hb dX2_notes_92 rfl (lv_at hl 0 rfl) ?_
          refine va_get (D := G.1) (ci := 5) (v := .ref s0) (C := RX2) (T := TX2) (N := 11) hx hb hts igX2 hown hK hP 0 rfl rfl 1 (by decide) (hts _ q177) (fun _ h9 => h9) rfl dX2_notes_93 ?_
          have hPc := va_P.sub (ws' := [(u0, .inr (4, [.ref b0, .ref u1, .ref u2, .long uo', .int ur'])), (u1, .inl (G.2 1, 384, .inr (.inl uk'))), (u2, .inl (G.2 1, 40, .inr (.inl uw'))), (s0, .inr (4, [.ref b0, .ref s1, .ref s2, .long op, .int re])), (s1, .inl (G.2 1, 384, .inr (.inl dk))), (s2, .inl (G.2 1, 40, .inr (.inl wg)))]) hP [4, 5, 6, 1, 2, 3] rfl
          have hDc := hD.sub (ws' := [(u0, .inr (4, [.ref b0, .ref u1, .ref u2, .long uo', .int ur'])), (u1, .inl (G.2 1, 384, .inr (.inl uk'))), (u2, .inl (G.2 1, 40, .inr (.inl uw'))), (s0, .inr (4, [.ref b0, .ref s1, .ref s2, .long op, .int re])), (s1, .inl (G.2 1, 384, .inr (.inl dk))), (s2, .inl (G.2 1, 40, .inr (.inl wg)))]) [4, 5, 6, 1, 2, 3] (by decide) rfl
          have hFc := va_free (wc := [(u0, .inr (4, [.ref b0, .ref u1, .ref u2, .long uo', .int ur'])), (u1, .inl (G.2 1, 384, .inr (.inl uk'))), (u2, .inl (G.2 1, 40, .inr (.inl uw'))), (s0, .inr (4, [.ref b0, .ref s1, .ref s2, .long op, .int re])), (s1, .inl (G.2 1, 384, .inr (.inl dk))), (s2, .inl (G.2 1, 40, .inr (.inl wg)))]) hD hS hA [4, 5, 6, 1, 2, 3] rfl
          refine va_callv (va_runV (C := RX1) (As := [.ref s0]) (rest := []) ⟨hx, hb, hml, hown, hts⟩ (kX1_copyFrom l G u0 u1 u2 b0 b0 s0 s1 s2 uk' uw' uo' ur' dk wg op re _ h) (cwV 1 hts (gdV q463 q464 q465 q3 q466) rfl rfl rfl (by decide +kernel) ⟨Nat.le_of_ble_eq_true rfl, Nat.le_of_ble_eq_true rfl⟩) (preVw hPc hKK hDc (va_recv hK hPc (ci := 4) (q0 := 0) rfl rfl)) rfl rfl hl.1 rfl (lv_room (Nat.le_of_ble_eq_true rfl)) dX2_notes_96 ⟨Nat.zero_le _, Nat.zero_le _⟩) hS (fun q _ h => hFc q h) hFc (fun u t H1 locs ht hvm h hB hz1 hk1 hS => ?_)
          obtain ⟨dk_1, wg_1, op_1, re_1⟩ := u
          obtain ⟨hP1, hD1⟩ := hB
          rw [ht] at hP1
          obtain ⟨hP, hD⟩ := va_join (wr := [(x0, .inr (5, [.ref b0, .ref s0, .ref u0, .ref v0, .int tA, .int wP, .int nT, .int aK, .int lK, .int sW, .int rF])), (v0, .inr (4, [.ref b0, .ref v1, .ref v2, .long vo', .int vr'])), (v1, .inl (G.2 1, 384, .inr (.inl vk'))), (v2, .inl (G.2 1, 40, .inr (.inl vw'))), (b0, .inr (3, [.ref b1, .ref b2, .ref b3, .ref b4, .ref b5, .ref b6, .int bn])), (b1, .inl (G.2 0, 40, .inl kf)), (b2, .inl (G.2 0, 40, .inl ff)), (b3, .inl (G.2 0, 40, .inl sf)), (b4, .inl (G.2 0, 40, .inl df)), (b5, .inl (G.2 1, 40, .inr (.inl pf))), (b6, .inl (G.2 1, 6, .inr (.inl gf)))]) (w1 := [(u0, .inr (4, [.ref b0, .ref u1, .ref u2, .long op_1, .int re_1])), (u1, .inl (G.2 1, 384, .inr (.inl dk_1))), (u2, .inl (G.2 1, 40, .inr (.inl wg_1))), (s0, .inr (4, [.ref b0, .ref s1, .ref s2, .long op, .int re])), (s1, .inl (G.2 1, 384, .inr (.inl dk))), (s2, .inl (G.2 1, 40, .inr (.inl wg)))]) hP hD [4, 5, 6, 1, 2, 3] [0, 7, 8, 9, 10, 11, 12, 13, 14, 15, 16] rfl rfl (by decide) (by decide) hk1 hFc hP1 hD1
          generalize H1 = H at hP hS ⊢
          have hP : PP G [(x0, .inr (5, [.ref b0, .ref s0, .ref u0, .ref v0, .int tA, .int wP, .int nT, .int aK, .int lK, .int sW, .int rF])), (s0, .inr (4, [.ref b0, .ref s1, .ref s2, .long op, .int re])), (s1, .inl (G.2 1, 384, .inr (.inl dk))), (s2, .inl (G.2 1, 40, .inr (.inl wg))), (u0, .inr (4, [.ref b0, .ref u1, .ref u2, .long op_1, .int re_1])), (u1, .inl (G.2 1, 384, .inr (.inl dk_1))), (u2, .inl (G.2 1, 40, .inr (.inl wg_1))), (v0, .inr (4, [.ref b0, .ref v1, .ref v2, .long vo', .int vr'])), (v1, .inl (G.2 1, 384, .inr (.inl vk'))), (v2, .inl (G.2 1, 40, .inr (.inl vw'))), (b0, .inr (3, [.ref b1, .ref b2, .ref b3, .ref b4, .ref b5, .ref b6, .int bn])), (b1, .inl (G.2 0, 40, .inl kf)), (b2, .inl (G.2 0, 40, .inl ff)), (b3, .inl (G.2 0, 40, .inl sf)), (b4, .inl (G.2 0, 40, .inl df)), (b5, .inl (G.2 1, 40, .inr (.inl pf))), (b6, .inl (G.2 1, 6, .inr (.inl gf)))] H := va_P.sub hP [0, 14, 15, 16, 11, 12, 13, 1, 2, 3, 4, 5, 6, 7, 8, 9, 10] rfl
          have hD : va_D A [(x0, .inr (5, [.ref b0, .ref s0, .ref u0, .ref v0, .int tA, .int wP, .int nT, .int aK, .int lK, .int sW, .int rF])), (s0, .inr (4, [.ref b0, .ref s1, .ref s2, .long op, .int re])), (s1, .inl (G.2 1, 384, .inr (.inl dk))), (s2, .inl (G.2 1, 40, .inr (.inl wg))), (u0, .inr (4, [.ref b0, .ref u1, .ref u2, .long op_1, .int re_1])), (u1, .inl (G.2 1, 384, .inr (.inl dk_1))), (u2, .inl (G.2 1, 40, .inr (.inl wg_1))), (v0, .inr (4, [.ref b0, .ref v1, .ref v2, .long vo', .int vr'])), (v1, .inl (G.2 1, 384, .inr (.inl vk'))), (v2, .inl (G.2 1, 40, .inr (.inl vw'))), (b0, .inr (3, [.ref b1, .ref b2, .ref b3, .ref b4, .ref b5, .ref b6, .int bn])), (b1, .inl (G.2 0, 40, .inl kf)), (b2, .inl (G.2 0, 40, .inl ff)), (b3, .inl (G.2 0, 40, .inl sf)), (b4, .inl (G.2 0, 40, .inl df)), (b5, .inl (G.2 1, 40, .inr (.inl pf))), (b6, .inl (G.2 1, 6, .inr (.inl gf)))] := hD.sub [0, 14, 15, 16, 11, 12, 13, 1, 2, 3, 4, 5, 6, 7, 8, 9, 10] (by decide) rfl
          refine lv_aload_n hx hb dX2_notes_99 rfl (lv_at hl 0 rfl) ?_
          refine va_get (D := G.1) (ci := 5) (v := .ref u0) (C := RX2) (T := TX2) (N := 11) hx hb hts igX2 hown hK hP 0 rfl rfl 2 (by decide) (hts _ q178) (fun _ h9 => h9) rfl dX2_notes_100 ?_
          refine lv_iload_n hx hb dX2_notes_103 rfl (lv_at hl 3 rfl) ?_
          refine lv_iload hx hb dX2_notes_104 (lv_at hl 4 rfl) ?_
          have hPc := va_P.sub (ws' := [(u0, .inr (4, [.ref b0, .ref u1, .ref u2, .long op_1, .int re_1])), (u1, .inl (G.2 1, 384, .inr (.inl dk_1))), (u2, .inl (G.2 1, 40, .inr (.inl wg_1))), (b0, .inr (3, [.ref b1, .ref b2, .ref b3, .ref b4, .ref b5, .ref b6, .int bn])), (b1, .inl (G.2 0, 40, .inl kf)), (b2, .inl (G.2 0, 40, .inl ff)), (b3, .inl (G.2 0, 40, .inl sf)), (b4, .inl (G.2 0, 40, .inl df)), (b5, .inl (G.2 1, 40, .inr (.inl pf))), (b6, .inl (G.2 1, 6, .inr (.inl gf)))]) hP [4, 5, 6, 10, 11, 12, 13, 14, 15, 16] rfl
          have hDc := hD.sub (ws' := [(u0, .inr (4, [.ref b0, .ref u1, .ref u2, .long op_1, .int re_1])), (u1, .inl (G.2 1, 384, .inr (.inl dk_1))), (u2, .inl (G.2 1, 40, .inr (.inl wg_1))), (b0, .inr (3, [.ref b1, .ref b2, .ref b3, .ref b4, .ref b5, .ref b6, .int bn])), (b1, .inl (G.2 0, 40, .inl kf)), (b2, .inl (G.2 0, 40, .inl ff)), (b3, .inl (G.2 0, 40, .inl sf)), (b4, .inl (G.2 0, 40, .inl df)), (b5, .inl (G.2 1, 40, .inr (.inl pf))), (b6, .inl (G.2 1, 6, .inr (.inl gf)))]) [4, 5, 6, 10, 11, 12, 13, 14, 15, 16] (by decide) rfl
          have hFc := va_free (wc := [(u0, .inr (4, [.ref b0, .ref u1, .ref u2, .long op_1, .int re_1])), (u1, .inl (G.2 1, 384, .inr (.inl dk_1))), (u2, .inl (G.2 1, 40, .inr (.inl wg_1))), (b0, .inr (3, [.ref b1, .ref b2, .ref b3, .ref b4, .ref b5, .ref b6, .int bn])), (b1, .inl (G.2 0, 40, .inl kf)), (b2, .inl (G.2 0, 40, .inl ff)), (b3, .inl (G.2 0, 40, .inl sf)), (b4, .inl (G.2 0, 40, .inl df)), (b5, .inl (G.2 1, 40, .inr (.inl pf))), (b6, .inl (G.2 1, 6, .inr (.inl gf)))]) hD hS hA [4, 5, 6, 10, 11, 12, 13, 14, 15, 16] rfl
          refine va_calli (va_runV (C := RX1) (As := [.int i3, .int i4]) (rest := []) ⟨hx, hb, hml, hown, hts⟩ (kX1_passOn l G u0 u1 u2 b0 b1 b2 b3 b4 b5 b6 dk_1 wg_1 op_1 re_1 kf ff sf df pf gf bn i3 i4 _ h) (cwV 2 hts (gdV q470 q471 q472 q3 q473) rfl rfl rfl (by decide +kernel) ⟨Nat.le_of_ble_eq_true rfl, Nat.le_of_ble_eq_true rfl⟩) (preVw hPc hKK hDc (va_recv hK hPc (ci := 4) (q0 := 0) rfl rfl)) rfl rfl hl.1 rfl (lv_room (Nat.le_of_ble_eq_true rfl)) dX2_notes_106 ⟨Nat.zero_le _, Nat.zero_le _⟩) hS (fun q _ h => hFc q h) hFc (fun r_6 u t H1 locs ht hvm h hB hz1 hk1 hS => ?_)
          obtain ⟨dk_2, rfl⟩ : ∃ z, z = u := ⟨_, rfl⟩
          obtain ⟨hP1, hD1⟩ := hB
          rw [ht] at hP1
          obtain ⟨hP, hD⟩ := va_join (wr := [(x0, .inr (5, [.ref b0, .ref s0, .ref u0, .ref v0, .int tA, .int wP, .int nT, .int aK, .int lK, .int sW, .int rF])), (s0, .inr (4, [.ref b0, .ref s1, .ref s2, .long op, .int re])), (s1, .inl (G.2 1, 384, .inr (.inl dk))), (s2, .inl (G.2 1, 40, .inr (.inl wg))), (v0, .inr (4, [.ref b0, .ref v1, .ref v2, .long vo', .int vr'])), (v1, .inl (G.2 1, 384, .inr (.inl vk'))), (v2, .inl (G.2 1, 40, .inr (.inl vw')))]) (w1 := [(u0, .inr (4, [.ref b0, .ref u1, .ref u2, .long op_1, .int re_1])), (u1, .inl (G.2 1, 384, .inr (.inl dk_2))), (u2, .inl (G.2 1, 40, .inr (.inl wg_1))), (b0, .inr (3, [.ref b1, .ref b2, .ref b3, .ref b4, .ref b5, .ref b6, .int bn])), (b1, .inl (G.2 0, 40, .inl kf)), (b2, .inl (G.2 0, 40, .inl ff)), (b3, .inl (G.2 0, 40, .inl sf)), (b4, .inl (G.2 0, 40, .inl df)), (b5, .inl (G.2 1, 40, .inr (.inl pf))), (b6, .inl (G.2 1, 6, .inr (.inl gf)))]) hP hD [4, 5, 6, 10, 11, 12, 13, 14, 15, 16] [0, 1, 2, 3, 7, 8, 9] rfl rfl (by decide) (by decide) hk1 hFc hP1 hD1
          generalize H1 = H at hP hS ⊢
          have hP : PP G [(x0, .inr (5, [.ref b0, .ref s0, .ref u0, .ref v0, .int tA, .int wP, .int nT, .int aK, .int lK, .int sW, .int rF])), (s0, .inr (4, [.ref b0, .ref s1, .ref s2, .long op, .int re])), (s1, .inl (G.2 1, 384, .inr (.inl dk))), (s2, .inl (G.2 1, 40, .inr (.inl wg))), (u0, .inr (4, [.ref b0, .ref u1, .ref u2, .long op_1, .int re_1])), (u1, .inl (G.2 1, 384, .inr (.inl dk_2))), (u2, .inl (G.2 1, 40, .inr (.inl wg_1))), (v0, .inr (4, [.ref b0, .ref v1, .ref v2, .long vo', .int vr'])), (v1, .inl (G.2 1, 384, .inr (.inl vk'))), (v2, .inl (G.2 1, 40, .inr (.inl vw'))), (b0, .inr (3, [.ref b1, .ref b2, .ref b3, .ref b4, .ref b5, .ref b6, .int bn])), (b1, .inl (G.2 0, 40, .inl kf)), (b2, .inl (G.2 0, 40, .inl ff)), (b3, .inl (G.2 0, 40, .inl sf)), (b4, .inl (G.2 0, 40, .inl df)), (b5, .inl (G.2 1, 40, .inr (.inl pf))), (b6, .inl (G.2 1, 6, .inr (.inl gf)))] H := va_P.sub hP [0, 1, 2, 3, 7, 8, 9, 4, 5, 6, 10, 11, 12, 13, 14, 15, 16] rfl
          have hD : va_D A [(x0, .inr (5, [.ref b0, .ref s0, .ref u0, .ref v0, .int tA, .int wP, .int nT, .int aK, .int lK, .int sW, .int rF])), (s0, .inr (4, [.ref b0, .ref s1, .ref s2, .long op, .int re])), (s1, .inl (G.2 1, 384, .inr (.inl dk))), (s2, .inl (G.2 1, 40, .inr (.inl wg))), (u0, .inr (4, [.ref b0, .ref u1, .ref u2, .long op_1, .int re_1])), (u1, .inl (G.2 1, 384, .inr (.inl dk_2))), (u2, .inl (G.2 1, 40, .inr (.inl wg_1))), (v0, .inr (4, [.ref b0, .ref v1, .ref v2, .long vo', .int vr'])), (v1, .inl (G.2 1, 384, .inr (.inl vk'))), (v2, .inl (G.2 1, 40, .inr (.inl vw'))), (b0, .inr (3, [.ref b1, .ref b2, .ref b3, .ref b4, .ref b5, .ref b6, .int bn])), (b1, .inl (G.2 0, 40, .inl kf)), (b2, .inl (G.2 0, 40, .inl ff)), (b3, .inl (G.2 0, 40, .inl sf)), (b4, .inl (G.2 0, 40, .inl df)), (b5, .inl (G.2 1, 40, .inr (.inl pf))), (b6, .inl (G.2 1, 6, .inr (.inl gf)))] := hD.sub [0, 1, 2, 3, 7, 8, 9, 4, 5, 6, 10, 11, 12, 13, 14, 15, 16] (by decide) rfl
          refine lv_if_ne (tgt := 115) hx hb dX2_notes_109 (by decide) (fun hc => ?_) (fun hc => ?_)
          · have h := h.1 hc
            refine lv_aload_n hx hb dX2_notes_115 rfl (lv_at hl 0 rfl) ?_
            refine va_get (D := G.1) (ci := 5) (v := .ref u0) (C := RX2) (T := TX2) (N := 11) hx hb hts igX2 hown hK hP 0 rfl rfl 2 (by decide) (hts _ q178) (fun _ h9 => h9) rfl dX2_notes_116 ?_
            refine lv_aload_n hx hb dX2_notes_119 rfl (lv_at hl 0 rfl) ?_
            refine va_get (D := G.1) (ci := 5) (v := .ref b0) (C := RX2) (T := TX2) (N := 11) hx hb hts igX2 hown hK hP 0 rfl rfl 0 (by decide) (hts _ q176) (fun _ h9 => h9) rfl dX2_notes_120 ?_
            refine lv_iload hx hb dX2_notes_123 (lv_at hl 4 rfl) ?_
            refine lv_iload_n hx hb dX2_notes_125 rfl (lv_at hl 2 rfl) ?_
            have hPc := va_P.sub (ws' := [(b0, .inr (3, [.ref b1, .ref b2, .ref b3, .ref b4, .ref b5, .ref b6, .int bn])), (b1, .inl (G.2 0, 40, .inl kf)), (b2, .inl (G.2 0, 40, .inl ff)), (b3, .inl (G.2 0, 40, .inl sf)), (b4, .inl (G.2 0, 40, .inl df)), (b5, .inl (G.2 1, 40, .inr (.inl pf))), (b6, .inl (G.2 1, 6, .inr (.inl gf)))]) hP [10, 11, 12, 13, 14, 15, 16] rfl
            refine rdL (va_runV (C := RX0) (As := [.int i4, .int p2]) (rest := [.ref u0]) ⟨hx, hb, hml, hown, hts⟩ (kX0_hangingOn l G b0 b1 b2 b3 b4 b5 b6 kf ff sf df pf gf bn i4 p2 h) (cwV 2 hts (gdV q454 q455 q456 q2 q457) rfl rfl rfl (by decide +kernel) ⟨Nat.le_of_ble_eq_true rfl, Nat.le_of_ble_eq_true rfl⟩) (preV hPc hKK (va_recv hK hPc (ci := 3) (q0 := 0) rfl rfl)) rfl rfl hl.1 rfl (lv_room (Nat.le_of_ble_eq_true rfl)) dX2_notes_126 ⟨Nat.zero_le _, Nat.zero_le _⟩) (fun r_7 h => ?_)
            have hPc := va_P.sub (ws' := [(u0, .inr (4, [.ref b0, .ref u1, .ref u2, .long op_1, .int re_1])), (u1, .inl (G.2 1, 384, .inr (.inl dk_2))), (u2, .inl (G.2 1, 40, .inr (.inl wg_1))), (b0, .inr (3, [.ref b1, .ref b2, .ref b3, .ref b4, .ref b5, .ref b6, .int bn])), (b1, .inl (G.2 0, 40, .inl kf)), (b2, .inl (G.2 0, 40, .inl ff)), (b3, .inl (G.2 0, 40, .inl sf)), (b4, .inl (G.2 0, 40, .inl df)), (b5, .inl (G.2 1, 40, .inr (.inl pf))), (b6, .inl (G.2 1, 6, .inr (.inl gf)))]) hP [4, 5, 6, 10, 11, 12, 13, 14, 15, 16] rfl
            have hDc := hD.sub (ws' := [(u0, .inr (4, [.ref b0, .ref u1, .ref u2, .long op_1, .int re_1])), (u1, .inl (G.2 1, 384, .inr (.inl dk_2))), (u2, .inl (G.2 1, 40, .inr (.inl wg_1))), (b0, .inr (3, [.ref b1, .ref b2, .ref b3, .ref b4, .ref b5, .ref b6, .int bn])), (b1, .inl (G.2 0, 40, .inl kf)), (b2, .inl (G.2 0, 40, .inl ff)), (b3, .inl (G.2 0, 40, .inl sf)), (b4, .inl (G.2 0, 40, .inl df)), (b5, .inl (G.2 1, 40, .inr (.inl pf))), (b6, .inl (G.2 1, 6, .inr (.inl gf)))]) [4, 5, 6, 10, 11, 12, 13, 14, 15, 16] (by decide) rfl
            have hFc := va_free (wc := [(u0, .inr (4, [.ref b0, .ref u1, .ref u2, .long op_1, .int re_1])), (u1, .inl (G.2 1, 384, .inr (.inl dk_2))), (u2, .inl (G.2 1, 40, .inr (.inl wg_1))), (b0, .inr (3, [.ref b1, .ref b2, .ref b3, .ref b4, .ref b5, .ref b6, .int bn])), (b1, .inl (G.2 0, 40, .inl kf)), (b2, .inl (G.2 0, 40, .inl ff)), (b3, .inl (G.2 0, 40, .inl sf)), (b4, .inl (G.2 0, 40, .inl df)), (b5, .inl (G.2 1, 40, .inr (.inl pf))), (b6, .inl (G.2 1, 6, .inr (.inl gf)))]) hD hS hA [4, 5, 6, 10, 11, 12, 13, 14, 15, 16] rfl
            have hZc := (hZ.kept hS.2.1).narrow hFc
            refine va_callv (va_runV (C := RX1) (As := [.long r_7]) (rest := []) ⟨hx, hb, hml, hown, hts⟩ (kX1_weigh l G u0 u1 u2 b0 b1 b2 b3 b4 b5 b6 dk_2 wg_1 op_1 re_1 kf ff sf df pf gf bn r_7 _ h) (cwV 1 hts (gdV q475 q104 q105 q3 q106) rfl rfl rfl (by decide +kernel) ⟨Nat.le_of_ble_eq_true rfl, Nat.le_of_ble_eq_true rfl⟩) (preVwz hPc hKK hDc hZc (va_recv hK hPc (ci := 4) (q0 := 0) rfl rfl)) rfl rfl hl.1 rfl (lv_room (Nat.le_of_ble_eq_true rfl)) dX2_notes_129 ⟨Nat.zero_le _, Nat.zero_le _⟩) hS (fun q _ h => hFc q h) hFc (fun u t H1 locs ht hvm h hB hz1 hk1 hS => ?_)
            obtain ⟨wg_2, rfl⟩ : ∃ z, z = u := ⟨_, rfl⟩
            obtain ⟨hP1, hD1⟩ := hB
            rw [ht] at hP1
            obtain ⟨hP, hD⟩ := va_join (wr := [(x0, .inr (5, [.ref b0, .ref s0, .ref u0, .ref v0, .int tA, .int wP, .int nT, .int aK, .int lK, .int sW, .int rF])), (s0, .inr (4, [.ref b0, .ref s1, .ref s2, .long op, .int re])), (s1, .inl (G.2 1, 384, .inr (.inl dk))), (s2, .inl (G.2 1, 40, .inr (.inl wg))), (v0, .inr (4, [.ref b0, .ref v1, .ref v2, .long vo', .int vr'])), (v1, .inl (G.2 1, 384, .inr (.inl vk'))), (v2, .inl (G.2 1, 40, .inr (.inl vw')))]) (w1 := [(u0, .inr (4, [.ref b0, .ref u1, .ref u2, .long op_1, .int re_1])), (u1, .inl (G.2 1, 384, .inr (.inl dk_2))), (u2, .inl (G.2 1, 40, .inr (.inl wg_2))), (b0, .inr (3, [.ref b1, .ref b2, .ref b3, .ref b4, .ref b5, .ref b6, .int bn])), (b1, .inl (G.2 0, 40, .inl kf)), (b2, .inl (G.2 0, 40, .inl ff)), (b3, .inl (G.2 0, 40, .inl sf)), (b4, .inl (G.2 0, 40, .inl df)), (b5, .inl (G.2 1, 40, .inr (.inl pf))), (b6, .inl (G.2 1, 6, .inr (.inl gf)))]) hP hD [4, 5, 6, 10, 11, 12, 13, 14, 15, 16] [0, 1, 2, 3, 7, 8, 9] rfl rfl (by decide) (by decide) hk1 hFc hP1 hD1
            generalize H1 = H at hP hS ⊢
            have hP : PP G [(x0, .inr (5, [.ref b0, .ref s0, .ref u0, .ref v0, .int tA, .int wP, .int nT, .int aK, .int lK, .int sW, .int rF])), (s0, .inr (4, [.ref b0, .ref s1, .ref s2, .long op, .int re])), (s1, .inl (G.2 1, 384, .inr (.inl dk))), (s2, .inl (G.2 1, 40, .inr (.inl wg))), (u0, .inr (4, [.ref b0, .ref u1, .ref u2, .long op_1, .int re_1])), (u1, .inl (G.2 1, 384, .inr (.inl dk_2))), (u2, .inl (G.2 1, 40, .inr (.inl wg_2))), (v0, .inr (4, [.ref b0, .ref v1, .ref v2, .long vo', .int vr'])), (v1, .inl (G.2 1, 384, .inr (.inl vk'))), (v2, .inl (G.2 1, 40, .inr (.inl vw'))), (b0, .inr (3, [.ref b1, .ref b2, .ref b3, .ref b4, .ref b5, .ref b6, .int bn])), (b1, .inl (G.2 0, 40, .inl kf)), (b2, .inl (G.2 0, 40, .inl ff)), (b3, .inl (G.2 0, 40, .inl sf)), (b4, .inl (G.2 0, 40, .inl df)), (b5, .inl (G.2 1, 40, .inr (.inl pf))), (b6, .inl (G.2 1, 6, .inr (.inl gf)))] H := va_P.sub hP [0, 1, 2, 3, 7, 8, 9, 4, 5, 6, 10, 11, 12, 13, 14, 15, 16] rfl
            have hD : va_D A [(x0, .inr (5, [.ref b0, .ref s0, .ref u0, .ref v0, .int tA, .int wP, .int nT, .int aK, .int lK, .int sW, .int rF])), (s0, .inr (4, [.ref b0, .ref s1, .ref s2, .long op, .int re])), (s1, .inl (G.2 1, 384, .inr (.inl dk))), (s2, .inl (G.2 1, 40, .inr (.inl wg))), (u0, .inr (4, [.ref b0, .ref u1, .ref u2, .long op_1, .int re_1])), (u1, .inl (G.2 1, 384, .inr (.inl dk_2))), (u2, .inl (G.2 1, 40, .inr (.inl wg_2))), (v0, .inr (4, [.ref b0, .ref v1, .ref v2, .long vo', .int vr'])), (v1, .inl (G.2 1, 384, .inr (.inl vk'))), (v2, .inl (G.2 1, 40, .inr (.inl vw'))), (b0, .inr (3, [.ref b1, .ref b2, .ref b3, .ref b4, .ref b5, .ref b6, .int bn])), (b1, .inl (G.2 0, 40, .inl kf)), (b2, .inl (G.2 0, 40, .inl ff)), (b3, .inl (G.2 0, 40, .inl sf)), (b4, .inl (G.2 0, 40, .inl df)), (b5, .inl (G.2 1, 40, .inr (.inl pf))), (b6, .inl (G.2 1, 6, .inr (.inl gf)))] := hD.sub [0, 1, 2, 3, 7, 8, 9, 4, 5, 6, 10, 11, 12, 13, 14, 15, 16] (by decide) rfl
            refine lv_aload_n hx hb dX2_notes_132 rfl (lv_at hl 0 rfl) ?_
            refine lv_aload_n hx hb dX2_notes_133 rfl (lv_at hl 0 rfl) ?_
            refine va_get (D := G.1) (ci := 5) (v := .ref u0) (C := RX2) (T := TX2) (N := 11) hx hb hts igX2 hown hK hP 0 rfl rfl 2 (by decide) (hts _ q178) (fun _ h9 => h9) rfl dX2_notes_134 ?_
            refine lv_aload_n hx hb dX2_notes_137 rfl (lv_at hl 0 rfl) ?_
            refine va_get (D := G.1) (ci := 5) (v := .ref v0) (C := RX2) (T := TX2) (N := 11) hx hb hts igX2 hown hK hP 0 rfl rfl 3 (by decide) (hts _ q179) (fun _ h9 => h9) rfl dX2_notes_138 ?_
            refine lv_iload_n hx hb dX2_notes_141 rfl (lv_at hl 1 rfl) ?_
            refine lv_iload_n hx hb dX2_notes_142 rfl (lv_at hl 2 rfl) ?_
            have hPc := va_P.sub (ws' := [(x0, .inr (5, [.ref b0, .ref s0, .ref u0, .ref v0, .int tA, .int wP, .int nT, .int aK, .int lK, .int sW, .int rF])), (u0, .inr (4, [.ref b0, .ref u1, .ref u2, .long op_1, .int re_1])), (u1, .inl (G.2 1, 384, .inr (.inl dk_2))), (u2, .inl (G.2 1, 40, .inr (.inl wg_2))), (v0, .inr (4, [.ref b0, .ref v1, .ref v2, .long vo', .int vr'])), (v1, .inl (G.2 1, 384, .inr (.inl vk'))), (v2, .inl (G.2 1, 40, .inr (.inl vw'))), (b0, .inr (3, [.ref b1, .ref b2, .ref b3, .ref b4, .ref b5, .ref b6, .int bn])), (b1, .inl (G.2 0, 40, .inl kf)), (b2, .inl (G.2 0, 40, .inl ff)), (b3, .inl (G.2 0, 40, .inl sf)), (b4, .inl (G.2 0, 40, .inl df)), (b5, .inl (G.2 1, 40, .inr (.inl pf))), (b6, .inl (G.2 1, 6, .inr (.inl gf)))]) hP [0, 4, 5, 6, 7, 8, 9, 10, 11, 12, 13, 14, 15, 16] rfl
            have hDc := hD.sub (ws' := [(x0, .inr (5, [.ref b0, .ref s0, .ref u0, .ref v0, .int tA, .int wP, .int nT, .int aK, .int lK, .int sW, .int rF])), (u0, .inr (4, [.ref b0, .ref u1, .ref u2, .long op_1, .int re_1])), (u1, .inl (G.2 1, 384, .inr (.inl dk_2))), (u2, .inl (G.2 1, 40, .inr (.inl wg_2))), (v0, .inr (4, [.ref b0, .ref v1, .ref v2, .long vo', .int vr'])), (v1, .inl (G.2 1, 384, .inr (.inl vk'))), (v2, .inl (G.2 1, 40, .inr (.inl vw'))), (b0, .inr (3, [.ref b1, .ref b2, .ref b3, .ref b4, .ref b5, .ref b6, .int bn])), (b1, .inl (G.2 0, 40, .inl kf)), (b2, .inl (G.2 0, 40, .inl ff)), (b3, .inl (G.2 0, 40, .inl sf)), (b4, .inl (G.2 0, 40, .inl df)), (b5, .inl (G.2 1, 40, .inr (.inl pf))), (b6, .inl (G.2 1, 6, .inr (.inl gf)))]) [0, 4, 5, 6, 7, 8, 9, 10, 11, 12, 13, 14, 15, 16] (by decide) rfl
            have hFc := va_free (wc := [(x0, .inr (5, [.ref b0, .ref s0, .ref u0, .ref v0, .int tA, .int wP, .int nT, .int aK, .int lK, .int sW, .int rF])), (u0, .inr (4, [.ref b0, .ref u1, .ref u2, .long op_1, .int re_1])), (u1, .inl (G.2 1, 384, .inr (.inl dk_2))), (u2, .inl (G.2 1, 40, .inr (.inl wg_2))), (v0, .inr (4, [.ref b0, .ref v1, .ref v2, .long vo', .int vr'])), (v1, .inl (G.2 1, 384, .inr (.inl vk'))), (v2, .inl (G.2 1, 40, .inr (.inl vw'))), (b0, .inr (3, [.ref b1, .ref b2, .ref b3, .ref b4, .ref b5, .ref b6, .int bn])), (b1, .inl (G.2 0, 40, .inl kf)), (b2, .inl (G.2 0, 40, .inl ff)), (b3, .inl (G.2 0, 40, .inl sf)), (b4, .inl (G.2 0, 40, .inl df)), (b5, .inl (G.2 1, 40, .inr (.inl pf))), (b6, .inl (G.2 1, 6, .inr (.inl gf)))]) hD hS hA [0, 4, 5, 6, 7, 8, 9, 10, 11, 12, 13, 14, 15, 16] rfl
            have hZc := (hZ.kept hS.2.1).narrow hFc
            refine va_calli (va_runV (C := RX2) (As := [.ref u0, .ref v0, .int p1, .int p2]) (rest := []) ⟨hx, hb, hml, hown, hts⟩ (kX2_oneNoteDoes l G x0 s0 u0 v0 u0 u1 u2 v0 v1 v2 b0 b1 b2 b3 b4 b5 b6 dk_2 wg_2 op_1 re_1 vk' vw' vo' vr' kf ff sf df pf gf bn tA wP nT aK lK sW rF p1 p2 _ h) (cwV 4 hts (gdV q450 q452 qs8 q1 q453) rfl rfl rfl (by decide +kernel) ⟨Nat.le_of_ble_eq_true rfl, Nat.le_of_ble_eq_true rfl⟩) (preVwz hPc hKK hDc hZc (va_recv hK hPc (ci := 5) (q0 := 0) rfl rfl)) rfl rfl hl.1 rfl (lv_room (Nat.le_of_ble_eq_true rfl)) dX2_notes_143 ⟨Nat.zero_le _, Nat.zero_le _⟩) hS (fun q _ h => hFc q h) hFc (fun r_9 u t H1 locs ht hvm h hB hz1 hk1 hS => ?_)
            obtain ⟨uk_2, uw_2, uo_2, ur_2⟩ := u
            obtain ⟨hP1, hD1⟩ := hB
            rw [ht] at hP1
            obtain ⟨hP, hD⟩ := va_join (wr := [(s0, .inr (4, [.ref b0, .ref s1, .ref s2, .long op, .int re])), (s1, .inl (G.2 1, 384, .inr (.inl dk))), (s2, .inl (G.2 1, 40, .inr (.inl wg)))]) (w1 := [(x0, .inr (5, [.ref b0, .ref s0, .ref u0, .ref v0, .int tA, .int wP, .int nT, .int aK, .int lK, .int sW, .int rF])), (u0, .inr (4, [.ref b0, .ref u1, .ref u2, .long op_1, .int re_1])), (u1, .inl (G.2 1, 384, .inr (.inl dk_2))), (u2, .inl (G.2 1, 40, .inr (.inl wg_2))), (v0, .inr (4, [.ref b0, .ref v1, .ref v2, .long uo_2, .int ur_2])), (v1, .inl (G.2 1, 384, .inr (.inl uk_2))), (v2, .inl (G.2 1, 40, .inr (.inl uw_2))), (b0, .inr (3, [.ref b1, .ref b2, .ref b3, .ref b4, .ref b5, .ref b6, .int bn])), (b1, .inl (G.2 0, 40, .inl kf)), (b2, .inl (G.2 0, 40, .inl ff)), (b3, .inl (G.2 0, 40, .inl sf)), (b4, .inl (G.2 0, 40, .inl df)), (b5, .inl (G.2 1, 40, .inr (.inl pf))), (b6, .inl (G.2 1, 6, .inr (.inl gf)))]) hP hD [0, 4, 5, 6, 7, 8, 9, 10, 11, 12, 13, 14, 15, 16] [1, 2, 3] rfl rfl (by decide) (by decide) hk1 hFc hP1 hD1
            generalize H1 = H at hP hS ⊢
            have hP : PP G [(x0, .inr (5, [.ref b0, .ref s0, .ref u0, .ref v0, .int tA, .int wP, .int nT, .int aK, .int lK, .int sW, .int rF])), (s0, .inr (4, [.ref b0, .ref s1, .ref s2, .long op, .int re])), (s1, .inl (G.2 1, 384, .inr (.inl dk))), (s2, .inl (G.2 1, 40, .inr (.inl wg))), (u0, .inr (4, [.ref b0, .ref u1, .ref u2, .long op_1, .int re_1])), (u1, .inl (G.2 1, 384, .inr (.inl dk_2))), (u2, .inl (G.2 1, 40, .inr (.inl wg_2))), (v0, .inr (4, [.ref b0, .ref v1, .ref v2, .long uo_2, .int ur_2])), (v1, .inl (G.2 1, 384, .inr (.inl uk_2))), (v2, .inl (G.2 1, 40, .inr (.inl uw_2))), (b0, .inr (3, [.ref b1, .ref b2, .ref b3, .ref b4, .ref b5, .ref b6, .int bn])), (b1, .inl (G.2 0, 40, .inl kf)), (b2, .inl (G.2 0, 40, .inl ff)), (b3, .inl (G.2 0, 40, .inl sf)), (b4, .inl (G.2 0, 40, .inl df)), (b5, .inl (G.2 1, 40, .inr (.inl pf))), (b6, .inl (G.2 1, 6, .inr (.inl gf)))] H := va_P.sub hP [3, 0, 1, 2, 4, 5, 6, 7, 8, 9, 10, 11, 12, 13, 14, 15, 16] rfl
            have hD : va_D A [(x0, .inr (5, [.ref b0, .ref s0, .ref u0, .ref v0, .int tA, .int wP, .int nT, .int aK, .int lK, .int sW, .int rF])), (s0, .inr (4, [.ref b0, .ref s1, .ref s2, .long op, .int re])), (s1, .inl (G.2 1, 384, .inr (.inl dk))), (s2, .inl (G.2 1, 40, .inr (.inl wg))), (u0, .inr (4, [.ref b0, .ref u1, .ref u2, .long op_1, .int re_1])), (u1, .inl (G.2 1, 384, .inr (.inl dk_2))), (u2, .inl (G.2 1, 40, .inr (.inl wg_2))), (v0, .inr (4, [.ref b0, .ref v1, .ref v2, .long uo_2, .int ur_2])), (v1, .inl (G.2 1, 384, .inr (.inl uk_2))), (v2, .inl (G.2 1, 40, .inr (.inl uw_2))), (b0, .inr (3, [.ref b1, .ref b2, .ref b3, .ref b4, .ref b5, .ref b6, .int bn])), (b1, .inl (G.2 0, 40, .inl kf)), (b2, .inl (G.2 0, 40, .inl ff)), (b3, .inl (G.2 0, 40, .inl sf)), (b4, .inl (G.2 0, 40, .inl df)), (b5, .inl (G.2 1, 40, .inr (.inl pf))), (b6, .inl (G.2 1, 6, .inr (.inl gf)))] := hD.sub [3, 0, 1, 2, 4, 5, 6, 7, 8, 9, 10, 11, 12, 13, 14, 15, 16] (by decide) rfl
            refine lv_if_eq (tgt := 151) hx hb dX2_notes_146 (by decide) (fun hc => ?_) (fun hc => ?_)
            · have h := h.1 hc
              refine lv_iinc (v := (i4 + 1)) hx hb dX2_notes_151 hl (k := 4) rfl (by rw [show Int32.ofInt 1 = 1 from by decide]) (Nat.le_of_ble_eq_true rfl) rfl (fun ls hl => ?_)
              have hl : lv_has ls 5 [(4, .int (i4 + 1)), (0, .ref x0), (1, .int p1), (2, .int p2), (3, .int i3)] := hl
              refine lv_goto (tgt := 72) hx hb dX2_notes_154 (by decide) ?_
              have hl := lv_sub (l' := [(0, .ref x0), (1, .int p1), (2, .int p2), (3, .int i3), (4, .int (i4 + 1))]) hl [1, 2, 3, 4, 0] rfl
              exact ih _ _ _ _ _ _ _ _ _ ls H locs hl hP hD hS h
            · have h := h.2 hc
              refine lv_iconst (v := 2) hx hb dX2_notes_149 (by decide) ?_
              refine vx_ret (W.widen (k := 1) (n := 6) (Nat.le_of_ble_eq_true rfl) (Nat.le_of_ble_eq_true rfl) ?_)
              subst hQC; exact W.iret (v := (2 : Int32)) hx hb hr (fun t ht hW => ⟨⟨_, (dk_2, wg_2, op_1, re_1, uk_2, uw_2, uo_2, ur_2), rfl, h, by rw [ht]; exact hP, hD⟩, hS.F ht⟩) hS.2.2 dX2_notes_150
          · have h := h.2 hc
            refine lv_goto (tgt := 151) hx hb dX2_notes_112 (by decide) ?_
            refine lv_iinc (v := (i4 + 1)) hx hb dX2_notes_151 hl (k := 4) rfl (by rw [show Int32.ofInt 1 = 1 from by decide]) (Nat.le_of_ble_eq_true rfl) rfl (fun ls hl => ?_)
            have hl : lv_has ls 5 [(4, .int (i4 + 1)), (0, .ref x0), (1, .int p1), (2, .int p2), (3, .int i3)] := hl
            refine lv_goto (tgt := 72) hx hb dX2_notes_154 (by decide) ?_
            have hl := lv_sub (l' := [(0, .ref x0), (1, .int p1), (2, .int p2), (3, .int i3), (4, .int (i4 + 1))]) hl [1, 2, 3, 4, 0] rfl
            exact ih _ _ _ _ _ _ _ _ _ ls H locs hl hP hD hS h
        · have h := h.2 hc
          refine lv_goto (tgt := 151) hx hb dX2_notes_85 (by decide) ?_
          refine lv_iinc (v := (i4 + 1)) hx hb dX2_notes_151 hl (k := 4) rfl (by rw [show Int32.ofInt 1 = 1 from by decide]) (Nat.le_of_ble_eq_true rfl) rfl (fun ls hl => ?_)
          have hl : lv_has ls 5 [(4, .int (i4 + 1)), (0, .ref x0), (1, .int p1), (2, .int p2), (3, .int i3)] := hl
          refine lv_goto (tgt := 72) hx hb dX2_notes_154 (by decide) ?_
          have hl := lv_sub (l' := [(0, .ref x0), (1, .int p1), (2, .int p2), (3, .int i3), (4, .int (i4 + 1))]) hl [1, 2, 3, 4, 0] rfl
          exact ih _ _ _ _ _ _ _ _ _ ls H locs hl hP hD hS h
  have loop63 : ∀ (K163 : Int32 → (Nat → Int64) → (Nat → Int64) → Int64 → Int32 → (Nat → Int64) → (Nat → Int64) → Int64 → Int32 → Prop), True → (∀ (i3 : Int32) (uk' : Nat → Int64) (uw' : Nat → Int64) (uo' : Int64) (ur' : Int32) (vk' : Nat → Int64) (vw' : Nat → Int64) (vo' : Int64) (vr' : Int32) (ls : Array Slot) (H : Heap) (locs : List Loc), lv_has ls 5 [(0, .ref x0), (1, .int p1), (2, .int p2), (3, .int i3)] → PP G [(x0, .inr (5, [.ref b0, .ref s0, .ref u0, .ref v0, .int tA, .int wP, .int nT, .int aK, .int lK, .int sW, .int rF])), (s0, .inr (4, [.ref b0, .ref s1, .ref s2, .long op, .int re])), (s1, .inl (G.2 1, 384, .inr (.inl dk))), (s2, .inl (G.2 1, 40, .inr (.inl wg))), (u0, .inr (4, [.ref b0, .ref u1, .ref u2, .long uo', .int ur'])), (u1, .inl (G.2 1, 384, .inr (.inl uk'))), (u2, .inl (G.2 1, 40, .inr (.inl uw'))), (v0, .inr (4, [.ref b0, .ref v1, .ref v2, .long vo', .int vr'])), (v1, .inl (G.2 1, 384, .inr (.inl vk'))), (v2, .inl (G.2 1, 40, .inr (.inl vw'))), (b0, .inr (3, [.ref b1, .ref b2, .ref b3, .ref b4, .ref b5, .ref b6, .int bn])), (b1, .inl (G.2 0, 40, .inl kf)), (b2, .inl (G.2 0, 40, .inl ff)), (b3, .inl (G.2 0, 40, .inl sf)), (b4, .inl (G.2 0, 40, .inl df)), (b5, .inl (G.2 1, 40, .inr (.inl pf))), (b6, .inl (G.2 1, 6, .inr (.inl gf)))] H → va_D A [(x0, .inr (5, [.ref b0, .ref s0, .ref u0, .ref v0, .int tA, .int wP, .int nT, .int aK, .int lK, .int sW, .int rF])), (s0, .inr (4, [.ref b0, .ref s1, .ref s2, .long op, .int re])), (s1, .inl (G.2 1, 384, .inr (.inl dk))), (s2, .inl (G.2 1, 40, .inr (.inl wg))), (u0, .inr (4, [.ref b0, .ref u1, .ref u2, .long uo', .int ur'])), (u1, .inl (G.2 1, 384, .inr (.inl uk'))), (u2, .inl (G.2 1, 40, .inr (.inl uw'))), (v0, .inr (4, [.ref b0, .ref v1, .ref v2, .long vo', .int vr'])), (v1, .inl (G.2 1, 384, .inr (.inl vk'))), (v2, .inl (G.2 1, 40, .inr (.inl vw'))), (b0, .inr (3, [.ref b1, .ref b2, .ref b3, .ref b4, .ref b5, .ref b6, .int bn])), (b1, .inl (G.2 0, 40, .inl kf)), (b2, .inl (G.2 0, 40, .inl ff)), (b3, .inl (G.2 0, 40, .inl sf)), (b4, .inl (G.2 0, 40, .inl df)), (b5, .inl (G.2 1, 40, .inr (.inl pf))), (b6, .inl (G.2 1, 6, .inr (.inl gf)))] → va_S A s.heap H locs → K163 i3 uk' uw' uo' ur' vk' vw' vo' vr' → W p l e (headSpec (wl_xX2_notes) rm_xX2_notes).room s m ([.ref x0, .int p1, .int p2] : List Value).toArray below meth c H locs 0 0 (vx_MQ below QC XC ([.ref x0, .int p1, .int p2] : List Value).toArray s 1 6 A) (F0 m 163 ls [])) → ∀ (n : Nat) (i3 : Int32) (uk' : Nat → Int64) (uw' : Nat → Int64) (uo' : Int64) (ur' : Int32) (vk' : Nat → Int64) (vw' : Nat → Int64) (vo' : Int64) (vr' : Int32) (ls : Array Slot) (H : Heap) (locs : List Loc), lv_has ls 5 [(0, .ref x0), (1, .int p1), (2, .int p2), (3, .int i3)] → PP G [(x0, .inr (5, [.ref b0, .ref s0, .ref u0, .ref v0, .int tA, .int wP, .int nT, .int aK, .int lK, .int sW, .int rF])), (s0, .inr (4, [.ref b0, .ref s1, .ref s2, .long op, .int re])), (s1, .inl (G.2 1, 384, .inr (.inl dk))), (s2, .inl (G.2 1, 40, .inr (.inl wg))), (u0, .inr (4, [.ref b0, .ref u1, .ref u2, .long uo', .int ur'])), (u1, .inl (G.2 1, 384, .inr (.inl uk'))), (u2, .inl (G.2 1, 40, .inr (.inl uw'))), (v0, .inr (4, [.ref b0, .ref v1, .ref v2, .long vo', .int vr'])), (v1, .inl (G.2 1, 384, .inr (.inl vk'))), (v2, .inl (G.2 1, 40, .inr (.inl vw'))), (b0, .inr (3, [.ref b1, .ref b2, .ref b3, .ref b4, .ref b5, .ref b6, .int bn])), (b1, .inl (G.2 0, 40, .inl kf)), (b2, .inl (G.2 0, 40, .inl ff)), (b3, .inl (G.2 0, 40, .inl sf)), (b4, .inl (G.2 0, 40, .inl df)), (b5, .inl (G.2 1, 40, .inr (.inl pf))), (b6, .inl (G.2 1, 6, .inr (.inl gf)))] H → va_D A [(x0, .inr (5, [.ref b0, .ref s0, .ref u0, .ref v0, .int tA, .int wP, .int nT, .int aK, .int lK, .int sW, .int rF])), (s0, .inr (4, [.ref b0, .ref s1, .ref s2, .long op, .int re])), (s1, .inl (G.2 1, 384, .inr (.inl dk))), (s2, .inl (G.2 1, 40, .inr (.inl wg))), (u0, .inr (4, [.ref b0, .ref u1, .ref u2, .long uo', .int ur'])), (u1, .inl (G.2 1, 384, .inr (.inl uk'))), (u2, .inl (G.2 1, 40, .inr (.inl uw'))), (v0, .inr (4, [.ref b0, .ref v1, .ref v2, .long vo', .int vr'])), (v1, .inl (G.2 1, 384, .inr (.inl vk'))), (v2, .inl (G.2 1, 40, .inr (.inl vw'))), (b0, .inr (3, [.ref b1, .ref b2, .ref b3, .ref b4, .ref b5, .ref b6, .int bn])), (b1, .inl (G.2 0, 40, .inl kf)), (b2, .inl (G.2 0, 40, .inl ff)), (b3, .inl (G.2 0, 40, .inl sf)), (b4, .inl (G.2 0, 40, .inl df)), (b5, .inl (G.2 1, 40, .inr (.inl pf))), (b6, .inl (G.2 1, 6, .inr (.inl gf)))] → va_S A s.heap H locs → wxX2_notes_L63 post postx K163 dk wg op re kf ff sf pf gf bn p1 p2 n i3 uk' uw' uo' ur' vk' vw' vo' vr' → W p l e (headSpec (wl_xX2_notes) rm_xX2_notes).room s m ([.ref x0, .int p1, .int p2] : List Value).toArray below meth c H locs 0 0 (vx_MQ below QC XC ([.ref x0, .int p1, .int p2] : List Value).toArray s 1 6 A) (F0 m 63 ls []) := by
    intro K163 _ hexit163 n
    induction n with
    | zero => intro i3 uk' uw' uo' ur' vk' vw' vo' vr' ls H locs hl hP hD hS h; exact False.elim h
    | succ n ih =>
      intro i3 uk' uw' uo' ur' vk' vw' vo' vr' ls H locs hl hP hD hS h
      refine lv_iload_n hx hb dX2_notes_63 rfl (lv_at hl 3 rfl) ?_
      refine lv_bipush (v := 6) hx hb dX2_notes_64 (by decide) ?_
      refine lv_icmp_ge (tgt := 163) hx hb dX2_notes_66 (by decide) (fun hc => ?_) (fun hc => ?_)
      · have h := h.1 hc
        have hl := lv_sub (l' := [(0, .ref x0), (1, .int p1), (2, .int p2), (3, .int i3)]) hl [0, 1, 2, 3] rfl
        exact hexit163 _ _ _ _ _ _ _ _ _ ls H locs hl hP hD hS h
      · have h := h.2 hc
        refine lv_iconst (v := 0) hx hb dX2_notes_69 (by decide) ?_
        refine lv_istore hx hb dX2_notes_70 hl (Nat.le_of_ble_eq_true rfl) rfl (fun ls hl => ?_)
        have hl : lv_has ls 5 [(4, .int (0 : Int32)), (0, .ref x0), (1, .int p1), (2, .int p2), (3, .int i3)] := hl
        have hl := lv_sub (l' := [(0, .ref x0), (1, .int p1), (2, .int p2), (3, .int i3), (4, .int (0 : Int32))]) hl [1, 2, 3, 4, 0] rfl
        obtain ⟨nF, h⟩ := h
        refine loop72 _ i3 trivial ?_ nF (0 : Int32) uk' uw' uo' ur' vk' vw' vo' vr' _ _ _ hl hP hD hS h
        · intro i4 uk' uw' uo' ur' vk' vw' vo' vr' ls H locs hl hP hD hS h
          refine lv_iinc (v := (i3 + 1)) hx hb dX2_notes_157 hl (k := 3) rfl (by rw [show Int32.ofInt 1 = 1 from by decide]) (Nat.le_of_ble_eq_true rfl) rfl (fun ls hl => ?_)
          have hl : lv_has ls 5 [(3, .int (i3 + 1)), (0, .ref x0), (1, .int p1), (2, .int p2), (4, .int i4)] := hl
          refine lv_goto (tgt := 63) hx hb dX2_notes_160 (by decide) ?_
          have hl := lv_sub (l' := [(0, .ref x0), (1, .int p1), (2, .int p2), (3, .int (i3 + 1))]) hl [1, 2, 3, 0] rfl
          exact ih _ _ _ _ _ _ _ _ _ ls H locs hl hP hD hS h
  refine lv_iload_n hx hb dX2_notes_0 rfl (lv_at hl 1 rfl) ?_
  have hPc := va_P.sub (ws' := []) hP [] rfl
  refine rdI (va_runS (As := [.int p1]) (rest := []) ⟨hx, hb, hml, hown, hts⟩ (kX2_isGuard l G p1 h) (va_cwS 1 hts (gdS q346 q347 q1 q348) rfl rfl rfl (by decide +kernel) ⟨Nat.le_of_ble_eq_true rfl, Nat.le_of_ble_eq_true rfl⟩) (preS hPc hKK) rfl rfl hl.1 rfl (lv_room (Nat.le_of_ble_eq_true rfl)) dX2_notes_1 ⟨Nat.zero_le _, Nat.zero_le _⟩) (fun r_1 h => ?_)
  refine lv_if_eq (tgt := 18) hx hb dX2_notes_4 (by decide) (fun hc => ?_) (fun hc => ?_)
  · have h := h.1 hc
    obtain ⟨sa, hsa⟩ := hR.1 ("NightdeskRota", 139, "no such guard or sentence") (List.mem_of_getElem? (i := 7) rfl)
    subst hXC
    exact vx_throwS (names := rtx) (text := "no such guard or sentence") (sa := sa) hx hb hfl hown (by decide +kernel) (by decide +kernel) (hts _ q349) (hts _ q22) hsa (hatX hat87a hat87b hts hN hZ) hgd87 hZ.2.1 hZ.2.2 hS (hl.1.trans hml.symm) dX2_notes_18 dX2_notes_21 dX2_notes_22 dX2_notes_24 dX2_notes_27 (fun x hx => (hT x hx).elim) (Nat.le_of_ble_eq_true rfl) (Nat.le_of_ble_eq_true rfl) (Nat.le_of_ble_eq_true rfl) (Nat.le_of_ble_eq_true rfl) hlocks (fun t ht h1 h2 => ⟨(), trivial, ⟨keepAll hP h2, hD, h⟩, h1, fun q hq _ => h2 q hq⟩) hS.2.2 (Nat.le_refl _) (Nat.le_refl _)
  · have h := h.2 hc
    refine lv_aload_n hx hb dX2_notes_7 rfl (lv_at hl 0 rfl) ?_
    refine va_get (D := G.1) (ci := 5) (v := .ref b0) (C := RX2) (T := TX2) (N := 11) hx hb hts igX2 hown hK hP 0 rfl rfl 0 (by decide) (hts _ q176) (fun _ h9 => h9) rfl dX2_notes_8 ?_
    refine lv_iload_n hx hb dX2_notes_11 rfl (lv_at hl 2 rfl) ?_
    have hPc := va_P.sub (ws' := [(b0, .inr (3, [.ref b1, .ref b2, .ref b3, .ref b4, .ref b5, .ref b6, .int bn])), (b1, .inl (G.2 0, 40, .inl kf)), (b2, .inl (G.2 0, 40, .inl ff)), (b3, .inl (G.2 0, 40, .inl sf)), (b4, .inl (G.2 0, 40, .inl df)), (b5, .inl (G.2 1, 40, .inr (.inl pf))), (b6, .inl (G.2 1, 6, .inr (.inl gf)))]) hP [10, 11, 12, 13, 14, 15, 16] rfl
    refine rdI (va_runV (C := RX0) (As := [.int p2]) (rest := []) ⟨hx, hb, hml, hown, hts⟩ (kX0_holds l G b0 b1 b2 b3 b4 b5 b6 kf ff sf df pf gf bn p2 h) (cwV 1 hts (gdV q403 q115 q116 q2 q117) rfl rfl rfl (by decide +kernel) ⟨Nat.le_of_ble_eq_true rfl, Nat.le_of_ble_eq_true rfl⟩) (preV hPc hKK (va_recv hK hPc (ci := 3) (q0 := 0) rfl rfl)) rfl rfl hl.1 rfl (lv_room (Nat.le_of_ble_eq_true rfl)) dX2_notes_12 ⟨Nat.zero_le _, Nat.zero_le _⟩) (fun r_2 h => ?_)
    refine lv_if_ne (tgt := 28) hx hb dX2_notes_15 (by decide) (fun hc => ?_) (fun hc => ?_)
    · have h := h.1 hc
      refine lv_aload_n hx hb dX2_notes_28 rfl (lv_at hl 0 rfl) ?_
      refine va_get (D := G.1) (ci := 5) (v := .ref s0) (C := RX2) (T := TX2) (N := 11) hx hb hts igX2 hown hK hP 0 rfl rfl 1 (by decide) (hts _ q177) (fun _ h9 => h9) rfl dX2_notes_29 ?_
      refine lv_iload_n hx hb dX2_notes_32 rfl (lv_at hl 1 rfl) ?_
      refine lv_iload_n hx hb dX2_notes_33 rfl (lv_at hl 2 rfl) ?_
      have hPc := va_P.sub (ws' := [(s0, .inr (4, [.ref b0, .ref s1, .ref s2, .long op, .int re])), (s1, .inl (G.2 1, 384, .inr (.inl dk))), (s2, .inl (G.2 1, 40, .inr (.inl wg))), (b0, .inr (3, [.ref b1, .ref b2, .ref b3, .ref b4, .ref b5, .ref b6, .int bn])), (b1, .inl (G.2 0, 40, .inl kf)), (b2, .inl (G.2 0, 40, .inl ff)), (b3, .inl (G.2 0, 40, .inl sf)), (b4, .inl (G.2 0, 40, .inl df)), (b5, .inl (G.2 1, 40, .inr (.inl pf))), (b6, .inl (G.2 1, 6, .inr (.inl gf)))]) hP [1, 2, 3, 10, 11, 12, 13, 14, 15, 16] rfl
      refine rdI (va_runV (C := RX1) (As := [.int p1, .int p2]) (rest := []) ⟨hx, hb, hml, hown, hts⟩ (kX1_knows l G s0 s1 s2 b0 b1 b2 b3 b4 b5 b6 dk wg op re kf ff sf df pf gf bn p1 p2 h) (cwV 2 hts (gdV q449 q236 q237 q3 q238) rfl rfl rfl (by decide +kernel) ⟨Nat.le_of_ble_eq_true rfl, Nat.le_of_ble_eq_true rfl⟩) (preV hPc hKK (va_recv hK hPc (ci := 4) (q0 := 0) rfl rfl)) rfl rfl hl.1 rfl (lv_room (Nat.le_of_ble_eq_true rfl)) dX2_notes_34 ⟨Nat.zero_le _, Nat.zero_le _⟩) (fun r_3 h => ?_)
      refine lv_if_eq (tgt := 42) hx hb dX2_notes_37 (by decide) (fun hc => ?_) (fun hc => ?_)
      · have h := h.1 hc
        refine lv_aload_n hx hb dX2_notes_42 rfl (lv_at hl 0 rfl) ?_
        refine lv_aload_n hx hb dX2_notes_43 rfl (lv_at hl 0 rfl) ?_
        refine va_get (D := G.1) (ci := 5) (v := .ref s0) (C := RX2) (T := TX2) (N := 11) hx hb hts igX2 hown hK hP 0 rfl rfl 1 (by decide) (hts _ q177) (fun _ h9 => h9) rfl dX2_notes_44 ?_
        refine lv_aload_n hx hb dX2_notes_47 rfl (lv_at hl 0 rfl) ?_
        refine va_get (D := G.1) (ci := 5) (v := .ref u0) (C := RX2) (T := TX2) (N := 11) hx hb hts igX2 hown hK hP 0 rfl rfl 2 (by decide) (hts _ q178) (fun _ h9 => h9) rfl dX2_notes_48 ?_
        refine lv_iload_n hx hb dX2_notes_51 rfl (lv_at hl 1 rfl) ?_
        refine lv_iload_n hx hb dX2_notes_52 rfl (lv_at hl 2 rfl) ?_
        have hPc := va_P.sub (ws' := [(x0, .inr (5, [.ref b0, .ref s0, .ref u0, .ref v0, .int tA, .int wP, .int nT, .int aK, .int lK, .int sW, .int rF])), (s0, .inr (4, [.ref b0, .ref s1, .ref s2, .long op, .int re])), (s1, .inl (G.2 1, 384, .inr (.inl dk))), (s2, .inl (G.2 1, 40, .inr (.inl wg))), (u0, .inr (4, [.ref b0, .ref u1, .ref u2, .long uo, .int ur])), (u1, .inl (G.2 1, 384, .inr (.inl uk))), (u2, .inl (G.2 1, 40, .inr (.inl uw))), (b0, .inr (3, [.ref b1, .ref b2, .ref b3, .ref b4, .ref b5, .ref b6, .int bn])), (b1, .inl (G.2 0, 40, .inl kf)), (b2, .inl (G.2 0, 40, .inl ff)), (b3, .inl (G.2 0, 40, .inl sf)), (b4, .inl (G.2 0, 40, .inl df)), (b5, .inl (G.2 1, 40, .inr (.inl pf))), (b6, .inl (G.2 1, 6, .inr (.inl gf)))]) hP [0, 1, 2, 3, 4, 5, 6, 10, 11, 12, 13, 14, 15, 16] rfl
        have hDc := hD.sub (ws' := [(x0, .inr (5, [.ref b0, .ref s0, .ref u0, .ref v0, .int tA, .int wP, .int nT, .int aK, .int lK, .int sW, .int rF])), (s0, .inr (4, [.ref b0, .ref s1, .ref s2, .long op, .int re])), (s1, .inl (G.2 1, 384, .inr (.inl dk))), (s2, .inl (G.2 1, 40, .inr (.inl wg))), (u0, .inr (4, [.ref b0, .ref u1, .ref u2, .long uo, .int ur])), (u1, .inl (G.2 1, 384, .inr (.inl uk))), (u2, .inl (G.2 1, 40, .inr (.inl uw))), (b0, .inr (3, [.ref b1, .ref b2, .ref b3, .ref b4, .ref b5, .ref b6, .int bn])), (b1, .inl (G.2 0, 40, .inl kf)), (b2, .inl (G.2 0, 40, .inl ff)), (b3, .inl (G.2 0, 40, .inl sf)), (b4, .inl (G.2 0, 40, .inl df)), (b5, .inl (G.2 1, 40, .inr (.inl pf))), (b6, .inl (G.2 1, 6, .inr (.inl gf)))]) [0, 1, 2, 3, 4, 5, 6, 10, 11, 12, 13, 14, 15, 16] (by decide) rfl
        have hFc := va_free (wc := [(x0, .inr (5, [.ref b0, .ref s0, .ref u0, .ref v0, .int tA, .int wP, .int nT, .int aK, .int lK, .int sW, .int rF])), (s0, .inr (4, [.ref b0, .ref s1, .ref s2, .long op, .int re])), (s1, .inl (G.2 1, 384, .inr (.inl dk))), (s2, .inl (G.2 1, 40, .inr (.inl wg))), (u0, .inr (4, [.ref b0, .ref u1, .ref u2, .long uo, .int ur])), (u1, .inl (G.2 1, 384, .inr (.inl uk))), (u2, .inl (G.2 1, 40, .inr (.inl uw))), (b0, .inr (3, [.ref b1, .ref b2, .ref b3, .ref b4, .ref b5, .ref b6, .int bn])), (b1, .inl (G.2 0, 40, .inl kf)), (b2, .inl (G.2 0, 40, .inl ff)), (b3, .inl (G.2 0, 40, .inl sf)), (b4, .inl (G.2 0, 40, .inl df)), (b5, .inl (G.2 1, 40, .inr (.inl pf))), (b6, .inl (G.2 1, 6, .inr (.inl gf)))]) hD hS hA [0, 1, 2, 3, 4, 5, 6, 10, 11, 12, 13, 14, 15, 16] rfl
        have hZc := (hZ.kept hS.2.1).narrow hFc
        refine va_calli (va_runV (C := RX2) (As := [.ref s0, .ref u0, .int p1, .int p2]) (rest := []) ⟨hx, hb, hml, hown, hts⟩ (kX2_oneNoteDoes l G x0 s0 u0 v0 s0 s1 s2 u0 u1 u2 b0 b1 b2 b3 b4 b5 b6 dk wg op re uk uw uo ur kf ff sf df pf gf bn tA wP nT aK lK sW rF p1 p2 _ h) (cwV 4 hts (gdV q450 q452 qs8 q1 q453) rfl rfl rfl (by decide +kernel) ⟨Nat.le_of_ble_eq_true rfl, Nat.le_of_ble_eq_true rfl⟩) (preVwz hPc hKK hDc hZc (va_recv hK hPc (ci := 5) (q0 := 0) rfl rfl)) rfl rfl hl.1 rfl (lv_room (Nat.le_of_ble_eq_true rfl)) dX2_notes_53 ⟨Nat.zero_le _, Nat.zero_le _⟩) hS (fun q _ h => hFc q h) hFc (fun r_4 u t H1 locs ht hvm h hB hz1 hk1 hS => ?_)
        obtain ⟨uk_1, uw_1, uo_1, ur_1⟩ := u
        obtain ⟨hP1, hD1⟩ := hB
        rw [ht] at hP1
        obtain ⟨hP, hD⟩ := va_join (wr := [(v0, .inr (4, [.ref b0, .ref v1, .ref v2, .long vo, .int vr])), (v1, .inl (G.2 1, 384, .inr (.inl vk))), (v2, .inl (G.2 1, 40, .inr (.inl vw)))]) (w1 := [(x0, .inr (5, [.ref b0, .ref s0, .ref u0, .ref v0, .int tA, .int wP, .int nT, .int aK, .int lK, .int sW, .int rF])), (s0, .inr (4, [.ref b0, .ref s1, .ref s2, .long op, .int re])), (s1, .inl (G.2 1, 384, .inr (.inl dk))), (s2, .inl (G.2 1, 40, .inr (.inl wg))), (u0, .inr (4, [.ref b0, .ref u1, .ref u2, .long uo_1, .int ur_1])), (u1, .inl (G.2 1, 384, .inr (.inl uk_1))), (u2, .inl (G.2 1, 40, .inr (.inl uw_1))), (b0, .inr (3, [.ref b1, .ref b2, .ref b3, .ref b4, .ref b5, .ref b6, .int bn])), (b1, .inl (G.2 0, 40, .inl kf)), (b2, .inl (G.2 0, 40, .inl ff)), (b3, .inl (G.2 0, 40, .inl sf)), (b4, .inl (G.2 0, 40, .inl df)), (b5, .inl (G.2 1, 40, .inr (.inl pf))), (b6, .inl (G.2 1, 6, .inr (.inl gf)))]) hP hD [0, 1, 2, 3, 4, 5, 6, 10, 11, 12, 13, 14, 15, 16] [7, 8, 9] rfl rfl (by decide) (by decide) hk1 hFc hP1 hD1
        generalize H1 = H at hP hS ⊢
        have hP : PP G [(x0, .inr (5, [.ref b0, .ref s0, .ref u0, .ref v0, .int tA, .int wP, .int nT, .int aK, .int lK, .int sW, .int rF])), (s0, .inr (4, [.ref b0, .ref s1, .ref s2, .long op, .int re])), (s1, .inl (G.2 1, 384, .inr (.inl dk))), (s2, .inl (G.2 1, 40, .inr (.inl wg))), (u0, .inr (4, [.ref b0, .ref u1, .ref u2, .long uo_1, .int ur_1])), (u1, .inl (G.2 1, 384, .inr (.inl uk_1))), (u2, .inl (G.2 1, 40, .inr (.inl uw_1))), (v0, .inr (4, [.ref b0, .ref v1, .ref v2, .long vo, .int vr])), (v1, .inl (G.2 1, 384, .inr (.inl vk))), (v2, .inl (G.2 1, 40, .inr (.inl vw))), (b0, .inr (3, [.ref b1, .ref b2, .ref b3, .ref b4, .ref b5, .ref b6, .int bn])), (b1, .inl (G.2 0, 40, .inl kf)), (b2, .inl (G.2 0, 40, .inl ff)), (b3, .inl (G.2 0, 40, .inl sf)), (b4, .inl (G.2 0, 40, .inl df)), (b5, .inl (G.2 1, 40, .inr (.inl pf))), (b6, .inl (G.2 1, 6, .inr (.inl gf)))] H := va_P.sub hP [3, 4, 5, 6, 7, 8, 9, 0, 1, 2, 10, 11, 12, 13, 14, 15, 16] rfl
        have hD : va_D A [(x0, .inr (5, [.ref b0, .ref s0, .ref u0, .ref v0, .int tA, .int wP, .int nT, .int aK, .int lK, .int sW, .int rF])), (s0, .inr (4, [.ref b0, .ref s1, .ref s2, .long op, .int re])), (s1, .inl (G.2 1, 384, .inr (.inl dk))), (s2, .inl (G.2 1, 40, .inr (.inl wg))), (u0, .inr (4, [.ref b0, .ref u1, .ref u2, .long uo_1, .int ur_1])), (u1, .inl (G.2 1, 384, .inr (.inl uk_1))), (u2, .inl (G.2 1, 40, .inr (.inl uw_1))), (v0, .inr (4, [.ref b0, .ref v1, .ref v2, .long vo, .int vr])), (v1, .inl (G.2 1, 384, .inr (.inl vk))), (v2, .inl (G.2 1, 40, .inr (.inl vw))), (b0, .inr (3, [.ref b1, .ref b2, .ref b3, .ref b4, .ref b5, .ref b6, .int bn])), (b1, .inl (G.2 0, 40, .inl kf)), (b2, .inl (G.2 0, 40, .inl ff)), (b3, .inl (G.2 0, 40, .inl sf)), (b4, .inl (G.2 0, 40, .inl df)), (b5, .inl (G.2 1, 40, .inr (.inl pf))), (b6, .inl (G.2 1, 6, .inr (.inl gf)))] := hD.sub [3, 4, 5, 6, 7, 8, 9, 0, 1, 2, 10, 11, 12, 13, 14, 15, 16] (by decide) rfl
        refine lv_if_eq (tgt := 61) hx hb dX2_notes_56 (by decide) (fun hc => ?_) (fun hc => ?_)
        · have h := h.1 hc
          refine lv_iconst (v := 0) hx hb dX2_notes_61 (by decide) ?_
          refine lv_istore_n hx hb dX2_notes_62 rfl hl (Nat.le_of_ble_eq_true rfl) rfl (fun ls hl => ?_)
          have hl : lv_has ls 5 [(3, .int (0 : Int32)), (0, .ref x0), (1, .int p1), (2, .int p2)] := hl
          have hl := lv_sub (l' := [(0, .ref x0), (1, .int p1), (2, .int p2), (3, .int (0 : Int32))]) hl [1, 2, 3, 0] rfl
          obtain ⟨nF, h⟩ := h
          refine loop63 _ trivial ?_ nF (0 : Int32) uk_1 uw_1 uo_1 ur_1 vk vw vo vr _ _ _ hl hP hD hS h
          · intro i3 uk' uw' uo' ur' vk' vw' vo' vr' ls H locs hl hP hD hS h
            refine lv_iconst (v := (-1)) hx hb dX2_notes_163 (by decide) ?_
            refine vx_ret (W.widen (k := 1) (n := 6) (Nat.le_of_ble_eq_true rfl) (Nat.le_of_ble_eq_true rfl) ?_)
            subst hQC; exact W.iret (v := (-1 : Int32)) hx hb hr (fun t ht hW => ⟨⟨_, (uk', uw', uo', ur', vk', vw', vo', vr'), rfl, h, by rw [ht]; exact hP, hD⟩, hS.F ht⟩) hS.2.2 dX2_notes_164
        · have h := h.2 hc
          refine lv_iconst (v := 1) hx hb dX2_notes_59 (by decide) ?_
          refine vx_ret (W.widen (k := 1) (n := 6) (Nat.le_of_ble_eq_true rfl) (Nat.le_of_ble_eq_true rfl) ?_)
          subst hQC; exact W.iret (v := (1 : Int32)) hx hb hr (fun t ht hW => ⟨⟨_, (uk_1, uw_1, uo_1, ur_1, vk, vw, vo, vr), rfl, h, by rw [ht]; exact hP, hD⟩, hS.F ht⟩) hS.2.2 dX2_notes_60
      · have h := h.2 hc
        refine lv_iconst (v := 0) hx hb dX2_notes_40 (by decide) ?_
        refine vx_ret (W.widen (k := 1) (n := 6) (Nat.le_of_ble_eq_true rfl) (Nat.le_of_ble_eq_true rfl) ?_)
        subst hQC; exact W.iret (v := (0 : Int32)) hx hb hr (fun t ht hW => ⟨⟨_, (uk, uw, uo, ur, vk, vw, vo, vr), rfl, h, by rw [ht]; exact hP, hD⟩, hS.F ht⟩) hS.2.2 dX2_notes_41
    · have h := h.2 hc
      obtain ⟨sa, hsa⟩ := hR.1 ("NightdeskRota", 139, "no such guard or sentence") (List.mem_of_getElem? (i := 7) rfl)
      subst hXC
      exact vx_throwS (names := rtx) (text := "no such guard or sentence") (sa := sa) hx hb hfl hown (by decide +kernel) (by decide +kernel) (hts _ q349) (hts _ q22) hsa (hatX hat87a hat87b hts hN hZ) hgd87 hZ.2.1 hZ.2.2 hS (hl.1.trans hml.symm) dX2_notes_18 dX2_notes_21 dX2_notes_22 dX2_notes_24 dX2_notes_27 (fun x hx => (hT x hx).elim) (Nat.le_of_ble_eq_true rfl) (Nat.le_of_ble_eq_true rfl) (Nat.le_of_ble_eq_true rfl) (Nat.le_of_ble_eq_true rfl) hlocks (fun t ht h1 h2 => ⟨(), trivial, ⟨keepAll hP h2, hD, h⟩, h1, fun q hq _ => h2 q hq⟩) hS.2.2 (Nat.le_refl _) (Nat.le_refl _)
def wnX2_notes_L72 (post : Int32 → (Nat → Int64) × (Nat → Int64) × Int64 × Int32 × (Nat → Int64) × (Nat → Int64) × Int64 × Int32 → Prop) (K157 : Int32 → (Nat → Int64) → (Nat → Int64) → Int64 → Int32 → (Nat → Int64) → (Nat → Int64) → Int64 → Int32 → Prop) (dk : Nat → Int64) (wg : Nat → Int64) (op : Int64) (re : Int32) (kf : Nat → Int32) (ff : Nat → Int32) (sf : Nat → Int32) (pf : Nat → Int64) (gf : Nat → Int64) (bn : Int32) (p1 : Int32) (p2 : Int32) (i3 : Int32) : Nat → Int32 → (Nat → Int64) → (Nat → Int64) → Int64 → Int32 → (Nat → Int64) → (Nat → Int64) → Int64 → Int32 → Prop
  | 0, _, _, _, _, _, _, _, _, _ => False
  | n+1, i4, uk', uw', uo', ur', vk', vw', vo', vr' =>
    (((6 : Int32) ≤ i4) →
      K157 i4 uk' uw' uo' ur' vk' vw' vo' vr'
    ) ∧ (¬ ((6 : Int32) ≤ i4) →
      ((¬ i3 = i4) →
        wX1_copyFrom (fun (z_2 : (Nat → Int64) × (Nat → Int64) × Int64 × Int32) =>
          wX1_passOn (fun (r_6 : Int32) (dk_2 : Nat → Int64) =>
            ((¬ r_6 = 0) →
              wX0_hangingOn (fun r_7 : Int64 =>
                wX1_weigh (fun (wg_2 : Nat → Int64) =>
                  wX2_oneNoteDoes (fun (r_9 : Int32) (z_3 : (Nat → Int64) × (Nat → Int64) × Int64 × Int32) =>
                    ((r_9 = 0) →
                      wnX2_notes_L72 post K157 dk wg op re kf ff sf pf gf bn p1 p2 i3 n (i4 + 1) dk_2 wg_2 z_2.2.2.1 z_2.2.2.2 z_3.1 z_3.2.1 z_3.2.2.1 z_3.2.2.2
                    ) ∧ (¬ (r_9 = 0) →
                      post (2 : Int32) (dk_2, wg_2, z_2.2.2.1, z_2.2.2.2, z_3.1, z_3.2.1, z_3.2.2.1, z_3.2.2.2)
                    )
                    ) dk_2 wg_2 z_2.2.2.1 z_2.2.2.2 vk' vw' vo' vr' kf ff sf pf gf bn p1 p2
                  ) dk_2 z_2.2.1 z_2.2.2.1 kf ff sf bn r_7
                ) pf gf bn i4 p2
            ) ∧ ((r_6 = 0) →
              wnX2_notes_L72 post K157 dk wg op re kf ff sf pf gf bn p1 p2 i3 n (i4 + 1) dk_2 z_2.2.1 z_2.2.2.1 z_2.2.2.2 vk' vw' vo' vr'
            )
            ) z_2.1 z_2.2.2.1 i3 i4
          ) uk' uw' uo' ur' dk wg op re
      ) ∧ ((i3 = i4) →
        wnX2_notes_L72 post K157 dk wg op re kf ff sf pf gf bn p1 p2 i3 n (i4 + 1) uk' uw' uo' ur' vk' vw' vo' vr'
      )
    )
def wnX2_notes_L63 (post : Int32 → (Nat → Int64) × (Nat → Int64) × Int64 × Int32 × (Nat → Int64) × (Nat → Int64) × Int64 × Int32 → Prop) (K163 : Int32 → (Nat → Int64) → (Nat → Int64) → Int64 → Int32 → (Nat → Int64) → (Nat → Int64) → Int64 → Int32 → Prop) (dk : Nat → Int64) (wg : Nat → Int64) (op : Int64) (re : Int32) (kf : Nat → Int32) (ff : Nat → Int32) (sf : Nat → Int32) (pf : Nat → Int64) (gf : Nat → Int64) (bn : Int32) (p1 : Int32) (p2 : Int32) : Nat → Int32 → (Nat → Int64) → (Nat → Int64) → Int64 → Int32 → (Nat → Int64) → (Nat → Int64) → Int64 → Int32 → Prop
  | 0, _, _, _, _, _, _, _, _, _ => False
  | n+1, i3, uk', uw', uo', ur', vk', vw', vo', vr' =>
    (((6 : Int32) ≤ i3) →
      K163 i3 uk' uw' uo' ur' vk' vw' vo' vr'
    ) ∧ (¬ ((6 : Int32) ≤ i3) →
      ∃ nF, wnX2_notes_L72 post
        (fun i4 uk' uw' uo' ur' vk' vw' vo' vr' =>
          wnX2_notes_L63 post K163 dk wg op re kf ff sf pf gf bn p1 p2 n (i3 + 1) uk' uw' uo' ur' vk' vw' vo' vr'
        )
        dk wg op re kf ff sf pf gf bn p1 p2 i3 nF (0 : Int32) uk' uw' uo' ur' vk' vw' vo' vr'
    )
def wnX2_notes (post : Int32 → (Nat → Int64) × (Nat → Int64) × Int64 × Int32 × (Nat → Int64) × (Nat → Int64) × Int64 × Int32 → Prop) (dk : Nat → Int64) (wg : Nat → Int64) (op : Int64) (re : Int32) (uk : Nat → Int64) (uw : Nat → Int64) (uo : Int64) (ur : Int32) (vk : Nat → Int64) (vw : Nat → Int64) (vo : Int64) (vr : Int32) (kf : Nat → Int32) (ff : Nat → Int32) (sf : Nat → Int32) (pf : Nat → Int64) (gf : Nat → Int64) (bn : Int32) (p1 : Int32) (p2 : Int32) : Prop :=
  wX2_isGuard (fun r_1 : Int32 =>
    ((r_1 = 0) →
      False
    ) ∧ (¬ (r_1 = 0) →
      wX0_holds (fun r_2 : Int32 =>
        ((¬ r_2 = 0) →
          wX1_knows (fun r_3 : Int32 =>
            ((r_3 = 0) →
              wX2_oneNoteDoes (fun (r_4 : Int32) (z_1 : (Nat → Int64) × (Nat → Int64) × Int64 × Int32) =>
                ((r_4 = 0) →
                  ∃ nF, wnX2_notes_L63 post
                    (fun i3 uk' uw' uo' ur' vk' vw' vo' vr' =>
                      post (-1 : Int32) (uk', uw', uo', ur', vk', vw', vo', vr')
                    )
                    dk wg op re kf ff sf pf gf bn p1 p2 nF (0 : Int32) z_1.1 z_1.2.1 z_1.2.2.1 z_1.2.2.2 vk vw vo vr
                ) ∧ (¬ (r_4 = 0) →
                  post (1 : Int32) (z_1.1, z_1.2.1, z_1.2.2.1, z_1.2.2.2, vk, vw, vo, vr)
                )
                ) dk wg op re uk uw uo ur kf ff sf pf gf bn p1 p2
            ) ∧ (¬ (r_3 = 0) →
              post (0 : Int32) (uk, uw, uo, ur, vk, vw, vo, vr)
            )
            ) dk wg op re bn p1 p2
        ) ∧ ((r_2 = 0) →
          False
        )
        ) bn p2
    )
    ) p1
abbrev wl_nX2_notes : List Cond := .code yX2_notes cX2_notes 5 (some .int) :: lwg
abbrev rm_nX2_notes : Room := { frames := 6, cells := 0, slots := 0, locals := 156 }
set_option maxHeartbeats 4000000 in
set_option maxRecDepth 100000 in
theorem knX2_notes {post : Int32 → (Nat → Int64) × (Nat → Int64) × Int64 × Int32 × (Nat → Int64) × (Nat → Int64) × Int64 × Int32 → Prop} (l : Launch) (G : GT) (x0 : Nat) (s0 : Nat) (s1 : Nat) (s2 : Nat) (u0 : Nat) (u1 : Nat) (u2 : Nat) (v0 : Nat) (v1 : Nat) (v2 : Nat) (b0 : Nat) (b1 : Nat) (b2 : Nat) (b3 : Nat) (b4 : Nat) (b5 : Nat) (b6 : Nat) (tA : Int32) (wP : Int32) (nT : Int32) (aK : Int32) (lK : Int32) (sW : Int32) (rF : Int32) (dk : Nat → Int64) (wg : Nat → Int64) (op : Int64) (re : Int32) (uk : Nat → Int64) (uw : Nat → Int64) (uo : Int64) (ur : Int32) (vk : Nat → Int64) (vw : Nat → Int64) (vo : Int64) (vr : Int32) (kf : Nat → Int32) (ff : Nat → Int32) (sf : Nat → Int32) (df : Nat → Int32) (pf : Nat → Int64) (gf : Nat → Int64) (bn : Int32) (p1 : Int32) (p2 : Int32) (sz : Nat) (h : wnX2_notes post dk wg op re uk uw uo ur vk vw vo vr kf ff sf pf gf bn p1 p2) : Met l yX2_notes wl_nX2_notes rm_nX2_notes (va_Pc [.ref x0, .int p1, .int p2] (fun U => U.heap.size = sz ∧ PP G [(x0, .inr (5, [.ref b0, .ref s0, .ref u0, .ref v0, .int tA, .int wP, .int nT, .int aK, .int lK, .int sW, .int rF])), (s0, .inr (4, [.ref b0, .ref s1, .ref s2, .long op, .int re])), (s1, .inl (G.2 1, 384, .inr (.inl dk))), (s2, .inl (G.2 1, 40, .inr (.inl wg))), (u0, .inr (4, [.ref b0, .ref u1, .ref u2, .long uo, .int ur])), (u1, .inl (G.2 1, 384, .inr (.inl uk))), (u2, .inl (G.2 1, 40, .inr (.inl uw))), (v0, .inr (4, [.ref b0, .ref v1, .ref v2, .long vo, .int vr])), (v1, .inl (G.2 1, 384, .inr (.inl vk))), (v2, .inl (G.2 1, 40, .inr (.inl vw))), (b0, .inr (3, [.ref b1, .ref b2, .ref b3, .ref b4, .ref b5, .ref b6, .int bn])), (b1, .inl (G.2 0, 40, .inl kf)), (b2, .inl (G.2 0, 40, .inl ff)), (b3, .inl (G.2 0, 40, .inl sf)), (b4, .inl (G.2 0, 40, .inl df)), (b5, .inl (G.2 1, 40, .inr (.inl pf))), (b6, .inl (G.2 1, 6, .inr (.inl gf)))] U.heap ∧ KK G U ∧ va_D (fun _ => True) [(x0, .inr (5, [.ref b0, .ref s0, .ref u0, .ref v0, .int tA, .int wP, .int nT, .int aK, .int lK, .int sW, .int rF])), (s0, .inr (4, [.ref b0, .ref s1, .ref s2, .long op, .int re])), (s1, .inl (G.2 1, 384, .inr (.inl dk))), (s2, .inl (G.2 1, 40, .inr (.inl wg))), (u0, .inr (4, [.ref b0, .ref u1, .ref u2, .long uo, .int ur])), (u1, .inl (G.2 1, 384, .inr (.inl uk))), (u2, .inl (G.2 1, 40, .inr (.inl uw))), (v0, .inr (4, [.ref b0, .ref v1, .ref v2, .long vo, .int vr])), (v1, .inl (G.2 1, 384, .inr (.inl vk))), (v2, .inl (G.2 1, 40, .inr (.inl vw))), (b0, .inr (3, [.ref b1, .ref b2, .ref b3, .ref b4, .ref b5, .ref b6, .int bn])), (b1, .inl (G.2 0, 40, .inl kf)), (b2, .inl (G.2 0, 40, .inl ff)), (b3, .inl (G.2 0, 40, .inl sf)), (b4, .inl (G.2 0, 40, .inl df)), (b5, .inl (G.2 1, 40, .inr (.inl pf))), (b6, .inl (G.2 1, 6, .inr (.inl gf)))] ∧ ZZ (va_A [(x0, .inr (5, [.ref b0, .ref s0, .ref u0, .ref v0, .int tA, .int wP, .int nT, .int aK, .int lK, .int sW, .int rF])), (s0, .inr (4, [.ref b0, .ref s1, .ref s2, .long op, .int re])), (s1, .inl (G.2 1, 384, .inr (.inl dk))), (s2, .inl (G.2 1, 40, .inr (.inl wg))), (u0, .inr (4, [.ref b0, .ref u1, .ref u2, .long uo, .int ur])), (u1, .inl (G.2 1, 384, .inr (.inl uk))), (u2, .inl (G.2 1, 40, .inr (.inl uw))), (v0, .inr (4, [.ref b0, .ref v1, .ref v2, .long vo, .int vr])), (v1, .inl (G.2 1, 384, .inr (.inl vk))), (v2, .inl (G.2 1, 40, .inr (.inl vw))), (b0, .inr (3, [.ref b1, .ref b2, .ref b3, .ref b4, .ref b5, .ref b6, .int bn])), (b1, .inl (G.2 0, 40, .inl kf)), (b2, .inl (G.2 0, 40, .inl ff)), (b3, .inl (G.2 0, 40, .inl sf)), (b4, .inl (G.2 0, 40, .inl df)), (b5, .inl (G.2 1, 40, .inr (.inl pf))), (b6, .inl (G.2 1, 6, .inr (.inl gf)))] sz) U U.heap)) (va_Qi post (fun u t => PP G [(x0, .inr (5, [.ref b0, .ref s0, .ref u0, .ref v0, .int tA, .int wP, .int nT, .int aK, .int lK, .int sW, .int rF])), (s0, .inr (4, [.ref b0, .ref s1, .ref s2, .long op, .int re])), (s1, .inl (G.2 1, 384, .inr (.inl dk))), (s2, .inl (G.2 1, 40, .inr (.inl wg))), (u0, .inr (4, [.ref b0, .ref u1, .ref u2, .long (u.2.2.1), .int (u.2.2.2.1)])), (u1, .inl (G.2 1, 384, .inr (.inl (u.1)))), (u2, .inl (G.2 1, 40, .inr (.inl (u.2.1)))), (v0, .inr (4, [.ref b0, .ref v1, .ref v2, .long (u.2.2.2.2.2.2.1), .int (u.2.2.2.2.2.2.2)])), (v1, .inl (G.2 1, 384, .inr (.inl (u.2.2.2.2.1)))), (v2, .inl (G.2 1, 40, .inr (.inl (u.2.2.2.2.2.1)))), (b0, .inr (3, [.ref b1, .ref b2, .ref b3, .ref b4, .ref b5, .ref b6, .int bn])), (b1, .inl (G.2 0, 40, .inl kf)), (b2, .inl (G.2 0, 40, .inl ff)), (b3, .inl (G.2 0, 40, .inl sf)), (b4, .inl (G.2 0, 40, .inl df)), (b5, .inl (G.2 1, 40, .inr (.inl pf))), (b6, .inl (G.2 1, 6, .inr (.inl gf)))] t.heap ∧ va_D (va_A [(x0, .inr (5, [.ref b0, .ref s0, .ref u0, .ref v0, .int tA, .int wP, .int nT, .int aK, .int lK, .int sW, .int rF])), (s0, .inr (4, [.ref b0, .ref s1, .ref s2, .long op, .int re])), (s1, .inl (G.2 1, 384, .inr (.inl dk))), (s2, .inl (G.2 1, 40, .inr (.inl wg))), (u0, .inr (4, [.ref b0, .ref u1, .ref u2, .long uo, .int ur])), (u1, .inl (G.2 1, 384, .inr (.inl uk))), (u2, .inl (G.2 1, 40, .inr (.inl uw))), (v0, .inr (4, [.ref b0, .ref v1, .ref v2, .long vo, .int vr])), (v1, .inl (G.2 1, 384, .inr (.inl vk))), (v2, .inl (G.2 1, 40, .inr (.inl vw))), (b0, .inr (3, [.ref b1, .ref b2, .ref b3, .ref b4, .ref b5, .ref b6, .int bn])), (b1, .inl (G.2 0, 40, .inl kf)), (b2, .inl (G.2 0, 40, .inl ff)), (b3, .inl (G.2 0, 40, .inl sf)), (b4, .inl (G.2 0, 40, .inl df)), (b5, .inl (G.2 1, 40, .inr (.inl pf))), (b6, .inl (G.2 1, 6, .inr (.inl gf)))] sz) [(x0, .inr (5, [.ref b0, .ref s0, .ref u0, .ref v0, .int tA, .int wP, .int nT, .int aK, .int lK, .int sW, .int rF])), (s0, .inr (4, [.ref b0, .ref s1, .ref s2, .long op, .int re])), (s1, .inl (G.2 1, 384, .inr (.inl dk))), (s2, .inl (G.2 1, 40, .inr (.inl wg))), (u0, .inr (4, [.ref b0, .ref u1, .ref u2, .long (u.2.2.1), .int (u.2.2.2.1)])), (u1, .inl (G.2 1, 384, .inr (.inl (u.1)))), (u2, .inl (G.2 1, 40, .inr (.inl (u.2.1)))), (v0, .inr (4, [.ref b0, .ref v1, .ref v2, .long (u.2.2.2.2.2.2.1), .int (u.2.2.2.2.2.2.2)])), (v1, .inl (G.2 1, 384, .inr (.inl (u.2.2.2.2.1)))), (v2, .inl (G.2 1, 40, .inr (.inl (u.2.2.2.2.2.1)))), (b0, .inr (3, [.ref b1, .ref b2, .ref b3, .ref b4, .ref b5, .ref b6, .int bn])), (b1, .inl (G.2 0, 40, .inl kf)), (b2, .inl (G.2 0, 40, .inl ff)), (b3, .inl (G.2 0, 40, .inl sf)), (b4, .inl (G.2 0, 40, .inl df)), (b5, .inl (G.2 1, 40, .inr (.inl pf))), (b6, .inl (G.2 1, 6, .inr (.inl gf)))]) (va_A [(x0, .inr (5, [.ref b0, .ref s0, .ref u0, .ref v0, .int tA, .int wP, .int nT, .int aK, .int lK, .int sW, .int rF])), (s0, .inr (4, [.ref b0, .ref s1, .ref s2, .long op, .int re])), (s1, .inl (G.2 1, 384, .inr (.inl dk))), (s2, .inl (G.2 1, 40, .inr (.inl wg))), (u0, .inr (4, [.ref b0, .ref u1, .ref u2, .long uo, .int ur])), (u1, .inl (G.2 1, 384, .inr (.inl uk))), (u2, .inl (G.2 1, 40, .inr (.inl uw))), (v0, .inr (4, [.ref b0, .ref v1, .ref v2, .long vo, .int vr])), (v1, .inl (G.2 1, 384, .inr (.inl vk))), (v2, .inl (G.2 1, 40, .inr (.inl vw))), (b0, .inr (3, [.ref b1, .ref b2, .ref b3, .ref b4, .ref b5, .ref b6, .int bn])), (b1, .inl (G.2 0, 40, .inl kf)), (b2, .inl (G.2 0, 40, .inl ff)), (b3, .inl (G.2 0, 40, .inl sf)), (b4, .inl (G.2 0, 40, .inl df)), (b5, .inl (G.2 1, 40, .inr (.inl pf))), (b6, .inl (G.2 1, 6, .inr (.inl gf)))] sz)) 0 0 (va_A [(x0, .inr (5, [.ref b0, .ref s0, .ref u0, .ref v0, .int tA, .int wP, .int nT, .int aK, .int lK, .int sW, .int rF])), (s0, .inr (4, [.ref b0, .ref s1, .ref s2, .long op, .int re])), (s1, .inl (G.2 1, 384, .inr (.inl dk))), (s2, .inl (G.2 1, 40, .inr (.inl wg))), (u0, .inr (4, [.ref b0, .ref u1, .ref u2, .long uo, .int ur])), (u1, .inl (G.2 1, 384, .inr (.inl uk))), (u2, .inl (G.2 1, 40, .inr (.inl uw))), (v0, .inr (4, [.ref b0, .ref v1, .ref v2, .long vo, .int vr])), (v1, .inl (G.2 1, 384, .inr (.inl vk))), (v2, .inl (G.2 1, 40, .inr (.inl vw))), (b0, .inr (3, [.ref b1, .ref b2, .ref b3, .ref b4, .ref b5, .ref b6, .int bn])), (b1, .inl (G.2 0, 40, .inl kf)), (b2, .inl (G.2 0, 40, .inl ff)), (b3, .inl (G.2 0, 40, .inl sf)), (b4, .inl (G.2 0, 40, .inl df)), (b5, .inl (G.2 1, 40, .inr (.inl pf))), (b6, .inl (G.2 1, 6, .inr (.inl gf)))] sz) := by
  refine Met.ofW (cc := cX2_notes) (maxL := 5) (ret := (some .int)) (by decide) rfl ?_
  intro p e s m args below meth c s₁ B hml hv
  obtain ⟨rfl, hsz, hP, hKK, hD0, hZ⟩ := hv
  obtain ⟨hK, hN, hR, hFW, hNC⟩ := id hKK
  have hx := B.exec
  have hb := B.bytes
  have hr := B.returns
  have hts0 := atoms_spec (ws := wl_nX2_notes) B.pre
  have hts : ∀ w ∈ lwg, w.before ([.ref x0, .int p1, .int p2] : List Value).toArray s = true := fun w hw => hts0 w (List.mem_cons_of_mem _ hw)
  have hown : s.vm.findClass RX2 = some m.cls := findClass_of_methodNamed B.named
  have hlocks := B.notSynchronized
  subst hsz
  have hD := hD0.self (sz := s.heap.size)
  generalize hAe : va_A [(x0, .inr (5, [.ref b0, .ref s0, .ref u0, .ref v0, .int tA, .int wP, .int nT, .int aK, .int lK, .int sW, .int rF])), (s0, .inr (4, [.ref b0, .ref s1, .ref s2, .long op, .int re])), (s1, .inl (G.2 1, 384, .inr (.inl dk))), (s2, .inl (G.2 1, 40, .inr (.inl wg))), (u0, .inr (4, [.ref b0, .ref u1, .ref u2, .long uo, .int ur])), (u1, .inl (G.2 1, 384, .inr (.inl uk))), (u2, .inl (G.2 1, 40, .inr (.inl uw))), (v0, .inr (4, [.ref b0, .ref v1, .ref v2, .long vo, .int vr])), (v1, .inl (G.2 1, 384, .inr (.inl vk))), (v2, .inl (G.2 1, 40, .inr (.inl vw))), (b0, .inr (3, [.ref b1, .ref b2, .ref b3, .ref b4, .ref b5, .ref b6, .int bn])), (b1, .inl (G.2 0, 40, .inl kf)), (b2, .inl (G.2 0, 40, .inl ff)), (b3, .inl (G.2 0, 40, .inl sf)), (b4, .inl (G.2 0, 40, .inl df)), (b5, .inl (G.2 1, 40, .inr (.inl pf))), (b6, .inl (G.2 1, 6, .inr (.inl gf)))] s.heap.size = A at hD hZ ⊢
  have hA : ∀ q : Nat, s.heap.size ≤ q → A q := fun q h => by rw [← hAe]; exact Or.inr h
  have hS : va_S A s.heap s.heap [] := va_S.rf
  obtain ⟨QC, hQC⟩ : ∃ Z, Z = (va_Qi post (fun u t => PP G [(x0, .inr (5, [.ref b0, .ref s0, .ref u0, .ref v0, .int tA, .int wP, .int nT, .int aK, .int lK, .int sW, .int rF])), (s0, .inr (4, [.ref b0, .ref s1, .ref s2, .long op, .int re])), (s1, .inl (G.2 1, 384, .inr (.inl dk))), (s2, .inl (G.2 1, 40, .inr (.inl wg))), (u0, .inr (4, [.ref b0, .ref u1, .ref u2, .long (u.2.2.1), .int (u.2.2.2.1)])), (u1, .inl (G.2 1, 384, .inr (.inl (u.1)))), (u2, .inl (G.2 1, 40, .inr (.inl (u.2.1)))), (v0, .inr (4, [.ref b0, .ref v1, .ref v2, .long (u.2.2.2.2.2.2.1), .int (u.2.2.2.2.2.2.2)])), (v1, .inl (G.2 1, 384, .inr (.inl (u.2.2.2.2.1)))), (v2, .inl (G.2 1, 40, .inr (.inl (u.2.2.2.2.2.1)))), (b0, .inr (3, [.ref b1, .ref b2, .ref b3, .ref b4, .ref b5, .ref b6, .int bn])), (b1, .inl (G.2 0, 40, .inl kf)), (b2, .inl (G.2 0, 40, .inl ff)), (b3, .inl (G.2 0, 40, .inl sf)), (b4, .inl (G.2 0, 40, .inl df)), (b5, .inl (G.2 1, 40, .inr (.inl pf))), (b6, .inl (G.2 1, 6, .inr (.inl gf)))] t.heap ∧ va_D A [(x0, .inr (5, [.ref b0, .ref s0, .ref u0, .ref v0, .int tA, .int wP, .int nT, .int aK, .int lK, .int sW, .int rF])), (s0, .inr (4, [.ref b0, .ref s1, .ref s2, .long op, .int re])), (s1, .inl (G.2 1, 384, .inr (.inl dk))), (s2, .inl (G.2 1, 40, .inr (.inl wg))), (u0, .inr (4, [.ref b0, .ref u1, .ref u2, .long (u.2.2.1), .int (u.2.2.2.1)])), (u1, .inl (G.2 1, 384, .inr (.inl (u.1)))), (u2, .inl (G.2 1, 40, .inr (.inl (u.2.1)))), (v0, .inr (4, [.ref b0, .ref v1, .ref v2, .long (u.2.2.2.2.2.2.1), .int (u.2.2.2.2.2.2.2)])), (v1, .inl (G.2 1, 384, .inr (.inl (u.2.2.2.2.1)))), (v2, .inl (G.2 1, 40, .inr (.inl (u.2.2.2.2.2.1)))), (b0, .inr (3, [.ref b1, .ref b2, .ref b3, .ref b4, .ref b5, .ref b6, .int bn])), (b1, .inl (G.2 0, 40, .inl kf)), (b2, .inl (G.2 0, 40, .inl ff)), (b3, .inl (G.2 0, 40, .inl sf)), (b4, .inl (G.2 0, 40, .inl df)), (b5, .inl (G.2 1, 40, .inr (.inl pf))), (b6, .inl (G.2 1, 6, .inr (.inl gf)))]) A) := ⟨_, rfl⟩
  rw [← hQC]
  obtain ⟨⟨zt, hZ1, hT1⟩, hZ2⟩ := id hZ
  have hP : PP G [(x0, .inr (5, [.ref b0, .ref s0, .ref u0, .ref v0, .int tA, .int wP, .int nT, .int aK, .int lK, .int sW, .int rF])), (s0, .inr (4, [.ref b0, .ref s1, .ref s2, .long op, .int re])), (s1, .inl (G.2 1, 384, .inr (.inl dk))), (s2, .inl (G.2 1, 40, .inr (.inl wg))), (u0, .inr (4, [.ref b0, .ref u1, .ref u2, .long uo, .int ur])), (u1, .inl (G.2 1, 384, .inr (.inl uk))), (u2, .inl (G.2 1, 40, .inr (.inl uw))), (v0, .inr (4, [.ref b0, .ref v1, .ref v2, .long vo, .int vr])), (v1, .inl (G.2 1, 384, .inr (.inl vk))), (v2, .inl (G.2 1, 40, .inr (.inl vw))), (b0, .inr (3, [.ref b1, .ref b2, .ref b3, .ref b4, .ref b5, .ref b6, .int bn])), (b1, .inl (G.2 0, 40, .inl kf)), (b2, .inl (G.2 0, 40, .inl ff)), (b3, .inl (G.2 0, 40, .inl sf)), (b4, .inl (G.2 0, 40, .inl df)), (b5, .inl (G.2 1, 40, .inr (.inl pf))), (b6, .inl (G.2 1, 6, .inr (.inl gf)))] s.heap := hP
  have hl := lv_entry ([.ref x0, .int p1, .int p2]) (n := 5) (Nat.le_of_ble_eq_true rfl)
  rw [lg_entry_eq]
  generalize (lg_sl ([.ref x0, .int p1, .int p2]) ++ List.replicate (5 - (lg_sl ([.ref x0, .int p1, .int p2])).length) Slot.unset).toArray = ls at hl ⊢
  have hl : lv_has ls 5 [(0, .ref x0), (1, .int p1), (2, .int p2)] := hl
  have loop72 : ∀ (K157 : Int32 → (Nat → Int64) → (Nat → Int64) → Int64 → Int32 → (Nat → Int64) → (Nat → Int64) → Int64 → Int32 → Prop) (i3 : Int32), True → (∀ (i4 : Int32) (uk' : Nat → Int64) (uw' : Nat → Int64) (uo' : Int64) (ur' : Int32) (vk' : Nat → Int64) (vw' : Nat → Int64) (vo' : Int64) (vr' : Int32) (ls : Array Slot) (H : Heap) (locs : List Loc), lv_has ls 5 [(0, .ref x0), (1, .int p1), (2, .int p2), (3, .int i3), (4, .int i4)] → PP G [(x0, .inr (5, [.ref b0, .ref s0, .ref u0, .ref v0, .int tA, .int wP, .int nT, .int aK, .int lK, .int sW, .int rF])), (s0, .inr (4, [.ref b0, .ref s1, .ref s2, .long op, .int re])), (s1, .inl (G.2 1, 384, .inr (.inl dk))), (s2, .inl (G.2 1, 40, .inr (.inl wg))), (u0, .inr (4, [.ref b0, .ref u1, .ref u2, .long uo', .int ur'])), (u1, .inl (G.2 1, 384, .inr (.inl uk'))), (u2, .inl (G.2 1, 40, .inr (.inl uw'))), (v0, .inr (4, [.ref b0, .ref v1, .ref v2, .long vo', .int vr'])), (v1, .inl (G.2 1, 384, .inr (.inl vk'))), (v2, .inl (G.2 1, 40, .inr (.inl vw'))), (b0, .inr (3, [.ref b1, .ref b2, .ref b3, .ref b4, .ref b5, .ref b6, .int bn])), (b1, .inl (G.2 0, 40, .inl kf)), (b2, .inl (G.2 0, 40, .inl ff)), (b3, .inl (G.2 0, 40, .inl sf)), (b4, .inl (G.2 0, 40, .inl df)), (b5, .inl (G.2 1, 40, .inr (.inl pf))), (b6, .inl (G.2 1, 6, .inr (.inl gf)))] H → va_D A [(x0, .inr (5, [.ref b0, .ref s0, .ref u0, .ref v0, .int tA, .int wP, .int nT, .int aK, .int lK, .int sW, .int rF])), (s0, .inr (4, [.ref b0, .ref s1, .ref s2, .long op, .int re])), (s1, .inl (G.2 1, 384, .inr (.inl dk))), (s2, .inl (G.2 1, 40, .inr (.inl wg))), (u0, .inr (4, [.ref b0, .ref u1, .ref u2, .long uo', .int ur'])), (u1, .inl (G.2 1, 384, .inr (.inl uk'))), (u2, .inl (G.2 1, 40, .inr (.inl uw'))), (v0, .inr (4, [.ref b0, .ref v1, .ref v2, .long vo', .int vr'])), (v1, .inl (G.2 1, 384, .inr (.inl vk'))), (v2, .inl (G.2 1, 40, .inr (.inl vw'))), (b0, .inr (3, [.ref b1, .ref b2, .ref b3, .ref b4, .ref b5, .ref b6, .int bn])), (b1, .inl (G.2 0, 40, .inl kf)), (b2, .inl (G.2 0, 40, .inl ff)), (b3, .inl (G.2 0, 40, .inl sf)), (b4, .inl (G.2 0, 40, .inl df)), (b5, .inl (G.2 1, 40, .inr (.inl pf))), (b6, .inl (G.2 1, 6, .inr (.inl gf)))] → va_S A s.heap H locs → K157 i4 uk' uw' uo' ur' vk' vw' vo' vr' → W p l e (headSpec (wl_nX2_notes) rm_nX2_notes).room s m ([.ref x0, .int p1, .int p2] : List Value).toArray below meth c H locs 0 0 (MQ below QC ([.ref x0, .int p1, .int p2] : List Value).toArray s 0 0 A) (F0 m 157 ls [])) → ∀ (n : Nat) (i4 : Int32) (uk' : Nat → Int64) (uw' : Nat → Int64) (uo' : Int64) (ur' : Int32) (vk' : Nat → Int64) (vw' : Nat → Int64) (vo' : Int64) (vr' : Int32) (ls : Array Slot) (H : Heap) (locs : List Loc), lv_has ls 5 [(0, .ref x0), (1, .int p1), (2, .int p2), (3, .int i3), (4, .int i4)] → PP G [(x0, .inr (5, [.ref b0, .ref s0, .ref u0, .ref v0, .int tA, .int wP, .int nT, .int aK, .int lK, .int sW, .int rF])), (s0, .inr (4, [.ref b0, .ref s1, .ref s2, .long op, .int re])), (s1, .inl (G.2 1, 384, .inr (.inl dk))), (s2, .inl (G.2 1, 40, .inr (.inl wg))), (u0, .inr (4, [.ref b0, .ref u1, .ref u2, .long uo', .int ur'])), (u1, .inl (G.2 1, 384, .inr (.inl uk'))), (u2, .inl (G.2 1, 40, .inr (.inl uw'))), (v0, .inr (4, [.ref b0, .ref v1, .ref v2, .long vo', .int vr'])), (v1, .inl (G.2 1, 384, .inr (.inl vk'))), (v2, .inl (G.2 1, 40, .inr (.inl vw'))), (b0, .inr (3, [.ref b1, .ref b2, .ref b3, .ref b4, .ref b5, .ref b6, .int bn])), (b1, .inl (G.2 0, 40, .inl kf)), (b2, .inl (G.2 0, 40, .inl ff)), (b3, .inl (G.2 0, 40, .inl sf)), (b4, .inl (G.2 0, 40, .inl df)), (b5, .inl (G.2 1, 40, .inr (.inl pf))), (b6, .inl (G.2 1, 6, .inr (.inl gf)))] H → va_D A [(x0, .inr (5, [.ref b0, .ref s0, .ref u0, .ref v0, .int tA, .int wP, .int nT, .int aK, .int lK, .int sW, .int rF])), (s0, .inr (4, [.ref b0, .ref s1, .ref s2, .long op, .int re])), (s1, .inl (G.2 1, 384, .inr (.inl dk))), (s2, .inl (G.2 1, 40, .inr (.inl wg))), (u0, .inr (4, [.ref b0, .ref u1, .ref u2, .long uo', .int ur'])), (u1, .inl (G.2 1, 384, .inr (.inl uk'))), (u2, .inl (G.2 1, 40, .inr (.inl uw'))), (v0, .inr (4, [.ref b0, .ref v1, .ref v2, .long vo', .int vr'])), (v1, .inl (G.2 1, 384, .inr (.inl vk'))), (v2, .inl (G.2 1, 40, .inr (.inl vw'))), (b0, .inr (3, [.ref b1, .ref b2, .ref b3, .ref b4, .ref b5, .ref b6, .int bn])), (b1, .inl (G.2 0, 40, .inl kf)), (b2, .inl (G.2 0, 40, .inl ff)), (b3, .inl (G.2 0, 40, .inl sf)), (b4, .inl (G.2 0, 40, .inl df)), (b5, .inl (G.2 1, 40, .inr (.inl pf))), (b6, .inl (G.2 1, 6, .inr (.inl gf)))] → va_S A s.heap H locs → wnX2_notes_L72 post K157 dk wg op re kf ff sf pf gf bn p1 p2 i3 n i4 uk' uw' uo' ur' vk' vw' vo' vr' → W p l e (headSpec (wl_nX2_notes) rm_nX2_notes).room s m ([.ref x0, .int p1, .int p2] : List Value).toArray below meth c H locs 0 0 (MQ below QC ([.ref x0, .int p1, .int p2] : List Value).toArray s 0 0 A) (F0 m 72 ls []) := by
    intro K157 i3 _ hexit157 n
    induction n with
    | zero => intro i4 uk' uw' uo' ur' vk' vw' vo' vr' ls H locs hl hP hD hS h; exact False.elim h
    | succ n ih =>
      intro i4 uk' uw' uo' ur' vk' vw' vo' vr' ls H locs hl hP hD hS h
      refine lv_iload hx hb dX2_notes_72 (lv_at hl 4 rfl) ?_
      refine lv_bipush (v := 6) hx hb dX2_notes_74 (by decide) ?_
      refine lv_icmp_ge (tgt := 157) hx hb dX2_notes_76 (by decide) (fun hc => ?_) (fun hc => ?_)
      · have h := h.1 hc
        have hl := lv_sub (l' := [(0, .ref x0), (1, .int p1), (2, .int p2), (3, .int i3), (4, .int i4)]) hl [0, 1, 2, 3, 4] rfl
        exact hexit157 _ _ _ _ _ _ _ _ _ ls H locs hl hP hD hS h
      · have h := h.2 hc
        refine lv_iload_n hx hb dX2_notes_79 rfl (lv_at hl 3 rfl) ?_
        refine lv_iload hx hb dX2_notes_80 (lv_at hl 4 rfl) ?_
        refine lv_icmp_ne (tgt := 88) hx hb dX2_notes_82 (by decide) (fun hc => ?_) (fun hc => ?_)
        · have h := h.1 hc
          refine lv_aload_n hx hb dX2_notes_88 rfl (lv_at hl 0 rfl) ?_
          refine va_get (D := G.1) (ci := 5) (v := .ref u0) (C := RX2) (T := TX2) (N := 11) hx hb hts igX2 hown hK hP 0 rfl rfl 2 (by decide) (hts _ q178) (fun _ h9 => h9) rfl dX2_notes_89 ?_
          refine lv_aload_n hx hb dX2_notes_92 rfl (lv_at hl 0 rfl) ?_
          refine va_get (D := G.1) (ci := 5) (v := .ref s0) (C := RX2) (T := TX2) (N := 11) hx hb hts igX2 hown hK hP 0 rfl rfl 1 (by decide) (hts _ q177) (fun _ h9 => h9) rfl dX2_notes_93 ?_
          have hPc := va_P.sub (ws' := [(u0, .inr (4, [.ref b0, .ref u1, .ref u2, .long uo', .int ur'])), (u1, .inl (G.2 1, 384, .inr (.inl uk'))), (u2, .inl (G.2 1, 40, .inr (.inl uw'))), (s0, .inr (4, [.ref b0, .ref s1, .ref s2, .long op, .int re])), (s1, .inl (G.2 1, 384, .inr (.inl dk))), (s2, .inl (G.2 1, 40, .inr (.inl wg)))]) hP [4, 5, 6, 1, 2, 3] rfl
          have hDc := hD.sub (ws' := [(u0, .inr (4, [.ref b0, .ref u1, .ref u2, .long uo', .int ur'])), (u1, .inl (G.2 1, 384, .inr (.inl uk'))), (u2, .inl (G.2 1, 40, .inr (.inl uw'))), (s0, .inr (4, [.ref b0, .ref s1, .ref s2, .long op, .int re])), (s1, .inl (G.2 1, 384, .inr (.inl dk))), (s2, .inl (G.2 1, 40, .inr (.inl wg)))]) [4, 5, 6, 1, 2, 3] (by decide) rfl
          have hFc := va_free (wc := [(u0, .inr (4, [.ref b0, .ref u1, .ref u2, .long uo', .int ur'])), (u1, .inl (G.2 1, 384, .inr (.inl uk'))), (u2, .inl (G.2 1, 40, .inr (.inl uw'))), (s0, .inr (4, [.ref b0, .ref s1, .ref s2, .long op, .int re])), (s1, .inl (G.2 1, 384, .inr (.inl dk))), (s2, .inl (G.2 1, 40, .inr (.inl wg)))]) hD hS hA [4, 5, 6, 1, 2, 3] rfl
          refine va_callv (va_runV (C := RX1) (As := [.ref s0]) (rest := []) ⟨hx, hb, hml, hown, hts⟩ (kX1_copyFrom l G u0 u1 u2 b0 b0 s0 s1 s2 uk' uw' uo' ur' dk wg op re _ h) (cwV 1 hts (gdV q463 q464 q465 q3 q466) rfl rfl rfl (by decide +kernel) ⟨Nat.le_of_ble_eq_true rfl, Nat.le_of_ble_eq_true rfl⟩) (preVw hPc hKK hDc (va_recv hK hPc (ci := 4) (q0 := 0) rfl rfl)) rfl rfl hl.1 rfl (lv_room (Nat.le_of_ble_eq_true rfl)) dX2_notes_96 ⟨Nat.zero_le _, Nat.zero_le _⟩) hS (fun q _ h => hFc q h) hFc (fun u t H1 locs ht hvm h hB hz1 hk1 hS => ?_)
          obtain ⟨dk_1, wg_1, op_1, re_1⟩ := u
          obtain ⟨hP1, hD1⟩ := hB
          rw [ht] at hP1
          obtain ⟨hP, hD⟩ := va_join (wr := [(x0, .inr (5, [.ref b0, .ref s0, .ref u0, .ref v0, .int tA, .int wP, .int nT, .int aK, .int lK, .int sW, .int rF])), (v0, .inr (4, [.ref b0, .ref v1, .ref v2, .long vo', .int vr'])), (v1, .inl (G.2 1, 384, .inr (.inl vk'))), (v2, .inl (G.2 1, 40, .inr (.inl vw'))), (b0, .inr (3, [.ref b1, .ref b2, .ref b3, .ref b4, .ref b5, .ref b6, .int bn])), (b1, .inl (G.2 0, 40, .inl kf)), (b2, .inl (G.2 0, 40, .inl ff)), (b3, .inl (G.2 0, 40, .inl sf)), (b4, .inl (G.2 0, 40, .inl df)), (b5, .inl (G.2 1, 40, .inr (.inl pf))), (b6, .inl (G.2 1, 6, .inr (.inl gf)))]) (w1 := [(u0, .inr (4, [.ref b0, .ref u1, .ref u2, .long op_1, .int re_1])), (u1, .inl (G.2 1, 384, .inr (.inl dk_1))), (u2, .inl (G.2 1, 40, .inr (.inl wg_1))), (s0, .inr (4, [.ref b0, .ref s1, .ref s2, .long op, .int re])), (s1, .inl (G.2 1, 384, .inr (.inl dk))), (s2, .inl (G.2 1, 40, .inr (.inl wg)))]) hP hD [4, 5, 6, 1, 2, 3] [0, 7, 8, 9, 10, 11, 12, 13, 14, 15, 16] rfl rfl (by decide) (by decide) hk1 hFc hP1 hD1
          generalize H1 = H at hP hS ⊢
          have hP : PP G [(x0, .inr (5, [.ref b0, .ref s0, .ref u0, .ref v0, .int tA, .int wP, .int nT, .int aK, .int lK, .int sW, .int rF])), (s0, .inr (4, [.ref b0, .ref s1, .ref s2, .long op, .int re])), (s1, .inl (G.2 1, 384, .inr (.inl dk))), (s2, .inl (G.2 1, 40, .inr (.inl wg))), (u0, .inr (4, [.ref b0, .ref u1, .ref u2, .long op_1, .int re_1])), (u1, .inl (G.2 1, 384, .inr (.inl dk_1))), (u2, .inl (G.2 1, 40, .inr (.inl wg_1))), (v0, .inr (4, [.ref b0, .ref v1, .ref v2, .long vo', .int vr'])), (v1, .inl (G.2 1, 384, .inr (.inl vk'))), (v2, .inl (G.2 1, 40, .inr (.inl vw'))), (b0, .inr (3, [.ref b1, .ref b2, .ref b3, .ref b4, .ref b5, .ref b6, .int bn])), (b1, .inl (G.2 0, 40, .inl kf)), (b2, .inl (G.2 0, 40, .inl ff)), (b3, .inl (G.2 0, 40, .inl sf)), (b4, .inl (G.2 0, 40, .inl df)), (b5, .inl (G.2 1, 40, .inr (.inl pf))), (b6, .inl (G.2 1, 6, .inr (.inl gf)))] H := va_P.sub hP [0, 14, 15, 16, 11, 12, 13, 1, 2, 3, 4, 5, 6, 7, 8, 9, 10] rfl
          have hD : va_D A [(x0, .inr (5, [.ref b0, .ref s0, .ref u0, .ref v0, .int tA, .int wP, .int nT, .int aK, .int lK, .int sW, .int rF])), (s0, .inr (4, [.ref b0, .ref s1, .ref s2, .long op, .int re])), (s1, .inl (G.2 1, 384, .inr (.inl dk))), (s2, .inl (G.2 1, 40, .inr (.inl wg))), (u0, .inr (4, [.ref b0, .ref u1, .ref u2, .long op_1, .int re_1])), (u1, .inl (G.2 1, 384, .inr (.inl dk_1))), (u2, .inl (G.2 1, 40, .inr (.inl wg_1))), (v0, .inr (4, [.ref b0, .ref v1, .ref v2, .long vo', .int vr'])), (v1, .inl (G.2 1, 384, .inr (.inl vk'))), (v2, .inl (G.2 1, 40, .inr (.inl vw'))), (b0, .inr (3, [.ref b1, .ref b2, .ref b3, .ref b4, .ref b5, .ref b6, .int bn])), (b1, .inl (G.2 0, 40, .inl kf)), (b2, .inl (G.2 0, 40, .inl ff)), (b3, .inl (G.2 0, 40, .inl sf)), (b4, .inl (G.2 0, 40, .inl df)), (b5, .inl (G.2 1, 40, .inr (.inl pf))), (b6, .inl (G.2 1, 6, .inr (.inl gf)))] := hD.sub [0, 14, 15, 16, 11, 12, 13, 1, 2, 3, 4, 5, 6, 7, 8, 9, 10] (by decide) rfl
          refine lv_aload_n hx hb dX2_notes_99 rfl (lv_at hl 0 rfl) ?_
          refine va_get (D := G.1) (ci := 5) (v := .ref u0) (C := RX2) (T := TX2) (N := 11) hx hb hts igX2 hown hK hP 0 rfl rfl 2 (by decide) (hts _ q178) (fun _ h9 => h9) rfl dX2_notes_100 ?_
          refine lv_iload_n hx hb dX2_notes_103 rfl (lv_at hl 3 rfl) ?_
          refine lv_iload hx hb dX2_notes_104 (lv_at hl 4 rfl) ?_
          have hPc := va_P.sub (ws' := [(u0, .inr (4, [.ref b0, .ref u1, .ref u2, .long op_1, .int re_1])), (u1, .inl (G.2 1, 384, .inr (.inl dk_1))), (u2, .inl (G.2 1, 40, .inr (.inl wg_1))), (b0, .inr (3, [.ref b1, .ref b2, .ref b3, .ref b4, .ref b5, .ref b6, .int bn])), (b1, .inl (G.2 0, 40, .inl kf)), (b2, .inl (G.2 0, 40, .inl ff)), (b3, .inl (G.2 0, 40, .inl sf)), (b4, .inl (G.2 0, 40, .inl df)), (b5, .inl (G.2 1, 40, .inr (.inl pf))), (b6, .inl (G.2 1, 6, .inr (.inl gf)))]) hP [4, 5, 6, 10, 11, 12, 13, 14, 15, 16] rfl
          have hDc := hD.sub (ws' := [(u0, .inr (4, [.ref b0, .ref u1, .ref u2, .long op_1, .int re_1])), (u1, .inl (G.2 1, 384, .inr (.inl dk_1))), (u2, .inl (G.2 1, 40, .inr (.inl wg_1))), (b0, .inr (3, [.ref b1, .ref b2, .ref b3, .ref b4, .ref b5, .ref b6, .int bn])), (b1, .inl (G.2 0, 40, .inl kf)), (b2, .inl (G.2 0, 40, .inl ff)), (b3, .inl (G.2 0, 40, .inl sf)), (b4, .inl (G.2 0, 40, .inl df)), (b5, .inl (G.2 1, 40, .inr (.inl pf))), (b6, .inl (G.2 1, 6, .inr (.inl gf)))]) [4, 5, 6, 10, 11, 12, 13, 14, 15, 16] (by decide) rfl
          have hFc := va_free (wc := [(u0, .inr (4, [.ref b0, .ref u1, .ref u2, .long op_1, .int re_1])), (u1, .inl (G.2 1, 384, .inr (.inl dk_1))), (u2, .inl (G.2 1, 40, .inr (.inl wg_1))), (b0, .inr (3, [.ref b1, .ref b2, .ref b3, .ref b4, .ref b5, .ref b6, .int bn])), (b1, .inl (G.2 0, 40, .inl kf)), (b2, .inl (G.2 0, 40, .inl ff)), (b3, .inl (G.2 0, 40, .inl sf)), (b4, .inl (G.2 0, 40, .inl df)), (b5, .inl (G.2 1, 40, .inr (.inl pf))), (b6, .inl (G.2 1, 6, .inr (.inl gf)))]) hD hS hA [4, 5, 6, 10, 11, 12, 13, 14, 15, 16] rfl
          refine va_calli (va_runV (C := RX1) (As := [.int i3, .int i4]) (rest := []) ⟨hx, hb, hml, hown, hts⟩ (kX1_passOn l G u0 u1 u2 b0 b1 b2 b3 b4 b5 b6 dk_1 wg_1 op_1 re_1 kf ff sf df pf gf bn i3 i4 _ h) (cwV 2 hts (gdV q470 q471 q472 q3 q473) rfl rfl rfl (by decide +kernel) ⟨Nat.le_of_ble_eq_true rfl, Nat.le_of_ble_eq_true rfl⟩) (preVw hPc hKK hDc (va_recv hK hPc (ci := 4) (q0 := 0) rfl rfl)) rfl rfl hl.1 rfl (lv_room (Nat.le_of_ble_eq_true rfl)) dX2_notes_106 ⟨Nat.zero_le _, Nat.zero_le _⟩) hS (fun q _ h => hFc q h) hFc (fun r_6 u t H1 locs ht hvm h hB hz1 hk1 hS => ?_)
          obtain ⟨dk_2, rfl⟩ : ∃ z, z = u := ⟨_, rfl⟩
          obtain ⟨hP1, hD1⟩ := hB
          rw [ht] at hP1
          obtain ⟨hP, hD⟩ := va_join (wr := [(x0, .inr (5, [.ref b0, .ref s0, .ref u0, .ref v0, .int tA, .int wP, .int nT, .int aK, .int lK, .int sW, .int rF])), (s0, .inr (4, [.ref b0, .ref s1, .ref s2, .long op, .int re])), (s1, .inl (G.2 1, 384, .inr (.inl dk))), (s2, .inl (G.2 1, 40, .inr (.inl wg))), (v0, .inr (4, [.ref b0, .ref v1, .ref v2, .long vo', .int vr'])), (v1, .inl (G.2 1, 384, .inr (.inl vk'))), (v2, .inl (G.2 1, 40, .inr (.inl vw')))]) (w1 := [(u0, .inr (4, [.ref b0, .ref u1, .ref u2, .long op_1, .int re_1])), (u1, .inl (G.2 1, 384, .inr (.inl dk_2))), (u2, .inl (G.2 1, 40, .inr (.inl wg_1))), (b0, .inr (3, [.ref b1, .ref b2, .ref b3, .ref b4, .ref b5, .ref b6, .int bn])), (b1, .inl (G.2 0, 40, .inl kf)), (b2, .inl (G.2 0, 40, .inl ff)), (b3, .inl (G.2 0, 40, .inl sf)), (b4, .inl (G.2 0, 40, .inl df)), (b5, .inl (G.2 1, 40, .inr (.inl pf))), (b6, .inl (G.2 1, 6, .inr (.inl gf)))]) hP hD [4, 5, 6, 10, 11, 12, 13, 14, 15, 16] [0, 1, 2, 3, 7, 8, 9] rfl rfl (by decide) (by decide) hk1 hFc hP1 hD1
          generalize H1 = H at hP hS ⊢
          have hP : PP G [(x0, .inr (5, [.ref b0, .ref s0, .ref u0, .ref v0, .int tA, .int wP, .int nT, .int aK, .int lK, .int sW, .int rF])), (s0, .inr (4, [.ref b0, .ref s1, .ref s2, .long op, .int re])), (s1, .inl (G.2 1, 384, .inr (.inl dk))), (s2, .inl (G.2 1, 40, .inr (.inl wg))), (u0, .inr (4, [.ref b0, .ref u1, .ref u2, .long op_1, .int re_1])), (u1, .inl (G.2 1, 384, .inr (.inl dk_2))), (u2, .inl (G.2 1, 40, .inr (.inl wg_1))), (v0, .inr (4, [.ref b0, .ref v1, .ref v2, .long vo', .int vr'])), (v1, .inl (G.2 1, 384, .inr (.inl vk'))), (v2, .inl (G.2 1, 40, .inr (.inl vw'))), (b0, .inr (3, [.ref b1, .ref b2, .ref b3, .ref b4, .ref b5, .ref b6, .int bn])), (b1, .inl (G.2 0, 40, .inl kf)), (b2, .inl (G.2 0, 40, .inl ff)), (b3, .inl (G.2 0, 40, .inl sf)), (b4, .inl (G.2 0, 40, .inl df)), (b5, .inl (G.2 1, 40, .inr (.inl pf))), (b6, .inl (G.2 1, 6, .inr (.inl gf)))] H := va_P.sub hP [0, 1, 2, 3, 7, 8, 9, 4, 5, 6, 10, 11, 12, 13, 14, 15, 16] rfl
          have hD : va_D A [(x0, .inr (5, [.ref b0, .ref s0, .ref u0, .ref v0, .int tA, .int wP, .int nT, .int aK, .int lK, .int sW, .int rF])), (s0, .inr (4, [.ref b0, .ref s1, .ref s2, .long op, .int re])), (s1, .inl (G.2 1, 384, .inr (.inl dk))), (s2, .inl (G.2 1, 40, .inr (.inl wg))), (u0, .inr (4, [.ref b0, .ref u1, .ref u2, .long op_1, .int re_1])), (u1, .inl (G.2 1, 384, .inr (.inl dk_2))), (u2, .inl (G.2 1, 40, .inr (.inl wg_1))), (v0, .inr (4, [.ref b0, .ref v1, .ref v2, .long vo', .int vr'])), (v1, .inl (G.2 1, 384, .inr (.inl vk'))), (v2, .inl (G.2 1, 40, .inr (.inl vw'))), (b0, .inr (3, [.ref b1, .ref b2, .ref b3, .ref b4, .ref b5, .ref b6, .int bn])), (b1, .inl (G.2 0, 40, .inl kf)), (b2, .inl (G.2 0, 40, .inl ff)), (b3, .inl (G.2 0, 40, .inl sf)), (b4, .inl (G.2 0, 40, .inl df)), (b5, .inl (G.2 1, 40, .inr (.inl pf))), (b6, .inl (G.2 1, 6, .inr (.inl gf)))] := hD.sub [0, 1, 2, 3, 7, 8, 9, 4, 5, 6, 10, 11, 12, 13, 14, 15, 16] (by decide) rfl
          refine lv_if_ne (tgt := 115) hx hb dX2_notes_109 (by decide) (fun hc => ?_) (fun hc => ?_)
          · have h := h.1 hc
            refine lv_aload_n hx hb dX2_notes_115 rfl (lv_at hl 0 rfl) ?_
            refine va_get (D := G.1) (ci := 5) (v := .ref u0) (C := RX2) (T := TX2) (N := 11) hx hb hts igX2 hown hK hP 0 rfl rfl 2 (by decide) (hts _ q178) (fun _ h9 => h9) rfl dX2_notes_116 ?_
            refine lv_aload_n hx hb dX2_notes_119 rfl (lv_at hl 0 rfl) ?_
            refine va_get (D := G.1) (ci := 5) (v := .ref b0) (C := RX2) (T := TX2) (N := 11) hx hb hts igX2 hown hK hP 0 rfl rfl 0 (by decide) (hts _ q176) (fun _ h9 => h9) rfl dX2_notes_120 ?_
            refine lv_iload hx hb dX2_notes_123 (lv_at hl 4 rfl) ?_
            refine lv_iload_n hx hb dX2_notes_125 rfl (lv_at hl 2 rfl) ?_
            have hPc := va_P.sub (ws' := [(b0, .inr (3, [.ref b1, .ref b2, .ref b3, .ref b4, .ref b5, .ref b6, .int bn])), (b1, .inl (G.2 0, 40, .inl kf)), (b2, .inl (G.2 0, 40, .inl ff)), (b3, .inl (G.2 0, 40, .inl sf)), (b4, .inl (G.2 0, 40, .inl df)), (b5, .inl (G.2 1, 40, .inr (.inl pf))), (b6, .inl (G.2 1, 6, .inr (.inl gf)))]) hP [10, 11, 12, 13, 14, 15, 16] rfl
            refine rdL (va_runV (C := RX0) (As := [.int i4, .int p2]) (rest := [.ref u0]) ⟨hx, hb, hml, hown, hts⟩ (kX0_hangingOn l G b0 b1 b2 b3 b4 b5 b6 kf ff sf df pf gf bn i4 p2 h) (cwV 2 hts (gdV q454 q455 q456 q2 q457) rfl rfl rfl (by decide +kernel) ⟨Nat.le_of_ble_eq_true rfl, Nat.le_of_ble_eq_true rfl⟩) (preV hPc hKK (va_recv hK hPc (ci := 3) (q0 := 0) rfl rfl)) rfl rfl hl.1 rfl (lv_room (Nat.le_of_ble_eq_true rfl)) dX2_notes_126 ⟨Nat.zero_le _, Nat.zero_le _⟩) (fun r_7 h => ?_)
            have hPc := va_P.sub (ws' := [(u0, .inr (4, [.ref b0, .ref u1, .ref u2, .long op_1, .int re_1])), (u1, .inl (G.2 1, 384, .inr (.inl dk_2))), (u2, .inl (G.2 1, 40, .inr (.inl wg_1))), (b0, .inr (3, [.ref b1, .ref b2, .ref b3, .ref b4, .ref b5, .ref b6, .int bn])), (b1, .inl (G.2 0, 40, .inl kf)), (b2, .inl (G.2 0, 40, .inl ff)), (b3, .inl (G.2 0, 40, .inl sf)), (b4, .inl (G.2 0, 40, .inl df)), (b5, .inl (G.2 1, 40, .inr (.inl pf))), (b6, .inl (G.2 1, 6, .inr (.inl gf)))]) hP [4, 5, 6, 10, 11, 12, 13, 14, 15, 16] rfl
            have hDc := hD.sub (ws' := [(u0, .inr (4, [.ref b0, .ref u1, .ref u2, .long op_1, .int re_1])), (u1, .inl (G.2 1, 384, .inr (.inl dk_2))), (u2, .inl (G.2 1, 40, .inr (.inl wg_1))), (b0, .inr (3, [.ref b1, .ref b2, .ref b3, .ref b4, .ref b5, .ref b6, .int bn])), (b1, .inl (G.2 0, 40, .inl kf)), (b2, .inl (G.2 0, 40, .inl ff)), (b3, .inl (G.2 0, 40, .inl sf)), (b4, .inl (G.2 0, 40, .inl df)), (b5, .inl (G.2 1, 40, .inr (.inl pf))), (b6, .inl (G.2 1, 6, .inr (.inl gf)))]) [4, 5, 6, 10, 11, 12, 13, 14, 15, 16] (by decide) rfl
            have hFc := va_free (wc := [(u0, .inr (4, [.ref b0, .ref u1, .ref u2, .long op_1, .int re_1])), (u1, .inl (G.2 1, 384, .inr (.inl dk_2))), (u2, .inl (G.2 1, 40, .inr (.inl wg_1))), (b0, .inr (3, [.ref b1, .ref b2, .ref b3, .ref b4, .ref b5, .ref b6, .int bn])), (b1, .inl (G.2 0, 40, .inl kf)), (b2, .inl (G.2 0, 40, .inl ff)), (b3, .inl (G.2 0, 40, .inl sf)), (b4, .inl (G.2 0, 40, .inl df)), (b5, .inl (G.2 1, 40, .inr (.inl pf))), (b6, .inl (G.2 1, 6, .inr (.inl gf)))]) hD hS hA [4, 5, 6, 10, 11, 12, 13, 14, 15, 16] rfl
            have hZc := (hZ.kept hS.2.1).narrow hFc
            refine va_callv (va_runV (C := RX1) (As := [.long r_7]) (rest := []) ⟨hx, hb, hml, hown, hts⟩ (kX1_weigh l G u0 u1 u2 b0 b1 b2 b3 b4 b5 b6 dk_2 wg_1 op_1 re_1 kf ff sf df pf gf bn r_7 _ h) (cwV 1 hts (gdV q475 q104 q105 q3 q106) rfl rfl rfl (by decide +kernel) ⟨Nat.le_of_ble_eq_true rfl, Nat.le_of_ble_eq_true rfl⟩) (preVwz hPc hKK hDc hZc (va_recv hK hPc (ci := 4) (q0 := 0) rfl rfl)) rfl rfl hl.1 rfl (lv_room (Nat.le_of_ble_eq_true rfl)) dX2_notes_129 ⟨Nat.zero_le _, Nat.zero_le _⟩) hS (fun q _ h => hFc q h) hFc (fun u t H1 locs ht hvm h hB hz1 hk1 hS => ?_)
            obtain ⟨wg_2, rfl⟩ : ∃ z, z = u := ⟨_, rfl⟩
            obtain ⟨hP1, hD1⟩ := hB
            rw [ht] at hP1
            obtain ⟨hP, hD⟩ := va_join (wr := [(x0, .inr (5, [.ref b0, .ref s0, .ref u0, .ref v0, .int tA, .int wP, .int nT, .int aK, .int lK, .int sW, .int rF])), (s0, .inr (4, [.ref b0, .ref s1, .ref s2, .long op, .int re])), (s1, .inl (G.2 1, 384, .inr (.inl dk))), (s2, .inl (G.2 1, 40, .inr (.inl wg))), (v0, .inr (4, [.ref b0, .ref v1, .ref v2, .long vo', .int vr'])), (v1, .inl (G.2 1, 384, .inr (.inl vk'))), (v2, .inl (G.2 1, 40, .inr (.inl vw')))]) (w1 := [(u0, .inr (4, [.ref b0, .ref u1, .ref u2, .long op_1, .int re_1])), (u1, .inl (G.2 1, 384, .inr (.inl dk_2))), (u2, .inl (G.2 1, 40, .inr (.inl wg_2))), (b0, .inr (3, [.ref b1, .ref b2, .ref b3, .ref b4, .ref b5, .ref b6, .int bn])), (b1, .inl (G.2 0, 40, .inl kf)), (b2, .inl (G.2 0, 40, .inl ff)), (b3, .inl (G.2 0, 40, .inl sf)), (b4, .inl (G.2 0, 40, .inl df)), (b5, .inl (G.2 1, 40, .inr (.inl pf))), (b6, .inl (G.2 1, 6, .inr (.inl gf)))]) hP hD [4, 5, 6, 10, 11, 12, 13, 14, 15, 16] [0, 1, 2, 3, 7, 8, 9] rfl rfl (by decide) (by decide) hk1 hFc hP1 hD1
            generalize H1 = H at hP hS ⊢
            have hP : PP G [(x0, .inr (5, [.ref b0, .ref s0, .ref u0, .ref v0, .int tA, .int wP, .int nT, .int aK, .int lK, .int sW, .int rF])), (s0, .inr (4, [.ref b0, .ref s1, .ref s2, .long op, .int re])), (s1, .inl (G.2 1, 384, .inr (.inl dk))), (s2, .inl (G.2 1, 40, .inr (.inl wg))), (u0, .inr (4, [.ref b0, .ref u1, .ref u2, .long op_1, .int re_1])), (u1, .inl (G.2 1, 384, .inr (.inl dk_2))), (u2, .inl (G.2 1, 40, .inr (.inl wg_2))), (v0, .inr (4, [.ref b0, .ref v1, .ref v2, .long vo', .int vr'])), (v1, .inl (G.2 1, 384, .inr (.inl vk'))), (v2, .inl (G.2 1, 40, .inr (.inl vw'))), (b0, .inr (3, [.ref b1, .ref b2, .ref b3, .ref b4, .ref b5, .ref b6, .int bn])), (b1, .inl (G.2 0, 40, .inl kf)), (b2, .inl (G.2 0, 40, .inl ff)), (b3, .inl (G.2 0, 40, .inl sf)), (b4, .inl (G.2 0, 40, .inl df)), (b5, .inl (G.2 1, 40, .inr (.inl pf))), (b6, .inl (G.2 1, 6, .inr (.inl gf)))] H := va_P.sub hP [0, 1, 2, 3, 7, 8, 9, 4, 5, 6, 10, 11, 12, 13, 14, 15, 16] rfl
            have hD : va_D A [(x0, .inr (5, [.ref b0, .ref s0, .ref u0, .ref v0, .int tA, .int wP, .int nT, .int aK, .int lK, .int sW, .int rF])), (s0, .inr (4, [.ref b0, .ref s1, .ref s2, .long op, .int re])), (s1, .inl (G.2 1, 384, .inr (.inl dk))), (s2, .inl (G.2 1, 40, .inr (.inl wg))), (u0, .inr (4, [.ref b0, .ref u1, .ref u2, .long op_1, .int re_1])), (u1, .inl (G.2 1, 384, .inr (.inl dk_2))), (u2, .inl (G.2 1, 40, .inr (.inl wg_2))), (v0, .inr (4, [.ref b0, .ref v1, .ref v2, .long vo', .int vr'])), (v1, .inl (G.2 1, 384, .inr (.inl vk'))), (v2, .inl (G.2 1, 40, .inr (.inl vw'))), (b0, .inr (3, [.ref b1, .ref b2, .ref b3, .ref b4, .ref b5, .ref b6, .int bn])), (b1, .inl (G.2 0, 40, .inl kf)), (b2, .inl (G.2 0, 40, .inl ff)), (b3, .inl (G.2 0, 40, .inl sf)), (b4, .inl (G.2 0, 40, .inl df)), (b5, .inl (G.2 1, 40, .inr (.inl pf))), (b6, .inl (G.2 1, 6, .inr (.inl gf)))] := hD.sub [0, 1, 2, 3, 7, 8, 9, 4, 5, 6, 10, 11, 12, 13, 14, 15, 16] (by decide) rfl
            refine lv_aload_n hx hb dX2_notes_132 rfl (lv_at hl 0 rfl) ?_
            refine lv_aload_n hx hb dX2_notes_133 rfl (lv_at hl 0 rfl) ?_
            refine va_get (D := G.1) (ci := 5) (v := .ref u0) (C := RX2) (T := TX2) (N := 11) hx hb hts igX2 hown hK hP 0 rfl rfl 2 (by decide) (hts _ q178) (fun _ h9 => h9) rfl dX2_notes_134 ?_
            refine lv_aload_n hx hb dX2_notes_137 rfl (lv_at hl 0 rfl) ?_
            refine va_get (D := G.1) (ci := 5) (v := .ref v0) (C := RX2) (T := TX2) (N := 11) hx hb hts igX2 hown hK hP 0 rfl rfl 3 (by decide) (hts _ q179) (fun _ h9 => h9) rfl dX2_notes_138 ?_
            refine lv_iload_n hx hb dX2_notes_141 rfl (lv_at hl 1 rfl) ?_
            refine lv_iload_n hx hb dX2_notes_142 rfl (lv_at hl 2 rfl) ?_
            have hPc := va_P.sub (ws' := [(x0, .inr (5, [.ref b0, .ref s0, .ref u0, .ref v0, .int tA, .int wP, .int nT, .int aK, .int lK, .int sW, .int rF])), (u0, .inr (4, [.ref b0, .ref u1, .ref u2, .long op_1, .int re_1])), (u1, .inl (G.2 1, 384, .inr (.inl dk_2))), (u2, .inl (G.2 1, 40, .inr (.inl wg_2))), (v0, .inr (4, [.ref b0, .ref v1, .ref v2, .long vo', .int vr'])), (v1, .inl (G.2 1, 384, .inr (.inl vk'))), (v2, .inl (G.2 1, 40, .inr (.inl vw'))), (b0, .inr (3, [.ref b1, .ref b2, .ref b3, .ref b4, .ref b5, .ref b6, .int bn])), (b1, .inl (G.2 0, 40, .inl kf)), (b2, .inl (G.2 0, 40, .inl ff)), (b3, .inl (G.2 0, 40, .inl sf)), (b4, .inl (G.2 0, 40, .inl df)), (b5, .inl (G.2 1, 40, .inr (.inl pf))), (b6, .inl (G.2 1, 6, .inr (.inl gf)))]) hP [0, 4, 5, 6, 7, 8, 9, 10, 11, 12, 13, 14, 15, 16] rfl
            have hDc := hD.sub (ws' := [(x0, .inr (5, [.ref b0, .ref s0, .ref u0, .ref v0, .int tA, .int wP, .int nT, .int aK, .int lK, .int sW, .int rF])), (u0, .inr (4, [.ref b0, .ref u1, .ref u2, .long op_1, .int re_1])), (u1, .inl (G.2 1, 384, .inr (.inl dk_2))), (u2, .inl (G.2 1, 40, .inr (.inl wg_2))), (v0, .inr (4, [.ref b0, .ref v1, .ref v2, .long vo', .int vr'])), (v1, .inl (G.2 1, 384, .inr (.inl vk'))), (v2, .inl (G.2 1, 40, .inr (.inl vw'))), (b0, .inr (3, [.ref b1, .ref b2, .ref b3, .ref b4, .ref b5, .ref b6, .int bn])), (b1, .inl (G.2 0, 40, .inl kf)), (b2, .inl (G.2 0, 40, .inl ff)), (b3, .inl (G.2 0, 40, .inl sf)), (b4, .inl (G.2 0, 40, .inl df)), (b5, .inl (G.2 1, 40, .inr (.inl pf))), (b6, .inl (G.2 1, 6, .inr (.inl gf)))]) [0, 4, 5, 6, 7, 8, 9, 10, 11, 12, 13, 14, 15, 16] (by decide) rfl
            have hFc := va_free (wc := [(x0, .inr (5, [.ref b0, .ref s0, .ref u0, .ref v0, .int tA, .int wP, .int nT, .int aK, .int lK, .int sW, .int rF])), (u0, .inr (4, [.ref b0, .ref u1, .ref u2, .long op_1, .int re_1])), (u1, .inl (G.2 1, 384, .inr (.inl dk_2))), (u2, .inl (G.2 1, 40, .inr (.inl wg_2))), (v0, .inr (4, [.ref b0, .ref v1, .ref v2, .long vo', .int vr'])), (v1, .inl (G.2 1, 384, .inr (.inl vk'))), (v2, .inl (G.2 1, 40, .inr (.inl vw'))), (b0, .inr (3, [.ref b1, .ref b2, .ref b3, .ref b4, .ref b5, .ref b6, .int bn])), (b1, .inl (G.2 0, 40, .inl kf)), (b2, .inl (G.2 0, 40, .inl ff)), (b3, .inl (G.2 0, 40, .inl sf)), (b4, .inl (G.2 0, 40, .inl df)), (b5, .inl (G.2 1, 40, .inr (.inl pf))), (b6, .inl (G.2 1, 6, .inr (.inl gf)))]) hD hS hA [0, 4, 5, 6, 7, 8, 9, 10, 11, 12, 13, 14, 15, 16] rfl
            have hZc := (hZ.kept hS.2.1).narrow hFc
            refine va_calli (va_runV (C := RX2) (As := [.ref u0, .ref v0, .int p1, .int p2]) (rest := []) ⟨hx, hb, hml, hown, hts⟩ (kX2_oneNoteDoes l G x0 s0 u0 v0 u0 u1 u2 v0 v1 v2 b0 b1 b2 b3 b4 b5 b6 dk_2 wg_2 op_1 re_1 vk' vw' vo' vr' kf ff sf df pf gf bn tA wP nT aK lK sW rF p1 p2 _ h) (cwV 4 hts (gdV q450 q452 qs8 q1 q453) rfl rfl rfl (by decide +kernel) ⟨Nat.le_of_ble_eq_true rfl, Nat.le_of_ble_eq_true rfl⟩) (preVwz hPc hKK hDc hZc (va_recv hK hPc (ci := 5) (q0 := 0) rfl rfl)) rfl rfl hl.1 rfl (lv_room (Nat.le_of_ble_eq_true rfl)) dX2_notes_143 ⟨Nat.zero_le _, Nat.zero_le _⟩) hS (fun q _ h => hFc q h) hFc (fun r_9 u t H1 locs ht hvm h hB hz1 hk1 hS => ?_)
            obtain ⟨uk_2, uw_2, uo_2, ur_2⟩ := u
            obtain ⟨hP1, hD1⟩ := hB
            rw [ht] at hP1
            obtain ⟨hP, hD⟩ := va_join (wr := [(s0, .inr (4, [.ref b0, .ref s1, .ref s2, .long op, .int re])), (s1, .inl (G.2 1, 384, .inr (.inl dk))), (s2, .inl (G.2 1, 40, .inr (.inl wg)))]) (w1 := [(x0, .inr (5, [.ref b0, .ref s0, .ref u0, .ref v0, .int tA, .int wP, .int nT, .int aK, .int lK, .int sW, .int rF])), (u0, .inr (4, [.ref b0, .ref u1, .ref u2, .long op_1, .int re_1])), (u1, .inl (G.2 1, 384, .inr (.inl dk_2))), (u2, .inl (G.2 1, 40, .inr (.inl wg_2))), (v0, .inr (4, [.ref b0, .ref v1, .ref v2, .long uo_2, .int ur_2])), (v1, .inl (G.2 1, 384, .inr (.inl uk_2))), (v2, .inl (G.2 1, 40, .inr (.inl uw_2))), (b0, .inr (3, [.ref b1, .ref b2, .ref b3, .ref b4, .ref b5, .ref b6, .int bn])), (b1, .inl (G.2 0, 40, .inl kf)), (b2, .inl (G.2 0, 40, .inl ff)), (b3, .inl (G.2 0, 40, .inl sf)), (b4, .inl (G.2 0, 40, .inl df)), (b5, .inl (G.2 1, 40, .inr (.inl pf))), (b6, .inl (G.2 1, 6, .inr (.inl gf)))]) hP hD [0, 4, 5, 6, 7, 8, 9, 10, 11, 12, 13, 14, 15, 16] [1, 2, 3] rfl rfl (by decide) (by decide) hk1 hFc hP1 hD1
            generalize H1 = H at hP hS ⊢
            have hP : PP G [(x0, .inr (5, [.ref b0, .ref s0, .ref u0, .ref v0, .int tA, .int wP, .int nT, .int aK, .int lK, .int sW, .int rF])), (s0, .inr (4, [.ref b0, .ref s1, .ref s2, .long op, .int re])), (s1, .inl (G.2 1, 384, .inr (.inl dk))), (s2, .inl (G.2 1, 40, .inr (.inl wg))), (u0, .inr (4, [.ref b0, .ref u1, .ref u2, .long op_1, .int re_1])), (u1, .inl (G.2 1, 384, .inr (.inl dk_2))), (u2, .inl (G.2 1, 40, .inr (.inl wg_2))), (v0, .inr (4, [.ref b0, .ref v1, .ref v2, .long uo_2, .int ur_2])), (v1, .inl (G.2 1, 384, .inr (.inl uk_2))), (v2, .inl (G.2 1, 40, .inr (.inl uw_2))), (b0, .inr (3, [.ref b1, .ref b2, .ref b3, .ref b4, .ref b5, .ref b6, .int bn])), (b1, .inl (G.2 0, 40, .inl kf)), (b2, .inl (G.2 0, 40, .inl ff)), (b3, .inl (G.2 0, 40, .inl sf)), (b4, .inl (G.2 0, 40, .inl df)), (b5, .inl (G.2 1, 40, .inr (.inl pf))), (b6, .inl (G.2 1, 6, .inr (.inl gf)))] H := va_P.sub hP [3, 0, 1, 2, 4, 5, 6, 7, 8, 9, 10, 11, 12, 13, 14, 15, 16] rfl
            have hD : va_D A [(x0, .inr (5, [.ref b0, .ref s0, .ref u0, .ref v0, .int tA, .int wP, .int nT, .int aK, .int lK, .int sW, .int rF])), (s0, .inr (4, [.ref b0, .ref s1, .ref s2, .long op, .int re])), (s1, .inl (G.2 1, 384, .inr (.inl dk))), (s2, .inl (G.2 1, 40, .inr (.inl wg))), (u0, .inr (4, [.ref b0, .ref u1, .ref u2, .long op_1, .int re_1])), (u1, .inl (G.2 1, 384, .inr (.inl dk_2))), (u2, .inl (G.2 1, 40, .inr (.inl wg_2))), (v0, .inr (4, [.ref b0, .ref v1, .ref v2, .long uo_2, .int ur_2])), (v1, .inl (G.2 1, 384, .inr (.inl uk_2))), (v2, .inl (G.2 1, 40, .inr (.inl uw_2))), (b0, .inr (3, [.ref b1, .ref b2, .ref b3, .ref b4, .ref b5, .ref b6, .int bn])), (b1, .inl (G.2 0, 40, .inl kf)), (b2, .inl (G.2 0, 40, .inl ff)), (b3, .inl (G.2 0, 40, .inl sf)), (b4, .inl (G.2 0, 40, .inl df)), (b5, .inl (G.2 1, 40, .inr (.inl pf))), (b6, .inl (G.2 1, 6, .inr (.inl gf)))] := hD.sub [3, 0, 1, 2, 4, 5, 6, 7, 8, 9, 10, 11, 12, 13, 14, 15, 16] (by decide) rfl
            refine lv_if_eq (tgt := 151) hx hb dX2_notes_146 (by decide) (fun hc => ?_) (fun hc => ?_)
            · have h := h.1 hc
              refine lv_iinc (v := (i4 + 1)) hx hb dX2_notes_151 hl (k := 4) rfl (by rw [show Int32.ofInt 1 = 1 from by decide]) (Nat.le_of_ble_eq_true rfl) rfl (fun ls hl => ?_)
              have hl : lv_has ls 5 [(4, .int (i4 + 1)), (0, .ref x0), (1, .int p1), (2, .int p2), (3, .int i3)] := hl
              refine lv_goto (tgt := 72) hx hb dX2_notes_154 (by decide) ?_
              have hl := lv_sub (l' := [(0, .ref x0), (1, .int p1), (2, .int p2), (3, .int i3), (4, .int (i4 + 1))]) hl [1, 2, 3, 4, 0] rfl
              exact ih _ _ _ _ _ _ _ _ _ ls H locs hl hP hD hS h
            · have h := h.2 hc
              refine lv_iconst (v := 2) hx hb dX2_notes_149 (by decide) ?_
              subst hQC; exact W.iret (v := (2 : Int32)) hx hb hr (fun t ht hW => ⟨⟨_, (dk_2, wg_2, op_1, re_1, uk_2, uw_2, uo_2, ur_2), rfl, h, by rw [ht]; exact hP, hD⟩, hS.F ht⟩) hS.2.2 dX2_notes_150
          · have h := h.2 hc
            refine lv_goto (tgt := 151) hx hb dX2_notes_112 (by decide) ?_
            refine lv_iinc (v := (i4 + 1)) hx hb dX2_notes_151 hl (k := 4) rfl (by rw [show Int32.ofInt 1 = 1 from by decide]) (Nat.le_of_ble_eq_true rfl) rfl (fun ls hl => ?_)
            have hl : lv_has ls 5 [(4, .int (i4 + 1)), (0, .ref x0), (1, .int p1), (2, .int p2), (3, .int i3)] := hl
            refine lv_goto (tgt := 72) hx hb dX2_notes_154 (by decide) ?_
            have hl := lv_sub (l' := [(0, .ref x0), (1, .int p1), (2, .int p2), (3, .int i3), (4, .int (i4 + 1))]) hl [1, 2, 3, 4, 0] rfl
            exact ih _ _ _ _ _ _ _ _ _ ls H locs hl hP hD hS h
        · have h := h.2 hc
          refine lv_goto (tgt := 151) hx hb dX2_notes_85 (by decide) ?_
          refine lv_iinc (v := (i4 + 1)) hx hb dX2_notes_151 hl (k := 4) rfl (by rw [show Int32.ofInt 1 = 1 from by decide]) (Nat.le_of_ble_eq_true rfl) rfl (fun ls hl => ?_)
          have hl : lv_has ls 5 [(4, .int (i4 + 1)), (0, .ref x0), (1, .int p1), (2, .int p2), (3, .int i3)] := hl
          refine lv_goto (tgt := 72) hx hb dX2_notes_154 (by decide) ?_
          have hl := lv_sub (l' := [(0, .ref x0), (1, .int p1), (2, .int p2), (3, .int i3), (4, .int (i4 + 1))]) hl [1, 2, 3, 4, 0] rfl
          exact ih _ _ _ _ _ _ _ _ _ ls H locs hl hP hD hS h
  have loop63 : ∀ (K163 : Int32 → (Nat → Int64) → (Nat → Int64) → Int64 → Int32 → (Nat → Int64) → (Nat → Int64) → Int64 → Int32 → Prop), True → (∀ (i3 : Int32) (uk' : Nat → Int64) (uw' : Nat → Int64) (uo' : Int64) (ur' : Int32) (vk' : Nat → Int64) (vw' : Nat → Int64) (vo' : Int64) (vr' : Int32) (ls : Array Slot) (H : Heap) (locs : List Loc), lv_has ls 5 [(0, .ref x0), (1, .int p1), (2, .int p2), (3, .int i3)] → PP G [(x0, .inr (5, [.ref b0, .ref s0, .ref u0, .ref v0, .int tA, .int wP, .int nT, .int aK, .int lK, .int sW, .int rF])), (s0, .inr (4, [.ref b0, .ref s1, .ref s2, .long op, .int re])), (s1, .inl (G.2 1, 384, .inr (.inl dk))), (s2, .inl (G.2 1, 40, .inr (.inl wg))), (u0, .inr (4, [.ref b0, .ref u1, .ref u2, .long uo', .int ur'])), (u1, .inl (G.2 1, 384, .inr (.inl uk'))), (u2, .inl (G.2 1, 40, .inr (.inl uw'))), (v0, .inr (4, [.ref b0, .ref v1, .ref v2, .long vo', .int vr'])), (v1, .inl (G.2 1, 384, .inr (.inl vk'))), (v2, .inl (G.2 1, 40, .inr (.inl vw'))), (b0, .inr (3, [.ref b1, .ref b2, .ref b3, .ref b4, .ref b5, .ref b6, .int bn])), (b1, .inl (G.2 0, 40, .inl kf)), (b2, .inl (G.2 0, 40, .inl ff)), (b3, .inl (G.2 0, 40, .inl sf)), (b4, .inl (G.2 0, 40, .inl df)), (b5, .inl (G.2 1, 40, .inr (.inl pf))), (b6, .inl (G.2 1, 6, .inr (.inl gf)))] H → va_D A [(x0, .inr (5, [.ref b0, .ref s0, .ref u0, .ref v0, .int tA, .int wP, .int nT, .int aK, .int lK, .int sW, .int rF])), (s0, .inr (4, [.ref b0, .ref s1, .ref s2, .long op, .int re])), (s1, .inl (G.2 1, 384, .inr (.inl dk))), (s2, .inl (G.2 1, 40, .inr (.inl wg))), (u0, .inr (4, [.ref b0, .ref u1, .ref u2, .long uo', .int ur'])), (u1, .inl (G.2 1, 384, .inr (.inl uk'))), (u2, .inl (G.2 1, 40, .inr (.inl uw'))), (v0, .inr (4, [.ref b0, .ref v1, .ref v2, .long vo', .int vr'])), (v1, .inl (G.2 1, 384, .inr (.inl vk'))), (v2, .inl (G.2 1, 40, .inr (.inl vw'))), (b0, .inr (3, [.ref b1, .ref b2, .ref b3, .ref b4, .ref b5, .ref b6, .int bn])), (b1, .inl (G.2 0, 40, .inl kf)), (b2, .inl (G.2 0, 40, .inl ff)), (b3, .inl (G.2 0, 40, .inl sf)), (b4, .inl (G.2 0, 40, .inl df)), (b5, .inl (G.2 1, 40, .inr (.inl pf))), (b6, .inl (G.2 1, 6, .inr (.inl gf)))] → va_S A s.heap H locs → K163 i3 uk' uw' uo' ur' vk' vw' vo' vr' → W p l e (headSpec (wl_nX2_notes) rm_nX2_notes).room s m ([.ref x0, .int p1, .int p2] : List Value).toArray below meth c H locs 0 0 (MQ below QC ([.ref x0, .int p1, .int p2] : List Value).toArray s 0 0 A) (F0 m 163 ls [])) → ∀ (n : Nat) (i3 : Int32) (uk' : Nat → Int64) (uw' : Nat → Int64) (uo' : Int64) (ur' : Int32) (vk' : Nat → Int64) (vw' : Nat → Int64) (vo' : Int64) (vr' : Int32) (ls : Array Slot) (H : Heap) (locs : List Loc), lv_has ls 5 [(0, .ref x0), (1, .int p1), (2, .int p2), (3, .int i3)] → PP G [(x0, .inr (5, [.ref b0, .ref s0, .ref u0, .ref v0, .int tA, .int wP, .int nT, .int aK, .int lK, .int sW, .int rF])), (s0, .inr (4, [.ref b0, .ref s1, .ref s2, .long op, .int re])), (s1, .inl (G.2 1, 384, .inr (.inl dk))), (s2, .inl (G.2 1, 40, .inr (.inl wg))), (u0, .inr (4, [.ref b0, .ref u1, .ref u2, .long uo', .int ur'])), (u1, .inl (G.2 1, 384, .inr (.inl uk'))), (u2, .inl (G.2 1, 40, .inr (.inl uw'))), (v0, .inr (4, [.ref b0, .ref v1, .ref v2, .long vo', .int vr'])), (v1, .inl (G.2 1, 384, .inr (.inl vk'))), (v2, .inl (G.2 1, 40, .inr (.inl vw'))), (b0, .inr (3, [.ref b1, .ref b2, .ref b3, .ref b4, .ref b5, .ref b6, .int bn])), (b1, .inl (G.2 0, 40, .inl kf)), (b2, .inl (G.2 0, 40, .inl ff)), (b3, .inl (G.2 0, 40, .inl sf)), (b4, .inl (G.2 0, 40, .inl df)), (b5, .inl (G.2 1, 40, .inr (.inl pf))), (b6, .inl (G.2 1, 6, .inr (.inl gf)))] H → va_D A [(x0, .inr (5, [.ref b0, .ref s0, .ref u0, .ref v0, .int tA, .int wP, .int nT, .int aK, .int lK, .int sW, .int rF])), (s0, .inr (4, [.ref b0, .ref s1, .ref s2, .long op, .int re])), (s1, .inl (G.2 1, 384, .inr (.inl dk))), (s2, .inl (G.2 1, 40, .inr (.inl wg))), (u0, .inr (4, [.ref b0, .ref u1, .ref u2, .long uo', .int ur'])), (u1, .inl (G.2 1, 384, .inr (.inl uk'))), (u2, .inl (G.2 1, 40, .inr (.inl uw'))), (v0, .inr (4, [.ref b0, .ref v1, .ref v2, .long vo', .int vr'])), (v1, .inl (G.2 1, 384, .inr (.inl vk'))), (v2, .inl (G.2 1, 40, .inr (.inl vw'))), (b0, .inr (3, [.ref b1, .ref b2, .ref b3, .ref b4, .ref b5, .ref b6, .int bn])), (b1, .inl (G.2 0, 40, .inl kf)), (b2, .inl (G.2 0, 40, .inl ff)), (b3, .inl (G.2 0, 40, .inl sf)), (b4, .inl (G.2 0, 40, .inl df)), (b5, .inl (G.2 1, 40, .inr (.inl pf))), (b6, .inl (G.2 1, 6, .inr (.inl gf)))] → va_S A s.heap H locs → wnX2_notes_L63 post K163 dk wg op re kf ff sf pf gf bn p1 p2 n i3 uk' uw' uo' ur' vk' vw' vo' vr' → W p l e (headSpec (wl_nX2_notes) rm_nX2_notes).room s m ([.ref x0, .int p1, .int p2] : List Value).toArray below meth c H locs 0 0 (MQ below QC ([.ref x0, .int p1, .int p2] : List Value).toArray s 0 0 A) (F0 m 63 ls []) := by
    intro K163 _ hexit163 n
    induction n with
    | zero => intro i3 uk' uw' uo' ur' vk' vw' vo' vr' ls H locs hl hP hD hS h; exact False.elim h
    | succ n ih =>
      intro i3 uk' uw' uo' ur' vk' vw' vo' vr' ls H locs hl hP hD hS h
      refine lv_iload_n hx hb dX2_notes_63 rfl (lv_at hl 3 rfl) ?_
      refine lv_bipush (v := 6) hx hb dX2_notes_64 (by decide) ?_
      refine lv_icmp_ge (tgt := 163) hx hb dX2_notes_66 (by decide) (fun hc => ?_) (fun hc => ?_)
      · have h := h.1 hc
        have hl := lv_sub (l' := [(0, .ref x0), (1, .int p1), (2, .int p2), (3, .int i3)]) hl [0, 1, 2, 3] rfl
        exact hexit163 _ _ _ _ _ _ _ _ _ ls H locs hl hP hD hS h
      · have h := h.2 hc
        refine lv_iconst (v := 0) hx hb dX2_notes_69 (by decide) ?_
        refine lv_istore hx hb dX2_notes_70 hl (Nat.le_of_ble_eq_true rfl) rfl (fun ls hl => ?_)
        have hl : lv_has ls 5 [(4, .int (0 : Int32)), (0, .ref x0), (1, .int p1), (2, .int p2), (3, .int i3)] := hl
        have hl := lv_sub (l' := [(0, .ref x0), (1, .int p1), (2, .int p2), (3, .int i3), (4, .int (0 : Int32))]) hl [1, 2, 3, 4, 0] rfl
        obtain ⟨nF, h⟩ := h
        refine loop72 _ i3 trivial ?_ nF (0 : Int32) uk' uw' uo' ur' vk' vw' vo' vr' _ _ _ hl hP hD hS h
        · intro i4 uk' uw' uo' ur' vk' vw' vo' vr' ls H locs hl hP hD hS h
          refine lv_iinc (v := (i3 + 1)) hx hb dX2_notes_157 hl (k := 3) rfl (by rw [show Int32.ofInt 1 = 1 from by decide]) (Nat.le_of_ble_eq_true rfl) rfl (fun ls hl => ?_)
          have hl : lv_has ls 5 [(3, .int (i3 + 1)), (0, .ref x0), (1, .int p1), (2, .int p2), (4, .int i4)] := hl
          refine lv_goto (tgt := 63) hx hb dX2_notes_160 (by decide) ?_
          have hl := lv_sub (l' := [(0, .ref x0), (1, .int p1), (2, .int p2), (3, .int (i3 + 1))]) hl [1, 2, 3, 0] rfl
          exact ih _ _ _ _ _ _ _ _ _ ls H locs hl hP hD hS h
  refine lv_iload_n hx hb dX2_notes_0 rfl (lv_at hl 1 rfl) ?_
  have hPc := va_P.sub (ws' := []) hP [] rfl
  refine rdI (va_runS (As := [.int p1]) (rest := []) ⟨hx, hb, hml, hown, hts⟩ (kX2_isGuard l G p1 h) (va_cwS 1 hts (gdS q346 q347 q1 q348) rfl rfl rfl (by decide +kernel) ⟨Nat.le_of_ble_eq_true rfl, Nat.le_of_ble_eq_true rfl⟩) (preS hPc hKK) rfl rfl hl.1 rfl (lv_room (Nat.le_of_ble_eq_true rfl)) dX2_notes_1 ⟨Nat.zero_le _, Nat.zero_le _⟩) (fun r_1 h => ?_)
  refine lv_if_eq (tgt := 18) hx hb dX2_notes_4 (by decide) (fun hc => ?_) (fun hc => ?_)
  · have h := h.1 hc
    exact False.elim h
  · have h := h.2 hc
    refine lv_aload_n hx hb dX2_notes_7 rfl (lv_at hl 0 rfl) ?_
    refine va_get (D := G.1) (ci := 5) (v := .ref b0) (C := RX2) (T := TX2) (N := 11) hx hb hts igX2 hown hK hP 0 rfl rfl 0 (by decide) (hts _ q176) (fun _ h9 => h9) rfl dX2_notes_8 ?_
    refine lv_iload_n hx hb dX2_notes_11 rfl (lv_at hl 2 rfl) ?_
    have hPc := va_P.sub (ws' := [(b0, .inr (3, [.ref b1, .ref b2, .ref b3, .ref b4, .ref b5, .ref b6, .int bn])), (b1, .inl (G.2 0, 40, .inl kf)), (b2, .inl (G.2 0, 40, .inl ff)), (b3, .inl (G.2 0, 40, .inl sf)), (b4, .inl (G.2 0, 40, .inl df)), (b5, .inl (G.2 1, 40, .inr (.inl pf))), (b6, .inl (G.2 1, 6, .inr (.inl gf)))]) hP [10, 11, 12, 13, 14, 15, 16] rfl
    refine rdI (va_runV (C := RX0) (As := [.int p2]) (rest := []) ⟨hx, hb, hml, hown, hts⟩ (kX0_holds l G b0 b1 b2 b3 b4 b5 b6 kf ff sf df pf gf bn p2 h) (cwV 1 hts (gdV q403 q115 q116 q2 q117) rfl rfl rfl (by decide +kernel) ⟨Nat.le_of_ble_eq_true rfl, Nat.le_of_ble_eq_true rfl⟩) (preV hPc hKK (va_recv hK hPc (ci := 3) (q0 := 0) rfl rfl)) rfl rfl hl.1 rfl (lv_room (Nat.le_of_ble_eq_true rfl)) dX2_notes_12 ⟨Nat.zero_le _, Nat.zero_le _⟩) (fun r_2 h => ?_)
    refine lv_if_ne (tgt := 28) hx hb dX2_notes_15 (by decide) (fun hc => ?_) (fun hc => ?_)
    · have h := h.1 hc
      refine lv_aload_n hx hb dX2_notes_28 rfl (lv_at hl 0 rfl) ?_
      refine va_get (D := G.1) (ci := 5) (v := .ref s0) (C := RX2) (T := TX2) (N := 11) hx hb hts igX2 hown hK hP 0 rfl rfl 1 (by decide) (hts _ q177) (fun _ h9 => h9) rfl dX2_notes_29 ?_
      refine lv_iload_n hx hb dX2_notes_32 rfl (lv_at hl 1 rfl) ?_
      refine lv_iload_n hx hb dX2_notes_33 rfl (lv_at hl 2 rfl) ?_
      have hPc := va_P.sub (ws' := [(s0, .inr (4, [.ref b0, .ref s1, .ref s2, .long op, .int re])), (s1, .inl (G.2 1, 384, .inr (.inl dk))), (s2, .inl (G.2 1, 40, .inr (.inl wg))), (b0, .inr (3, [.ref b1, .ref b2, .ref b3, .ref b4, .ref b5, .ref b6, .int bn])), (b1, .inl (G.2 0, 40, .inl kf)), (b2, .inl (G.2 0, 40, .inl ff)), (b3, .inl (G.2 0, 40, .inl sf)), (b4, .inl (G.2 0, 40, .inl df)), (b5, .inl (G.2 1, 40, .inr (.inl pf))), (b6, .inl (G.2 1, 6, .inr (.inl gf)))]) hP [1, 2, 3, 10, 11, 12, 13, 14, 15, 16] rfl
      refine rdI (va_runV (C := RX1) (As := [.int p1, .int p2]) (rest := []) ⟨hx, hb, hml, hown, hts⟩ (kX1_knows l G s0 s1 s2 b0 b1 b2 b3 b4 b5 b6 dk wg op re kf ff sf df pf gf bn p1 p2 h) (cwV 2 hts (gdV q449 q236 q237 q3 q238) rfl rfl rfl (by decide +kernel) ⟨Nat.le_of_ble_eq_true rfl, Nat.le_of_ble_eq_true rfl⟩) (preV hPc hKK (va_recv hK hPc (ci := 4) (q0 := 0) rfl rfl)) rfl rfl hl.1 rfl (lv_room (Nat.le_of_ble_eq_true rfl)) dX2_notes_34 ⟨Nat.zero_le _, Nat.zero_le _⟩) (fun r_3 h => ?_)
      refine lv_if_eq (tgt := 42) hx hb dX2_notes_37 (by decide) (fun hc => ?_) (fun hc => ?_)
      · have h := h.1 hc
        refine lv_aload_n hx hb dX2_notes_42 rfl (lv_at hl 0 rfl) ?_
        refine lv_aload_n hx hb dX2_notes_43 rfl (lv_at hl 0 rfl) ?_
        refine va_get (D := G.1) (ci := 5) (v := .ref s0) (C := RX2) (T := TX2) (N := 11) hx hb hts igX2 hown hK hP 0 rfl rfl 1 (by decide) (hts _ q177) (fun _ h9 => h9) rfl dX2_notes_44 ?_
        refine lv_aload_n hx hb dX2_notes_47 rfl (lv_at hl 0 rfl) ?_
        refine va_get (D := G.1) (ci := 5) (v := .ref u0) (C := RX2) (T := TX2) (N := 11) hx hb hts igX2 hown hK hP 0 rfl rfl 2 (by decide) (hts _ q178) (fun _ h9 => h9) rfl dX2_notes_48 ?_
        refine lv_iload_n hx hb dX2_notes_51 rfl (lv_at hl 1 rfl) ?_
        refine lv_iload_n hx hb dX2_notes_52 rfl (lv_at hl 2 rfl) ?_
        have hPc := va_P.sub (ws' := [(x0, .inr (5, [.ref b0, .ref s0, .ref u0, .ref v0, .int tA, .int wP, .int nT, .int aK, .int lK, .int sW, .int rF])), (s0, .inr (4, [.ref b0, .ref s1, .ref s2, .long op, .int re])), (s1, .inl (G.2 1, 384, .inr (.inl dk))), (s2, .inl (G.2 1, 40, .inr (.inl wg))), (u0, .inr (4, [.ref b0, .ref u1, .ref u2, .long uo, .int ur])), (u1, .inl (G.2 1, 384, .inr (.inl uk))), (u2, .inl (G.2 1, 40, .inr (.inl uw))), (b0, .inr (3, [.ref b1, .ref b2, .ref b3, .ref b4, .ref b5, .ref b6, .int bn])), (b1, .inl (G.2 0, 40, .inl kf)), (b2, .inl (G.2 0, 40, .inl ff)), (b3, .inl (G.2 0, 40, .inl sf)), (b4, .inl (G.2 0, 40, .inl df)), (b5, .inl (G.2 1, 40, .inr (.inl pf))), (b6, .inl (G.2 1, 6, .inr (.inl gf)))]) hP [0, 1, 2, 3, 4, 5, 6, 10, 11, 12, 13, 14, 15, 16] rfl
        have hDc := hD.sub (ws' := [(x0, .inr (5, [.ref b0, .ref s0, .ref u0, .ref v0, .int tA, .int wP, .int nT, .int aK, .int lK, .int sW, .int rF])), (s0, .inr (4, [.ref b0, .ref s1, .ref s2, .long op, .int re])), (s1, .inl (G.2 1, 384, .inr (.inl dk))), (s2, .inl (G.2 1, 40, .inr (.inl wg))), (u0, .inr (4, [.ref b0, .ref u1, .ref u2, .long uo, .int ur])), (u1, .inl (G.2 1, 384, .inr (.inl uk))), (u2, .inl (G.2 1, 40, .inr (.inl uw))), (b0, .inr (3, [.ref b1, .ref b2, .ref b3, .ref b4, .ref b5, .ref b6, .int bn])), (b1, .inl (G.2 0, 40, .inl kf)), (b2, .inl (G.2 0, 40, .inl ff)), (b3, .inl (G.2 0, 40, .inl sf)), (b4, .inl (G.2 0, 40, .inl df)), (b5, .inl (G.2 1, 40, .inr (.inl pf))), (b6, .inl (G.2 1, 6, .inr (.inl gf)))]) [0, 1, 2, 3, 4, 5, 6, 10, 11, 12, 13, 14, 15, 16] (by decide) rfl
        have hFc := va_free (wc := [(x0, .inr (5, [.ref b0, .ref s0, .ref u0, .ref v0, .int tA, .int wP, .int nT, .int aK, .int lK, .int sW, .int rF])), (s0, .inr (4, [.ref b0, .ref s1, .ref s2, .long op, .int re])), (s1, .inl (G.2 1, 384, .inr (.inl dk))), (s2, .inl (G.2 1, 40, .inr (.inl wg))), (u0, .inr (4, [.ref b0, .ref u1, .ref u2, .long uo, .int ur])), (u1, .inl (G.2 1, 384, .inr (.inl uk))), (u2, .inl (G.2 1, 40, .inr (.inl uw))), (b0, .inr (3, [.ref b1, .ref b2, .ref b3, .ref b4, .ref b5, .ref b6, .int bn])), (b1, .inl (G.2 0, 40, .inl kf)), (b2, .inl (G.2 0, 40, .inl ff)), (b3, .inl (G.2 0, 40, .inl sf)), (b4, .inl (G.2 0, 40, .inl df)), (b5, .inl (G.2 1, 40, .inr (.inl pf))), (b6, .inl (G.2 1, 6, .inr (.inl gf)))]) hD hS hA [0, 1, 2, 3, 4, 5, 6, 10, 11, 12, 13, 14, 15, 16] rfl
        have hZc := (hZ.kept hS.2.1).narrow hFc
        refine va_calli (va_runV (C := RX2) (As := [.ref s0, .ref u0, .int p1, .int p2]) (rest := []) ⟨hx, hb, hml, hown, hts⟩ (kX2_oneNoteDoes l G x0 s0 u0 v0 s0 s1 s2 u0 u1 u2 b0 b1 b2 b3 b4 b5 b6 dk wg op re uk uw uo ur kf ff sf df pf gf bn tA wP nT aK lK sW rF p1 p2 _ h) (cwV 4 hts (gdV q450 q452 qs8 q1 q453) rfl rfl rfl (by decide +kernel) ⟨Nat.le_of_ble_eq_true rfl, Nat.le_of_ble_eq_true rfl⟩) (preVwz hPc hKK hDc hZc (va_recv hK hPc (ci := 5) (q0 := 0) rfl rfl)) rfl rfl hl.1 rfl (lv_room (Nat.le_of_ble_eq_true rfl)) dX2_notes_53 ⟨Nat.zero_le _, Nat.zero_le _⟩) hS (fun q _ h => hFc q h) hFc (fun r_4 u t H1 locs ht hvm h hB hz1 hk1 hS => ?_)
        obtain ⟨uk_1, uw_1, uo_1, ur_1⟩ := u
        obtain ⟨hP1, hD1⟩ := hB
        rw [ht] at hP1
        obtain ⟨hP, hD⟩ := va_join (wr := [(v0, .inr (4, [.ref b0, .ref v1, .ref v2, .long vo, .int vr])), (v1, .inl (G.2 1, 384, .inr (.inl vk))), (v2, .inl (G.2 1, 40, .inr (.inl vw)))]) (w1 := [(x0, .inr (5, [.ref b0, .ref s0, .ref u0, .ref v0, .int tA, .int wP, .int nT, .int aK, .int lK, .int sW, .int rF])), (s0, .inr (4, [.ref b0, .ref s1, .ref s2, .long op, .int re])), (s1, .inl (G.2 1, 384, .inr (.inl dk))), (s2, .inl (G.2 1, 40, .inr (.inl wg))), (u0, .inr (4, [.ref b0, .ref u1, .ref u2, .long uo_1, .int ur_1])), (u1, .inl (G.2 1, 384, .inr (.inl uk_1))), (u2, .inl (G.2 1, 40, .inr (.inl uw_1))), (b0, .inr (3, [.ref b1, .ref b2, .ref b3, .ref b4, .ref b5, .ref b6, .int bn])), (b1, .inl (G.2 0, 40, .inl kf)), (b2, .inl (G.2 0, 40, .inl ff)), (b3, .inl (G.2 0, 40, .inl sf)), (b4, .inl (G.2 0, 40, .inl df)), (b5, .inl (G.2 1, 40, .inr (.inl pf))), (b6, .inl (G.2 1, 6, .inr (.inl gf)))]) hP hD [0, 1, 2, 3, 4, 5, 6, 10, 11, 12, 13, 14, 15, 16] [7, 8, 9] rfl rfl (by decide) (by decide) hk1 hFc hP1 hD1
        generalize H1 = H at hP hS ⊢
        have hP : PP G [(x0, .inr (5, [.ref b0, .ref s0, .ref u0, .ref v0, .int tA, .int wP, .int nT, .int aK, .int lK, .int sW, .int rF])), (s0, .inr (4, [.ref b0, .ref s1, .ref s2, .long op, .int re])), (s1, .inl (G.2 1, 384, .inr (.inl dk))), (s2, .inl (G.2 1, 40, .inr (.inl wg))), (u0, .inr (4, [.ref b0, .ref u1, .ref u2, .long uo_1, .int ur_1])), (u1, .inl (G.2 1, 384, .inr (.inl uk_1))), (u2, .inl (G.2 1, 40, .inr (.inl uw_1))), (v0, .inr (4, [.ref b0, .ref v1, .ref v2, .long vo, .int vr])), (v1, .inl (G.2 1, 384, .inr (.inl vk))), (v2, .inl (G.2 1, 40, .inr (.inl vw))), (b0, .inr (3, [.ref b1, .ref b2, .ref b3, .ref b4, .ref b5, .ref b6, .int bn])), (b1, .inl (G.2 0, 40, .inl kf)), (b2, .inl (G.2 0, 40, .inl ff)), (b3, .inl (G.2 0, 40, .inl sf)), (b4, .inl (G.2 0, 40, .inl df)), (b5, .inl (G.2 1, 40, .inr (.inl pf))), (b6, .inl (G.2 1, 6, .inr (.inl gf)))] H := va_P.sub hP [3, 4, 5, 6, 7, 8, 9, 0, 1, 2, 10, 11, 12, 13, 14, 15, 16] rfl
        have hD : va_D A [(x0, .inr (5, [.ref b0, .ref s0, .ref u0, .ref v0, .int tA, .int wP, .int nT, .int aK, .int lK, .int sW, .int rF])), (s0, .inr (4, [.ref b0, .ref s1, .ref s2, .long op, .int re])), (s1, .inl (G.2 1, 384, .inr (.inl dk))), (s2, .inl (G.2 1, 40, .inr (.inl wg))), (u0, .inr (4, [.ref b0, .ref u1, .ref u2, .long uo_1, .int ur_1])), (u1, .inl (G.2 1, 384, .inr (.inl uk_1))), (u2, .inl (G.2 1, 40, .inr (.inl uw_1))), (v0, .inr (4, [.ref b0, .ref v1, .ref v2, .long vo, .int vr])), (v1, .inl (G.2 1, 384, .inr (.inl vk))), (v2, .inl (G.2 1, 40, .inr (.inl vw))), (b0, .inr (3, [.ref b1, .ref b2, .ref b3, .ref b4, .ref b5, .ref b6, .int bn])), (b1, .inl (G.2 0, 40, .inl kf)), (b2, .inl (G.2 0, 40, .inl ff)), (b3, .inl (G.2 0, 40, .inl sf)), (b4, .inl (G.2 0, 40, .inl df)), (b5, .inl (G.2 1, 40, .inr (.inl pf))), (b6, .inl (G.2 1, 6, .inr (.inl gf)))] := hD.sub [3, 4, 5, 6, 7, 8, 9, 0, 1, 2, 10, 11, 12, 13, 14, 15, 16] (by decide) rfl
        refine lv_if_eq (tgt := 61) hx hb dX2_notes_56 (by decide) (fun hc => ?_) (fun hc => ?_)
        · have h := h.1 hc
          refine lv_iconst (v := 0) hx hb dX2_notes_61 (by decide) ?_
          refine lv_istore_n hx hb dX2_notes_62 rfl hl (Nat.le_of_ble_eq_true rfl) rfl (fun ls hl => ?_)
          have hl : lv_has ls 5 [(3, .int (0 : Int32)), (0, .ref x0), (1, .int p1), (2, .int p2)] := hl
          have hl := lv_sub (l' := [(0, .ref x0), (1, .int p1), (2, .int p2), (3, .int (0 : Int32))]) hl [1, 2, 3, 0] rfl
          obtain ⟨nF, h⟩ := h
          refine loop63 _ trivial ?_ nF (0 : Int32) uk_1 uw_1 uo_1 ur_1 vk vw vo vr _ _ _ hl hP hD hS h
          · intro i3 uk' uw' uo' ur' vk' vw' vo' vr' ls H locs hl hP hD hS h
            refine lv_iconst (v := (-1)) hx hb dX2_notes_163 (by decide) ?_
            subst hQC; exact W.iret (v := (-1 : Int32)) hx hb hr (fun t ht hW => ⟨⟨_, (uk', uw', uo', ur', vk', vw', vo', vr'), rfl, h, by rw [ht]; exact hP, hD⟩, hS.F ht⟩) hS.2.2 dX2_notes_164
        · have h := h.2 hc
          refine lv_iconst (v := 1) hx hb dX2_notes_59 (by decide) ?_
          subst hQC; exact W.iret (v := (1 : Int32)) hx hb hr (fun t ht hW => ⟨⟨_, (uk_1, uw_1, uo_1, ur_1, vk, vw, vo, vr), rfl, h, by rw [ht]; exact hP, hD⟩, hS.F ht⟩) hS.2.2 dX2_notes_60
      · have h := h.2 hc
        refine lv_iconst (v := 0) hx hb dX2_notes_40 (by decide) ?_
        subst hQC; exact W.iret (v := (0 : Int32)) hx hb hr (fun t ht hW => ⟨⟨_, (uk, uw, uo, ur, vk, vw, vo, vr), rfl, h, by rw [ht]; exact hP, hD⟩, hS.F ht⟩) hS.2.2 dX2_notes_41
    · have h := h.2 hc
      exact False.elim h
theorem dX2_rounds_0 : decode cX2_rounds 0 = .ok (.aload_n 0, 1) := by decide +kernel
theorem dX2_rounds_1 : decode cX2_rounds 1 = .ok (.getfield 10, 3) := by decide +kernel
theorem dX2_rounds_4 : decode cX2_rounds 4 = .ok (.iload_n 2, 1) := by decide +kernel
theorem dX2_rounds_5 : decode cX2_rounds 5 = .ok (.invokevirtual 116, 3) := by decide +kernel
theorem dX2_rounds_8 : decode cX2_rounds 8 = .ok (.ifCond .ne 13, 3) := by decide +kernel
theorem dX2_rounds_11 : decode cX2_rounds 11 = .ok (.new 83, 3) := by decide +kernel
theorem dX2_rounds_14 : decode cX2_rounds 14 = .ok (.dup, 1) := by decide +kernel
theorem dX2_rounds_15 : decode cX2_rounds 15 = .ok (.ldc 119, 2) := by decide +kernel
theorem dX2_rounds_17 : decode cX2_rounds 17 = .ok (.invokespecial 87, 3) := by decide +kernel
theorem dX2_rounds_20 : decode cX2_rounds 20 = .ok (.athrow, 1) := by decide +kernel
theorem dX2_rounds_21 : decode cX2_rounds 21 = .ok (.iload_n 1, 1) := by decide +kernel
theorem dX2_rounds_22 : decode cX2_rounds 22 = .ok (.invokestatic 155, 3) := by decide +kernel
theorem dX2_rounds_25 : decode cX2_rounds 25 = .ok (.ifCond .ne 13, 3) := by decide +kernel
theorem dX2_rounds_28 : decode cX2_rounds 28 = .ok (.new 39, 3) := by decide +kernel
theorem dX2_rounds_31 : decode cX2_rounds 31 = .ok (.dup, 1) := by decide +kernel
theorem dX2_rounds_32 : decode cX2_rounds 32 = .ok (.ldc 158, 2) := by decide +kernel
theorem dX2_rounds_34 : decode cX2_rounds 34 = .ok (.invokespecial 43, 3) := by decide +kernel
theorem dX2_rounds_37 : decode cX2_rounds 37 = .ok (.athrow, 1) := by decide +kernel
theorem dX2_rounds_38 : decode cX2_rounds 38 = .ok (.aload_n 0, 1) := by decide +kernel
theorem dX2_rounds_39 : decode cX2_rounds 39 = .ok (.getfield 25, 3) := by decide +kernel
theorem dX2_rounds_42 : decode cX2_rounds 42 = .ok (.aload_n 0, 1) := by decide +kernel
theorem dX2_rounds_43 : decode cX2_rounds 43 = .ok (.getfield 21, 3) := by decide +kernel
theorem dX2_rounds_46 : decode cX2_rounds 46 = .ok (.invokevirtual 257, 3) := by decide +kernel
theorem dX2_rounds_49 : decode cX2_rounds 49 = .ok (.iconst 0, 1) := by decide +kernel
theorem dX2_rounds_50 : decode cX2_rounds 50 = .ok (.istore_n 3, 1) := by decide +kernel
theorem dX2_rounds_51 : decode cX2_rounds 51 = .ok (.iload_n 3, 1) := by decide +kernel
theorem dX2_rounds_52 : decode cX2_rounds 52 = .ok (.bipush 64, 2) := by decide +kernel
theorem dX2_rounds_54 : decode cX2_rounds 54 = .ok (.if_icmp .ge 79, 3) := by decide +kernel
theorem dX2_rounds_57 : decode cX2_rounds 57 = .ok (.aload_n 0, 1) := by decide +kernel
theorem dX2_rounds_58 : decode cX2_rounds 58 = .ok (.getfield 25, 3) := by decide +kernel
theorem dX2_rounds_61 : decode cX2_rounds 61 = .ok (.iload_n 2, 1) := by decide +kernel
theorem dX2_rounds_62 : decode cX2_rounds 62 = .ok (.invokevirtual 163, 3) := by decide +kernel
theorem dX2_rounds_65 : decode cX2_rounds 65 = .ok (.iload_n 1, 1) := by decide +kernel
theorem dX2_rounds_66 : decode cX2_rounds 66 = .ok (.iand, 1) := by decide +kernel
theorem dX2_rounds_67 : decode cX2_rounds 67 = .ok (.ifCond .eq 5, 3) := by decide +kernel
theorem dX2_rounds_70 : decode cX2_rounds 70 = .ok (.iload_n 3, 1) := by decide +kernel
theorem dX2_rounds_71 : decode cX2_rounds 71 = .ok (.ireturn, 1) := by decide +kernel
theorem dX2_rounds_72 : decode cX2_rounds 72 = .ok (.aload_n 0, 1) := by decide +kernel
theorem dX2_rounds_73 : decode cX2_rounds 73 = .ok (.getfield 25, 3) := by decide +kernel
theorem dX2_rounds_76 : decode cX2_rounds 76 = .ok (.getfield 135, 3) := by decide +kernel
theorem dX2_rounds_79 : decode cX2_rounds 79 = .ok (.lstore 4, 2) := by decide +kernel
theorem dX2_rounds_81 : decode cX2_rounds 81 = .ok (.aload_n 0, 1) := by decide +kernel
theorem dX2_rounds_82 : decode cX2_rounds 82 = .ok (.getfield 25, 3) := by decide +kernel
theorem dX2_rounds_85 : decode cX2_rounds 85 = .ok (.aload_n 0, 1) := by decide +kernel
theorem dX2_rounds_86 : decode cX2_rounds 86 = .ok (.getfield 25, 3) := by decide +kernel
theorem dX2_rounds_89 : decode cX2_rounds 89 = .ok (.iload_n 1, 1) := by decide +kernel
theorem dX2_rounds_90 : decode cX2_rounds 90 = .ok (.iload_n 2, 1) := by decide +kernel
theorem dX2_rounds_91 : decode cX2_rounds 91 = .ok (.invokevirtual 167, 3) := by decide +kernel
theorem dX2_rounds_94 : decode cX2_rounds 94 = .ok (.invokevirtual 132, 3) := by decide +kernel
theorem dX2_rounds_97 : decode cX2_rounds 97 = .ok (.aload_n 0, 1) := by decide +kernel
theorem dX2_rounds_98 : decode cX2_rounds 98 = .ok (.getfield 25, 3) := by decide +kernel
theorem dX2_rounds_101 : decode cX2_rounds 101 = .ok (.getfield 135, 3) := by decide +kernel
theorem dX2_rounds_104 : decode cX2_rounds 104 = .ok (.lload 4, 2) := by decide +kernel
theorem dX2_rounds_106 : decode cX2_rounds 106 = .ok (.lcmp, 1) := by decide +kernel
theorem dX2_rounds_107 : decode cX2_rounds 107 = .ok (.ifCond .ne 5, 3) := by decide +kernel
theorem dX2_rounds_110 : decode cX2_rounds 110 = .ok (.iconst (-1), 1) := by decide +kernel
theorem dX2_rounds_111 : decode cX2_rounds 111 = .ok (.ireturn, 1) := by decide +kernel
theorem dX2_rounds_112 : decode cX2_rounds 112 = .ok (.aload_n 0, 1) := by decide +kernel
theorem dX2_rounds_113 : decode cX2_rounds 113 = .ok (.getfield 25, 3) := by decide +kernel
theorem dX2_rounds_116 : decode cX2_rounds 116 = .ok (.aload_n 0, 1) := by decide +kernel
theorem dX2_rounds_117 : decode cX2_rounds 117 = .ok (.getfield 10, 3) := by decide +kernel
theorem dX2_rounds_120 : decode cX2_rounds 120 = .ok (.iload_n 2, 1) := by decide +kernel
theorem dX2_rounds_121 : decode cX2_rounds 121 = .ok (.invokevirtual 264, 3) := by decide +kernel
theorem dX2_rounds_124 : decode cX2_rounds 124 = .ok (.invokevirtual 73, 3) := by decide +kernel
theorem dX2_rounds_127 : decode cX2_rounds 127 = .ok (.iinc 3 1, 3) := by decide +kernel
theorem dX2_rounds_130 : decode cX2_rounds 130 = .ok (.goto (-79), 3) := by decide +kernel
theorem dX2_rounds_133 : decode cX2_rounds 133 = .ok (.iconst (-1), 1) := by decide +kernel
theorem dX2_rounds_134 : decode cX2_rounds 134 = .ok (.ireturn, 1) := by decide +kernel
def wxX2_rounds_L51 (post : Int32 → (Nat → Int64) × (Nat → Int64) × Int64 × Int32 → Prop) (postx : String → Prop) (K133 : Int32 → (Nat → Int64) → Int64 → Prop) (kf : Nat → Int32) (ff : Nat → Int32) (sf : Nat → Int32) (pf : Nat → Int64) (bn : Int32) (p1 : Int32) (p2 : Int32) (dk_1 : Nat → Int64) (re_1 : Int32) : Nat → Int32 → (Nat → Int64) → Int64 → Prop
  | 0, _, _, _ => False
  | n+1, i3, uw', uo' =>
    (((64 : Int32) ≤ i3) →
      K133 i3 uw' uo'
    ) ∧ (¬ ((64 : Int32) ≤ i3) →
      wX1_knowersOf (fun r_4 : Int32 =>
        (((r_4 &&& p1) = 0) →
          wX1_answeringAlike (fun r_5 : Int64 =>
            wX1_keepOnly (fun (op_2 : Int64) =>
              ((¬ (lg_cmp op_2 uo') = 0) →
                wX0_partsOf (fun r_7 : Int64 =>
                  wX1_weigh (fun (wg_2 : Nat → Int64) =>
                    wxX2_rounds_L51 post postx K133 kf ff sf pf bn p1 p2 dk_1 re_1 n (i3 + 1) wg_2 op_2
                    ) dk_1 uw' op_2 kf ff sf bn r_7
                  ) pf bn p2
              ) ∧ (((lg_cmp op_2 uo') = 0) →
                post (-1 : Int32) (dk_1, uw', op_2, re_1)
              )
              ) uo' r_5
            ) dk_1 uw' uo' re_1 bn p1 p2
        ) ∧ (¬ ((r_4 &&& p1) = 0) →
          post i3 (dk_1, uw', uo', re_1)
        )
        ) dk_1 uw' uo' re_1 bn p2
    )
def wxX2_rounds (post : Int32 → (Nat → Int64) × (Nat → Int64) × Int64 × Int32 → Prop) (postx : String → Prop) (dk : Nat → Int64) (wg : Nat → Int64) (op : Int64) (re : Int32) (uk : Nat → Int64) (uw : Nat → Int64) (uo : Int64) (ur : Int32) (kf : Nat → Int32) (ff : Nat → Int32) (sf : Nat → Int32) (pf : Nat → Int64) (bn : Int32) (p1 : Int32) (p2 : Int32) : Prop :=
  wX0_holds (fun r_1 : Int32 =>
    ((¬ r_1 = 0) →
      wX2_isSetOfGuards (fun r_2 : Int32 =>
        ((¬ r_2 = 0) →
          wX1_copyFrom (fun (z_1 : (Nat → Int64) × (Nat → Int64) × Int64 × Int32) =>
            ∃ nF, wxX2_rounds_L51 post postx
              (fun i3 uw' uo' =>
                post (-1 : Int32) (z_1.1, uw', uo', z_1.2.2.2)
              )
              kf ff sf pf bn p1 p2 z_1.1 z_1.2.2.2 nF (0 : Int32) z_1.2.1 z_1.2.2.1
            ) uk uw uo ur dk wg op re
        ) ∧ ((r_2 = 0) →
          postx "java/lang/IllegalArgumentException"
        )
        ) p1
    ) ∧ ((r_1 = 0) →
      postx "java/lang/IndexOutOfBoundsException"
    )
    ) bn p2
abbrev wl_xX2_rounds : List Cond := .code yX2_rounds cX2_rounds 6 (some .int) :: lwg
abbrev rm_xX2_rounds : Room := { frames := 6, cells := 1, slots := 6, locals := 128 }
set_option maxHeartbeats 4000000 in
set_option maxRecDepth 100000 in
theorem kxX2_rounds {post : Int32 → (Nat → Int64) × (Nat → Int64) × Int64 × Int32 → Prop} {postx : String → Prop} (l : Launch) (hfl : l.stackTraces = false) (G : GT) (x0 : Nat) (s0 : Nat) (s1 : Nat) (s2 : Nat) (u0 : Nat) (u1 : Nat) (u2 : Nat) (v0 : Nat) (v1 : Nat) (v2 : Nat) (b0 : Nat) (b1 : Nat) (b2 : Nat) (b3 : Nat) (b4 : Nat) (b5 : Nat) (b6 : Nat) (tA : Int32) (wP : Int32) (nT : Int32) (aK : Int32) (lK : Int32) (sW : Int32) (rF : Int32) (dk : Nat → Int64) (wg : Nat → Int64) (op : Int64) (re : Int32) (uk : Nat → Int64) (uw : Nat → Int64) (uo : Int64) (ur : Int32) (vk : Nat → Int64) (vw : Nat → Int64) (vo : Int64) (vr : Int32) (kf : Nat → Int32) (ff : Nat → Int32) (sf : Nat → Int32) (df : Nat → Int32) (pf : Nat → Int64) (gf : Nat → Int64) (bn : Int32) (p1 : Int32) (p2 : Int32) (sz : Nat) (h : wxX2_rounds post postx dk wg op re uk uw uo ur kf ff sf pf bn p1 p2) : vx_Met l yX2_rounds wl_xX2_rounds rm_xX2_rounds (va_Pc [.ref x0, .int p1, .int p2] (fun U => U.heap.size = sz ∧ PP G [(x0, .inr (5, [.ref b0, .ref s0, .ref u0, .ref v0, .int tA, .int wP, .int nT, .int aK, .int lK, .int sW, .int rF])), (s0, .inr (4, [.ref b0, .ref s1, .ref s2, .long op, .int re])), (s1, .inl (G.2 1, 384, .inr (.inl dk))), (s2, .inl (G.2 1, 40, .inr (.inl wg))), (u0, .inr (4, [.ref b0, .ref u1, .ref u2, .long uo, .int ur])), (u1, .inl (G.2 1, 384, .inr (.inl uk))), (u2, .inl (G.2 1, 40, .inr (.inl uw))), (v0, .inr (4, [.ref b0, .ref v1, .ref v2, .long vo, .int vr])), (v1, .inl (G.2 1, 384, .inr (.inl vk))), (v2, .inl (G.2 1, 40, .inr (.inl vw))), (b0, .inr (3, [.ref b1, .ref b2, .ref b3, .ref b4, .ref b5, .ref b6, .int bn])), (b1, .inl (G.2 0, 40, .inl kf)), (b2, .inl (G.2 0, 40, .inl ff)), (b3, .inl (G.2 0, 40, .inl sf)), (b4, .inl (G.2 0, 40, .inl df)), (b5, .inl (G.2 1, 40, .inr (.inl pf))), (b6, .inl (G.2 1, 6, .inr (.inl gf)))] U.heap ∧ KK G U ∧ va_D (fun _ => True) [(x0, .inr (5, [.ref b0, .ref s0, .ref u0, .ref v0, .int tA, .int wP, .int nT, .int aK, .int lK, .int sW, .int rF])), (s0, .inr (4, [.ref b0, .ref s1, .ref s2, .long op, .int re])), (s1, .inl (G.2 1, 384, .inr (.inl dk))), (s2, .inl (G.2 1, 40, .inr (.inl wg))), (u0, .inr (4, [.ref b0, .ref u1, .ref u2, .long uo, .int ur])), (u1, .inl (G.2 1, 384, .inr (.inl uk))), (u2, .inl (G.2 1, 40, .inr (.inl uw))), (v0, .inr (4, [.ref b0, .ref v1, .ref v2, .long vo, .int vr])), (v1, .inl (G.2 1, 384, .inr (.inl vk))), (v2, .inl (G.2 1, 40, .inr (.inl vw))), (b0, .inr (3, [.ref b1, .ref b2, .ref b3, .ref b4, .ref b5, .ref b6, .int bn])), (b1, .inl (G.2 0, 40, .inl kf)), (b2, .inl (G.2 0, 40, .inl ff)), (b3, .inl (G.2 0, 40, .inl sf)), (b4, .inl (G.2 0, 40, .inl df)), (b5, .inl (G.2 1, 40, .inr (.inl pf))), (b6, .inl (G.2 1, 6, .inr (.inl gf)))] ∧ ZZ (va_A [(x0, .inr (5, [.ref b0, .ref s0, .ref u0, .ref v0, .int tA, .int wP, .int nT, .int aK, .int lK, .int sW, .int rF])), (s0, .inr (4, [.ref b0, .ref s1, .ref s2, .long op, .int re])), (s1, .inl (G.2 1, 384, .inr (.inl dk))), (s2, .inl (G.2 1, 40, .inr (.inl wg))), (u0, .inr (4, [.ref b0, .ref u1, .ref u2, .long uo, .int ur])), (u1, .inl (G.2 1, 384, .inr (.inl uk))), (u2, .inl (G.2 1, 40, .inr (.inl uw))), (v0, .inr (4, [.ref b0, .ref v1, .ref v2, .long vo, .int vr])), (v1, .inl (G.2 1, 384, .inr (.inl vk))), (v2, .inl (G.2 1, 40, .inr (.inl vw))), (b0, .inr (3, [.ref b1, .ref b2, .ref b3, .ref b4, .ref b5, .ref b6, .int bn])), (b1, .inl (G.2 0, 40, .inl kf)), (b2, .inl (G.2 0, 40, .inl ff)), (b3, .inl (G.2 0, 40, .inl sf)), (b4, .inl (G.2 0, 40, .inl df)), (b5, .inl (G.2 1, 40, .inr (.inl pf))), (b6, .inl (G.2 1, 6, .inr (.inl gf)))] sz) U U.heap)) (va_Qi post (fun u t => PP G [(x0, .inr (5, [.ref b0, .ref s0, .ref u0, .ref v0, .int tA, .int wP, .int nT, .int aK, .int lK, .int sW, .int rF])), (s0, .inr (4, [.ref b0, .ref s1, .ref s2, .long op, .int re])), (s1, .inl (G.2 1, 384, .inr (.inl dk))), (s2, .inl (G.2 1, 40, .inr (.inl wg))), (u0, .inr (4, [.ref b0, .ref u1, .ref u2, .long (u.2.2.1), .int (u.2.2.2)])), (u1, .inl (G.2 1, 384, .inr (.inl (u.1)))), (u2, .inl (G.2 1, 40, .inr (.inl (u.2.1)))), (v0, .inr (4, [.ref b0, .ref v1, .ref v2, .long vo, .int vr])), (v1, .inl (G.2 1, 384, .inr (.inl vk))), (v2, .inl (G.2 1, 40, .inr (.inl vw))), (b0, .inr (3, [.ref b1, .ref b2, .ref b3, .ref b4, .ref b5, .ref b6, .int bn])), (b1, .inl (G.2 0, 40, .inl kf)), (b2, .inl (G.2 0, 40, .inl ff)), (b3, .inl (G.2 0, 40, .inl sf)), (b4, .inl (G.2 0, 40, .inl df)), (b5, .inl (G.2 1, 40, .inr (.inl pf))), (b6, .inl (G.2 1, 6, .inr (.inl gf)))] t.heap ∧ va_D (va_A [(x0, .inr (5, [.ref b0, .ref s0, .ref u0, .ref v0, .int tA, .int wP, .int nT, .int aK, .int lK, .int sW, .int rF])), (s0, .inr (4, [.ref b0, .ref s1, .ref s2, .long op, .int re])), (s1, .inl (G.2 1, 384, .inr (.inl dk))), (s2, .inl (G.2 1, 40, .inr (.inl wg))), (u0, .inr (4, [.ref b0, .ref u1, .ref u2, .long uo, .int ur])), (u1, .inl (G.2 1, 384, .inr (.inl uk))), (u2, .inl (G.2 1, 40, .inr (.inl uw))), (v0, .inr (4, [.ref b0, .ref v1, .ref v2, .long vo, .int vr])), (v1, .inl (G.2 1, 384, .inr (.inl vk))), (v2, .inl (G.2 1, 40, .inr (.inl vw))), (b0, .inr (3, [.ref b1, .ref b2, .ref b3, .ref b4, .ref b5, .ref b6, .int bn])), (b1, .inl (G.2 0, 40, .inl kf)), (b2, .inl (G.2 0, 40, .inl ff)), (b3, .inl (G.2 0, 40, .inl sf)), (b4, .inl (G.2 0, 40, .inl df)), (b5, .inl (G.2 1, 40, .inr (.inl pf))), (b6, .inl (G.2 1, 6, .inr (.inl gf)))] sz) [(x0, .inr (5, [.ref b0, .ref s0, .ref u0, .ref v0, .int tA, .int wP, .int nT, .int aK, .int lK, .int sW, .int rF])), (s0, .inr (4, [.ref b0, .ref s1, .ref s2, .long op, .int re])), (s1, .inl (G.2 1, 384, .inr (.inl dk))), (s2, .inl (G.2 1, 40, .inr (.inl wg))), (u0, .inr (4, [.ref b0, .ref u1, .ref u2, .long (u.2.2.1), .int (u.2.2.2)])), (u1, .inl (G.2 1, 384, .inr (.inl (u.1)))), (u2, .inl (G.2 1, 40, .inr (.inl (u.2.1)))), (v0, .inr (4, [.ref b0, .ref v1, .ref v2, .long vo, .int vr])), (v1, .inl (G.2 1, 384, .inr (.inl vk))), (v2, .inl (G.2 1, 40, .inr (.inl vw))), (b0, .inr (3, [.ref b1, .ref b2, .ref b3, .ref b4, .ref b5, .ref b6, .int bn])), (b1, .inl (G.2 0, 40, .inl kf)), (b2, .inl (G.2 0, 40, .inl ff)), (b3, .inl (G.2 0, 40, .inl sf)), (b4, .inl (G.2 0, 40, .inl df)), (b5, .inl (G.2 1, 40, .inr (.inl pf))), (b6, .inl (G.2 1, 6, .inr (.inl gf)))]) (va_A [(x0, .inr (5, [.ref b0, .ref s0, .ref u0, .ref v0, .int tA, .int wP, .int nT, .int aK, .int lK, .int sW, .int rF])), (s0, .inr (4, [.ref b0, .ref s1, .ref s2, .long op, .int re])), (s1, .inl (G.2 1, 384, .inr (.inl dk))), (s2, .inl (G.2 1, 40, .inr (.inl wg))), (u0, .inr (4, [.ref b0, .ref u1, .ref u2, .long uo, .int ur])), (u1, .inl (G.2 1, 384, .inr (.inl uk))), (u2, .inl (G.2 1, 40, .inr (.inl uw))), (v0, .inr (4, [.ref b0, .ref v1, .ref v2, .long vo, .int vr])), (v1, .inl (G.2 1, 384, .inr (.inl vk))), (v2, .inl (G.2 1, 40, .inr (.inl vw))), (b0, .inr (3, [.ref b1, .ref b2, .ref b3, .ref b4, .ref b5, .ref b6, .int bn])), (b1, .inl (G.2 0, 40, .inl kf)), (b2, .inl (G.2 0, 40, .inl ff)), (b3, .inl (G.2 0, 40, .inl sf)), (b4, .inl (G.2 0, 40, .inl df)), (b5, .inl (G.2 1, 40, .inr (.inl pf))), (b6, .inl (G.2 1, 6, .inr (.inl gf)))] sz)) (vx_X (fun _ : Unit => True) (fun E _ t => PP G [(x0, .inr (5, [.ref b0, .ref s0, .ref u0, .ref v0, .int tA, .int wP, .int nT, .int aK, .int lK, .int sW, .int rF])), (s0, .inr (4, [.ref b0, .ref s1, .ref s2, .long op, .int re])), (s1, .inl (G.2 1, 384, .inr (.inl dk))), (s2, .inl (G.2 1, 40, .inr (.inl wg))), (u0, .inr (4, [.ref b0, .ref u1, .ref u2, .long uo, .int ur])), (u1, .inl (G.2 1, 384, .inr (.inl uk))), (u2, .inl (G.2 1, 40, .inr (.inl uw))), (v0, .inr (4, [.ref b0, .ref v1, .ref v2, .long vo, .int vr])), (v1, .inl (G.2 1, 384, .inr (.inl vk))), (v2, .inl (G.2 1, 40, .inr (.inl vw))), (b0, .inr (3, [.ref b1, .ref b2, .ref b3, .ref b4, .ref b5, .ref b6, .int bn])), (b1, .inl (G.2 0, 40, .inl kf)), (b2, .inl (G.2 0, 40, .inl ff)), (b3, .inl (G.2 0, 40, .inl sf)), (b4, .inl (G.2 0, 40, .inl df)), (b5, .inl (G.2 1, 40, .inr (.inl pf))), (b6, .inl (G.2 1, 6, .inr (.inl gf)))] t.heap ∧ va_D (va_A [(x0, .inr (5, [.ref b0, .ref s0, .ref u0, .ref v0, .int tA, .int wP, .int nT, .int aK, .int lK, .int sW, .int rF])), (s0, .inr (4, [.ref b0, .ref s1, .ref s2, .long op, .int re])), (s1, .inl (G.2 1, 384, .inr (.inl dk))), (s2, .inl (G.2 1, 40, .inr (.inl wg))), (u0, .inr (4, [.ref b0, .ref u1, .ref u2, .long uo, .int ur])), (u1, .inl (G.2 1, 384, .inr (.inl uk))), (u2, .inl (G.2 1, 40, .inr (.inl uw))), (v0, .inr (4, [.ref b0, .ref v1, .ref v2, .long vo, .int vr])), (v1, .inl (G.2 1, 384, .inr (.inl vk))), (v2, .inl (G.2 1, 40, .inr (.inl vw))), (b0, .inr (3, [.ref b1, .ref b2, .ref b3, .ref b4, .ref b5, .ref b6, .int bn])), (b1, .inl (G.2 0, 40, .inl kf)), (b2, .inl (G.2 0, 40, .inl ff)), (b3, .inl (G.2 0, 40, .inl sf)), (b4, .inl (G.2 0, 40, .inl df)), (b5, .inl (G.2 1, 40, .inr (.inl pf))), (b6, .inl (G.2 1, 6, .inr (.inl gf)))] sz) [(x0, .inr (5, [.ref b0, .ref s0, .ref u0, .ref v0, .int tA, .int wP, .int nT, .int aK, .int lK, .int sW, .int rF])), (s0, .inr (4, [.ref b0, .ref s1, .ref s2, .long op, .int re])), (s1, .inl (G.2 1, 384, .inr (.inl dk))), (s2, .inl (G.2 1, 40, .inr (.inl wg))), (u0, .inr (4, [.ref b0, .ref u1, .ref u2, .long uo, .int ur])), (u1, .inl (G.2 1, 384, .inr (.inl uk))), (u2, .inl (G.2 1, 40, .inr (.inl uw))), (v0, .inr (4, [.ref b0, .ref v1, .ref v2, .long vo, .int vr])), (v1, .inl (G.2 1, 384, .inr (.inl vk))), (v2, .inl (G.2 1, 40, .inr (.inl vw))), (b0, .inr (3, [.ref b1, .ref b2, .ref b3, .ref b4, .ref b5, .ref b6, .int bn])), (b1, .inl (G.2 0, 40, .inl kf)), (b2, .inl (G.2 0, 40, .inl ff)), (b3, .inl (G.2 0, 40, .inl sf)), (b4, .inl (G.2 0, 40, .inl df)), (b5, .inl (G.2 1, 40, .inr (.inl pf))), (b6, .inl (G.2 1, 6, .inr (.inl gf)))] ∧ postx E) (va_A [(x0, .inr (5, [.ref b0, .ref s0, .ref u0, .ref v0, .int tA, .int wP, .int nT, .int aK, .int lK, .int sW, .int rF])), (s0, .inr (4, [.ref b0, .ref s1, .ref s2, .long op, .int re])), (s1, .inl (G.2 1, 384, .inr (.inl dk))), (s2, .inl (G.2 1, 40, .inr (.inl wg))), (u0, .inr (4, [.ref b0, .ref u1, .ref u2, .long uo, .int ur])), (u1, .inl (G.2 1, 384, .inr (.inl uk))), (u2, .inl (G.2 1, 40, .inr (.inl uw))), (v0, .inr (4, [.ref b0, .ref v1, .ref v2, .long vo, .int vr])), (v1, .inl (G.2 1, 384, .inr (.inl vk))), (v2, .inl (G.2 1, 40, .inr (.inl vw))), (b0, .inr (3, [.ref b1, .ref b2, .ref b3, .ref b4, .ref b5, .ref b6, .int bn])), (b1, .inl (G.2 0, 40, .inl kf)), (b2, .inl (G.2 0, 40, .inl ff)), (b3, .inl (G.2 0, 40, .inl sf)), (b4, .inl (G.2 0, 40, .inl df)), (b5, .inl (G.2 1, 40, .inr (.inl pf))), (b6, .inl (G.2 1, 6, .inr (.inl gf)))] sz)) 1 6 (va_A [(x0, .inr (5, [.ref b0, .ref s0, .ref u0, .ref v0, .int tA, .int wP, .int nT, .int aK, .int lK, .int sW, .int rF])), (s0, .inr (4, [.ref b0, .ref s1, .ref s2, .long op, .int re])), (s1, .inl (G.2 1, 384, .inr (.inl dk))), (s2, .inl (G.2 1, 40, .inr (.inl wg))), (u0, .inr (4, [.ref b0, .ref u1, .ref u2, .long uo, .int ur])), (u1, .inl (G.2 1, 384, .inr (.inl uk))), (u2, .inl (G.2 1, 40, .inr (.inl uw))), (v0, .inr (4, [.ref b0, .ref v1, .ref v2, .long vo, .int vr])), (v1, .inl (G.2 1, 384, .inr (.inl vk))), (v2, .inl (G.2 1, 40, .inr (.inl vw))), (b0, .inr (3, [.ref b1, .ref b2, .ref b3, .ref b4, .ref b5, .ref b6, .int bn])), (b1, .inl (G.2 0, 40, .inl kf)), (b2, .inl (G.2 0, 40, .inl ff)), (b3, .inl (G.2 0, 40, .inl sf)), (b4, .inl (G.2 0, 40, .inl df)), (b5, .inl (G.2 1, 40, .inr (.inl pf))), (b6, .inl (G.2 1, 6, .inr (.inl gf)))] sz) := by
  refine vx_ofW (cc := cX2_rounds) (maxL := 6) (ret := (some .int)) (by decide) rfl ?_
  intro p e s m args below meth c s₁ B hml hT hv
  obtain ⟨rfl, hsz, hP, hKK, hD0, hZ⟩ := hv
  obtain ⟨hK, hN, hR, hFW, hNC⟩ := id hKK
  have hx := B.exec
  have hb := B.bytes
  have hr := B.returns
  have hts0 := atoms_spec (ws := wl_xX2_rounds) B.pre
  have hts : ∀ w ∈ lwg, w.before ([.ref x0, .int p1, .int p2] : List Value).toArray s = true := fun w hw => hts0 w (List.mem_cons_of_mem _ hw)
  have hown : s.vm.findClass RX2 = some m.cls := findClass_of_methodNamed B.named
  have hlocks := B.notSynchronized
  subst hsz
  have hD := hD0.self (sz := s.heap.size)
  generalize hAe : va_A [(x0, .inr (5, [.ref b0, .ref s0, .ref u0, .ref v0, .int tA, .int wP, .int nT, .int aK, .int lK, .int sW, .int rF])), (s0, .inr (4, [.ref b0, .ref s1, .ref s2, .long op, .int re])), (s1, .inl (G.2 1, 384, .inr (.inl dk))), (s2, .inl (G.2 1, 40, .inr (.inl wg))), (u0, .inr (4, [.ref b0, .ref u1, .ref u2, .long uo, .int ur])), (u1, .inl (G.2 1, 384, .inr (.inl uk))), (u2, .inl (G.2 1, 40, .inr (.inl uw))), (v0, .inr (4, [.ref b0, .ref v1, .ref v2, .long vo, .int vr])), (v1, .inl (G.2 1, 384, .inr (.inl vk))), (v2, .inl (G.2 1, 40, .inr (.inl vw))), (b0, .inr (3, [.ref b1, .ref b2, .ref b3, .ref b4, .ref b5, .ref b6, .int bn])), (b1, .inl (G.2 0, 40, .inl kf)), (b2, .inl (G.2 0, 40, .inl ff)), (b3, .inl (G.2 0, 40, .inl sf)), (b4, .inl (G.2 0, 40, .inl df)), (b5, .inl (G.2 1, 40, .inr (.inl pf))), (b6, .inl (G.2 1, 6, .inr (.inl gf)))] s.heap.size = A at hD hZ ⊢
  have hA : ∀ q : Nat, s.heap.size ≤ q → A q := fun q h => by rw [← hAe]; exact Or.inr h
  have hS : va_S A s.heap s.heap [] := va_S.rf
  obtain ⟨QC, hQC⟩ : ∃ Z, Z = (va_Qi post (fun u t => PP G [(x0, .inr (5, [.ref b0, .ref s0, .ref u0, .ref v0, .int tA, .int wP, .int nT, .int aK, .int lK, .int sW, .int rF])), (s0, .inr (4, [.ref b0, .ref s1, .ref s2, .long op, .int re])), (s1, .inl (G.2 1, 384, .inr (.inl dk))), (s2, .inl (G.2 1, 40, .inr (.inl wg))), (u0, .inr (4, [.ref b0, .ref u1, .ref u2, .long (u.2.2.1), .int (u.2.2.2)])), (u1, .inl (G.2 1, 384, .inr (.inl (u.1)))), (u2, .inl (G.2 1, 40, .inr (.inl (u.2.1)))), (v0, .inr (4, [.ref b0, .ref v1, .ref v2, .long vo, .int vr])), (v1, .inl (G.2 1, 384, .inr (.inl vk))), (v2, .inl (G.2 1, 40, .inr (.inl vw))), (b0, .inr (3, [.ref b1, .ref b2, .ref b3, .ref b4, .ref b5, .ref b6, .int bn])), (b1, .inl (G.2 0, 40, .inl kf)), (b2, .inl (G.2 0, 40, .inl ff)), (b3, .inl (G.2 0, 40, .inl sf)), (b4, .inl (G.2 0, 40, .inl df)), (b5, .inl (G.2 1, 40, .inr (.inl pf))), (b6, .inl (G.2 1, 6, .inr (.inl gf)))] t.heap ∧ va_D A [(x0, .inr (5, [.ref b0, .ref s0, .ref u0, .ref v0, .int tA, .int wP, .int nT, .int aK, .int lK, .int sW, .int rF])), (s0, .inr (4, [.ref b0, .ref s1, .ref s2, .long op, .int re])), (s1, .inl (G.2 1, 384, .inr (.inl dk))), (s2, .inl (G.2 1, 40, .inr (.inl wg))), (u0, .inr (4, [.ref b0, .ref u1, .ref u2, .long (u.2.2.1), .int (u.2.2.2)])), (u1, .inl (G.2 1, 384, .inr (.inl (u.1)))), (u2, .inl (G.2 1, 40, .inr (.inl (u.2.1)))), (v0, .inr (4, [.ref b0, .ref v1, .ref v2, .long vo, .int vr])), (v1, .inl (G.2 1, 384, .inr (.inl vk))), (v2, .inl (G.2 1, 40, .inr (.inl vw))), (b0, .inr (3, [.ref b1, .ref b2, .ref b3, .ref b4, .ref b5, .ref b6, .int bn])), (b1, .inl (G.2 0, 40, .inl kf)), (b2, .inl (G.2 0, 40, .inl ff)), (b3, .inl (G.2 0, 40, .inl sf)), (b4, .inl (G.2 0, 40, .inl df)), (b5, .inl (G.2 1, 40, .inr (.inl pf))), (b6, .inl (G.2 1, 6, .inr (.inl gf)))]) A) := ⟨_, rfl⟩
  rw [← hQC]
  obtain ⟨XC, hXC⟩ : ∃ Z, Z = (vx_X (fun _ : Unit => True) (fun E _ t => PP G [(x0, .inr (5, [.ref b0, .ref s0, .ref u0, .ref v0, .int tA, .int wP, .int nT, .int aK, .int lK, .int sW, .int rF])), (s0, .inr (4, [.ref b0, .ref s1, .ref s2, .long op, .int re])), (s1, .inl (G.2 1, 384, .inr (.inl dk))), (s2, .inl (G.2 1, 40, .inr (.inl wg))), (u0, .inr (4, [.ref b0, .ref u1, .ref u2, .long uo, .int ur])), (u1, .inl (G.2 1, 384, .inr (.inl uk))), (u2, .inl (G.2 1, 40, .inr (.inl uw))), (v0, .inr (4, [.ref b0, .ref v1, .ref v2, .long vo, .int vr])), (v1, .inl (G.2 1, 384, .inr (.inl vk))), (v2, .inl (G.2 1, 40, .inr (.inl vw))), (b0, .inr (3, [.ref b1, .ref b2, .ref b3, .ref b4, .ref b5, .ref b6, .int bn])), (b1, .inl (G.2 0, 40, .inl kf)), (b2, .inl (G.2 0, 40, .inl ff)), (b3, .inl (G.2 0, 40, .inl sf)), (b4, .inl (G.2 0, 40, .inl df)), (b5, .inl (G.2 1, 40, .inr (.inl pf))), (b6, .inl (G.2 1, 6, .inr (.inl gf)))] t.heap ∧ va_D A [(x0, .inr (5, [.ref b0, .ref s0, .ref u0, .ref v0, .int tA, .int wP, .int nT, .int aK, .int lK, .int sW, .int rF])), (s0, .inr (4, [.ref b0, .ref s1, .ref s2, .long op, .int re])), (s1, .inl (G.2 1, 384, .inr (.inl dk))), (s2, .inl (G.2 1, 40, .inr (.inl wg))), (u0, .inr (4, [.ref b0, .ref u1, .ref u2, .long uo, .int ur])), (u1, .inl (G.2 1, 384, .inr (.inl uk))), (u2, .inl (G.2 1, 40, .inr (.inl uw))), (v0, .inr (4, [.ref b0, .ref v1, .ref v2, .long vo, .int vr])), (v1, .inl (G.2 1, 384, .inr (.inl vk))), (v2, .inl (G.2 1, 40, .inr (.inl vw))), (b0, .inr (3, [.ref b1, .ref b2, .ref b3, .ref b4, .ref b5, .ref b6, .int bn])), (b1, .inl (G.2 0, 40, .inl kf)), (b2, .inl (G.2 0, 40, .inl ff)), (b3, .inl (G.2 0, 40, .inl sf)), (b4, .inl (G.2 0, 40, .inl df)), (b5, .inl (G.2 1, 40, .inr (.inl pf))), (b6, .inl (G.2 1, 6, .inr (.inl gf)))] ∧ postx E) A) := ⟨_, rfl⟩
  rw [← hXC]
  obtain ⟨⟨zt, hZ1, hT1⟩, hZ2⟩ := id hZ
  have hP : PP G [(x0, .inr (5, [.ref b0, .ref s0, .ref u0, .ref v0, .int tA, .int wP, .int nT, .int aK, .int lK, .int sW, .int rF])), (s0, .inr (4, [.ref b0, .ref s1, .ref s2, .long op, .int re])), (s1, .inl (G.2 1, 384, .inr (.inl dk))), (s2, .inl (G.2 1, 40, .inr (.inl wg))), (u0, .inr (4, [.ref b0, .ref u1, .ref u2, .long uo, .int ur])), (u1, .inl (G.2 1, 384, .inr (.inl uk))), (u2, .inl (G.2 1, 40, .inr (.inl uw))), (v0, .inr (4, [.ref b0, .ref v1, .ref v2, .long vo, .int vr])), (v1, .inl (G.2 1, 384, .inr (.inl vk))), (v2, .inl (G.2 1, 40, .inr (.inl vw))), (b0, .inr (3, [.ref b1, .ref b2, .ref b3, .ref b4, .ref b5, .ref b6, .int bn])), (b1, .inl (G.2 0, 40, .inl kf)), (b2, .inl (G.2 0, 40, .inl ff)), (b3, .inl (G.2 0, 40, .inl sf)), (b4, .inl (G.2 0, 40, .inl df)), (b5, .inl (G.2 1, 40, .inr (.inl pf))), (b6, .inl (G.2 1, 6, .inr (.inl gf)))] s.heap := hP
  have hl := lv_entry ([.ref x0, .int p1, .int p2]) (n := 6) (Nat.le_of_ble_eq_true rfl)
  rw [lg_entry_eq]
  generalize (lg_sl ([.ref x0, .int p1, .int p2]) ++ List.replicate (6 - (lg_sl ([.ref x0, .int p1, .int p2])).length) Slot.unset).toArray = ls at hl ⊢
  have hl : lv_has ls 6 [(0, .ref x0), (1, .int p1), (2, .int p2)] := hl
  have loop51 : ∀ (K133 : Int32 → (Nat → Int64) → Int64 → Prop) (dk_1 : Nat → Int64) (re_1 : Int32), True → (∀ (i3 : Int32) (uw' : Nat → Int64) (uo' : Int64) (ls : Array Slot) (H : Heap) (locs : List Loc), lv_has ls 6 [(0, .ref x0), (1, .int p1), (2, .int p2), (3, .int i3)] → PP G [(x0, .inr (5, [.ref b0, .ref s0, .ref u0, .ref v0, .int tA, .int wP, .int nT, .int aK, .int lK, .int sW, .int rF])), (s0, .inr (4, [.ref b0, .ref s1, .ref s2, .long op, .int re])), (s1, .inl (G.2 1, 384, .inr (.inl dk))), (s2, .inl (G.2 1, 40, .inr (.inl wg))), (u0, .inr (4, [.ref b0, .ref u1, .ref u2, .long uo', .int re_1])), (u1, .inl (G.2 1, 384, .inr (.inl dk_1))), (u2, .inl (G.2 1, 40, .inr (.inl uw'))), (v0, .inr (4, [.ref b0, .ref v1, .ref v2, .long vo, .int vr])), (v1, .inl (G.2 1, 384, .inr (.inl vk))), (v2, .inl (G.2 1, 40, .inr (.inl vw))), (b0, .inr (3, [.ref b1, .ref b2, .ref b3, .ref b4, .ref b5, .ref b6, .int bn])), (b1, .inl (G.2 0, 40, .inl kf)), (b2, .inl (G.2 0, 40, .inl ff)), (b3, .inl (G.2 0, 40, .inl sf)), (b4, .inl (G.2 0, 40, .inl df)), (b5, .inl (G.2 1, 40, .inr (.inl pf))), (b6, .inl (G.2 1, 6, .inr (.inl gf)))] H → va_D A [(x0, .inr (5, [.ref b0, .ref s0, .ref u0, .ref v0, .int tA, .int wP, .int nT, .int aK, .int lK, .int sW, .int rF])), (s0, .inr (4, [.ref b0, .ref s1, .ref s2, .long op, .int re])), (s1, .inl (G.2 1, 384, .inr (.inl dk))), (s2, .inl (G.2 1, 40, .inr (.inl wg))), (u0, .inr (4, [.ref b0, .ref u1, .ref u2, .long uo', .int re_1])), (u1, .inl (G.2 1, 384, .inr (.inl dk_1))), (u2, .inl (G.2 1, 40, .inr (.inl uw'))), (v0, .inr (4, [.ref b0, .ref v1, .ref v2, .long vo, .int vr])), (v1, .inl (G.2 1, 384, .inr (.inl vk))), (v2, .inl (G.2 1, 40, .inr (.inl vw))), (b0, .inr (3, [.ref b1, .ref b2, .ref b3, .ref b4, .ref b5, .ref b6, .int bn])), (b1, .inl (G.2 0, 40, .inl kf)), (b2, .inl (G.2 0, 40, .inl ff)), (b3, .inl (G.2 0, 40, .inl sf)), (b4, .inl (G.2 0, 40, .inl df)), (b5, .inl (G.2 1, 40, .inr (.inl pf))), (b6, .inl (G.2 1, 6, .inr (.inl gf)))] → va_S A s.heap H locs → K133 i3 uw' uo' → W p l e (headSpec (wl_xX2_rounds) rm_xX2_rounds).room s m ([.ref x0, .int p1, .int p2] : List Value).toArray below meth c H locs 0 0 (vx_MQ below QC XC ([.ref x0, .int p1, .int p2] : List Value).toArray s 1 6 A) (F0 m 133 ls [])) → ∀ (n : Nat) (i3 : Int32) (uw' : Nat → Int64) (uo' : Int64) (ls : Array Slot) (H : Heap) (locs : List Loc), lv_has ls 6 [(0, .ref x0), (1, .int p1), (2, .int p2), (3, .int i3)] → PP G [(x0, .inr (5, [.ref b0, .ref s0, .ref u0, .ref v0, .int tA, .int wP, .int nT, .int aK, .int lK, .int sW, .int rF])), (s0, .inr (4, [.ref b0, .ref s1, .ref s2, .long op, .int re])), (s1, .inl (G.2 1, 384, .inr (.inl dk))), (s2, .inl (G.2 1, 40, .inr (.inl wg))), (u0, .inr (4, [.ref b0, .ref u1, .ref u2, .long uo', .int re_1])), (u1, .inl (G.2 1, 384, .inr (.inl dk_1))), (u2, .inl (G.2 1, 40, .inr (.inl uw'))), (v0, .inr (4, [.ref b0, .ref v1, .ref v2, .long vo, .int vr])), (v1, .inl (G.2 1, 384, .inr (.inl vk))), (v2, .inl (G.2 1, 40, .inr (.inl vw))), (b0, .inr (3, [.ref b1, .ref b2, .ref b3, .ref b4, .ref b5, .ref b6, .int bn])), (b1, .inl (G.2 0, 40, .inl kf)), (b2, .inl (G.2 0, 40, .inl ff)), (b3, .inl (G.2 0, 40, .inl sf)), (b4, .inl (G.2 0, 40, .inl df)), (b5, .inl (G.2 1, 40, .inr (.inl pf))), (b6, .inl (G.2 1, 6, .inr (.inl gf)))] H → va_D A [(x0, .inr (5, [.ref b0, .ref s0, .ref u0, .ref v0, .int tA, .int wP, .int nT, .int aK, .int lK, .int sW, .int rF])), (s0, .inr (4, [.ref b0, .ref s1, .ref s2, .long op, .int re])), (s1, .inl (G.2 1, 384, .inr (.inl dk))), (s2, .inl (G.2 1, 40, .inr (.inl wg))), (u0, .inr (4, [.ref b0, .ref u1, .ref u2, .long uo', .int re_1])), (u1, .inl (G.2 1, 384, .inr (.inl dk_1))), (u2, .inl (G.2 1, 40, .inr (.inl uw'))), (v0, .inr (4, [.ref b0, .ref v1, .ref v2, .long vo, .int vr])), (v1, .inl (G.2 1, 384, .inr (.inl vk))), (v2, .inl (G.2 1, 40, .inr (.inl vw))), (b0, .inr (3, [.ref b1, .ref b2, .ref b3, .ref b4, .ref b5, .ref b6, .int bn])), (b1, .inl (G.2 0, 40, .inl kf)), (b2, .inl (G.2 0, 40, .inl ff)), (b3, .inl (G.2 0, 40, .inl sf)), (b4, .inl (G.2 0, 40, .inl df)), (b5, .inl (G.2 1, 40, .inr (.inl pf))), (b6, .inl (G.2 1, 6, .inr (.inl gf)))] → va_S A s.heap H locs → wxX2_rounds_L51 post postx K133 kf ff sf pf bn p1 p2 dk_1 re_1 n i3 uw' uo' → W p l e (headSpec (wl_xX2_rounds) rm_xX2_rounds).room s m ([.ref x0, .int p1, .int p2] : List Value).toArray below meth c H locs 0 0 (vx_MQ below QC XC ([.ref x0, .int p1, .int p2] : List Value).toArray s 1 6 A) (F0 m 51 ls []) := by
    intro K133 dk_1 re_1 _ hexit133 n
    induction n with
    | zero => intro i3 uw' uo' ls H locs hl hP hD hS h; exact False.elim h
    | succ n ih =>
      intro i3 uw' uo' ls H locs hl hP hD hS h
      refine lv_iload_n hx hb dX2_rounds_51 rfl (lv_at hl 3 rfl) ?_
      refine lv_bipush (v := 64) hx hb dX2_rounds_52 (by decide) ?_
      refine lv_icmp_ge (tgt := 133) hx hb dX2_rounds_54 (by decide) (fun hc => ?_) (fun hc => ?_)
      · have h := h.1 hc
        have hl := lv_sub (l' := [(0, .ref x0), (1, .int p1), (2, .int p2), (3, .int i3)]) hl [0, 1, 2, 3] rfl
        exact hexit133 _ _ _ ls H locs hl hP hD hS h
      · have h := h.2 hc
        refine lv_aload_n hx hb dX2_rounds_57 rfl (lv_at hl 0 rfl) ?_
        refine va_get (D := G.1) (ci := 5) (v := .ref u0) (C := RX2) (T := TX2) (N := 11) hx hb hts igX2 hown hK hP 0 rfl rfl 2 (by decide) (hts _ q178) (fun _ h9 => h9) rfl dX2_rounds_58 ?_
        refine lv_iload_n hx hb dX2_rounds_61 rfl (lv_at hl 2 rfl) ?_
        have hPc := va_P.sub (ws' := [(u0, .inr (4, [.ref b0, .ref u1, .ref u2, .long uo', .int re_1])), (u1, .inl (G.2 1, 384, .inr (.inl dk_1))), (u2, .inl (G.2 1, 40, .inr (.inl uw'))), (b0, .inr (3, [.ref b1, .ref b2, .ref b3, .ref b4, .ref b5, .ref b6, .int bn])), (b1, .inl (G.2 0, 40, .inl kf)), (b2, .inl (G.2 0, 40, .inl ff)), (b3, .inl (G.2 0, 40, .inl sf)), (b4, .inl (G.2 0, 40, .inl df)), (b5, .inl (G.2 1, 40, .inr (.inl pf))), (b6, .inl (G.2 1, 6, .inr (.inl gf)))]) hP [4, 5, 6, 10, 11, 12, 13, 14, 15, 16] rfl
        refine rdI (va_runV (C := RX1) (As := [.int p2]) (rest := []) ⟨hx, hb, hml, hown, hts⟩ (kX1_knowersOf l G u0 u1 u2 b0 b1 b2 b3 b4 b5 b6 dk_1 uw' uo' re_1 kf ff sf df pf gf bn p2 h) (cwV 1 hts (gdV q414 q232 q233 q3 q234) rfl rfl rfl (by decide +kernel) ⟨Nat.le_of_ble_eq_true rfl, Nat.le_of_ble_eq_true rfl⟩) (preV hPc hKK (va_recv hK hPc (ci := 4) (q0 := 0) rfl rfl)) rfl rfl hl.1 rfl (lv_room (Nat.le_of_ble_eq_true rfl)) dX2_rounds_62 ⟨Nat.zero_le _, Nat.zero_le _⟩) (fun r_4 h => ?_)
        refine lv_iload_n hx hb dX2_rounds_65 rfl (lv_at hl 1 rfl) ?_
        refine lv_iand hx hb dX2_rounds_66 ?_
        refine lv_if_eq (tgt := 72) hx hb dX2_rounds_67 (by decide) (fun hc => ?_) (fun hc => ?_)
        · have h := h.1 hc
          refine lv_aload_n hx hb dX2_rounds_72 rfl (lv_at hl 0 rfl) ?_
          refine va_get (D := G.1) (ci := 5) (v := .ref u0) (C := RX2) (T := TX2) (N := 11) hx hb hts igX2 hown hK hP 0 rfl rfl 2 (by decide) (hts _ q178) (fun _ h9 => h9) rfl dX2_rounds_73 ?_
          refine va_getN (D := G.1) (ci := 4) (v := .long uo') (C := RX1) (T := TX1) (N := 5) hx hb hts igX1 hown hK hP 4 rfl rfl 3 (by decide) (va_Nw.use rfl (hN _ n77)) (fun _ h9 => h9) rfl dX2_rounds_76 ?_
          refine lv_lstore hx hb dX2_rounds_79 hl (Nat.le_of_ble_eq_true rfl) rfl (fun ls hl => ?_)
          have hl : lv_has ls 6 [(4, .long uo'), (0, .ref x0), (1, .int p1), (2, .int p2), (3, .int i3)] := hl
          refine lv_aload_n hx hb dX2_rounds_81 rfl (lv_at hl 1 rfl) ?_
          refine va_get (D := G.1) (ci := 5) (v := .ref u0) (C := RX2) (T := TX2) (N := 11) hx hb hts igX2 hown hK hP 0 rfl rfl 2 (by decide) (hts _ q178) (fun _ h9 => h9) rfl dX2_rounds_82 ?_
          refine lv_aload_n hx hb dX2_rounds_85 rfl (lv_at hl 1 rfl) ?_
          refine va_get (D := G.1) (ci := 5) (v := .ref u0) (C := RX2) (T := TX2) (N := 11) hx hb hts igX2 hown hK hP 0 rfl rfl 2 (by decide) (hts _ q178) (fun _ h9 => h9) rfl dX2_rounds_86 ?_
          refine lv_iload_n hx hb dX2_rounds_89 rfl (lv_at hl 2 rfl) ?_
          refine lv_iload_n hx hb dX2_rounds_90 rfl (lv_at hl 3 rfl) ?_
          have hPc := va_P.sub (ws' := [(u0, .inr (4, [.ref b0, .ref u1, .ref u2, .long uo', .int re_1])), (u1, .inl (G.2 1, 384, .inr (.inl dk_1))), (u2, .inl (G.2 1, 40, .inr (.inl uw'))), (b0, .inr (3, [.ref b1, .ref b2, .ref b3, .ref b4, .ref b5, .ref b6, .int bn])), (b1, .inl (G.2 0, 40, .inl kf)), (b2, .inl (G.2 0, 40, .inl ff)), (b3, .inl (G.2 0, 40, .inl sf)), (b4, .inl (G.2 0, 40, .inl df)), (b5, .inl (G.2 1, 40, .inr (.inl pf))), (b6, .inl (G.2 1, 6, .inr (.inl gf)))]) hP [4, 5, 6, 10, 11, 12, 13, 14, 15, 16] rfl
          refine rdL (va_runV (C := RX1) (As := [.int p1, .int p2]) (rest := [.ref u0]) ⟨hx, hb, hml, hown, hts⟩ (kX1_answeringAlike l G u0 u1 u2 b0 b1 b2 b3 b4 b5 b6 dk_1 uw' uo' re_1 kf ff sf df pf gf bn p1 p2 h) (cwV 2 hts (gdV q480 q481 q482 q3 q483) rfl rfl rfl (by decide +kernel) ⟨Nat.le_of_ble_eq_true rfl, Nat.le_of_ble_eq_true rfl⟩) (preV hPc hKK (va_recv hK hPc (ci := 4) (q0 := 0) rfl rfl)) rfl rfl hl.1 rfl (lv_room (Nat.le_of_ble_eq_true rfl)) dX2_rounds_91 ⟨Nat.zero_le _, Nat.zero_le _⟩) (fun r_5 h => ?_)
          have hPc := va_P.sub (ws' := [(u0, .inr (4, [.ref b0, .ref u1, .ref u2, .long uo', .int re_1])), (u1, .inl (G.2 1, 384, .inr (.inl dk_1))), (u2, .inl (G.2 1, 40, .inr (.inl uw'))), (b0, .inr (3, [.ref b1, .ref b2, .ref b3, .ref b4, .ref b5, .ref b6, .int bn])), (b1, .inl (G.2 0, 40, .inl kf)), (b2, .inl (G.2 0, 40, .inl ff)), (b3, .inl (G.2 0, 40, .inl sf)), (b4, .inl (G.2 0, 40, .inl df)), (b5, .inl (G.2 1, 40, .inr (.inl pf))), (b6, .inl (G.2 1, 6, .inr (.inl gf)))]) hP [4, 5, 6, 10, 11, 12, 13, 14, 15, 16] rfl
          have hDc := hD.sub (ws' := [(u0, .inr (4, [.ref b0, .ref u1, .ref u2, .long uo', .int re_1])), (u1, .inl (G.2 1, 384, .inr (.inl dk_1))), (u2, .inl (G.2 1, 40, .inr (.inl uw'))), (b0, .inr (3, [.ref b1, .ref b2, .ref b3, .ref b4, .ref b5, .ref b6, .int bn])), (b1, .inl (G.2 0, 40, .inl kf)), (b2, .inl (G.2 0, 40, .inl ff)), (b3, .inl (G.2 0, 40, .inl sf)), (b4, .inl (G.2 0, 40, .inl df)), (b5, .inl (G.2 1, 40, .inr (.inl pf))), (b6, .inl (G.2 1, 6, .inr (.inl gf)))]) [4, 5, 6, 10, 11, 12, 13, 14, 15, 16] (by decide) rfl
          have hFc := va_free (wc := [(u0, .inr (4, [.ref b0, .ref u1, .ref u2, .long uo', .int re_1])), (u1, .inl (G.2 1, 384, .inr (.inl dk_1))), (u2, .inl (G.2 1, 40, .inr (.inl uw'))), (b0, .inr (3, [.ref b1, .ref b2, .ref b3, .ref b4, .ref b5, .ref b6, .int bn])), (b1, .inl (G.2 0, 40, .inl kf)), (b2, .inl (G.2 0, 40, .inl ff)), (b3, .inl (G.2 0, 40, .inl sf)), (b4, .inl (G.2 0, 40, .inl df)), (b5, .inl (G.2 1, 40, .inr (.inl pf))), (b6, .inl (G.2 1, 6, .inr (.inl gf)))]) hD hS hA [4, 5, 6, 10, 11, 12, 13, 14, 15, 16] rfl
          refine va_callv (va_runV (C := RX1) (As := [.long r_5]) (rest := []) ⟨hx, hb, hml, hown, hts⟩ (kX1_keepOnly l G u0 u1 u2 b0 b1 b2 b3 b4 b5 b6 dk_1 uw' uo' re_1 kf ff sf df pf gf bn r_5 _ h) (cwV 1 hts (gdV q484 q485 q486 q3 q487) rfl rfl rfl (by decide +kernel) ⟨Nat.le_of_ble_eq_true rfl, Nat.le_of_ble_eq_true rfl⟩) (preVw hPc hKK hDc (va_recv hK hPc (ci := 4) (q0 := 0) rfl rfl)) rfl rfl hl.1 rfl (lv_room (Nat.le_of_ble_eq_true rfl)) dX2_rounds_94 ⟨Nat.zero_le _, Nat.zero_le _⟩) hS (fun q _ h => hFc q h) hFc (fun u t H1 locs ht hvm h hB hz1 hk1 hS => ?_)
          obtain ⟨op_2, rfl⟩ : ∃ z, z = u := ⟨_, rfl⟩
          obtain ⟨hP1, hD1⟩ := hB
          rw [ht] at hP1
          obtain ⟨hP, hD⟩ := va_join (wr := [(x0, .inr (5, [.ref b0, .ref s0, .ref u0, .ref v0, .int tA, .int wP, .int nT, .int aK, .int lK, .int sW, .int rF])), (s0, .inr (4, [.ref b0, .ref s1, .ref s2, .long op, .int re])), (s1, .inl (G.2 1, 384, .inr (.inl dk))), (s2, .inl (G.2 1, 40, .inr (.inl wg))), (v0, .inr (4, [.ref b0, .ref v1, .ref v2, .long vo, .int vr])), (v1, .inl (G.2 1, 384, .inr (.inl vk))), (v2, .inl (G.2 1, 40, .inr (.inl vw)))]) (w1 := [(u0, .inr (4, [.ref b0, .ref u1, .ref u2, .long op_2, .int re_1])), (u1, .inl (G.2 1, 384, .inr (.inl dk_1))), (u2, .inl (G.2 1, 40, .inr (.inl uw'))), (b0, .inr (3, [.ref b1, .ref b2, .ref b3, .ref b4, .ref b5, .ref b6, .int bn])), (b1, .inl (G.2 0, 40, .inl kf)), (b2, .inl (G.2 0, 40, .inl ff)), (b3, .inl (G.2 0, 40, .inl sf)), (b4, .inl (G.2 0, 40, .inl df)), (b5, .inl (G.2 1, 40, .inr (.inl pf))), (b6, .inl (G.2 1, 6, .inr (.inl gf)))]) hP hD [4, 5, 6, 10, 11, 12, 13, 14, 15, 16] [0, 1, 2, 3, 7, 8, 9] rfl rfl (by decide) (by decide) hk1 hFc hP1 hD1
          generalize H1 = H at hP hS ⊢
          have hP : PP G [(x0, .inr (5, [.ref b0, .ref s0, .ref u0, .ref v0, .int tA, .int wP, .int nT, .int aK, .int lK, .int sW, .int rF])), (s0, .inr (4, [.ref b0, .ref s1, .ref s2, .long op, .int re])), (s1, .inl (G.2 1, 384, .inr (.inl dk))), (s2, .inl (G.2 1, 40, .inr (.inl wg))), (u0, .inr (4, [.ref b0, .ref u1, .ref u2, .long op_2, .int re_1])), (u1, .inl (G.2 1, 384, .inr (.inl dk_1))), (u2, .inl (G.2 1, 40, .inr (.inl uw'))), (v0, .inr (4, [.ref b0, .ref v1, .ref v2, .long vo, .int vr])), (v1, .inl (G.2 1, 384, .inr (.inl vk))), (v2, .inl (G.2 1, 40, .inr (.inl vw))), (b0, .inr (3, [.ref b1, .ref b2, .ref b3, .ref b4, .ref b5, .ref b6, .int bn])), (b1, .inl (G.2 0, 40, .inl kf)), (b2, .inl (G.2 0, 40, .inl ff)), (b3, .inl (G.2 0, 40, .inl sf)), (b4, .inl (G.2 0, 40, .inl df)), (b5, .inl (G.2 1, 40, .inr (.inl pf))), (b6, .inl (G.2 1, 6, .inr (.inl gf)))] H := va_P.sub hP [0, 1, 2, 3, 7, 8, 9, 4, 5, 6, 10, 11, 12, 13, 14, 15, 16] rfl
          have hD : va_D A [(x0, .inr (5, [.ref b0, .ref s0, .ref u0, .ref v0, .int tA, .int wP, .int nT, .int aK, .int lK, .int sW, .int rF])), (s0, .inr (4, [.ref b0, .ref s1, .ref s2, .long op, .int re])), (s1, .inl (G.2 1, 384, .inr (.inl dk))), (s2, .inl (G.2 1, 40, .inr (.inl wg))), (u0, .inr (4, [.ref b0, .ref u1, .ref u2, .long op_2, .int re_1])), (u1, .inl (G.2 1, 384, .inr (.inl dk_1))), (u2, .inl (G.2 1, 40, .inr (.inl uw'))), (v0, .inr (4, [.ref b0, .ref v1, .ref v2, .long vo, .int vr])), (v1, .inl (G.2 1, 384, .inr (.inl vk))), (v2, .inl (G.2 1, 40, .inr (.inl vw))), (b0, .inr (3, [.ref b1, .ref b2, .ref b3, .ref b4, .ref b5, .ref b6, .int bn])), (b1, .inl (G.2 0, 40, .inl kf)), (b2, .inl (G.2 0, 40, .inl ff)), (b3, .inl (G.2 0, 40, .inl sf)), (b4, .inl (G.2 0, 40, .inl df)), (b5, .inl (G.2 1, 40, .inr (.inl pf))), (b6, .inl (G.2 1, 6, .inr (.inl gf)))] := hD.sub [0, 1, 2, 3, 7, 8, 9, 4, 5, 6, 10, 11, 12, 13, 14, 15, 16] (by decide) rfl
          refine lv_aload_n hx hb dX2_rounds_97 rfl (lv_at hl 1 rfl) ?_
          refine va_get (D := G.1) (ci := 5) (v := .ref u0) (C := RX2) (T := TX2) (N := 11) hx hb hts igX2 hown hK hP 0 rfl rfl 2 (by decide) (hts _ q178) (fun _ h9 => h9) rfl dX2_rounds_98 ?_
          refine va_getN (D := G.1) (ci := 4) (v := .long op_2) (C := RX1) (T := TX1) (N := 5) hx hb hts igX1 hown hK hP 4 rfl rfl 3 (by decide) (va_Nw.use rfl (hN _ n77)) (fun _ h9 => h9) rfl dX2_rounds_101 ?_
          refine lv_lload hx hb dX2_rounds_104 (lv_at hl 0 rfl) ?_
          refine W.lcmp hx hb dX2_rounds_106 ?_
          refine lv_if_ne (tgt := 112) hx hb dX2_rounds_107 (by decide) (fun hc => ?_) (fun hc => ?_)
          · have h := h.1 hc
            refine lv_aload_n hx hb dX2_rounds_112 rfl (lv_at hl 1 rfl) ?_
            refine va_get (D := G.1) (ci := 5) (v := .ref u0) (C := RX2) (T := TX2) (N := 11) hx hb hts igX2 hown hK hP 0 rfl rfl 2 (by decide) (hts _ q178) (fun _ h9 => h9) rfl dX2_rounds_113 ?_
            refine lv_aload_n hx hb dX2_rounds_116 rfl (lv_at hl 1 rfl) ?_
            refine va_get (D := G.1) (ci := 5) (v := .ref b0) (C := RX2) (T := TX2) (N := 11) hx hb hts igX2 hown hK hP 0 rfl rfl 0 (by decide) (hts _ q176) (fun _ h9 => h9) rfl dX2_rounds_117 ?_
            refine lv_iload_n hx hb dX2_rounds_120 rfl (lv_at hl 3 rfl) ?_
            have hPc := va_P.sub (ws' := [(b0, .inr (3, [.ref b1, .ref b2, .ref b3, .ref b4, .ref b5, .ref b6, .int bn])), (b1, .inl (G.2 0, 40, .inl kf)), (b2, .inl (G.2 0, 40, .inl ff)), (b3, .inl (G.2 0, 40, .inl sf)), (b4, .inl (G.2 0, 40, .inl df)), (b5, .inl (G.2 1, 40, .inr (.inl pf))), (b6, .inl (G.2 1, 6, .inr (.inl gf)))]) hP [10, 11, 12, 13, 14, 15, 16] rfl
            refine rdL (va_runV (C := RX0) (As := [.int p2]) (rest := [.ref u0]) ⟨hx, hb, hml, hown, hts⟩ (kX0_partsOf l G b0 b1 b2 b3 b4 b5 b6 kf ff sf df pf gf bn p2 h) (cwV 1 hts (gdV q488 q460 q461 q2 q462) rfl rfl rfl (by decide +kernel) ⟨Nat.le_of_ble_eq_true rfl, Nat.le_of_ble_eq_true rfl⟩) (preV hPc hKK (va_recv hK hPc (ci := 3) (q0 := 0) rfl rfl)) rfl rfl hl.1 rfl (lv_room (Nat.le_of_ble_eq_true rfl)) dX2_rounds_121 ⟨Nat.zero_le _, Nat.zero_le _⟩) (fun r_7 h => ?_)
            have hPc := va_P.sub (ws' := [(u0, .inr (4, [.ref b0, .ref u1, .ref u2, .long op_2, .int re_1])), (u1, .inl (G.2 1, 384, .inr (.inl dk_1))), (u2, .inl (G.2 1, 40, .inr (.inl uw'))), (b0, .inr (3, [.ref b1, .ref b2, .ref b3, .ref b4, .ref b5, .ref b6, .int bn])), (b1, .inl (G.2 0, 40, .inl kf)), (b2, .inl (G.2 0, 40, .inl ff)), (b3, .inl (G.2 0, 40, .inl sf)), (b4, .inl (G.2 0, 40, .inl df)), (b5, .inl (G.2 1, 40, .inr (.inl pf))), (b6, .inl (G.2 1, 6, .inr (.inl gf)))]) hP [4, 5, 6, 10, 11, 12, 13, 14, 15, 16] rfl
            have hDc := hD.sub (ws' := [(u0, .inr (4, [.ref b0, .ref u1, .ref u2, .long op_2, .int re_1])), (u1, .inl (G.2 1, 384, .inr (.inl dk_1))), (u2, .inl (G.2 1, 40, .inr (.inl uw'))), (b0, .inr (3, [.ref b1, .ref b2, .ref b3, .ref b4, .ref b5, .ref b6, .int bn])), (b1, .inl (G.2 0, 40, .inl kf)), (b2, .inl (G.2 0, 40, .inl ff)), (b3, .inl (G.2 0, 40, .inl sf)), (b4, .inl (G.2 0, 40, .inl df)), (b5, .inl (G.2 1, 40, .inr (.inl pf))), (b6, .inl (G.2 1, 6, .inr (.inl gf)))]) [4, 5, 6, 10, 11, 12, 13, 14, 15, 16] (by decide) rfl
            have hFc := va_free (wc := [(u0, .inr (4, [.ref b0, .ref u1, .ref u2, .long op_2, .int re_1])), (u1, .inl (G.2 1, 384, .inr (.inl dk_1))), (u2, .inl (G.2 1, 40, .inr (.inl uw'))), (b0, .inr (3, [.ref b1, .ref b2, .ref b3, .ref b4, .ref b5, .ref b6, .int bn])), (b1, .inl (G.2 0, 40, .inl kf)), (b2, .inl (G.2 0, 40, .inl ff)), (b3, .inl (G.2 0, 40, .inl sf)), (b4, .inl (G.2 0, 40, .inl df)), (b5, .inl (G.2 1, 40, .inr (.inl pf))), (b6, .inl (G.2 1, 6, .inr (.inl gf)))]) hD hS hA [4, 5, 6, 10, 11, 12, 13, 14, 15, 16] rfl
            have hZc := (hZ.kept hS.2.1).narrow hFc
            refine va_callv (va_runV (C := RX1) (As := [.long r_7]) (rest := []) ⟨hx, hb, hml, hown, hts⟩ (kX1_weigh l G u0 u1 u2 b0 b1 b2 b3 b4 b5 b6 dk_1 uw' op_2 re_1 kf ff sf df pf gf bn r_7 _ h) (cwV 1 hts (gdV q475 q104 q105 q3 q106) rfl rfl rfl (by decide +kernel) ⟨Nat.le_of_ble_eq_true rfl, Nat.le_of_ble_eq_true rfl⟩) (preVwz hPc hKK hDc hZc (va_recv hK hPc (ci := 4) (q0 := 0) rfl rfl)) rfl rfl hl.1 rfl (lv_room (Nat.le_of_ble_eq_true rfl)) dX2_rounds_124 ⟨Nat.zero_le _, Nat.zero_le _⟩) hS (fun q _ h => hFc q h) hFc (fun u t H1 locs ht hvm h hB hz1 hk1 hS => ?_)
            obtain ⟨wg_2, rfl⟩ : ∃ z, z = u := ⟨_, rfl⟩
            obtain ⟨hP1, hD1⟩ := hB
            rw [ht] at hP1
            obtain ⟨hP, hD⟩ := va_join (wr := [(x0, .inr (5, [.ref b0, .ref s0, .ref u0, .ref v0, .int tA, .int wP, .int nT, .int aK, .int lK, .int sW, .int rF])), (s0, .inr (4, [.ref b0, .ref s1, .ref s2, .long op, .int re])), (s1, .inl (G.2 1, 384, .inr (.inl dk))), (s2, .inl (G.2 1, 40, .inr (.inl wg))), (v0, .inr (4, [.ref b0, .ref v1, .ref v2, .long vo, .int vr])), (v1, .inl (G.2 1, 384, .inr (.inl vk))), (v2, .inl (G.2 1, 40, .inr (.inl vw)))]) (w1 := [(u0, .inr (4, [.ref b0, .ref u1, .ref u2, .long op_2, .int re_1])), (u1, .inl (G.2 1, 384, .inr (.inl dk_1))), (u2, .inl (G.2 1, 40, .inr (.inl wg_2))), (b0, .inr (3, [.ref b1, .ref b2, .ref b3, .ref b4, .ref b5, .ref b6, .int bn])), (b1, .inl (G.2 0, 40, .inl kf)), (b2, .inl (G.2 0, 40, .inl ff)), (b3, .inl (G.2 0, 40, .inl sf)), (b4, .inl (G.2 0, 40, .inl df)), (b5, .inl (G.2 1, 40, .inr (.inl pf))), (b6, .inl (G.2 1, 6, .inr (.inl gf)))]) hP hD [4, 5, 6, 10, 11, 12, 13, 14, 15, 16] [0, 1, 2, 3, 7, 8, 9] rfl rfl (by decide) (by decide) hk1 hFc hP1 hD1
            generalize H1 = H at hP hS ⊢
            have hP : PP G [(x0, .inr (5, [.ref b0, .ref s0, .ref u0, .ref v0, .int tA, .int wP, .int nT, .int aK, .int lK, .int sW, .int rF])), (s0, .inr (4, [.ref b0, .ref s1, .ref s2, .long op, .int re])), (s1, .inl (G.2 1, 384, .inr (.inl dk))), (s2, .inl (G.2 1, 40, .inr (.inl wg))), (u0, .inr (4, [.ref b0, .ref u1, .ref u2, .long op_2, .int re_1])), (u1, .inl (G.2 1, 384, .inr (.inl dk_1))), (u2, .inl (G.2 1, 40, .inr (.inl wg_2))), (v0, .inr (4, [.ref b0, .ref v1, .ref v2, .long vo, .int vr])), (v1, .inl (G.2 1, 384, .inr (.inl vk))), (v2, .inl (G.2 1, 40, .inr (.inl vw))), (b0, .inr (3, [.ref b1, .ref b2, .ref b3, .ref b4, .ref b5, .ref b6, .int bn])), (b1, .inl (G.2 0, 40, .inl kf)), (b2, .inl (G.2 0, 40, .inl ff)), (b3, .inl (G.2 0, 40, .inl sf)), (b4, .inl (G.2 0, 40, .inl df)), (b5, .inl (G.2 1, 40, .inr (.inl pf))), (b6, .inl (G.2 1, 6, .inr (.inl gf)))] H := va_P.sub hP [0, 1, 2, 3, 7, 8, 9, 4, 5, 6, 10, 11, 12, 13, 14, 15, 16] rfl
            have hD : va_D A [(x0, .inr (5, [.ref b0, .ref s0, .ref u0, .ref v0, .int tA, .int wP, .int nT, .int aK, .int lK, .int sW, .int rF])), (s0, .inr (4, [.ref b0, .ref s1, .ref s2, .long op, .int re])), (s1, .inl (G.2 1, 384, .inr (.inl dk))), (s2, .inl (G.2 1, 40, .inr (.inl wg))), (u0, .inr (4, [.ref b0, .ref u1, .ref u2, .long op_2, .int re_1])), (u1, .inl (G.2 1, 384, .inr (.inl dk_1))), (u2, .inl (G.2 1, 40, .inr (.inl wg_2))), (v0, .inr (4, [.ref b0, .ref v1, .ref v2, .long vo, .int vr])), (v1, .inl (G.2 1, 384, .inr (.inl vk))), (v2, .inl (G.2 1, 40, .inr (.inl vw))), (b0, .inr (3, [.ref b1, .ref b2, .ref b3, .ref b4, .ref b5, .ref b6, .int bn])), (b1, .inl (G.2 0, 40, .inl kf)), (b2, .inl (G.2 0, 40, .inl ff)), (b3, .inl (G.2 0, 40, .inl sf)), (b4, .inl (G.2 0, 40, .inl df)), (b5, .inl (G.2 1, 40, .inr (.inl pf))), (b6, .inl (G.2 1, 6, .inr (.inl gf)))] := hD.sub [0, 1, 2, 3, 7, 8, 9, 4, 5, 6, 10, 11, 12, 13, 14, 15, 16] (by decide) rfl
            refine lv_iinc (v := (i3 + 1)) hx hb dX2_rounds_127 hl (k := 4) rfl (by rw [show Int32.ofInt 1 = 1 from by decide]) (Nat.le_of_ble_eq_true rfl) rfl (fun ls hl => ?_)
            have hl : lv_has ls 6 [(3, .int (i3 + 1)), (4, .long uo'), (0, .ref x0), (1, .int p1), (2, .int p2)] := hl
            refine lv_goto (tgt := 51) hx hb dX2_rounds_130 (by decide) ?_
            have hl := lv_sub (l' := [(0, .ref x0), (1, .int p1), (2, .int p2), (3, .int (i3 + 1))]) hl [2, 3, 4, 0] rfl
            exact ih _ _ _ ls H locs hl hP hD hS h
          · have h := h.2 hc
            refine lv_iconst (v := (-1)) hx hb dX2_rounds_110 (by decide) ?_
            refine vx_ret (W.widen (k := 1) (n := 6) (Nat.le_of_ble_eq_true rfl) (Nat.le_of_ble_eq_true rfl) ?_)
            subst hQC; exact W.iret (v := (-1 : Int32)) hx hb hr (fun t ht hW => ⟨⟨_, (dk_1, uw', op_2, re_1), rfl, h, by rw [ht]; exact hP, hD⟩, hS.F ht⟩) hS.2.2 dX2_rounds_111
        · have h := h.2 hc
          refine lv_iload_n hx hb dX2_rounds_70 rfl (lv_at hl 3 rfl) ?_
          refine vx_ret (W.widen (k := 1) (n := 6) (Nat.le_of_ble_eq_true rfl) (Nat.le_of_ble_eq_true rfl) ?_)
          subst hQC; exact W.iret (v := i3) hx hb hr (fun t ht hW => ⟨⟨_, (dk_1, uw', uo', re_1), rfl, h, by rw [ht]; exact hP, hD⟩, hS.F ht⟩) hS.2.2 dX2_rounds_71
  refine lv_aload_n hx hb dX2_rounds_0 rfl (lv_at hl 0 rfl) ?_
  refine va_get (D := G.1) (ci := 5) (v := .ref b0) (C := RX2) (T := TX2) (N := 11) hx hb hts igX2 hown hK hP 0 rfl rfl 0 (by decide) (hts _ q176) (fun _ h9 => h9) rfl dX2_rounds_1 ?_
  refine lv_iload_n hx hb dX2_rounds_4 rfl (lv_at hl 2 rfl) ?_
  have hPc := va_P.sub (ws' := [(b0, .inr (3, [.ref b1, .ref b2, .ref b3, .ref b4, .ref b5, .ref b6, .int bn])), (b1, .inl (G.2 0, 40, .inl kf)), (b2, .inl (G.2 0, 40, .inl ff)), (b3, .inl (G.2 0, 40, .inl sf)), (b4, .inl (G.2 0, 40, .inl df)), (b5, .inl (G.2 1, 40, .inr (.inl pf))), (b6, .inl (G.2 1, 6, .inr (.inl gf)))]) hP [10, 11, 12, 13, 14, 15, 16] rfl
  refine rdI (va_runV (C := RX0) (As := [.int p2]) (rest := []) ⟨hx, hb, hml, hown, hts⟩ (kX0_holds l G b0 b1 b2 b3 b4 b5 b6 kf ff sf df pf gf bn p2 h) (cwV 1 hts (gdV q403 q115 q116 q2 q117) rfl rfl rfl (by decide +kernel) ⟨Nat.le_of_ble_eq_true rfl, Nat.le_of_ble_eq_true rfl⟩) (preV hPc hKK (va_recv hK hPc (ci := 3) (q0 := 0) rfl rfl)) rfl rfl hl.1 rfl (lv_room (Nat.le_of_ble_eq_true rfl)) dX2_rounds_5 ⟨Nat.zero_le _, Nat.zero_le _⟩) (fun r_1 h => ?_)
  refine lv_if_ne (tgt := 21) hx hb dX2_rounds_8 (by decide) (fun hc => ?_) (fun hc => ?_)
  · have h := h.1 hc
    refine lv_iload_n hx hb dX2_rounds_21 rfl (lv_at hl 1 rfl) ?_
    have hPc := va_P.sub (ws' := []) hP [] rfl
    refine rdI (va_runS (As := [.int p1]) (rest := []) ⟨hx, hb, hml, hown, hts⟩ (kX2_isSetOfGuards l G p1 h) (va_cwS 1 hts (gdS q436 q437 q1 q438) rfl rfl rfl (by decide +kernel) ⟨Nat.le_of_ble_eq_true rfl, Nat.le_of_ble_eq_true rfl⟩) (preS hPc hKK) rfl rfl hl.1 rfl (lv_room (Nat.le_of_ble_eq_true rfl)) dX2_rounds_22 ⟨Nat.zero_le _, Nat.zero_le _⟩) (fun r_2 h => ?_)
    refine lv_if_ne (tgt := 38) hx hb dX2_rounds_25 (by decide) (fun hc => ?_) (fun hc => ?_)
    · have h := h.1 hc
      refine lv_aload_n hx hb dX2_rounds_38 rfl (lv_at hl 0 rfl) ?_
      refine va_get (D := G.1) (ci := 5) (v := .ref u0) (C := RX2) (T := TX2) (N := 11) hx hb hts igX2 hown hK hP 0 rfl rfl 2 (by decide) (hts _ q178) (fun _ h9 => h9) rfl dX2_rounds_39 ?_
      refine lv_aload_n hx hb dX2_rounds_42 rfl (lv_at hl 0 rfl) ?_
      refine va_get (D := G.1) (ci := 5) (v := .ref s0) (C := RX2) (T := TX2) (N := 11) hx hb hts igX2 hown hK hP 0 rfl rfl 1 (by decide) (hts _ q177) (fun _ h9 => h9) rfl dX2_rounds_43 ?_
      have hPc := va_P.sub (ws' := [(u0, .inr (4, [.ref b0, .ref u1, .ref u2, .long uo, .int ur])), (u1, .inl (G.2 1, 384, .inr (.inl uk))), (u2, .inl (G.2 1, 40, .inr (.inl uw))), (s0, .inr (4, [.ref b0, .ref s1, .ref s2, .long op, .int re])), (s1, .inl (G.2 1, 384, .inr (.inl dk))), (s2, .inl (G.2 1, 40, .inr (.inl wg)))]) hP [4, 5, 6, 1, 2, 3] rfl
      have hDc := hD.sub (ws' := [(u0, .inr (4, [.ref b0, .ref u1, .ref u2, .long uo, .int ur])), (u1, .inl (G.2 1, 384, .inr (.inl uk))), (u2, .inl (G.2 1, 40, .inr (.inl uw))), (s0, .inr (4, [.ref b0, .ref s1, .ref s2, .long op, .int re])), (s1, .inl (G.2 1, 384, .inr (.inl dk))), (s2, .inl (G.2 1, 40, .inr (.inl wg)))]) [4, 5, 6, 1, 2, 3] (by decide) rfl
      have hFc := va_free (wc := [(u0, .inr (4, [.ref b0, .ref u1, .ref u2, .long uo, .int ur])), (u1, .inl (G.2 1, 384, .inr (.inl uk))), (u2, .inl (G.2 1, 40, .inr (.inl uw))), (s0, .inr (4, [.ref b0, .ref s1, .ref s2, .long op, .int re])), (s1, .inl (G.2 1, 384, .inr (.inl dk))), (s2, .inl (G.2 1, 40, .inr (.inl wg)))]) hD hS hA [4, 5, 6, 1, 2, 3] rfl
      refine va_callv (va_runV (C := RX1) (As := [.ref s0]) (rest := []) ⟨hx, hb, hml, hown, hts⟩ (kX1_copyFrom l G u0 u1 u2 b0 b0 s0 s1 s2 uk uw uo ur dk wg op re _ h) (cwV 1 hts (gdV q463 q464 q465 q3 q466) rfl rfl rfl (by decide +kernel) ⟨Nat.le_of_ble_eq_true rfl, Nat.le_of_ble_eq_true rfl⟩) (preVw hPc hKK hDc (va_recv hK hPc (ci := 4) (q0 := 0) rfl rfl)) rfl rfl hl.1 rfl (lv_room (Nat.le_of_ble_eq_true rfl)) dX2_rounds_46 ⟨Nat.zero_le _, Nat.zero_le _⟩) hS (fun q _ h => hFc q h) hFc (fun u t H1 locs ht hvm h hB hz1 hk1 hS => ?_)
      obtain ⟨dk_1, wg_1, op_1, re_1⟩ := u
      obtain ⟨hP1, hD1⟩ := hB
      rw [ht] at hP1
      obtain ⟨hP, hD⟩ := va_join (wr := [(x0, .inr (5, [.ref b0, .ref s0, .ref u0, .ref v0, .int tA, .int wP, .int nT, .int aK, .int lK, .int sW, .int rF])), (v0, .inr (4, [.ref b0, .ref v1, .ref v2, .long vo, .int vr])), (v1, .inl (G.2 1, 384, .inr (.inl vk))), (v2, .inl (G.2 1, 40, .inr (.inl vw))), (b0, .inr (3, [.ref b1, .ref b2, .ref b3, .ref b4, .ref b5, .ref b6, .int bn])), (b1, .inl (G.2 0, 40, .inl kf)), (b2, .inl (G.2 0, 40, .inl ff)), (b3, .inl (G.2 0, 40, .inl sf)), (b4, .inl (G.2 0, 40, .inl df)), (b5, .inl (G.2 1, 40, .inr (.inl pf))), (b6, .inl (G.2 1, 6, .inr (.inl gf)))]) (w1 := [(u0, .inr (4, [.ref b0, .ref u1, .ref u2, .long op_1, .int re_1])), (u1, .inl (G.2 1, 384, .inr (.inl dk_1))), (u2, .inl (G.2 1, 40, .inr (.inl wg_1))), (s0, .inr (4, [.ref b0, .ref s1, .ref s2, .long op, .int re])), (s1, .inl (G.2 1, 384, .inr (.inl dk))), (s2, .inl (G.2 1, 40, .inr (.inl wg)))]) hP hD [4, 5, 6, 1, 2, 3] [0, 7, 8, 9, 10, 11, 12, 13, 14, 15, 16] rfl rfl (by decide) (by decide) hk1 hFc hP1 hD1
      generalize H1 = H at hP hS ⊢
      have hP : PP G [(x0, .inr (5, [.ref b0, .ref s0, .ref u0, .ref v0, .int tA, .int wP, .int nT, .int aK, .int lK, .int sW, .int rF])), (s0, .inr (4, [.ref b0, .ref s1, .ref s2, .long op, .int re])), (s1, .inl (G.2 1, 384, .inr (.inl dk))), (s2, .inl (G.2 1, 40, .inr (.inl wg))), (u0, .inr (4, [.ref b0, .ref u1, .ref u2, .long op_1, .int re_1])), (u1, .inl (G.2 1, 384, .inr (.inl dk_1))), (u2, .inl (G.2 1, 40, .inr (.inl wg_1))), (v0, .inr (4, [.ref b0, .ref v1, .ref v2, .long vo, .int vr])), (v1, .inl (G.2 1, 384, .inr (.inl vk))), (v2, .inl (G.2 1, 40, .inr (.inl vw))), (b0, .inr (3, [.ref b1, .ref b2, .ref b3, .ref b4, .ref b5, .ref b6, .int bn])), (b1, .inl (G.2 0, 40, .inl kf)), (b2, .inl (G.2 0, 40, .inl ff)), (b3, .inl (G.2 0, 40, .inl sf)), (b4, .inl (G.2 0, 40, .inl df)), (b5, .inl (G.2 1, 40, .inr (.inl pf))), (b6, .inl (G.2 1, 6, .inr (.inl gf)))] H := va_P.sub hP [0, 14, 15, 16, 11, 12, 13, 1, 2, 3, 4, 5, 6, 7, 8, 9, 10] rfl
      have hD : va_D A [(x0, .inr (5, [.ref b0, .ref s0, .ref u0, .ref v0, .int tA, .int wP, .int nT, .int aK, .int lK, .int sW, .int rF])), (s0, .inr (4, [.ref b0, .ref s1, .ref s2, .long op, .int re])), (s1, .inl (G.2 1, 384, .inr (.inl dk))), (s2, .inl (G.2 1, 40, .inr (.inl wg))), (u0, .inr (4, [.ref b0, .ref u1, .ref u2, .long op_1, .int re_1])), (u1, .inl (G.2 1, 384, .inr (.inl dk_1))), (u2, .inl (G.2 1, 40, .inr (.inl wg_1))), (v0, .inr (4, [.ref b0, .ref v1, .ref v2, .long vo, .int vr])), (v1, .inl (G.2 1, 384, .inr (.inl vk))), (v2, .inl (G.2 1, 40, .inr (.inl vw))), (b0, .inr (3, [.ref b1, .ref b2, .ref b3, .ref b4, .ref b5, .ref b6, .int bn])), (b1, .inl (G.2 0, 40, .inl kf)), (b2, .inl (G.2 0, 40, .inl ff)), (b3, .inl (G.2 0, 40, .inl sf)), (b4, .inl (G.2 0, 40, .inl df)), (b5, .inl (G.2 1, 40, .inr (.inl pf))), (b6, .inl (G.2 1, 6, .inr (.inl gf)))] := hD.sub [0, 14, 15, 16, 11, 12, 13, 1, 2, 3, 4, 5, 6, 7, 8, 9, 10] (by decide) rfl
      refine lv_iconst (v := 0) hx hb dX2_rounds_49 (by decide) ?_
      refine lv_istore_n hx hb dX2_rounds_50 rfl hl (Nat.le_of_ble_eq_true rfl) rfl (fun ls hl => ?_)
      have hl : lv_has ls 6 [(3, .int (0 : Int32)), (0, .ref x0), (1, .int p1), (2, .int p2)] := hl
      have hl := lv_sub (l' := [(0, .ref x0), (1, .int p1), (2, .int p2), (3, .int (0 : Int32))]) hl [1, 2, 3, 0] rfl
      obtain ⟨nF, h⟩ := h
      refine loop51 _ dk_1 re_1 trivial ?_ nF (0 : Int32) wg_1 op_1 _ _ _ hl hP hD hS h
      · intro i3 uw' uo' ls H locs hl hP hD hS h
        refine lv_iconst (v := (-1)) hx hb dX2_rounds_133 (by decide) ?_
        refine vx_ret (W.widen (k := 1) (n := 6) (Nat.le_of_ble_eq_true rfl) (Nat.le_of_ble_eq_true rfl) ?_)
        subst hQC; exact W.iret (v := (-1 : Int32)) hx hb hr (fun t ht hW => ⟨⟨_, (dk_1, uw', uo', re_1), rfl, h, by rw [ht]; exact hP, hD⟩, hS.F ht⟩) hS.2.2 dX2_rounds_134
    · have h := h.2 hc
      obtain ⟨sa, hsa⟩ := hR.1 ("NightdeskRota", 158, "no such set of guards") (List.mem_of_getElem? (i := 6) rfl)
      subst hXC
      exact vx_throwS (names := rtx) (text := "no such set of guards") (sa := sa) hx hb hfl hown (by decide +kernel) (by decide +kernel) (hts _ q273) (hts _ q14) hsa (hatX hat43a hat43b hts hN hZ) hgd43 hZ.2.1 hZ.2.2 hS (hl.1.trans hml.symm) dX2_rounds_28 dX2_rounds_31 dX2_rounds_32 dX2_rounds_34 dX2_rounds_37 (fun x hx => (hT x hx).elim) (Nat.le_of_ble_eq_true rfl) (Nat.le_of_ble_eq_true rfl) (Nat.le_of_ble_eq_true rfl) (Nat.le_of_ble_eq_true rfl) hlocks (fun t ht h1 h2 => ⟨(), trivial, ⟨keepAll hP h2, hD, h⟩, h1, fun q hq _ => h2 q hq⟩) hS.2.2 (Nat.le_refl _) (Nat.le_refl _)
  · have h := h.2 hc
    obtain ⟨sa, hsa⟩ := hR.1 ("NightdeskRota", 119, "no such sentence") (List.mem_of_getElem? (i := 4) rfl)
    subst hXC
    exact vx_throwS (names := rtx) (text := "no such sentence") (sa := sa) hx hb hfl hown (by decide +kernel) (by decide +kernel) (hts _ q349) (hts _ q22) hsa (hatX hat87a hat87b hts hN hZ) hgd87 hZ.2.1 hZ.2.2 hS (hl.1.trans hml.symm) dX2_rounds_11 dX2_rounds_14 dX2_rounds_15 dX2_rounds_17 dX2_rounds_20 (fun x hx => (hT x hx).elim) (Nat.le_of_ble_eq_true rfl) (Nat.le_of_ble_eq_true rfl) (Nat.le_of_ble_eq_true rfl) (Nat.le_of_ble_eq_true rfl) hlocks (fun t ht h1 h2 => ⟨(), trivial, ⟨keepAll hP h2, hD, h⟩, h1, fun q hq _ => h2 q hq⟩) hS.2.2 (Nat.le_refl _) (Nat.le_refl _)
def wnX2_rounds_L51 (post : Int32 → (Nat → Int64) × (Nat → Int64) × Int64 × Int32 → Prop) (K133 : Int32 → (Nat → Int64) → Int64 → Prop) (kf : Nat → Int32) (ff : Nat → Int32) (sf : Nat → Int32) (pf : Nat → Int64) (bn : Int32) (p1 : Int32) (p2 : Int32) (dk_1 : Nat → Int64) (re_1 : Int32) : Nat → Int32 → (Nat → Int64) → Int64 → Prop
  | 0, _, _, _ => False
  | n+1, i3, uw', uo' =>
    (((64 : Int32) ≤ i3) →
      K133 i3 uw' uo'
    ) ∧ (¬ ((64 : Int32) ≤ i3) →
      wX1_knowersOf (fun r_4 : Int32 =>
        (((r_4 &&& p1) = 0) →
          wX1_answeringAlike (fun r_5 : Int64 =>
            wX1_keepOnly (fun (op_2 : Int64) =>
              ((¬ (lg_cmp op_2 uo') = 0) →
                wX0_partsOf (fun r_7 : Int64 =>
                  wX1_weigh (fun (wg_2 : Nat → Int64) =>
                    wnX2_rounds_L51 post K133 kf ff sf pf bn p1 p2 dk_1 re_1 n (i3 + 1) wg_2 op_2
                    ) dk_1 uw' op_2 kf ff sf bn r_7
                  ) pf bn p2
              ) ∧ (((lg_cmp op_2 uo') = 0) →
                post (-1 : Int32) (dk_1, uw', op_2, re_1)
              )
              ) uo' r_5
            ) dk_1 uw' uo' re_1 bn p1 p2
        ) ∧ (¬ ((r_4 &&& p1) = 0) →
          post i3 (dk_1, uw', uo', re_1)
        )
        ) dk_1 uw' uo' re_1 bn p2
    )
def wnX2_rounds (post : Int32 → (Nat → Int64) × (Nat → Int64) × Int64 × Int32 → Prop) (dk : Nat → Int64) (wg : Nat → Int64) (op : Int64) (re : Int32) (uk : Nat → Int64) (uw : Nat → Int64) (uo : Int64) (ur : Int32) (kf : Nat → Int32) (ff : Nat → Int32) (sf : Nat → Int32) (pf : Nat → Int64) (bn : Int32) (p1 : Int32) (p2 : Int32) : Prop :=
  wX0_holds (fun r_1 : Int32 =>
    ((¬ r_1 = 0) →
      wX2_isSetOfGuards (fun r_2 : Int32 =>
        ((¬ r_2 = 0) →
          wX1_copyFrom (fun (z_1 : (Nat → Int64) × (Nat → Int64) × Int64 × Int32) =>
            ∃ nF, wnX2_rounds_L51 post
              (fun i3 uw' uo' =>
                post (-1 : Int32) (z_1.1, uw', uo', z_1.2.2.2)
              )
              kf ff sf pf bn p1 p2 z_1.1 z_1.2.2.2 nF (0 : Int32) z_1.2.1 z_1.2.2.1
            ) uk uw uo ur dk wg op re
        ) ∧ ((r_2 = 0) →
          False
        )
        ) p1
    ) ∧ ((r_1 = 0) →
      False
    )
    ) bn p2
abbrev wl_nX2_rounds : List Cond := .code yX2_rounds cX2_rounds 6 (some .int) :: lwg
abbrev rm_nX2_rounds : Room := { frames := 5, cells := 0, slots := 0, locals := 128 }
set_option maxHeartbeats 4000000 in
set_option maxRecDepth 100000 in
theorem knX2_rounds {post : Int32 → (Nat → Int64) × (Nat → Int64) × Int64 × Int32 → Prop} (l : Launch) (G : GT) (x0 : Nat) (s0 : Nat) (s1 : Nat) (s2 : Nat) (u0 : Nat) (u1 : Nat) (u2 : Nat) (v0 : Nat) (v1 : Nat) (v2 : Nat) (b0 : Nat) (b1 : Nat) (b2 : Nat) (b3 : Nat) (b4 : Nat) (b5 : Nat) (b6 : Nat) (tA : Int32) (wP : Int32) (nT : Int32) (aK : Int32) (lK : Int32) (sW : Int32) (rF : Int32) (dk : Nat → Int64) (wg : Nat → Int64) (op : Int64) (re : Int32) (uk : Nat → Int64) (uw : Nat → Int64) (uo : Int64) (ur : Int32) (vk : Nat → Int64) (vw : Nat → Int64) (vo : Int64) (vr : Int32) (kf : Nat → Int32) (ff : Nat → Int32) (sf : Nat → Int32) (df : Nat → Int32) (pf : Nat → Int64) (gf : Nat → Int64) (bn : Int32) (p1 : Int32) (p2 : Int32) (sz : Nat) (h : wnX2_rounds post dk wg op re uk uw uo ur kf ff sf pf bn p1 p2) : Met l yX2_rounds wl_nX2_rounds rm_nX2_rounds (va_Pc [.ref x0, .int p1, .int p2] (fun U => U.heap.size = sz ∧ PP G [(x0, .inr (5, [.ref b0, .ref s0, .ref u0, .ref v0, .int tA, .int wP, .int nT, .int aK, .int lK, .int sW, .int rF])), (s0, .inr (4, [.ref b0, .ref s1, .ref s2, .long op, .int re])), (s1, .inl (G.2 1, 384, .inr (.inl dk))), (s2, .inl (G.2 1, 40, .inr (.inl wg))), (u0, .inr (4, [.ref b0, .ref u1, .ref u2, .long uo, .int ur])), (u1, .inl (G.2 1, 384, .inr (.inl uk))), (u2, .inl (G.2 1, 40, .inr (.inl uw))), (v0, .inr (4, [.ref b0, .ref v1, .ref v2, .long vo, .int vr])), (v1, .inl (G.2 1, 384, .inr (.inl vk))), (v2, .inl (G.2 1, 40, .inr (.inl vw))), (b0, .inr (3, [.ref b1, .ref b2, .ref b3, .ref b4, .ref b5, .ref b6, .int bn])), (b1, .inl (G.2 0, 40, .inl kf)), (b2, .inl (G.2 0, 40, .inl ff)), (b3, .inl (G.2 0, 40, .inl sf)), (b4, .inl (G.2 0, 40, .inl df)), (b5, .inl (G.2 1, 40, .inr (.inl pf))), (b6, .inl (G.2 1, 6, .inr (.inl gf)))] U.heap ∧ KK G U ∧ va_D (fun _ => True) [(x0, .inr (5, [.ref b0, .ref s0, .ref u0, .ref v0, .int tA, .int wP, .int nT, .int aK, .int lK, .int sW, .int rF])), (s0, .inr (4, [.ref b0, .ref s1, .ref s2, .long op, .int re])), (s1, .inl (G.2 1, 384, .inr (.inl dk))), (s2, .inl (G.2 1, 40, .inr (.inl wg))), (u0, .inr (4, [.ref b0, .ref u1, .ref u2, .long uo, .int ur])), (u1, .inl (G.2 1, 384, .inr (.inl uk))), (u2, .inl (G.2 1, 40, .inr (.inl uw))), (v0, .inr (4, [.ref b0, .ref v1, .ref v2, .long vo, .int vr])), (v1, .inl (G.2 1, 384, .inr (.inl vk))), (v2, .inl (G.2 1, 40, .inr (.inl vw))), (b0, .inr (3, [.ref b1, .ref b2, .ref b3, .ref b4, .ref b5, .ref b6, .int bn])), (b1, .inl (G.2 0, 40, .inl kf)), (b2, .inl (G.2 0, 40, .inl ff)), (b3, .inl (G.2 0, 40, .inl sf)), (b4, .inl (G.2 0, 40, .inl df)), (b5, .inl (G.2 1, 40, .inr (.inl pf))), (b6, .inl (G.2 1, 6, .inr (.inl gf)))] ∧ ZZ (va_A [(x0, .inr (5, [.ref b0, .ref s0, .ref u0, .ref v0, .int tA, .int wP, .int nT, .int aK, .int lK, .int sW, .int rF])), (s0, .inr (4, [.ref b0, .ref s1, .ref s2, .long op, .int re])), (s1, .inl (G.2 1, 384, .inr (.inl dk))), (s2, .inl (G.2 1, 40, .inr (.inl wg))), (u0, .inr (4, [.ref b0, .ref u1, .ref u2, .long uo, .int ur])), (u1, .inl (G.2 1, 384, .inr (.inl uk))), (u2, .inl (G.2 1, 40, .inr (.inl uw))), (v0, .inr (4, [.ref b0, .ref v1, .ref v2, .long vo, .int vr])), (v1, .inl (G.2 1, 384, .inr (.inl vk))), (v2, .inl (G.2 1, 40, .inr (.inl vw))), (b0, .inr (3, [.ref b1, .ref b2, .ref b3, .ref b4, .ref b5, .ref b6, .int bn])), (b1, .inl (G.2 0, 40, .inl kf)), (b2, .inl (G.2 0, 40, .inl ff)), (b3, .inl (G.2 0, 40, .inl sf)), (b4, .inl (G.2 0, 40, .inl df)), (b5, .inl (G.2 1, 40, .inr (.inl pf))), (b6, .inl (G.2 1, 6, .inr (.inl gf)))] sz) U U.heap)) (va_Qi post (fun u t => PP G [(x0, .inr (5, [.ref b0, .ref s0, .ref u0, .ref v0, .int tA, .int wP, .int nT, .int aK, .int lK, .int sW, .int rF])), (s0, .inr (4, [.ref b0, .ref s1, .ref s2, .long op, .int re])), (s1, .inl (G.2 1, 384, .inr (.inl dk))), (s2, .inl (G.2 1, 40, .inr (.inl wg))), (u0, .inr (4, [.ref b0, .ref u1, .ref u2, .long (u.2.2.1), .int (u.2.2.2)])), (u1, .inl (G.2 1, 384, .inr (.inl (u.1)))), (u2, .inl (G.2 1, 40, .inr (.inl (u.2.1)))), (v0, .inr (4, [.ref b0, .ref v1, .ref v2, .long vo, .int vr])), (v1, .inl (G.2 1, 384, .inr (.inl vk))), (v2, .inl (G.2 1, 40, .inr (.inl vw))), (b0, .inr (3, [.ref b1, .ref b2, .ref b3, .ref b4, .ref b5, .ref b6, .int bn])), (b1, .inl (G.2 0, 40, .inl kf)), (b2, .inl (G.2 0, 40, .inl ff)), (b3, .inl (G.2 0, 40, .inl sf)), (b4, .inl (G.2 0, 40, .inl df)), (b5, .inl (G.2 1, 40, .inr (.inl pf))), (b6, .inl (G.2 1, 6, .inr (.inl gf)))] t.heap ∧ va_D (va_A [(x0, .inr (5, [.ref b0, .ref s0, .ref u0, .ref v0, .int tA, .int wP, .int nT, .int aK, .int lK, .int sW, .int rF])), (s0, .inr (4, [.ref b0, .ref s1, .ref s2, .long op, .int re])), (s1, .inl (G.2 1, 384, .inr (.inl dk))), (s2, .inl (G.2 1, 40, .inr (.inl wg))), (u0, .inr (4, [.ref b0, .ref u1, .ref u2, .long uo, .int ur])), (u1, .inl (G.2 1, 384, .inr (.inl uk))), (u2, .inl (G.2 1, 40, .inr (.inl uw))), (v0, .inr (4, [.ref b0, .ref v1, .ref v2, .long vo, .int vr])), (v1, .inl (G.2 1, 384, .inr (.inl vk))), (v2, .inl (G.2 1, 40, .inr (.inl vw))), (b0, .inr (3, [.ref b1, .ref b2, .ref b3, .ref b4, .ref b5, .ref b6, .int bn])), (b1, .inl (G.2 0, 40, .inl kf)), (b2, .inl (G.2 0, 40, .inl ff)), (b3, .inl (G.2 0, 40, .inl sf)), (b4, .inl (G.2 0, 40, .inl df)), (b5, .inl (G.2 1, 40, .inr (.inl pf))), (b6, .inl (G.2 1, 6, .inr (.inl gf)))] sz) [(x0, .inr (5, [.ref b0, .ref s0, .ref u0, .ref v0, .int tA, .int wP, .int nT, .int aK, .int lK, .int sW, .int rF])), (s0, .inr (4, [.ref b0, .ref s1, .ref s2, .long op, .int re])), (s1, .inl (G.2 1, 384, .inr (.inl dk))), (s2, .inl (G.2 1, 40, .inr (.inl wg))), (u0, .inr (4, [.ref b0, .ref u1, .ref u2, .long (u.2.2.1), .int (u.2.2.2)])), (u1, .inl (G.2 1, 384, .inr (.inl (u.1)))), (u2, .inl (G.2 1, 40, .inr (.inl (u.2.1)))), (v0, .inr (4, [.ref b0, .ref v1, .ref v2, .long vo, .int vr])), (v1, .inl (G.2 1, 384, .inr (.inl vk))), (v2, .inl (G.2 1, 40, .inr (.inl vw))), (b0, .inr (3, [.ref b1, .ref b2, .ref b3, .ref b4, .ref b5, .ref b6, .int bn])), (b1, .inl (G.2 0, 40, .inl kf)), (b2, .inl (G.2 0, 40, .inl ff)), (b3, .inl (G.2 0, 40, .inl sf)), (b4, .inl (G.2 0, 40, .inl df)), (b5, .inl (G.2 1, 40, .inr (.inl pf))), (b6, .inl (G.2 1, 6, .inr (.inl gf)))]) (va_A [(x0, .inr (5, [.ref b0, .ref s0, .ref u0, .ref v0, .int tA, .int wP, .int nT, .int aK, .int lK, .int sW, .int rF])), (s0, .inr (4, [.ref b0, .ref s1, .ref s2, .long op, .int re])), (s1, .inl (G.2 1, 384, .inr (.inl dk))), (s2, .inl (G.2 1, 40, .inr (.inl wg))), (u0, .inr (4, [.ref b0, .ref u1, .ref u2, .long uo, .int ur])), (u1, .inl (G.2 1, 384, .inr (.inl uk))), (u2, .inl (G.2 1, 40, .inr (.inl uw))), (v0, .inr (4, [.ref b0, .ref v1, .ref v2, .long vo, .int vr])), (v1, .inl (G.2 1, 384, .inr (.inl vk))), (v2, .inl (G.2 1, 40, .inr (.inl vw))), (b0, .inr (3, [.ref b1, .ref b2, .ref b3, .ref b4, .ref b5, .ref b6, .int bn])), (b1, .inl (G.2 0, 40, .inl kf)), (b2, .inl (G.2 0, 40, .inl ff)), (b3, .inl (G.2 0, 40, .inl sf)), (b4, .inl (G.2 0, 40, .inl df)), (b5, .inl (G.2 1, 40, .inr (.inl pf))), (b6, .inl (G.2 1, 6, .inr (.inl gf)))] sz)) 0 0 (va_A [(x0, .inr (5, [.ref b0, .ref s0, .ref u0, .ref v0, .int tA, .int wP, .int nT, .int aK, .int lK, .int sW, .int rF])), (s0, .inr (4, [.ref b0, .ref s1, .ref s2, .long op, .int re])), (s1, .inl (G.2 1, 384, .inr (.inl dk))), (s2, .inl (G.2 1, 40, .inr (.inl wg))), (u0, .inr (4, [.ref b0, .ref u1, .ref u2, .long uo, .int ur])), (u1, .inl (G.2 1, 384, .inr (.inl uk))), (u2, .inl (G.2 1, 40, .inr (.inl uw))), (v0, .inr (4, [.ref b0, .ref v1, .ref v2, .long vo, .int vr])), (v1, .inl (G.2 1, 384, .inr (.inl vk))), (v2, .inl (G.2 1, 40, .inr (.inl vw))), (b0, .inr (3, [.ref b1, .ref b2, .ref b3, .ref b4, .ref b5, .ref b6, .int bn])), (b1, .inl (G.2 0, 40, .inl kf)), (b2, .inl (G.2 0, 40, .inl ff)), (b3, .inl (G.2 0, 40, .inl sf)), (b4, .inl (G.2 0, 40, .inl df)), (b5, .inl (G.2 1, 40, .inr (.inl pf))), (b6, .inl (G.2 1, 6, .inr (.inl gf)))] sz) := by
  refine Met.ofW (cc := cX2_rounds) (maxL := 6) (ret := (some .int)) (by decide) rfl ?_
  intro p e s m args below meth c s₁ B hml hv
  obtain ⟨rfl, hsz, hP, hKK, hD0, hZ⟩ := hv
  obtain ⟨hK, hN, hR, hFW, hNC⟩ := id hKK
  have hx := B.exec
  have hb := B.bytes
  have hr := B.returns
  have hts0 := atoms_spec (ws := wl_nX2_rounds) B.pre
  have hts : ∀ w ∈ lwg, w.before ([.ref x0, .int p1, .int p2] : List Value).toArray s = true := fun w hw => hts0 w (List.mem_cons_of_mem _ hw)
  have hown : s.vm.findClass RX2 = some m.cls := findClass_of_methodNamed B.named
  have hlocks := B.notSynchronized
  subst hsz
  have hD := hD0.self (sz := s.heap.size)
  generalize hAe : va_A [(x0, .inr (5, [.ref b0, .ref s0, .ref u0, .ref v0, .int tA, .int wP, .int nT, .int aK, .int lK, .int sW, .int rF])), (s0, .inr (4, [.ref b0, .ref s1, .ref s2, .long op, .int re])), (s1, .inl (G.2 1, 384, .inr (.inl dk))), (s2, .inl (G.2 1, 40, .inr (.inl wg))), (u0, .inr (4, [.ref b0, .ref u1, .ref u2, .long uo, .int ur])), (u1, .inl (G.2 1, 384, .inr (.inl uk))), (u2, .inl (G.2 1, 40, .inr (.inl uw))), (v0, .inr (4, [.ref b0, .ref v1, .ref v2, .long vo, .int vr])), (v1, .inl (G.2 1, 384, .inr (.inl vk))), (v2, .inl (G.2 1, 40, .inr (.inl vw))), (b0, .inr (3, [.ref b1, .ref b2, .ref b3, .ref b4, .ref b5, .ref b6, .int bn])), (b1, .inl (G.2 0, 40, .inl kf)), (b2, .inl (G.2 0, 40, .inl ff)), (b3, .inl (G.2 0, 40, .inl sf)), (b4, .inl (G.2 0, 40, .inl df)), (b5, .inl (G.2 1, 40, .inr (.inl pf))), (b6, .inl (G.2 1, 6, .inr (.inl gf)))] s.heap.size = A at hD hZ ⊢
  have hA : ∀ q : Nat, s.heap.size ≤ q → A q := fun q h => by rw [← hAe]; exact Or.inr h
  have hS : va_S A s.heap s.heap [] := va_S.rf
  obtain ⟨QC, hQC⟩ : ∃ Z, Z = (va_Qi post (fun u t => PP G [(x0, .inr (5, [.ref b0, .ref s0, .ref u0, .ref v0, .int tA, .int wP, .int nT, .int aK, .int lK, .int sW, .int rF])), (s0, .inr (4, [.ref b0, .ref s1, .ref s2, .long op, .int re])), (s1, .inl (G.2 1, 384, .inr (.inl dk))), (s2, .inl (G.2 1, 40, .inr (.inl wg))), (u0, .inr (4, [.ref b0, .ref u1, .ref u2, .long (u.2.2.1), .int (u.2.2.2)])), (u1, .inl (G.2 1, 384, .inr (.inl (u.1)))), (u2, .inl (G.2 1, 40, .inr (.inl (u.2.1)))), (v0, .inr (4, [.ref b0, .ref v1, .ref v2, .long vo, .int vr])), (v1, .inl (G.2 1, 384, .inr (.inl vk))), (v2, .inl (G.2 1, 40, .inr (.inl vw))), (b0, .inr (3, [.ref b1, .ref b2, .ref b3, .ref b4, .ref b5, .ref b6, .int bn])), (b1, .inl (G.2 0, 40, .inl kf)), (b2, .inl (G.2 0, 40, .inl ff)), (b3, .inl (G.2 0, 40, .inl sf)), (b4, .inl (G.2 0, 40, .inl df)), (b5, .inl (G.2 1, 40, .inr (.inl pf))), (b6, .inl (G.2 1, 6, .inr (.inl gf)))] t.heap ∧ va_D A [(x0, .inr (5, [.ref b0, .ref s0, .ref u0, .ref v0, .int tA, .int wP, .int nT, .int aK, .int lK, .int sW, .int rF])), (s0, .inr (4, [.ref b0, .ref s1, .ref s2, .long op, .int re])), (s1, .inl (G.2 1, 384, .inr (.inl dk))), (s2, .inl (G.2 1, 40, .inr (.inl wg))), (u0, .inr (4, [.ref b0, .ref u1, .ref u2, .long (u.2.2.1), .int (u.2.2.2)])), (u1, .inl (G.2 1, 384, .inr (.inl (u.1)))), (u2, .inl (G.2 1, 40, .inr (.inl (u.2.1)))), (v0, .inr (4, [.ref b0, .ref v1, .ref v2, .long vo, .int vr])), (v1, .inl (G.2 1, 384, .inr (.inl vk))), (v2, .inl (G.2 1, 40, .inr (.inl vw))), (b0, .inr (3, [.ref b1, .ref b2, .ref b3, .ref b4, .ref b5, .ref b6, .int bn])), (b1, .inl (G.2 0, 40, .inl kf)), (b2, .inl (G.2 0, 40, .inl ff)), (b3, .inl (G.2 0, 40, .inl sf)), (b4, .inl (G.2 0, 40, .inl df)), (b5, .inl (G.2 1, 40, .inr (.inl pf))), (b6, .inl (G.2 1, 6, .inr (.inl gf)))]) A) := ⟨_, rfl⟩
  rw [← hQC]
  obtain ⟨⟨zt, hZ1, hT1⟩, hZ2⟩ := id hZ
  have hP : PP G [(x0, .inr (5, [.ref b0, .ref s0, .ref u0, .ref v0, .int tA, .int wP, .int nT, .int aK, .int lK, .int sW, .int rF])), (s0, .inr (4, [.ref b0, .ref s1, .ref s2, .long op, .int re])), (s1, .inl (G.2 1, 384, .inr (.inl dk))), (s2, .inl (G.2 1, 40, .inr (.inl wg))), (u0, .inr (4, [.ref b0, .ref u1, .ref u2, .long uo, .int ur])), (u1, .inl (G.2 1, 384, .inr (.inl uk))), (u2, .inl (G.2 1, 40, .inr (.inl uw))), (v0, .inr (4, [.ref b0, .ref v1, .ref v2, .long vo, .int vr])), (v1, .inl (G.2 1, 384, .inr (.inl vk))), (v2, .inl (G.2 1, 40, .inr (.inl vw))), (b0, .inr (3, [.ref b1, .ref b2, .ref b3, .ref b4, .ref b5, .ref b6, .int bn])), (b1, .inl (G.2 0, 40, .inl kf)), (b2, .inl (G.2 0, 40, .inl ff)), (b3, .inl (G.2 0, 40, .inl sf)), (b4, .inl (G.2 0, 40, .inl df)), (b5, .inl (G.2 1, 40, .inr (.inl pf))), (b6, .inl (G.2 1, 6, .inr (.inl gf)))] s.heap := hP
  have hl := lv_entry ([.ref x0, .int p1, .int p2]) (n := 6) (Nat.le_of_ble_eq_true rfl)
  rw [lg_entry_eq]
  generalize (lg_sl ([.ref x0, .int p1, .int p2]) ++ List.replicate (6 - (lg_sl ([.ref x0, .int p1, .int p2])).length) Slot.unset).toArray = ls at hl ⊢
  have hl : lv_has ls 6 [(0, .ref x0), (1, .int p1), (2, .int p2)] := hl
  have loop51 : ∀ (K133 : Int32 → (Nat → Int64) → Int64 → Prop) (dk_1 : Nat → Int64) (re_1 : Int32), True → (∀ (i3 : Int32) (uw' : Nat → Int64) (uo' : Int64) (ls : Array Slot) (H : Heap) (locs : List Loc), lv_has ls 6 [(0, .ref x0), (1, .int p1), (2, .int p2), (3, .int i3)] → PP G [(x0, .inr (5, [.ref b0, .ref s0, .ref u0, .ref v0, .int tA, .int wP, .int nT, .int aK, .int lK, .int sW, .int rF])), (s0, .inr (4, [.ref b0, .ref s1, .ref s2, .long op, .int re])), (s1, .inl (G.2 1, 384, .inr (.inl dk))), (s2, .inl (G.2 1, 40, .inr (.inl wg))), (u0, .inr (4, [.ref b0, .ref u1, .ref u2, .long uo', .int re_1])), (u1, .inl (G.2 1, 384, .inr (.inl dk_1))), (u2, .inl (G.2 1, 40, .inr (.inl uw'))), (v0, .inr (4, [.ref b0, .ref v1, .ref v2, .long vo, .int vr])), (v1, .inl (G.2 1, 384, .inr (.inl vk))), (v2, .inl (G.2 1, 40, .inr (.inl vw))), (b0, .inr (3, [.ref b1, .ref b2, .ref b3, .ref b4, .ref b5, .ref b6, .int bn])), (b1, .inl (G.2 0, 40, .inl kf)), (b2, .inl (G.2 0, 40, .inl ff)), (b3, .inl (G.2 0, 40, .inl sf)), (b4, .inl (G.2 0, 40, .inl df)), (b5, .inl (G.2 1, 40, .inr (.inl pf))), (b6, .inl (G.2 1, 6, .inr (.inl gf)))] H → va_D A [(x0, .inr (5, [.ref b0, .ref s0, .ref u0, .ref v0, .int tA, .int wP, .int nT, .int aK, .int lK, .int sW, .int rF])), (s0, .inr (4, [.ref b0, .ref s1, .ref s2, .long op, .int re])), (s1, .inl (G.2 1, 384, .inr (.inl dk))), (s2, .inl (G.2 1, 40, .inr (.inl wg))), (u0, .inr (4, [.ref b0, .ref u1, .ref u2, .long uo', .int re_1])), (u1, .inl (G.2 1, 384, .inr (.inl dk_1))), (u2, .inl (G.2 1, 40, .inr (.inl uw'))), (v0, .inr (4, [.ref b0, .ref v1, .ref v2, .long vo, .int vr])), (v1, .inl (G.2 1, 384, .inr (.inl vk))), (v2, .inl (G.2 1, 40, .inr (.inl vw))), (b0, .inr (3, [.ref b1, .ref b2, .ref b3, .ref b4, .ref b5, .ref b6, .int bn])), (b1, .inl (G.2 0, 40, .inl kf)), (b2, .inl (G.2 0, 40, .inl ff)), (b3, .inl (G.2 0, 40, .inl sf)), (b4, .inl (G.2 0, 40, .inl df)), (b5, .inl (G.2 1, 40, .inr (.inl pf))), (b6, .inl (G.2 1, 6, .inr (.inl gf)))] → va_S A s.heap H locs → K133 i3 uw' uo' → W p l e (headSpec (wl_nX2_rounds) rm_nX2_rounds).room s m ([.ref x0, .int p1, .int p2] : List Value).toArray below meth c H locs 0 0 (MQ below QC ([.ref x0, .int p1, .int p2] : List Value).toArray s 0 0 A) (F0 m 133 ls [])) → ∀ (n : Nat) (i3 : Int32) (uw' : Nat → Int64) (uo' : Int64) (ls : Array Slot) (H : Heap) (locs : List Loc), lv_has ls 6 [(0, .ref x0), (1, .int p1), (2, .int p2), (3, .int i3)] → PP G [(x0, .inr (5, [.ref b0, .ref s0, .ref u0, .ref v0, .int tA, .int wP, .int nT, .int aK, .int lK, .int sW, .int rF])), (s0, .inr (4, [.ref b0, .ref s1, .ref s2, .long op, .int re])), (s1, .inl (G.2 1, 384, .inr (.inl dk))), (s2, .inl (G.2 1, 40, .inr (.inl wg))), (u0, .inr (4, [.ref b0, .ref u1, .ref u2, .long uo', .int re_1])), (u1, .inl (G.2 1, 384, .inr (.inl dk_1))), (u2, .inl (G.2 1, 40, .inr (.inl uw'))), (v0, .inr (4, [.ref b0, .ref v1, .ref v2, .long vo, .int vr])), (v1, .inl (G.2 1, 384, .inr (.inl vk))), (v2, .inl (G.2 1, 40, .inr (.inl vw))), (b0, .inr (3, [.ref b1, .ref b2, .ref b3, .ref b4, .ref b5, .ref b6, .int bn])), (b1, .inl (G.2 0, 40, .inl kf)), (b2, .inl (G.2 0, 40, .inl ff)), (b3, .inl (G.2 0, 40, .inl sf)), (b4, .inl (G.2 0, 40, .inl df)), (b5, .inl (G.2 1, 40, .inr (.inl pf))), (b6, .inl (G.2 1, 6, .inr (.inl gf)))] H → va_D A [(x0, .inr (5, [.ref b0, .ref s0, .ref u0, .ref v0, .int tA, .int wP, .int nT, .int aK, .int lK, .int sW, .int rF])), (s0, .inr (4, [.ref b0, .ref s1, .ref s2, .long op, .int re])), (s1, .inl (G.2 1, 384, .inr (.inl dk))), (s2, .inl (G.2 1, 40, .inr (.inl wg))), (u0, .inr (4, [.ref b0, .ref u1, .ref u2, .long uo', .int re_1])), (u1, .inl (G.2 1, 384, .inr (.inl dk_1))), (u2, .inl (G.2 1, 40, .inr (.inl uw'))), (v0, .inr (4, [.ref b0, .ref v1, .ref v2, .long vo, .int vr])), (v1, .inl (G.2 1, 384, .inr (.inl vk))), (v2, .inl (G.2 1, 40, .inr (.inl vw))), (b0, .inr (3, [.ref b1, .ref b2, .ref b3, .ref b4, .ref b5, .ref b6, .int bn])), (b1, .inl (G.2 0, 40, .inl kf)), (b2, .inl (G.2 0, 40, .inl ff)), (b3, .inl (G.2 0, 40, .inl sf)), (b4, .inl (G.2 0, 40, .inl df)), (b5, .inl (G.2 1, 40, .inr (.inl pf))), (b6, .inl (G.2 1, 6, .inr (.inl gf)))] → va_S A s.heap H locs → wnX2_rounds_L51 post K133 kf ff sf pf bn p1 p2 dk_1 re_1 n i3 uw' uo' → W p l e (headSpec (wl_nX2_rounds) rm_nX2_rounds).room s m ([.ref x0, .int p1, .int p2] : List Value).toArray below meth c H locs 0 0 (MQ below QC ([.ref x0, .int p1, .int p2] : List Value).toArray s 0 0 A) (F0 m 51 ls []) := by
    intro K133 dk_1 re_1 _ hexit133 n
    induction n with
    | zero => intro i3 uw' uo' ls H locs hl hP hD hS h; exact False.elim h
    | succ n ih =>
      intro i3 uw' uo' ls H locs hl hP hD hS h
      refine lv_iload_n hx hb dX2_rounds_51 rfl (lv_at hl 3 rfl) ?_
      refine lv_bipush (v := 64) hx hb dX2_rounds_52 (by decide) ?_
      refine lv_icmp_ge (tgt := 133) hx hb dX2_rounds_54 (by decide) (fun hc => ?_) (fun hc => ?_)
      · have h := h.1 hc
        have hl := lv_sub (l' := [(0, .ref x0), (1, .int p1), (2, .int p2), (3, .int i3)]) hl [0, 1, 2, 3] rfl
        exact hexit133 _ _ _ ls H locs hl hP hD hS h
      · have h := h.2 hc
        refine lv_aload_n hx hb dX2_rounds_57 rfl (lv_at hl 0 rfl) ?_
        refine va_get (D := G.1) (ci := 5) (v := .ref u0) (C := RX2) (T := TX2) (N := 11) hx hb hts igX2 hown hK hP 0 rfl rfl 2 (by decide) (hts _ q178) (fun _ h9 => h9) rfl dX2_rounds_58 ?_
        refine lv_iload_n hx hb dX2_rounds_61 rfl (lv_at hl 2 rfl) ?_
        have hPc := va_P.sub (ws' := [(u0, .inr (4, [.ref b0, .ref u1, .ref u2, .long uo', .int re_1])), (u1, .inl (G.2 1, 384, .inr (.inl dk_1))), (u2, .inl (G.2 1, 40, .inr (.inl uw'))), (b0, .inr (3, [.ref b1, .ref b2, .ref b3, .ref b4, .ref b5, .ref b6, .int bn])), (b1, .inl (G.2 0, 40, .inl kf)), (b2, .inl (G.2 0, 40, .inl ff)), (b3, .inl (G.2 0, 40, .inl sf)), (b4, .inl (G.2 0, 40, .inl df)), (b5, .inl (G.2 1, 40, .inr (.inl pf))), (b6, .inl (G.2 1, 6, .inr (.inl gf)))]) hP [4, 5, 6, 10, 11, 12, 13, 14, 15, 16] rfl
        refine rdI (va_runV (C := RX1) (As := [.int p2]) (rest := []) ⟨hx, hb, hml, hown, hts⟩ (kX1_knowersOf l G u0 u1 u2 b0 b1 b2 b3 b4 b5 b6 dk_1 uw' uo' re_1 kf ff sf df pf gf bn p2 h) (cwV 1 hts (gdV q414 q232 q233 q3 q234) rfl rfl rfl (by decide +kernel) ⟨Nat.le_of_ble_eq_true rfl, Nat.le_of_ble_eq_true rfl⟩) (preV hPc hKK (va_recv hK hPc (ci := 4) (q0 := 0) rfl rfl)) rfl rfl hl.1 rfl (lv_room (Nat.le_of_ble_eq_true rfl)) dX2_rounds_62 ⟨Nat.zero_le _, Nat.zero_le _⟩) (fun r_4 h => ?_)
        refine lv_iload_n hx hb dX2_rounds_65 rfl (lv_at hl 1 rfl) ?_
        refine lv_iand hx hb dX2_rounds_66 ?_
        refine lv_if_eq (tgt := 72) hx hb dX2_rounds_67 (by decide) (fun hc => ?_) (fun hc => ?_)
        · have h := h.1 hc
          refine lv_aload_n hx hb dX2_rounds_72 rfl (lv_at hl 0 rfl) ?_
          refine va_get (D := G.1) (ci := 5) (v := .ref u0) (C := RX2) (T := TX2) (N := 11) hx hb hts igX2 hown hK hP 0 rfl rfl 2 (by decide) (hts _ q178) (fun _ h9 => h9) rfl dX2_rounds_73 ?_
          refine va_getN (D := G.1) (ci := 4) (v := .long uo') (C := RX1) (T := TX1) (N := 5) hx hb hts igX1 hown hK hP 4 rfl rfl 3 (by decide) (va_Nw.use rfl (hN _ n77)) (fun _ h9 => h9) rfl dX2_rounds_76 ?_
          refine lv_lstore hx hb dX2_rounds_79 hl (Nat.le_of_ble_eq_true rfl) rfl (fun ls hl => ?_)
          have hl : lv_has ls 6 [(4, .long uo'), (0, .ref x0), (1, .int p1), (2, .int p2), (3, .int i3)] := hl
          refine lv_aload_n hx hb dX2_rounds_81 rfl (lv_at hl 1 rfl) ?_
          refine va_get (D := G.1) (ci := 5) (v := .ref u0) (C := RX2) (T := TX2) (N := 11) hx hb hts igX2 hown hK hP 0 rfl rfl 2 (by decide) (hts _ q178) (fun _ h9 => h9) rfl dX2_rounds_82 ?_
          refine lv_aload_n hx hb dX2_rounds_85 rfl (lv_at hl 1 rfl) ?_
          refine va_get (D := G.1) (ci := 5) (v := .ref u0) (C := RX2) (T := TX2) (N := 11) hx hb hts igX2 hown hK hP 0 rfl rfl 2 (by decide) (hts _ q178) (fun _ h9 => h9) rfl dX2_rounds_86 ?_
          refine lv_iload_n hx hb dX2_rounds_89 rfl (lv_at hl 2 rfl) ?_
          refine lv_iload_n hx hb dX2_rounds_90 rfl (lv_at hl 3 rfl) ?_
          have hPc := va_P.sub (ws' := [(u0, .inr (4, [.ref b0, .ref u1, .ref u2, .long uo', .int re_1])), (u1, .inl (G.2 1, 384, .inr (.inl dk_1))), (u2, .inl (G.2 1, 40, .inr (.inl uw'))), (b0, .inr (3, [.ref b1, .ref b2, .ref b3, .ref b4, .ref b5, .ref b6, .int bn])), (b1, .inl (G.2 0, 40, .inl kf)), (b2, .inl (G.2 0, 40, .inl ff)), (b3, .inl (G.2 0, 40, .inl sf)), (b4, .inl (G.2 0, 40, .inl df)), (b5, .inl (G.2 1, 40, .inr (.inl pf))), (b6, .inl (G.2 1, 6, .inr (.inl gf)))]) hP [4, 5, 6, 10, 11, 12, 13, 14, 15, 16] rfl
          refine rdL (va_runV (C := RX1) (As := [.int p1, .int p2]) (rest := [.ref u0]) ⟨hx, hb, hml, hown, hts⟩ (kX1_answeringAlike l G u0 u1 u2 b0 b1 b2 b3 b4 b5 b6 dk_1 uw' uo' re_1 kf ff sf df pf gf bn p1 p2 h) (cwV 2 hts (gdV q480 q481 q482 q3 q483) rfl rfl rfl (by decide +kernel) ⟨Nat.le_of_ble_eq_true rfl, Nat.le_of_ble_eq_true rfl⟩) (preV hPc hKK (va_recv hK hPc (ci := 4) (q0 := 0) rfl rfl)) rfl rfl hl.1 rfl (lv_room (Nat.le_of_ble_eq_true rfl)) dX2_rounds_91 ⟨Nat.zero_le _, Nat.zero_le _⟩) (fun r_5 h => ?_)
          have hPc := va_P.sub (ws' := [(u0, .inr (4, [.ref b0, .ref u1, .ref u2, .long uo', .int re_1])), (u1, .inl (G.2 1, 384, .inr (.inl dk_1))), (u2, .inl (G.2 1, 40, .inr (.inl uw'))), (b0, .inr (3, [.ref b1, .ref b2, .ref b3, .ref b4, .ref b5, .ref b6, .int bn])), (b1, .inl (G.2 0, 40, .inl kf)), (b2, .inl (G.2 0, 40, .inl ff)), (b3, .inl (G.2 0, 40, .inl sf)), (b4, .inl (G.2 0, 40, .inl df)), (b5, .inl (G.2 1, 40, .inr (.inl pf))), (b6, .inl (G.2 1, 6, .inr (.inl gf)))]) hP [4, 5, 6, 10, 11, 12, 13, 14, 15, 16] rfl
          have hDc := hD.sub (ws' := [(u0, .inr (4, [.ref b0, .ref u1, .ref u2, .long uo', .int re_1])), (u1, .inl (G.2 1, 384, .inr (.inl dk_1))), (u2, .inl (G.2 1, 40, .inr (.inl uw'))), (b0, .inr (3, [.ref b1, .ref b2, .ref b3, .ref b4, .ref b5, .ref b6, .int bn])), (b1, .inl (G.2 0, 40, .inl kf)), (b2, .inl (G.2 0, 40, .inl ff)), (b3, .inl (G.2 0, 40, .inl sf)), (b4, .inl (G.2 0, 40, .inl df)), (b5, .inl (G.2 1, 40, .inr (.inl pf))), (b6, .inl (G.2 1, 6, .inr (.inl gf)))]) [4, 5, 6, 10, 11, 12, 13, 14, 15, 16] (by decide) rfl
          have hFc := va_free (wc := [(u0, .inr (4, [.ref b0, .ref u1, .ref u2, .long uo', .int re_1])), (u1, .inl (G.2 1, 384, .inr (.inl dk_1))), (u2, .inl (G.2 1, 40, .inr (.inl uw'))), (b0, .inr (3, [.ref b1, .ref b2, .ref b3, .ref b4, .ref b5, .ref b6, .int bn])), (b1, .inl (G.2 0, 40, .inl kf)), (b2, .inl (G.2 0, 40, .inl ff)), (b3, .inl (G.2 0, 40, .inl sf)), (b4, .inl (G.2 0, 40, .inl df)), (b5, .inl (G.2 1, 40, .inr (.inl pf))), (b6, .inl (G.2 1, 6, .inr (.inl gf)))]) hD hS hA [4, 5, 6, 10, 11, 12, 13, 14, 15, 16] rfl
          refine va_callv (va_runV (C := RX1) (As := [.long r_5]) (rest := []) ⟨hx, hb, hml, hown, hts⟩ (kX1_keepOnly l G u0 u1 u2 b0 b1 b2 b3 b4 b5 b6 dk_1 uw' uo' re_1 kf ff sf df pf gf bn r_5 _ h) (cwV 1 hts (gdV q484 q485 q486 q3 q487) rfl rfl rfl (by decide +kernel) ⟨Nat.le_of_ble_eq_true rfl, Nat.le_of_ble_eq_true rfl⟩) (preVw hPc hKK hDc (va_recv hK hPc (ci := 4) (q0 := 0) rfl rfl)) rfl rfl hl.1 rfl (lv_room (Nat.le_of_ble_eq_true rfl)) dX2_rounds_94 ⟨Nat.zero_le _, Nat.zero_le _⟩) hS (fun q _ h => hFc q h) hFc (fun u t H1 locs ht hvm h hB hz1 hk1 hS => ?_)
          obtain ⟨op_2, rfl⟩ : ∃ z, z = u := ⟨_, rfl⟩
          obtain ⟨hP1, hD1⟩ := hB
          rw [ht] at hP1
          obtain ⟨hP, hD⟩ := va_join (wr := [(x0, .inr (5, [.ref b0, .ref s0, .ref u0, .ref v0, .int tA, .int wP, .int nT, .int aK, .int lK, .int sW, .int rF])), (s0, .inr (4, [.ref b0, .ref s1, .ref s2, .long op, .int re])), (s1, .inl (G.2 1, 384, .inr (.inl dk))), (s2, .inl (G.2 1, 40, .inr (.inl wg))), (v0, .inr (4, [.ref b0, .ref v1, .ref v2, .long vo, .int vr])), (v1, .inl (G.2 1, 384, .inr (.inl vk))), (v2, .inl (G.2 1, 40, .inr (.inl vw)))]) (w1 := [(u0, .inr (4, [.ref b0, .ref u1, .ref u2, .long op_2, .int re_1])), (u1, .inl (G.2 1, 384, .inr (.inl dk_1))), (u2, .inl (G.2 1, 40, .inr (.inl uw'))), (b0, .inr (3, [.ref b1, .ref b2, .ref b3, .ref b4, .ref b5, .ref b6, .int bn])), (b1, .inl (G.2 0, 40, .inl kf)), (b2, .inl (G.2 0, 40, .inl ff)), (b3, .inl (G.2 0, 40, .inl sf)), (b4, .inl (G.2 0, 40, .inl df)), (b5, .inl (G.2 1, 40, .inr (.inl pf))), (b6, .inl (G.2 1, 6, .inr (.inl gf)))]) hP hD [4, 5, 6, 10, 11, 12, 13, 14, 15, 16] [0, 1, 2, 3, 7, 8, 9] rfl rfl (by decide) (by decide) hk1 hFc hP1 hD1
          generalize H1 = H at hP hS ⊢
          have hP : PP G [(x0, .inr (5, [.ref b0, .ref s0, .ref u0, .ref v0, .int tA, .int wP, .int nT, .int aK, .int lK, .int sW, .int rF])), (s0, .inr (4, [.ref b0, .ref s1, .ref s2, .long op, .int re])), (s1, .inl (G.2 1, 384, .inr (.inl dk))), (s2, .inl (G.2 1, 40, .inr (.inl wg))), (u0, .inr (4, [.ref b0, .ref u1, .ref u2, .long op_2, .int re_1])), (u1, .inl (G.2 1, 384, .inr (.inl dk_1))), (u2, .inl (G.2 1, 40, .inr (.inl uw'))), (v0, .inr (4, [.ref b0, .ref v1, .ref v2, .long vo, .int vr])), (v1, .inl (G.2 1, 384, .inr (.inl vk))), (v2, .inl (G.2 1, 40, .inr (.inl vw))), (b0, .inr (3, [.ref b1, .ref b2, .ref b3, .ref b4, .ref b5, .ref b6, .int bn])), (b1, .inl (G.2 0, 40, .inl kf)), (b2, .inl (G.2 0, 40, .inl ff)), (b3, .inl (G.2 0, 40, .inl sf)), (b4, .inl (G.2 0, 40, .inl df)), (b5, .inl (G.2 1, 40, .inr (.inl pf))), (b6, .inl (G.2 1, 6, .inr (.inl gf)))] H := va_P.sub hP [0, 1, 2, 3, 7, 8, 9, 4, 5, 6, 10, 11, 12, 13, 14, 15, 16] rfl
          have hD : va_D A [(x0, .inr (5, [.ref b0, .ref s0, .ref u0, .ref v0, .int tA, .int wP, .int nT, .int aK, .int lK, .int sW, .int rF])), (s0, .inr (4, [.ref b0, .ref s1, .ref s2, .long op, .int re])), (s1, .inl (G.2 1, 384, .inr (.inl dk))), (s2, .inl (G.2 1, 40, .inr (.inl wg))), (u0, .inr (4, [.ref b0, .ref u1, .ref u2, .long op_2, .int re_1])), (u1, .inl (G.2 1, 384, .inr (.inl dk_1))), (u2, .inl (G.2 1, 40, .inr (.inl uw'))), (v0, .inr (4, [.ref b0, .ref v1, .ref v2, .long vo, .int vr])), (v1, .inl (G.2 1, 384, .inr (.inl vk))), (v2, .inl (G.2 1, 40, .inr (.inl vw))), (b0, .inr (3, [.ref b1, .ref b2, .ref b3, .ref b4, .ref b5, .ref b6, .int bn])), (b1, .inl (G.2 0, 40, .inl kf)), (b2, .inl (G.2 0, 40, .inl ff)), (b3, .inl (G.2 0, 40, .inl sf)), (b4, .inl (G.2 0, 40, .inl df)), (b5, .inl (G.2 1, 40, .inr (.inl pf))), (b6, .inl (G.2 1, 6, .inr (.inl gf)))] := hD.sub [0, 1, 2, 3, 7, 8, 9, 4, 5, 6, 10, 11, 12, 13, 14, 15, 16] (by decide) rfl
          refine lv_aload_n hx hb dX2_rounds_97 rfl (lv_at hl 1 rfl) ?_
          refine va_get (D := G.1) (ci := 5) (v := .ref u0) (C := RX2) (T := TX2) (N := 11) hx hb hts igX2 hown hK hP 0 rfl rfl 2 (by decide) (hts _ q178) (fun _ h9 => h9) rfl dX2_rounds_98 ?_
          refine va_getN (D := G.1) (ci := 4) (v := .long op_2) (C := RX1) (T := TX1) (N := 5) hx hb hts igX1 hown hK hP 4 rfl rfl 3 (by decide) (va_Nw.use rfl (hN _ n77)) (fun _ h9 => h9) rfl dX2_rounds_101 ?_
          refine lv_lload hx hb dX2_rounds_104 (lv_at hl 0 rfl) ?_
          refine W.lcmp hx hb dX2_rounds_106 ?_
          refine lv_if_ne (tgt := 112) hx hb dX2_rounds_107 (by decide) (fun hc => ?_) (fun hc => ?_)
          · have h := h.1 hc
            refine lv_aload_n hx hb dX2_rounds_112 rfl (lv_at hl 1 rfl) ?_
            refine va_get (D := G.1) (ci := 5) (v := .ref u0) (C := RX2) (T := TX2) (N := 11) hx hb hts igX2 hown hK hP 0 rfl rfl 2 (by decide) (hts _ q178) (fun _ h9 => h9) rfl dX2_rounds_113 ?_
            refine lv_aload_n hx hb dX2_rounds_116 rfl (lv_at hl 1 rfl) ?_
            refine va_get (D := G.1) (ci := 5) (v := .ref b0) (C := RX2) (T := TX2) (N := 11) hx hb hts igX2 hown hK hP 0 rfl rfl 0 (by decide) (hts _ q176) (fun _ h9 => h9) rfl dX2_rounds_117 ?_
            refine lv_iload_n hx hb dX2_rounds_120 rfl (lv_at hl 3 rfl) ?_
            have hPc := va_P.sub (ws' := [(b0, .inr (3, [.ref b1, .ref b2, .ref b3, .ref b4, .ref b5, .ref b6, .int bn])), (b1, .inl (G.2 0, 40, .inl kf)), (b2, .inl (G.2 0, 40, .inl ff)), (b3, .inl (G.2 0, 40, .inl sf)), (b4, .inl (G.2 0, 40, .inl df)), (b5, .inl (G.2 1, 40, .inr (.inl pf))), (b6, .inl (G.2 1, 6, .inr (.inl gf)))]) hP [10, 11, 12, 13, 14, 15, 16] rfl
            refine rdL (va_runV (C := RX0) (As := [.int p2]) (rest := [.ref u0]) ⟨hx, hb, hml, hown, hts⟩ (kX0_partsOf l G b0 b1 b2 b3 b4 b5 b6 kf ff sf df pf gf bn p2 h) (cwV 1 hts (gdV q488 q460 q461 q2 q462) rfl rfl rfl (by decide +kernel) ⟨Nat.le_of_ble_eq_true rfl, Nat.le_of_ble_eq_true rfl⟩) (preV hPc hKK (va_recv hK hPc (ci := 3) (q0 := 0) rfl rfl)) rfl rfl hl.1 rfl (lv_room (Nat.le_of_ble_eq_true rfl)) dX2_rounds_121 ⟨Nat.zero_le _, Nat.zero_le _⟩) (fun r_7 h => ?_)
            have hPc := va_P.sub (ws' := [(u0, .inr (4, [.ref b0, .ref u1, .ref u2, .long op_2, .int re_1])), (u1, .inl (G.2 1, 384, .inr (.inl dk_1))), (u2, .inl (G.2 1, 40, .inr (.inl uw'))), (b0, .inr (3, [.ref b1, .ref b2, .ref b3, .ref b4, .ref b5, .ref b6, .int bn])), (b1, .inl (G.2 0, 40, .inl kf)), (b2, .inl (G.2 0, 40, .inl ff)), (b3, .inl (G.2 0, 40, .inl sf)), (b4, .inl (G.2 0, 40, .inl df)), (b5, .inl (G.2 1, 40, .inr (.inl pf))), (b6, .inl (G.2 1, 6, .inr (.inl gf)))]) hP [4, 5, 6, 10, 11, 12, 13, 14, 15, 16] rfl
            have hDc := hD.sub (ws' := [(u0, .inr (4, [.ref b0, .ref u1, .ref u2, .long op_2, .int re_1])), (u1, .inl (G.2 1, 384, .inr (.inl dk_1))), (u2, .inl (G.2 1, 40, .inr (.inl uw'))), (b0, .inr (3, [.ref b1, .ref b2, .ref b3, .ref b4, .ref b5, .ref b6, .int bn])), (b1, .inl (G.2 0, 40, .inl kf)), (b2, .inl (G.2 0, 40, .inl ff)), (b3, .inl (G.2 0, 40, .inl sf)), (b4, .inl (G.2 0, 40, .inl df)), (b5, .inl (G.2 1, 40, .inr (.inl pf))), (b6, .inl (G.2 1, 6, .inr (.inl gf)))]) [4, 5, 6, 10, 11, 12, 13, 14, 15, 16] (by decide) rfl
            have hFc := va_free (wc := [(u0, .inr (4, [.ref b0, .ref u1, .ref u2, .long op_2, .int re_1])), (u1, .inl (G.2 1, 384, .inr (.inl dk_1))), (u2, .inl (G.2 1, 40, .inr (.inl uw'))), (b0, .inr (3, [.ref b1, .ref b2, .ref b3, .ref b4, .ref b5, .ref b6, .int bn])), (b1, .inl (G.2 0, 40, .inl kf)), (b2, .inl (G.2 0, 40, .inl ff)), (b3, .inl (G.2 0, 40, .inl sf)), (b4, .inl (G.2 0, 40, .inl df)), (b5, .inl (G.2 1, 40, .inr (.inl pf))), (b6, .inl (G.2 1, 6, .inr (.inl gf)))]) hD hS hA [4, 5, 6, 10, 11, 12, 13, 14, 15, 16] rfl
            have hZc := (hZ.kept hS.2.1).narrow hFc
            refine va_callv (va_runV (C := RX1) (As := [.long r_7]) (rest := []) ⟨hx, hb, hml, hown, hts⟩ (kX1_weigh l G u0 u1 u2 b0 b1 b2 b3 b4 b5 b6 dk_1 uw' op_2 re_1 kf ff sf df pf gf bn r_7 _ h) (cwV 1 hts (gdV q475 q104 q105 q3 q106) rfl rfl rfl (by decide +kernel) ⟨Nat.le_of_ble_eq_true rfl, Nat.le_of_ble_eq_true rfl⟩) (preVwz hPc hKK hDc hZc (va_recv hK hPc (ci := 4) (q0 := 0) rfl rfl)) rfl rfl hl.1 rfl (lv_room (Nat.le_of_ble_eq_true rfl)) dX2_rounds_124 ⟨Nat.zero_le _, Nat.zero_le _⟩) hS (fun q _ h => hFc q h) hFc (fun u t H1 locs ht hvm h hB hz1 hk1 hS => ?_)
            obtain ⟨wg_2, rfl⟩ : ∃ z, z = u := ⟨_, rfl⟩
            obtain ⟨hP1, hD1⟩ := hB
            rw [ht] at hP1
            obtain ⟨hP, hD⟩ := va_join (wr := [(x0, .inr (5, [.ref b0, .ref s0, .ref u0, .ref v0, .int tA, .int wP, .int nT, .int aK, .int lK, .int sW, .int rF])), (s0, .inr (4, [.ref b0, .ref s1, .ref s2, .long op, .int re])), (s1, .inl (G.2 1, 384, .inr (.inl dk))), (s2, .inl (G.2 1, 40, .inr (.inl wg))), (v0, .inr (4, [.ref b0, .ref v1, .ref v2, .long vo, .int vr])), (v1, .inl (G.2 1, 384, .inr (.inl vk))), (v2, .inl (G.2 1, 40, .inr (.inl vw)))]) (w1 := [(u0, .inr (4, [.ref b0, .ref u1, .ref u2, .long op_2, .int re_1])), (u1, .inl (G.2 1, 384, .inr (.inl dk_1))), (u2, .inl (G.2 1, 40, .inr (.inl wg_2))), (b0, .inr (3, [.ref b1, .ref b2, .ref b3, .ref b4, .ref b5, .ref b6, .int bn])), (b1, .inl (G.2 0, 40, .inl kf)), (b2, .inl (G.2 0, 40, .inl ff)), (b3, .inl (G.2 0, 40, .inl sf)), (b4, .inl (G.2 0, 40, .inl df)), (b5, .inl (G.2 1, 40, .inr (.inl pf))), (b6, .inl (G.2 1, 6, .inr (.inl gf)))]) hP hD [4, 5, 6, 10, 11, 12, 13, 14, 15, 16] [0, 1, 2, 3, 7, 8, 9] rfl rfl (by decide) (by decide) hk1 hFc hP1 hD1
            generalize H1 = H at hP hS ⊢
            have hP : PP G [(x0, .inr (5, [.ref b0, .ref s0, .ref u0, .ref v0, .int tA, .int wP, .int nT, .int aK, .int lK, .int sW, .int rF])), (s0, .inr (4, [.ref b0, .ref s1, .ref s2, .long op, .int re])), (s1, .inl (G.2 1, 384, .inr (.inl dk))), (s2, .inl (G.2 1, 40, .inr (.inl wg))), (u0, .inr (4, [.ref b0, .ref u1, .ref u2, .long op_2, .int re_1])), (u1, .inl (G.2 1, 384, .inr (.inl dk_1))), (u2, .inl (G.2 1, 40, .inr (.inl wg_2))), (v0, .inr (4, [.ref b0, .ref v1, .ref v2, .long vo, .int vr])), (v1, .inl (G.2 1, 384, .inr (.inl vk))), (v2, .inl (G.2 1, 40, .inr (.inl vw))), (b0, .inr (3, [.ref b1, .ref b2, .ref b3, .ref b4, .ref b5, .ref b6, .int bn])), (b1, .inl (G.2 0, 40, .inl kf)), (b2, .inl (G.2 0, 40, .inl ff)), (b3, .inl (G.2 0, 40, .inl sf)), (b4, .inl (G.2 0, 40, .inl df)), (b5, .inl (G.2 1, 40, .inr (.inl pf))), (b6, .inl (G.2 1, 6, .inr (.inl gf)))] H := va_P.sub hP [0, 1, 2, 3, 7, 8, 9, 4, 5, 6, 10, 11, 12, 13, 14, 15, 16] rfl
            have hD : va_D A [(x0, .inr (5, [.ref b0, .ref s0, .ref u0, .ref v0, .int tA, .int wP, .int nT, .int aK, .int lK, .int sW, .int rF])), (s0, .inr (4, [.ref b0, .ref s1, .ref s2, .long op, .int re])), (s1, .inl (G.2 1, 384, .inr (.inl dk))), (s2, .inl (G.2 1, 40, .inr (.inl wg))), (u0, .inr (4, [.ref b0, .ref u1, .ref u2, .long op_2, .int re_1])), (u1, .inl (G.2 1, 384, .inr (.inl dk_1))), (u2, .inl (G.2 1, 40, .inr (.inl wg_2))), (v0, .inr (4, [.ref b0, .ref v1, .ref v2, .long vo, .int vr])), (v1, .inl (G.2 1, 384, .inr (.inl vk))), (v2, .inl (G.2 1, 40, .inr (.inl vw))), (b0, .inr (3, [.ref b1, .ref b2, .ref b3, .ref b4, .ref b5, .ref b6, .int bn])), (b1, .inl (G.2 0, 40, .inl kf)), (b2, .inl (G.2 0, 40, .inl ff)), (b3, .inl (G.2 0, 40, .inl sf)), (b4, .inl (G.2 0, 40, .inl df)), (b5, .inl (G.2 1, 40, .inr (.inl pf))), (b6, .inl (G.2 1, 6, .inr (.inl gf)))] := hD.sub [0, 1, 2, 3, 7, 8, 9, 4, 5, 6, 10, 11, 12, 13, 14, 15, 16] (by decide) rfl
            refine lv_iinc (v := (i3 + 1)) hx hb dX2_rounds_127 hl (k := 4) rfl (by rw [show Int32.ofInt 1 = 1 from by decide]) (Nat.le_of_ble_eq_true rfl) rfl (fun ls hl => ?_)
            have hl : lv_has ls 6 [(3, .int (i3 + 1)), (4, .long uo'), (0, .ref x0), (1, .int p1), (2, .int p2)] := hl
            refine lv_goto (tgt := 51) hx hb dX2_rounds_130 (by decide) ?_
            have hl := lv_sub (l' := [(0, .ref x0), (1, .int p1), (2, .int p2), (3, .int (i3 + 1))]) hl [2, 3, 4, 0] rfl
            exact ih _ _ _ ls H locs hl hP hD hS h
          · have h := h.2 hc
            refine lv_iconst (v := (-1)) hx hb dX2_rounds_110 (by decide) ?_
            subst hQC; exact W.iret (v := (-1 : Int32)) hx hb hr (fun t ht hW => ⟨⟨_, (dk_1, uw', op_2, re_1), rfl, h, by rw [ht]; exact hP, hD⟩, hS.F ht⟩) hS.2.2 dX2_rounds_111
        · have h := h.2 hc
          refine lv_iload_n hx hb dX2_rounds_70 rfl (lv_at hl 3 rfl) ?_
          subst hQC; exact W.iret (v := i3) hx hb hr (fun t ht hW => ⟨⟨_, (dk_1, uw', uo', re_1), rfl, h, by rw [ht]; exact hP, hD⟩, hS.F ht⟩) hS.2.2 dX2_rounds_71
  refine lv_aload_n hx hb dX2_rounds_0 rfl (lv_at hl 0 rfl) ?_
  refine va_get (D := G.1) (ci := 5) (v := .ref b0) (C := RX2) (T := TX2) (N := 11) hx hb hts igX2 hown hK hP 0 rfl rfl 0 (by decide) (hts _ q176) (fun _ h9 => h9) rfl dX2_rounds_1 ?_
  refine lv_iload_n hx hb dX2_rounds_4 rfl (lv_at hl 2 rfl) ?_
  have hPc := va_P.sub (ws' := [(b0, .inr (3, [.ref b1, .ref b2, .ref b3, .ref b4, .ref b5, .ref b6, .int bn])), (b1, .inl (G.2 0, 40, .inl kf)), (b2, .inl (G.2 0, 40, .inl ff)), (b3, .inl (G.2 0, 40, .inl sf)), (b4, .inl (G.2 0, 40, .inl df)), (b5, .inl (G.2 1, 40, .inr (.inl pf))), (b6, .inl (G.2 1, 6, .inr (.inl gf)))]) hP [10, 11, 12, 13, 14, 15, 16] rfl
  refine rdI (va_runV (C := RX0) (As := [.int p2]) (rest := []) ⟨hx, hb, hml, hown, hts⟩ (kX0_holds l G b0 b1 b2 b3 b4 b5 b6 kf ff sf df pf gf bn p2 h) (cwV 1 hts (gdV q403 q115 q116 q2 q117) rfl rfl rfl (by decide +kernel) ⟨Nat.le_of_ble_eq_true rfl, Nat.le_of_ble_eq_true rfl⟩) (preV hPc hKK (va_recv hK hPc (ci := 3) (q0 := 0) rfl rfl)) rfl rfl hl.1 rfl (lv_room (Nat.le_of_ble_eq_true rfl)) dX2_rounds_5 ⟨Nat.zero_le _, Nat.zero_le _⟩) (fun r_1 h => ?_)
  refine lv_if_ne (tgt := 21) hx hb dX2_rounds_8 (by decide) (fun hc => ?_) (fun hc => ?_)
  · have h := h.1 hc
    refine lv_iload_n hx hb dX2_rounds_21 rfl (lv_at hl 1 rfl) ?_
    have hPc := va_P.sub (ws' := []) hP [] rfl
    refine rdI (va_runS (As := [.int p1]) (rest := []) ⟨hx, hb, hml, hown, hts⟩ (kX2_isSetOfGuards l G p1 h) (va_cwS 1 hts (gdS q436 q437 q1 q438) rfl rfl rfl (by decide +kernel) ⟨Nat.le_of_ble_eq_true rfl, Nat.le_of_ble_eq_true rfl⟩) (preS hPc hKK) rfl rfl hl.1 rfl (lv_room (Nat.le_of_ble_eq_true rfl)) dX2_rounds_22 ⟨Nat.zero_le _, Nat.zero_le _⟩) (fun r_2 h => ?_)
    refine lv_if_ne (tgt := 38) hx hb dX2_rounds_25 (by decide) (fun hc => ?_) (fun hc => ?_)
    · have h := h.1 hc
      refine lv_aload_n hx hb dX2_rounds_38 rfl (lv_at hl 0 rfl) ?_
      refine va_get (D := G.1) (ci := 5) (v := .ref u0) (C := RX2) (T := TX2) (N := 11) hx hb hts igX2 hown hK hP 0 rfl rfl 2 (by decide) (hts _ q178) (fun _ h9 => h9) rfl dX2_rounds_39 ?_
      refine lv_aload_n hx hb dX2_rounds_42 rfl (lv_at hl 0 rfl) ?_
      refine va_get (D := G.1) (ci := 5) (v := .ref s0) (C := RX2) (T := TX2) (N := 11) hx hb hts igX2 hown hK hP 0 rfl rfl 1 (by decide) (hts _ q177) (fun _ h9 => h9) rfl dX2_rounds_43 ?_
      have hPc := va_P.sub (ws' := [(u0, .inr (4, [.ref b0, .ref u1, .ref u2, .long uo, .int ur])), (u1, .inl (G.2 1, 384, .inr (.inl uk))), (u2, .inl (G.2 1, 40, .inr (.inl uw))), (s0, .inr (4, [.ref b0, .ref s1, .ref s2, .long op, .int re])), (s1, .inl (G.2 1, 384, .inr (.inl dk))), (s2, .inl (G.2 1, 40, .inr (.inl wg)))]) hP [4, 5, 6, 1, 2, 3] rfl
      have hDc := hD.sub (ws' := [(u0, .inr (4, [.ref b0, .ref u1, .ref u2, .long uo, .int ur])), (u1, .inl (G.2 1, 384, .inr (.inl uk))), (u2, .inl (G.2 1, 40, .inr (.inl uw))), (s0, .inr (4, [.ref b0, .ref s1, .ref s2, .long op, .int re])), (s1, .inl (G.2 1, 384, .inr (.inl dk))), (s2, .inl (G.2 1, 40, .inr (.inl wg)))]) [4, 5, 6, 1, 2, 3] (by decide) rfl
      have hFc := va_free (wc := [(u0, .inr (4, [.ref b0, .ref u1, .ref u2, .long uo, .int ur])), (u1, .inl (G.2 1, 384, .inr (.inl uk))), (u2, .inl (G.2 1, 40, .inr (.inl uw))), (s0, .inr (4, [.ref b0, .ref s1, .ref s2, .long op, .int re])), (s1, .inl (G.2 1, 384, .inr (.inl dk))), (s2, .inl (G.2 1, 40, .inr (.inl wg)))]) hD hS hA [4, 5, 6, 1, 2, 3] rfl
      refine va_callv (va_runV (C := RX1) (As := [.ref s0]) (rest := []) ⟨hx, hb, hml, hown, hts⟩ (kX1_copyFrom l G u0 u1 u2 b0 b0 s0 s1 s2 uk uw uo ur dk wg op re _ h) (cwV 1 hts (gdV q463 q464 q465 q3 q466) rfl rfl rfl (by decide +kernel) ⟨Nat.le_of_ble_eq_true rfl, Nat.le_of_ble_eq_true rfl⟩) (preVw hPc hKK hDc (va_recv hK hPc (ci := 4) (q0 := 0) rfl rfl)) rfl rfl hl.1 rfl (lv_room (Nat.le_of_ble_eq_true rfl)) dX2_rounds_46 ⟨Nat.zero_le _, Nat.zero_le _⟩) hS (fun q _ h => hFc q h) hFc (fun u t H1 locs ht hvm h hB hz1 hk1 hS => ?_)
      obtain ⟨dk_1, wg_1, op_1, re_1⟩ := u
      obtain ⟨hP1, hD1⟩ := hB
      rw [ht] at hP1
      obtain ⟨hP, hD⟩ := va_join (wr := [(x0, .inr (5, [.ref b0, .ref s0, .ref u0, .ref v0, .int tA, .int wP, .int nT, .int aK, .int lK, .int sW, .int rF])), (v0, .inr (4, [.ref b0, .ref v1, .ref v2, .long vo, .int vr])), (v1, .inl (G.2 1, 384, .inr (.inl vk))), (v2, .inl (G.2 1, 40, .inr (.inl vw))), (b0, .inr (3, [.ref b1, .ref b2, .ref b3, .ref b4, .ref b5, .ref b6, .int bn])), (b1, .inl (G.2 0, 40, .inl kf)), (b2, .inl (G.2 0, 40, .inl ff)), (b3, .inl (G.2 0, 40, .inl sf)), (b4, .inl (G.2 0, 40, .inl df)), (b5, .inl (G.2 1, 40, .inr (.inl pf))), (b6, .inl (G.2 1, 6, .inr (.inl gf)))]) (w1 := [(u0, .inr (4, [.ref b0, .ref u1, .ref u2, .long op_1, .int re_1])), (u1, .inl (G.2 1, 384, .inr (.inl dk_1))), (u2, .inl (G.2 1, 40, .inr (.inl wg_1))), (s0, .inr (4, [.ref b0, .ref s1, .ref s2, .long op, .int re])), (s1, .inl (G.2 1, 384, .inr (.inl dk))), (s2, .inl (G.2 1, 40, .inr (.inl wg)))]) hP hD [4, 5, 6, 1, 2, 3] [0, 7, 8, 9, 10, 11, 12, 13, 14, 15, 16] rfl rfl (by decide) (by decide) hk1 hFc hP1 hD1
      generalize H1 = H at hP hS ⊢
      have hP : PP G [(x0, .inr (5, [.ref b0, .ref s0, .ref u0, .ref v0, .int tA, .int wP, .int nT, .int aK, .int lK, .int sW, .int rF])), (s0, .inr (4, [.ref b0, .ref s1, .ref s2, .long op, .int re])), (s1, .inl (G.2 1, 384, .inr (.inl dk))), (s2, .inl (G.2 1, 40, .inr (.inl wg))), (u0, .inr (4, [.ref b0, .ref u1, .ref u2, .long op_1, .int re_1])), (u1, .inl (G.2 1, 384, .inr (.inl dk_1))), (u2, .inl (G.2 1, 40, .inr (.inl wg_1))), (v0, .inr (4, [.ref b0, .ref v1, .ref v2, .long vo, .int vr])), (v1, .inl (G.2 1, 384, .inr (.inl vk))), (v2, .inl (G.2 1, 40, .inr (.inl vw))), (b0, .inr (3, [.ref b1, .ref b2, .ref b3, .ref b4, .ref b5, .ref b6, .int bn])), (b1, .inl (G.2 0, 40, .inl kf)), (b2, .inl (G.2 0, 40, .inl ff)), (b3, .inl (G.2 0, 40, .inl sf)), (b4, .inl (G.2 0, 40, .inl df)), (b5, .inl (G.2 1, 40, .inr (.inl pf))), (b6, .inl (G.2 1, 6, .inr (.inl gf)))] H := va_P.sub hP [0, 14, 15, 16, 11, 12, 13, 1, 2, 3, 4, 5, 6, 7, 8, 9, 10] rfl
      have hD : va_D A [(x0, .inr (5, [.ref b0, .ref s0, .ref u0, .ref v0, .int tA, .int wP, .int nT, .int aK, .int lK, .int sW, .int rF])), (s0, .inr (4, [.ref b0, .ref s1, .ref s2, .long op, .int re])), (s1, .inl (G.2 1, 384, .inr (.inl dk))), (s2, .inl (G.2 1, 40, .inr (.inl wg))), (u0, .inr (4, [.ref b0, .ref u1, .ref u2, .long op_1, .int re_1])), (u1, .inl (G.2 1, 384, .inr (.inl dk_1))), (u2, .inl (G.2 1, 40, .inr (.inl wg_1))), (v0, .inr (4, [.ref b0, .ref v1, .ref v2, .long vo, .int vr])), (v1, .inl (G.2 1, 384, .inr (.inl vk))), (v2, .inl (G.2 1, 40, .inr (.inl vw))), (b0, .inr (3, [.ref b1, .ref b2, .ref b3, .ref b4, .ref b5, .ref b6, .int bn])), (b1, .inl (G.2 0, 40, .inl kf)), (b2, .inl (G.2 0, 40, .inl ff)), (b3, .inl (G.2 0, 40, .inl sf)), (b4, .inl (G.2 0, 40, .inl df)), (b5, .inl (G.2 1, 40, .inr (.inl pf))), (b6, .inl (G.2 1, 6, .inr (.inl gf)))] := hD.sub [0, 14, 15, 16, 11, 12, 13, 1, 2, 3, 4, 5, 6, 7, 8, 9, 10] (by decide) rfl
      refine lv_iconst (v := 0) hx hb dX2_rounds_49 (by decide) ?_
      refine lv_istore_n hx hb dX2_rounds_50 rfl hl (Nat.le_of_ble_eq_true rfl) rfl (fun ls hl => ?_)
      have hl : lv_has ls 6 [(3, .int (0 : Int32)), (0, .ref x0), (1, .int p1), (2, .int p2)] := hl
      have hl := lv_sub (l' := [(0, .ref x0), (1, .int p1), (2, .int p2), (3, .int (0 : Int32))]) hl [1, 2, 3, 0] rfl
      obtain ⟨nF, h⟩ := h
      refine loop51 _ dk_1 re_1 trivial ?_ nF (0 : Int32) wg_1 op_1 _ _ _ hl hP hD hS h
      · intro i3 uw' uo' ls H locs hl hP hD hS h
        refine lv_iconst (v := (-1)) hx hb dX2_rounds_133 (by decide) ?_
        subst hQC; exact W.iret (v := (-1 : Int32)) hx hb hr (fun t ht hW => ⟨⟨_, (dk_1, uw', uo', re_1), rfl, h, by rw [ht]; exact hP, hD⟩, hS.F ht⟩) hS.2.2 dX2_rounds_134
    · have h := h.2 hc
      exact False.elim h
  · have h := h.2 hc
    exact False.elim h
theorem dX2_wouldTell_0 : decode cX2_wouldTell 0 = .ok (.aload_n 0, 1) := by decide +kernel
theorem dX2_wouldTell_1 : decode cX2_wouldTell 1 = .ok (.getfield 10, 3) := by decide +kernel
theorem dX2_wouldTell_4 : decode cX2_wouldTell 4 = .ok (.iload_n 1, 1) := by decide +kernel
theorem dX2_wouldTell_5 : decode cX2_wouldTell 5 = .ok (.invokevirtual 116, 3) := by decide +kernel
theorem dX2_wouldTell_8 : decode cX2_wouldTell 8 = .ok (.ifCond .ne 13, 3) := by decide +kernel
theorem dX2_wouldTell_11 : decode cX2_wouldTell 11 = .ok (.new 83, 3) := by decide +kernel
theorem dX2_wouldTell_14 : decode cX2_wouldTell 14 = .ok (.dup, 1) := by decide +kernel
theorem dX2_wouldTell_15 : decode cX2_wouldTell 15 = .ok (.ldc 119, 2) := by decide +kernel
theorem dX2_wouldTell_17 : decode cX2_wouldTell 17 = .ok (.invokespecial 87, 3) := by decide +kernel
theorem dX2_wouldTell_20 : decode cX2_wouldTell 20 = .ok (.athrow, 1) := by decide +kernel
theorem dX2_wouldTell_21 : decode cX2_wouldTell 21 = .ok (.aload_n 0, 1) := by decide +kernel
theorem dX2_wouldTell_22 : decode cX2_wouldTell 22 = .ok (.getfield 21, 3) := by decide +kernel
theorem dX2_wouldTell_25 : decode cX2_wouldTell 25 = .ok (.iload_n 1, 1) := by decide +kernel
theorem dX2_wouldTell_26 : decode cX2_wouldTell 26 = .ok (.invokevirtual 121, 3) := by decide +kernel
theorem dX2_wouldTell_29 : decode cX2_wouldTell 29 = .ok (.ifCond .ne 5, 3) := by decide +kernel
theorem dX2_wouldTell_32 : decode cX2_wouldTell 32 = .ok (.iconst (-1), 1) := by decide +kernel
theorem dX2_wouldTell_33 : decode cX2_wouldTell 33 = .ok (.ireturn, 1) := by decide +kernel
theorem dX2_wouldTell_34 : decode cX2_wouldTell 34 = .ok (.aload_n 0, 1) := by decide +kernel
theorem dX2_wouldTell_35 : decode cX2_wouldTell 35 = .ok (.getfield 25, 3) := by decide +kernel
theorem dX2_wouldTell_38 : decode cX2_wouldTell 38 = .ok (.aload_n 0, 1) := by decide +kernel
theorem dX2_wouldTell_39 : decode cX2_wouldTell 39 = .ok (.getfield 21, 3) := by decide +kernel
theorem dX2_wouldTell_42 : decode cX2_wouldTell 42 = .ok (.invokevirtual 257, 3) := by decide +kernel
theorem dX2_wouldTell_45 : decode cX2_wouldTell 45 = .ok (.aload_n 0, 1) := by decide +kernel
theorem dX2_wouldTell_46 : decode cX2_wouldTell 46 = .ok (.getfield 25, 3) := by decide +kernel
theorem dX2_wouldTell_49 : decode cX2_wouldTell 49 = .ok (.aload_n 0, 1) := by decide +kernel
theorem dX2_wouldTell_50 : decode cX2_wouldTell 50 = .ok (.getfield 21, 3) := by decide +kernel
theorem dX2_wouldTell_53 : decode cX2_wouldTell 53 = .ok (.iload_n 1, 1) := by decide +kernel
theorem dX2_wouldTell_54 : decode cX2_wouldTell 54 = .ok (.invokevirtual 129, 3) := by decide +kernel
theorem dX2_wouldTell_57 : decode cX2_wouldTell 57 = .ok (.invokevirtual 132, 3) := by decide +kernel
theorem dX2_wouldTell_60 : decode cX2_wouldTell 60 = .ok (.aload_n 0, 1) := by decide +kernel
theorem dX2_wouldTell_61 : decode cX2_wouldTell 61 = .ok (.getfield 25, 3) := by decide +kernel
theorem dX2_wouldTell_64 : decode cX2_wouldTell 64 = .ok (.aload_n 0, 1) := by decide +kernel
theorem dX2_wouldTell_65 : decode cX2_wouldTell 65 = .ok (.getfield 10, 3) := by decide +kernel
theorem dX2_wouldTell_68 : decode cX2_wouldTell 68 = .ok (.invokevirtual 99, 3) := by decide +kernel
theorem dX2_wouldTell_71 : decode cX2_wouldTell 71 = .ok (.invokevirtual 73, 3) := by decide +kernel
theorem dX2_wouldTell_74 : decode cX2_wouldTell 74 = .ok (.aload_n 0, 1) := by decide +kernel
theorem dX2_wouldTell_75 : decode cX2_wouldTell 75 = .ok (.getfield 25, 3) := by decide +kernel
theorem dX2_wouldTell_78 : decode cX2_wouldTell 78 = .ok (.invokevirtual 46, 3) := by decide +kernel
theorem dX2_wouldTell_81 : decode cX2_wouldTell 81 = .ok (.ireturn, 1) := by decide +kernel
def wxX2_wouldTell (post : Int32 → (Nat → Int64) × (Nat → Int64) × Int64 × Int32 → Prop) (postx : String → Prop) (dk : Nat → Int64) (wg : Nat → Int64) (op : Int64) (re : Int32) (uk : Nat → Int64) (uw : Nat → Int64) (uo : Int64) (ur : Int32) (kf : Nat → Int32) (ff : Nat → Int32) (sf : Nat → Int32) (bn : Int32) (p1 : Int32) : Prop :=
  wX0_holds (fun r_1 : Int32 =>
    ((¬ r_1 = 0) →
      wX1_isTrueInReal (fun r_2 : Int32 =>
        ((¬ r_2 = 0) →
          wX1_copyFrom (fun (z_1 : (Nat → Int64) × (Nat → Int64) × Int64 × Int32) =>
            wX1_worldsOf (fun r_4 : Int64 =>
              wX1_keepOnly (fun (op_2 : Int64) =>
                wX0_everySentence (fun r_6 : Int64 =>
                  wX1_weigh (fun (wg_2 : Nat → Int64) =>
                    wX1_countTrueInReal (fun r_8 : Int32 =>
                      post r_8 (z_1.1, wg_2, op_2, z_1.2.2.2)
                      ) wg_2 z_1.2.2.2 bn
                    ) z_1.1 z_1.2.1 op_2 kf ff sf bn r_6
                  ) bn
                ) z_1.2.2.1 r_4
              ) wg bn p1
            ) uk uw uo ur dk wg op re
        ) ∧ ((r_2 = 0) →
          post (-1 : Int32) (uk, uw, uo, ur)
        )
        ) wg re bn p1
    ) ∧ ((r_1 = 0) →
      postx "java/lang/IndexOutOfBoundsException"
    )
    ) bn p1
abbrev wl_xX2_wouldTell : List Cond := .code yX2_wouldTell cX2_wouldTell 2 (some .int) :: lwg
abbrev rm_xX2_wouldTell : Room := { frames := 6, cells := 1, slots := 6, locals := 128 }
set_option maxHeartbeats 4000000 in
set_option maxRecDepth 100000 in
theorem kxX2_wouldTell {post : Int32 → (Nat → Int64) × (Nat → Int64) × Int64 × Int32 → Prop} {postx : String → Prop} (l : Launch) (hfl : l.stackTraces = false) (G : GT) (x0 : Nat) (s0 : Nat) (s1 : Nat) (s2 : Nat) (u0 : Nat) (u1 : Nat) (u2 : Nat) (v0 : Nat) (v1 : Nat) (v2 : Nat) (b0 : Nat) (b1 : Nat) (b2 : Nat) (b3 : Nat) (b4 : Nat) (b5 : Nat) (b6 : Nat) (tA : Int32) (wP : Int32) (nT : Int32) (aK : Int32) (lK : Int32) (sW : Int32) (rF : Int32) (dk : Nat → Int64) (wg : Nat → Int64) (op : Int64) (re : Int32) (uk : Nat → Int64) (uw : Nat → Int64) (uo : Int64) (ur : Int32) (vk : Nat → Int64) (vw : Nat → Int64) (vo : Int64) (vr : Int32) (kf : Nat → Int32) (ff : Nat → Int32) (sf : Nat → Int32) (df : Nat → Int32) (pf : Nat → Int64) (gf : Nat → Int64) (bn : Int32) (p1 : Int32) (sz : Nat) (h : wxX2_wouldTell post postx dk wg op re uk uw uo ur kf ff sf bn p1) : vx_Met l yX2_wouldTell wl_xX2_wouldTell rm_xX2_wouldTell (va_Pc [.ref x0, .int p1] (fun U => U.heap.size = sz ∧ PP G [(x0, .inr (5, [.ref b0, .ref s0, .ref u0, .ref v0, .int tA, .int wP, .int nT, .int aK, .int lK, .int sW, .int rF])), (s0, .inr (4, [.ref b0, .ref s1, .ref s2, .long op, .int re])), (s1, .inl (G.2 1, 384, .inr (.inl dk))), (s2, .inl (G.2 1, 40, .inr (.inl wg))), (u0, .inr (4, [.ref b0, .ref u1, .ref u2, .long uo, .int ur])), (u1, .inl (G.2 1, 384, .inr (.inl uk))), (u2, .inl (G.2 1, 40, .inr (.inl uw))), (v0, .inr (4, [.ref b0, .ref v1, .ref v2, .long vo, .int vr])), (v1, .inl (G.2 1, 384, .inr (.inl vk))), (v2, .inl (G.2 1, 40, .inr (.inl vw))), (b0, .inr (3, [.ref b1, .ref b2, .ref b3, .ref b4, .ref b5, .ref b6, .int bn])), (b1, .inl (G.2 0, 40, .inl kf)), (b2, .inl (G.2 0, 40, .inl ff)), (b3, .inl (G.2 0, 40, .inl sf)), (b4, .inl (G.2 0, 40, .inl df)), (b5, .inl (G.2 1, 40, .inr (.inl pf))), (b6, .inl (G.2 1, 6, .inr (.inl gf)))] U.heap ∧ KK G U ∧ va_D (fun _ => True) [(x0, .inr (5, [.ref b0, .ref s0, .ref u0, .ref v0, .int tA, .int wP, .int nT, .int aK, .int lK, .int sW, .int rF])), (s0, .inr (4, [.ref b0, .ref s1, .ref s2, .long op, .int re])), (s1, .inl (G.2 1, 384, .inr (.inl dk))), (s2, .inl (G.2 1, 40, .inr (.inl wg))), (u0, .inr (4, [.ref b0, .ref u1, .ref u2, .long uo, .int ur])), (u1, .inl (G.2 1, 384, .inr (.inl uk))), (u2, .inl (G.2 1, 40, .inr (.inl uw))), (v0, .inr (4, [.ref b0, .ref v1, .ref v2, .long vo, .int vr])), (v1, .inl (G.2 1, 384, .inr (.inl vk))), (v2, .inl (G.2 1, 40, .inr (.inl vw))), (b0, .inr (3, [.ref b1, .ref b2, .ref b3, .ref b4, .ref b5, .ref b6, .int bn])), (b1, .inl (G.2 0, 40, .inl kf)), (b2, .inl (G.2 0, 40, .inl ff)), (b3, .inl (G.2 0, 40, .inl sf)), (b4, .inl (G.2 0, 40, .inl df)), (b5, .inl (G.2 1, 40, .inr (.inl pf))), (b6, .inl (G.2 1, 6, .inr (.inl gf)))] ∧ ZZ (va_A [(x0, .inr (5, [.ref b0, .ref s0, .ref u0, .ref v0, .int tA, .int wP, .int nT, .int aK, .int lK, .int sW, .int rF])), (s0, .inr (4, [.ref b0, .ref s1, .ref s2, .long op, .int re])), (s1, .inl (G.2 1, 384, .inr (.inl dk))), (s2, .inl (G.2 1, 40, .inr (.inl wg))), (u0, .inr (4, [.ref b0, .ref u1, .ref u2, .long uo, .int ur])), (u1, .inl (G.2 1, 384, .inr (.inl uk))), (u2, .inl (G.2 1, 40, .inr (.inl uw))), (v0, .inr (4, [.ref b0, .ref v1, .ref v2, .long vo, .int vr])), (v1, .inl (G.2 1, 384, .inr (.inl vk))), (v2, .inl (G.2 1, 40, .inr (.inl vw))), (b0, .inr (3, [.ref b1, .ref b2, .ref b3, .ref b4, .ref b5, .ref b6, .int bn])), (b1, .inl (G.2 0, 40, .inl kf)), (b2, .inl (G.2 0, 40, .inl ff)), (b3, .inl (G.2 0, 40, .inl sf)), (b4, .inl (G.2 0, 40, .inl df)), (b5, .inl (G.2 1, 40, .inr (.inl pf))), (b6, .inl (G.2 1, 6, .inr (.inl gf)))] sz) U U.heap)) (va_Qi post (fun u t => PP G [(x0, .inr (5, [.ref b0, .ref s0, .ref u0, .ref v0, .int tA, .int wP, .int nT, .int aK, .int lK, .int sW, .int rF])), (s0, .inr (4, [.ref b0, .ref s1, .ref s2, .long op, .int re])), (s1, .inl (G.2 1, 384, .inr (.inl dk))), (s2, .inl (G.2 1, 40, .inr (.inl wg))), (u0, .inr (4, [.ref b0, .ref u1, .ref u2, .long (u.2.2.1), .int (u.2.2.2)])), (u1, .inl (G.2 1, 384, .inr (.inl (u.1)))), (u2, .inl (G.2 1, 40, .inr (.inl (u.2.1)))), (v0, .inr (4, [.ref b0, .ref v1, .ref v2, .long vo, .int vr])), (v1, .inl (G.2 1, 384, .inr (.inl vk))), (v2, .inl (G.2 1, 40, .inr (.inl vw))), (b0, .inr (3, [.ref b1, .ref b2, .ref b3, .ref b4, .ref b5, .ref b6, .int bn])), (b1, .inl (G.2 0, 40, .inl kf)), (b2, .inl (G.2 0, 40, .inl ff)), (b3, .inl (G.2 0, 40, .inl sf)), (b4, .inl (G.2 0, 40, .inl df)), (b5, .inl (G.2 1, 40, .inr (.inl pf))), (b6, .inl (G.2 1, 6, .inr (.inl gf)))] t.heap ∧ va_D (va_A [(x0, .inr (5, [.ref b0, .ref s0, .ref u0, .ref v0, .int tA, .int wP, .int nT, .int aK, .int lK, .int sW, .int rF])), (s0, .inr (4, [.ref b0, .ref s1, .ref s2, .long op, .int re])), (s1, .inl (G.2 1, 384, .inr (.inl dk))), (s2, .inl (G.2 1, 40, .inr (.inl wg))), (u0, .inr (4, [.ref b0, .ref u1, .ref u2, .long uo, .int ur])), (u1, .inl (G.2 1, 384, .inr (.inl uk))), (u2, .inl (G.2 1, 40, .inr (.inl uw))), (v0, .inr (4, [.ref b0, .ref v1, .ref v2, .long vo, .int vr])), (v1, .inl (G.2 1, 384, .inr (.inl vk))), (v2, .inl (G.2 1, 40, .inr (.inl vw))), (b0, .inr (3, [.ref b1, .ref b2, .ref b3, .ref b4, .ref b5, .ref b6, .int bn])), (b1, .inl (G.2 0, 40, .inl kf)), (b2, .inl (G.2 0, 40, .inl ff)), (b3, .inl (G.2 0, 40, .inl sf)), (b4, .inl (G.2 0, 40, .inl df)), (b5, .inl (G.2 1, 40, .inr (.inl pf))), (b6, .inl (G.2 1, 6, .inr (.inl gf)))] sz) [(x0, .inr (5, [.ref b0, .ref s0, .ref u0, .ref v0, .int tA, .int wP, .int nT, .int aK, .int lK, .int sW, .int rF])), (s0, .inr (4, [.ref b0, .ref s1, .ref s2, .long op, .int re])), (s1, .inl (G.2 1, 384, .inr (.inl dk))), (s2, .inl (G.2 1, 40, .inr (.inl wg))), (u0, .inr (4, [.ref b0, .ref u1, .ref u2, .long (u.2.2.1), .int (u.2.2.2)])), (u1, .inl (G.2 1, 384, .inr (.inl (u.1)))), (u2, .inl (G.2 1, 40, .inr (.inl (u.2.1)))), (v0, .inr (4, [.ref b0, .ref v1, .ref v2, .long vo, .int vr])), (v1, .inl (G.2 1, 384, .inr (.inl vk))), (v2, .inl (G.2 1, 40, .inr (.inl vw))), (b0, .inr (3, [.ref b1, .ref b2, .ref b3, .ref b4, .ref b5, .ref b6, .int bn])), (b1, .inl (G.2 0, 40, .inl kf)), (b2, .inl (G.2 0, 40, .inl ff)), (b3, .inl (G.2 0, 40, .inl sf)), (b4, .inl (G.2 0, 40, .inl df)), (b5, .inl (G.2 1, 40, .inr (.inl pf))), (b6, .inl (G.2 1, 6, .inr (.inl gf)))]) (va_A [(x0, .inr (5, [.ref b0, .ref s0, .ref u0, .ref v0, .int tA, .int wP, .int nT, .int aK, .int lK, .int sW, .int rF])), (s0, .inr (4, [.ref b0, .ref s1, .ref s2, .long op, .int re])), (s1, .inl (G.2 1, 384, .inr (.inl dk))), (s2, .inl (G.2 1, 40, .inr (.inl wg))), (u0, .inr (4, [.ref b0, .ref u1, .ref u2, .long uo, .int ur])), (u1, .inl (G.2 1, 384, .inr (.inl uk))), (u2, .inl (G.2 1, 40, .inr (.inl uw))), (v0, .inr (4, [.ref b0, .ref v1, .ref v2, .long vo, .int vr])), (v1, .inl (G.2 1, 384, .inr (.inl vk))), (v2, .inl (G.2 1, 40, .inr (.inl vw))), (b0, .inr (3, [.ref b1, .ref b2, .ref b3, .ref b4, .ref b5, .ref b6, .int bn])), (b1, .inl (G.2 0, 40, .inl kf)), (b2, .inl (G.2 0, 40, .inl ff)), (b3, .inl (G.2 0, 40, .inl sf)), (b4, .inl (G.2 0, 40, .inl df)), (b5, .inl (G.2 1, 40, .inr (.inl pf))), (b6, .inl (G.2 1, 6, .inr (.inl gf)))] sz)) (vx_X (fun _ : Unit => True) (fun E _ t => PP G [(x0, .inr (5, [.ref b0, .ref s0, .ref u0, .ref v0, .int tA, .int wP, .int nT, .int aK, .int lK, .int sW, .int rF])), (s0, .inr (4, [.ref b0, .ref s1, .ref s2, .long op, .int re])), (s1, .inl (G.2 1, 384, .inr (.inl dk))), (s2, .inl (G.2 1, 40, .inr (.inl wg))), (u0, .inr (4, [.ref b0, .ref u1, .ref u2, .long uo, .int ur])), (u1, .inl (G.2 1, 384, .inr (.inl uk))), (u2, .inl (G.2 1, 40, .inr (.inl uw))), (v0, .inr (4, [.ref b0, .ref v1, .ref v2, .long vo, .int vr])), (v1, .inl (G.2 1, 384, .inr (.inl vk))), (v2, .inl (G.2 1, 40, .inr (.inl vw))), (b0, .inr (3, [.ref b1, .ref b2, .ref b3, .ref b4, .ref b5, .ref b6, .int bn])), (b1, .inl (G.2 0, 40, .inl kf)), (b2, .inl (G.2 0, 40, .inl ff)), (b3, .inl (G.2 0, 40, .inl sf)), (b4, .inl (G.2 0, 40, .inl df)), (b5, .inl (G.2 1, 40, .inr (.inl pf))), (b6, .inl (G.2 1, 6, .inr (.inl gf)))] t.heap ∧ va_D (va_A [(x0, .inr (5, [.ref b0, .ref s0, .ref u0, .ref v0, .int tA, .int wP, .int nT, .int aK, .int lK, .int sW, .int rF])), (s0, .inr (4, [.ref b0, .ref s1, .ref s2, .long op, .int re])), (s1, .inl (G.2 1, 384, .inr (.inl dk))), (s2, .inl (G.2 1, 40, .inr (.inl wg))), (u0, .inr (4, [.ref b0, .ref u1, .ref u2, .long uo, .int ur])), (u1, .inl (G.2 1, 384, .inr (.inl uk))), (u2, .inl (G.2 1, 40, .inr (.inl uw))), (v0, .inr (4, [.ref b0, .ref v1, .ref v2, .long vo, .int vr])), (v1, .inl (G.2 1, 384, .inr (.inl vk))), (v2, .inl (G.2 1, 40, .inr (.inl vw))), (b0, .inr (3, [.ref b1, .ref b2, .ref b3, .ref b4, .ref b5, .ref b6, .int bn])), (b1, .inl (G.2 0, 40, .inl kf)), (b2, .inl (G.2 0, 40, .inl ff)), (b3, .inl (G.2 0, 40, .inl sf)), (b4, .inl (G.2 0, 40, .inl df)), (b5, .inl (G.2 1, 40, .inr (.inl pf))), (b6, .inl (G.2 1, 6, .inr (.inl gf)))] sz) [(x0, .inr (5, [.ref b0, .ref s0, .ref u0, .ref v0, .int tA, .int wP, .int nT, .int aK, .int lK, .int sW, .int rF])), (s0, .inr (4, [.ref b0, .ref s1, .ref s2, .long op, .int re])), (s1, .inl (G.2 1, 384, .inr (.inl dk))), (s2, .inl (G.2 1, 40, .inr (.inl wg))), (u0, .inr (4, [.ref b0, .ref u1, .ref u2, .long uo, .int ur])), (u1, .inl (G.2 1, 384, .inr (.inl uk))), (u2, .inl (G.2 1, 40, .inr (.inl uw))), (v0, .inr (4, [.ref b0, .ref v1, .ref v2, .long vo, .int vr])), (v1, .inl (G.2 1, 384, .inr (.inl vk))), (v2, .inl (G.2 1, 40, .inr (.inl vw))), (b0, .inr (3, [.ref b1, .ref b2, .ref b3, .ref b4, .ref b5, .ref b6, .int bn])), (b1, .inl (G.2 0, 40, .inl kf)), (b2, .inl (G.2 0, 40, .inl ff)), (b3, .inl (G.2 0, 40, .inl sf)), (b4, .inl (G.2 0, 40, .inl df)), (b5, .inl (G.2 1, 40, .inr (.inl pf))), (b6, .inl (G.2 1, 6, .inr (.inl gf)))] ∧ postx E) (va_A [(x0, .inr (5, [.ref b0, .ref s0, .ref u0, .ref v0, .int tA, .int wP, .int nT, .int aK, .int lK, .int sW, .int rF])), (s0, .inr (4, [.ref b0, .ref s1, .ref s2, .long op, .int re])), (s1, .inl (G.2 1, 384, .inr (.inl dk))), (s2, .inl (G.2 1, 40, .inr (.inl wg))), (u0, .inr (4, [.ref b0, .ref u1, .ref u2, .long uo, .int ur])), (u1, .inl (G.2 1, 384, .inr (.inl uk))), (u2, .inl (G.2 1, 40, .inr (.inl uw))), (v0, .inr (4, [.ref b0, .ref v1, .ref v2, .long vo, .int vr])), (v1, .inl (G.2 1, 384, .inr (.inl vk))), (v2, .inl (G.2 1, 40, .inr (.inl vw))), (b0, .inr (3, [.ref b1, .ref b2, .ref b3, .ref b4, .ref b5, .ref b6, .int bn])), (b1, .inl (G.2 0, 40, .inl kf)), (b2, .inl (G.2 0, 40, .inl ff)), (b3, .inl (G.2 0, 40, .inl sf)), (b4, .inl (G.2 0, 40, .inl df)), (b5, .inl (G.2 1, 40, .inr (.inl pf))), (b6, .inl (G.2 1, 6, .inr (.inl gf)))] sz)) 1 6 (va_A [(x0, .inr (5, [.ref b0, .ref s0, .ref u0, .ref v0, .int tA, .int wP, .int nT, .int aK, .int lK, .int sW, .int rF])), (s0, .inr (4, [.ref b0, .ref s1, .ref s2, .long op, .int re])), (s1, .inl (G.2 1, 384, .inr (.inl dk))), (s2, .inl (G.2 1, 40, .inr (.inl wg))), (u0, .inr (4, [.ref b0, .ref u1, .ref u2, .long uo, .int ur])), (u1, .inl (G.2 1, 384, .inr (.inl uk))), (u2, .inl (G.2 1, 40, .inr (.inl uw))), (v0, .inr (4, [.ref b0, .ref v1, .ref v2, .long vo, .int vr])), (v1, .inl (G.2 1, 384, .inr (.inl vk))), (v2, .inl (G.2 1, 40, .inr (.inl vw))), (b0, .inr (3, [.ref b1, .ref b2, .ref b3, .ref b4, .ref b5, .ref b6, .int bn])), (b1, .inl (G.2 0, 40, .inl kf)), (b2, .inl (G.2 0, 40, .inl ff)), (b3, .inl (G.2 0, 40, .inl sf)), (b4, .inl (G.2 0, 40, .inl df)), (b5, .inl (G.2 1, 40, .inr (.inl pf))), (b6, .inl (G.2 1, 6, .inr (.inl gf)))] sz) := by
  refine vx_ofW (cc := cX2_wouldTell) (maxL := 2) (ret := (some .int)) (by decide) rfl ?_
  intro p e s m args below meth c s₁ B hml hT hv
  obtain ⟨rfl, hsz, hP, hKK, hD0, hZ⟩ := hv
  obtain ⟨hK, hN, hR, hFW, hNC⟩ := id hKK
  have hx := B.exec
  have hb := B.bytes
  have hr := B.returns
  have hts0 := atoms_spec (ws := wl_xX2_wouldTell) B.pre
  have hts : ∀ w ∈ lwg, w.before ([.ref x0, .int p1] : List Value).toArray s = true := fun w hw => hts0 w (List.mem_cons_of_mem _ hw)
  have hown : s.vm.findClass RX2 = some m.cls := findClass_of_methodNamed B.named
  have hlocks := B.notSynchronized
  subst hsz
  have hD := hD0.self (sz := s.heap.size)
  generalize hAe : va_A [(x0, .inr (5, [.ref b0, .ref s0, .ref u0, .ref v0, .int tA, .int wP, .int nT, .int aK, .int lK, .int sW, .int rF])), (s0, .inr (4, [.ref b0, .ref s1, .ref s2, .long op, .int re])), (s1, .inl (G.2 1, 384, .inr (.inl dk))), (s2, .inl (G.2 1, 40, .inr (.inl wg))), (u0, .inr (4, [.ref b0, .ref u1, .ref u2, .long uo, .int ur])), (u1, .inl (G.2 1, 384, .inr (.inl uk))), (u2, .inl (G.2 1, 40, .inr (.inl uw))), (v0, .inr (4, [.ref b0, .ref v1, .ref v2, .long vo, .int vr])), (v1, .inl (G.2 1, 384, .inr (.inl vk))), (v2, .inl (G.2 1, 40, .inr (.inl vw))), (b0, .inr (3, [.ref b1, .ref b2, .ref b3, .ref b4, .ref b5, .ref b6, .int bn])), (b1, .inl (G.2 0, 40, .inl kf)), (b2, .inl (G.2 0, 40, .inl ff)), (b3, .inl (G.2 0, 40, .inl sf)), (b4, .inl (G.2 0, 40, .inl df)), (b5, .inl (G.2 1, 40, .inr (.inl pf))), (b6, .inl (G.2 1, 6, .inr (.inl gf)))] s.heap.size = A at hD hZ ⊢
  have hA : ∀ q : Nat, s.heap.size ≤ q → A q := fun q h => by rw [← hAe]; exact Or.inr h
  have hS : va_S A s.heap s.heap [] := va_S.rf
  obtain ⟨QC, hQC⟩ : ∃ Z, Z = (va_Qi post (fun u t => PP G [(x0, .inr (5, [.ref b0, .ref s0, .ref u0, .ref v0, .int tA, .int wP, .int nT, .int aK, .int lK, .int sW, .int rF])), (s0, .inr (4, [.ref b0, .ref s1, .ref s2, .long op, .int re])), (s1, .inl (G.2 1, 384, .inr (.inl dk))), (s2, .inl (G.2 1, 40, .inr (.inl wg))), (u0, .inr (4, [.ref b0, .ref u1, .ref u2, .long (u.2.2.1), .int (u.2.2.2)])), (u1, .inl (G.2 1, 384, .inr (.inl (u.1)))), (u2, .inl (G.2 1, 40, .inr (.inl (u.2.1)))), (v0, .inr (4, [.ref b0, .ref v1, .ref v2, .long vo, .int vr])), (v1, .inl (G.2 1, 384, .inr (.inl vk))), (v2, .inl (G.2 1, 40, .inr (.inl vw))), (b0, .inr (3, [.ref b1, .ref b2, .ref b3, .ref b4, .ref b5, .ref b6, .int bn])), (b1, .inl (G.2 0, 40, .inl kf)), (b2, .inl (G.2 0, 40, .inl ff)), (b3, .inl (G.2 0, 40, .inl sf)), (b4, .inl (G.2 0, 40, .inl df)), (b5, .inl (G.2 1, 40, .inr (.inl pf))), (b6, .inl (G.2 1, 6, .inr (.inl gf)))] t.heap ∧ va_D A [(x0, .inr (5, [.ref b0, .ref s0, .ref u0, .ref v0, .int tA, .int wP, .int nT, .int aK, .int lK, .int sW, .int rF])), (s0, .inr (4, [.ref b0, .ref s1, .ref s2, .long op, .int re])), (s1, .inl (G.2 1, 384, .inr (.inl dk))), (s2, .inl (G.2 1, 40, .inr (.inl wg))), (u0, .inr (4, [.ref b0, .ref u1, .ref u2, .long (u.2.2.1), .int (u.2.2.2)])), (u1, .inl (G.2 1, 384, .inr (.inl (u.1)))), (u2, .inl (G.2 1, 40, .inr (.inl (u.2.1)))), (v0, .inr (4, [.ref b0, .ref v1, .ref v2, .long vo, .int vr])), (v1, .inl (G.2 1, 384, .inr (.inl vk))), (v2, .inl (G.2 1, 40, .inr (.inl vw))), (b0, .inr (3, [.ref b1, .ref b2, .ref b3, .ref b4, .ref b5, .ref b6, .int bn])), (b1, .inl (G.2 0, 40, .inl kf)), (b2, .inl (G.2 0, 40, .inl ff)), (b3, .inl (G.2 0, 40, .inl sf)), (b4, .inl (G.2 0, 40, .inl df)), (b5, .inl (G.2 1, 40, .inr (.inl pf))), (b6, .inl (G.2 1, 6, .inr (.inl gf)))]) A) := ⟨_, rfl⟩
  rw [← hQC]
  obtain ⟨XC, hXC⟩ : ∃ Z, Z = (vx_X (fun _ : Unit => True) (fun E _ t => PP G [(x0, .inr (5, [.ref b0, .ref s0, .ref u0, .ref v0, .int tA, .int wP, .int nT, .int aK, .int lK, .int sW, .int rF])), (s0, .inr (4, [.ref b0, .ref s1, .ref s2, .long op, .int re])), (s1, .inl (G.2 1, 384, .inr (.inl dk))), (s2, .inl (G.2 1, 40, .inr (.inl wg))), (u0, .inr (4, [.ref b0, .ref u1, .ref u2, .long uo, .int ur])), (u1, .inl (G.2 1, 384, .inr (.inl uk))), (u2, .inl (G.2 1, 40, .inr (.inl uw))), (v0, .inr (4, [.ref b0, .ref v1, .ref v2, .long vo, .int vr])), (v1, .inl (G.2 1, 384, .inr (.inl vk))), (v2, .inl (G.2 1, 40, .inr (.inl vw))), (b0, .inr (3, [.ref b1, .ref b2, .ref b3, .ref b4, .ref b5, .ref b6, .int bn])), (b1, .inl (G.2 0, 40, .inl kf)), (b2, .inl (G.2 0, 40, .inl ff)), (b3, .inl (G.2 0, 40, .inl sf)), (b4, .inl (G.2 0, 40, .inl df)), (b5, .inl (G.2 1, 40, .inr (.inl pf))), (b6, .inl (G.2 1, 6, .inr (.inl gf)))] t.heap ∧ va_D A [(x0, .inr (5, [.ref b0, .ref s0, .ref u0, .ref v0, .int tA, .int wP, .int nT, .int aK, .int lK, .int sW, .int rF])), (s0, .inr (4, [.ref b0, .ref s1, .ref s2, .long op, .int re])), (s1, .inl (G.2 1, 384, .inr (.inl dk))), (s2, .inl (G.2 1, 40, .inr (.inl wg))), (u0, .inr (4, [.ref b0, .ref u1, .ref u2, .long uo, .int ur])), (u1, .inl (G.2 1, 384, .inr (.inl uk))), (u2, .inl (G.2 1, 40, .inr (.inl uw))), (v0, .inr (4, [.ref b0, .ref v1, .ref v2, .long vo, .int vr])), (v1, .inl (G.2 1, 384, .inr (.inl vk))), (v2, .inl (G.2 1, 40, .inr (.inl vw))), (b0, .inr (3, [.ref b1, .ref b2, .ref b3, .ref b4, .ref b5, .ref b6, .int bn])), (b1, .inl (G.2 0, 40, .inl kf)), (b2, .inl (G.2 0, 40, .inl ff)), (b3, .inl (G.2 0, 40, .inl sf)), (b4, .inl (G.2 0, 40, .inl df)), (b5, .inl (G.2 1, 40, .inr (.inl pf))), (b6, .inl (G.2 1, 6, .inr (.inl gf)))] ∧ postx E) A) := ⟨_, rfl⟩
  rw [← hXC]
  obtain ⟨⟨zt, hZ1, hT1⟩, hZ2⟩ := id hZ
  have hP : PP G [(x0, .inr (5, [.ref b0, .ref s0, .ref u0, .ref v0, .int tA, .int wP, .int nT, .int aK, .int lK, .int sW, .int rF])), (s0, .inr (4, [.ref b0, .ref s1, .ref s2, .long op, .int re])), (s1, .inl (G.2 1, 384, .inr (.inl dk))), (s2, .inl (G.2 1, 40, .inr (.inl wg))), (u0, .inr (4, [.ref b0, .ref u1, .ref u2, .long uo, .int ur])), (u1, .inl (G.2 1, 384, .inr (.inl uk))), (u2, .inl (G.2 1, 40, .inr (.inl uw))), (v0, .inr (4, [.ref b0, .ref v1, .ref v2, .long vo, .int vr])), (v1, .inl (G.2 1, 384, .inr (.inl vk))), (v2, .inl (G.2 1, 40, .inr (.inl vw))), (b0, .inr (3, [.ref b1, .ref b2, .ref b3, .ref b4, .ref b5, .ref b6, .int bn])), (b1, .inl (G.2 0, 40, .inl kf)), (b2, .inl (G.2 0, 40, .inl ff)), (b3, .inl (G.2 0, 40, .inl sf)), (b4, .inl (G.2 0, 40, .inl df)), (b5, .inl (G.2 1, 40, .inr (.inl pf))), (b6, .inl (G.2 1, 6, .inr (.inl gf)))] s.heap := hP
  have hl := lv_entry ([.ref x0, .int p1]) (n := 2) (Nat.le_of_ble_eq_true rfl)
  rw [lg_entry_eq]
  generalize (lg_sl ([.ref x0, .int p1]) ++ List.replicate (2 - (lg_sl ([.ref x0, .int p1])).length) Slot.unset).toArray = ls at hl ⊢
  have hl : lv_has ls 2 [(0, .ref x0), (1, .int p1)] := hl
  refine lv_aload_n hx hb dX2_wouldTell_0 rfl (lv_at hl 0 rfl) ?_
  refine va_get (D := G.1) (ci := 5) (v := .ref b0) (C := RX2) (T := TX2) (N := 11) hx hb hts igX2 hown hK hP 0 rfl rfl 0 (by decide) (hts _ q176) (fun _ h9 => h9) rfl dX2_wouldTell_1 ?_
  refine lv_iload_n hx hb dX2_wouldTell_4 rfl (lv_at hl 1 rfl) ?_
  have hPc := va_P.sub (ws' := [(b0, .inr (3, [.ref b1, .ref b2, .ref b3, .ref b4, .ref b5, .ref b6, .int bn])), (b1, .inl (G.2 0, 40, .inl kf)), (b2, .inl (G.2 0, 40, .inl ff)), (b3, .inl (G.2 0, 40, .inl sf)), (b4, .inl (G.2 0, 40, .inl df)), (b5, .inl (G.2 1, 40, .inr (.inl pf))), (b6, .inl (G.2 1, 6, .inr (.inl gf)))]) hP [10, 11, 12, 13, 14, 15, 16] rfl
  refine rdI (va_runV (C := RX0) (As := [.int p1]) (rest := []) ⟨hx, hb, hml, hown, hts⟩ (kX0_holds l G b0 b1 b2 b3 b4 b5 b6 kf ff sf df pf gf bn p1 h) (cwV 1 hts (gdV q403 q115 q116 q2 q117) rfl rfl rfl (by decide +kernel) ⟨Nat.le_of_ble_eq_true rfl, Nat.le_of_ble_eq_true rfl⟩) (preV hPc hKK (va_recv hK hPc (ci := 3) (q0 := 0) rfl rfl)) rfl rfl hl.1 rfl (lv_room (Nat.le_of_ble_eq_true rfl)) dX2_wouldTell_5 ⟨Nat.zero_le _, Nat.zero_le _⟩) (fun r_1 h => ?_)
  refine lv_if_ne (tgt := 21) hx hb dX2_wouldTell_8 (by decide) (fun hc => ?_) (fun hc => ?_)
  · have h := h.1 hc
    refine lv_aload_n hx hb dX2_wouldTell_21 rfl (lv_at hl 0 rfl) ?_
    refine va_get (D := G.1) (ci := 5) (v := .ref s0) (C := RX2) (T := TX2) (N := 11) hx hb hts igX2 hown hK hP 0 rfl rfl 1 (by decide) (hts _ q177) (fun _ h9 => h9) rfl dX2_wouldTell_22 ?_
    refine lv_iload_n hx hb dX2_wouldTell_25 rfl (lv_at hl 1 rfl) ?_
    have hPc := va_P.sub (ws' := [(s0, .inr (4, [.ref b0, .ref s1, .ref s2, .long op, .int re])), (s1, .inl (G.2 1, 384, .inr (.inl dk))), (s2, .inl (G.2 1, 40, .inr (.inl wg))), (b0, .inr (3, [.ref b1, .ref b2, .ref b3, .ref b4, .ref b5, .ref b6, .int bn])), (b1, .inl (G.2 0, 40, .inl kf)), (b2, .inl (G.2 0, 40, .inl ff)), (b3, .inl (G.2 0, 40, .inl sf)), (b4, .inl (G.2 0, 40, .inl df)), (b5, .inl (G.2 1, 40, .inr (.inl pf))), (b6, .inl (G.2 1, 6, .inr (.inl gf)))]) hP [1, 2, 3, 10, 11, 12, 13, 14, 15, 16] rfl
    refine rdI (va_runV (C := RX1) (As := [.int p1]) (rest := []) ⟨hx, hb, hml, hown, hts⟩ (kX1_isTrueInReal l G s0 s1 s2 b0 b1 b2 b3 b4 b5 b6 dk wg op re kf ff sf df pf gf bn p1 h) (cwV 1 hts (gdV q413 q240 q241 q3 q242) rfl rfl rfl (by decide +kernel) ⟨Nat.le_of_ble_eq_true rfl, Nat.le_of_ble_eq_true rfl⟩) (preV hPc hKK (va_recv hK hPc (ci := 4) (q0 := 0) rfl rfl)) rfl rfl hl.1 rfl (lv_room (Nat.le_of_ble_eq_true rfl)) dX2_wouldTell_26 ⟨Nat.zero_le _, Nat.zero_le _⟩) (fun r_2 h => ?_)
    refine lv_if_ne (tgt := 34) hx hb dX2_wouldTell_29 (by decide) (fun hc => ?_) (fun hc => ?_)
    · have h := h.1 hc
      refine lv_aload_n hx hb dX2_wouldTell_34 rfl (lv_at hl 0 rfl) ?_
      refine va_get (D := G.1) (ci := 5) (v := .ref u0) (C := RX2) (T := TX2) (N := 11) hx hb hts igX2 hown hK hP 0 rfl rfl 2 (by decide) (hts _ q178) (fun _ h9 => h9) rfl dX2_wouldTell_35 ?_
      refine lv_aload_n hx hb dX2_wouldTell_38 rfl (lv_at hl 0 rfl) ?_
      refine va_get (D := G.1) (ci := 5) (v := .ref s0) (C := RX2) (T := TX2) (N := 11) hx hb hts igX2 hown hK hP 0 rfl rfl 1 (by decide) (hts _ q177) (fun _ h9 => h9) rfl dX2_wouldTell_39 ?_
      have hPc := va_P.sub (ws' := [(u0, .inr (4, [.ref b0, .ref u1, .ref u2, .long uo, .int ur])), (u1, .inl (G.2 1, 384, .inr (.inl uk))), (u2, .inl (G.2 1, 40, .inr (.inl uw))), (s0, .inr (4, [.ref b0, .ref s1, .ref s2, .long op, .int re])), (s1, .inl (G.2 1, 384, .inr (.inl dk))), (s2, .inl (G.2 1, 40, .inr (.inl wg)))]) hP [4, 5, 6, 1, 2, 3] rfl
      have hDc := hD.sub (ws' := [(u0, .inr (4, [.ref b0, .ref u1, .ref u2, .long uo, .int ur])), (u1, .inl (G.2 1, 384, .inr (.inl uk))), (u2, .inl (G.2 1, 40, .inr (.inl uw))), (s0, .inr (4, [.ref b0, .ref s1, .ref s2, .long op, .int re])), (s1, .inl (G.2 1, 384, .inr (.inl dk))), (s2, .inl (G.2 1, 40, .inr (.inl wg)))]) [4, 5, 6, 1, 2, 3] (by decide) rfl
      have hFc := va_free (wc := [(u0, .inr (4, [.ref b0, .ref u1, .ref u2, .long uo, .int ur])), (u1, .inl (G.2 1, 384, .inr (.inl uk))), (u2, .inl (G.2 1, 40, .inr (.inl uw))), (s0, .inr (4, [.ref b0, .ref s1, .ref s2, .long op, .int re])), (s1, .inl (G.2 1, 384, .inr (.inl dk))), (s2, .inl (G.2 1, 40, .inr (.inl wg)))]) hD hS hA [4, 5, 6, 1, 2, 3] rfl
      refine va_callv (va_runV (C := RX1) (As := [.ref s0]) (rest := []) ⟨hx, hb, hml, hown, hts⟩ (kX1_copyFrom l G u0 u1 u2 b0 b0 s0 s1 s2 uk uw uo ur dk wg op re _ h) (cwV 1 hts (gdV q463 q464 q465 q3 q466) rfl rfl rfl (by decide +kernel) ⟨Nat.le_of_ble_eq_true rfl, Nat.le_of_ble_eq_true rfl⟩) (preVw hPc hKK hDc (va_recv hK hPc (ci := 4) (q0 := 0) rfl rfl)) rfl rfl hl.1 rfl (lv_room (Nat.le_of_ble_eq_true rfl)) dX2_wouldTell_42 ⟨Nat.zero_le _, Nat.zero_le _⟩) hS (fun q _ h => hFc q h) hFc (fun u t H1 locs ht hvm h hB hz1 hk1 hS => ?_)
      obtain ⟨dk_1, wg_1, op_1, re_1⟩ := u
      obtain ⟨hP1, hD1⟩ := hB
      rw [ht] at hP1
      obtain ⟨hP, hD⟩ := va_join (wr := [(x0, .inr (5, [.ref b0, .ref s0, .ref u0, .ref v0, .int tA, .int wP, .int nT, .int aK, .int lK, .int sW, .int rF])), (v0, .inr (4, [.ref b0, .ref v1, .ref v2, .long vo, .int vr])), (v1, .inl (G.2 1, 384, .inr (.inl vk))), (v2, .inl (G.2 1, 40, .inr (.inl vw))), (b0, .inr (3, [.ref b1, .ref b2, .ref b3, .ref b4, .ref b5, .ref b6, .int bn])), (b1, .inl (G.2 0, 40, .inl kf)), (b2, .inl (G.2 0, 40, .inl ff)), (b3, .inl (G.2 0, 40, .inl sf)), (b4, .inl (G.2 0, 40, .inl df)), (b5, .inl (G.2 1, 40, .inr (.inl pf))), (b6, .inl (G.2 1, 6, .inr (.inl gf)))]) (w1 := [(u0, .inr (4, [.ref b0, .ref u1, .ref u2, .long op_1, .int re_1])), (u1, .inl (G.2 1, 384, .inr (.inl dk_1))), (u2, .inl (G.2 1, 40, .inr (.inl wg_1))), (s0, .inr (4, [.ref b0, .ref s1, .ref s2, .long op, .int re])), (s1, .inl (G.2 1, 384, .inr (.inl dk))), (s2, .inl (G.2 1, 40, .inr (.inl wg)))]) hP hD [4, 5, 6, 1, 2, 3] [0, 7, 8, 9, 10, 11, 12, 13, 14, 15, 16] rfl rfl (by decide) (by decide) hk1 hFc hP1 hD1
      generalize H1 = H at hP hS ⊢
      have hP : PP G [(x0, .inr (5, [.ref b0, .ref s0, .ref u0, .ref v0, .int tA, .int wP, .int nT, .int aK, .int lK, .int sW, .int rF])), (s0, .inr (4, [.ref b0, .ref s1, .ref s2, .long op, .int re])), (s1, .inl (G.2 1, 384, .inr (.inl dk))), (s2, .inl (G.2 1, 40, .inr (.inl wg))), (u0, .inr (4, [.ref b0, .ref u1, .ref u2, .long op_1, .int re_1])), (u1, .inl (G.2 1, 384, .inr (.inl dk_1))), (u2, .inl (G.2 1, 40, .inr (.inl wg_1))), (v0, .inr (4, [.ref b0, .ref v1, .ref v2, .long vo, .int vr])), (v1, .inl (G.2 1, 384, .inr (.inl vk))), (v2, .inl (G.2 1, 40, .inr (.inl vw))), (b0, .inr (3, [.ref b1, .ref b2, .ref b3, .ref b4, .ref b5, .ref b6, .int bn])), (b1, .inl (G.2 0, 40, .inl kf)), (b2, .inl (G.2 0, 40, .inl ff)), (b3, .inl (G.2 0, 40, .inl sf)), (b4, .inl (G.2 0, 40, .inl df)), (b5, .inl (G.2 1, 40, .inr (.inl pf))), (b6, .inl (G.2 1, 6, .inr (.inl gf)))] H := va_P.sub hP [0, 14, 15, 16, 11, 12, 13, 1, 2, 3, 4, 5, 6, 7, 8, 9, 10] rfl
      have hD : va_D A [(x0, .inr (5, [.ref b0, .ref s0, .ref u0, .ref v0, .int tA, .int wP, .int nT, .int aK, .int lK, .int sW, .int rF])), (s0, .inr (4, [.ref b0, .ref s1, .ref s2, .long op, .int re])), (s1, .inl (G.2 1, 384, .inr (.inl dk))), (s2, .inl (G.2 1, 40, .inr (.inl wg))), (u0, .inr (4, [.ref b0, .ref u1, .ref u2, .long op_1, .int re_1])), (u1, .inl (G.2 1, 384, .inr (.inl dk_1))), (u2, .inl (G.2 1, 40, .inr (.inl wg_1))), (v0, .inr (4, [.ref b0, .ref v1, .ref v2, .long vo, .int vr])), (v1, .inl (G.2 1, 384, .inr (.inl vk))), (v2, .inl (G.2 1, 40, .inr (.inl vw))), (b0, .inr (3, [.ref b1, .ref b2, .ref b3, .ref b4, .ref b5, .ref b6, .int bn])), (b1, .inl (G.2 0, 40, .inl kf)), (b2, .inl (G.2 0, 40, .inl ff)), (b3, .inl (G.2 0, 40, .inl sf)), (b4, .inl (G.2 0, 40, .inl df)), (b5, .inl (G.2 1, 40, .inr (.inl pf))), (b6, .inl (G.2 1, 6, .inr (.inl gf)))] := hD.sub [0, 14, 15, 16, 11, 12, 13, 1, 2, 3, 4, 5, 6, 7, 8, 9, 10] (by decide) rfl
      refine lv_aload_n hx hb dX2_wouldTell_45 rfl (lv_at hl 0 rfl) ?_
      refine va_get (D := G.1) (ci := 5) (v := .ref u0) (C := RX2) (T := TX2) (N := 11) hx hb hts igX2 hown hK hP 0 rfl rfl 2 (by decide) (hts _ q178) (fun _ h9 => h9) rfl dX2_wouldTell_46 ?_
      refine lv_aload_n hx hb dX2_wouldTell_49 rfl (lv_at hl 0 rfl) ?_
      refine va_get (D := G.1) (ci := 5) (v := .ref s0) (C := RX2) (T := TX2) (N := 11) hx hb hts igX2 hown hK hP 0 rfl rfl 1 (by decide) (hts _ q177) (fun _ h9 => h9) rfl dX2_wouldTell_50 ?_
      refine lv_iload_n hx hb dX2_wouldTell_53 rfl (lv_at hl 1 rfl) ?_
      have hPc := va_P.sub (ws' := [(s0, .inr (4, [.ref b0, .ref s1, .ref s2, .long op, .int re])), (s1, .inl (G.2 1, 384, .inr (.inl dk))), (s2, .inl (G.2 1, 40, .inr (.inl wg))), (b0, .inr (3, [.ref b1, .ref b2, .ref b3, .ref b4, .ref b5, .ref b6, .int bn])), (b1, .inl (G.2 0, 40, .inl kf)), (b2, .inl (G.2 0, 40, .inl ff)), (b3, .inl (G.2 0, 40, .inl sf)), (b4, .inl (G.2 0, 40, .inl df)), (b5, .inl (G.2 1, 40, .inr (.inl pf))), (b6, .inl (G.2 1, 6, .inr (.inl gf)))]) hP [1, 2, 3, 10, 11, 12, 13, 14, 15, 16] rfl
      refine rdL (va_runV (C := RX1) (As := [.int p1]) (rest := [.ref u0]) ⟨hx, hb, hml, hown, hts⟩ (kX1_worldsOf l G s0 s1 s2 b0 b1 b2 b3 b4 b5 b6 dk wg op re kf ff sf df pf gf bn p1 h) (cwV 1 hts (gdV q405 q135 q136 q3 q137) rfl rfl rfl (by decide +kernel) ⟨Nat.le_of_ble_eq_true rfl, Nat.le_of_ble_eq_true rfl⟩) (preV hPc hKK (va_recv hK hPc (ci := 4) (q0 := 0) rfl rfl)) rfl rfl hl.1 rfl (lv_room (Nat.le_of_ble_eq_true rfl)) dX2_wouldTell_54 ⟨Nat.zero_le _, Nat.zero_le _⟩) (fun r_4 h => ?_)
      have hPc := va_P.sub (ws' := [(u0, .inr (4, [.ref b0, .ref u1, .ref u2, .long op_1, .int re_1])), (u1, .inl (G.2 1, 384, .inr (.inl dk_1))), (u2, .inl (G.2 1, 40, .inr (.inl wg_1))), (b0, .inr (3, [.ref b1, .ref b2, .ref b3, .ref b4, .ref b5, .ref b6, .int bn])), (b1, .inl (G.2 0, 40, .inl kf)), (b2, .inl (G.2 0, 40, .inl ff)), (b3, .inl (G.2 0, 40, .inl sf)), (b4, .inl (G.2 0, 40, .inl df)), (b5, .inl (G.2 1, 40, .inr (.inl pf))), (b6, .inl (G.2 1, 6, .inr (.inl gf)))]) hP [4, 5, 6, 10, 11, 12, 13, 14, 15, 16] rfl
      have hDc := hD.sub (ws' := [(u0, .inr (4, [.ref b0, .ref u1, .ref u2, .long op_1, .int re_1])), (u1, .inl (G.2 1, 384, .inr (.inl dk_1))), (u2, .inl (G.2 1, 40, .inr (.inl wg_1))), (b0, .inr (3, [.ref b1, .ref b2, .ref b3, .ref b4, .ref b5, .ref b6, .int bn])), (b1, .inl (G.2 0, 40, .inl kf)), (b2, .inl (G.2 0, 40, .inl ff)), (b3, .inl (G.2 0, 40, .inl sf)), (b4, .inl (G.2 0, 40, .inl df)), (b5, .inl (G.2 1, 40, .inr (.inl pf))), (b6, .inl (G.2 1, 6, .inr (.inl gf)))]) [4, 5, 6, 10, 11, 12, 13, 14, 15, 16] (by decide) rfl
      have hFc := va_free (wc := [(u0, .inr (4, [.ref b0, .ref u1, .ref u2, .long op_1, .int re_1])), (u1, .inl (G.2 1, 384, .inr (.inl dk_1))), (u2, .inl (G.2 1, 40, .inr (.inl wg_1))), (b0, .inr (3, [.ref b1, .ref b2, .ref b3, .ref b4, .ref b5, .ref b6, .int bn])), (b1, .inl (G.2 0, 40, .inl kf)), (b2, .inl (G.2 0, 40, .inl ff)), (b3, .inl (G.2 0, 40, .inl sf)), (b4, .inl (G.2 0, 40, .inl df)), (b5, .inl (G.2 1, 40, .inr (.inl pf))), (b6, .inl (G.2 1, 6, .inr (.inl gf)))]) hD hS hA [4, 5, 6, 10, 11, 12, 13, 14, 15, 16] rfl
      refine va_callv (va_runV (C := RX1) (As := [.long r_4]) (rest := []) ⟨hx, hb, hml, hown, hts⟩ (kX1_keepOnly l G u0 u1 u2 b0 b1 b2 b3 b4 b5 b6 dk_1 wg_1 op_1 re_1 kf ff sf df pf gf bn r_4 _ h) (cwV 1 hts (gdV q484 q485 q486 q3 q487) rfl rfl rfl (by decide +kernel) ⟨Nat.le_of_ble_eq_true rfl, Nat.le_of_ble_eq_true rfl⟩) (preVw hPc hKK hDc (va_recv hK hPc (ci := 4) (q0 := 0) rfl rfl)) rfl rfl hl.1 rfl (lv_room (Nat.le_of_ble_eq_true rfl)) dX2_wouldTell_57 ⟨Nat.zero_le _, Nat.zero_le _⟩) hS (fun q _ h => hFc q h) hFc (fun u t H1 locs ht hvm h hB hz1 hk1 hS => ?_)
      obtain ⟨op_2, rfl⟩ : ∃ z, z = u := ⟨_, rfl⟩
      obtain ⟨hP1, hD1⟩ := hB
      rw [ht] at hP1
      obtain ⟨hP, hD⟩ := va_join (wr := [(x0, .inr (5, [.ref b0, .ref s0, .ref u0, .ref v0, .int tA, .int wP, .int nT, .int aK, .int lK, .int sW, .int rF])), (s0, .inr (4, [.ref b0, .ref s1, .ref s2, .long op, .int re])), (s1, .inl (G.2 1, 384, .inr (.inl dk))), (s2, .inl (G.2 1, 40, .inr (.inl wg))), (v0, .inr (4, [.ref b0, .ref v1, .ref v2, .long vo, .int vr])), (v1, .inl (G.2 1, 384, .inr (.inl vk))), (v2, .inl (G.2 1, 40, .inr (.inl vw)))]) (w1 := [(u0, .inr (4, [.ref b0, .ref u1, .ref u2, .long op_2, .int re_1])), (u1, .inl (G.2 1, 384, .inr (.inl dk_1))), (u2, .inl (G.2 1, 40, .inr (.inl wg_1))), (b0, .inr (3, [.ref b1, .ref b2, .ref b3, .ref b4, .ref b5, .ref b6, .int bn])), (b1, .inl (G.2 0, 40, .inl kf)), (b2, .inl (G.2 0, 40, .inl ff)), (b3, .inl (G.2 0, 40, .inl sf)), (b4, .inl (G.2 0, 40, .inl df)), (b5, .inl (G.2 1, 40, .inr (.inl pf))), (b6, .inl (G.2 1, 6, .inr (.inl gf)))]) hP hD [4, 5, 6, 10, 11, 12, 13, 14, 15, 16] [0, 1, 2, 3, 7, 8, 9] rfl rfl (by decide) (by decide) hk1 hFc hP1 hD1
      generalize H1 = H at hP hS ⊢
      have hP : PP G [(x0, .inr (5, [.ref b0, .ref s0, .ref u0, .ref v0, .int tA, .int wP, .int nT, .int aK, .int lK, .int sW, .int rF])), (s0, .inr (4, [.ref b0, .ref s1, .ref s2, .long op, .int re])), (s1, .inl (G.2 1, 384, .inr (.inl dk))), (s2, .inl (G.2 1, 40, .inr (.inl wg))), (u0, .inr (4, [.ref b0, .ref u1, .ref u2, .long op_2, .int re_1])), (u1, .inl (G.2 1, 384, .inr (.inl dk_1))), (u2, .inl (G.2 1, 40, .inr (.inl wg_1))), (v0, .inr (4, [.ref b0, .ref v1, .ref v2, .long vo, .int vr])), (v1, .inl (G.2 1, 384, .inr (.inl vk))), (v2, .inl (G.2 1, 40, .inr (.inl vw))), (b0, .inr (3, [.ref b1, .ref b2, .ref b3, .ref b4, .ref b5, .ref b6, .int bn])), (b1, .inl (G.2 0, 40, .inl kf)), (b2, .inl (G.2 0, 40, .inl ff)), (b3, .inl (G.2 0, 40, .inl sf)), (b4, .inl (G.2 0, 40, .inl df)), (b5, .inl (G.2 1, 40, .inr (.inl pf))), (b6, .inl (G.2 1, 6, .inr (.inl gf)))] H := va_P.sub hP [0, 1, 2, 3, 7, 8, 9, 4, 5, 6, 10, 11, 12, 13, 14, 15, 16] rfl
      have hD : va_D A [(x0, .inr (5, [.ref b0, .ref s0, .ref u0, .ref v0, .int tA, .int wP, .int nT, .int aK, .int lK, .int sW, .int rF])), (s0, .inr (4, [.ref b0, .ref s1, .ref s2, .long op, .int re])), (s1, .inl (G.2 1, 384, .inr (.inl dk))), (s2, .inl (G.2 1, 40, .inr (.inl wg))), (u0, .inr (4, [.ref b0, .ref u1, .ref u2, .long op_2, .int re_1])), (u1, .inl (G.2 1, 384, .inr (.inl dk_1))), (u2, .inl (G.2 1, 40, .inr (.inl wg_1))), (v0, .inr (4, [.ref b0, .ref v1, .ref v2, .long vo, .int vr])), (v1, .inl (G.2 1, 384, .inr (.inl vk))), (v2, .inl (G.2 1, 40, .inr (.inl vw))), (b0, .inr (3, [.ref b1, .ref b2, .ref b3, .ref b4, .ref b5, .ref b6, .int bn])), (b1, .inl (G.2 0, 40, .inl kf)), (b2, .inl (G.2 0, 40, .inl ff)), (b3, .inl (G.2 0, 40, .inl sf)), (b4, .inl (G.2 0, 40, .inl df)), (b5, .inl (G.2 1, 40, .inr (.inl pf))), (b6, .inl (G.2 1, 6, .inr (.inl gf)))] := hD.sub [0, 1, 2, 3, 7, 8, 9, 4, 5, 6, 10, 11, 12, 13, 14, 15, 16] (by decide) rfl
      refine lv_aload_n hx hb dX2_wouldTell_60 rfl (lv_at hl 0 rfl) ?_
      refine va_get (D := G.1) (ci := 5) (v := .ref u0) (C := RX2) (T := TX2) (N := 11) hx hb hts igX2 hown hK hP 0 rfl rfl 2 (by decide) (hts _ q178) (fun _ h9 => h9) rfl dX2_wouldTell_61 ?_
      refine lv_aload_n hx hb dX2_wouldTell_64 rfl (lv_at hl 0 rfl) ?_
      refine va_get (D := G.1) (ci := 5) (v := .ref b0) (C := RX2) (T := TX2) (N := 11) hx hb hts igX2 hown hK hP 0 rfl rfl 0 (by decide) (hts _ q176) (fun _ h9 => h9) rfl dX2_wouldTell_65 ?_
      have hPc := va_P.sub (ws' := [(b0, .inr (3, [.ref b1, .ref b2, .ref b3, .ref b4, .ref b5, .ref b6, .int bn])), (b1, .inl (G.2 0, 40, .inl kf)), (b2, .inl (G.2 0, 40, .inl ff)), (b3, .inl (G.2 0, 40, .inl sf)), (b4, .inl (G.2 0, 40, .inl df)), (b5, .inl (G.2 1, 40, .inr (.inl pf))), (b6, .inl (G.2 1, 6, .inr (.inl gf)))]) hP [10, 11, 12, 13, 14, 15, 16] rfl
      refine rdL (va_runV (C := RX0) (As := []) (rest := [.ref u0]) ⟨hx, hb, hml, hown, hts⟩ (kX0_everySentence l G b0 b1 b2 b3 b4 b5 b6 kf ff sf df pf gf bn h) (cwV 0 hts (gdV q583 q97 q98 q2 q99) rfl rfl rfl (by decide +kernel) ⟨Nat.le_of_ble_eq_true rfl, Nat.le_of_ble_eq_true rfl⟩) (preV hPc hKK (va_recv hK hPc (ci := 3) (q0 := 0) rfl rfl)) rfl rfl hl.1 rfl (lv_room (Nat.le_of_ble_eq_true rfl)) dX2_wouldTell_68 ⟨Nat.zero_le _, Nat.zero_le _⟩) (fun r_6 h => ?_)
      have hPc := va_P.sub (ws' := [(u0, .inr (4, [.ref b0, .ref u1, .ref u2, .long op_2, .int re_1])), (u1, .inl (G.2 1, 384, .inr (.inl dk_1))), (u2, .inl (G.2 1, 40, .inr (.inl wg_1))), (b0, .inr (3, [.ref b1, .ref b2, .ref b3, .ref b4, .ref b5, .ref b6, .int bn])), (b1, .inl (G.2 0, 40, .inl kf)), (b2, .inl (G.2 0, 40, .inl ff)), (b3, .inl (G.2 0, 40, .inl sf)), (b4, .inl (G.2 0, 40, .inl df)), (b5, .inl (G.2 1, 40, .inr (.inl pf))), (b6, .inl (G.2 1, 6, .inr (.inl gf)))]) hP [4, 5, 6, 10, 11, 12, 13, 14, 15, 16] rfl
      have hDc := hD.sub (ws' := [(u0, .inr (4, [.ref b0, .ref u1, .ref u2, .long op_2, .int re_1])), (u1, .inl (G.2 1, 384, .inr (.inl dk_1))), (u2, .inl (G.2 1, 40, .inr (.inl wg_1))), (b0, .inr (3, [.ref b1, .ref b2, .ref b3, .ref b4, .ref b5, .ref b6, .int bn])), (b1, .inl (G.2 0, 40, .inl kf)), (b2, .inl (G.2 0, 40, .inl ff)), (b3, .inl (G.2 0, 40, .inl sf)), (b4, .inl (G.2 0, 40, .inl df)), (b5, .inl (G.2 1, 40, .inr (.inl pf))), (b6, .inl (G.2 1, 6, .inr (.inl gf)))]) [4, 5, 6, 10, 11, 12, 13, 14, 15, 16] (by decide) rfl
      have hFc := va_free (wc := [(u0, .inr (4, [.ref b0, .ref u1, .ref u2, .long op_2, .int re_1])), (u1, .inl (G.2 1, 384, .inr (.inl dk_1))), (u2, .inl (G.2 1, 40, .inr (.inl wg_1))), (b0, .inr (3, [.ref b1, .ref b2, .ref b3, .ref b4, .ref b5, .ref b6, .int bn])), (b1, .inl (G.2 0, 40, .inl kf)), (b2, .inl (G.2 0, 40, .inl ff)), (b3, .inl (G.2 0, 40, .inl sf)), (b4, .inl (G.2 0, 40, .inl df)), (b5, .inl (G.2 1, 40, .inr (.inl pf))), (b6, .inl (G.2 1, 6, .inr (.inl gf)))]) hD hS hA [4, 5, 6, 10, 11, 12, 13, 14, 15, 16] rfl
      have hZc := (hZ.kept hS.2.1).narrow hFc
      refine va_callv (va_runV (C := RX1) (As := [.long r_6]) (rest := []) ⟨hx, hb, hml, hown, hts⟩ (kX1_weigh l G u0 u1 u2 b0 b1 b2 b3 b4 b5 b6 dk_1 wg_1 op_2 re_1 kf ff sf df pf gf bn r_6 _ h) (cwV 1 hts (gdV q475 q104 q105 q3 q106) rfl rfl rfl (by decide +kernel) ⟨Nat.le_of_ble_eq_true rfl, Nat.le_of_ble_eq_true rfl⟩) (preVwz hPc hKK hDc hZc (va_recv hK hPc (ci := 4) (q0 := 0) rfl rfl)) rfl rfl hl.1 rfl (lv_room (Nat.le_of_ble_eq_true rfl)) dX2_wouldTell_71 ⟨Nat.zero_le _, Nat.zero_le _⟩) hS (fun q _ h => hFc q h) hFc (fun u t H1 locs ht hvm h hB hz1 hk1 hS => ?_)
      obtain ⟨wg_2, rfl⟩ : ∃ z, z = u := ⟨_, rfl⟩
      obtain ⟨hP1, hD1⟩ := hB
      rw [ht] at hP1
      obtain ⟨hP, hD⟩ := va_join (wr := [(x0, .inr (5, [.ref b0, .ref s0, .ref u0, .ref v0, .int tA, .int wP, .int nT, .int aK, .int lK, .int sW, .int rF])), (s0, .inr (4, [.ref b0, .ref s1, .ref s2, .long op, .int re])), (s1, .inl (G.2 1, 384, .inr (.inl dk))), (s2, .inl (G.2 1, 40, .inr (.inl wg))), (v0, .inr (4, [.ref b0, .ref v1, .ref v2, .long vo, .int vr])), (v1, .inl (G.2 1, 384, .inr (.inl vk))), (v2, .inl (G.2 1, 40, .inr (.inl vw)))]) (w1 := [(u0, .inr (4, [.ref b0, .ref u1, .ref u2, .long op_2, .int re_1])), (u1, .inl (G.2 1, 384, .inr (.inl dk_1))), (u2, .inl (G.2 1, 40, .inr (.inl wg_2))), (b0, .inr (3, [.ref b1, .ref b2, .ref b3, .ref b4, .ref b5, .ref b6, .int bn])), (b1, .inl (G.2 0, 40, .inl kf)), (b2, .inl (G.2 0, 40, .inl ff)), (b3, .inl (G.2 0, 40, .inl sf)), (b4, .inl (G.2 0, 40, .inl df)), (b5, .inl (G.2 1, 40, .inr (.inl pf))), (b6, .inl (G.2 1, 6, .inr (.inl gf)))]) hP hD [4, 5, 6, 10, 11, 12, 13, 14, 15, 16] [0, 1, 2, 3, 7, 8, 9] rfl rfl (by decide) (by decide) hk1 hFc hP1 hD1
      generalize H1 = H at hP hS ⊢
      have hP : PP G [(x0, .inr (5, [.ref b0, .ref s0, .ref u0, .ref v0, .int tA, .int wP, .int nT, .int aK, .int lK, .int sW, .int rF])), (s0, .inr (4, [.ref b0, .ref s1, .ref s2, .long op, .int re])), (s1, .inl (G.2 1, 384, .inr (.inl dk))), (s2, .inl (G.2 1, 40, .inr (.inl wg))), (u0, .inr (4, [.ref b0, .ref u1, .ref u2, .long op_2, .int re_1])), (u1, .inl (G.2 1, 384, .inr (.inl dk_1))), (u2, .inl (G.2 1, 40, .inr (.inl wg_2))), (v0, .inr (4, [.ref b0, .ref v1, .ref v2, .long vo, .int vr])), (v1, .inl (G.2 1, 384, .inr (.inl vk))), (v2, .inl (G.2 1, 40, .inr (.inl vw))), (b0, .inr (3, [.ref b1, .ref b2, .ref b3, .ref b4, .ref b5, .ref b6, .int bn])), (b1, .inl (G.2 0, 40, .inl kf)), (b2, .inl (G.2 0, 40, .inl ff)), (b3, .inl (G.2 0, 40, .inl sf)), (b4, .inl (G.2 0, 40, .inl df)), (b5, .inl (G.2 1, 40, .inr (.inl pf))), (b6, .inl (G.2 1, 6, .inr (.inl gf)))] H := va_P.sub hP [0, 1, 2, 3, 7, 8, 9, 4, 5, 6, 10, 11, 12, 13, 14, 15, 16] rfl
      have hD : va_D A [(x0, .inr (5, [.ref b0, .ref s0, .ref u0, .ref v0, .int tA, .int wP, .int nT, .int aK, .int lK, .int sW, .int rF])), (s0, .inr (4, [.ref b0, .ref s1, .ref s2, .long op, .int re])), (s1, .inl (G.2 1, 384, .inr (.inl dk))), (s2, .inl (G.2 1, 40, .inr (.inl wg))), (u0, .inr (4, [.ref b0, .ref u1, .ref u2, .long op_2, .int re_1])), (u1, .inl (G.2 1, 384, .inr (.inl dk_1))), (u2, .inl (G.2 1, 40, .inr (.inl wg_2))), (v0, .inr (4, [.ref b0, .ref v1, .ref v2, .long vo, .int vr])), (v1, .inl (G.2 1, 384, .inr (.inl vk))), (v2, .inl (G.2 1, 40, .inr (.inl vw))), (b0, .inr (3, [.ref b1, .ref b2, .ref b3, .ref b4, .ref b5, .ref b6, .int bn])), (b1, .inl (G.2 0, 40, .inl kf)), (b2, .inl (G.2 0, 40, .inl ff)), (b3, .inl (G.2 0, 40, .inl sf)), (b4, .inl (G.2 0, 40, .inl df)), (b5, .inl (G.2 1, 40, .inr (.inl pf))), (b6, .inl (G.2 1, 6, .inr (.inl gf)))] := hD.sub [0, 1, 2, 3, 7, 8, 9, 4, 5, 6, 10, 11, 12, 13, 14, 15, 16] (by decide) rfl
      refine lv_aload_n hx hb dX2_wouldTell_74 rfl (lv_at hl 0 rfl) ?_
      refine va_get (D := G.1) (ci := 5) (v := .ref u0) (C := RX2) (T := TX2) (N := 11) hx hb hts igX2 hown hK hP 0 rfl rfl 2 (by decide) (hts _ q178) (fun _ h9 => h9) rfl dX2_wouldTell_75 ?_
      have hPc := va_P.sub (ws' := [(u0, .inr (4, [.ref b0, .ref u1, .ref u2, .long op_2, .int re_1])), (u1, .inl (G.2 1, 384, .inr (.inl dk_1))), (u2, .inl (G.2 1, 40, .inr (.inl wg_2))), (b0, .inr (3, [.ref b1, .ref b2, .ref b3, .ref b4, .ref b5, .ref b6, .int bn])), (b1, .inl (G.2 0, 40, .inl kf)), (b2, .inl (G.2 0, 40, .inl ff)), (b3, .inl (G.2 0, 40, .inl sf)), (b4, .inl (G.2 0, 40, .inl df)), (b5, .inl (G.2 1, 40, .inr (.inl pf))), (b6, .inl (G.2 1, 6, .inr (.inl gf)))]) hP [4, 5, 6, 10, 11, 12, 13, 14, 15, 16] rfl
      refine rdI (va_runV (C := RX1) (As := []) (rest := []) ⟨hx, hb, hml, hown, hts⟩ (kX1_countTrueInReal l G u0 u1 u2 b0 b1 b2 b3 b4 b5 b6 dk_1 wg_2 op_2 re_1 kf ff sf df pf gf bn h) (cwV 0 hts (gdV q253 q254 q255 q3 q256) rfl rfl rfl (by decide +kernel) ⟨Nat.le_of_ble_eq_true rfl, Nat.le_of_ble_eq_true rfl⟩) (preV hPc hKK (va_recv hK hPc (ci := 4) (q0 := 0) rfl rfl)) rfl rfl hl.1 rfl (lv_room (Nat.le_of_ble_eq_true rfl)) dX2_wouldTell_78 ⟨Nat.zero_le _, Nat.zero_le _⟩) (fun r_8 h => ?_)
      refine vx_ret (W.widen (k := 1) (n := 6) (Nat.le_of_ble_eq_true rfl) (Nat.le_of_ble_eq_true rfl) ?_)
      subst hQC; exact W.iret (v := r_8) hx hb hr (fun t ht hW => ⟨⟨_, (dk_1, wg_2, op_2, re_1), rfl, h, by rw [ht]; exact hP, hD⟩, hS.F ht⟩) hS.2.2 dX2_wouldTell_81
    · have h := h.2 hc
      refine lv_iconst (v := (-1)) hx hb dX2_wouldTell_32 (by decide) ?_
      refine vx_ret (W.widen (k := 1) (n := 6) (Nat.le_of_ble_eq_true rfl) (Nat.le_of_ble_eq_true rfl) ?_)
      subst hQC; exact W.iret (v := (-1 : Int32)) hx hb hr (fun t ht hW => ⟨⟨_, (uk, uw, uo, ur), rfl, h, by rw [ht]; exact hP, hD⟩, hS.F ht⟩) hS.2.2 dX2_wouldTell_33
  · have h := h.2 hc
    obtain ⟨sa, hsa⟩ := hR.1 ("NightdeskRota", 119, "no such sentence") (List.mem_of_getElem? (i := 4) rfl)
    subst hXC
    exact vx_throwS (names := rtx) (text := "no such sentence") (sa := sa) hx hb hfl hown (by decide +kernel) (by decide +kernel) (hts _ q349) (hts _ q22) hsa (hatX hat87a hat87b hts hN hZ) hgd87 hZ.2.1 hZ.2.2 hS (hl.1.trans hml.symm) dX2_wouldTell_11 dX2_wouldTell_14 dX2_wouldTell_15 dX2_wouldTell_17 dX2_wouldTell_20 (fun x hx => (hT x hx).elim) (Nat.le_of_ble_eq_true rfl) (Nat.le_of_ble_eq_true rfl) (Nat.le_of_ble_eq_true rfl) (Nat.le_of_ble_eq_true rfl) hlocks (fun t ht h1 h2 => ⟨(), trivial, ⟨keepAll hP h2, hD, h⟩, h1, fun q hq _ => h2 q hq⟩) hS.2.2 (Nat.le_refl _) (Nat.le_refl _)
theorem dX2_bestNote_0 : decode cX2_bestNote 0 = .ok (.iload_n 1, 1) := by decide +kernel
theorem dX2_bestNote_1 : decode cX2_bestNote 1 = .ok (.invokestatic 77, 3) := by decide +kernel
theorem dX2_bestNote_4 : decode cX2_bestNote 4 = .ok (.ifCond .eq 14, 3) := by decide +kernel
theorem dX2_bestNote_7 : decode cX2_bestNote 7 = .ok (.aload_n 0, 1) := by decide +kernel
theorem dX2_bestNote_8 : decode cX2_bestNote 8 = .ok (.getfield 10, 3) := by decide +kernel
theorem dX2_bestNote_11 : decode cX2_bestNote 11 = .ok (.iload_n 2, 1) := by decide +kernel
theorem dX2_bestNote_12 : decode cX2_bestNote 12 = .ok (.invokevirtual 116, 3) := by decide +kernel
theorem dX2_bestNote_15 : decode cX2_bestNote 15 = .ok (.ifCond .ne 13, 3) := by decide +kernel
theorem dX2_bestNote_18 : decode cX2_bestNote 18 = .ok (.new 83, 3) := by decide +kernel
theorem dX2_bestNote_21 : decode cX2_bestNote 21 = .ok (.dup, 1) := by decide +kernel
theorem dX2_bestNote_22 : decode cX2_bestNote 22 = .ok (.ldc 139, 2) := by decide +kernel
theorem dX2_bestNote_24 : decode cX2_bestNote 24 = .ok (.invokespecial 87, 3) := by decide +kernel
theorem dX2_bestNote_27 : decode cX2_bestNote 27 = .ok (.athrow, 1) := by decide +kernel
theorem dX2_bestNote_28 : decode cX2_bestNote 28 = .ok (.iconst (-1), 1) := by decide +kernel
theorem dX2_bestNote_29 : decode cX2_bestNote 29 = .ok (.istore_n 3, 1) := by decide +kernel
theorem dX2_bestNote_30 : decode cX2_bestNote 30 = .ok (.bipush 65, 2) := by decide +kernel
theorem dX2_bestNote_32 : decode cX2_bestNote 32 = .ok (.istore 4, 2) := by decide +kernel
theorem dX2_bestNote_34 : decode cX2_bestNote 34 = .ok (.iconst 0, 1) := by decide +kernel
theorem dX2_bestNote_35 : decode cX2_bestNote 35 = .ok (.istore 5, 2) := by decide +kernel
theorem dX2_bestNote_37 : decode cX2_bestNote 37 = .ok (.iload 5, 2) := by decide +kernel
theorem dX2_bestNote_39 : decode cX2_bestNote 39 = .ok (.bipush 6, 2) := by decide +kernel
theorem dX2_bestNote_41 : decode cX2_bestNote 41 = .ok (.if_icmp .ge 101, 3) := by decide +kernel
theorem dX2_bestNote_44 : decode cX2_bestNote 44 = .ok (.iload 5, 2) := by decide +kernel
theorem dX2_bestNote_46 : decode cX2_bestNote 46 = .ok (.iload_n 1, 1) := by decide +kernel
theorem dX2_bestNote_47 : decode cX2_bestNote 47 = .ok (.if_icmp .ne 6, 3) := by decide +kernel
theorem dX2_bestNote_50 : decode cX2_bestNote 50 = .ok (.goto 86, 3) := by decide +kernel
theorem dX2_bestNote_53 : decode cX2_bestNote 53 = .ok (.aload_n 0, 1) := by decide +kernel
theorem dX2_bestNote_54 : decode cX2_bestNote 54 = .ok (.getfield 25, 3) := by decide +kernel
theorem dX2_bestNote_57 : decode cX2_bestNote 57 = .ok (.aload_n 0, 1) := by decide +kernel
theorem dX2_bestNote_58 : decode cX2_bestNote 58 = .ok (.getfield 21, 3) := by decide +kernel
theorem dX2_bestNote_61 : decode cX2_bestNote 61 = .ok (.invokevirtual 257, 3) := by decide +kernel
theorem dX2_bestNote_64 : decode cX2_bestNote 64 = .ok (.aload_n 0, 1) := by decide +kernel
theorem dX2_bestNote_65 : decode cX2_bestNote 65 = .ok (.getfield 25, 3) := by decide +kernel
theorem dX2_bestNote_68 : decode cX2_bestNote 68 = .ok (.iload 5, 2) := by decide +kernel
theorem dX2_bestNote_70 : decode cX2_bestNote 70 = .ok (.iload_n 1, 1) := by decide +kernel
theorem dX2_bestNote_71 : decode cX2_bestNote 71 = .ok (.invokevirtual 151, 3) := by decide +kernel
theorem dX2_bestNote_74 : decode cX2_bestNote 74 = .ok (.pop, 1) := by decide +kernel
theorem dX2_bestNote_75 : decode cX2_bestNote 75 = .ok (.aload_n 0, 1) := by decide +kernel
theorem dX2_bestNote_76 : decode cX2_bestNote 76 = .ok (.getfield 25, 3) := by decide +kernel
theorem dX2_bestNote_79 : decode cX2_bestNote 79 = .ok (.aload_n 0, 1) := by decide +kernel
theorem dX2_bestNote_80 : decode cX2_bestNote 80 = .ok (.getfield 10, 3) := by decide +kernel
theorem dX2_bestNote_83 : decode cX2_bestNote 83 = .ok (.iload_n 2, 1) := by decide +kernel
theorem dX2_bestNote_84 : decode cX2_bestNote 84 = .ok (.invokevirtual 264, 3) := by decide +kernel
theorem dX2_bestNote_87 : decode cX2_bestNote 87 = .ok (.invokevirtual 73, 3) := by decide +kernel
theorem dX2_bestNote_90 : decode cX2_bestNote 90 = .ok (.aload_n 0, 1) := by decide +kernel
theorem dX2_bestNote_91 : decode cX2_bestNote 91 = .ok (.getfield 25, 3) := by decide +kernel
theorem dX2_bestNote_94 : decode cX2_bestNote 94 = .ok (.iload_n 1, 1) := by decide +kernel
theorem dX2_bestNote_95 : decode cX2_bestNote 95 = .ok (.aload_n 0, 1) := by decide +kernel
theorem dX2_bestNote_96 : decode cX2_bestNote 96 = .ok (.getfield 25, 3) := by decide +kernel
theorem dX2_bestNote_99 : decode cX2_bestNote 99 = .ok (.getfield 103, 3) := by decide +kernel
theorem dX2_bestNote_102 : decode cX2_bestNote 102 = .ok (.invokevirtual 106, 3) := by decide +kernel
theorem dX2_bestNote_105 : decode cX2_bestNote 105 = .ok (.invokestatic 110, 3) := by decide +kernel
theorem dX2_bestNote_108 : decode cX2_bestNote 108 = .ok (.istore 6, 2) := by decide +kernel
theorem dX2_bestNote_110 : decode cX2_bestNote 110 = .ok (.aload_n 0, 1) := by decide +kernel
theorem dX2_bestNote_111 : decode cX2_bestNote 111 = .ok (.getfield 25, 3) := by decide +kernel
theorem dX2_bestNote_114 : decode cX2_bestNote 114 = .ok (.iload_n 1, 1) := by decide +kernel
theorem dX2_bestNote_115 : decode cX2_bestNote 115 = .ok (.iload_n 2, 1) := by decide +kernel
theorem dX2_bestNote_116 : decode cX2_bestNote 116 = .ok (.invokevirtual 250, 3) := by decide +kernel
theorem dX2_bestNote_119 : decode cX2_bestNote 119 = .ok (.ifCond .eq 17, 3) := by decide +kernel
theorem dX2_bestNote_122 : decode cX2_bestNote 122 = .ok (.iload 6, 2) := by decide +kernel
theorem dX2_bestNote_124 : decode cX2_bestNote 124 = .ok (.iload 4, 2) := by decide +kernel
theorem dX2_bestNote_126 : decode cX2_bestNote 126 = .ok (.if_icmp .ge 10, 3) := by decide +kernel
theorem dX2_bestNote_129 : decode cX2_bestNote 129 = .ok (.iload 6, 2) := by decide +kernel
theorem dX2_bestNote_131 : decode cX2_bestNote 131 = .ok (.istore 4, 2) := by decide +kernel
theorem dX2_bestNote_133 : decode cX2_bestNote 133 = .ok (.iload 5, 2) := by decide +kernel
theorem dX2_bestNote_135 : decode cX2_bestNote 135 = .ok (.istore_n 3, 1) := by decide +kernel
theorem dX2_bestNote_136 : decode cX2_bestNote 136 = .ok (.iinc 5 1, 3) := by decide +kernel
theorem dX2_bestNote_139 : decode cX2_bestNote 139 = .ok (.goto (-102), 3) := by decide +kernel
theorem dX2_bestNote_142 : decode cX2_bestNote 142 = .ok (.iload_n 3, 1) := by decide +kernel
theorem dX2_bestNote_143 : decode cX2_bestNote 143 = .ok (.ireturn, 1) := by decide +kernel
def wxX2_bestNote_L37 (post : Int32 → (Nat → Int64) × (Nat → Int64) × Int64 × Int32 → Prop) (postx : String → Prop) (K142 : Int32 → Int32 → Int32 → (Nat → Int64) → (Nat → Int64) → Int64 → Int32 → Prop) (dk : Nat → Int64) (wg : Nat → Int64) (op : Int64) (re : Int32) (kf : Nat → Int32) (ff : Nat → Int32) (sf : Nat → Int32) (pf : Nat → Int64) (bn : Int32) (p1 : Int32) (p2 : Int32) : Nat → Int32 → Int32 → Int32 → (Nat → Int64) → (Nat → Int64) → Int64 → Int32 → Prop
  | 0, _, _, _, _, _, _, _ => False
  | n+1, i3, i4, i5, uk', uw', uo', ur' =>
    (((6 : Int32) ≤ i5) →
      K142 i3 i4 i5 uk' uw' uo' ur'
    ) ∧ (¬ ((6 : Int32) ≤ i5) →
      ((¬ i5 = p1) →
        wX1_copyFrom (fun (z_1 : (Nat → Int64) × (Nat → Int64) × Int64 × Int32) =>
          wX1_passOn (fun (r_4 : Int32) (dk_2 : Nat → Int64) =>
            wX0_partsOf (fun r_5 : Int64 =>
              wX1_weigh (fun (wg_2 : Nat → Int64) =>
                wX1_cell (fun r_7 : Int64 =>
                  wJ13_bitCount_95d88 (fun r_8 : Int32 =>
                    wX1_knows (fun r_9 : Int32 =>
                      ((r_9 = 0) →
                        wxX2_bestNote_L37 post postx K142 dk wg op re kf ff sf pf bn p1 p2 n i3 i4 (i5 + 1) dk_2 wg_2 z_1.2.2.1 z_1.2.2.2
                      ) ∧ (¬ (r_9 = 0) →
                        ((i4 ≤ r_8) →
                          wxX2_bestNote_L37 post postx K142 dk wg op re kf ff sf pf bn p1 p2 n i3 i4 (i5 + 1) dk_2 wg_2 z_1.2.2.1 z_1.2.2.2
                        ) ∧ (¬ (i4 ≤ r_8) →
                          wxX2_bestNote_L37 post postx K142 dk wg op re kf ff sf pf bn p1 p2 n i5 r_8 (i5 + 1) dk_2 wg_2 z_1.2.2.1 z_1.2.2.2
                        )
                      )
                      ) dk_2 wg_2 z_1.2.2.1 z_1.2.2.2 bn p1 p2
                    ) r_7
                  ) dk_2 z_1.2.2.1 p1 z_1.2.2.2
                ) dk_2 z_1.2.1 z_1.2.2.1 kf ff sf bn r_5
              ) pf bn p2
            ) z_1.1 z_1.2.2.1 i5 p1
          ) uk' uw' uo' ur' dk wg op re
      ) ∧ ((i5 = p1) →
        wxX2_bestNote_L37 post postx K142 dk wg op re kf ff sf pf bn p1 p2 n i3 i4 (i5 + 1) uk' uw' uo' ur'
      )
    )
def wxX2_bestNote (post : Int32 → (Nat → Int64) × (Nat → Int64) × Int64 × Int32 → Prop) (postx : String → Prop) (dk : Nat → Int64) (wg : Nat → Int64) (op : Int64) (re : Int32) (uk : Nat → Int64) (uw : Nat → Int64) (uo : Int64) (ur : Int32) (kf : Nat → Int32) (ff : Nat → Int32) (sf : Nat → Int32) (pf : Nat → Int64) (bn : Int32) (p1 : Int32) (p2 : Int32) : Prop :=
  wX2_isGuard (fun r_1 : Int32 =>
    ((r_1 = 0) →
      postx "java/lang/IndexOutOfBoundsException"
    ) ∧ (¬ (r_1 = 0) →
      wX0_holds (fun r_2 : Int32 =>
        ((¬ r_2 = 0) →
          ∃ nF, wxX2_bestNote_L37 post postx
            (fun i3 i4 i5 uk' uw' uo' ur' =>
              post i3 (uk', uw', uo', ur')
            )
            dk wg op re kf ff sf pf bn p1 p2 nF (-1 : Int32) (65 : Int32) (0 : Int32) uk uw uo ur
        ) ∧ ((r_2 = 0) →
          postx "java/lang/IndexOutOfBoundsException"
        )
        ) bn p2
    )
    ) p1
abbrev wl_xX2_bestNote : List Cond := .code yX2_bestNote cX2_bestNote 7 (some .int) :: lwg
abbrev rm_xX2_bestNote : Room := { frames := 6, cells := 1, slots := 6, locals := 128 }
set_option maxHeartbeats 4000000 in
set_option maxRecDepth 100000 in
theorem kxX2_bestNote {post : Int32 → (Nat → Int64) × (Nat → Int64) × Int64 × Int32 → Prop} {postx : String → Prop} (l : Launch) (hfl : l.stackTraces = false) (G : GT) (x0 : Nat) (s0 : Nat) (s1 : Nat) (s2 : Nat) (u0 : Nat) (u1 : Nat) (u2 : Nat) (v0 : Nat) (v1 : Nat) (v2 : Nat) (b0 : Nat) (b1 : Nat) (b2 : Nat) (b3 : Nat) (b4 : Nat) (b5 : Nat) (b6 : Nat) (tA : Int32) (wP : Int32) (nT : Int32) (aK : Int32) (lK : Int32) (sW : Int32) (rF : Int32) (dk : Nat → Int64) (wg : Nat → Int64) (op : Int64) (re : Int32) (uk : Nat → Int64) (uw : Nat → Int64) (uo : Int64) (ur : Int32) (vk : Nat → Int64) (vw : Nat → Int64) (vo : Int64) (vr : Int32) (kf : Nat → Int32) (ff : Nat → Int32) (sf : Nat → Int32) (df : Nat → Int32) (pf : Nat → Int64) (gf : Nat → Int64) (bn : Int32) (p1 : Int32) (p2 : Int32) (sz : Nat) (h : wxX2_bestNote post postx dk wg op re uk uw uo ur kf ff sf pf bn p1 p2) : vx_Met l yX2_bestNote wl_xX2_bestNote rm_xX2_bestNote (va_Pc [.ref x0, .int p1, .int p2] (fun U => U.heap.size = sz ∧ PP G [(x0, .inr (5, [.ref b0, .ref s0, .ref u0, .ref v0, .int tA, .int wP, .int nT, .int aK, .int lK, .int sW, .int rF])), (s0, .inr (4, [.ref b0, .ref s1, .ref s2, .long op, .int re])), (s1, .inl (G.2 1, 384, .inr (.inl dk))), (s2, .inl (G.2 1, 40, .inr (.inl wg))), (u0, .inr (4, [.ref b0, .ref u1, .ref u2, .long uo, .int ur])), (u1, .inl (G.2 1, 384, .inr (.inl uk))), (u2, .inl (G.2 1, 40, .inr (.inl uw))), (v0, .inr (4, [.ref b0, .ref v1, .ref v2, .long vo, .int vr])), (v1, .inl (G.2 1, 384, .inr (.inl vk))), (v2, .inl (G.2 1, 40, .inr (.inl vw))), (b0, .inr (3, [.ref b1, .ref b2, .ref b3, .ref b4, .ref b5, .ref b6, .int bn])), (b1, .inl (G.2 0, 40, .inl kf)), (b2, .inl (G.2 0, 40, .inl ff)), (b3, .inl (G.2 0, 40, .inl sf)), (b4, .inl (G.2 0, 40, .inl df)), (b5, .inl (G.2 1, 40, .inr (.inl pf))), (b6, .inl (G.2 1, 6, .inr (.inl gf)))] U.heap ∧ KK G U ∧ va_D (fun _ => True) [(x0, .inr (5, [.ref b0, .ref s0, .ref u0, .ref v0, .int tA, .int wP, .int nT, .int aK, .int lK, .int sW, .int rF])), (s0, .inr (4, [.ref b0, .ref s1, .ref s2, .long op, .int re])), (s1, .inl (G.2 1, 384, .inr (.inl dk))), (s2, .inl (G.2 1, 40, .inr (.inl wg))), (u0, .inr (4, [.ref b0, .ref u1, .ref u2, .long uo, .int ur])), (u1, .inl (G.2 1, 384, .inr (.inl uk))), (u2, .inl (G.2 1, 40, .inr (.inl uw))), (v0, .inr (4, [.ref b0, .ref v1, .ref v2, .long vo, .int vr])), (v1, .inl (G.2 1, 384, .inr (.inl vk))), (v2, .inl (G.2 1, 40, .inr (.inl vw))), (b0, .inr (3, [.ref b1, .ref b2, .ref b3, .ref b4, .ref b5, .ref b6, .int bn])), (b1, .inl (G.2 0, 40, .inl kf)), (b2, .inl (G.2 0, 40, .inl ff)), (b3, .inl (G.2 0, 40, .inl sf)), (b4, .inl (G.2 0, 40, .inl df)), (b5, .inl (G.2 1, 40, .inr (.inl pf))), (b6, .inl (G.2 1, 6, .inr (.inl gf)))] ∧ ZZ (va_A [(x0, .inr (5, [.ref b0, .ref s0, .ref u0, .ref v0, .int tA, .int wP, .int nT, .int aK, .int lK, .int sW, .int rF])), (s0, .inr (4, [.ref b0, .ref s1, .ref s2, .long op, .int re])), (s1, .inl (G.2 1, 384, .inr (.inl dk))), (s2, .inl (G.2 1, 40, .inr (.inl wg))), (u0, .inr (4, [.ref b0, .ref u1, .ref u2, .long uo, .int ur])), (u1, .inl (G.2 1, 384, .inr (.inl uk))), (u2, .inl (G.2 1, 40, .inr (.inl uw))), (v0, .inr (4, [.ref b0, .ref v1, .ref v2, .long vo, .int vr])), (v1, .inl (G.2 1, 384, .inr (.inl vk))), (v2, .inl (G.2 1, 40, .inr (.inl vw))), (b0, .inr (3, [.ref b1, .ref b2, .ref b3, .ref b4, .ref b5, .ref b6, .int bn])), (b1, .inl (G.2 0, 40, .inl kf)), (b2, .inl (G.2 0, 40, .inl ff)), (b3, .inl (G.2 0, 40, .inl sf)), (b4, .inl (G.2 0, 40, .inl df)), (b5, .inl (G.2 1, 40, .inr (.inl pf))), (b6, .inl (G.2 1, 6, .inr (.inl gf)))] sz) U U.heap)) (va_Qi post (fun u t => PP G [(x0, .inr (5, [.ref b0, .ref s0, .ref u0, .ref v0, .int tA, .int wP, .int nT, .int aK, .int lK, .int sW, .int rF])), (s0, .inr (4, [.ref b0, .ref s1, .ref s2, .long op, .int re])), (s1, .inl (G.2 1, 384, .inr (.inl dk))), (s2, .inl (G.2 1, 40, .inr (.inl wg))), (u0, .inr (4, [.ref b0, .ref u1, .ref u2, .long (u.2.2.1), .int (u.2.2.2)])), (u1, .inl (G.2 1, 384, .inr (.inl (u.1)))), (u2, .inl (G.2 1, 40, .inr (.inl (u.2.1)))), (v0, .inr (4, [.ref b0, .ref v1, .ref v2, .long vo, .int vr])), (v1, .inl (G.2 1, 384, .inr (.inl vk))), (v2, .inl (G.2 1, 40, .inr (.inl vw))), (b0, .inr (3, [.ref b1, .ref b2, .ref b3, .ref b4, .ref b5, .ref b6, .int bn])), (b1, .inl (G.2 0, 40, .inl kf)), (b2, .inl (G.2 0, 40, .inl ff)), (b3, .inl (G.2 0, 40, .inl sf)), (b4, .inl (G.2 0, 40, .inl df)), (b5, .inl (G.2 1, 40, .inr (.inl pf))), (b6, .inl (G.2 1, 6, .inr (.inl gf)))] t.heap ∧ va_D (va_A [(x0, .inr (5, [.ref b0, .ref s0, .ref u0, .ref v0, .int tA, .int wP, .int nT, .int aK, .int lK, .int sW, .int rF])), (s0, .inr (4, [.ref b0, .ref s1, .ref s2, .long op, .int re])), (s1, .inl (G.2 1, 384, .inr (.inl dk))), (s2, .inl (G.2 1, 40, .inr (.inl wg))), (u0, .inr (4, [.ref b0, .ref u1, .ref u2, .long uo, .int ur])), (u1, .inl (G.2 1, 384, .inr (.inl uk))), (u2, .inl (G.2 1, 40, .inr (.inl uw))), (v0, .inr (4, [.ref b0, .ref v1, .ref v2, .long vo, .int vr])), (v1, .inl (G.2 1, 384, .inr (.inl vk))), (v2, .inl (G.2 1, 40, .inr (.inl vw))), (b0, .inr (3, [.ref b1, .ref b2, .ref b3, .ref b4, .ref b5, .ref b6, .int bn])), (b1, .inl (G.2 0, 40, .inl kf)), (b2, .inl (G.2 0, 40, .inl ff)), (b3, .inl (G.2 0, 40, .inl sf)), (b4, .inl (G.2 0, 40, .inl df)), (b5, .inl (G.2 1, 40, .inr (.inl pf))), (b6, .inl (G.2 1, 6, .inr (.inl gf)))] sz) [(x0, .inr (5, [.ref b0, .ref s0, .ref u0, .ref v0, .int tA, .int wP, .int nT, .int aK, .int lK, .int sW, .int rF])), (s0, .inr (4, [.ref b0, .ref s1, .ref s2, .long op, .int re])), (s1, .inl (G.2 1, 384, .inr (.inl dk))), (s2, .inl (G.2 1, 40, .inr (.inl wg))), (u0, .inr (4, [.ref b0, .ref u1, .ref u2, .long (u.2.2.1), .int (u.2.2.2)])), (u1, .inl (G.2 1, 384, .inr (.inl (u.1)))), (u2, .inl (G.2 1, 40, .inr (.inl (u.2.1)))), (v0, .inr (4, [.ref b0, .ref v1, .ref v2, .long vo, .int vr])), (v1, .inl (G.2 1, 384, .inr (.inl vk))), (v2, .inl (G.2 1, 40, .inr (.inl vw))), (b0, .inr (3, [.ref b1, .ref b2, .ref b3, .ref b4, .ref b5, .ref b6, .int bn])), (b1, .inl (G.2 0, 40, .inl kf)), (b2, .inl (G.2 0, 40, .inl ff)), (b3, .inl (G.2 0, 40, .inl sf)), (b4, .inl (G.2 0, 40, .inl df)), (b5, .inl (G.2 1, 40, .inr (.inl pf))), (b6, .inl (G.2 1, 6, .inr (.inl gf)))]) (va_A [(x0, .inr (5, [.ref b0, .ref s0, .ref u0, .ref v0, .int tA, .int wP, .int nT, .int aK, .int lK, .int sW, .int rF])), (s0, .inr (4, [.ref b0, .ref s1, .ref s2, .long op, .int re])), (s1, .inl (G.2 1, 384, .inr (.inl dk))), (s2, .inl (G.2 1, 40, .inr (.inl wg))), (u0, .inr (4, [.ref b0, .ref u1, .ref u2, .long uo, .int ur])), (u1, .inl (G.2 1, 384, .inr (.inl uk))), (u2, .inl (G.2 1, 40, .inr (.inl uw))), (v0, .inr (4, [.ref b0, .ref v1, .ref v2, .long vo, .int vr])), (v1, .inl (G.2 1, 384, .inr (.inl vk))), (v2, .inl (G.2 1, 40, .inr (.inl vw))), (b0, .inr (3, [.ref b1, .ref b2, .ref b3, .ref b4, .ref b5, .ref b6, .int bn])), (b1, .inl (G.2 0, 40, .inl kf)), (b2, .inl (G.2 0, 40, .inl ff)), (b3, .inl (G.2 0, 40, .inl sf)), (b4, .inl (G.2 0, 40, .inl df)), (b5, .inl (G.2 1, 40, .inr (.inl pf))), (b6, .inl (G.2 1, 6, .inr (.inl gf)))] sz)) (vx_X (fun _ : Unit => True) (fun E _ t => PP G [(x0, .inr (5, [.ref b0, .ref s0, .ref u0, .ref v0, .int tA, .int wP, .int nT, .int aK, .int lK, .int sW, .int rF])), (s0, .inr (4, [.ref b0, .ref s1, .ref s2, .long op, .int re])), (s1, .inl (G.2 1, 384, .inr (.inl dk))), (s2, .inl (G.2 1, 40, .inr (.inl wg))), (u0, .inr (4, [.ref b0, .ref u1, .ref u2, .long uo, .int ur])), (u1, .inl (G.2 1, 384, .inr (.inl uk))), (u2, .inl (G.2 1, 40, .inr (.inl uw))), (v0, .inr (4, [.ref b0, .ref v1, .ref v2, .long vo, .int vr])), (v1, .inl (G.2 1, 384, .inr (.inl vk))), (v2, .inl (G.2 1, 40, .inr (.inl vw))), (b0, .inr (3, [.ref b1, .ref b2, .ref b3, .ref b4, .ref b5, .ref b6, .int bn])), (b1, .inl (G.2 0, 40, .inl kf)), (b2, .inl (G.2 0, 40, .inl ff)), (b3, .inl (G.2 0, 40, .inl sf)), (b4, .inl (G.2 0, 40, .inl df)), (b5, .inl (G.2 1, 40, .inr (.inl pf))), (b6, .inl (G.2 1, 6, .inr (.inl gf)))] t.heap ∧ va_D (va_A [(x0, .inr (5, [.ref b0, .ref s0, .ref u0, .ref v0, .int tA, .int wP, .int nT, .int aK, .int lK, .int sW, .int rF])), (s0, .inr (4, [.ref b0, .ref s1, .ref s2, .long op, .int re])), (s1, .inl (G.2 1, 384, .inr (.inl dk))), (s2, .inl (G.2 1, 40, .inr (.inl wg))), (u0, .inr (4, [.ref b0, .ref u1, .ref u2, .long uo, .int ur])), (u1, .inl (G.2 1, 384, .inr (.inl uk))), (u2, .inl (G.2 1, 40, .inr (.inl uw))), (v0, .inr (4, [.ref b0, .ref v1, .ref v2, .long vo, .int vr])), (v1, .inl (G.2 1, 384, .inr (.inl vk))), (v2, .inl (G.2 1, 40, .inr (.inl vw))), (b0, .inr (3, [.ref b1, .ref b2, .ref b3, .ref b4, .ref b5, .ref b6, .int bn])), (b1, .inl (G.2 0, 40, .inl kf)), (b2, .inl (G.2 0, 40, .inl ff)), (b3, .inl (G.2 0, 40, .inl sf)), (b4, .inl (G.2 0, 40, .inl df)), (b5, .inl (G.2 1, 40, .inr (.inl pf))), (b6, .inl (G.2 1, 6, .inr (.inl gf)))] sz) [(x0, .inr (5, [.ref b0, .ref s0, .ref u0, .ref v0, .int tA, .int wP, .int nT, .int aK, .int lK, .int sW, .int rF])), (s0, .inr (4, [.ref b0, .ref s1, .ref s2, .long op, .int re])), (s1, .inl (G.2 1, 384, .inr (.inl dk))), (s2, .inl (G.2 1, 40, .inr (.inl wg))), (u0, .inr (4, [.ref b0, .ref u1, .ref u2, .long uo, .int ur])), (u1, .inl (G.2 1, 384, .inr (.inl uk))), (u2, .inl (G.2 1, 40, .inr (.inl uw))), (v0, .inr (4, [.ref b0, .ref v1, .ref v2, .long vo, .int vr])), (v1, .inl (G.2 1, 384, .inr (.inl vk))), (v2, .inl (G.2 1, 40, .inr (.inl vw))), (b0, .inr (3, [.ref b1, .ref b2, .ref b3, .ref b4, .ref b5, .ref b6, .int bn])), (b1, .inl (G.2 0, 40, .inl kf)), (b2, .inl (G.2 0, 40, .inl ff)), (b3, .inl (G.2 0, 40, .inl sf)), (b4, .inl (G.2 0, 40, .inl df)), (b5, .inl (G.2 1, 40, .inr (.inl pf))), (b6, .inl (G.2 1, 6, .inr (.inl gf)))] ∧ postx E) (va_A [(x0, .inr (5, [.ref b0, .ref s0, .ref u0, .ref v0, .int tA, .int wP, .int nT, .int aK, .int lK, .int sW, .int rF])), (s0, .inr (4, [.ref b0, .ref s1, .ref s2, .long op, .int re])), (s1, .inl (G.2 1, 384, .inr (.inl dk))), (s2, .inl (G.2 1, 40, .inr (.inl wg))), (u0, .inr (4, [.ref b0, .ref u1, .ref u2, .long uo, .int ur])), (u1, .inl (G.2 1, 384, .inr (.inl uk))), (u2, .inl (G.2 1, 40, .inr (.inl uw))), (v0, .inr (4, [.ref b0, .ref v1, .ref v2, .long vo, .int vr])), (v1, .inl (G.2 1, 384, .inr (.inl vk))), (v2, .inl (G.2 1, 40, .inr (.inl vw))), (b0, .inr (3, [.ref b1, .ref b2, .ref b3, .ref b4, .ref b5, .ref b6, .int bn])), (b1, .inl (G.2 0, 40, .inl kf)), (b2, .inl (G.2 0, 40, .inl ff)), (b3, .inl (G.2 0, 40, .inl sf)), (b4, .inl (G.2 0, 40, .inl df)), (b5, .inl (G.2 1, 40, .inr (.inl pf))), (b6, .inl (G.2 1, 6, .inr (.inl gf)))] sz)) 1 6 (va_A [(x0, .inr (5, [.ref b0, .ref s0, .ref u0, .ref v0, .int tA, .int wP, .int nT, .int aK, .int lK, .int sW, .int rF])), (s0, .inr (4, [.ref b0, .ref s1, .ref s2, .long op, .int re])), (s1, .inl (G.2 1, 384, .inr (.inl dk))), (s2, .inl (G.2 1, 40, .inr (.inl wg))), (u0, .inr (4, [.ref b0, .ref u1, .ref u2, .long uo, .int ur])), (u1, .inl (G.2 1, 384, .inr (.inl uk))), (u2, .inl (G.2 1, 40, .inr (.inl uw))), (v0, .inr (4, [.ref b0, .ref v1, .ref v2, .long vo, .int vr])), (v1, .inl (G.2 1, 384, .inr (.inl vk))), (v2, .inl (G.2 1, 40, .inr (.inl vw))), (b0, .inr (3, [.ref b1, .ref b2, .ref b3, .ref b4, .ref b5, .ref b6, .int bn])), (b1, .inl (G.2 0, 40, .inl kf)), (b2, .inl (G.2 0, 40, .inl ff)), (b3, .inl (G.2 0, 40, .inl sf)), (b4, .inl (G.2 0, 40, .inl df)), (b5, .inl (G.2 1, 40, .inr (.inl pf))), (b6, .inl (G.2 1, 6, .inr (.inl gf)))] sz) := by
  refine vx_ofW (cc := cX2_bestNote) (maxL := 7) (ret := (some .int)) (by decide) rfl ?_
  intro p e s m args below meth c s₁ B hml hT hv
  obtain ⟨rfl, hsz, hP, hKK, hD0, hZ⟩ := hv
  obtain ⟨hK, hN, hR, hFW, hNC⟩ := id hKK
  have hx := B.exec
  have hb := B.bytes
  have hr := B.returns
  have hts0 := atoms_spec (ws := wl_xX2_bestNote) B.pre
  have hts : ∀ w ∈ lwg, w.before ([.ref x0, .int p1, .int p2] : List Value).toArray s = true := fun w hw => hts0 w (List.mem_cons_of_mem _ hw)
  have hown : s.vm.findClass RX2 = some m.cls := findClass_of_methodNamed B.named
  have hlocks := B.notSynchronized
  subst hsz
  have hD := hD0.self (sz := s.heap.size)
  generalize hAe : va_A [(x0, .inr (5, [.ref b0, .ref s0, .ref u0, .ref v0, .int tA, .int wP, .int nT, .int aK, .int lK, .int sW, .int rF])), (s0, .inr (4, [.ref b0, .ref s1, .ref s2, .long op, .int re])), (s1, .inl (G.2 1, 384, .inr (.inl dk))), (s2, .inl (G.2 1, 40, .inr (.inl wg))), (u0, .inr (4, [.ref b0, .ref u1, .ref u2, .long uo, .int ur])), (u1, .inl (G.2 1, 384, .inr (.inl uk))), (u2, .inl (G.2 1, 40, .inr (.inl uw))), (v0, .inr (4, [.ref b0, .ref v1, .ref v2, .long vo, .int vr])), (v1, .inl (G.2 1, 384, .inr (.inl vk))), (v2, .inl (G.2 1, 40, .inr (.inl vw))), (b0, .inr (3, [.ref b1, .ref b2, .ref b3, .ref b4, .ref b5, .ref b6, .int bn])), (b1, .inl (G.2 0, 40, .inl kf)), (b2, .inl (G.2 0, 40, .inl ff)), (b3, .inl (G.2 0, 40, .inl sf)), (b4, .inl (G.2 0, 40, .inl df)), (b5, .inl (G.2 1, 40, .inr (.inl pf))), (b6, .inl (G.2 1, 6, .inr (.inl gf)))] s.heap.size = A at hD hZ ⊢
  have hA : ∀ q : Nat, s.heap.size ≤ q → A q := fun q h => by rw [← hAe]; exact Or.inr h
  have hS : va_S A s.heap s.heap [] := va_S.rf
  obtain ⟨QC, hQC⟩ : ∃ Z, Z = (va_Qi post (fun u t => PP G [(x0, .inr (5, [.ref b0, .ref s0, .ref u0, .ref v0, .int tA, .int wP, .int nT, .int aK, .int lK, .int sW, .int rF])), (s0, .inr (4, [.ref b0, .ref s1, .ref s2, .long op, .int re])), (s1, .inl (G.2 1, 384, .inr (.inl dk))), (s2, .inl (G.2 1, 40, .inr (.inl wg))), (u0, .inr (4, [.ref b0, .ref u1, .ref u2, .long (u.2.2.1), .int (u.2.2.2)])), (u1, .inl (G.2 1, 384, .inr (.inl (u.1)))), (u2, .inl (G.2 1, 40, .inr (.inl (u.2.1)))), (v0, .inr (4, [.ref b0, .ref v1, .ref v2, .long vo, .int vr])), (v1, .inl (G.2 1, 384, .inr (.inl vk))), (v2, .inl (G.2 1, 40, .inr (.inl vw))), (b0, .inr (3, [.ref b1, .ref b2, .ref b3, .ref b4, .ref b5, .ref b6, .int bn])), (b1, .inl (G.2 0, 40, .inl kf)), (b2, .inl (G.2 0, 40, .inl ff)), (b3, .inl (G.2 0, 40, .inl sf)), (b4, .inl (G.2 0, 40, .inl df)), (b5, .inl (G.2 1, 40, .inr (.inl pf))), (b6, .inl (G.2 1, 6, .inr (.inl gf)))] t.heap ∧ va_D A [(x0, .inr (5, [.ref b0, .ref s0, .ref u0, .ref v0, .int tA, .int wP, .int nT, .int aK, .int lK, .int sW, .int rF])), (s0, .inr (4, [.ref b0, .ref s1, .ref s2, .long op, .int re])), (s1, .inl (G.2 1, 384, .inr (.inl dk))), (s2, .inl (G.2 1, 40, .inr (.inl wg))), (u0, .inr (4, [.ref b0, .ref u1, .ref u2, .long (u.2.2.1), .int (u.2.2.2)])), (u1, .inl (G.2 1, 384, .inr (.inl (u.1)))), (u2, .inl (G.2 1, 40, .inr (.inl (u.2.1)))), (v0, .inr (4, [.ref b0, .ref v1, .ref v2, .long vo, .int vr])), (v1, .inl (G.2 1, 384, .inr (.inl vk))), (v2, .inl (G.2 1, 40, .inr (.inl vw))), (b0, .inr (3, [.ref b1, .ref b2, .ref b3, .ref b4, .ref b5, .ref b6, .int bn])), (b1, .inl (G.2 0, 40, .inl kf)), (b2, .inl (G.2 0, 40, .inl ff)), (b3, .inl (G.2 0, 40, .inl sf)), (b4, .inl (G.2 0, 40, .inl df)), (b5, .inl (G.2 1, 40, .inr (.inl pf))), (b6, .inl (G.2 1, 6, .inr (.inl gf)))]) A) := ⟨_, rfl⟩
  rw [← hQC]
  obtain ⟨XC, hXC⟩ : ∃ Z, Z = (vx_X (fun _ : Unit => True) (fun E _ t => PP G [(x0, .inr (5, [.ref b0, .ref s0, .ref u0, .ref v0, .int tA, .int wP, .int nT, .int aK, .int lK, .int sW, .int rF])), (s0, .inr (4, [.ref b0, .ref s1, .ref s2, .long op, .int re])), (s1, .inl (G.2 1, 384, .inr (.inl dk))), (s2, .inl (G.2 1, 40, .inr (.inl wg))), (u0, .inr (4, [.ref b0, .ref u1, .ref u2, .long uo, .int ur])), (u1, .inl (G.2 1, 384, .inr (.inl uk))), (u2, .inl (G.2 1, 40, .inr (.inl uw))), (v0, .inr (4, [.ref b0, .ref v1, .ref v2, .long vo, .int vr])), (v1, .inl (G.2 1, 384, .inr (.inl vk))), (v2, .inl (G.2 1, 40, .inr (.inl vw))), (b0, .inr (3, [.ref b1, .ref b2, .ref b3, .ref b4, .ref b5, .ref b6, .int bn])), (b1, .inl (G.2 0, 40, .inl kf)), (b2, .inl (G.2 0, 40, .inl ff)), (b3, .inl (G.2 0, 40, .inl sf)), (b4, .inl (G.2 0, 40, .inl df)), (b5, .inl (G.2 1, 40, .inr (.inl pf))), (b6, .inl (G.2 1, 6, .inr (.inl gf)))] t.heap ∧ va_D A [(x0, .inr (5, [.ref b0, .ref s0, .ref u0, .ref v0, .int tA, .int wP, .int nT, .int aK, .int lK, .int sW, .int rF])), (s0, .inr (4, [.ref b0, .ref s1, .ref s2, .long op, .int re])), (s1, .inl (G.2 1, 384, .inr (.inl dk))), (s2, .inl (G.2 1, 40, .inr (.inl wg))), (u0, .inr (4, [.ref b0, .ref u1, .ref u2, .long uo, .int ur])), (u1, .inl (G.2 1, 384, .inr (.inl uk))), (u2, .inl (G.2 1, 40, .inr (.inl uw))), (v0, .inr (4, [.ref b0, .ref v1, .ref v2, .long vo, .int vr])), (v1, .inl (G.2 1, 384, .inr (.inl vk))), (v2, .inl (G.2 1, 40, .inr (.inl vw))), (b0, .inr (3, [.ref b1, .ref b2, .ref b3, .ref b4, .ref b5, .ref b6, .int bn])), (b1, .inl (G.2 0, 40, .inl kf)), (b2, .inl (G.2 0, 40, .inl ff)), (b3, .inl (G.2 0, 40, .inl sf)), (b4, .inl (G.2 0, 40, .inl df)), (b5, .inl (G.2 1, 40, .inr (.inl pf))), (b6, .inl (G.2 1, 6, .inr (.inl gf)))] ∧ postx E) A) := ⟨_, rfl⟩
  rw [← hXC]
  obtain ⟨⟨zt, hZ1, hT1⟩, hZ2⟩ := id hZ
  have hP : PP G [(x0, .inr (5, [.ref b0, .ref s0, .ref u0, .ref v0, .int tA, .int wP, .int nT, .int aK, .int lK, .int sW, .int rF])), (s0, .inr (4, [.ref b0, .ref s1, .ref s2, .long op, .int re])), (s1, .inl (G.2 1, 384, .inr (.inl dk))), (s2, .inl (G.2 1, 40, .inr (.inl wg))), (u0, .inr (4, [.ref b0, .ref u1, .ref u2, .long uo, .int ur])), (u1, .inl (G.2 1, 384, .inr (.inl uk))), (u2, .inl (G.2 1, 40, .inr (.inl uw))), (v0, .inr (4, [.ref b0, .ref v1, .ref v2, .long vo, .int vr])), (v1, .inl (G.2 1, 384, .inr (.inl vk))), (v2, .inl (G.2 1, 40, .inr (.inl vw))), (b0, .inr (3, [.ref b1, .ref b2, .ref b3, .ref b4, .ref b5, .ref b6, .int bn])), (b1, .inl (G.2 0, 40, .inl kf)), (b2, .inl (G.2 0, 40, .inl ff)), (b3, .inl (G.2 0, 40, .inl sf)), (b4, .inl (G.2 0, 40, .inl df)), (b5, .inl (G.2 1, 40, .inr (.inl pf))), (b6, .inl (G.2 1, 6, .inr (.inl gf)))] s.heap := hP
  have hl := lv_entry ([.ref x0, .int p1, .int p2]) (n := 7) (Nat.le_of_ble_eq_true rfl)
  rw [lg_entry_eq]
  generalize (lg_sl ([.ref x0, .int p1, .int p2]) ++ List.replicate (7 - (lg_sl ([.ref x0, .int p1, .int p2])).length) Slot.unset).toArray = ls at hl ⊢
  have hl : lv_has ls 7 [(0, .ref x0), (1, .int p1), (2, .int p2)] := hl
  have loop37 : ∀ (K142 : Int32 → Int32 → Int32 → (Nat → Int64) → (Nat → Int64) → Int64 → Int32 → Prop), True → (∀ (i3 : Int32) (i4 : Int32) (i5 : Int32) (uk' : Nat → Int64) (uw' : Nat → Int64) (uo' : Int64) (ur' : Int32) (ls : Array Slot) (H : Heap) (locs : List Loc), lv_has ls 7 [(0, .ref x0), (1, .int p1), (2, .int p2), (3, .int i3), (4, .int i4), (5, .int i5)] → PP G [(x0, .inr (5, [.ref b0, .ref s0, .ref u0, .ref v0, .int tA, .int wP, .int nT, .int aK, .int lK, .int sW, .int rF])), (s0, .inr (4, [.ref b0, .ref s1, .ref s2, .long op, .int re])), (s1, .inl (G.2 1, 384, .inr (.inl dk))), (s2, .inl (G.2 1, 40, .inr (.inl wg))), (u0, .inr (4, [.ref b0, .ref u1, .ref u2, .long uo', .int ur'])), (u1, .inl (G.2 1, 384, .inr (.inl uk'))), (u2, .inl (G.2 1, 40, .inr (.inl uw'))), (v0, .inr (4, [.ref b0, .ref v1, .ref v2, .long vo, .int vr])), (v1, .inl (G.2 1, 384, .inr (.inl vk))), (v2, .inl (G.2 1, 40, .inr (.inl vw))), (b0, .inr (3, [.ref b1, .ref b2, .ref b3, .ref b4, .ref b5, .ref b6, .int bn])), (b1, .inl (G.2 0, 40, .inl kf)), (b2, .inl (G.2 0, 40, .inl ff)), (b3, .inl (G.2 0, 40, .inl sf)), (b4, .inl (G.2 0, 40, .inl df)), (b5, .inl (G.2 1, 40, .inr (.inl pf))), (b6, .inl (G.2 1, 6, .inr (.inl gf)))] H → va_D A [(x0, .inr (5, [.ref b0, .ref s0, .ref u0, .ref v0, .int tA, .int wP, .int nT, .int aK, .int lK, .int sW, .int rF])), (s0, .inr (4, [.ref b0, .ref s1, .ref s2, .long op, .int re])), (s1, .inl (G.2 1, 384, .inr (.inl dk))), (s2, .inl (G.2 1, 40, .inr (.inl wg))), (u0, .inr (4, [.ref b0, .ref u1, .ref u2, .long uo', .int ur'])), (u1, .inl (G.2 1, 384, .inr (.inl uk'))), (u2, .inl (G.2 1, 40, .inr (.inl uw'))), (v0, .inr (4, [.ref b0, .ref v1, .ref v2, .long vo, .int vr])), (v1, .inl (G.2 1, 384, .inr (.inl vk))), (v2, .inl (G.2 1, 40, .inr (.inl vw))), (b0, .inr (3, [.ref b1, .ref b2, .ref b3, .ref b4, .ref b5, .ref b6, .int bn])), (b1, .inl (G.2 0, 40, .inl kf)), (b2, .inl (G.2 0, 40, .inl ff)), (b3, .inl (G.2 0, 40, .inl sf)), (b4, .inl (G.2 0, 40, .inl df)), (b5, .inl (G.2 1, 40, .inr (.inl pf))), (b6, .inl (G.2 1, 6, .inr (.inl gf)))] → va_S A s.heap H locs → K142 i3 i4 i5 uk' uw' uo' ur' → W p l e (headSpec (wl_xX2_bestNote) rm_xX2_bestNote).room s m ([.ref x0, .int p1, .int p2] : List Value).toArray below meth c H locs 0 0 (vx_MQ below QC XC ([.ref x0, .int p1, .int p2] : List Value).toArray s 1 6 A) (F0 m 142 ls [])) → ∀ (n : Nat) (i3 : Int32) (i4 : Int32) (i5 : Int32) (uk' : Nat → Int64) (uw' : Nat → Int64) (uo' : Int64) (ur' : Int32) (ls : Array Slot) (H : Heap) (locs : List Loc), lv_has ls 7 [(0, .ref x0), (1, .int p1), (2, .int p2), (3, .int i3), (4, .int i4), (5, .int i5)] → PP G [(x0, .inr (5, [.ref b0, .ref s0, .ref u0, .ref v0, .int tA, .int wP, .int nT, .int aK, .int lK, .int sW, .int rF])), (s0, .inr (4, [.ref b0, .ref s1, .ref s2, .long op, .int re])), (s1, .inl (G.2 1, 384, .inr (.inl dk))), (s2, .inl (G.2 1, 40, .inr (.inl wg))), (u0, .inr (4, [.ref b0, .ref u1, .ref u2, .long uo', .int ur'])), (u1, .inl (G.2 1, 384, .inr (.inl uk'))), (u2, .inl (G.2 1, 40, .inr (.inl uw'))), (v0, .inr (4, [.ref b0, .ref v1, .ref v2, .long vo, .int vr])), (v1, .inl (G.2 1, 384, .inr (.inl vk))), (v2, .inl (G.2 1, 40, .inr (.inl vw))), (b0, .inr (3, [.ref b1, .ref b2, .ref b3, .ref b4, .ref b5, .ref b6, .int bn])), (b1, .inl (G.2 0, 40, .inl kf)), (b2, .inl (G.2 0, 40, .inl ff)), (b3, .inl (G.2 0, 40, .inl sf)), (b4, .inl (G.2 0, 40, .inl df)), (b5, .inl (G.2 1, 40, .inr (.inl pf))), (b6, .inl (G.2 1, 6, .inr (.inl gf)))] H → va_D A [(x0, .inr (5, [.ref b0, .ref s0, .ref u0, .ref v0, .int tA, .int wP, .int nT, .int aK, .int lK, .int sW, .int rF])), (s0, .inr (4, [.ref b0, .ref s1, .ref s2, .long op, .int re])), (s1, .inl (G.2 1, 384, .inr (.inl dk))), (s2, .inl (G.2 1, 40, .inr (.inl wg))), (u0, .inr (4, [.ref b0, .ref u1, .ref u2, .long uo', .int ur'])), (u1, .inl (G.2 1, 384, .inr (.inl uk'))), (u2, .inl (G.2 1, 40, .inr (.inl uw'))), (v0, .inr (4, [.ref b0, .ref v1, .ref v2, .long vo, .int vr])), (v1, .inl (G.2 1, 384, .inr (.inl vk))), (v2, .inl (G.2 1, 40, .inr (.inl vw))), (b0, .inr (3, [.ref b1, .ref b2, .ref b3, .ref b4, .ref b5, .ref b6, .int bn])), (b1, .inl (G.2 0, 40, .inl kf)), (b2, .inl (G.2 0, 40, .inl ff)), (b3, .inl (G.2 0, 40, .inl sf)), (b4, .inl (G.2 0, 40, .inl df)), (b5, .inl (G.2 1, 40, .inr (.inl pf))), (b6, .inl (G.2 1, 6, .inr (.inl gf)))] → va_S A s.heap H locs → wxX2_bestNote_L37 post postx K142 dk wg op re kf ff sf pf bn p1 p2 n i3 i4 i5 uk' uw' uo' ur' → W p l e (headSpec (wl_xX2_bestNote) rm_xX2_bestNote).room s m ([.ref x0, .int p1, .int p2] : List Value).toArray below meth c H locs 0 0 (vx_MQ below QC XC ([.ref x0, .int p1, .int p2] : List Value).toArray s 1 6 A) (F0 m 37 ls []) := by
    intro K142 _ hexit142 n
    induction n with
    | zero => intro i3 i4 i5 uk' uw' uo' ur' ls H locs hl hP hD hS h; exact False.elim h
    | succ n ih =>
      intro i3 i4 i5 uk' uw' uo' ur' ls H locs hl hP hD hS h
      refine lv_iload hx hb dX2_bestNote_37 (lv_at hl 5 rfl) ?_
      refine lv_bipush (v := 6) hx hb dX2_bestNote_39 (by decide) ?_
      refine lv_icmp_ge (tgt := 142) hx hb dX2_bestNote_41 (by decide) (fun hc => ?_) (fun hc => ?_)
      · have h := h.1 hc
        have hl := lv_sub (l' := [(0, .ref x0), (1, .int p1), (2, .int p2), (3, .int i3), (4, .int i4), (5, .int i5)]) hl [0, 1, 2, 3, 4, 5] rfl
        exact hexit142 _ _ _ _ _ _ _ ls H locs hl hP hD hS h
      · have h := h.2 hc
        refine lv_iload hx hb dX2_bestNote_44 (lv_at hl 5 rfl) ?_
        refine lv_iload_n hx hb dX2_bestNote_46 rfl (lv_at hl 1 rfl) ?_
        refine lv_icmp_ne (tgt := 53) hx hb dX2_bestNote_47 (by decide) (fun hc => ?_) (fun hc => ?_)
        · have h := h.1 hc
          refine lv_aload_n hx hb dX2_bestNote_53 rfl (lv_at hl 0 rfl) ?_
          refine va_get (D := G.1) (ci := 5) (v := .ref u0) (C := RX2) (T := TX2) (N := 11) hx hb hts igX2 hown hK hP 0 rfl rfl 2 (by decide) (hts _ q178) (fun _ h9 => h9) rfl dX2_bestNote_54 ?_
          refine lv_aload_n hx hb dX2_bestNote_57 rfl (lv_at hl 0 rfl) ?_
          refine va_get (D := G.1) (ci := 5) (v := .ref s0) (C := RX2) (T := TX2) (N := 11) hx hb hts igX2 hown hK hP 0 rfl rfl 1 (by decide) (hts _ q177) (fun _ h9 => h9) rfl dX2_bestNote_58 ?_
          have hPc := va_P.sub (ws' := [(u0, .inr (4, [.ref b0, .ref u1, .ref u2, .long uo', .int ur'])), (u1, .inl (G.2 1, 384, .inr (.inl uk'))), (u2, .inl (G.2 1, 40, .inr (.inl uw'))), (s0, .inr (4, [.ref b0, .ref s1, .ref s2, .long op, .int re])), (s1, .inl (G.2 1, 384, .inr (.inl dk))), (s2, .inl (G.2 1, 40, .inr (.inl wg)))]) hP [4, 5, 6, 1, 2, 3] rfl
          have hDc := hD.sub (ws' := [(u0, .inr (4, [.ref b0, .ref u1, .ref u2, .long uo', .int ur'])), (u1, .inl (G.2 1, 384, .inr (.inl uk'))), (u2, .inl (G.2 1, 40, .inr (.inl uw'))), (s0, .inr (4, [.ref b0, .ref s1, .ref s2, .long op, .int re])), (s1, .inl (G.2 1, 384, .inr (.inl dk))), (s2, .inl (G.2 1, 40, .inr (.inl wg)))]) [4, 5, 6, 1, 2, 3] (by decide) rfl
          have hFc := va_free (wc := [(u0, .inr (4, [.ref b0, .ref u1, .ref u2, .long uo', .int ur'])), (u1, .inl (G.2 1, 384, .inr (.inl uk'))), (u2, .inl (G.2 1, 40, .inr (.inl uw'))), (s0, .inr (4, [.ref b0, .ref s1, .ref s2, .long op, .int re])), (s1, .inl (G.2 1, 384, .inr (.inl dk))), (s2, .inl (G.2 1, 40, .inr (.inl wg)))]) hD hS hA [4, 5, 6, 1, 2, 3] rfl
          refine va_callv (va_runV (C := RX1) (As := [.ref s0]) (rest := []) ⟨hx, hb, hml, hown, hts⟩ (kX1_copyFrom l G u0 u1 u2 b0 b0 s0 s1 s2 uk' uw' uo' ur' dk wg op re _ h) (cwV 1 hts (gdV q463 q464 q465 q3 q466) rfl rfl rfl (by decide +kernel) ⟨Nat.le_of_ble_eq_true rfl, Nat.le_of_ble_eq_true rfl⟩) (preVw hPc hKK hDc (va_recv hK hPc (ci := 4) (q0 := 0) rfl rfl)) rfl rfl hl.1 rfl (lv_room (Nat.le_of_ble_eq_true rfl)) dX2_bestNote_61 ⟨Nat.zero_le _, Nat.zero_le _⟩) hS (fun q _ h => hFc q h) hFc (fun u t H1 locs ht hvm h hB hz1 hk1 hS => ?_)
          obtain ⟨dk_1, wg_1, op_1, re_1⟩ := u
          obtain ⟨hP1, hD1⟩ := hB
          rw [ht] at hP1
          obtain ⟨hP, hD⟩ := va_join (wr := [(x0, .inr (5, [.ref b0, .ref s0, .ref u0, .ref v0, .int tA, .int wP, .int nT, .int aK, .int lK, .int sW, .int rF])), (v0, .inr (4, [.ref b0, .ref v1, .ref v2, .long vo, .int vr])), (v1, .inl (G.2 1, 384, .inr (.inl vk))), (v2, .inl (G.2 1, 40, .inr (.inl vw))), (b0, .inr (3, [.ref b1, .ref b2, .ref b3, .ref b4, .ref b5, .ref b6, .int bn])), (b1, .inl (G.2 0, 40, .inl kf)), (b2, .inl (G.2 0, 40, .inl ff)), (b3, .inl (G.2 0, 40, .inl sf)), (b4, .inl (G.2 0, 40, .inl df)), (b5, .inl (G.2 1, 40, .inr (.inl pf))), (b6, .inl (G.2 1, 6, .inr (.inl gf)))]) (w1 := [(u0, .inr (4, [.ref b0, .ref u1, .ref u2, .long op_1, .int re_1])), (u1, .inl (G.2 1, 384, .inr (.inl dk_1))), (u2, .inl (G.2 1, 40, .inr (.inl wg_1))), (s0, .inr (4, [.ref b0, .ref s1, .ref s2, .long op, .int re])), (s1, .inl (G.2 1, 384, .inr (.inl dk))), (s2, .inl (G.2 1, 40, .inr (.inl wg)))]) hP hD [4, 5, 6, 1, 2, 3] [0, 7, 8, 9, 10, 11, 12, 13, 14, 15, 16] rfl rfl (by decide) (by decide) hk1 hFc hP1 hD1
          generalize H1 = H at hP hS ⊢
          have hP : PP G [(x0, .inr (5, [.ref b0, .ref s0, .ref u0, .ref v0, .int tA, .int wP, .int nT, .int aK, .int lK, .int sW, .int rF])), (s0, .inr (4, [.ref b0, .ref s1, .ref s2, .long op, .int re])), (s1, .inl (G.2 1, 384, .inr (.inl dk))), (s2, .inl (G.2 1, 40, .inr (.inl wg))), (u0, .inr (4, [.ref b0, .ref u1, .ref u2, .long op_1, .int re_1])), (u1, .inl (G.2 1, 384, .inr (.inl dk_1))), (u2, .inl (G.2 1, 40, .inr (.inl wg_1))), (v0, .inr (4, [.ref b0, .ref v1, .ref v2, .long vo, .int vr])), (v1, .inl (G.2 1, 384, .inr (.inl vk))), (v2, .inl (G.2 1, 40, .inr (.inl vw))), (b0, .inr (3, [.ref b1, .ref b2, .ref b3, .ref b4, .ref b5, .ref b6, .int bn])), (b1, .inl (G.2 0, 40, .inl kf)), (b2, .inl (G.2 0, 40, .inl ff)), (b3, .inl (G.2 0, 40, .inl sf)), (b4, .inl (G.2 0, 40, .inl df)), (b5, .inl (G.2 1, 40, .inr (.inl pf))), (b6, .inl (G.2 1, 6, .inr (.inl gf)))] H := va_P.sub hP [0, 14, 15, 16, 11, 12, 13, 1, 2, 3, 4, 5, 6, 7, 8, 9, 10] rfl
          have hD : va_D A [(x0, .inr (5, [.ref b0, .ref s0, .ref u0, .ref v0, .int tA, .int wP, .int nT, .int aK, .int lK, .int sW, .int rF])), (s0, .inr (4, [.ref b0, .ref s1, .ref s2, .long op, .int re])), (s1, .inl (G.2 1, 384, .inr (.inl dk))), (s2, .inl (G.2 1, 40, .inr (.inl wg))), (u0, .inr (4, [.ref b0, .ref u1, .ref u2, .long op_1, .int re_1])), (u1, .inl (G.2 1, 384, .inr (.inl dk_1))), (u2, .inl (G.2 1, 40, .inr (.inl wg_1))), (v0, .inr (4, [.ref b0, .ref v1, .ref v2, .long vo, .int vr])), (v1, .inl (G.2 1, 384, .inr (.inl vk))), (v2, .inl (G.2 1, 40, .inr (.inl vw))), (b0, .inr (3, [.ref b1, .ref b2, .ref b3, .ref b4, .ref b5, .ref b6, .int bn])), (b1, .inl (G.2 0, 40, .inl kf)), (b2, .inl (G.2 0, 40, .inl ff)), (b3, .inl (G.2 0, 40, .inl sf)), (b4, .inl (G.2 0, 40, .inl df)), (b5, .inl (G.2 1, 40, .inr (.inl pf))), (b6, .inl (G.2 1, 6, .inr (.inl gf)))] := hD.sub [0, 14, 15, 16, 11, 12, 13, 1, 2, 3, 4, 5, 6, 7, 8, 9, 10] (by decide) rfl
          refine lv_aload_n hx hb dX2_bestNote_64 rfl (lv_at hl 0 rfl) ?_
          refine va_get (D := G.1) (ci := 5) (v := .ref u0) (C := RX2) (T := TX2) (N := 11) hx hb hts igX2 hown hK hP 0 rfl rfl 2 (by decide) (hts _ q178) (fun _ h9 => h9) rfl dX2_bestNote_65 ?_
          refine lv_iload hx hb dX2_bestNote_68 (lv_at hl 5 rfl) ?_
          refine lv_iload_n hx hb dX2_bestNote_70 rfl (lv_at hl 1 rfl) ?_
          have hPc := va_P.sub (ws' := [(u0, .inr (4, [.ref b0, .ref u1, .ref u2, .long op_1, .int re_1])), (u1, .inl (G.2 1, 384, .inr (.inl dk_1))), (u2, .inl (G.2 1, 40, .inr (.inl wg_1))), (b0, .inr (3, [.ref b1, .ref b2, .ref b3, .ref b4, .ref b5, .ref b6, .int bn])), (b1, .inl (G.2 0, 40, .inl kf)), (b2, .inl (G.2 0, 40, .inl ff)), (b3, .inl (G.2 0, 40, .inl sf)), (b4, .inl (G.2 0, 40, .inl df)), (b5, .inl (G.2 1, 40, .inr (.inl pf))), (b6, .inl (G.2 1, 6, .inr (.inl gf)))]) hP [4, 5, 6, 10, 11, 12, 13, 14, 15, 16] rfl
          have hDc := hD.sub (ws' := [(u0, .inr (4, [.ref b0, .ref u1, .ref u2, .long op_1, .int re_1])), (u1, .inl (G.2 1, 384, .inr (.inl dk_1))), (u2, .inl (G.2 1, 40, .inr (.inl wg_1))), (b0, .inr (3, [.ref b1, .ref b2, .ref b3, .ref b4, .ref b5, .ref b6, .int bn])), (b1, .inl (G.2 0, 40, .inl kf)), (b2, .inl (G.2 0, 40, .inl ff)), (b3, .inl (G.2 0, 40, .inl sf)), (b4, .inl (G.2 0, 40, .inl df)), (b5, .inl (G.2 1, 40, .inr (.inl pf))), (b6, .inl (G.2 1, 6, .inr (.inl gf)))]) [4, 5, 6, 10, 11, 12, 13, 14, 15, 16] (by decide) rfl
          have hFc := va_free (wc := [(u0, .inr (4, [.ref b0, .ref u1, .ref u2, .long op_1, .int re_1])), (u1, .inl (G.2 1, 384, .inr (.inl dk_1))), (u2, .inl (G.2 1, 40, .inr (.inl wg_1))), (b0, .inr (3, [.ref b1, .ref b2, .ref b3, .ref b4, .ref b5, .ref b6, .int bn])), (b1, .inl (G.2 0, 40, .inl kf)), (b2, .inl (G.2 0, 40, .inl ff)), (b3, .inl (G.2 0, 40, .inl sf)), (b4, .inl (G.2 0, 40, .inl df)), (b5, .inl (G.2 1, 40, .inr (.inl pf))), (b6, .inl (G.2 1, 6, .inr (.inl gf)))]) hD hS hA [4, 5, 6, 10, 11, 12, 13, 14, 15, 16] rfl
          refine va_calli (va_runV (C := RX1) (As := [.int i5, .int p1]) (rest := []) ⟨hx, hb, hml, hown, hts⟩ (kX1_passOn l G u0 u1 u2 b0 b1 b2 b3 b4 b5 b6 dk_1 wg_1 op_1 re_1 kf ff sf df pf gf bn i5 p1 _ h) (cwV 2 hts (gdV q470 q471 q472 q3 q473) rfl rfl rfl (by decide +kernel) ⟨Nat.le_of_ble_eq_true rfl, Nat.le_of_ble_eq_true rfl⟩) (preVw hPc hKK hDc (va_recv hK hPc (ci := 4) (q0 := 0) rfl rfl)) rfl rfl hl.1 rfl (lv_room (Nat.le_of_ble_eq_true rfl)) dX2_bestNote_71 ⟨Nat.zero_le _, Nat.zero_le _⟩) hS (fun q _ h => hFc q h) hFc (fun r_4 u t H1 locs ht hvm h hB hz1 hk1 hS => ?_)
          obtain ⟨dk_2, rfl⟩ : ∃ z, z = u := ⟨_, rfl⟩
          obtain ⟨hP1, hD1⟩ := hB
          rw [ht] at hP1
          obtain ⟨hP, hD⟩ := va_join (wr := [(x0, .inr (5, [.ref b0, .ref s0, .ref u0, .ref v0, .int tA, .int wP, .int nT, .int aK, .int lK, .int sW, .int rF])), (s0, .inr (4, [.ref b0, .ref s1, .ref s2, .long op, .int re])), (s1, .inl (G.2 1, 384, .inr (.inl dk))), (s2, .inl (G.2 1, 40, .inr (.inl wg))), (v0, .inr (4, [.ref b0, .ref v1, .ref v2, .long vo, .int vr])), (v1, .inl (G.2 1, 384, .inr (.inl vk))), (v2, .inl (G.2 1, 40, .inr (.inl vw)))]) (w1 := [(u0, .inr (4, [.ref b0, .ref u1, .ref u2, .long op_1, .int re_1])), (u1, .inl (G.2 1, 384, .inr (.inl dk_2))), (u2, .inl (G.2 1, 40, .inr (.inl wg_1))), (b0, .inr (3, [.ref b1, .ref b2, .ref b3, .ref b4, .ref b5, .ref b6, .int bn])), (b1, .inl (G.2 0, 40, .inl kf)), (b2, .inl (G.2 0, 40, .inl ff)), (b3, .inl (G.2 0, 40, .inl sf)), (b4, .inl (G.2 0, 40, .inl df)), (b5, .inl (G.2 1, 40, .inr (.inl pf))), (b6, .inl (G.2 1, 6, .inr (.inl gf)))]) hP hD [4, 5, 6, 10, 11, 12, 13, 14, 15, 16] [0, 1, 2, 3, 7, 8, 9] rfl rfl (by decide) (by decide) hk1 hFc hP1 hD1
          generalize H1 = H at hP hS ⊢
          have hP : PP G [(x0, .inr (5, [.ref b0, .ref s0, .ref u0, .ref v0, .int tA, .int wP, .int nT, .int aK, .int lK, .int sW, .int rF])), (s0, .inr (4, [.ref b0, .ref s1, .ref s2, .long op, .int re])), (s1, .inl (G.2 1, 384, .inr (.inl dk))), (s2, .inl (G.2 1, 40, .inr (.inl wg))), (u0, .inr (4, [.ref b0, .ref u1, .ref u2, .long op_1, .int re_1])), (u1, .inl (G.2 1, 384, .inr (.inl dk_2))), (u2, .inl (G.2 1, 40, .inr (.inl wg_1))), (v0, .inr (4, [.ref b0, .ref v1, .ref v2, .long vo, .int vr])), (v1, .inl (G.2 1, 384, .inr (.inl vk))), (v2, .inl (G.2 1, 40, .inr (.inl vw))), (b0, .inr (3, [.ref b1, .ref b2, .ref b3, .ref b4, .ref b5, .ref b6, .int bn])), (b1, .inl (G.2 0, 40, .inl kf)), (b2, .inl (G.2 0, 40, .inl ff)), (b3, .inl (G.2 0, 40, .inl sf)), (b4, .inl (G.2 0, 40, .inl df)), (b5, .inl (G.2 1, 40, .inr (.inl pf))), (b6, .inl (G.2 1, 6, .inr (.inl gf)))] H := va_P.sub hP [0, 1, 2, 3, 7, 8, 9, 4, 5, 6, 10, 11, 12, 13, 14, 15, 16] rfl
          have hD : va_D A [(x0, .inr (5, [.ref b0, .ref s0, .ref u0, .ref v0, .int tA, .int wP, .int nT, .int aK, .int lK, .int sW, .int rF])), (s0, .inr (4, [.ref b0, .ref s1, .ref s2, .long op, .int re])), (s1, .inl (G.2 1, 384, .inr (.inl dk))), (s2, .inl (G.2 1, 40, .inr (.inl wg))), (u0, .inr (4, [.ref b0, .ref u1, .ref u2, .long op_1, .int re_1])), (u1, .inl (G.2 1, 384, .inr (.inl dk_2))), (u2, .inl (G.2 1, 40, .inr (.inl wg_1))), (v0, .inr (4, [.ref b0, .ref v1, .ref v2, .long vo, .int vr])), (v1, .inl (G.2 1, 384, .inr (.inl vk))), (v2, .inl (G.2 1, 40, .inr (.inl vw))), (b0, .inr (3, [.ref b1, .ref b2, .ref b3, .ref b4, .ref b5, .ref b6, .int bn])), (b1, .inl (G.2 0, 40, .inl kf)), (b2, .inl (G.2 0, 40, .inl ff)), (b3, .inl (G.2 0, 40, .inl sf)), (b4, .inl (G.2 0, 40, .inl df)), (b5, .inl (G.2 1, 40, .inr (.inl pf))), (b6, .inl (G.2 1, 6, .inr (.inl gf)))] := hD.sub [0, 1, 2, 3, 7, 8, 9, 4, 5, 6, 10, 11, 12, 13, 14, 15, 16] (by decide) rfl
          refine lv_pop hx hb dX2_bestNote_74 rfl ?_
          refine lv_aload_n hx hb dX2_bestNote_75 rfl (lv_at hl 0 rfl) ?_
          refine va_get (D := G.1) (ci := 5) (v := .ref u0) (C := RX2) (T := TX2) (N := 11) hx hb hts igX2 hown hK hP 0 rfl rfl 2 (by decide) (hts _ q178) (fun _ h9 => h9) rfl dX2_bestNote_76 ?_
          refine lv_aload_n hx hb dX2_bestNote_79 rfl (lv_at hl 0 rfl) ?_
          refine va_get (D := G.1) (ci := 5) (v := .ref b0) (C := RX2) (T := TX2) (N := 11) hx hb hts igX2 hown hK hP 0 rfl rfl 0 (by decide) (hts _ q176) (fun _ h9 => h9) rfl dX2_bestNote_80 ?_
          refine lv_iload_n hx hb dX2_bestNote_83 rfl (lv_at hl 2 rfl) ?_
          have hPc := va_P.sub (ws' := [(b0, .inr (3, [.ref b1, .ref b2, .ref b3, .ref b4, .ref b5, .ref b6, .int bn])), (b1, .inl (G.2 0, 40, .inl kf)), (b2, .inl (G.2 0, 40, .inl ff)), (b3, .inl (G.2 0, 40, .inl sf)), (b4, .inl (G.2 0, 40, .inl df)), (b5, .inl (G.2 1, 40, .inr (.inl pf))), (b6, .inl (G.2 1, 6, .inr (.inl gf)))]) hP [10, 11, 12, 13, 14, 15, 16] rfl
          refine rdL (va_runV (C := RX0) (As := [.int p2]) (rest := [.ref u0]) ⟨hx, hb, hml, hown, hts⟩ (kX0_partsOf l G b0 b1 b2 b3 b4 b5 b6 kf ff sf df pf gf bn p2 h) (cwV 1 hts (gdV q488 q460 q461 q2 q462) rfl rfl rfl (by decide +kernel) ⟨Nat.le_of_ble_eq_true rfl, Nat.le_of_ble_eq_true rfl⟩) (preV hPc hKK (va_recv hK hPc (ci := 3) (q0 := 0) rfl rfl)) rfl rfl hl.1 rfl (lv_room (Nat.le_of_ble_eq_true rfl)) dX2_bestNote_84 ⟨Nat.zero_le _, Nat.zero_le _⟩) (fun r_5 h => ?_)
          have hPc := va_P.sub (ws' := [(u0, .inr (4, [.ref b0, .ref u1, .ref u2, .long op_1, .int re_1])), (u1, .inl (G.2 1, 384, .inr (.inl dk_2))), (u2, .inl (G.2 1, 40, .inr (.inl wg_1))), (b0, .inr (3, [.ref b1, .ref b2, .ref b3, .ref b4, .ref b5, .ref b6, .int bn])), (b1, .inl (G.2 0, 40, .inl kf)), (b2, .inl (G.2 0, 40, .inl ff)), (b3, .inl (G.2 0, 40, .inl sf)), (b4, .inl (G.2 0, 40, .inl df)), (b5, .inl (G.2 1, 40, .inr (.inl pf))), (b6, .inl (G.2 1, 6, .inr (.inl gf)))]) hP [4, 5, 6, 10, 11, 12, 13, 14, 15, 16] rfl
          have hDc := hD.sub (ws' := [(u0, .inr (4, [.ref b0, .ref u1, .ref u2, .long op_1, .int re_1])), (u1, .inl (G.2 1, 384, .inr (.inl dk_2))), (u2, .inl (G.2 1, 40, .inr (.inl wg_1))), (b0, .inr (3, [.ref b1, .ref b2, .ref b3, .ref b4, .ref b5, .ref b6, .int bn])), (b1, .inl (G.2 0, 40, .inl kf)), (b2, .inl (G.2 0, 40, .inl ff)), (b3, .inl (G.2 0, 40, .inl sf)), (b4, .inl (G.2 0, 40, .inl df)), (b5, .inl (G.2 1, 40, .inr (.inl pf))), (b6, .inl (G.2 1, 6, .inr (.inl gf)))]) [4, 5, 6, 10, 11, 12, 13, 14, 15, 16] (by decide) rfl
          have hFc := va_free (wc := [(u0, .inr (4, [.ref b0, .ref u1, .ref u2, .long op_1, .int re_1])), (u1, .inl (G.2 1, 384, .inr (.inl dk_2))), (u2, .inl (G.2 1, 40, .inr (.inl wg_1))), (b0, .inr (3, [.ref b1, .ref b2, .ref b3, .ref b4, .ref b5, .ref b6, .int bn])), (b1, .inl (G.2 0, 40, .inl kf)), (b2, .inl (G.2 0, 40, .inl ff)), (b3, .inl (G.2 0, 40, .inl sf)), (b4, .inl (G.2 0, 40, .inl df)), (b5, .inl (G.2 1, 40, .inr (.inl pf))), (b6, .inl (G.2 1, 6, .inr (.inl gf)))]) hD hS hA [4, 5, 6, 10, 11, 12, 13, 14, 15, 16] rfl
          have hZc := (hZ.kept hS.2.1).narrow hFc
          refine va_callv (va_runV (C := RX1) (As := [.long r_5]) (rest := []) ⟨hx, hb, hml, hown, hts⟩ (kX1_weigh l G u0 u1 u2 b0 b1 b2 b3 b4 b5 b6 dk_2 wg_1 op_1 re_1 kf ff sf df pf gf bn r_5 _ h) (cwV 1 hts (gdV q475 q104 q105 q3 q106) rfl rfl rfl (by decide +kernel) ⟨Nat.le_of_ble_eq_true rfl, Nat.le_of_ble_eq_true rfl⟩) (preVwz hPc hKK hDc hZc (va_recv hK hPc (ci := 4) (q0 := 0) rfl rfl)) rfl rfl hl.1 rfl (lv_room (Nat.le_of_ble_eq_true rfl)) dX2_bestNote_87 ⟨Nat.zero_le _, Nat.zero_le _⟩) hS (fun q _ h => hFc q h) hFc (fun u t H1 locs ht hvm h hB hz1 hk1 hS => ?_)
          obtain ⟨wg_2, rfl⟩ : ∃ z, z = u := ⟨_, rfl⟩
          obtain ⟨hP1, hD1⟩ := hB
          rw [ht] at hP1
          obtain ⟨hP, hD⟩ := va_join (wr := [(x0, .inr (5, [.ref b0, .ref s0, .ref u0, .ref v0, .int tA, .int wP, .int nT, .int aK, .int lK, .int sW, .int rF])), (s0, .inr (4, [.ref b0, .ref s1, .ref s2, .long op, .int re])), (s1, .inl (G.2 1, 384, .inr (.inl dk))), (s2, .inl (G.2 1, 40, .inr (.inl wg))), (v0, .inr (4, [.ref b0, .ref v1, .ref v2, .long vo, .int vr])), (v1, .inl (G.2 1, 384, .inr (.inl vk))), (v2, .inl (G.2 1, 40, .inr (.inl vw)))]) (w1 := [(u0, .inr (4, [.ref b0, .ref u1, .ref u2, .long op_1, .int re_1])), (u1, .inl (G.2 1, 384, .inr (.inl dk_2))), (u2, .inl (G.2 1, 40, .inr (.inl wg_2))), (b0, .inr (3, [.ref b1, .ref b2, .ref b3, .ref b4, .ref b5, .ref b6, .int bn])), (b1, .inl (G.2 0, 40, .inl kf)), (b2, .inl (G.2 0, 40, .inl ff)), (b3, .inl (G.2 0, 40, .inl sf)), (b4, .inl (G.2 0, 40, .inl df)), (b5, .inl (G.2 1, 40, .inr (.inl pf))), (b6, .inl (G.2 1, 6, .inr (.inl gf)))]) hP hD [4, 5, 6, 10, 11, 12, 13, 14, 15, 16] [0, 1, 2, 3, 7, 8, 9] rfl rfl (by decide) (by decide) hk1 hFc hP1 hD1
          generalize H1 = H at hP hS ⊢
          have hP : PP G [(x0, .inr (5, [.ref b0, .ref s0, .ref u0, .ref v0, .int tA, .int wP, .int nT, .int aK, .int lK, .int sW, .int rF])), (s0, .inr (4, [.ref b0, .ref s1, .ref s2, .long op, .int re])), (s1, .inl (G.2 1, 384, .inr (.inl dk))), (s2, .inl (G.2 1, 40, .inr (.inl wg))), (u0, .inr (4, [.ref b0, .ref u1, .ref u2, .long op_1, .int re_1])), (u1, .inl (G.2 1, 384, .inr (.inl dk_2))), (u2, .inl (G.2 1, 40, .inr (.inl wg_2))), (v0, .inr (4, [.ref b0, .ref v1, .ref v2, .long vo, .int vr])), (v1, .inl (G.2 1, 384, .inr (.inl vk))), (v2, .inl (G.2 1, 40, .inr (.inl vw))), (b0, .inr (3, [.ref b1, .ref b2, .ref b3, .ref b4, .ref b5, .ref b6, .int bn])), (b1, .inl (G.2 0, 40, .inl kf)), (b2, .inl (G.2 0, 40, .inl ff)), (b3, .inl (G.2 0, 40, .inl sf)), (b4, .inl (G.2 0, 40, .inl df)), (b5, .inl (G.2 1, 40, .inr (.inl pf))), (b6, .inl (G.2 1, 6, .inr (.inl gf)))] H := va_P.sub hP [0, 1, 2, 3, 7, 8, 9, 4, 5, 6, 10, 11, 12, 13, 14, 15, 16] rfl
          have hD : va_D A [(x0, .inr (5, [.ref b0, .ref s0, .ref u0, .ref v0, .int tA, .int wP, .int nT, .int aK, .int lK, .int sW, .int rF])), (s0, .inr (4, [.ref b0, .ref s1, .ref s2, .long op, .int re])), (s1, .inl (G.2 1, 384, .inr (.inl dk))), (s2, .inl (G.2 1, 40, .inr (.inl wg))), (u0, .inr (4, [.ref b0, .ref u1, .ref u2, .long op_1, .int re_1])), (u1, .inl (G.2 1, 384, .inr (.inl dk_2))), (u2, .inl (G.2 1, 40, .inr (.inl wg_2))), (v0, .inr (4, [.ref b0, .ref v1, .ref v2, .long vo, .int vr])), (v1, .inl (G.2 1, 384, .inr (.inl vk))), (v2, .inl (G.2 1, 40, .inr (.inl vw))), (b0, .inr (3, [.ref b1, .ref b2, .ref b3, .ref b4, .ref b5, .ref b6, .int bn])), (b1, .inl (G.2 0, 40, .inl kf)), (b2, .inl (G.2 0, 40, .inl ff)), (b3, .inl (G.2 0, 40, .inl sf)), (b4, .inl (G.2 0, 40, .inl df)), (b5, .inl (G.2 1, 40, .inr (.inl pf))), (b6, .inl (G.2 1, 6, .inr (.inl gf)))] := hD.sub [0, 1, 2, 3, 7, 8, 9, 4, 5, 6, 10, 11, 12, 13, 14, 15, 16] (by decide) rfl
          refine lv_aload_n hx hb dX2_bestNote_90 rfl (lv_at hl 0 rfl) ?_
          refine va_get (D := G.1) (ci := 5) (v := .ref u0) (C := RX2) (T := TX2) (N := 11) hx hb hts igX2 hown hK hP 0 rfl rfl 2 (by decide) (hts _ q178) (fun _ h9 => h9) rfl dX2_bestNote_91 ?_
          refine lv_iload_n hx hb dX2_bestNote_94 rfl (lv_at hl 1 rfl) ?_
          refine lv_aload_n hx hb dX2_bestNote_95 rfl (lv_at hl 0 rfl) ?_
          refine va_get (D := G.1) (ci := 5) (v := .ref u0) (C := RX2) (T := TX2) (N := 11) hx hb hts igX2 hown hK hP 0 rfl rfl 2 (by decide) (hts _ q178) (fun _ h9 => h9) rfl dX2_bestNote_96 ?_
          refine va_getN (D := G.1) (ci := 4) (v := .int re_1) (C := RX1) (T := TX1) (N := 5) hx hb hts igX1 hown hK hP 4 rfl rfl 4 (by decide) (va_Nw.use rfl (hN _ n79)) (fun _ h9 => h9) rfl dX2_bestNote_99 ?_
          have hPc := va_P.sub (ws' := [(u0, .inr (4, [.ref b0, .ref u1, .ref u2, .long op_1, .int re_1])), (u1, .inl (G.2 1, 384, .inr (.inl dk_2))), (u2, .inl (G.2 1, 40, .inr (.inl wg_2))), (b0, .inr (3, [.ref b1, .ref b2, .ref b3, .ref b4, .ref b5, .ref b6, .int bn])), (b1, .inl (G.2 0, 40, .inl kf)), (b2, .inl (G.2 0, 40, .inl ff)), (b3, .inl (G.2 0, 40, .inl sf)), (b4, .inl (G.2 0, 40, .inl df)), (b5, .inl (G.2 1, 40, .inr (.inl pf))), (b6, .inl (G.2 1, 6, .inr (.inl gf)))]) hP [4, 5, 6, 10, 11, 12, 13, 14, 15, 16] rfl
          refine rdL (va_runV (C := RX1) (As := [.int p1, .int re_1]) (rest := []) ⟨hx, hb, hml, hown, hts⟩ (kX1_cell l G u0 u1 u2 b0 b1 b2 b3 b4 b5 b6 dk_2 wg_2 op_1 re_1 kf ff sf df pf gf bn p1 re_1 h) (cwV 2 hts (gdV q369 q157 q158 q3 q159) rfl rfl rfl (by decide +kernel) ⟨Nat.le_of_ble_eq_true rfl, Nat.le_of_ble_eq_true rfl⟩) (preV hPc hKK (va_recv hK hPc (ci := 4) (q0 := 0) rfl rfl)) rfl rfl hl.1 rfl (lv_room (Nat.le_of_ble_eq_true rfl)) dX2_bestNote_102 ⟨Nat.zero_le _, Nat.zero_le _⟩) (fun r_7 h => ?_)
          have hPc := va_P.sub (ws' := []) hP [] rfl
          refine rdI (va_runS (As := [.long r_7]) (rest := []) ⟨hx, hb, hml, hown, hts⟩ (kJ13_bitCount_95d88 l G r_7 h) (va_cwS 1 hts (gdS q150 q151 q5 q152) rfl rfl rfl (by decide +kernel) ⟨Nat.le_of_ble_eq_true rfl, Nat.le_of_ble_eq_true rfl⟩) (preS hPc hKK) rfl rfl hl.1 rfl (lv_room (Nat.le_of_ble_eq_true rfl)) dX2_bestNote_105 ⟨Nat.zero_le _, Nat.zero_le _⟩) (fun r_8 h => ?_)
          refine lv_istore hx hb dX2_bestNote_108 hl (Nat.le_of_ble_eq_true rfl) rfl (fun ls hl => ?_)
          have hl : lv_has ls 7 [(6, .int r_8), (0, .ref x0), (1, .int p1), (2, .int p2), (3, .int i3), (4, .int i4), (5, .int i5)] := hl
          refine lv_aload_n hx hb dX2_bestNote_110 rfl (lv_at hl 1 rfl) ?_
          refine va_get (D := G.1) (ci := 5) (v := .ref u0) (C := RX2) (T := TX2) (N := 11) hx hb hts igX2 hown hK hP 0 rfl rfl 2 (by decide) (hts _ q178) (fun _ h9 => h9) rfl dX2_bestNote_111 ?_
          refine lv_iload_n hx hb dX2_bestNote_114 rfl (lv_at hl 2 rfl) ?_
          refine lv_iload_n hx hb dX2_bestNote_115 rfl (lv_at hl 3 rfl) ?_
          have hPc := va_P.sub (ws' := [(u0, .inr (4, [.ref b0, .ref u1, .ref u2, .long op_1, .int re_1])), (u1, .inl (G.2 1, 384, .inr (.inl dk_2))), (u2, .inl (G.2 1, 40, .inr (.inl wg_2))), (b0, .inr (3, [.ref b1, .ref b2, .ref b3, .ref b4, .ref b5, .ref b6, .int bn])), (b1, .inl (G.2 0, 40, .inl kf)), (b2, .inl (G.2 0, 40, .inl ff)), (b3, .inl (G.2 0, 40, .inl sf)), (b4, .inl (G.2 0, 40, .inl df)), (b5, .inl (G.2 1, 40, .inr (.inl pf))), (b6, .inl (G.2 1, 6, .inr (.inl gf)))]) hP [4, 5, 6, 10, 11, 12, 13, 14, 15, 16] rfl
          refine rdI (va_runV (C := RX1) (As := [.int p1, .int p2]) (rest := []) ⟨hx, hb, hml, hown, hts⟩ (kX1_knows l G u0 u1 u2 b0 b1 b2 b3 b4 b5 b6 dk_2 wg_2 op_1 re_1 kf ff sf df pf gf bn p1 p2 h) (cwV 2 hts (gdV q449 q236 q237 q3 q238) rfl rfl rfl (by decide +kernel) ⟨Nat.le_of_ble_eq_true rfl, Nat.le_of_ble_eq_true rfl⟩) (preV hPc hKK (va_recv hK hPc (ci := 4) (q0 := 0) rfl rfl)) rfl rfl hl.1 rfl (lv_room (Nat.le_of_ble_eq_true rfl)) dX2_bestNote_116 ⟨Nat.zero_le _, Nat.zero_le _⟩) (fun r_9 h => ?_)
          refine lv_if_eq (tgt := 136) hx hb dX2_bestNote_119 (by decide) (fun hc => ?_) (fun hc => ?_)
          · have h := h.1 hc
            refine lv_iinc (v := (i5 + 1)) hx hb dX2_bestNote_136 hl (k := 6) rfl (by rw [show Int32.ofInt 1 = 1 from by decide]) (Nat.le_of_ble_eq_true rfl) rfl (fun ls hl => ?_)
            have hl : lv_has ls 7 [(5, .int (i5 + 1)), (6, .int r_8), (0, .ref x0), (1, .int p1), (2, .int p2), (3, .int i3), (4, .int i4)] := hl
            refine lv_goto (tgt := 37) hx hb dX2_bestNote_139 (by decide) ?_
            have hl := lv_sub (l' := [(0, .ref x0), (1, .int p1), (2, .int p2), (3, .int i3), (4, .int i4), (5, .int (i5 + 1))]) hl [2, 3, 4, 5, 6, 0] rfl
            exact ih _ _ _ _ _ _ _ ls H locs hl hP hD hS h
          · have h := h.2 hc
            refine lv_iload hx hb dX2_bestNote_122 (lv_at hl 0 rfl) ?_
            refine lv_iload hx hb dX2_bestNote_124 (lv_at hl 5 rfl) ?_
            refine lv_icmp_ge (tgt := 136) hx hb dX2_bestNote_126 (by decide) (fun hc => ?_) (fun hc => ?_)
            · have h := h.1 hc
              refine lv_iinc (v := (i5 + 1)) hx hb dX2_bestNote_136 hl (k := 6) rfl (by rw [show Int32.ofInt 1 = 1 from by decide]) (Nat.le_of_ble_eq_true rfl) rfl (fun ls hl => ?_)
              have hl : lv_has ls 7 [(5, .int (i5 + 1)), (6, .int r_8), (0, .ref x0), (1, .int p1), (2, .int p2), (3, .int i3), (4, .int i4)] := hl
              refine lv_goto (tgt := 37) hx hb dX2_bestNote_139 (by decide) ?_
              have hl := lv_sub (l' := [(0, .ref x0), (1, .int p1), (2, .int p2), (3, .int i3), (4, .int i4), (5, .int (i5 + 1))]) hl [2, 3, 4, 5, 6, 0] rfl
              exact ih _ _ _ _ _ _ _ ls H locs hl hP hD hS h
            · have h := h.2 hc
              refine lv_iload hx hb dX2_bestNote_129 (lv_at hl 0 rfl) ?_
              refine lv_istore hx hb dX2_bestNote_131 hl (Nat.le_of_ble_eq_true rfl) rfl (fun ls hl => ?_)
              have hl : lv_has ls 7 [(4, .int r_8), (6, .int r_8), (0, .ref x0), (1, .int p1), (2, .int p2), (3, .int i3), (5, .int i5)] := hl
              refine lv_iload hx hb dX2_bestNote_133 (lv_at hl 6 rfl) ?_
              refine lv_istore_n hx hb dX2_bestNote_135 rfl hl (Nat.le_of_ble_eq_true rfl) rfl (fun ls hl => ?_)
              have hl : lv_has ls 7 [(3, .int i5), (4, .int r_8), (6, .int r_8), (0, .ref x0), (1, .int p1), (2, .int p2), (5, .int i5)] := hl
              refine lv_iinc (v := (i5 + 1)) hx hb dX2_bestNote_136 hl (k := 6) rfl (by rw [show Int32.ofInt 1 = 1 from by decide]) (Nat.le_of_ble_eq_true rfl) rfl (fun ls hl => ?_)
              have hl : lv_has ls 7 [(5, .int (i5 + 1)), (3, .int i5), (4, .int r_8), (6, .int r_8), (0, .ref x0), (1, .int p1), (2, .int p2)] := hl
              refine lv_goto (tgt := 37) hx hb dX2_bestNote_139 (by decide) ?_
              have hl := lv_sub (l' := [(0, .ref x0), (1, .int p1), (2, .int p2), (3, .int i5), (4, .int r_8), (5, .int (i5 + 1))]) hl [4, 5, 6, 1, 2, 0] rfl
              exact ih _ _ _ _ _ _ _ ls H locs hl hP hD hS h
        · have h := h.2 hc
          refine lv_goto (tgt := 136) hx hb dX2_bestNote_50 (by decide) ?_
          refine lv_iinc (v := (i5 + 1)) hx hb dX2_bestNote_136 hl (k := 5) rfl (by rw [show Int32.ofInt 1 = 1 from by decide]) (Nat.le_of_ble_eq_true rfl) rfl (fun ls hl => ?_)
          have hl : lv_has ls 7 [(5, .int (i5 + 1)), (0, .ref x0), (1, .int p1), (2, .int p2), (3, .int i3), (4, .int i4)] := hl
          refine lv_goto (tgt := 37) hx hb dX2_bestNote_139 (by decide) ?_
          have hl := lv_sub (l' := [(0, .ref x0), (1, .int p1), (2, .int p2), (3, .int i3), (4, .int i4), (5, .int (i5 + 1))]) hl [1, 2, 3, 4, 5, 0] rfl
          exact ih _ _ _ _ _ _ _ ls H locs hl hP hD hS h
  refine lv_iload_n hx hb dX2_bestNote_0 rfl (lv_at hl 1 rfl) ?_
  have hPc := va_P.sub (ws' := []) hP [] rfl
  refine rdI (va_runS (As := [.int p1]) (rest := []) ⟨hx, hb, hml, hown, hts⟩ (kX2_isGuard l G p1 h) (va_cwS 1 hts (gdS q346 q347 q1 q348) rfl rfl rfl (by decide +kernel) ⟨Nat.le_of_ble_eq_true rfl, Nat.le_of_ble_eq_true rfl⟩) (preS hPc hKK) rfl rfl hl.1 rfl (lv_room (Nat.le_of_ble_eq_true rfl)) dX2_bestNote_1 ⟨Nat.zero_le _, Nat.zero_le _⟩) (fun r_1 h => ?_)
  refine lv_if_eq (tgt := 18) hx hb dX2_bestNote_4 (by decide) (fun hc => ?_) (fun hc => ?_)
  · have h := h.1 hc
    obtain ⟨sa, hsa⟩ := hR.1 ("NightdeskRota", 139, "no such guard or sentence") (List.mem_of_getElem? (i := 7) rfl)
    subst hXC
    exact vx_throwS (names := rtx) (text := "no such guard or sentence") (sa := sa) hx hb hfl hown (by decide +kernel) (by decide +kernel) (hts _ q349) (hts _ q22) hsa (hatX hat87a hat87b hts hN hZ) hgd87 hZ.2.1 hZ.2.2 hS (hl.1.trans hml.symm) dX2_bestNote_18 dX2_bestNote_21 dX2_bestNote_22 dX2_bestNote_24 dX2_bestNote_27 (fun x hx => (hT x hx).elim) (Nat.le_of_ble_eq_true rfl) (Nat.le_of_ble_eq_true rfl) (Nat.le_of_ble_eq_true rfl) (Nat.le_of_ble_eq_true rfl) hlocks (fun t ht h1 h2 => ⟨(), trivial, ⟨keepAll hP h2, hD, h⟩, h1, fun q hq _ => h2 q hq⟩) hS.2.2 (Nat.le_refl _) (Nat.le_refl _)
  · have h := h.2 hc
    refine lv_aload_n hx hb dX2_bestNote_7 rfl (lv_at hl 0 rfl) ?_
    refine va_get (D := G.1) (ci := 5) (v := .ref b0) (C := RX2) (T := TX2) (N := 11) hx hb hts igX2 hown hK hP 0 rfl rfl 0 (by decide) (hts _ q176) (fun _ h9 => h9) rfl dX2_bestNote_8 ?_
    refine lv_iload_n hx hb dX2_bestNote_11 rfl (lv_at hl 2 rfl) ?_
    have hPc := va_P.sub (ws' := [(b0, .inr (3, [.ref b1, .ref b2, .ref b3, .ref b4, .ref b5, .ref b6, .int bn])), (b1, .inl (G.2 0, 40, .inl kf)), (b2, .inl (G.2 0, 40, .inl ff)), (b3, .inl (G.2 0, 40, .inl sf)), (b4, .inl (G.2 0, 40, .inl df)), (b5, .inl (G.2 1, 40, .inr (.inl pf))), (b6, .inl (G.2 1, 6, .inr (.inl gf)))]) hP [10, 11, 12, 13, 14, 15, 16] rfl
    refine rdI (va_runV (C := RX0) (As := [.int p2]) (rest := []) ⟨hx, hb, hml, hown, hts⟩ (kX0_holds l G b0 b1 b2 b3 b4 b5 b6 kf ff sf df pf gf bn p2 h) (cwV 1 hts (gdV q403 q115 q116 q2 q117) rfl rfl rfl (by decide +kernel) ⟨Nat.le_of_ble_eq_true rfl, Nat.le_of_ble_eq_true rfl⟩) (preV hPc hKK (va_recv hK hPc (ci := 3) (q0 := 0) rfl rfl)) rfl rfl hl.1 rfl (lv_room (Nat.le_of_ble_eq_true rfl)) dX2_bestNote_12 ⟨Nat.zero_le _, Nat.zero_le _⟩) (fun r_2 h => ?_)
    refine lv_if_ne (tgt := 28) hx hb dX2_bestNote_15 (by decide) (fun hc => ?_) (fun hc => ?_)
    · have h := h.1 hc
      refine lv_iconst (v := (-1)) hx hb dX2_bestNote_28 (by decide) ?_
      refine lv_istore_n hx hb dX2_bestNote_29 rfl hl (Nat.le_of_ble_eq_true rfl) rfl (fun ls hl => ?_)
      have hl : lv_has ls 7 [(3, .int (-1 : Int32)), (0, .ref x0), (1, .int p1), (2, .int p2)] := hl
      refine lv_bipush (v := 65) hx hb dX2_bestNote_30 (by decide) ?_
      refine lv_istore hx hb dX2_bestNote_32 hl (Nat.le_of_ble_eq_true rfl) rfl (fun ls hl => ?_)
      have hl : lv_has ls 7 [(4, .int (65 : Int32)), (3, .int (-1 : Int32)), (0, .ref x0), (1, .int p1), (2, .int p2)] := hl
      refine lv_iconst (v := 0) hx hb dX2_bestNote_34 (by decide) ?_
      refine lv_istore hx hb dX2_bestNote_35 hl (Nat.le_of_ble_eq_true rfl) rfl (fun ls hl => ?_)
      have hl : lv_has ls 7 [(5, .int (0 : Int32)), (4, .int (65 : Int32)), (3, .int (-1 : Int32)), (0, .ref x0), (1, .int p1), (2, .int p2)] := hl
      have hl := lv_sub (l' := [(0, .ref x0), (1, .int p1), (2, .int p2), (3, .int (-1 : Int32)), (4, .int (65 : Int32)), (5, .int (0 : Int32))]) hl [3, 4, 5, 2, 1, 0] rfl
      obtain ⟨nF, h⟩ := h
      refine loop37 _ trivial ?_ nF (-1 : Int32) (65 : Int32) (0 : Int32) uk uw uo ur _ _ _ hl hP hD hS h
      · intro i3 i4 i5 uk' uw' uo' ur' ls H locs hl hP hD hS h
        refine lv_iload_n hx hb dX2_bestNote_142 rfl (lv_at hl 3 rfl) ?_
        refine vx_ret (W.widen (k := 1) (n := 6) (Nat.le_of_ble_eq_true rfl) (Nat.le_of_ble_eq_true rfl) ?_)
        subst hQC; exact W.iret (v := i3) hx hb hr (fun t ht hW => ⟨⟨_, (uk', uw', uo', ur'), rfl, h, by rw [ht]; exact hP, hD⟩, hS.F ht⟩) hS.2.2 dX2_bestNote_143
    · have h := h.2 hc
      obtain ⟨sa, hsa⟩ := hR.1 ("NightdeskRota", 139, "no such guard or sentence") (List.mem_of_getElem? (i := 7) rfl)
      subst hXC
      exact vx_throwS (names := rtx) (text := "no such guard or sentence") (sa := sa) hx hb hfl hown (by decide +kernel) (by decide +kernel) (hts _ q349) (hts _ q22) hsa (hatX hat87a hat87b hts hN hZ) hgd87 hZ.2.1 hZ.2.2 hS (hl.1.trans hml.symm) dX2_bestNote_18 dX2_bestNote_21 dX2_bestNote_22 dX2_bestNote_24 dX2_bestNote_27 (fun x hx => (hT x hx).elim) (Nat.le_of_ble_eq_true rfl) (Nat.le_of_ble_eq_true rfl) (Nat.le_of_ble_eq_true rfl) (Nat.le_of_ble_eq_true rfl) hlocks (fun t ht h1 h2 => ⟨(), trivial, ⟨keepAll hP h2, hD, h⟩, h1, fun q hq _ => h2 q hq⟩) hS.2.2 (Nat.le_refl _) (Nat.le_refl _)
theorem dX2_digestOfSentence_0 : decode cX2_digestOfSentence 0 = .ok (.lload_n 1, 1) := by decide +kernel
theorem dX2_digestOfSentence_1 : decode cX2_digestOfSentence 1 = .ok (.ldc2_w 272, 3) := by decide +kernel
theorem dX2_digestOfSentence_4 : decode cX2_digestOfSentence 4 = .ok (.lmul, 1) := by decide +kernel
theorem dX2_digestOfSentence_5 : decode cX2_digestOfSentence 5 = .ok (.aload_n 0, 1) := by decide +kernel
theorem dX2_digestOfSentence_6 : decode cX2_digestOfSentence 6 = .ok (.iload_n 3, 1) := by decide +kernel
theorem dX2_digestOfSentence_7 : decode cX2_digestOfSentence 7 = .ok (.invokevirtual 306, 3) := by decide +kernel
theorem dX2_digestOfSentence_10 : decode cX2_digestOfSentence 10 = .ok (.ladd, 1) := by decide +kernel
theorem dX2_digestOfSentence_11 : decode cX2_digestOfSentence 11 = .ok (.lstore 4, 2) := by decide +kernel
theorem dX2_digestOfSentence_13 : decode cX2_digestOfSentence 13 = .ok (.iconst 0, 1) := by decide +kernel
theorem dX2_digestOfSentence_14 : decode cX2_digestOfSentence 14 = .ok (.istore 6, 2) := by decide +kernel
theorem dX2_digestOfSentence_16 : decode cX2_digestOfSentence 16 = .ok (.iload 6, 2) := by decide +kernel
theorem dX2_digestOfSentence_18 : decode cX2_digestOfSentence 18 = .ok (.bipush 9, 2) := by decide +kernel
theorem dX2_digestOfSentence_20 : decode cX2_digestOfSentence 20 = .ok (.if_icmp .gt 26, 3) := by decide +kernel
theorem dX2_digestOfSentence_23 : decode cX2_digestOfSentence 23 = .ok (.lload 4, 2) := by decide +kernel
theorem dX2_digestOfSentence_25 : decode cX2_digestOfSentence 25 = .ok (.ldc2_w 272, 3) := by decide +kernel
theorem dX2_digestOfSentence_28 : decode cX2_digestOfSentence 28 = .ok (.lmul, 1) := by decide +kernel
theorem dX2_digestOfSentence_29 : decode cX2_digestOfSentence 29 = .ok (.aload_n 0, 1) := by decide +kernel
theorem dX2_digestOfSentence_30 : decode cX2_digestOfSentence 30 = .ok (.iload_n 3, 1) := by decide +kernel
theorem dX2_digestOfSentence_31 : decode cX2_digestOfSentence 31 = .ok (.iload 6, 2) := by decide +kernel
theorem dX2_digestOfSentence_33 : decode cX2_digestOfSentence 33 = .ok (.invokevirtual 309, 3) := by decide +kernel
theorem dX2_digestOfSentence_36 : decode cX2_digestOfSentence 36 = .ok (.i2l, 1) := by decide +kernel
theorem dX2_digestOfSentence_37 : decode cX2_digestOfSentence 37 = .ok (.ladd, 1) := by decide +kernel
theorem dX2_digestOfSentence_38 : decode cX2_digestOfSentence 38 = .ok (.lstore 4, 2) := by decide +kernel
theorem dX2_digestOfSentence_40 : decode cX2_digestOfSentence 40 = .ok (.iinc 6 1, 3) := by decide +kernel
theorem dX2_digestOfSentence_43 : decode cX2_digestOfSentence 43 = .ok (.goto (-27), 3) := by decide +kernel
theorem dX2_digestOfSentence_46 : decode cX2_digestOfSentence 46 = .ok (.lload 4, 2) := by decide +kernel
theorem dX2_digestOfSentence_48 : decode cX2_digestOfSentence 48 = .ok (.ldc2_w 272, 3) := by decide +kernel
theorem dX2_digestOfSentence_51 : decode cX2_digestOfSentence 51 = .ok (.lmul, 1) := by decide +kernel
theorem dX2_digestOfSentence_52 : decode cX2_digestOfSentence 52 = .ok (.aload_n 0, 1) := by decide +kernel
theorem dX2_digestOfSentence_53 : decode cX2_digestOfSentence 53 = .ok (.bipush 63, 2) := by decide +kernel
theorem dX2_digestOfSentence_55 : decode cX2_digestOfSentence 55 = .ok (.iload_n 3, 1) := by decide +kernel
theorem dX2_digestOfSentence_56 : decode cX2_digestOfSentence 56 = .ok (.invokevirtual 312, 3) := by decide +kernel
theorem dX2_digestOfSentence_59 : decode cX2_digestOfSentence 59 = .ok (.i2l, 1) := by decide +kernel
theorem dX2_digestOfSentence_60 : decode cX2_digestOfSentence 60 = .ok (.ladd, 1) := by decide +kernel
theorem dX2_digestOfSentence_61 : decode cX2_digestOfSentence 61 = .ok (.lreturn, 1) := by decide +kernel
def wX2_digestOfSentence_L16 (post : Int64 → Prop) (K46 : Int64 → Int32 → Prop) (dk : Nat → Int64) (wg : Nat → Int64) (op : Int64) (re : Int32) (kf : Nat → Int32) (ff : Nat → Int32) (sf : Nat → Int32) (df : Nat → Int32) (bn : Int32) (p2 : Int32) : Nat → Int64 → Int32 → Prop
  | 0, _, _ => False
  | n+1, i4, i6 =>
    (((9 : Int32) < i6) →
      K46 i4 i6
    ) ∧ (¬ ((9 : Int32) < i6) →
      wnX2_of (fun r_2 : Int32 =>
        wX2_digestOfSentence_L16 post K46 dk wg op re kf ff sf df bn p2 n ((i4 * (31 : Int64)) + (r_2.toInt64)) (i6 + 1)
        ) dk wg op re kf ff sf df bn p2 i6
    )
def wX2_digestOfSentence (post : Int64 → Prop) (dk : Nat → Int64) (wg : Nat → Int64) (op : Int64) (re : Int32) (kf : Nat → Int32) (ff : Nat → Int32) (sf : Nat → Int32) (df : Nat → Int32) (bn : Int32) (p1 : Int64) (p2 : Int32) : Prop :=
  wnX2_truth (fun r_1 : Int64 =>
    ∃ nF, wX2_digestOfSentence_L16 post
      (fun i4 i6 =>
        wnX2_depth (fun r_3 : Int32 =>
          post ((i4 * (31 : Int64)) + (r_3.toInt64))
          ) dk wg op re bn (63 : Int32) p2
      )
      dk wg op re kf ff sf df bn p2 nF ((p1 * (31 : Int64)) + r_1) (0 : Int32)
    ) wg bn p2
abbrev wl_X2_digestOfSentence : List Cond := .code yX2_digestOfSentence cX2_digestOfSentence 7 (some .long) :: lwg
abbrev rm_X2_digestOfSentence : Room := { frames := 6, cells := 0, slots := 0, locals := 146 }
set_option maxHeartbeats 4000000 in
set_option maxRecDepth 100000 in
theorem kX2_digestOfSentence {post : Int64 → Prop} (l : Launch) (G : GT) (x0 : Nat) (s0 : Nat) (s1 : Nat) (s2 : Nat) (u0 : Nat) (u1 : Nat) (u2 : Nat) (v0 : Nat) (v1 : Nat) (v2 : Nat) (b0 : Nat) (b1 : Nat) (b2 : Nat) (b3 : Nat) (b4 : Nat) (b5 : Nat) (b6 : Nat) (tA : Int32) (wP : Int32) (nT : Int32) (aK : Int32) (lK : Int32) (sW : Int32) (rF : Int32) (dk : Nat → Int64) (wg : Nat → Int64) (op : Int64) (re : Int32) (uk : Nat → Int64) (uw : Nat → Int64) (uo : Int64) (ur : Int32) (vk : Nat → Int64) (vw : Nat → Int64) (vo : Int64) (vr : Int32) (kf : Nat → Int32) (ff : Nat → Int32) (sf : Nat → Int32) (df : Nat → Int32) (pf : Nat → Int64) (gf : Nat → Int64) (bn : Int32) (p1 : Int64) (p2 : Int32) (h : wX2_digestOfSentence post dk wg op re kf ff sf df bn p1 p2) : Met l yX2_digestOfSentence wl_X2_digestOfSentence rm_X2_digestOfSentence (va_Pc [.ref x0, .long p1, .int p2] (fun U => PP G [(x0, .inr (5, [.ref b0, .ref s0, .ref u0, .ref v0, .int tA, .int wP, .int nT, .int aK, .int lK, .int sW, .int rF])), (s0, .inr (4, [.ref b0, .ref s1, .ref s2, .long op, .int re])), (s1, .inl (G.2 1, 384, .inr (.inl dk))), (s2, .inl (G.2 1, 40, .inr (.inl wg))), (u0, .inr (4, [.ref b0, .ref u1, .ref u2, .long uo, .int ur])), (u1, .inl (G.2 1, 384, .inr (.inl uk))), (u2, .inl (G.2 1, 40, .inr (.inl uw))), (v0, .inr (4, [.ref b0, .ref v1, .ref v2, .long vo, .int vr])), (v1, .inl (G.2 1, 384, .inr (.inl vk))), (v2, .inl (G.2 1, 40, .inr (.inl vw))), (b0, .inr (3, [.ref b1, .ref b2, .ref b3, .ref b4, .ref b5, .ref b6, .int bn])), (b1, .inl (G.2 0, 40, .inl kf)), (b2, .inl (G.2 0, 40, .inl ff)), (b3, .inl (G.2 0, 40, .inl sf)), (b4, .inl (G.2 0, 40, .inl df)), (b5, .inl (G.2 1, 40, .inr (.inl pf))), (b6, .inl (G.2 1, 6, .inr (.inl gf)))] U.heap ∧ KK G U)) (vp_Sl post) 0 0 (fun _ => False) := by
  refine Met.ofW (cc := cX2_digestOfSentence) (maxL := 7) (ret := (some .long)) (by decide) rfl ?_
  intro p e s m args below meth c s₁ B hml hv
  obtain ⟨rfl, hP, hKK⟩ := hv
  obtain ⟨hK, hN, hR, hFW, hNC⟩ := id hKK
  have hx := B.exec
  have hb := B.bytes
  have hr := B.returns
  have hts0 := atoms_spec (ws := wl_X2_digestOfSentence) B.pre
  have hts : ∀ w ∈ lwg, w.before ([.ref x0, .long p1, .int p2] : List Value).toArray s = true := fun w hw => hts0 w (List.mem_cons_of_mem _ hw)
  have hown : s.vm.findClass RX2 = some m.cls := findClass_of_methodNamed B.named
  have hlocks := B.notSynchronized
  have hP : PP G [(x0, .inr (5, [.ref b0, .ref s0, .ref u0, .ref v0, .int tA, .int wP, .int nT, .int aK, .int lK, .int sW, .int rF])), (s0, .inr (4, [.ref b0, .ref s1, .ref s2, .long op, .int re])), (s1, .inl (G.2 1, 384, .inr (.inl dk))), (s2, .inl (G.2 1, 40, .inr (.inl wg))), (u0, .inr (4, [.ref b0, .ref u1, .ref u2, .long uo, .int ur])), (u1, .inl (G.2 1, 384, .inr (.inl uk))), (u2, .inl (G.2 1, 40, .inr (.inl uw))), (v0, .inr (4, [.ref b0, .ref v1, .ref v2, .long vo, .int vr])), (v1, .inl (G.2 1, 384, .inr (.inl vk))), (v2, .inl (G.2 1, 40, .inr (.inl vw))), (b0, .inr (3, [.ref b1, .ref b2, .ref b3, .ref b4, .ref b5, .ref b6, .int bn])), (b1, .inl (G.2 0, 40, .inl kf)), (b2, .inl (G.2 0, 40, .inl ff)), (b3, .inl (G.2 0, 40, .inl sf)), (b4, .inl (G.2 0, 40, .inl df)), (b5, .inl (G.2 1, 40, .inr (.inl pf))), (b6, .inl (G.2 1, 6, .inr (.inl gf)))] s.heap := hP
  have hl := lv_entry ([.ref x0, .long p1, .int p2]) (n := 7) (Nat.le_of_ble_eq_true rfl)
  rw [lg_entry_eq]
  generalize (lg_sl ([.ref x0, .long p1, .int p2]) ++ List.replicate (7 - (lg_sl ([.ref x0, .long p1, .int p2])).length) Slot.unset).toArray = ls at hl ⊢
  have hl : lv_has ls 7 [(0, .ref x0), (1, .long p1), (3, .int p2)] := hl
  have loop16 : ∀ (K46 : Int64 → Int32 → Prop), True → (∀ (i4 : Int64) (i6 : Int32) (ls : Array Slot), lv_has ls 7 [(0, .ref x0), (1, .long p1), (3, .int p2), (4, .long i4), (6, .int i6)] → K46 i4 i6 → W p l e (headSpec (wl_X2_digestOfSentence) rm_X2_digestOfSentence).room s m ([.ref x0, .long p1, .int p2] : List Value).toArray below meth c s.heap [] 0 0 (MQ below (vp_Sl post) ([.ref x0, .long p1, .int p2] : List Value).toArray s 0 0 (fun _ => False)) (F0 m 46 ls [])) → ∀ (n : Nat) (i4 : Int64) (i6 : Int32) (ls : Array Slot), lv_has ls 7 [(0, .ref x0), (1, .long p1), (3, .int p2), (4, .long i4), (6, .int i6)] → wX2_digestOfSentence_L16 post K46 dk wg op re kf ff sf df bn p2 n i4 i6 → W p l e (headSpec (wl_X2_digestOfSentence) rm_X2_digestOfSentence).room s m ([.ref x0, .long p1, .int p2] : List Value).toArray below meth c s.heap [] 0 0 (MQ below (vp_Sl post) ([.ref x0, .long p1, .int p2] : List Value).toArray s 0 0 (fun _ => False)) (F0 m 16 ls []) := by
    intro K46 _ hexit46 n
    induction n with
    | zero => intro i4 i6 ls hl h; exact False.elim h
    | succ n ih =>
      intro i4 i6 ls hl h
      refine lv_iload hx hb dX2_digestOfSentence_16 (lv_at hl 4 rfl) ?_
      refine lv_bipush (v := 9) hx hb dX2_digestOfSentence_18 (by decide) ?_
      refine lv_icmp_gt (tgt := 46) hx hb dX2_digestOfSentence_20 (by decide) (fun hc => ?_) (fun hc => ?_)
      · have h := h.1 hc
        have hl := lv_sub (l' := [(0, .ref x0), (1, .long p1), (3, .int p2), (4, .long i4), (6, .int i6)]) hl [0, 1, 2, 3, 4] rfl
        exact hexit46 _ _ ls hl h
      · have h := h.2 hc
        refine lv_lload hx hb dX2_digestOfSentence_23 (lv_at hl 3 rfl) ?_
        refine lv_ldc2 hx hb hown (hts _ q248) dX2_digestOfSentence_25 ?_
        refine lv_lmul hx hb dX2_digestOfSentence_28 ?_
        refine lv_aload_n hx hb dX2_digestOfSentence_29 rfl (lv_at hl 0 rfl) ?_
        refine lv_iload_n hx hb dX2_digestOfSentence_30 rfl (lv_at hl 2 rfl) ?_
        refine lv_iload hx hb dX2_digestOfSentence_31 (lv_at hl 4 rfl) ?_
        have hPc := hP
        refine rdI (va_runV (C := RX2) (As := [.int p2, .int i6]) (rest := [.long (i4 * (31 : Int64))]) ⟨hx, hb, hml, hown, hts⟩ (knX2_of l G x0 s0 s1 s2 u0 u1 u2 v0 v1 v2 b0 b1 b2 b3 b4 b5 b6 tA wP nT aK lK sW rF dk wg op re uk uw uo ur vk vw vo vr kf ff sf df pf gf bn p2 i6 h) (cwV 2 hts (gdV q406 q407 q408 q1 q409) rfl rfl rfl (by decide +kernel) ⟨Nat.le_of_ble_eq_true rfl, Nat.le_of_ble_eq_true rfl⟩) (preV hPc hKK (va_recv hK hPc (ci := 5) (q0 := 0) rfl rfl)) rfl rfl hl.1 rfl (lv_room (Nat.le_of_ble_eq_true rfl)) dX2_digestOfSentence_33 ⟨Nat.zero_le _, Nat.zero_le _⟩) (fun r_2 h => ?_)
        refine lv_i2l (v := (r_2.toInt64)) hx hb dX2_digestOfSentence_36 rfl ?_
        refine lv_ladd hx hb dX2_digestOfSentence_37 ?_
        refine lv_lstore hx hb dX2_digestOfSentence_38 hl (Nat.le_of_ble_eq_true rfl) rfl (fun ls hl => ?_)
        have hl : lv_has ls 7 [(4, .long ((i4 * (31 : Int64)) + (r_2.toInt64))), (0, .ref x0), (1, .long p1), (3, .int p2), (6, .int i6)] := hl
        refine lv_iinc (v := (i6 + 1)) hx hb dX2_digestOfSentence_40 hl (k := 4) rfl (by rw [show Int32.ofInt 1 = 1 from by decide]) (Nat.le_of_ble_eq_true rfl) rfl (fun ls hl => ?_)
        have hl : lv_has ls 7 [(6, .int (i6 + 1)), (4, .long ((i4 * (31 : Int64)) + (r_2.toInt64))), (0, .ref x0), (1, .long p1), (3, .int p2)] := hl
        refine lv_goto (tgt := 16) hx hb dX2_digestOfSentence_43 (by decide) ?_
        have hl := lv_sub (l' := [(0, .ref x0), (1, .long p1), (3, .int p2), (4, .long ((i4 * (31 : Int64)) + (r_2.toInt64))), (6, .int (i6 + 1))]) hl [2, 3, 4, 1, 0] rfl
        exact ih _ _ ls hl h
  refine lv_lload_n hx hb dX2_digestOfSentence_0 rfl (lv_at hl 1 rfl) ?_
  refine lv_ldc2 hx hb hown (hts _ q248) dX2_digestOfSentence_1 ?_
  refine lv_lmul hx hb dX2_digestOfSentence_4 ?_
  refine lv_aload_n hx hb dX2_digestOfSentence_5 rfl (lv_at hl 0 rfl) ?_
  refine lv_iload_n hx hb dX2_digestOfSentence_6 rfl (lv_at hl 2 rfl) ?_
  have hPc := hP
  refine rdL (va_runV (C := RX2) (As := [.int p2]) (rest := [.long (p1 * (31 : Int64))]) ⟨hx, hb, hml, hown, hts⟩ (knX2_truth l G x0 s0 s1 s2 u0 u1 u2 v0 v1 v2 b0 b1 b2 b3 b4 b5 b6 tA wP nT aK lK sW rF dk wg op re uk uw uo ur vk vw vo vr kf ff sf df pf gf bn p2 h) (cwV 1 hts (gdV q399 q400 q401 q1 q402) rfl rfl rfl (by decide +kernel) ⟨Nat.le_of_ble_eq_true rfl, Nat.le_of_ble_eq_true rfl⟩) (preV hPc hKK (va_recv hK hPc (ci := 5) (q0 := 0) rfl rfl)) rfl rfl hl.1 rfl (lv_room (Nat.le_of_ble_eq_true rfl)) dX2_digestOfSentence_7 ⟨Nat.zero_le _, Nat.zero_le _⟩) (fun r_1 h => ?_)
  refine lv_ladd hx hb dX2_digestOfSentence_10 ?_
  refine lv_lstore hx hb dX2_digestOfSentence_11 hl (Nat.le_of_ble_eq_true rfl) rfl (fun ls hl => ?_)
  have hl : lv_has ls 7 [(4, .long ((p1 * (31 : Int64)) + r_1)), (0, .ref x0), (1, .long p1), (3, .int p2)] := hl
  refine lv_iconst (v := 0) hx hb dX2_digestOfSentence_13 (by decide) ?_
  refine lv_istore hx hb dX2_digestOfSentence_14 hl (Nat.le_of_ble_eq_true rfl) rfl (fun ls hl => ?_)
  have hl : lv_has ls 7 [(6, .int (0 : Int32)), (4, .long ((p1 * (31 : Int64)) + r_1)), (0, .ref x0), (1, .long p1), (3, .int p2)] := hl
  have hl := lv_sub (l' := [(0, .ref x0), (1, .long p1), (3, .int p2), (4, .long ((p1 * (31 : Int64)) + r_1)), (6, .int (0 : Int32))]) hl [2, 3, 4, 1, 0] rfl
  obtain ⟨nF, h⟩ := h
  refine loop16 _ trivial ?_ nF ((p1 * (31 : Int64)) + r_1) (0 : Int32) _ hl h
  · intro i4 i6 ls hl h
    refine lv_lload hx hb dX2_digestOfSentence_46 (lv_at hl 3 rfl) ?_
    refine lv_ldc2 hx hb hown (hts _ q248) dX2_digestOfSentence_48 ?_
    refine lv_lmul hx hb dX2_digestOfSentence_51 ?_
    refine lv_aload_n hx hb dX2_digestOfSentence_52 rfl (lv_at hl 0 rfl) ?_
    refine lv_bipush (v := 63) hx hb dX2_digestOfSentence_53 (by decide) ?_
    refine lv_iload_n hx hb dX2_digestOfSentence_55 rfl (lv_at hl 2 rfl) ?_
    have hPc := hP
    refine rdI (va_runV (C := RX2) (As := [.int (63 : Int32), .int p2]) (rest := [.long (i4 * (31 : Int64))]) ⟨hx, hb, hml, hown, hts⟩ (knX2_depth l G x0 s0 s1 s2 u0 u1 u2 v0 v1 v2 b0 b1 b2 b3 b4 b5 b6 tA wP nT aK lK sW rF dk wg op re uk uw uo ur vk vw vo vr kf ff sf df pf gf bn (63 : Int32) p2 h) (cwV 2 hts (gdV q432 q433 q434 q1 q435) rfl rfl rfl (by decide +kernel) ⟨Nat.le_of_ble_eq_true rfl, Nat.le_of_ble_eq_true rfl⟩) (preV hPc hKK (va_recv hK hPc (ci := 5) (q0 := 0) rfl rfl)) rfl rfl hl.1 rfl (lv_room (Nat.le_of_ble_eq_true rfl)) dX2_digestOfSentence_56 ⟨Nat.zero_le _, Nat.zero_le _⟩) (fun r_3 h => ?_)
    refine lv_i2l (v := (r_3.toInt64)) hx hb dX2_digestOfSentence_59 rfl ?_
    refine lv_ladd hx hb dX2_digestOfSentence_60 ?_
    exact W.lret (v := ((i4 * (31 : Int64)) + (r_3.toInt64))) hx hb hr (fun t ht _ => ⟨_, rfl, h, ht⟩) (fun _ hq => absurd hq List.not_mem_nil) dX2_digestOfSentence_61
theorem dX2_digest_0 : decode cX2_digest 0 = .ok (.ldc2_w 270, 3) := by decide +kernel
theorem dX2_digest_3 : decode cX2_digest 3 = .ok (.lstore_n 1, 1) := by decide +kernel
theorem dX2_digest_4 : decode cX2_digest 4 = .ok (.iconst 0, 1) := by decide +kernel
theorem dX2_digest_5 : decode cX2_digest 5 = .ok (.istore_n 3, 1) := by decide +kernel
theorem dX2_digest_6 : decode cX2_digest 6 = .ok (.iload_n 3, 1) := by decide +kernel
theorem dX2_digest_7 : decode cX2_digest 7 = .ok (.bipush 12, 2) := by decide +kernel
theorem dX2_digest_9 : decode cX2_digest 9 = .ok (.if_icmp .gt 22, 3) := by decide +kernel
theorem dX2_digest_12 : decode cX2_digest 12 = .ok (.lload_n 1, 1) := by decide +kernel
theorem dX2_digest_13 : decode cX2_digest 13 = .ok (.ldc2_w 272, 3) := by decide +kernel
theorem dX2_digest_16 : decode cX2_digest 16 = .ok (.lmul, 1) := by decide +kernel
theorem dX2_digest_17 : decode cX2_digest 17 = .ok (.aload_n 0, 1) := by decide +kernel
theorem dX2_digest_18 : decode cX2_digest 18 = .ok (.iload_n 3, 1) := by decide +kernel
theorem dX2_digest_19 : decode cX2_digest 19 = .ok (.invokevirtual 274, 3) := by decide +kernel
theorem dX2_digest_22 : decode cX2_digest 22 = .ok (.i2l, 1) := by decide +kernel
theorem dX2_digest_23 : decode cX2_digest 23 = .ok (.ladd, 1) := by decide +kernel
theorem dX2_digest_24 : decode cX2_digest 24 = .ok (.lstore_n 1, 1) := by decide +kernel
theorem dX2_digest_25 : decode cX2_digest 25 = .ok (.iinc 3 1, 3) := by decide +kernel
theorem dX2_digest_28 : decode cX2_digest 28 = .ok (.goto (-22), 3) := by decide +kernel
theorem dX2_digest_31 : decode cX2_digest 31 = .ok (.lload_n 1, 1) := by decide +kernel
theorem dX2_digest_32 : decode cX2_digest 32 = .ok (.ldc2_w 272, 3) := by decide +kernel
theorem dX2_digest_35 : decode cX2_digest 35 = .ok (.lmul, 1) := by decide +kernel
theorem dX2_digest_36 : decode cX2_digest 36 = .ok (.aload_n 0, 1) := by decide +kernel
theorem dX2_digest_37 : decode cX2_digest 37 = .ok (.invokevirtual 277, 3) := by decide +kernel
theorem dX2_digest_40 : decode cX2_digest 40 = .ok (.ladd, 1) := by decide +kernel
theorem dX2_digest_41 : decode cX2_digest 41 = .ok (.lstore_n 1, 1) := by decide +kernel
theorem dX2_digest_42 : decode cX2_digest 42 = .ok (.iconst 0, 1) := by decide +kernel
theorem dX2_digest_43 : decode cX2_digest 43 = .ok (.istore_n 3, 1) := by decide +kernel
theorem dX2_digest_44 : decode cX2_digest 44 = .ok (.iload_n 3, 1) := by decide +kernel
theorem dX2_digest_45 : decode cX2_digest 45 = .ok (.bipush 6, 2) := by decide +kernel
theorem dX2_digest_47 : decode cX2_digest 47 = .ok (.if_icmp .ge 58, 3) := by decide +kernel
theorem dX2_digest_50 : decode cX2_digest 50 = .ok (.iconst 0, 1) := by decide +kernel
theorem dX2_digest_51 : decode cX2_digest 51 = .ok (.istore 4, 2) := by decide +kernel
theorem dX2_digest_53 : decode cX2_digest 53 = .ok (.iload 4, 2) := by decide +kernel
theorem dX2_digest_55 : decode cX2_digest 55 = .ok (.iconst 4, 1) := by decide +kernel
theorem dX2_digest_56 : decode cX2_digest 56 = .ok (.if_icmp .gt 24, 3) := by decide +kernel
theorem dX2_digest_59 : decode cX2_digest 59 = .ok (.lload_n 1, 1) := by decide +kernel
theorem dX2_digest_60 : decode cX2_digest 60 = .ok (.ldc2_w 272, 3) := by decide +kernel
theorem dX2_digest_63 : decode cX2_digest 63 = .ok (.lmul, 1) := by decide +kernel
theorem dX2_digest_64 : decode cX2_digest 64 = .ok (.aload_n 0, 1) := by decide +kernel
theorem dX2_digest_65 : decode cX2_digest 65 = .ok (.iload_n 3, 1) := by decide +kernel
theorem dX2_digest_66 : decode cX2_digest 66 = .ok (.iload 4, 2) := by decide +kernel
theorem dX2_digest_68 : decode cX2_digest 68 = .ok (.invokevirtual 280, 3) := by decide +kernel
theorem dX2_digest_71 : decode cX2_digest 71 = .ok (.i2l, 1) := by decide +kernel
theorem dX2_digest_72 : decode cX2_digest 72 = .ok (.ladd, 1) := by decide +kernel
theorem dX2_digest_73 : decode cX2_digest 73 = .ok (.lstore_n 1, 1) := by decide +kernel
theorem dX2_digest_74 : decode cX2_digest 74 = .ok (.iinc 4 1, 3) := by decide +kernel
theorem dX2_digest_77 : decode cX2_digest 77 = .ok (.goto (-24), 3) := by decide +kernel
theorem dX2_digest_80 : decode cX2_digest 80 = .ok (.lload_n 1, 1) := by decide +kernel
theorem dX2_digest_81 : decode cX2_digest 81 = .ok (.ldc2_w 272, 3) := by decide +kernel
theorem dX2_digest_84 : decode cX2_digest 84 = .ok (.lmul, 1) := by decide +kernel
theorem dX2_digest_85 : decode cX2_digest 85 = .ok (.aload_n 0, 1) := by decide +kernel
theorem dX2_digest_86 : decode cX2_digest 86 = .ok (.iload_n 3, 1) := by decide +kernel
theorem dX2_digest_87 : decode cX2_digest 87 = .ok (.aload_n 0, 1) := by decide +kernel
theorem dX2_digest_88 : decode cX2_digest 88 = .ok (.getfield 21, 3) := by decide +kernel
theorem dX2_digest_91 : decode cX2_digest 91 = .ok (.getfield 103, 3) := by decide +kernel
theorem dX2_digest_94 : decode cX2_digest 94 = .ok (.invokevirtual 284, 3) := by decide +kernel
theorem dX2_digest_97 : decode cX2_digest 97 = .ok (.ladd, 1) := by decide +kernel
theorem dX2_digest_98 : decode cX2_digest 98 = .ok (.lstore_n 1, 1) := by decide +kernel
theorem dX2_digest_99 : decode cX2_digest 99 = .ok (.iinc 3 1, 3) := by decide +kernel
theorem dX2_digest_102 : decode cX2_digest 102 = .ok (.goto (-58), 3) := by decide +kernel
theorem dX2_digest_105 : decode cX2_digest 105 = .ok (.iconst 0, 1) := by decide +kernel
theorem dX2_digest_106 : decode cX2_digest 106 = .ok (.istore_n 3, 1) := by decide +kernel
theorem dX2_digest_107 : decode cX2_digest 107 = .ok (.iload_n 3, 1) := by decide +kernel
theorem dX2_digest_108 : decode cX2_digest 108 = .ok (.aload_n 0, 1) := by decide +kernel
theorem dX2_digest_109 : decode cX2_digest 109 = .ok (.getfield 10, 3) := by decide +kernel
theorem dX2_digest_112 : decode cX2_digest 112 = .ok (.invokevirtual 235, 3) := by decide +kernel
theorem dX2_digest_115 : decode cX2_digest 115 = .ok (.if_icmp .ge 16, 3) := by decide +kernel
theorem dX2_digest_118 : decode cX2_digest 118 = .ok (.aload_n 0, 1) := by decide +kernel
theorem dX2_digest_119 : decode cX2_digest 119 = .ok (.lload_n 1, 1) := by decide +kernel
theorem dX2_digest_120 : decode cX2_digest 120 = .ok (.iload_n 3, 1) := by decide +kernel
theorem dX2_digest_121 : decode cX2_digest 121 = .ok (.invokevirtual 287, 3) := by decide +kernel
theorem dX2_digest_124 : decode cX2_digest 124 = .ok (.lstore_n 1, 1) := by decide +kernel
theorem dX2_digest_125 : decode cX2_digest 125 = .ok (.iinc 3 1, 3) := by decide +kernel
theorem dX2_digest_128 : decode cX2_digest 128 = .ok (.goto (-21), 3) := by decide +kernel
theorem dX2_digest_131 : decode cX2_digest 131 = .ok (.aload_n 0, 1) := by decide +kernel
theorem dX2_digest_132 : decode cX2_digest 132 = .ok (.getfield 10, 3) := by decide +kernel
theorem dX2_digest_135 : decode cX2_digest 135 = .ok (.invokevirtual 235, 3) := by decide +kernel
theorem dX2_digest_138 : decode cX2_digest 138 = .ok (.ifCond .le 48, 3) := by decide +kernel
theorem dX2_digest_141 : decode cX2_digest 141 = .ok (.lload_n 1, 1) := by decide +kernel
theorem dX2_digest_142 : decode cX2_digest 142 = .ok (.ldc2_w 272, 3) := by decide +kernel
theorem dX2_digest_145 : decode cX2_digest 145 = .ok (.lmul, 1) := by decide +kernel
theorem dX2_digest_146 : decode cX2_digest 146 = .ok (.aload_n 0, 1) := by decide +kernel
theorem dX2_digest_147 : decode cX2_digest 147 = .ok (.iconst 0, 1) := by decide +kernel
theorem dX2_digest_148 : decode cX2_digest 148 = .ok (.aload_n 0, 1) := by decide +kernel
theorem dX2_digest_149 : decode cX2_digest 149 = .ok (.getfield 10, 3) := by decide +kernel
theorem dX2_digest_152 : decode cX2_digest 152 = .ok (.invokevirtual 235, 3) := by decide +kernel
theorem dX2_digest_155 : decode cX2_digest 155 = .ok (.iconst 1, 1) := by decide +kernel
theorem dX2_digest_156 : decode cX2_digest 156 = .ok (.isub, 1) := by decide +kernel
theorem dX2_digest_157 : decode cX2_digest 157 = .ok (.invokevirtual 291, 3) := by decide +kernel
theorem dX2_digest_160 : decode cX2_digest 160 = .ok (.i2l, 1) := by decide +kernel
theorem dX2_digest_161 : decode cX2_digest 161 = .ok (.ladd, 1) := by decide +kernel
theorem dX2_digest_162 : decode cX2_digest 162 = .ok (.lstore_n 1, 1) := by decide +kernel
theorem dX2_digest_163 : decode cX2_digest 163 = .ok (.lload_n 1, 1) := by decide +kernel
theorem dX2_digest_164 : decode cX2_digest 164 = .ok (.ldc2_w 272, 3) := by decide +kernel
theorem dX2_digest_167 : decode cX2_digest 167 = .ok (.lmul, 1) := by decide +kernel
theorem dX2_digest_168 : decode cX2_digest 168 = .ok (.aload_n 0, 1) := by decide +kernel
theorem dX2_digest_169 : decode cX2_digest 169 = .ok (.bipush 63, 2) := by decide +kernel
theorem dX2_digest_171 : decode cX2_digest 171 = .ok (.aload_n 0, 1) := by decide +kernel
theorem dX2_digest_172 : decode cX2_digest 172 = .ok (.getfield 10, 3) := by decide +kernel
theorem dX2_digest_175 : decode cX2_digest 175 = .ok (.invokevirtual 235, 3) := by decide +kernel
theorem dX2_digest_178 : decode cX2_digest 178 = .ok (.iconst 1, 1) := by decide +kernel
theorem dX2_digest_179 : decode cX2_digest 179 = .ok (.isub, 1) := by decide +kernel
theorem dX2_digest_180 : decode cX2_digest 180 = .ok (.invokevirtual 294, 3) := by decide +kernel
theorem dX2_digest_183 : decode cX2_digest 183 = .ok (.i2l, 1) := by decide +kernel
theorem dX2_digest_184 : decode cX2_digest 184 = .ok (.ladd, 1) := by decide +kernel
theorem dX2_digest_185 : decode cX2_digest 185 = .ok (.lstore_n 1, 1) := by decide +kernel
theorem dX2_digest_186 : decode cX2_digest 186 = .ok (.lload_n 1, 1) := by decide +kernel
theorem dX2_digest_187 : decode cX2_digest 187 = .ok (.ldc2_w 272, 3) := by decide +kernel
theorem dX2_digest_190 : decode cX2_digest 190 = .ok (.lmul, 1) := by decide +kernel
theorem dX2_digest_191 : decode cX2_digest 191 = .ok (.ldc2_w 297, 3) := by decide +kernel
theorem dX2_digest_194 : decode cX2_digest 194 = .ok (.aload_n 0, 1) := by decide +kernel
theorem dX2_digest_195 : decode cX2_digest 195 = .ok (.iconst 0, 1) := by decide +kernel
theorem dX2_digest_196 : decode cX2_digest 196 = .ok (.invokevirtual 299, 3) := by decide +kernel
theorem dX2_digest_199 : decode cX2_digest 199 = .ok (.dmul, 1) := by decide +kernel
theorem dX2_digest_200 : decode cX2_digest 200 = .ok (.d2l, 1) := by decide +kernel
theorem dX2_digest_201 : decode cX2_digest 201 = .ok (.ladd, 1) := by decide +kernel
theorem dX2_digest_202 : decode cX2_digest 202 = .ok (.lstore_n 1, 1) := by decide +kernel
theorem dX2_digest_203 : decode cX2_digest 203 = .ok (.lload_n 1, 1) := by decide +kernel
theorem dX2_digest_204 : decode cX2_digest 204 = .ok (.ldc2_w 272, 3) := by decide +kernel
theorem dX2_digest_207 : decode cX2_digest 207 = .ok (.lmul, 1) := by decide +kernel
theorem dX2_digest_208 : decode cX2_digest 208 = .ok (.aload_n 0, 1) := by decide +kernel
theorem dX2_digest_209 : decode cX2_digest 209 = .ok (.invokevirtual 303, 3) := by decide +kernel
theorem dX2_digest_212 : decode cX2_digest 212 = .ok (.ifCond .eq 7, 3) := by decide +kernel
theorem dX2_digest_215 : decode cX2_digest 215 = .ok (.lconst 1, 1) := by decide +kernel
theorem dX2_digest_216 : decode cX2_digest 216 = .ok (.goto 4, 3) := by decide +kernel
theorem dX2_digest_219 : decode cX2_digest 219 = .ok (.lconst 0, 1) := by decide +kernel
theorem dX2_digest_220 : decode cX2_digest 220 = .ok (.ladd, 1) := by decide +kernel
theorem dX2_digest_221 : decode cX2_digest 221 = .ok (.lreturn, 1) := by decide +kernel
def wX2_digest_L6 (post : Int64 → (Nat → Int64) × (Nat → Int64) × Int64 × Int32 × (Nat → Int64) × (Nat → Int64) × Int64 × Int32 → Prop) (K31 : Int64 → Int32 → Prop) (tA : Int32) (wP : Int32) (nT : Int32) (aK : Int32) (lK : Int32) (sW : Int32) (rF : Int32) (dk : Nat → Int64) (wg : Nat → Int64) (op : Int64) (re : Int32) (bn : Int32) : Nat → Int64 → Int32 → Prop
  | 0, _, _ => False
  | n+1, i1, i3 =>
    (((12 : Int32) < i3) →
      K31 i1 i3
    ) ∧ (¬ ((12 : Int32) < i3) →
      wnX2_night (fun r_1 : Int32 =>
        wX2_digest_L6 post K31 tA wP nT aK lK sW rF dk wg op re bn n ((i1 * (31 : Int64)) + (r_1.toInt64)) (i3 + 1)
        ) tA wP nT aK lK sW rF dk wg op re bn i3
    )
def wX2_digest_L53 (post : Int64 → (Nat → Int64) × (Nat → Int64) × Int64 × Int32 × (Nat → Int64) × (Nat → Int64) × Int64 × Int32 → Prop) (K80 : Int64 → Int32 → Prop) (dk : Nat → Int64) (wg : Nat → Int64) (op : Int64) (re : Int32) (bn : Int32) (i3 : Int32) : Nat → Int64 → Int32 → Prop
  | 0, _, _ => False
  | n+1, i1, i4 =>
    (((4 : Int32) < i4) →
      K80 i1 i4
    ) ∧ (¬ ((4 : Int32) < i4) →
      wnX2_ofGuard (fun r_3 : Int32 =>
        wX2_digest_L53 post K80 dk wg op re bn i3 n ((i1 * (31 : Int64)) + (r_3.toInt64)) (i4 + 1)
        ) dk wg op re bn i3 i4
    )
def wX2_digest_L44 (post : Int64 → (Nat → Int64) × (Nat → Int64) × Int64 × Int32 × (Nat → Int64) × (Nat → Int64) × Int64 × Int32 → Prop) (K105 : Int64 → Int32 → Prop) (dk : Nat → Int64) (wg : Nat → Int64) (op : Int64) (re : Int32) (bn : Int32) : Nat → Int64 → Int32 → Prop
  | 0, _, _ => False
  | n+1, i1, i3 =>
    (((6 : Int32) ≤ i3) →
      K105 i1 i3
    ) ∧ (¬ ((6 : Int32) ≤ i3) →
      ∃ nF, wX2_digest_L53 post
        (fun i1 i4 =>
          wnX2_alike (fun r_4 : Int64 =>
            wX2_digest_L44 post K105 dk wg op re bn n ((i1 * (31 : Int64)) + r_4) (i3 + 1)
            ) dk op i3 re
        )
        dk wg op re bn i3 nF i1 (0 : Int32)
    )
def wX2_digest_L107 (post : Int64 → (Nat → Int64) × (Nat → Int64) × Int64 × Int32 × (Nat → Int64) × (Nat → Int64) × Int64 × Int32 → Prop) (K131 : Int64 → Int32 → Prop) (dk : Nat → Int64) (wg : Nat → Int64) (op : Int64) (re : Int32) (kf : Nat → Int32) (ff : Nat → Int32) (sf : Nat → Int32) (df : Nat → Int32) (bn : Int32) : Nat → Int64 → Int32 → Prop
  | 0, _, _ => False
  | n+1, i1, i3 =>
    wX0_count (fun r_5 : Int32 =>
      ((r_5 ≤ i3) →
        K131 i1 i3
      ) ∧ (¬ (r_5 ≤ i3) →
        wX2_digestOfSentence (fun r_6 : Int64 =>
          wX2_digest_L107 post K131 dk wg op re kf ff sf df bn n r_6 (i3 + 1)
          ) dk wg op re kf ff sf df bn i1 i3
      )
      ) bn
def wX2_digest (post : Int64 → (Nat → Int64) × (Nat → Int64) × Int64 × Int32 × (Nat → Int64) × (Nat → Int64) × Int64 × Int32 → Prop) (tA : Int32) (wP : Int32) (nT : Int32) (aK : Int32) (lK : Int32) (sW : Int32) (rF : Int32) (dk : Nat → Int64) (wg : Nat → Int64) (op : Int64) (re : Int32) (uk : Nat → Int64) (uw : Nat → Int64) (uo : Int64) (ur : Int32) (vk : Nat → Int64) (vw : Nat → Int64) (vo : Int64) (vr : Int32) (kf : Nat → Int32) (ff : Nat → Int32) (sf : Nat → Int32) (df : Nat → Int32) (pf : Nat → Int64) (gf : Nat → Int64) (bn : Int32) : Prop :=
  ∃ nF, wX2_digest_L6 post
    (fun i1 i3 =>
      wX2_possible (fun r_2 : Int64 =>
        ∃ nF, wX2_digest_L44 post
          (fun i1 i3 =>
            ∃ nF, wX2_digest_L107 post
              (fun i1 i3 =>
                wX0_count (fun r_7 : Int32 =>
                  ((r_7 ≤ 0) →
                    wnX2_wit (fun r_8 : UInt64 =>
                      vf_n64 (FP.dmul (4634204016564240384 : UInt64) r_8) ∧
                      ∀ x_1 : Int64, x_1 = ((i1 * (31 : Int64)) + (FP.d2l (FP.dmul (4634204016564240384 : UInt64) r_8))) →
                      wX2_isSound (fun r_9 : Int32 =>
                        ((r_9 = 0) →
                          post ((x_1 * (31 : Int64)) + (0 : Int64)) (uk, uw, uo, ur, vk, vw, vo, vr)
                        ) ∧ (¬ (r_9 = 0) →
                          post ((x_1 * (31 : Int64)) + (1 : Int64)) (uk, uw, uo, ur, vk, vw, vo, vr)
                        )
                        ) dk wg op re kf ff sf bn
                      ) dk wg op re bn (0 : Int32)
                  ) ∧ (¬ (r_7 ≤ 0) →
                    wX0_count (fun r_10 : Int32 =>
                      wnX2_notes (fun (r_11 : Int32) (z_1 : (Nat → Int64) × (Nat → Int64) × Int64 × Int32 × (Nat → Int64) × (Nat → Int64) × Int64 × Int32) =>
                        wX0_count (fun r_12 : Int32 =>
                          wnX2_rounds (fun (r_13 : Int32) (z_2 : (Nat → Int64) × (Nat → Int64) × Int64 × Int32) =>
                            ∀ x_2 : Int64, x_2 = ((((i1 * (31 : Int64)) + (r_11.toInt64)) * (31 : Int64)) + (r_13.toInt64)) →
                            wnX2_wit (fun r_14 : UInt64 =>
                              vf_n64 (FP.dmul (4634204016564240384 : UInt64) r_14) ∧
                              ∀ x_3 : Int64, x_3 = ((x_2 * (31 : Int64)) + (FP.d2l (FP.dmul (4634204016564240384 : UInt64) r_14))) →
                              wX2_isSound (fun r_15 : Int32 =>
                                ((r_15 = 0) →
                                  post ((x_3 * (31 : Int64)) + (0 : Int64)) (z_2.1, z_2.2.1, z_2.2.2.1, z_2.2.2.2, z_1.2.2.2.2.1, z_1.2.2.2.2.2.1, z_1.2.2.2.2.2.2.1, z_1.2.2.2.2.2.2.2)
                                ) ∧ (¬ (r_15 = 0) →
                                  post ((x_3 * (31 : Int64)) + (1 : Int64)) (z_2.1, z_2.2.1, z_2.2.2.1, z_2.2.2.2, z_1.2.2.2.2.1, z_1.2.2.2.2.2.1, z_1.2.2.2.2.2.2.1, z_1.2.2.2.2.2.2.2)
                                )
                                ) dk wg op re kf ff sf bn
                              ) dk wg op re bn (0 : Int32)
                            ) dk wg op re z_1.1 z_1.2.1 z_1.2.2.1 z_1.2.2.2.1 kf ff sf pf bn (63 : Int32) (r_12 - (1 : Int32))
                          ) bn
                        ) dk wg op re uk uw uo ur vk vw vo vr kf ff sf pf gf bn (0 : Int32) (r_10 - (1 : Int32))
                      ) bn
                  )
                  ) bn
              )
              dk wg op re kf ff sf df bn nF i1 (0 : Int32)
          )
          dk wg op re bn nF ((i1 * (31 : Int64)) + r_2) (0 : Int32)
        ) op
    )
    tA wP nT aK lK sW rF dk wg op re bn nF (6121 : Int64) (0 : Int32)
abbrev wl_X2_digest : List Cond := .code yX2_digest cX2_digest 5 (some .long) :: lwg
abbrev rm_X2_digest : Room := { frames := 7, cells := 0, slots := 0, locals := 180 }
set_option maxHeartbeats 4000000 in
set_option maxRecDepth 100000 in
theorem kX2_digest {post : Int64 → (Nat → Int64) × (Nat → Int64) × Int64 × Int32 × (Nat → Int64) × (Nat → Int64) × Int64 × Int32 → Prop} (l : Launch) (G : GT) (x0 : Nat) (s0 : Nat) (s1 : Nat) (s2 : Nat) (u0 : Nat) (u1 : Nat) (u2 : Nat) (v0 : Nat) (v1 : Nat) (v2 : Nat) (b0 : Nat) (b1 : Nat) (b2 : Nat) (b3 : Nat) (b4 : Nat) (b5 : Nat) (b6 : Nat) (tA : Int32) (wP : Int32) (nT : Int32) (aK : Int32) (lK : Int32) (sW : Int32) (rF : Int32) (dk : Nat → Int64) (wg : Nat → Int64) (op : Int64) (re : Int32) (uk : Nat → Int64) (uw : Nat → Int64) (uo : Int64) (ur : Int32) (vk : Nat → Int64) (vw : Nat → Int64) (vo : Int64) (vr : Int32) (kf : Nat → Int32) (ff : Nat → Int32) (sf : Nat → Int32) (df : Nat → Int32) (pf : Nat → Int64) (gf : Nat → Int64) (bn : Int32) (sz : Nat) (h : wX2_digest post tA wP nT aK lK sW rF dk wg op re uk uw uo ur vk vw vo vr kf ff sf df pf gf bn) : Met l yX2_digest wl_X2_digest rm_X2_digest (va_Pc [.ref x0] (fun U => U.heap.size = sz ∧ PP G [(x0, .inr (5, [.ref b0, .ref s0, .ref u0, .ref v0, .int tA, .int wP, .int nT, .int aK, .int lK, .int sW, .int rF])), (s0, .inr (4, [.ref b0, .ref s1, .ref s2, .long op, .int re])), (s1, .inl (G.2 1, 384, .inr (.inl dk))), (s2, .inl (G.2 1, 40, .inr (.inl wg))), (u0, .inr (4, [.ref b0, .ref u1, .ref u2, .long uo, .int ur])), (u1, .inl (G.2 1, 384, .inr (.inl uk))), (u2, .inl (G.2 1, 40, .inr (.inl uw))), (v0, .inr (4, [.ref b0, .ref v1, .ref v2, .long vo, .int vr])), (v1, .inl (G.2 1, 384, .inr (.inl vk))), (v2, .inl (G.2 1, 40, .inr (.inl vw))), (b0, .inr (3, [.ref b1, .ref b2, .ref b3, .ref b4, .ref b5, .ref b6, .int bn])), (b1, .inl (G.2 0, 40, .inl kf)), (b2, .inl (G.2 0, 40, .inl ff)), (b3, .inl (G.2 0, 40, .inl sf)), (b4, .inl (G.2 0, 40, .inl df)), (b5, .inl (G.2 1, 40, .inr (.inl pf))), (b6, .inl (G.2 1, 6, .inr (.inl gf)))] U.heap ∧ KK G U ∧ va_D (fun _ => True) [(x0, .inr (5, [.ref b0, .ref s0, .ref u0, .ref v0, .int tA, .int wP, .int nT, .int aK, .int lK, .int sW, .int rF])), (s0, .inr (4, [.ref b0, .ref s1, .ref s2, .long op, .int re])), (s1, .inl (G.2 1, 384, .inr (.inl dk))), (s2, .inl (G.2 1, 40, .inr (.inl wg))), (u0, .inr (4, [.ref b0, .ref u1, .ref u2, .long uo, .int ur])), (u1, .inl (G.2 1, 384, .inr (.inl uk))), (u2, .inl (G.2 1, 40, .inr (.inl uw))), (v0, .inr (4, [.ref b0, .ref v1, .ref v2, .long vo, .int vr])), (v1, .inl (G.2 1, 384, .inr (.inl vk))), (v2, .inl (G.2 1, 40, .inr (.inl vw))), (b0, .inr (3, [.ref b1, .ref b2, .ref b3, .ref b4, .ref b5, .ref b6, .int bn])), (b1, .inl (G.2 0, 40, .inl kf)), (b2, .inl (G.2 0, 40, .inl ff)), (b3, .inl (G.2 0, 40, .inl sf)), (b4, .inl (G.2 0, 40, .inl df)), (b5, .inl (G.2 1, 40, .inr (.inl pf))), (b6, .inl (G.2 1, 6, .inr (.inl gf)))] ∧ ZZ (va_A [(x0, .inr (5, [.ref b0, .ref s0, .ref u0, .ref v0, .int tA, .int wP, .int nT, .int aK, .int lK, .int sW, .int rF])), (s0, .inr (4, [.ref b0, .ref s1, .ref s2, .long op, .int re])), (s1, .inl (G.2 1, 384, .inr (.inl dk))), (s2, .inl (G.2 1, 40, .inr (.inl wg))), (u0, .inr (4, [.ref b0, .ref u1, .ref u2, .long uo, .int ur])), (u1, .inl (G.2 1, 384, .inr (.inl uk))), (u2, .inl (G.2 1, 40, .inr (.inl uw))), (v0, .inr (4, [.ref b0, .ref v1, .ref v2, .long vo, .int vr])), (v1, .inl (G.2 1, 384, .inr (.inl vk))), (v2, .inl (G.2 1, 40, .inr (.inl vw))), (b0, .inr (3, [.ref b1, .ref b2, .ref b3, .ref b4, .ref b5, .ref b6, .int bn])), (b1, .inl (G.2 0, 40, .inl kf)), (b2, .inl (G.2 0, 40, .inl ff)), (b3, .inl (G.2 0, 40, .inl sf)), (b4, .inl (G.2 0, 40, .inl df)), (b5, .inl (G.2 1, 40, .inr (.inl pf))), (b6, .inl (G.2 1, 6, .inr (.inl gf)))] sz) U U.heap)) (va_Ql post (fun u t => PP G [(x0, .inr (5, [.ref b0, .ref s0, .ref u0, .ref v0, .int tA, .int wP, .int nT, .int aK, .int lK, .int sW, .int rF])), (s0, .inr (4, [.ref b0, .ref s1, .ref s2, .long op, .int re])), (s1, .inl (G.2 1, 384, .inr (.inl dk))), (s2, .inl (G.2 1, 40, .inr (.inl wg))), (u0, .inr (4, [.ref b0, .ref u1, .ref u2, .long (u.2.2.1), .int (u.2.2.2.1)])), (u1, .inl (G.2 1, 384, .inr (.inl (u.1)))), (u2, .inl (G.2 1, 40, .inr (.inl (u.2.1)))), (v0, .inr (4, [.ref b0, .ref v1, .ref v2, .long (u.2.2.2.2.2.2.1), .int (u.2.2.2.2.2.2.2)])), (v1, .inl (G.2 1, 384, .inr (.inl (u.2.2.2.2.1)))), (v2, .inl (G.2 1, 40, .inr (.inl (u.2.2.2.2.2.1)))), (b0, .inr (3, [.ref b1, .ref b2, .ref b3, .ref b4, .ref b5, .ref b6, .int bn])), (b1, .inl (G.2 0, 40, .inl kf)), (b2, .inl (G.2 0, 40, .inl ff)), (b3, .inl (G.2 0, 40, .inl sf)), (b4, .inl (G.2 0, 40, .inl df)), (b5, .inl (G.2 1, 40, .inr (.inl pf))), (b6, .inl (G.2 1, 6, .inr (.inl gf)))] t.heap ∧ va_D (va_A [(x0, .inr (5, [.ref b0, .ref s0, .ref u0, .ref v0, .int tA, .int wP, .int nT, .int aK, .int lK, .int sW, .int rF])), (s0, .inr (4, [.ref b0, .ref s1, .ref s2, .long op, .int re])), (s1, .inl (G.2 1, 384, .inr (.inl dk))), (s2, .inl (G.2 1, 40, .inr (.inl wg))), (u0, .inr (4, [.ref b0, .ref u1, .ref u2, .long uo, .int ur])), (u1, .inl (G.2 1, 384, .inr (.inl uk))), (u2, .inl (G.2 1, 40, .inr (.inl uw))), (v0, .inr (4, [.ref b0, .ref v1, .ref v2, .long vo, .int vr])), (v1, .inl (G.2 1, 384, .inr (.inl vk))), (v2, .inl (G.2 1, 40, .inr (.inl vw))), (b0, .inr (3, [.ref b1, .ref b2, .ref b3, .ref b4, .ref b5, .ref b6, .int bn])), (b1, .inl (G.2 0, 40, .inl kf)), (b2, .inl (G.2 0, 40, .inl ff)), (b3, .inl (G.2 0, 40, .inl sf)), (b4, .inl (G.2 0, 40, .inl df)), (b5, .inl (G.2 1, 40, .inr (.inl pf))), (b6, .inl (G.2 1, 6, .inr (.inl gf)))] sz) [(x0, .inr (5, [.ref b0, .ref s0, .ref u0, .ref v0, .int tA, .int wP, .int nT, .int aK, .int lK, .int sW, .int rF])), (s0, .inr (4, [.ref b0, .ref s1, .ref s2, .long op, .int re])), (s1, .inl (G.2 1, 384, .inr (.inl dk))), (s2, .inl (G.2 1, 40, .inr (.inl wg))), (u0, .inr (4, [.ref b0, .ref u1, .ref u2, .long (u.2.2.1), .int (u.2.2.2.1)])), (u1, .inl (G.2 1, 384, .inr (.inl (u.1)))), (u2, .inl (G.2 1, 40, .inr (.inl (u.2.1)))), (v0, .inr (4, [.ref b0, .ref v1, .ref v2, .long (u.2.2.2.2.2.2.1), .int (u.2.2.2.2.2.2.2)])), (v1, .inl (G.2 1, 384, .inr (.inl (u.2.2.2.2.1)))), (v2, .inl (G.2 1, 40, .inr (.inl (u.2.2.2.2.2.1)))), (b0, .inr (3, [.ref b1, .ref b2, .ref b3, .ref b4, .ref b5, .ref b6, .int bn])), (b1, .inl (G.2 0, 40, .inl kf)), (b2, .inl (G.2 0, 40, .inl ff)), (b3, .inl (G.2 0, 40, .inl sf)), (b4, .inl (G.2 0, 40, .inl df)), (b5, .inl (G.2 1, 40, .inr (.inl pf))), (b6, .inl (G.2 1, 6, .inr (.inl gf)))]) (va_A [(x0, .inr (5, [.ref b0, .ref s0, .ref u0, .ref v0, .int tA, .int wP, .int nT, .int aK, .int lK, .int sW, .int rF])), (s0, .inr (4, [.ref b0, .ref s1, .ref s2, .long op, .int re])), (s1, .inl (G.2 1, 384, .inr (.inl dk))), (s2, .inl (G.2 1, 40, .inr (.inl wg))), (u0, .inr (4, [.ref b0, .ref u1, .ref u2, .long uo, .int ur])), (u1, .inl (G.2 1, 384, .inr (.inl uk))), (u2, .inl (G.2 1, 40, .inr (.inl uw))), (v0, .inr (4, [.ref b0, .ref v1, .ref v2, .long vo, .int vr])), (v1, .inl (G.2 1, 384, .inr (.inl vk))), (v2, .inl (G.2 1, 40, .inr (.inl vw))), (b0, .inr (3, [.ref b1, .ref b2, .ref b3, .ref b4, .ref b5, .ref b6, .int bn])), (b1, .inl (G.2 0, 40, .inl kf)), (b2, .inl (G.2 0, 40, .inl ff)), (b3, .inl (G.2 0, 40, .inl sf)), (b4, .inl (G.2 0, 40, .inl df)), (b5, .inl (G.2 1, 40, .inr (.inl pf))), (b6, .inl (G.2 1, 6, .inr (.inl gf)))] sz)) 0 0 (va_A [(x0, .inr (5, [.ref b0, .ref s0, .ref u0, .ref v0, .int tA, .int wP, .int nT, .int aK, .int lK, .int sW, .int rF])), (s0, .inr (4, [.ref b0, .ref s1, .ref s2, .long op, .int re])), (s1, .inl (G.2 1, 384, .inr (.inl dk))), (s2, .inl (G.2 1, 40, .inr (.inl wg))), (u0, .inr (4, [.ref b0, .ref u1, .ref u2, .long uo, .int ur])), (u1, .inl (G.2 1, 384, .inr (.inl uk))), (u2, .inl (G.2 1, 40, .inr (.inl uw))), (v0, .inr (4, [.ref b0, .ref v1, .ref v2, .long vo, .int vr])), (v1, .inl (G.2 1, 384, .inr (.inl vk))), (v2, .inl (G.2 1, 40, .inr (.inl vw))), (b0, .inr (3, [.ref b1, .ref b2, .ref b3, .ref b4, .ref b5, .ref b6, .int bn])), (b1, .inl (G.2 0, 40, .inl kf)), (b2, .inl (G.2 0, 40, .inl ff)), (b3, .inl (G.2 0, 40, .inl sf)), (b4, .inl (G.2 0, 40, .inl df)), (b5, .inl (G.2 1, 40, .inr (.inl pf))), (b6, .inl (G.2 1, 6, .inr (.inl gf)))] sz) := by
  refine Met.ofW (cc := cX2_digest) (maxL := 5) (ret := (some .long)) (by decide) rfl ?_
  intro p e s m args below meth c s₁ B hml hv
  obtain ⟨rfl, hsz, hP, hKK, hD0, hZ⟩ := hv
  obtain ⟨hK, hN, hR, hFW, hNC⟩ := id hKK
  have hx := B.exec
  have hb := B.bytes
  have hr := B.returns
  have hts0 := atoms_spec (ws := wl_X2_digest) B.pre
  have hts : ∀ w ∈ lwg, w.before ([.ref x0] : List Value).toArray s = true := fun w hw => hts0 w (List.mem_cons_of_mem _ hw)
  have hown : s.vm.findClass RX2 = some m.cls := findClass_of_methodNamed B.named
  have hlocks := B.notSynchronized
  subst hsz
  have hD := hD0.self (sz := s.heap.size)
  generalize hAe : va_A [(x0, .inr (5, [.ref b0, .ref s0, .ref u0, .ref v0, .int tA, .int wP, .int nT, .int aK, .int lK, .int sW, .int rF])), (s0, .inr (4, [.ref b0, .ref s1, .ref s2, .long op, .int re])), (s1, .inl (G.2 1, 384, .inr (.inl dk))), (s2, .inl (G.2 1, 40, .inr (.inl wg))), (u0, .inr (4, [.ref b0, .ref u1, .ref u2, .long uo, .int ur])), (u1, .inl (G.2 1, 384, .inr (.inl uk))), (u2, .inl (G.2 1, 40, .inr (.inl uw))), (v0, .inr (4, [.ref b0, .ref v1, .ref v2, .long vo, .int vr])), (v1, .inl (G.2 1, 384, .inr (.inl vk))), (v2, .inl (G.2 1, 40, .inr (.inl vw))), (b0, .inr (3, [.ref b1, .ref b2, .ref b3, .ref b4, .ref b5, .ref b6, .int bn])), (b1, .inl (G.2 0, 40, .inl kf)), (b2, .inl (G.2 0, 40, .inl ff)), (b3, .inl (G.2 0, 40, .inl sf)), (b4, .inl (G.2 0, 40, .inl df)), (b5, .inl (G.2 1, 40, .inr (.inl pf))), (b6, .inl (G.2 1, 6, .inr (.inl gf)))] s.heap.size = A at hD hZ ⊢
  have hA : ∀ q : Nat, s.heap.size ≤ q → A q := fun q h => by rw [← hAe]; exact Or.inr h
  have hS : va_S A s.heap s.heap [] := va_S.rf
  obtain ⟨QC, hQC⟩ : ∃ Z, Z = (va_Ql post (fun u t => PP G [(x0, .inr (5, [.ref b0, .ref s0, .ref u0, .ref v0, .int tA, .int wP, .int nT, .int aK, .int lK, .int sW, .int rF])), (s0, .inr (4, [.ref b0, .ref s1, .ref s2, .long op, .int re])), (s1, .inl (G.2 1, 384, .inr (.inl dk))), (s2, .inl (G.2 1, 40, .inr (.inl wg))), (u0, .inr (4, [.ref b0, .ref u1, .ref u2, .long (u.2.2.1), .int (u.2.2.2.1)])), (u1, .inl (G.2 1, 384, .inr (.inl (u.1)))), (u2, .inl (G.2 1, 40, .inr (.inl (u.2.1)))), (v0, .inr (4, [.ref b0, .ref v1, .ref v2, .long (u.2.2.2.2.2.2.1), .int (u.2.2.2.2.2.2.2)])), (v1, .inl (G.2 1, 384, .inr (.inl (u.2.2.2.2.1)))), (v2, .inl (G.2 1, 40, .inr (.inl (u.2.2.2.2.2.1)))), (b0, .inr (3, [.ref b1, .ref b2, .ref b3, .ref b4, .ref b5, .ref b6, .int bn])), (b1, .inl (G.2 0, 40, .inl kf)), (b2, .inl (G.2 0, 40, .inl ff)), (b3, .inl (G.2 0, 40, .inl sf)), (b4, .inl (G.2 0, 40, .inl df)), (b5, .inl (G.2 1, 40, .inr (.inl pf))), (b6, .inl (G.2 1, 6, .inr (.inl gf)))] t.heap ∧ va_D A [(x0, .inr (5, [.ref b0, .ref s0, .ref u0, .ref v0, .int tA, .int wP, .int nT, .int aK, .int lK, .int sW, .int rF])), (s0, .inr (4, [.ref b0, .ref s1, .ref s2, .long op, .int re])), (s1, .inl (G.2 1, 384, .inr (.inl dk))), (s2, .inl (G.2 1, 40, .inr (.inl wg))), (u0, .inr (4, [.ref b0, .ref u1, .ref u2, .long (u.2.2.1), .int (u.2.2.2.1)])), (u1, .inl (G.2 1, 384, .inr (.inl (u.1)))), (u2, .inl (G.2 1, 40, .inr (.inl (u.2.1)))), (v0, .inr (4, [.ref b0, .ref v1, .ref v2, .long (u.2.2.2.2.2.2.1), .int (u.2.2.2.2.2.2.2)])), (v1, .inl (G.2 1, 384, .inr (.inl (u.2.2.2.2.1)))), (v2, .inl (G.2 1, 40, .inr (.inl (u.2.2.2.2.2.1)))), (b0, .inr (3, [.ref b1, .ref b2, .ref b3, .ref b4, .ref b5, .ref b6, .int bn])), (b1, .inl (G.2 0, 40, .inl kf)), (b2, .inl (G.2 0, 40, .inl ff)), (b3, .inl (G.2 0, 40, .inl sf)), (b4, .inl (G.2 0, 40, .inl df)), (b5, .inl (G.2 1, 40, .inr (.inl pf))), (b6, .inl (G.2 1, 6, .inr (.inl gf)))]) A) := ⟨_, rfl⟩
  rw [← hQC]
  obtain ⟨⟨zt, hZ1, hT1⟩, hZ2⟩ := id hZ
  have hP : PP G [(x0, .inr (5, [.ref b0, .ref s0, .ref u0, .ref v0, .int tA, .int wP, .int nT, .int aK, .int lK, .int sW, .int rF])), (s0, .inr (4, [.ref b0, .ref s1, .ref s2, .long op, .int re])), (s1, .inl (G.2 1, 384, .inr (.inl dk))), (s2, .inl (G.2 1, 40, .inr (.inl wg))), (u0, .inr (4, [.ref b0, .ref u1, .ref u2, .long uo, .int ur])), (u1, .inl (G.2 1, 384, .inr (.inl uk))), (u2, .inl (G.2 1, 40, .inr (.inl uw))), (v0, .inr (4, [.ref b0, .ref v1, .ref v2, .long vo, .int vr])), (v1, .inl (G.2 1, 384, .inr (.inl vk))), (v2, .inl (G.2 1, 40, .inr (.inl vw))), (b0, .inr (3, [.ref b1, .ref b2, .ref b3, .ref b4, .ref b5, .ref b6, .int bn])), (b1, .inl (G.2 0, 40, .inl kf)), (b2, .inl (G.2 0, 40, .inl ff)), (b3, .inl (G.2 0, 40, .inl sf)), (b4, .inl (G.2 0, 40, .inl df)), (b5, .inl (G.2 1, 40, .inr (.inl pf))), (b6, .inl (G.2 1, 6, .inr (.inl gf)))] s.heap := hP
  have hl := lv_entry ([.ref x0]) (n := 5) (Nat.le_of_ble_eq_true rfl)
  rw [lg_entry_eq]
  generalize (lg_sl ([.ref x0]) ++ List.replicate (5 - (lg_sl ([.ref x0])).length) Slot.unset).toArray = ls at hl ⊢
  have hl : lv_has ls 5 [(0, .ref x0)] := hl
  have loop6 : ∀ (K31 : Int64 → Int32 → Prop), True → (∀ (i1 : Int64) (i3 : Int32) (ls : Array Slot) (H : Heap) (locs : List Loc), lv_has ls 5 [(0, .ref x0), (1, .long i1), (3, .int i3)] → PP G [(x0, .inr (5, [.ref b0, .ref s0, .ref u0, .ref v0, .int tA, .int wP, .int nT, .int aK, .int lK, .int sW, .int rF])), (s0, .inr (4, [.ref b0, .ref s1, .ref s2, .long op, .int re])), (s1, .inl (G.2 1, 384, .inr (.inl dk))), (s2, .inl (G.2 1, 40, .inr (.inl wg))), (u0, .inr (4, [.ref b0, .ref u1, .ref u2, .long uo, .int ur])), (u1, .inl (G.2 1, 384, .inr (.inl uk))), (u2, .inl (G.2 1, 40, .inr (.inl uw))), (v0, .inr (4, [.ref b0, .ref v1, .ref v2, .long vo, .int vr])), (v1, .inl (G.2 1, 384, .inr (.inl vk))), (v2, .inl (G.2 1, 40, .inr (.inl vw))), (b0, .inr (3, [.ref b1, .ref b2, .ref b3, .ref b4, .ref b5, .ref b6, .int bn])), (b1, .inl (G.2 0, 40, .inl kf)), (b2, .inl (G.2 0, 40, .inl ff)), (b3, .inl (G.2 0, 40, .inl sf)), (b4, .inl (G.2 0, 40, .inl df)), (b5, .inl (G.2 1, 40, .inr (.inl pf))), (b6, .inl (G.2 1, 6, .inr (.inl gf)))] H → va_D A [(x0, .inr (5, [.ref b0, .ref s0, .ref u0, .ref v0, .int tA, .int wP, .int nT, .int aK, .int lK, .int sW, .int rF])), (s0, .inr (4, [.ref b0, .ref s1, .ref s2, .long op, .int re])), (s1, .inl (G.2 1, 384, .inr (.inl dk))), (s2, .inl (G.2 1, 40, .inr (.inl wg))), (u0, .inr (4, [.ref b0, .ref u1, .ref u2, .long uo, .int ur])), (u1, .inl (G.2 1, 384, .inr (.inl uk))), (u2, .inl (G.2 1, 40, .inr (.inl uw))), (v0, .inr (4, [.ref b0, .ref v1, .ref v2, .long vo, .int vr])), (v1, .inl (G.2 1, 384, .inr (.inl vk))), (v2, .inl (G.2 1, 40, .inr (.inl vw))), (b0, .inr (3, [.ref b1, .ref b2, .ref b3, .ref b4, .ref b5, .ref b6, .int bn])), (b1, .inl (G.2 0, 40, .inl kf)), (b2, .inl (G.2 0, 40, .inl ff)), (b3, .inl (G.2 0, 40, .inl sf)), (b4, .inl (G.2 0, 40, .inl df)), (b5, .inl (G.2 1, 40, .inr (.inl pf))), (b6, .inl (G.2 1, 6, .inr (.inl gf)))] → va_S A s.heap H locs → K31 i1 i3 → W p l e (headSpec (wl_X2_digest) rm_X2_digest).room s m ([.ref x0] : List Value).toArray below meth c H locs 0 0 (MQ below QC ([.ref x0] : List Value).toArray s 0 0 A) (F0 m 31 ls [])) → ∀ (n : Nat) (i1 : Int64) (i3 : Int32) (ls : Array Slot) (H : Heap) (locs : List Loc), lv_has ls 5 [(0, .ref x0), (1, .long i1), (3, .int i3)] → PP G [(x0, .inr (5, [.ref b0, .ref s0, .ref u0, .ref v0, .int tA, .int wP, .int nT, .int aK, .int lK, .int sW, .int rF])), (s0, .inr (4, [.ref b0, .ref s1, .ref s2, .long op, .int re])), (s1, .inl (G.2 1, 384, .inr (.inl dk))), (s2, .inl (G.2 1, 40, .inr (.inl wg))), (u0, .inr (4, [.ref b0, .ref u1, .ref u2, .long uo, .int ur])), (u1, .inl (G.2 1, 384, .inr (.inl uk))), (u2, .inl (G.2 1, 40, .inr (.inl uw))), (v0, .inr (4, [.ref b0, .ref v1, .ref v2, .long vo, .int vr])), (v1, .inl (G.2 1, 384, .inr (.inl vk))), (v2, .inl (G.2 1, 40, .inr (.inl vw))), (b0, .inr (3, [.ref b1, .ref b2, .ref b3, .ref b4, .ref b5, .ref b6, .int bn])), (b1, .inl (G.2 0, 40, .inl kf)), (b2, .inl (G.2 0, 40, .inl ff)), (b3, .inl (G.2 0, 40, .inl sf)), (b4, .inl (G.2 0, 40, .inl df)), (b5, .inl (G.2 1, 40, .inr (.inl pf))), (b6, .inl (G.2 1, 6, .inr (.inl gf)))] H → va_D A [(x0, .inr (5, [.ref b0, .ref s0, .ref u0, .ref v0, .int tA, .int wP, .int nT, .int aK, .int lK, .int sW, .int rF])), (s0, .inr (4, [.ref b0, .ref s1, .ref s2, .long op, .int re])), (s1, .inl (G.2 1, 384, .inr (.inl dk))), (s2, .inl (G.2 1, 40, .inr (.inl wg))), (u0, .inr (4, [.ref b0, .ref u1, .ref u2, .long uo, .int ur])), (u1, .inl (G.2 1, 384, .inr (.inl uk))), (u2, .inl (G.2 1, 40, .inr (.inl uw))), (v0, .inr (4, [.ref b0, .ref v1, .ref v2, .long vo, .int vr])), (v1, .inl (G.2 1, 384, .inr (.inl vk))), (v2, .inl (G.2 1, 40, .inr (.inl vw))), (b0, .inr (3, [.ref b1, .ref b2, .ref b3, .ref b4, .ref b5, .ref b6, .int bn])), (b1, .inl (G.2 0, 40, .inl kf)), (b2, .inl (G.2 0, 40, .inl ff)), (b3, .inl (G.2 0, 40, .inl sf)), (b4, .inl (G.2 0, 40, .inl df)), (b5, .inl (G.2 1, 40, .inr (.inl pf))), (b6, .inl (G.2 1, 6, .inr (.inl gf)))] → va_S A s.heap H locs → wX2_digest_L6 post K31 tA wP nT aK lK sW rF dk wg op re bn n i1 i3 → W p l e (headSpec (wl_X2_digest) rm_X2_digest).room s m ([.ref x0] : List Value).toArray below meth c H locs 0 0 (MQ below QC ([.ref x0] : List Value).toArray s 0 0 A) (F0 m 6 ls []) := by
    intro K31 _ hexit31 n
    induction n with
    | zero => intro i1 i3 ls H locs hl hP hD hS h; exact False.elim h
    | succ n ih =>
      intro i1 i3 ls H locs hl hP hD hS h
      refine lv_iload_n hx hb dX2_digest_6 rfl (lv_at hl 2 rfl) ?_
      refine lv_bipush (v := 12) hx hb dX2_digest_7 (by decide) ?_
      refine lv_icmp_gt (tgt := 31) hx hb dX2_digest_9 (by decide) (fun hc => ?_) (fun hc => ?_)
      · have h := h.1 hc
        have hl := lv_sub (l' := [(0, .ref x0), (1, .long i1), (3, .int i3)]) hl [0, 1, 2] rfl
        exact hexit31 _ _ ls H locs hl hP hD hS h
      · have h := h.2 hc
        refine lv_lload_n hx hb dX2_digest_12 rfl (lv_at hl 1 rfl) ?_
        refine lv_ldc2 hx hb hown (hts _ q248) dX2_digest_13 ?_
        refine lv_lmul hx hb dX2_digest_16 ?_
        refine lv_aload_n hx hb dX2_digest_17 rfl (lv_at hl 0 rfl) ?_
        refine lv_iload_n hx hb dX2_digest_18 rfl (lv_at hl 2 rfl) ?_
        have hPc := hP
        refine rdI (va_runV (C := RX2) (As := [.int i3]) (rest := [.long (i1 * (31 : Int64))]) ⟨hx, hb, hml, hown, hts⟩ (knX2_night l G x0 s0 s1 s2 u0 u1 u2 v0 v1 v2 b0 b1 b2 b3 b4 b5 b6 tA wP nT aK lK sW rF dk wg op re uk uw uo ur vk vw vo vr kf ff sf df pf gf bn i3 h) (cwV 1 hts (gdV q249 q250 q251 q1 q252) rfl rfl rfl (by decide +kernel) ⟨Nat.le_of_ble_eq_true rfl, Nat.le_of_ble_eq_true rfl⟩) (preV hPc hKK (va_recv hK hPc (ci := 5) (q0 := 0) rfl rfl)) rfl rfl hl.1 rfl (lv_room (Nat.le_of_ble_eq_true rfl)) dX2_digest_19 ⟨Nat.zero_le _, Nat.zero_le _⟩) (fun r_1 h => ?_)
        refine lv_i2l (v := (r_1.toInt64)) hx hb dX2_digest_22 rfl ?_
        refine lv_ladd hx hb dX2_digest_23 ?_
        refine lv_lstore_n hx hb dX2_digest_24 rfl hl (Nat.le_of_ble_eq_true rfl) rfl (fun ls hl => ?_)
        have hl : lv_has ls 5 [(1, .long ((i1 * (31 : Int64)) + (r_1.toInt64))), (0, .ref x0), (3, .int i3)] := hl
        refine lv_iinc (v := (i3 + 1)) hx hb dX2_digest_25 hl (k := 2) rfl (by rw [show Int32.ofInt 1 = 1 from by decide]) (Nat.le_of_ble_eq_true rfl) rfl (fun ls hl => ?_)
        have hl : lv_has ls 5 [(3, .int (i3 + 1)), (1, .long ((i1 * (31 : Int64)) + (r_1.toInt64))), (0, .ref x0)] := hl
        refine lv_goto (tgt := 6) hx hb dX2_digest_28 (by decide) ?_
        have hl := lv_sub (l' := [(0, .ref x0), (1, .long ((i1 * (31 : Int64)) + (r_1.toInt64))), (3, .int (i3 + 1))]) hl [2, 1, 0] rfl
        exact ih _ _ ls H locs hl hP hD hS h
  have loop53 : ∀ (K80 : Int64 → Int32 → Prop) (i3 : Int32), True → (∀ (i1 : Int64) (i4 : Int32) (ls : Array Slot) (H : Heap) (locs : List Loc), lv_has ls 5 [(0, .ref x0), (1, .long i1), (3, .int i3), (4, .int i4)] → PP G [(x0, .inr (5, [.ref b0, .ref s0, .ref u0, .ref v0, .int tA, .int wP, .int nT, .int aK, .int lK, .int sW, .int rF])), (s0, .inr (4, [.ref b0, .ref s1, .ref s2, .long op, .int re])), (s1, .inl (G.2 1, 384, .inr (.inl dk))), (s2, .inl (G.2 1, 40, .inr (.inl wg))), (u0, .inr (4, [.ref b0, .ref u1, .ref u2, .long uo, .int ur])), (u1, .inl (G.2 1, 384, .inr (.inl uk))), (u2, .inl (G.2 1, 40, .inr (.inl uw))), (v0, .inr (4, [.ref b0, .ref v1, .ref v2, .long vo, .int vr])), (v1, .inl (G.2 1, 384, .inr (.inl vk))), (v2, .inl (G.2 1, 40, .inr (.inl vw))), (b0, .inr (3, [.ref b1, .ref b2, .ref b3, .ref b4, .ref b5, .ref b6, .int bn])), (b1, .inl (G.2 0, 40, .inl kf)), (b2, .inl (G.2 0, 40, .inl ff)), (b3, .inl (G.2 0, 40, .inl sf)), (b4, .inl (G.2 0, 40, .inl df)), (b5, .inl (G.2 1, 40, .inr (.inl pf))), (b6, .inl (G.2 1, 6, .inr (.inl gf)))] H → va_D A [(x0, .inr (5, [.ref b0, .ref s0, .ref u0, .ref v0, .int tA, .int wP, .int nT, .int aK, .int lK, .int sW, .int rF])), (s0, .inr (4, [.ref b0, .ref s1, .ref s2, .long op, .int re])), (s1, .inl (G.2 1, 384, .inr (.inl dk))), (s2, .inl (G.2 1, 40, .inr (.inl wg))), (u0, .inr (4, [.ref b0, .ref u1, .ref u2, .long uo, .int ur])), (u1, .inl (G.2 1, 384, .inr (.inl uk))), (u2, .inl (G.2 1, 40, .inr (.inl uw))), (v0, .inr (4, [.ref b0, .ref v1, .ref v2, .long vo, .int vr])), (v1, .inl (G.2 1, 384, .inr (.inl vk))), (v2, .inl (G.2 1, 40, .inr (.inl vw))), (b0, .inr (3, [.ref b1, .ref b2, .ref b3, .ref b4, .ref b5, .ref b6, .int bn])), (b1, .inl (G.2 0, 40, .inl kf)), (b2, .inl (G.2 0, 40, .inl ff)), (b3, .inl (G.2 0, 40, .inl sf)), (b4, .inl (G.2 0, 40, .inl df)), (b5, .inl (G.2 1, 40, .inr (.inl pf))), (b6, .inl (G.2 1, 6, .inr (.inl gf)))] → va_S A s.heap H locs → K80 i1 i4 → W p l e (headSpec (wl_X2_digest) rm_X2_digest).room s m ([.ref x0] : List Value).toArray below meth c H locs 0 0 (MQ below QC ([.ref x0] : List Value).toArray s 0 0 A) (F0 m 80 ls [])) → ∀ (n : Nat) (i1 : Int64) (i4 : Int32) (ls : Array Slot) (H : Heap) (locs : List Loc), lv_has ls 5 [(0, .ref x0), (1, .long i1), (3, .int i3), (4, .int i4)] → PP G [(x0, .inr (5, [.ref b0, .ref s0, .ref u0, .ref v0, .int tA, .int wP, .int nT, .int aK, .int lK, .int sW, .int rF])), (s0, .inr (4, [.ref b0, .ref s1, .ref s2, .long op, .int re])), (s1, .inl (G.2 1, 384, .inr (.inl dk))), (s2, .inl (G.2 1, 40, .inr (.inl wg))), (u0, .inr (4, [.ref b0, .ref u1, .ref u2, .long uo, .int ur])), (u1, .inl (G.2 1, 384, .inr (.inl uk))), (u2, .inl (G.2 1, 40, .inr (.inl uw))), (v0, .inr (4, [.ref b0, .ref v1, .ref v2, .long vo, .int vr])), (v1, .inl (G.2 1, 384, .inr (.inl vk))), (v2, .inl (G.2 1, 40, .inr (.inl vw))), (b0, .inr (3, [.ref b1, .ref b2, .ref b3, .ref b4, .ref b5, .ref b6, .int bn])), (b1, .inl (G.2 0, 40, .inl kf)), (b2, .inl (G.2 0, 40, .inl ff)), (b3, .inl (G.2 0, 40, .inl sf)), (b4, .inl (G.2 0, 40, .inl df)), (b5, .inl (G.2 1, 40, .inr (.inl pf))), (b6, .inl (G.2 1, 6, .inr (.inl gf)))] H → va_D A [(x0, .inr (5, [.ref b0, .ref s0, .ref u0, .ref v0, .int tA, .int wP, .int nT, .int aK, .int lK, .int sW, .int rF])), (s0, .inr (4, [.ref b0, .ref s1, .ref s2, .long op, .int re])), (s1, .inl (G.2 1, 384, .inr (.inl dk))), (s2, .inl (G.2 1, 40, .inr (.inl wg))), (u0, .inr (4, [.ref b0, .ref u1, .ref u2, .long uo, .int ur])), (u1, .inl (G.2 1, 384, .inr (.inl uk))), (u2, .inl (G.2 1, 40, .inr (.inl uw))), (v0, .inr (4, [.ref b0, .ref v1, .ref v2, .long vo, .int vr])), (v1, .inl (G.2 1, 384, .inr (.inl vk))), (v2, .inl (G.2 1, 40, .inr (.inl vw))), (b0, .inr (3, [.ref b1, .ref b2, .ref b3, .ref b4, .ref b5, .ref b6, .int bn])), (b1, .inl (G.2 0, 40, .inl kf)), (b2, .inl (G.2 0, 40, .inl ff)), (b3, .inl (G.2 0, 40, .inl sf)), (b4, .inl (G.2 0, 40, .inl df)), (b5, .inl (G.2 1, 40, .inr (.inl pf))), (b6, .inl (G.2 1, 6, .inr (.inl gf)))] → va_S A s.heap H locs → wX2_digest_L53 post K80 dk wg op re bn i3 n i1 i4 → W p l e (headSpec (wl_X2_digest) rm_X2_digest).room s m ([.ref x0] : List Value).toArray below meth c H locs 0 0 (MQ below QC ([.ref x0] : List Value).toArray s 0 0 A) (F0 m 53 ls []) := by
    intro K80 i3 _ hexit80 n
    induction n with
    | zero => intro i1 i4 ls H locs hl hP hD hS h; exact False.elim h
    | succ n ih =>
      intro i1 i4 ls H locs hl hP hD hS h
      refine lv_iload hx hb dX2_digest_53 (lv_at hl 3 rfl) ?_
      refine lv_iconst (v := 4) hx hb dX2_digest_55 (by decide) ?_
      refine lv_icmp_gt (tgt := 80) hx hb dX2_digest_56 (by decide) (fun hc => ?_) (fun hc => ?_)
      · have h := h.1 hc
        have hl := lv_sub (l' := [(0, .ref x0), (1, .long i1), (3, .int i3), (4, .int i4)]) hl [0, 1, 2, 3] rfl
        exact hexit80 _ _ ls H locs hl hP hD hS h
      · have h := h.2 hc
        refine lv_lload_n hx hb dX2_digest_59 rfl (lv_at hl 1 rfl) ?_
        refine lv_ldc2 hx hb hown (hts _ q248) dX2_digest_60 ?_
        refine lv_lmul hx hb dX2_digest_63 ?_
        refine lv_aload_n hx hb dX2_digest_64 rfl (lv_at hl 0 rfl) ?_
        refine lv_iload_n hx hb dX2_digest_65 rfl (lv_at hl 2 rfl) ?_
        refine lv_iload hx hb dX2_digest_66 (lv_at hl 3 rfl) ?_
        have hPc := hP
        have hZc : ZZ (fun _ => False) s _ := (hZ.kept hS.2.1).narrow (fun _ h => False.elim h)
        refine rdI (va_runV (C := RX2) (As := [.int i3, .int i4]) (rest := [.long (i1 * (31 : Int64))]) ⟨hx, hb, hml, hown, hts⟩ (knX2_ofGuard l G x0 s0 s1 s2 u0 u1 u2 v0 v1 v2 b0 b1 b2 b3 b4 b5 b6 tA wP nT aK lK sW rF dk wg op re uk uw uo ur vk vw vo vr kf ff sf df pf gf bn i3 i4 h) (cwV 2 hts (gdV q342 q343 q344 q1 q345) rfl rfl rfl (by decide +kernel) ⟨Nat.le_of_ble_eq_true rfl, Nat.le_of_ble_eq_true rfl⟩) (preVz hPc hKK hZc (va_recv hK hPc (ci := 5) (q0 := 0) rfl rfl)) rfl rfl hl.1 rfl (lv_room (Nat.le_of_ble_eq_true rfl)) dX2_digest_68 ⟨Nat.zero_le _, Nat.zero_le _⟩) (fun r_3 h => ?_)
        refine lv_i2l (v := (r_3.toInt64)) hx hb dX2_digest_71 rfl ?_
        refine lv_ladd hx hb dX2_digest_72 ?_
        refine lv_lstore_n hx hb dX2_digest_73 rfl hl (Nat.le_of_ble_eq_true rfl) rfl (fun ls hl => ?_)
        have hl : lv_has ls 5 [(1, .long ((i1 * (31 : Int64)) + (r_3.toInt64))), (0, .ref x0), (3, .int i3), (4, .int i4)] := hl
        refine lv_iinc (v := (i4 + 1)) hx hb dX2_digest_74 hl (k := 3) rfl (by rw [show Int32.ofInt 1 = 1 from by decide]) (Nat.le_of_ble_eq_true rfl) rfl (fun ls hl => ?_)
        have hl : lv_has ls 5 [(4, .int (i4 + 1)), (1, .long ((i1 * (31 : Int64)) + (r_3.toInt64))), (0, .ref x0), (3, .int i3)] := hl
        refine lv_goto (tgt := 53) hx hb dX2_digest_77 (by decide) ?_
        have hl := lv_sub (l' := [(0, .ref x0), (1, .long ((i1 * (31 : Int64)) + (r_3.toInt64))), (3, .int i3), (4, .int (i4 + 1))]) hl [2, 1, 3, 0] rfl
        exact ih _ _ ls H locs hl hP hD hS h
  have loop44 : ∀ (K105 : Int64 → Int32 → Prop), True → (∀ (i1 : Int64) (i3 : Int32) (ls : Array Slot) (H : Heap) (locs : List Loc), lv_has ls 5 [(0, .ref x0), (1, .long i1), (3, .int i3)] → PP G [(x0, .inr (5, [.ref b0, .ref s0, .ref u0, .ref v0, .int tA, .int wP, .int nT, .int aK, .int lK, .int sW, .int rF])), (s0, .inr (4, [.ref b0, .ref s1, .ref s2, .long op, .int re])), (s1, .inl (G.2 1, 384, .inr (.inl dk))), (s2, .inl (G.2 1, 40, .inr (.inl wg))), (u0, .inr (4, [.ref b0, .ref u1, .ref u2, .long uo, .int ur])), (u1, .inl (G.2 1, 384, .inr (.inl uk))), (u2, .inl (G.2 1, 40, .inr (.inl uw))), (v0, .inr (4, [.ref b0, .ref v1, .ref v2, .long vo, .int vr])), (v1, .inl (G.2 1, 384, .inr (.inl vk))), (v2, .inl (G.2 1, 40, .inr (.inl vw))), (b0, .inr (3, [.ref b1, .ref b2, .ref b3, .ref b4, .ref b5, .ref b6, .int bn])), (b1, .inl (G.2 0, 40, .inl kf)), (b2, .inl (G.2 0, 40, .inl ff)), (b3, .inl (G.2 0, 40, .inl sf)), (b4, .inl (G.2 0, 40, .inl df)), (b5, .inl (G.2 1, 40, .inr (.inl pf))), (b6, .inl (G.2 1, 6, .inr (.inl gf)))] H → va_D A [(x0, .inr (5, [.ref b0, .ref s0, .ref u0, .ref v0, .int tA, .int wP, .int nT, .int aK, .int lK, .int sW, .int rF])), (s0, .inr (4, [.ref b0, .ref s1, .ref s2, .long op, .int re])), (s1, .inl (G.2 1, 384, .inr (.inl dk))), (s2, .inl (G.2 1, 40, .inr (.inl wg))), (u0, .inr (4, [.ref b0, .ref u1, .ref u2, .long uo, .int ur])), (u1, .inl (G.2 1, 384, .inr (.inl uk))), (u2, .inl (G.2 1, 40, .inr (.inl uw))), (v0, .inr (4, [.ref b0, .ref v1, .ref v2, .long vo, .int vr])), (v1, .inl (G.2 1, 384, .inr (.inl vk))), (v2, .inl (G.2 1, 40, .inr (.inl vw))), (b0, .inr (3, [.ref b1, .ref b2, .ref b3, .ref b4, .ref b5, .ref b6, .int bn])), (b1, .inl (G.2 0, 40, .inl kf)), (b2, .inl (G.2 0, 40, .inl ff)), (b3, .inl (G.2 0, 40, .inl sf)), (b4, .inl (G.2 0, 40, .inl df)), (b5, .inl (G.2 1, 40, .inr (.inl pf))), (b6, .inl (G.2 1, 6, .inr (.inl gf)))] → va_S A s.heap H locs → K105 i1 i3 → W p l e (headSpec (wl_X2_digest) rm_X2_digest).room s m ([.ref x0] : List Value).toArray below meth c H locs 0 0 (MQ below QC ([.ref x0] : List Value).toArray s 0 0 A) (F0 m 105 ls [])) → ∀ (n : Nat) (i1 : Int64) (i3 : Int32) (ls : Array Slot) (H : Heap) (locs : List Loc), lv_has ls 5 [(0, .ref x0), (1, .long i1), (3, .int i3)] → PP G [(x0, .inr (5, [.ref b0, .ref s0, .ref u0, .ref v0, .int tA, .int wP, .int nT, .int aK, .int lK, .int sW, .int rF])), (s0, .inr (4, [.ref b0, .ref s1, .ref s2, .long op, .int re])), (s1, .inl (G.2 1, 384, .inr (.inl dk))), (s2, .inl (G.2 1, 40, .inr (.inl wg))), (u0, .inr (4, [.ref b0, .ref u1, .ref u2, .long uo, .int ur])), (u1, .inl (G.2 1, 384, .inr (.inl uk))), (u2, .inl (G.2 1, 40, .inr (.inl uw))), (v0, .inr (4, [.ref b0, .ref v1, .ref v2, .long vo, .int vr])), (v1, .inl (G.2 1, 384, .inr (.inl vk))), (v2, .inl (G.2 1, 40, .inr (.inl vw))), (b0, .inr (3, [.ref b1, .ref b2, .ref b3, .ref b4, .ref b5, .ref b6, .int bn])), (b1, .inl (G.2 0, 40, .inl kf)), (b2, .inl (G.2 0, 40, .inl ff)), (b3, .inl (G.2 0, 40, .inl sf)), (b4, .inl (G.2 0, 40, .inl df)), (b5, .inl (G.2 1, 40, .inr (.inl pf))), (b6, .inl (G.2 1, 6, .inr (.inl gf)))] H → va_D A [(x0, .inr (5, [.ref b0, .ref s0, .ref u0, .ref v0, .int tA, .int wP, .int nT, .int aK, .int lK, .int sW, .int rF])), (s0, .inr (4, [.ref b0, .ref s1, .ref s2, .long op, .int re])), (s1, .inl (G.2 1, 384, .inr (.inl dk))), (s2, .inl (G.2 1, 40, .inr (.inl wg))), (u0, .inr (4, [.ref b0, .ref u1, .ref u2, .long uo, .int ur])), (u1, .inl (G.2 1, 384, .inr (.inl uk))), (u2, .inl (G.2 1, 40, .inr (.inl uw))), (v0, .inr (4, [.ref b0, .ref v1, .ref v2, .long vo, .int vr])), (v1, .inl (G.2 1, 384, .inr (.inl vk))), (v2, .inl (G.2 1, 40, .inr (.inl vw))), (b0, .inr (3, [.ref b1, .ref b2, .ref b3, .ref b4, .ref b5, .ref b6, .int bn])), (b1, .inl (G.2 0, 40, .inl kf)), (b2, .inl (G.2 0, 40, .inl ff)), (b3, .inl (G.2 0, 40, .inl sf)), (b4, .inl (G.2 0, 40, .inl df)), (b5, .inl (G.2 1, 40, .inr (.inl pf))), (b6, .inl (G.2 1, 6, .inr (.inl gf)))] → va_S A s.heap H locs → wX2_digest_L44 post K105 dk wg op re bn n i1 i3 → W p l e (headSpec (wl_X2_digest) rm_X2_digest).room s m ([.ref x0] : List Value).toArray below meth c H locs 0 0 (MQ below QC ([.ref x0] : List Value).toArray s 0 0 A) (F0 m 44 ls []) := by
    intro K105 _ hexit105 n
    induction n with
    | zero => intro i1 i3 ls H locs hl hP hD hS h; exact False.elim h
    | succ n ih =>
      intro i1 i3 ls H locs hl hP hD hS h
      refine lv_iload_n hx hb dX2_digest_44 rfl (lv_at hl 2 rfl) ?_
      refine lv_bipush (v := 6) hx hb dX2_digest_45 (by decide) ?_
      refine lv_icmp_ge (tgt := 105) hx hb dX2_digest_47 (by decide) (fun hc => ?_) (fun hc => ?_)
      · have h := h.1 hc
        have hl := lv_sub (l' := [(0, .ref x0), (1, .long i1), (3, .int i3)]) hl [0, 1, 2] rfl
        exact hexit105 _ _ ls H locs hl hP hD hS h
      · have h := h.2 hc
        refine lv_iconst (v := 0) hx hb dX2_digest_50 (by decide) ?_
        refine lv_istore hx hb dX2_digest_51 hl (Nat.le_of_ble_eq_true rfl) rfl (fun ls hl => ?_)
        have hl : lv_has ls 5 [(4, .int (0 : Int32)), (0, .ref x0), (1, .long i1), (3, .int i3)] := hl
        have hl := lv_sub (l' := [(0, .ref x0), (1, .long i1), (3, .int i3), (4, .int (0 : Int32))]) hl [1, 2, 3, 0] rfl
        obtain ⟨nF, h⟩ := h
        refine loop53 _ i3 trivial ?_ nF i1 (0 : Int32) _ _ _ hl hP hD hS h
        · intro i1 i4 ls H locs hl hP hD hS h
          refine lv_lload_n hx hb dX2_digest_80 rfl (lv_at hl 1 rfl) ?_
          refine lv_ldc2 hx hb hown (hts _ q248) dX2_digest_81 ?_
          refine lv_lmul hx hb dX2_digest_84 ?_
          refine lv_aload_n hx hb dX2_digest_85 rfl (lv_at hl 0 rfl) ?_
          refine lv_iload_n hx hb dX2_digest_86 rfl (lv_at hl 2 rfl) ?_
          refine lv_aload_n hx hb dX2_digest_87 rfl (lv_at hl 0 rfl) ?_
          refine va_get (D := G.1) (ci := 5) (v := .ref s0) (C := RX2) (T := TX2) (N := 11) hx hb hts igX2 hown hK hP 0 rfl rfl 1 (by decide) (hts _ q177) (fun _ h9 => h9) rfl dX2_digest_88 ?_
          refine va_getN (D := G.1) (ci := 4) (v := .int re) (C := RX1) (T := TX1) (N := 5) hx hb hts igX1 hown hK hP 1 rfl rfl 4 (by decide) (va_Nw.use rfl (hN _ n79)) (fun _ h9 => h9) rfl dX2_digest_91 ?_
          have hPc := hP
          refine rdL (va_runV (C := RX2) (As := [.int i3, .int re]) (rest := [.long (i1 * (31 : Int64))]) ⟨hx, hb, hml, hown, hts⟩ (knX2_alike l G x0 s0 s1 s2 u0 u1 u2 v0 v1 v2 b0 b1 b2 b3 b4 b5 b6 tA wP nT aK lK sW rF dk wg op re uk uw uo ur vk vw vo vr kf ff sf df pf gf bn i3 re h) (cwV 2 hts (gdV q387 q388 q389 q1 q390) rfl rfl rfl (by decide +kernel) ⟨Nat.le_of_ble_eq_true rfl, Nat.le_of_ble_eq_true rfl⟩) (preV hPc hKK (va_recv hK hPc (ci := 5) (q0 := 0) rfl rfl)) rfl rfl hl.1 rfl (lv_room (Nat.le_of_ble_eq_true rfl)) dX2_digest_94 ⟨Nat.zero_le _, Nat.zero_le _⟩) (fun r_4 h => ?_)
          refine lv_ladd hx hb dX2_digest_97 ?_
          refine lv_lstore_n hx hb dX2_digest_98 rfl hl (Nat.le_of_ble_eq_true rfl) rfl (fun ls hl => ?_)
          have hl : lv_has ls 5 [(1, .long ((i1 * (31 : Int64)) + r_4)), (0, .ref x0), (3, .int i3), (4, .int i4)] := hl
          refine lv_iinc (v := (i3 + 1)) hx hb dX2_digest_99 hl (k := 2) rfl (by rw [show Int32.ofInt 1 = 1 from by decide]) (Nat.le_of_ble_eq_true rfl) rfl (fun ls hl => ?_)
          have hl : lv_has ls 5 [(3, .int (i3 + 1)), (1, .long ((i1 * (31 : Int64)) + r_4)), (0, .ref x0), (4, .int i4)] := hl
          refine lv_goto (tgt := 44) hx hb dX2_digest_102 (by decide) ?_
          have hl := lv_sub (l' := [(0, .ref x0), (1, .long ((i1 * (31 : Int64)) + r_4)), (3, .int (i3 + 1))]) hl [2, 1, 0] rfl
          exact ih _ _ ls H locs hl hP hD hS h
  have loop107 : ∀ (K131 : Int64 → Int32 → Prop), True → (∀ (i1 : Int64) (i3 : Int32) (ls : Array Slot) (H : Heap) (locs : List Loc), lv_has ls 5 [(0, .ref x0), (1, .long i1), (3, .int i3)] → PP G [(x0, .inr (5, [.ref b0, .ref s0, .ref u0, .ref v0, .int tA, .int wP, .int nT, .int aK, .int lK, .int sW, .int rF])), (s0, .inr (4, [.ref b0, .ref s1, .ref s2, .long op, .int re])), (s1, .inl (G.2 1, 384, .inr (.inl dk))), (s2, .inl (G.2 1, 40, .inr (.inl wg))), (u0, .inr (4, [.ref b0, .ref u1, .ref u2, .long uo, .int ur])), (u1, .inl (G.2 1, 384, .inr (.inl uk))), (u2, .inl (G.2 1, 40, .inr (.inl uw))), (v0, .inr (4, [.ref b0, .ref v1, .ref v2, .long vo, .int vr])), (v1, .inl (G.2 1, 384, .inr (.inl vk))), (v2, .inl (G.2 1, 40, .inr (.inl vw))), (b0, .inr (3, [.ref b1, .ref b2, .ref b3, .ref b4, .ref b5, .ref b6, .int bn])), (b1, .inl (G.2 0, 40, .inl kf)), (b2, .inl (G.2 0, 40, .inl ff)), (b3, .inl (G.2 0, 40, .inl sf)), (b4, .inl (G.2 0, 40, .inl df)), (b5, .inl (G.2 1, 40, .inr (.inl pf))), (b6, .inl (G.2 1, 6, .inr (.inl gf)))] H → va_D A [(x0, .inr (5, [.ref b0, .ref s0, .ref u0, .ref v0, .int tA, .int wP, .int nT, .int aK, .int lK, .int sW, .int rF])), (s0, .inr (4, [.ref b0, .ref s1, .ref s2, .long op, .int re])), (s1, .inl (G.2 1, 384, .inr (.inl dk))), (s2, .inl (G.2 1, 40, .inr (.inl wg))), (u0, .inr (4, [.ref b0, .ref u1, .ref u2, .long uo, .int ur])), (u1, .inl (G.2 1, 384, .inr (.inl uk))), (u2, .inl (G.2 1, 40, .inr (.inl uw))), (v0, .inr (4, [.ref b0, .ref v1, .ref v2, .long vo, .int vr])), (v1, .inl (G.2 1, 384, .inr (.inl vk))), (v2, .inl (G.2 1, 40, .inr (.inl vw))), (b0, .inr (3, [.ref b1, .ref b2, .ref b3, .ref b4, .ref b5, .ref b6, .int bn])), (b1, .inl (G.2 0, 40, .inl kf)), (b2, .inl (G.2 0, 40, .inl ff)), (b3, .inl (G.2 0, 40, .inl sf)), (b4, .inl (G.2 0, 40, .inl df)), (b5, .inl (G.2 1, 40, .inr (.inl pf))), (b6, .inl (G.2 1, 6, .inr (.inl gf)))] → va_S A s.heap H locs → K131 i1 i3 → W p l e (headSpec (wl_X2_digest) rm_X2_digest).room s m ([.ref x0] : List Value).toArray below meth c H locs 0 0 (MQ below QC ([.ref x0] : List Value).toArray s 0 0 A) (F0 m 131 ls [])) → ∀ (n : Nat) (i1 : Int64) (i3 : Int32) (ls : Array Slot) (H : Heap) (locs : List Loc), lv_has ls 5 [(0, .ref x0), (1, .long i1), (3, .int i3)] → PP G [(x0, .inr (5, [.ref b0, .ref s0, .ref u0, .ref v0, .int tA, .int wP, .int nT, .int aK, .int lK, .int sW, .int rF])), (s0, .inr (4, [.ref b0, .ref s1, .ref s2, .long op, .int re])), (s1, .inl (G.2 1, 384, .inr (.inl dk))), (s2, .inl (G.2 1, 40, .inr (.inl wg))), (u0, .inr (4, [.ref b0, .ref u1, .ref u2, .long uo, .int ur])), (u1, .inl (G.2 1, 384, .inr (.inl uk))), (u2, .inl (G.2 1, 40, .inr (.inl uw))), (v0, .inr (4, [.ref b0, .ref v1, .ref v2, .long vo, .int vr])), (v1, .inl (G.2 1, 384, .inr (.inl vk))), (v2, .inl (G.2 1, 40, .inr (.inl vw))), (b0, .inr (3, [.ref b1, .ref b2, .ref b3, .ref b4, .ref b5, .ref b6, .int bn])), (b1, .inl (G.2 0, 40, .inl kf)), (b2, .inl (G.2 0, 40, .inl ff)), (b3, .inl (G.2 0, 40, .inl sf)), (b4, .inl (G.2 0, 40, .inl df)), (b5, .inl (G.2 1, 40, .inr (.inl pf))), (b6, .inl (G.2 1, 6, .inr (.inl gf)))] H → va_D A [(x0, .inr (5, [.ref b0, .ref s0, .ref u0, .ref v0, .int tA, .int wP, .int nT, .int aK, .int lK, .int sW, .int rF])), (s0, .inr (4, [.ref b0, .ref s1, .ref s2, .long op, .int re])), (s1, .inl (G.2 1, 384, .inr (.inl dk))), (s2, .inl (G.2 1, 40, .inr (.inl wg))), (u0, .inr (4, [.ref b0, .ref u1, .ref u2, .long uo, .int ur])), (u1, .inl (G.2 1, 384, .inr (.inl uk))), (u2, .inl (G.2 1, 40, .inr (.inl uw))), (v0, .inr (4, [.ref b0, .ref v1, .ref v2, .long vo, .int vr])), (v1, .inl (G.2 1, 384, .inr (.inl vk))), (v2, .inl (G.2 1, 40, .inr (.inl vw))), (b0, .inr (3, [.ref b1, .ref b2, .ref b3, .ref b4, .ref b5, .ref b6, .int bn])), (b1, .inl (G.2 0, 40, .inl kf)), (b2, .inl (G.2 0, 40, .inl ff)), (b3, .inl (G.2 0, 40, .inl sf)), (b4, .inl (G.2 0, 40, .inl df)), (b5, .inl (G.2 1, 40, .inr (.inl pf))), (b6, .inl (G.2 1, 6, .inr (.inl gf)))] → va_S A s.heap H locs → wX2_digest_L107 post K131 dk wg op re kf ff sf df bn n i1 i3 → W p l e (headSpec (wl_X2_digest) rm_X2_digest).room s m ([.ref x0] : List Value).toArray below meth c H locs 0 0 (MQ below QC ([.ref x0] : List Value).toArray s 0 0 A) (F0 m 107 ls []) := by
    intro K131 _ hexit131 n
    induction n with
    | zero => intro i1 i3 ls H locs hl hP hD hS h; exact False.elim h
    | succ n ih =>
      intro i1 i3 ls H locs hl hP hD hS h
      refine lv_iload_n hx hb dX2_digest_107 rfl (lv_at hl 2 rfl) ?_
      refine lv_aload_n hx hb dX2_digest_108 rfl (lv_at hl 0 rfl) ?_
      refine va_get (D := G.1) (ci := 5) (v := .ref b0) (C := RX2) (T := TX2) (N := 11) hx hb hts igX2 hown hK hP 0 rfl rfl 0 (by decide) (hts _ q176) (fun _ h9 => h9) rfl dX2_digest_109 ?_
      have hPc := va_P.sub (ws' := [(b0, .inr (3, [.ref b1, .ref b2, .ref b3, .ref b4, .ref b5, .ref b6, .int bn])), (b1, .inl (G.2 0, 40, .inl kf)), (b2, .inl (G.2 0, 40, .inl ff)), (b3, .inl (G.2 0, 40, .inl sf)), (b4, .inl (G.2 0, 40, .inl df)), (b5, .inl (G.2 1, 40, .inr (.inl pf))), (b6, .inl (G.2 1, 6, .inr (.inl gf)))]) hP [10, 11, 12, 13, 14, 15, 16] rfl
      refine rdI (va_runV (C := RX0) (As := []) (rest := [.int i3]) ⟨hx, hb, hml, hown, hts⟩ (kX0_count l G b0 b1 b2 b3 b4 b5 b6 kf ff sf df pf gf bn h) (cwV 0 hts (gdV q223 q224 q225 q2 q226) rfl rfl rfl (by decide +kernel) ⟨Nat.le_of_ble_eq_true rfl, Nat.le_of_ble_eq_true rfl⟩) (preV hPc hKK (va_recv hK hPc (ci := 3) (q0 := 0) rfl rfl)) rfl rfl hl.1 rfl (lv_room (Nat.le_of_ble_eq_true rfl)) dX2_digest_112 ⟨Nat.zero_le _, Nat.zero_le _⟩) (fun r_5 h => ?_)
      refine lv_icmp_ge (tgt := 131) hx hb dX2_digest_115 (by decide) (fun hc => ?_) (fun hc => ?_)
      · have h := h.1 hc
        have hl := lv_sub (l' := [(0, .ref x0), (1, .long i1), (3, .int i3)]) hl [0, 1, 2] rfl
        exact hexit131 _ _ ls H locs hl hP hD hS h
      · have h := h.2 hc
        refine lv_aload_n hx hb dX2_digest_118 rfl (lv_at hl 0 rfl) ?_
        refine lv_lload_n hx hb dX2_digest_119 rfl (lv_at hl 1 rfl) ?_
        refine lv_iload_n hx hb dX2_digest_120 rfl (lv_at hl 2 rfl) ?_
        have hPc := hP
        refine rdL (va_runV (C := RX2) (As := [.long i1, .int i3]) (rest := []) ⟨hx, hb, hml, hown, hts⟩ (kX2_digestOfSentence l G x0 s0 s1 s2 u0 u1 u2 v0 v1 v2 b0 b1 b2 b3 b4 b5 b6 tA wP nT aK lK sW rF dk wg op re uk uw uo ur vk vw vo vr kf ff sf df pf gf bn i1 i3 h) (cwV 2 hts (gdV q395 q397 qs7 q1 q398) rfl rfl rfl (by decide +kernel) ⟨Nat.le_of_ble_eq_true rfl, Nat.le_of_ble_eq_true rfl⟩) (preV hPc hKK (va_recv hK hPc (ci := 5) (q0 := 0) rfl rfl)) rfl rfl hl.1 rfl (lv_room (Nat.le_of_ble_eq_true rfl)) dX2_digest_121 ⟨Nat.zero_le _, Nat.zero_le _⟩) (fun r_6 h => ?_)
        refine lv_lstore_n hx hb dX2_digest_124 rfl hl (Nat.le_of_ble_eq_true rfl) rfl (fun ls hl => ?_)
        have hl : lv_has ls 5 [(1, .long r_6), (0, .ref x0), (3, .int i3)] := hl
        refine lv_iinc (v := (i3 + 1)) hx hb dX2_digest_125 hl (k := 2) rfl (by rw [show Int32.ofInt 1 = 1 from by decide]) (Nat.le_of_ble_eq_true rfl) rfl (fun ls hl => ?_)
        have hl : lv_has ls 5 [(3, .int (i3 + 1)), (1, .long r_6), (0, .ref x0)] := hl
        refine lv_goto (tgt := 107) hx hb dX2_digest_128 (by decide) ?_
        have hl := lv_sub (l' := [(0, .ref x0), (1, .long r_6), (3, .int (i3 + 1))]) hl [2, 1, 0] rfl
        exact ih _ _ ls H locs hl hP hD hS h
  refine lv_ldc2 hx hb hown (hts _ q247) dX2_digest_0 ?_
  refine lv_lstore_n hx hb dX2_digest_3 rfl hl (Nat.le_of_ble_eq_true rfl) rfl (fun ls hl => ?_)
  have hl : lv_has ls 5 [(1, .long (6121 : Int64)), (0, .ref x0)] := hl
  refine lv_iconst (v := 0) hx hb dX2_digest_4 (by decide) ?_
  refine lv_istore_n hx hb dX2_digest_5 rfl hl (Nat.le_of_ble_eq_true rfl) rfl (fun ls hl => ?_)
  have hl : lv_has ls 5 [(3, .int (0 : Int32)), (1, .long (6121 : Int64)), (0, .ref x0)] := hl
  have hl := lv_sub (l' := [(0, .ref x0), (1, .long (6121 : Int64)), (3, .int (0 : Int32))]) hl [2, 1, 0] rfl
  obtain ⟨nF, h⟩ := h
  refine loop6 _ trivial ?_ nF (6121 : Int64) (0 : Int32) _ _ _ hl hP hD hS h
  · intro i1 i3 ls H locs hl hP hD hS h
    refine lv_lload_n hx hb dX2_digest_31 rfl (lv_at hl 1 rfl) ?_
    refine lv_ldc2 hx hb hown (hts _ q248) dX2_digest_32 ?_
    refine lv_lmul hx hb dX2_digest_35 ?_
    refine lv_aload_n hx hb dX2_digest_36 rfl (lv_at hl 0 rfl) ?_
    have hPc := hP
    refine rdL (va_runV (C := RX2) (As := []) (rest := [.long (i1 * (31 : Int64))]) ⟨hx, hb, hml, hown, hts⟩ (kX2_possible l G x0 s0 s1 s2 u0 u1 u2 v0 v1 v2 b0 b1 b2 b3 b4 b5 b6 tA wP nT aK lK sW rF dk wg op re uk uw uo ur vk vw vo vr kf ff sf df pf gf bn h) (cwV 0 hts (gdV q341 q215 q216 q1 q217) rfl rfl rfl (by decide +kernel) ⟨Nat.le_of_ble_eq_true rfl, Nat.le_of_ble_eq_true rfl⟩) (preV hPc hKK (va_recv hK hPc (ci := 5) (q0 := 0) rfl rfl)) rfl rfl hl.1 rfl (lv_room (Nat.le_of_ble_eq_true rfl)) dX2_digest_37 ⟨Nat.zero_le _, Nat.zero_le _⟩) (fun r_2 h => ?_)
    refine lv_ladd hx hb dX2_digest_40 ?_
    refine lv_lstore_n hx hb dX2_digest_41 rfl hl (Nat.le_of_ble_eq_true rfl) rfl (fun ls hl => ?_)
    have hl : lv_has ls 5 [(1, .long ((i1 * (31 : Int64)) + r_2)), (0, .ref x0), (3, .int i3)] := hl
    refine lv_iconst (v := 0) hx hb dX2_digest_42 (by decide) ?_
    refine lv_istore_n hx hb dX2_digest_43 rfl hl (Nat.le_of_ble_eq_true rfl) rfl (fun ls hl => ?_)
    have hl : lv_has ls 5 [(3, .int (0 : Int32)), (1, .long ((i1 * (31 : Int64)) + r_2)), (0, .ref x0)] := hl
    have hl := lv_sub (l' := [(0, .ref x0), (1, .long ((i1 * (31 : Int64)) + r_2)), (3, .int (0 : Int32))]) hl [2, 1, 0] rfl
    obtain ⟨nF, h⟩ := h
    refine loop44 _ trivial ?_ nF ((i1 * (31 : Int64)) + r_2) (0 : Int32) _ _ _ hl hP hD hS h
    · intro i1 i3 ls H locs hl hP hD hS h
      refine lv_iconst (v := 0) hx hb dX2_digest_105 (by decide) ?_
      refine lv_istore_n hx hb dX2_digest_106 rfl hl (Nat.le_of_ble_eq_true rfl) rfl (fun ls hl => ?_)
      have hl : lv_has ls 5 [(3, .int (0 : Int32)), (0, .ref x0), (1, .long i1)] := hl
      have hl := lv_sub (l' := [(0, .ref x0), (1, .long i1), (3, .int (0 : Int32))]) hl [1, 2, 0] rfl
      obtain ⟨nF, h⟩ := h
      refine loop107 _ trivial ?_ nF i1 (0 : Int32) _ _ _ hl hP hD hS h
      · intro i1 i3 ls H locs hl hP hD hS h
        refine lv_aload_n hx hb dX2_digest_131 rfl (lv_at hl 0 rfl) ?_
        refine va_get (D := G.1) (ci := 5) (v := .ref b0) (C := RX2) (T := TX2) (N := 11) hx hb hts igX2 hown hK hP 0 rfl rfl 0 (by decide) (hts _ q176) (fun _ h9 => h9) rfl dX2_digest_132 ?_
        have hPc := va_P.sub (ws' := [(b0, .inr (3, [.ref b1, .ref b2, .ref b3, .ref b4, .ref b5, .ref b6, .int bn])), (b1, .inl (G.2 0, 40, .inl kf)), (b2, .inl (G.2 0, 40, .inl ff)), (b3, .inl (G.2 0, 40, .inl sf)), (b4, .inl (G.2 0, 40, .inl df)), (b5, .inl (G.2 1, 40, .inr (.inl pf))), (b6, .inl (G.2 1, 6, .inr (.inl gf)))]) hP [10, 11, 12, 13, 14, 15, 16] rfl
        refine rdI (va_runV (C := RX0) (As := []) (rest := []) ⟨hx, hb, hml, hown, hts⟩ (kX0_count l G b0 b1 b2 b3 b4 b5 b6 kf ff sf df pf gf bn h) (cwV 0 hts (gdV q223 q224 q225 q2 q226) rfl rfl rfl (by decide +kernel) ⟨Nat.le_of_ble_eq_true rfl, Nat.le_of_ble_eq_true rfl⟩) (preV hPc hKK (va_recv hK hPc (ci := 3) (q0 := 0) rfl rfl)) rfl rfl hl.1 rfl (lv_room (Nat.le_of_ble_eq_true rfl)) dX2_digest_135 ⟨Nat.zero_le _, Nat.zero_le _⟩) (fun r_7 h => ?_)
        refine lv_if_le (tgt := 186) hx hb dX2_digest_138 (by decide) (fun hc => ?_) (fun hc => ?_)
        · have h := h.1 hc
          refine lv_lload_n hx hb dX2_digest_186 rfl (lv_at hl 1 rfl) ?_
          refine lv_ldc2 hx hb hown (hts _ q248) dX2_digest_187 ?_
          refine lv_lmul hx hb dX2_digest_190 ?_
          refine lv_ldc2d hx hb hown (hts _ q489) dX2_digest_191 ?_
          refine lv_aload_n hx hb dX2_digest_194 rfl (lv_at hl 0 rfl) ?_
          refine lv_iconst (v := 0) hx hb dX2_digest_195 (by decide) ?_
          have hPc := hP
          refine rdD (va_runV (C := RX2) (As := [.int (0 : Int32)]) (rest := [.double (4634204016564240384 : UInt64), .long (i1 * (31 : Int64))]) ⟨hx, hb, hml, hown, hts⟩ (knX2_wit l G x0 s0 s1 s2 u0 u1 u2 v0 v1 v2 b0 b1 b2 b3 b4 b5 b6 tA wP nT aK lK sW rF dk wg op re uk uw uo ur vk vw vo vr kf ff sf df pf gf bn (0 : Int32) h) (cwV 1 hts (gdV q490 q491 q492 q1 q493) rfl rfl rfl (by decide +kernel) ⟨Nat.le_of_ble_eq_true rfl, Nat.le_of_ble_eq_true rfl⟩) (preV hPc hKK (va_recv hK hPc (ci := 5) (q0 := 0) rfl rfl)) rfl rfl hl.1 rfl (lv_room (Nat.le_of_ble_eq_true rfl)) dX2_digest_196 ⟨Nat.zero_le _, Nat.zero_le _⟩) (fun r_8 h => ?_)
          obtain ⟨hnn, h⟩ := h
          refine lv_dmul hx hb dX2_digest_199 hnn ?_
          refine lv_d2l hx hb dX2_digest_200 ?_
          refine lv_ladd hx hb dX2_digest_201 ?_
          refine lv_topl (fun x_1 ex_1 => ?_)
          have h := h x_1 ex_1
          refine lv_lstore_n hx hb dX2_digest_202 rfl hl (Nat.le_of_ble_eq_true rfl) rfl (fun ls hl => ?_)
          have hl : lv_has ls 5 [(1, .long x_1), (0, .ref x0), (3, .int i3)] := hl
          refine lv_lload_n hx hb dX2_digest_203 rfl (lv_at hl 0 rfl) ?_
          refine lv_ldc2 hx hb hown (hts _ q248) dX2_digest_204 ?_
          refine lv_lmul hx hb dX2_digest_207 ?_
          refine lv_aload_n hx hb dX2_digest_208 rfl (lv_at hl 1 rfl) ?_
          have hPc := hP
          refine rdI (va_runV (C := RX2) (As := []) (rest := [.long (x_1 * (31 : Int64))]) ⟨hx, hb, hml, hown, hts⟩ (kX2_isSound l G x0 s0 s1 s2 u0 u1 u2 v0 v1 v2 b0 b1 b2 b3 b4 b5 b6 tA wP nT aK lK sW rF dk wg op re uk uw uo ur vk vw vo vr kf ff sf df pf gf bn h) (cwV 0 hts (gdV q494 q219 q220 q1 q221) rfl rfl rfl (by decide +kernel) ⟨Nat.le_of_ble_eq_true rfl, Nat.le_of_ble_eq_true rfl⟩) (preV hPc hKK (va_recv hK hPc (ci := 5) (q0 := 0) rfl rfl)) rfl rfl hl.1 rfl (lv_room (Nat.le_of_ble_eq_true rfl)) dX2_digest_209 ⟨Nat.zero_le _, Nat.zero_le _⟩) (fun r_9 h => ?_)
          refine lv_if_eq (tgt := 219) hx hb dX2_digest_212 (by decide) (fun hc => ?_) (fun hc => ?_)
          · have h := h.1 hc
            refine lv_lconst (v := 0) hx hb dX2_digest_219 (by decide) ?_
            refine lv_ladd hx hb dX2_digest_220 ?_
            subst hQC; exact W.lret (v := ((x_1 * (31 : Int64)) + (0 : Int64))) hx hb hr (fun t ht hW => ⟨⟨_, (uk, uw, uo, ur, vk, vw, vo, vr), rfl, h, by rw [ht]; exact hP, hD⟩, hS.F ht⟩) hS.2.2 dX2_digest_221
          · have h := h.2 hc
            refine lv_lconst (v := 1) hx hb dX2_digest_215 (by decide) ?_
            refine lv_goto (tgt := 220) hx hb dX2_digest_216 (by decide) ?_
            refine lv_ladd hx hb dX2_digest_220 ?_
            subst hQC; exact W.lret (v := ((x_1 * (31 : Int64)) + (1 : Int64))) hx hb hr (fun t ht hW => ⟨⟨_, (uk, uw, uo, ur, vk, vw, vo, vr), rfl, h, by rw [ht]; exact hP, hD⟩, hS.F ht⟩) hS.2.2 dX2_digest_221
        · have h := h.2 hc
          refine lv_lload_n hx hb dX2_digest_141 rfl (lv_at hl 1 rfl) ?_
          refine lv_ldc2 hx hb hown (hts _ q248) dX2_digest_142 ?_
          refine lv_lmul hx hb dX2_digest_145 ?_
          refine lv_aload_n hx hb dX2_digest_146 rfl (lv_at hl 0 rfl) ?_
          refine lv_iconst (v := 0) hx hb dX2_digest_147 (by decide) ?_
          refine lv_aload_n hx hb dX2_digest_148 rfl (lv_at hl 0 rfl) ?_
          refine va_get (D := G.1) (ci := 5) (v := .ref b0) (C := RX2) (T := TX2) (N := 11) hx hb hts igX2 hown hK hP 0 rfl rfl 0 (by decide) (hts _ q176) (fun _ h9 => h9) rfl dX2_digest_149 ?_
          have hPc := va_P.sub (ws' := [(b0, .inr (3, [.ref b1, .ref b2, .ref b3, .ref b4, .ref b5, .ref b6, .int bn])), (b1, .inl (G.2 0, 40, .inl kf)), (b2, .inl (G.2 0, 40, .inl ff)), (b3, .inl (G.2 0, 40, .inl sf)), (b4, .inl (G.2 0, 40, .inl df)), (b5, .inl (G.2 1, 40, .inr (.inl pf))), (b6, .inl (G.2 1, 6, .inr (.inl gf)))]) hP [10, 11, 12, 13, 14, 15, 16] rfl
          refine rdI (va_runV (C := RX0) (As := []) (rest := [.int (0 : Int32), .ref x0, .long (i1 * (31 : Int64))]) ⟨hx, hb, hml, hown, hts⟩ (kX0_count l G b0 b1 b2 b3 b4 b5 b6 kf ff sf df pf gf bn h) (cwV 0 hts (gdV q223 q224 q225 q2 q226) rfl rfl rfl (by decide +kernel) ⟨Nat.le_of_ble_eq_true rfl, Nat.le_of_ble_eq_true rfl⟩) (preV hPc hKK (va_recv hK hPc (ci := 3) (q0 := 0) rfl rfl)) rfl rfl hl.1 rfl (lv_room (Nat.le_of_ble_eq_true rfl)) dX2_digest_152 ⟨Nat.zero_le _, Nat.zero_le _⟩) (fun r_10 h => ?_)
          refine lv_iconst (v := 1) hx hb dX2_digest_155 (by decide) ?_
          refine lv_isub hx hb dX2_digest_156 ?_
          have hPc := hP
          have hDc := hD.sub (ws' := [(x0, .inr (5, [.ref b0, .ref s0, .ref u0, .ref v0, .int tA, .int wP, .int nT, .int aK, .int lK, .int sW, .int rF])), (s0, .inr (4, [.ref b0, .ref s1, .ref s2, .long op, .int re])), (s1, .inl (G.2 1, 384, .inr (.inl dk))), (s2, .inl (G.2 1, 40, .inr (.inl wg))), (u0, .inr (4, [.ref b0, .ref u1, .ref u2, .long uo, .int ur])), (u1, .inl (G.2 1, 384, .inr (.inl uk))), (u2, .inl (G.2 1, 40, .inr (.inl uw))), (v0, .inr (4, [.ref b0, .ref v1, .ref v2, .long vo, .int vr])), (v1, .inl (G.2 1, 384, .inr (.inl vk))), (v2, .inl (G.2 1, 40, .inr (.inl vw))), (b0, .inr (3, [.ref b1, .ref b2, .ref b3, .ref b4, .ref b5, .ref b6, .int bn])), (b1, .inl (G.2 0, 40, .inl kf)), (b2, .inl (G.2 0, 40, .inl ff)), (b3, .inl (G.2 0, 40, .inl sf)), (b4, .inl (G.2 0, 40, .inl df)), (b5, .inl (G.2 1, 40, .inr (.inl pf))), (b6, .inl (G.2 1, 6, .inr (.inl gf)))]) [0, 1, 2, 3, 4, 5, 6, 7, 8, 9, 10, 11, 12, 13, 14, 15, 16] (by decide) rfl
          have hFc := va_free (wc := [(x0, .inr (5, [.ref b0, .ref s0, .ref u0, .ref v0, .int tA, .int wP, .int nT, .int aK, .int lK, .int sW, .int rF])), (s0, .inr (4, [.ref b0, .ref s1, .ref s2, .long op, .int re])), (s1, .inl (G.2 1, 384, .inr (.inl dk))), (s2, .inl (G.2 1, 40, .inr (.inl wg))), (u0, .inr (4, [.ref b0, .ref u1, .ref u2, .long uo, .int ur])), (u1, .inl (G.2 1, 384, .inr (.inl uk))), (u2, .inl (G.2 1, 40, .inr (.inl uw))), (v0, .inr (4, [.ref b0, .ref v1, .ref v2, .long vo, .int vr])), (v1, .inl (G.2 1, 384, .inr (.inl vk))), (v2, .inl (G.2 1, 40, .inr (.inl vw))), (b0, .inr (3, [.ref b1, .ref b2, .ref b3, .ref b4, .ref b5, .ref b6, .int bn])), (b1, .inl (G.2 0, 40, .inl kf)), (b2, .inl (G.2 0, 40, .inl ff)), (b3, .inl (G.2 0, 40, .inl sf)), (b4, .inl (G.2 0, 40, .inl df)), (b5, .inl (G.2 1, 40, .inr (.inl pf))), (b6, .inl (G.2 1, 6, .inr (.inl gf)))]) hD hS hA [0, 1, 2, 3, 4, 5, 6, 7, 8, 9, 10, 11, 12, 13, 14, 15, 16] rfl
          have hZc := (hZ.kept hS.2.1).narrow hFc
          refine va_calli (va_runV (C := RX2) (As := [.int (0 : Int32), .int (r_10 - (1 : Int32))]) (rest := [.long (i1 * (31 : Int64))]) ⟨hx, hb, hml, hown, hts⟩ (knX2_notes l G x0 s0 s1 s2 u0 u1 u2 v0 v1 v2 b0 b1 b2 b3 b4 b5 b6 tA wP nT aK lK sW rF dk wg op re uk uw uo ur vk vw vo vr kf ff sf df pf gf bn (0 : Int32) (r_10 - (1 : Int32)) _ h) (cwV 2 hts (gdV q444 q445 q446 q1 q447) rfl rfl rfl (by decide +kernel) ⟨Nat.le_of_ble_eq_true rfl, Nat.le_of_ble_eq_true rfl⟩) (preVwz hPc hKK hDc hZc (va_recv hK hPc (ci := 5) (q0 := 0) rfl rfl)) rfl rfl hl.1 rfl (lv_room (Nat.le_of_ble_eq_true rfl)) dX2_digest_157 ⟨Nat.zero_le _, Nat.zero_le _⟩) hS (fun q _ h => hFc q h) hFc (fun r_11 u t H1 locs ht hvm h hB hz1 hk1 hS => ?_)
          obtain ⟨uk_1, uw_1, uo_1, ur_1, vk_1, vw_1, vo_1, vr_1⟩ := u
          obtain ⟨hP1, hD1⟩ := hB
          rw [ht] at hP1
          have hP := hP1
          have hD : va_D A [(x0, .inr (5, [.ref b0, .ref s0, .ref u0, .ref v0, .int tA, .int wP, .int nT, .int aK, .int lK, .int sW, .int rF])), (s0, .inr (4, [.ref b0, .ref s1, .ref s2, .long op, .int re])), (s1, .inl (G.2 1, 384, .inr (.inl dk))), (s2, .inl (G.2 1, 40, .inr (.inl wg))), (u0, .inr (4, [.ref b0, .ref u1, .ref u2, .long uo_1, .int ur_1])), (u1, .inl (G.2 1, 384, .inr (.inl uk_1))), (u2, .inl (G.2 1, 40, .inr (.inl uw_1))), (v0, .inr (4, [.ref b0, .ref v1, .ref v2, .long vo_1, .int vr_1])), (v1, .inl (G.2 1, 384, .inr (.inl vk_1))), (v2, .inl (G.2 1, 40, .inr (.inl vw_1))), (b0, .inr (3, [.ref b1, .ref b2, .ref b3, .ref b4, .ref b5, .ref b6, .int bn])), (b1, .inl (G.2 0, 40, .inl kf)), (b2, .inl (G.2 0, 40, .inl ff)), (b3, .inl (G.2 0, 40, .inl sf)), (b4, .inl (G.2 0, 40, .inl df)), (b5, .inl (G.2 1, 40, .inr (.inl pf))), (b6, .inl (G.2 1, 6, .inr (.inl gf)))] := hD1.weaken (fun _ _ _ h => hFc _ h)
          generalize H1 = H at hP hS ⊢
          have hP : PP G [(x0, .inr (5, [.ref b0, .ref s0, .ref u0, .ref v0, .int tA, .int wP, .int nT, .int aK, .int lK, .int sW, .int rF])), (s0, .inr (4, [.ref b0, .ref s1, .ref s2, .long op, .int re])), (s1, .inl (G.2 1, 384, .inr (.inl dk))), (s2, .inl (G.2 1, 40, .inr (.inl wg))), (u0, .inr (4, [.ref b0, .ref u1, .ref u2, .long uo_1, .int ur_1])), (u1, .inl (G.2 1, 384, .inr (.inl uk_1))), (u2, .inl (G.2 1, 40, .inr (.inl uw_1))), (v0, .inr (4, [.ref b0, .ref v1, .ref v2, .long vo_1, .int vr_1])), (v1, .inl (G.2 1, 384, .inr (.inl vk_1))), (v2, .inl (G.2 1, 40, .inr (.inl vw_1))), (b0, .inr (3, [.ref b1, .ref b2, .ref b3, .ref b4, .ref b5, .ref b6, .int bn])), (b1, .inl (G.2 0, 40, .inl kf)), (b2, .inl (G.2 0, 40, .inl ff)), (b3, .inl (G.2 0, 40, .inl sf)), (b4, .inl (G.2 0, 40, .inl df)), (b5, .inl (G.2 1, 40, .inr (.inl pf))), (b6, .inl (G.2 1, 6, .inr (.inl gf)))] H := hP
          refine lv_i2l (v := (r_11.toInt64)) hx hb dX2_digest_160 rfl ?_
          refine lv_ladd hx hb dX2_digest_161 ?_
          refine lv_lstore_n hx hb dX2_digest_162 rfl hl (Nat.le_of_ble_eq_true rfl) rfl (fun ls hl => ?_)
          have hl : lv_has ls 5 [(1, .long ((i1 * (31 : Int64)) + (r_11.toInt64))), (0, .ref x0), (3, .int i3)] := hl
          refine lv_lload_n hx hb dX2_digest_163 rfl (lv_at hl 0 rfl) ?_
          refine lv_ldc2 hx hb hown (hts _ q248) dX2_digest_164 ?_
          refine lv_lmul hx hb dX2_digest_167 ?_
          refine lv_aload_n hx hb dX2_digest_168 rfl (lv_at hl 1 rfl) ?_
          refine lv_bipush (v := 63) hx hb dX2_digest_169 (by decide) ?_
          refine lv_aload_n hx hb dX2_digest_171 rfl (lv_at hl 1 rfl) ?_
          refine va_get (D := G.1) (ci := 5) (v := .ref b0) (C := RX2) (T := TX2) (N := 11) hx hb hts igX2 hown hK hP 0 rfl rfl 0 (by decide) (hts _ q176) (fun _ h9 => h9) rfl dX2_digest_172 ?_
          have hPc := va_P.sub (ws' := [(b0, .inr (3, [.ref b1, .ref b2, .ref b3, .ref b4, .ref b5, .ref b6, .int bn])), (b1, .inl (G.2 0, 40, .inl kf)), (b2, .inl (G.2 0, 40, .inl ff)), (b3, .inl (G.2 0, 40, .inl sf)), (b4, .inl (G.2 0, 40, .inl df)), (b5, .inl (G.2 1, 40, .inr (.inl pf))), (b6, .inl (G.2 1, 6, .inr (.inl gf)))]) hP [10, 11, 12, 13, 14, 15, 16] rfl
          refine rdI (va_runV (C := RX0) (As := []) (rest := [.int (63 : Int32), .ref x0, .long (((i1 * (31 : Int64)) + (r_11.toInt64)) * (31 : Int64))]) ⟨hx, hb, hml, hown, hts⟩ (kX0_count l G b0 b1 b2 b3 b4 b5 b6 kf ff sf df pf gf bn h) (cwV 0 hts (gdV q223 q224 q225 q2 q226) rfl rfl rfl (by decide +kernel) ⟨Nat.le_of_ble_eq_true rfl, Nat.le_of_ble_eq_true rfl⟩) (preV hPc hKK (va_recv hK hPc (ci := 3) (q0 := 0) rfl rfl)) rfl rfl hl.1 rfl (lv_room (Nat.le_of_ble_eq_true rfl)) dX2_digest_175 ⟨Nat.zero_le _, Nat.zero_le _⟩) (fun r_12 h => ?_)
          refine lv_iconst (v := 1) hx hb dX2_digest_178 (by decide) ?_
          refine lv_isub hx hb dX2_digest_179 ?_
          have hPc := hP
          have hDc := hD.sub (ws' := [(x0, .inr (5, [.ref b0, .ref s0, .ref u0, .ref v0, .int tA, .int wP, .int nT, .int aK, .int lK, .int sW, .int rF])), (s0, .inr (4, [.ref b0, .ref s1, .ref s2, .long op, .int re])), (s1, .inl (G.2 1, 384, .inr (.inl dk))), (s2, .inl (G.2 1, 40, .inr (.inl wg))), (u0, .inr (4, [.ref b0, .ref u1, .ref u2, .long uo_1, .int ur_1])), (u1, .inl (G.2 1, 384, .inr (.inl uk_1))), (u2, .inl (G.2 1, 40, .inr (.inl uw_1))), (v0, .inr (4, [.ref b0, .ref v1, .ref v2, .long vo_1, .int vr_1])), (v1, .inl (G.2 1, 384, .inr (.inl vk_1))), (v2, .inl (G.2 1, 40, .inr (.inl vw_1))), (b0, .inr (3, [.ref b1, .ref b2, .ref b3, .ref b4, .ref b5, .ref b6, .int bn])), (b1, .inl (G.2 0, 40, .inl kf)), (b2, .inl (G.2 0, 40, .inl ff)), (b3, .inl (G.2 0, 40, .inl sf)), (b4, .inl (G.2 0, 40, .inl df)), (b5, .inl (G.2 1, 40, .inr (.inl pf))), (b6, .inl (G.2 1, 6, .inr (.inl gf)))]) [0, 1, 2, 3, 4, 5, 6, 7, 8, 9, 10, 11, 12, 13, 14, 15, 16] (by decide) rfl
          have hFc := va_free (wc := [(x0, .inr (5, [.ref b0, .ref s0, .ref u0, .ref v0, .int tA, .int wP, .int nT, .int aK, .int lK, .int sW, .int rF])), (s0, .inr (4, [.ref b0, .ref s1, .ref s2, .long op, .int re])), (s1, .inl (G.2 1, 384, .inr (.inl dk))), (s2, .inl (G.2 1, 40, .inr (.inl wg))), (u0, .inr (4, [.ref b0, .ref u1, .ref u2, .long uo_1, .int ur_1])), (u1, .inl (G.2 1, 384, .inr (.inl uk_1))), (u2, .inl (G.2 1, 40, .inr (.inl uw_1))), (v0, .inr (4, [.ref b0, .ref v1, .ref v2, .long vo_1, .int vr_1])), (v1, .inl (G.2 1, 384, .inr (.inl vk_1))), (v2, .inl (G.2 1, 40, .inr (.inl vw_1))), (b0, .inr (3, [.ref b1, .ref b2, .ref b3, .ref b4, .ref b5, .ref b6, .int bn])), (b1, .inl (G.2 0, 40, .inl kf)), (b2, .inl (G.2 0, 40, .inl ff)), (b3, .inl (G.2 0, 40, .inl sf)), (b4, .inl (G.2 0, 40, .inl df)), (b5, .inl (G.2 1, 40, .inr (.inl pf))), (b6, .inl (G.2 1, 6, .inr (.inl gf)))]) hD hS hA [0, 1, 2, 3, 4, 5, 6, 7, 8, 9, 10, 11, 12, 13, 14, 15, 16] rfl
          have hZc := (hZ.kept hS.2.1).narrow hFc
          refine va_calli (va_runV (C := RX2) (As := [.int (63 : Int32), .int (r_12 - (1 : Int32))]) (rest := [.long (((i1 * (31 : Int64)) + (r_11.toInt64)) * (31 : Int64))]) ⟨hx, hb, hml, hown, hts⟩ (knX2_rounds l G x0 s0 s1 s2 u0 u1 u2 v0 v1 v2 b0 b1 b2 b3 b4 b5 b6 tA wP nT aK lK sW rF dk wg op re uk_1 uw_1 uo_1 ur_1 vk_1 vw_1 vo_1 vr_1 kf ff sf df pf gf bn (63 : Int32) (r_12 - (1 : Int32)) _ h) (cwV 2 hts (gdV q476 q477 q478 q1 q479) rfl rfl rfl (by decide +kernel) ⟨Nat.le_of_ble_eq_true rfl, Nat.le_of_ble_eq_true rfl⟩) (preVwz hPc hKK hDc hZc (va_recv hK hPc (ci := 5) (q0 := 0) rfl rfl)) rfl rfl hl.1 rfl (lv_room (Nat.le_of_ble_eq_true rfl)) dX2_digest_180 ⟨Nat.zero_le _, Nat.zero_le _⟩) hS (fun q _ h => hFc q h) hFc (fun r_13 u t H1 locs ht hvm h hB hz1 hk1 hS => ?_)
          obtain ⟨uk_2, uw_2, uo_2, ur_2⟩ := u
          obtain ⟨hP1, hD1⟩ := hB
          rw [ht] at hP1
          have hP := hP1
          have hD : va_D A [(x0, .inr (5, [.ref b0, .ref s0, .ref u0, .ref v0, .int tA, .int wP, .int nT, .int aK, .int lK, .int sW, .int rF])), (s0, .inr (4, [.ref b0, .ref s1, .ref s2, .long op, .int re])), (s1, .inl (G.2 1, 384, .inr (.inl dk))), (s2, .inl (G.2 1, 40, .inr (.inl wg))), (u0, .inr (4, [.ref b0, .ref u1, .ref u2, .long uo_2, .int ur_2])), (u1, .inl (G.2 1, 384, .inr (.inl uk_2))), (u2, .inl (G.2 1, 40, .inr (.inl uw_2))), (v0, .inr (4, [.ref b0, .ref v1, .ref v2, .long vo_1, .int vr_1])), (v1, .inl (G.2 1, 384, .inr (.inl vk_1))), (v2, .inl (G.2 1, 40, .inr (.inl vw_1))), (b0, .inr (3, [.ref b1, .ref b2, .ref b3, .ref b4, .ref b5, .ref b6, .int bn])), (b1, .inl (G.2 0, 40, .inl kf)), (b2, .inl (G.2 0, 40, .inl ff)), (b3, .inl (G.2 0, 40, .inl sf)), (b4, .inl (G.2 0, 40, .inl df)), (b5, .inl (G.2 1, 40, .inr (.inl pf))), (b6, .inl (G.2 1, 6, .inr (.inl gf)))] := hD1.weaken (fun _ _ _ h => hFc _ h)
          generalize H1 = H at hP hS ⊢
          have hP : PP G [(x0, .inr (5, [.ref b0, .ref s0, .ref u0, .ref v0, .int tA, .int wP, .int nT, .int aK, .int lK, .int sW, .int rF])), (s0, .inr (4, [.ref b0, .ref s1, .ref s2, .long op, .int re])), (s1, .inl (G.2 1, 384, .inr (.inl dk))), (s2, .inl (G.2 1, 40, .inr (.inl wg))), (u0, .inr (4, [.ref b0, .ref u1, .ref u2, .long uo_2, .int ur_2])), (u1, .inl (G.2 1, 384, .inr (.inl uk_2))), (u2, .inl (G.2 1, 40, .inr (.inl uw_2))), (v0, .inr (4, [.ref b0, .ref v1, .ref v2, .long vo_1, .int vr_1])), (v1, .inl (G.2 1, 384, .inr (.inl vk_1))), (v2, .inl (G.2 1, 40, .inr (.inl vw_1))), (b0, .inr (3, [.ref b1, .ref b2, .ref b3, .ref b4, .ref b5, .ref b6, .int bn])), (b1, .inl (G.2 0, 40, .inl kf)), (b2, .inl (G.2 0, 40, .inl ff)), (b3, .inl (G.2 0, 40, .inl sf)), (b4, .inl (G.2 0, 40, .inl df)), (b5, .inl (G.2 1, 40, .inr (.inl pf))), (b6, .inl (G.2 1, 6, .inr (.inl gf)))] H := hP
          refine lv_i2l (v := (r_13.toInt64)) hx hb dX2_digest_183 rfl ?_
          refine lv_ladd hx hb dX2_digest_184 ?_
          refine lv_topl (fun x_2 ex_2 => ?_)
          have h := h x_2 ex_2
          refine lv_lstore_n hx hb dX2_digest_185 rfl hl (Nat.le_of_ble_eq_true rfl) rfl (fun ls hl => ?_)
          have hl : lv_has ls 5 [(1, .long x_2), (0, .ref x0), (3, .int i3)] := hl
          refine lv_lload_n hx hb dX2_digest_186 rfl (lv_at hl 0 rfl) ?_
          refine lv_ldc2 hx hb hown (hts _ q248) dX2_digest_187 ?_
          refine lv_lmul hx hb dX2_digest_190 ?_
          refine lv_ldc2d hx hb hown (hts _ q489) dX2_digest_191 ?_
          refine lv_aload_n hx hb dX2_digest_194 rfl (lv_at hl 1 rfl) ?_
          refine lv_iconst (v := 0) hx hb dX2_digest_195 (by decide) ?_
          have hPc := hP
          refine rdD (va_runV (C := RX2) (As := [.int (0 : Int32)]) (rest := [.double (4634204016564240384 : UInt64), .long (x_2 * (31 : Int64))]) ⟨hx, hb, hml, hown, hts⟩ (knX2_wit l G x0 s0 s1 s2 u0 u1 u2 v0 v1 v2 b0 b1 b2 b3 b4 b5 b6 tA wP nT aK lK sW rF dk wg op re uk_2 uw_2 uo_2 ur_2 vk_1 vw_1 vo_1 vr_1 kf ff sf df pf gf bn (0 : Int32) h) (cwV 1 hts (gdV q490 q491 q492 q1 q493) rfl rfl rfl (by decide +kernel) ⟨Nat.le_of_ble_eq_true rfl, Nat.le_of_ble_eq_true rfl⟩) (preV hPc hKK (va_recv hK hPc (ci := 5) (q0 := 0) rfl rfl)) rfl rfl hl.1 rfl (lv_room (Nat.le_of_ble_eq_true rfl)) dX2_digest_196 ⟨Nat.zero_le _, Nat.zero_le _⟩) (fun r_14 h => ?_)
          obtain ⟨hnn, h⟩ := h
          refine lv_dmul hx hb dX2_digest_199 hnn ?_
          refine lv_d2l hx hb dX2_digest_200 ?_
          refine lv_ladd hx hb dX2_digest_201 ?_
          refine lv_topl (fun x_3 ex_3 => ?_)
          have h := h x_3 ex_3
          refine lv_lstore_n hx hb dX2_digest_202 rfl hl (Nat.le_of_ble_eq_true rfl) rfl (fun ls hl => ?_)
          have hl : lv_has ls 5 [(1, .long x_3), (0, .ref x0), (3, .int i3)] := hl
          refine lv_lload_n hx hb dX2_digest_203 rfl (lv_at hl 0 rfl) ?_
          refine lv_ldc2 hx hb hown (hts _ q248) dX2_digest_204 ?_
          refine lv_lmul hx hb dX2_digest_207 ?_
          refine lv_aload_n hx hb dX2_digest_208 rfl (lv_at hl 1 rfl) ?_
          have hPc := hP
          refine rdI (va_runV (C := RX2) (As := []) (rest := [.long (x_3 * (31 : Int64))]) ⟨hx, hb, hml, hown, hts⟩ (kX2_isSound l G x0 s0 s1 s2 u0 u1 u2 v0 v1 v2 b0 b1 b2 b3 b4 b5 b6 tA wP nT aK lK sW rF dk wg op re uk_2 uw_2 uo_2 ur_2 vk_1 vw_1 vo_1 vr_1 kf ff sf df pf gf bn h) (cwV 0 hts (gdV q494 q219 q220 q1 q221) rfl rfl rfl (by decide +kernel) ⟨Nat.le_of_ble_eq_true rfl, Nat.le_of_ble_eq_true rfl⟩) (preV hPc hKK (va_recv hK hPc (ci := 5) (q0 := 0) rfl rfl)) rfl rfl hl.1 rfl (lv_room (Nat.le_of_ble_eq_true rfl)) dX2_digest_209 ⟨Nat.zero_le _, Nat.zero_le _⟩) (fun r_15 h => ?_)
          refine lv_if_eq (tgt := 219) hx hb dX2_digest_212 (by decide) (fun hc => ?_) (fun hc => ?_)
          · have h := h.1 hc
            refine lv_lconst (v := 0) hx hb dX2_digest_219 (by decide) ?_
            refine lv_ladd hx hb dX2_digest_220 ?_
            subst hQC; exact W.lret (v := ((x_3 * (31 : Int64)) + (0 : Int64))) hx hb hr (fun t ht hW => ⟨⟨_, (uk_2, uw_2, uo_2, ur_2, vk_1, vw_1, vo_1, vr_1), rfl, h, by rw [ht]; exact hP, hD⟩, hS.F ht⟩) hS.2.2 dX2_digest_221
          · have h := h.2 hc
            refine lv_lconst (v := 1) hx hb dX2_digest_215 (by decide) ?_
            refine lv_goto (tgt := 220) hx hb dX2_digest_216 (by decide) ?_
            refine lv_ladd hx hb dX2_digest_220 ?_
            subst hQC; exact W.lret (v := ((x_3 * (31 : Int64)) + (1 : Int64))) hx hb hr (fun t ht hW => ⟨⟨_, (uk_2, uw_2, uo_2, ur_2, vk_1, vw_1, vo_1, vr_1), rfl, h, by rw [ht]; exact hP, hD⟩, hS.F ht⟩) hS.2.2 dX2_digest_221
