theorem q1 : (Cond.initialized RX2) ∈ lwg := lwgR 1 (by decide +kernel) (by decide +kernel)
theorem q101 : (Cond.static yX2_setOf) ∈ lwg := lwgR 101 (by decide +kernel) (by decide +kernel)
theorem q102 : (Cond.code yX2_setOf cX2_setOf 1 (some .long)) ∈ lwg := lwgR 102 (by decide +kernel) (by decide +kernel)
theorem q108 : (Cond.static yX2_has) ∈ lwg := lwgR 108 (by decide +kernel) (by decide +kernel)
theorem q109 : (Cond.code yX2_has cX2_has 3 (some .boolean)) ∈ lwg := lwgR 109 (by decide +kernel) (by decide +kernel)
theorem q110 : (Cond.methodLink RX1 63 yX0_firstOf) ∈ lwg := lwgR 110 (by decide +kernel) (by decide +kernel)
theorem q111 : (Cond.instanceMethod yX0_firstOf) ∈ lwg := lwgR 111 (by decide +kernel) (by decide +kernel)
theorem q112 : (Cond.selects RX0 yX0_firstOf yX0_firstOf) ∈ lwg := lwgR 112 (by decide +kernel) (by decide +kernel)
theorem q113 : (Cond.code yX0_firstOf cX0_firstOf 2 (some .int)) ∈ lwg := lwgR 113 (by decide +kernel) (by decide +kernel)
theorem q114 : (Cond.methodLink RX0 39 yX0_holds) ∈ lwg := lwgR 114 (by decide +kernel) (by decide +kernel)
theorem q115 : (Cond.instanceMethod yX0_holds) ∈ lwg := lwgR 115 (by decide +kernel) (by decide +kernel)
theorem q116 : (Cond.selects RX0 yX0_holds yX0_holds) ∈ lwg := lwgR 116 (by decide +kernel) (by decide +kernel)
theorem q117 : (Cond.code yX0_holds cX0_holds 2 (some .boolean)) ∈ lwg := lwgR 117 (by decide +kernel) (by decide +kernel)
theorem q118 : (Cond.methodLink RX1 67 yX0_secondOf) ∈ lwg := lwgR 118 (by decide +kernel) (by decide +kernel)
theorem q119 : (Cond.instanceMethod yX0_secondOf) ∈ lwg := lwgR 119 (by decide +kernel) (by decide +kernel)
theorem q120 : (Cond.selects RX0 yX0_secondOf yX0_secondOf) ∈ lwg := lwgR 120 (by decide +kernel) (by decide +kernel)
theorem q121 : (Cond.code yX0_secondOf cX0_secondOf 2 (some .int)) ∈ lwg := lwgR 121 (by decide +kernel) (by decide +kernel)
theorem q122 : (Cond.methodLink RX1 70 yX0_kindOf) ∈ lwg := lwgR 122 (by decide +kernel) (by decide +kernel)
theorem q123 : (Cond.instanceMethod yX0_kindOf) ∈ lwg := lwgR 123 (by decide +kernel) (by decide +kernel)
theorem q124 : (Cond.selects RX0 yX0_kindOf yX0_kindOf) ∈ lwg := lwgR 124 (by decide +kernel) (by decide +kernel)
theorem q125 : (Cond.code yX0_kindOf cX0_kindOf 2 (some .int)) ∈ lwg := lwgR 125 (by decide +kernel) (by decide +kernel)
theorem q130 : (Cond.static yX2_isFact) ∈ lwg := lwgR 130 (by decide +kernel) (by decide +kernel)
theorem q131 : (Cond.code yX2_isFact cX2_isFact 1 (some .boolean)) ∈ lwg := lwgR 131 (by decide +kernel) (by decide +kernel)
theorem q134 : (Cond.methodLink RX1 77 yX1_worldsOf) ∈ lwg := lwgR 134 (by decide +kernel) (by decide +kernel)
theorem q135 : (Cond.instanceMethod yX1_worldsOf) ∈ lwg := lwgR 135 (by decide +kernel) (by decide +kernel)
theorem q136 : (Cond.selects RX1 yX1_worldsOf yX1_worldsOf) ∈ lwg := lwgR 136 (by decide +kernel) (by decide +kernel)
theorem q137 : (Cond.code yX1_worldsOf cX1_worldsOf 2 (some .long)) ∈ lwg := lwgR 137 (by decide +kernel) (by decide +kernel)
theorem q138 : (Cond.methodLink RX1 90 yX0_holds) ∈ lwg := lwgR 138 (by decide +kernel) (by decide +kernel)
theorem q139 : (Cond.methodLink RX1 80 yX1_knownToAll) ∈ lwg := lwgR 139 (by decide +kernel) (by decide +kernel)
theorem q141 : (Cond.instanceMethod yX1_knownToAll) ∈ lwg := lwgR 141 (by decide +kernel) (by decide +kernel)
theorem q142 : (Cond.code yX1_knownToAll cX1_knownToAll 4 (some .long)) ∈ lwg := lwgR 142 (by decide +kernel) (by decide +kernel)
theorem q143 : (Cond.methodLink RX1 101 yX1_spread) ∈ lwg := lwgR 143 (by decide +kernel) (by decide +kernel)
theorem q145 : (Cond.instanceMethod yX1_spread) ∈ lwg := lwgR 145 (by decide +kernel) (by decide +kernel)
theorem q146 : (Cond.code yX1_spread cX1_spread 12 (some .long)) ∈ lwg := lwgR 146 (by decide +kernel) (by decide +kernel)
theorem q148 : (Cond.static yX2_smallestOf) ∈ lwg := lwgR 148 (by decide +kernel) (by decide +kernel)
theorem q149 : (Cond.code yX2_smallestOf cX2_smallestOf 2 (some .int)) ∈ lwg := lwgR 149 (by decide +kernel) (by decide +kernel)
theorem q150 : (Cond.methodLink RX2 110 yJ13_bitCount_95d88) ∈ lwg := lwgR 150 (by decide +kernel) (by decide +kernel)
theorem q151 : (Cond.static yJ13_bitCount_95d88) ∈ lwg := lwgR 151 (by decide +kernel) (by decide +kernel)
theorem q152 : (Cond.code yJ13_bitCount_95d88 cJ13_bitCount_95d88 2 (some .int)) ∈ lwg := lwgR 152 (by decide +kernel) (by decide +kernel)
theorem q153 : (Cond.constantLong RJ13 314 (6148914691236517205)) ∈ lwg := lwgR 153 (by decide +kernel) (by decide +kernel)
theorem q154 : (Cond.constantLong RJ13 316 (3689348814741910323)) ∈ lwg := lwgR 154 (by decide +kernel) (by decide +kernel)
theorem q155 : (Cond.constantLong RJ13 318 (1085102592571150095)) ∈ lwg := lwgR 155 (by decide +kernel) (by decide +kernel)
theorem q156 : (Cond.methodLink RX1 93 yX1_cell) ∈ lwg := lwgR 156 (by decide +kernel) (by decide +kernel)
theorem q157 : (Cond.instanceMethod yX1_cell) ∈ lwg := lwgR 157 (by decide +kernel) (by decide +kernel)
theorem q158 : (Cond.selects RX1 yX1_cell yX1_cell) ∈ lwg := lwgR 158 (by decide +kernel) (by decide +kernel)
theorem q159 : (Cond.code yX1_cell cX1_cell 4 (some .long)) ∈ lwg := lwgR 159 (by decide +kernel) (by decide +kernel)
theorem q160 : (Cond.methodLink RX1 84 yX1_reached) ∈ lwg := lwgR 160 (by decide +kernel) (by decide +kernel)
theorem q162 : (Cond.instanceMethod yX1_reached) ∈ lwg := lwgR 162 (by decide +kernel) (by decide +kernel)
theorem q163 : (Cond.code yX1_reached cX1_reached 9 (some .long)) ∈ lwg := lwgR 163 (by decide +kernel) (by decide +kernel)
theorem q168 : (Cond.methodLink RX1 107 yX1_cellTogether) ∈ lwg := lwgR 168 (by decide +kernel) (by decide +kernel)
theorem q170 : (Cond.instanceMethod yX1_cellTogether) ∈ lwg := lwgR 170 (by decide +kernel) (by decide +kernel)
theorem q171 : (Cond.code yX1_cellTogether cX1_cellTogether 6 (some .long)) ∈ lwg := lwgR 171 (by decide +kernel) (by decide +kernel)
theorem q173 : (Cond.static yX2_isWithin) ∈ lwg := lwgR 173 (by decide +kernel) (by decide +kernel)
theorem q174 : (Cond.code yX2_isWithin cX2_isWithin 4 (some .boolean)) ∈ lwg := lwgR 174 (by decide +kernel) (by decide +kernel)
theorem q175 : (Cond.constantLong RX2 319 (-1)) ∈ lwg := lwgR 175 (by decide +kernel) (by decide +kernel)
theorem q2 : (Cond.initialized RX0) ∈ lwg := lwgR 2 (by decide +kernel) (by decide +kernel)
theorem q224 : (Cond.instanceMethod yX0_count) ∈ lwg := lwgR 224 (by decide +kernel) (by decide +kernel)
theorem q225 : (Cond.selects RX0 yX0_count yX0_count) ∈ lwg := lwgR 225 (by decide +kernel) (by decide +kernel)
theorem q226 : (Cond.code yX0_count cX0_count 1 (some .int)) ∈ lwg := lwgR 226 (by decide +kernel) (by decide +kernel)
theorem q23 : (Cond.initialized RJ6) ∈ lwg := lwgR 23 (by decide +kernel) (by decide +kernel)
theorem q231 : (Cond.methodLink RX1 137 yX1_knowersOf) ∈ lwg := lwgR 231 (by decide +kernel) (by decide +kernel)
theorem q232 : (Cond.instanceMethod yX1_knowersOf) ∈ lwg := lwgR 232 (by decide +kernel) (by decide +kernel)
theorem q233 : (Cond.selects RX1 yX1_knowersOf yX1_knowersOf) ∈ lwg := lwgR 233 (by decide +kernel) (by decide +kernel)
theorem q234 : (Cond.code yX1_knowersOf cX1_knowersOf 4 (some .int)) ∈ lwg := lwgR 234 (by decide +kernel) (by decide +kernel)
theorem q235 : (Cond.methodLink RX1 114 yX1_knows) ∈ lwg := lwgR 235 (by decide +kernel) (by decide +kernel)
theorem q236 : (Cond.instanceMethod yX1_knows) ∈ lwg := lwgR 236 (by decide +kernel) (by decide +kernel)
theorem q237 : (Cond.selects RX1 yX1_knows yX1_knows) ∈ lwg := lwgR 237 (by decide +kernel) (by decide +kernel)
theorem q238 : (Cond.code yX1_knows cX1_knows 3 (some .boolean)) ∈ lwg := lwgR 238 (by decide +kernel) (by decide +kernel)
theorem q239 : (Cond.methodLink RX1 140 yX1_isTrueInReal) ∈ lwg := lwgR 239 (by decide +kernel) (by decide +kernel)
theorem q240 : (Cond.instanceMethod yX1_isTrueInReal) ∈ lwg := lwgR 240 (by decide +kernel) (by decide +kernel)
theorem q241 : (Cond.selects RX1 yX1_isTrueInReal yX1_isTrueInReal) ∈ lwg := lwgR 241 (by decide +kernel) (by decide +kernel)
theorem q242 : (Cond.code yX1_isTrueInReal cX1_isTrueInReal 2 (some .boolean)) ∈ lwg := lwgR 242 (by decide +kernel) (by decide +kernel)
theorem q258 : (Cond.methodLink RX1 123 yX1_countTrueInAllOf) ∈ lwg := lwgR 258 (by decide +kernel) (by decide +kernel)
theorem q259 : (Cond.instanceMethod yX1_countTrueInAllOf) ∈ lwg := lwgR 259 (by decide +kernel) (by decide +kernel)
theorem q260 : (Cond.selects RX1 yX1_countTrueInAllOf yX1_countTrueInAllOf) ∈ lwg := lwgR 260 (by decide +kernel) (by decide +kernel)
theorem q261 : (Cond.code yX1_countTrueInAllOf cX1_countTrueInAllOf 5 (some .int)) ∈ lwg := lwgR 261 (by decide +kernel) (by decide +kernel)
theorem q262 : (Cond.methodLink RX1 126 yX0_count) ∈ lwg := lwgR 262 (by decide +kernel) (by decide +kernel)
theorem q272 : (Cond.methodLink RX1 133 yJ13_bitCount_95d88) ∈ lwg := lwgR 272 (by decide +kernel) (by decide +kernel)
theorem q3 : (Cond.initialized RX1) ∈ lwg := lwgR 3 (by decide +kernel) (by decide +kernel)
theorem q347 : (Cond.static yX2_isGuard) ∈ lwg := lwgR 347 (by decide +kernel) (by decide +kernel)
theorem q348 : (Cond.code yX2_isGuard cX2_isGuard 1 (some .boolean)) ∈ lwg := lwgR 348 (by decide +kernel) (by decide +kernel)
theorem q382 : (Cond.methodLink RX1 130 yX1_isAsSharpAs) ∈ lwg := lwgR 382 (by decide +kernel) (by decide +kernel)
theorem q384 : (Cond.instanceMethod yX1_isAsSharpAs) ∈ lwg := lwgR 384 (by decide +kernel) (by decide +kernel)
theorem q385 : (Cond.code yX1_isAsSharpAs cX1_isAsSharpAs 4 (some .boolean)) ∈ lwg := lwgR 385 (by decide +kernel) (by decide +kernel)
theorem q416 : (Cond.static yJ6_bitCount_0f7a4) ∈ lwg := lwgR 416 (by decide +kernel) (by decide +kernel)
theorem q417 : (Cond.code yJ6_bitCount_0f7a4 cJ6_bitCount_0f7a4 1 (some .int)) ∈ lwg := lwgR 417 (by decide +kernel) (by decide +kernel)
theorem q418 : (Cond.constant RJ6 265 (1431655765)) ∈ lwg := lwgR 418 (by decide +kernel) (by decide +kernel)
theorem q419 : (Cond.constant RJ6 266 (858993459)) ∈ lwg := lwgR 419 (by decide +kernel) (by decide +kernel)
theorem q420 : (Cond.constant RJ6 267 (252645135)) ∈ lwg := lwgR 420 (by decide +kernel) (by decide +kernel)
theorem q426 : (Cond.methodLink RX1 118 yJ6_bitCount_0f7a4) ∈ lwg := lwgR 426 (by decide +kernel) (by decide +kernel)
theorem q43 : (Cond.fieldLink RX0 9 "NightdeskRota$Book" "kinds" "[I") ∈ lwg := lwgR 43 (by decide +kernel) (by decide +kernel)
theorem q437 : (Cond.static yX2_isSetOfGuards) ∈ lwg := lwgR 437 (by decide +kernel) (by decide +kernel)
theorem q438 : (Cond.code yX2_isSetOfGuards cX2_isSetOfGuards 1 (some .boolean)) ∈ lwg := lwgR 438 (by decide +kernel) (by decide +kernel)
theorem q44 : (Cond.fieldLink RX0 15 "NightdeskRota$Book" "firsts" "[I") ∈ lwg := lwgR 44 (by decide +kernel) (by decide +kernel)
theorem q45 : (Cond.fieldLink RX0 18 "NightdeskRota$Book" "seconds" "[I") ∈ lwg := lwgR 45 (by decide +kernel) (by decide +kernel)
theorem q459 : (Cond.methodLink RX0 46 yX0_partsOf) ∈ lwg := lwgR 459 (by decide +kernel) (by decide +kernel)
theorem q46 : (Cond.fieldLink RX0 21 "NightdeskRota$Book" "depths" "[I") ∈ lwg := lwgR 46 (by decide +kernel) (by decide +kernel)
theorem q460 : (Cond.instanceMethod yX0_partsOf) ∈ lwg := lwgR 460 (by decide +kernel) (by decide +kernel)
theorem q461 : (Cond.selects RX0 yX0_partsOf yX0_partsOf) ∈ lwg := lwgR 461 (by decide +kernel) (by decide +kernel)
theorem q462 : (Cond.code yX0_partsOf cX0_partsOf 2 (some .long)) ∈ lwg := lwgR 462 (by decide +kernel) (by decide +kernel)
theorem q47 : (Cond.fieldLink RX0 24 "NightdeskRota$Book" "parts" "[J") ∈ lwg := lwgR 47 (by decide +kernel) (by decide +kernel)
theorem q48 : (Cond.fieldLink RX0 28 "NightdeskRota$Book" "speaking" "[J") ∈ lwg := lwgR 48 (by decide +kernel) (by decide +kernel)
theorem q49 : (Cond.fieldLink RX0 31 "NightdeskRota$Book" "size" "I") ∈ lwg := lwgR 49 (by decide +kernel) (by decide +kernel)
theorem q5 : (Cond.initialized RJ13) ∈ lwg := lwgR 5 (by decide +kernel) (by decide +kernel)
theorem q73 : (Cond.fieldLink RX1 18 "NightdeskRota$Scene" "book" "LNightdeskRota$Book;") ∈ lwg := lwgR 73 (by decide +kernel) (by decide +kernel)
theorem q74 : (Cond.fieldLink RX1 9 "NightdeskRota$Scene" "desks" "[J") ∈ lwg := lwgR 74 (by decide +kernel) (by decide +kernel)
theorem q75 : (Cond.fieldLink RX1 15 "NightdeskRota$Scene" "weighed" "[J") ∈ lwg := lwgR 75 (by decide +kernel) (by decide +kernel)
theorem q76 : (Cond.fieldLink RX1 28 "NightdeskRota$Scene" "open" "J") ∈ lwg := lwgR 76 (by decide +kernel) (by decide +kernel)
theorem q78 : (Cond.fieldLink RX1 22 "NightdeskRota$Scene" "real" "I") ∈ lwg := lwgR 78 (by decide +kernel) (by decide +kernel)
theorem q95 : (Cond.constantLong RX1 26 (-1)) ∈ lwg := lwgR 95 (by decide +kernel) (by decide +kernel)
theorem n100 : (Cond.methodLinkNest RX0 35 yX2_setOf "NightdeskRota") ∈ lwn := lwnR 100 (by decide +kernel) rfl
theorem n107 : (Cond.methodLinkNest RX1 52 yX2_has "NightdeskRota") ∈ lwn := lwnR 107 (by decide +kernel) rfl
theorem n147 : (Cond.methodLinkNest RX1 97 yX2_smallestOf "NightdeskRota") ∈ lwn := lwnR 147 (by decide +kernel) rfl
theorem n172 : (Cond.methodLinkNest RX1 110 yX2_isWithin "NightdeskRota") ∈ lwn := lwnR 172 (by decide +kernel) rfl
theorem n257 : (Cond.methodLinkNest RX1 104 yX2_setOf "NightdeskRota") ∈ lwn := lwnR 257 (by decide +kernel) rfl
theorem n458 : (Cond.methodLinkNest RX0 43 yX2_isGuard "NightdeskRota") ∈ lwn := lwnR 458 (by decide +kernel) rfl
theorem n532 : (Cond.methodLinkNest RX0 49 yX2_isFact "NightdeskRota") ∈ lwn := lwnR 532 (by decide +kernel) rfl
theorem n533 : (Cond.methodLinkNest RX0 52 yX2_isSetOfGuards "NightdeskRota") ∈ lwn := lwnR 533 (by decide +kernel) rfl
theorem n567 : (Cond.methodLinkNest RX0 73 yX2_has "NightdeskRota") ∈ lwn := lwnR 567 (by decide +kernel) rfl
theorem qs0 : (Cond.selects RX1 yX1_knownToAll yX1_knownToAll) ∈ lwg := lwgL 0 (by decide +kernel) (by decide +kernel)
theorem qs1 : (Cond.selects RX1 yX1_spread yX1_spread) ∈ lwg := lwgL 1 (by decide +kernel) (by decide +kernel)
theorem qs2 : (Cond.selects RX1 yX1_reached yX1_reached) ∈ lwg := lwgL 2 (by decide +kernel) (by decide +kernel)
theorem qs4 : (Cond.selects RX1 yX1_cellTogether yX1_cellTogether) ∈ lwg := lwgL 4 (by decide +kernel) (by decide +kernel)
theorem qs6 : (Cond.selects RX1 yX1_isAsSharpAs yX1_isAsSharpAs) ∈ lwg := lwgL 6 (by decide +kernel) (by decide +kernel)
theorem tsw_0_7 {x : Int32} (h0 : ¬ x = 0) (h1 : ¬ x = 1) (h2 : ¬ x = 2) (h3 : ¬ x = 3) (h4 : ¬ x = 4) (h5 : ¬ x = 5) (h6 : ¬ x = 6) (h7 : ¬ x = 7) : x.toInt < 0 ∨ 7 < x.toInt := by
  have e0 : x.toInt ≠ 0 := fun e => h0 (Int32.toInt_inj.mp (e.trans (by decide)))
  have e1 : x.toInt ≠ 1 := fun e => h1 (Int32.toInt_inj.mp (e.trans (by decide)))
  have e2 : x.toInt ≠ 2 := fun e => h2 (Int32.toInt_inj.mp (e.trans (by decide)))
  have e3 : x.toInt ≠ 3 := fun e => h3 (Int32.toInt_inj.mp (e.trans (by decide)))
  have e4 : x.toInt ≠ 4 := fun e => h4 (Int32.toInt_inj.mp (e.trans (by decide)))
  have e5 : x.toInt ≠ 5 := fun e => h5 (Int32.toInt_inj.mp (e.trans (by decide)))
  have e6 : x.toInt ≠ 6 := fun e => h6 (Int32.toInt_inj.mp (e.trans (by decide)))
  have e7 : x.toInt ≠ 7 := fun e => h7 (Int32.toInt_inj.mp (e.trans (by decide)))
  omega
theorem tsw_4_6 {x : Int32} (h4 : ¬ x = 4) (h5 : ¬ x = 5) (h6 : ¬ x = 6) : x.toInt < 4 ∨ 6 < x.toInt := by
  have e4 : x.toInt ≠ 4 := fun e => h4 (Int32.toInt_inj.mp (e.trans (by decide)))
  have e5 : x.toInt ≠ 5 := fun e => h5 (Int32.toInt_inj.mp (e.trans (by decide)))
  have e6 : x.toInt ≠ 6 := fun e => h6 (Int32.toInt_inj.mp (e.trans (by decide)))
  omega
theorem dX2_isGuard_0 : decode cX2_isGuard 0 = .ok (.iload_n 0, 1) := by decide +kernel
theorem dX2_isGuard_1 : decode cX2_isGuard 1 = .ok (.ifCond .lt 13, 3) := by decide +kernel
theorem dX2_isGuard_4 : decode cX2_isGuard 4 = .ok (.iload_n 0, 1) := by decide +kernel
theorem dX2_isGuard_5 : decode cX2_isGuard 5 = .ok (.bipush 6, 2) := by decide +kernel
theorem dX2_isGuard_7 : decode cX2_isGuard 7 = .ok (.if_icmp .ge 7, 3) := by decide +kernel
theorem dX2_isGuard_10 : decode cX2_isGuard 10 = .ok (.iconst 1, 1) := by decide +kernel
theorem dX2_isGuard_11 : decode cX2_isGuard 11 = .ok (.goto 4, 3) := by decide +kernel
theorem dX2_isGuard_14 : decode cX2_isGuard 14 = .ok (.iconst 0, 1) := by decide +kernel
theorem dX2_isGuard_15 : decode cX2_isGuard 15 = .ok (.ireturn, 1) := by decide +kernel
def wX2_isGuard (post : Int32 → Prop) (p1 : Int32) : Prop :=
  ((p1 < 0) →
    post (0 : Int32)
  ) ∧ (¬ (p1 < 0) →
    (((6 : Int32) ≤ p1) →
      post (0 : Int32)
    ) ∧ (¬ ((6 : Int32) ≤ p1) →
      post (1 : Int32)
    )
  )
abbrev wl_X2_isGuard : List Cond := .code yX2_isGuard cX2_isGuard 1 (some .boolean) :: lwg
abbrev rm_X2_isGuard : Room := { frames := 0, cells := 0, slots := 0, locals := 0 }
set_option maxHeartbeats 4000000 in
set_option maxRecDepth 100000 in
theorem kX2_isGuard {post : Int32 → Prop} (l : Launch) (G : GT) (p1 : Int32) (h : wX2_isGuard post p1) : Met l yX2_isGuard wl_X2_isGuard rm_X2_isGuard (va_Pc [.int p1] (fun U => PP G [] U.heap ∧ KK G U)) (vp_Si post) 0 0 (fun _ => False) := by
  refine Met.ofW (cc := cX2_isGuard) (maxL := 1) (ret := (some .boolean)) (by decide) rfl ?_
  intro p e s m args below meth c s₁ B hml hv
  obtain ⟨rfl, hP, hKK⟩ := hv
  obtain ⟨hK, hN, hR, hFW, hNC⟩ := id hKK
  have hx := B.exec
  have hb := B.bytes
  have hr := B.returns
  have hts0 := atoms_spec (ws := wl_X2_isGuard) B.pre
  have hts : ∀ w ∈ lwg, w.before ([.int p1] : List Value).toArray s = true := fun w hw => hts0 w (List.mem_cons_of_mem _ hw)
  have hown : s.vm.findClass RX2 = some m.cls := findClass_of_methodNamed B.named
  have hlocks := B.notSynchronized
  have hP : PP G [] s.heap := hP
  have hl := lv_entry ([.int p1]) (n := 1) (Nat.le_of_ble_eq_true rfl)
  rw [lg_entry_eq]
  generalize (lg_sl ([.int p1]) ++ List.replicate (1 - (lg_sl ([.int p1])).length) Slot.unset).toArray = ls at hl ⊢
  have hl : lv_has ls 1 [(0, .int p1)] := hl
  refine lv_iload_n hx hb dX2_isGuard_0 rfl (lv_at hl 0 rfl) ?_
  refine lv_if_lt (tgt := 14) hx hb dX2_isGuard_1 (by decide) (fun hc => ?_) (fun hc => ?_)
  · have h := h.1 hc
    refine lv_iconst (v := 0) hx hb dX2_isGuard_14 (by decide) ?_
    exact W.zret (v := (0 : Int32)) hx hb hr (by decide) (fun t ht _ => ⟨_, rfl, h, ht⟩) (fun _ hq => absurd hq List.not_mem_nil) dX2_isGuard_15
  · have h := h.2 hc
    refine lv_iload_n hx hb dX2_isGuard_4 rfl (lv_at hl 0 rfl) ?_
    refine lv_bipush (v := 6) hx hb dX2_isGuard_5 (by decide) ?_
    refine lv_icmp_ge (tgt := 14) hx hb dX2_isGuard_7 (by decide) (fun hc => ?_) (fun hc => ?_)
    · have h := h.1 hc
      refine lv_iconst (v := 0) hx hb dX2_isGuard_14 (by decide) ?_
      exact W.zret (v := (0 : Int32)) hx hb hr (by decide) (fun t ht _ => ⟨_, rfl, h, ht⟩) (fun _ hq => absurd hq List.not_mem_nil) dX2_isGuard_15
    · have h := h.2 hc
      refine lv_iconst (v := 1) hx hb dX2_isGuard_10 (by decide) ?_
      refine lv_goto (tgt := 15) hx hb dX2_isGuard_11 (by decide) ?_
      exact W.zret (v := (1 : Int32)) hx hb hr (by decide) (fun t ht _ => ⟨_, rfl, h, ht⟩) (fun _ hq => absurd hq List.not_mem_nil) dX2_isGuard_15
theorem dX2_isWorld_0 : decode cX2_isWorld 0 = .ok (.iload_n 0, 1) := by decide +kernel
theorem dX2_isWorld_1 : decode cX2_isWorld 1 = .ok (.ifCond .lt 13, 3) := by decide +kernel
theorem dX2_isWorld_4 : decode cX2_isWorld 4 = .ok (.iload_n 0, 1) := by decide +kernel
theorem dX2_isWorld_5 : decode cX2_isWorld 5 = .ok (.bipush 64, 2) := by decide +kernel
theorem dX2_isWorld_7 : decode cX2_isWorld 7 = .ok (.if_icmp .ge 7, 3) := by decide +kernel
theorem dX2_isWorld_10 : decode cX2_isWorld 10 = .ok (.iconst 1, 1) := by decide +kernel
theorem dX2_isWorld_11 : decode cX2_isWorld 11 = .ok (.goto 4, 3) := by decide +kernel
theorem dX2_isWorld_14 : decode cX2_isWorld 14 = .ok (.iconst 0, 1) := by decide +kernel
theorem dX2_isWorld_15 : decode cX2_isWorld 15 = .ok (.ireturn, 1) := by decide +kernel
def wX2_isWorld (post : Int32 → Prop) (p1 : Int32) : Prop :=
  ((p1 < 0) →
    post (0 : Int32)
  ) ∧ (¬ (p1 < 0) →
    (((64 : Int32) ≤ p1) →
      post (0 : Int32)
    ) ∧ (¬ ((64 : Int32) ≤ p1) →
      post (1 : Int32)
    )
  )
abbrev wl_X2_isWorld : List Cond := .code yX2_isWorld cX2_isWorld 1 (some .boolean) :: lwg
abbrev rm_X2_isWorld : Room := { frames := 0, cells := 0, slots := 0, locals := 0 }
set_option maxHeartbeats 4000000 in
set_option maxRecDepth 100000 in
theorem kX2_isWorld {post : Int32 → Prop} (l : Launch) (G : GT) (p1 : Int32) (h : wX2_isWorld post p1) : Met l yX2_isWorld wl_X2_isWorld rm_X2_isWorld (va_Pc [.int p1] (fun U => PP G [] U.heap ∧ KK G U)) (vp_Si post) 0 0 (fun _ => False) := by
  refine Met.ofW (cc := cX2_isWorld) (maxL := 1) (ret := (some .boolean)) (by decide) rfl ?_
  intro p e s m args below meth c s₁ B hml hv
  obtain ⟨rfl, hP, hKK⟩ := hv
  obtain ⟨hK, hN, hR, hFW, hNC⟩ := id hKK
  have hx := B.exec
  have hb := B.bytes
  have hr := B.returns
  have hts0 := atoms_spec (ws := wl_X2_isWorld) B.pre
  have hts : ∀ w ∈ lwg, w.before ([.int p1] : List Value).toArray s = true := fun w hw => hts0 w (List.mem_cons_of_mem _ hw)
  have hown : s.vm.findClass RX2 = some m.cls := findClass_of_methodNamed B.named
  have hlocks := B.notSynchronized
  have hP : PP G [] s.heap := hP
  have hl := lv_entry ([.int p1]) (n := 1) (Nat.le_of_ble_eq_true rfl)
  rw [lg_entry_eq]
  generalize (lg_sl ([.int p1]) ++ List.replicate (1 - (lg_sl ([.int p1])).length) Slot.unset).toArray = ls at hl ⊢
  have hl : lv_has ls 1 [(0, .int p1)] := hl
  refine lv_iload_n hx hb dX2_isWorld_0 rfl (lv_at hl 0 rfl) ?_
  refine lv_if_lt (tgt := 14) hx hb dX2_isWorld_1 (by decide) (fun hc => ?_) (fun hc => ?_)
  · have h := h.1 hc
    refine lv_iconst (v := 0) hx hb dX2_isWorld_14 (by decide) ?_
    exact W.zret (v := (0 : Int32)) hx hb hr (by decide) (fun t ht _ => ⟨_, rfl, h, ht⟩) (fun _ hq => absurd hq List.not_mem_nil) dX2_isWorld_15
  · have h := h.2 hc
    refine lv_iload_n hx hb dX2_isWorld_4 rfl (lv_at hl 0 rfl) ?_
    refine lv_bipush (v := 64) hx hb dX2_isWorld_5 (by decide) ?_
    refine lv_icmp_ge (tgt := 14) hx hb dX2_isWorld_7 (by decide) (fun hc => ?_) (fun hc => ?_)
    · have h := h.1 hc
      refine lv_iconst (v := 0) hx hb dX2_isWorld_14 (by decide) ?_
      exact W.zret (v := (0 : Int32)) hx hb hr (by decide) (fun t ht _ => ⟨_, rfl, h, ht⟩) (fun _ hq => absurd hq List.not_mem_nil) dX2_isWorld_15
    · have h := h.2 hc
      refine lv_iconst (v := 1) hx hb dX2_isWorld_10 (by decide) ?_
      refine lv_goto (tgt := 15) hx hb dX2_isWorld_11 (by decide) ?_
      exact W.zret (v := (1 : Int32)) hx hb hr (by decide) (fun t ht _ => ⟨_, rfl, h, ht⟩) (fun _ hq => absurd hq List.not_mem_nil) dX2_isWorld_15
theorem dX2_isFact_0 : decode cX2_isFact 0 = .ok (.iload_n 0, 1) := by decide +kernel
theorem dX2_isFact_1 : decode cX2_isFact 1 = .ok (.ifCond .lt 13, 3) := by decide +kernel
theorem dX2_isFact_4 : decode cX2_isFact 4 = .ok (.iload_n 0, 1) := by decide +kernel
theorem dX2_isFact_5 : decode cX2_isFact 5 = .ok (.bipush 6, 2) := by decide +kernel
theorem dX2_isFact_7 : decode cX2_isFact 7 = .ok (.if_icmp .ge 7, 3) := by decide +kernel
theorem dX2_isFact_10 : decode cX2_isFact 10 = .ok (.iconst 1, 1) := by decide +kernel
theorem dX2_isFact_11 : decode cX2_isFact 11 = .ok (.goto 4, 3) := by decide +kernel
theorem dX2_isFact_14 : decode cX2_isFact 14 = .ok (.iconst 0, 1) := by decide +kernel
theorem dX2_isFact_15 : decode cX2_isFact 15 = .ok (.ireturn, 1) := by decide +kernel
def wX2_isFact (post : Int32 → Prop) (p1 : Int32) : Prop :=
  ((p1 < 0) →
    post (0 : Int32)
  ) ∧ (¬ (p1 < 0) →
    (((6 : Int32) ≤ p1) →
      post (0 : Int32)
    ) ∧ (¬ ((6 : Int32) ≤ p1) →
      post (1 : Int32)
    )
  )
abbrev wl_X2_isFact : List Cond := .code yX2_isFact cX2_isFact 1 (some .boolean) :: lwg
abbrev rm_X2_isFact : Room := { frames := 0, cells := 0, slots := 0, locals := 0 }
set_option maxHeartbeats 4000000 in
set_option maxRecDepth 100000 in
theorem kX2_isFact {post : Int32 → Prop} (l : Launch) (G : GT) (p1 : Int32) (h : wX2_isFact post p1) : Met l yX2_isFact wl_X2_isFact rm_X2_isFact (va_Pc [.int p1] (fun U => PP G [] U.heap ∧ KK G U)) (vp_Si post) 0 0 (fun _ => False) := by
  refine Met.ofW (cc := cX2_isFact) (maxL := 1) (ret := (some .boolean)) (by decide) rfl ?_
  intro p e s m args below meth c s₁ B hml hv
  obtain ⟨rfl, hP, hKK⟩ := hv
  obtain ⟨hK, hN, hR, hFW, hNC⟩ := id hKK
  have hx := B.exec
  have hb := B.bytes
  have hr := B.returns
  have hts0 := atoms_spec (ws := wl_X2_isFact) B.pre
  have hts : ∀ w ∈ lwg, w.before ([.int p1] : List Value).toArray s = true := fun w hw => hts0 w (List.mem_cons_of_mem _ hw)
  have hown : s.vm.findClass RX2 = some m.cls := findClass_of_methodNamed B.named
  have hlocks := B.notSynchronized
  have hP : PP G [] s.heap := hP
  have hl := lv_entry ([.int p1]) (n := 1) (Nat.le_of_ble_eq_true rfl)
  rw [lg_entry_eq]
  generalize (lg_sl ([.int p1]) ++ List.replicate (1 - (lg_sl ([.int p1])).length) Slot.unset).toArray = ls at hl ⊢
  have hl : lv_has ls 1 [(0, .int p1)] := hl
  refine lv_iload_n hx hb dX2_isFact_0 rfl (lv_at hl 0 rfl) ?_
  refine lv_if_lt (tgt := 14) hx hb dX2_isFact_1 (by decide) (fun hc => ?_) (fun hc => ?_)
  · have h := h.1 hc
    refine lv_iconst (v := 0) hx hb dX2_isFact_14 (by decide) ?_
    exact W.zret (v := (0 : Int32)) hx hb hr (by decide) (fun t ht _ => ⟨_, rfl, h, ht⟩) (fun _ hq => absurd hq List.not_mem_nil) dX2_isFact_15
  · have h := h.2 hc
    refine lv_iload_n hx hb dX2_isFact_4 rfl (lv_at hl 0 rfl) ?_
    refine lv_bipush (v := 6) hx hb dX2_isFact_5 (by decide) ?_
    refine lv_icmp_ge (tgt := 14) hx hb dX2_isFact_7 (by decide) (fun hc => ?_) (fun hc => ?_)
    · have h := h.1 hc
      refine lv_iconst (v := 0) hx hb dX2_isFact_14 (by decide) ?_
      exact W.zret (v := (0 : Int32)) hx hb hr (by decide) (fun t ht _ => ⟨_, rfl, h, ht⟩) (fun _ hq => absurd hq List.not_mem_nil) dX2_isFact_15
    · have h := h.2 hc
      refine lv_iconst (v := 1) hx hb dX2_isFact_10 (by decide) ?_
      refine lv_goto (tgt := 15) hx hb dX2_isFact_11 (by decide) ?_
      exact W.zret (v := (1 : Int32)) hx hb hr (by decide) (fun t ht _ => ⟨_, rfl, h, ht⟩) (fun _ hq => absurd hq List.not_mem_nil) dX2_isFact_15
theorem dX2_isSetOfGuards_0 : decode cX2_isSetOfGuards 0 = .ok (.iload_n 0, 1) := by decide +kernel
theorem dX2_isSetOfGuards_1 : decode cX2_isSetOfGuards 1 = .ok (.iconst 1, 1) := by decide +kernel
theorem dX2_isSetOfGuards_2 : decode cX2_isSetOfGuards 2 = .ok (.if_icmp .lt 13, 3) := by decide +kernel
theorem dX2_isSetOfGuards_5 : decode cX2_isSetOfGuards 5 = .ok (.iload_n 0, 1) := by decide +kernel
theorem dX2_isSetOfGuards_6 : decode cX2_isSetOfGuards 6 = .ok (.bipush 63, 2) := by decide +kernel
theorem dX2_isSetOfGuards_8 : decode cX2_isSetOfGuards 8 = .ok (.if_icmp .gt 7, 3) := by decide +kernel
theorem dX2_isSetOfGuards_11 : decode cX2_isSetOfGuards 11 = .ok (.iconst 1, 1) := by decide +kernel
theorem dX2_isSetOfGuards_12 : decode cX2_isSetOfGuards 12 = .ok (.goto 4, 3) := by decide +kernel
theorem dX2_isSetOfGuards_15 : decode cX2_isSetOfGuards 15 = .ok (.iconst 0, 1) := by decide +kernel
theorem dX2_isSetOfGuards_16 : decode cX2_isSetOfGuards 16 = .ok (.ireturn, 1) := by decide +kernel
def wX2_isSetOfGuards (post : Int32 → Prop) (p1 : Int32) : Prop :=
  ((p1 < (1 : Int32)) →
    post (0 : Int32)
  ) ∧ (¬ (p1 < (1 : Int32)) →
    (((63 : Int32) < p1) →
      post (0 : Int32)
    ) ∧ (¬ ((63 : Int32) < p1) →
      post (1 : Int32)
    )
  )
abbrev wl_X2_isSetOfGuards : List Cond := .code yX2_isSetOfGuards cX2_isSetOfGuards 1 (some .boolean) :: lwg
abbrev rm_X2_isSetOfGuards : Room := { frames := 0, cells := 0, slots := 0, locals := 0 }
set_option maxHeartbeats 4000000 in
set_option maxRecDepth 100000 in
theorem kX2_isSetOfGuards {post : Int32 → Prop} (l : Launch) (G : GT) (p1 : Int32) (h : wX2_isSetOfGuards post p1) : Met l yX2_isSetOfGuards wl_X2_isSetOfGuards rm_X2_isSetOfGuards (va_Pc [.int p1] (fun U => PP G [] U.heap ∧ KK G U)) (vp_Si post) 0 0 (fun _ => False) := by
  refine Met.ofW (cc := cX2_isSetOfGuards) (maxL := 1) (ret := (some .boolean)) (by decide) rfl ?_
  intro p e s m args below meth c s₁ B hml hv
  obtain ⟨rfl, hP, hKK⟩ := hv
  obtain ⟨hK, hN, hR, hFW, hNC⟩ := id hKK
  have hx := B.exec
  have hb := B.bytes
  have hr := B.returns
  have hts0 := atoms_spec (ws := wl_X2_isSetOfGuards) B.pre
  have hts : ∀ w ∈ lwg, w.before ([.int p1] : List Value).toArray s = true := fun w hw => hts0 w (List.mem_cons_of_mem _ hw)
  have hown : s.vm.findClass RX2 = some m.cls := findClass_of_methodNamed B.named
  have hlocks := B.notSynchronized
  have hP : PP G [] s.heap := hP
  have hl := lv_entry ([.int p1]) (n := 1) (Nat.le_of_ble_eq_true rfl)
  rw [lg_entry_eq]
  generalize (lg_sl ([.int p1]) ++ List.replicate (1 - (lg_sl ([.int p1])).length) Slot.unset).toArray = ls at hl ⊢
  have hl : lv_has ls 1 [(0, .int p1)] := hl
  refine lv_iload_n hx hb dX2_isSetOfGuards_0 rfl (lv_at hl 0 rfl) ?_
  refine lv_iconst (v := 1) hx hb dX2_isSetOfGuards_1 (by decide) ?_
  refine lv_icmp_lt (tgt := 15) hx hb dX2_isSetOfGuards_2 (by decide) (fun hc => ?_) (fun hc => ?_)
  · have h := h.1 hc
    refine lv_iconst (v := 0) hx hb dX2_isSetOfGuards_15 (by decide) ?_
    exact W.zret (v := (0 : Int32)) hx hb hr (by decide) (fun t ht _ => ⟨_, rfl, h, ht⟩) (fun _ hq => absurd hq List.not_mem_nil) dX2_isSetOfGuards_16
  · have h := h.2 hc
    refine lv_iload_n hx hb dX2_isSetOfGuards_5 rfl (lv_at hl 0 rfl) ?_
    refine lv_bipush (v := 63) hx hb dX2_isSetOfGuards_6 (by decide) ?_
    refine lv_icmp_gt (tgt := 15) hx hb dX2_isSetOfGuards_8 (by decide) (fun hc => ?_) (fun hc => ?_)
    · have h := h.1 hc
      refine lv_iconst (v := 0) hx hb dX2_isSetOfGuards_15 (by decide) ?_
      exact W.zret (v := (0 : Int32)) hx hb hr (by decide) (fun t ht _ => ⟨_, rfl, h, ht⟩) (fun _ hq => absurd hq List.not_mem_nil) dX2_isSetOfGuards_16
    · have h := h.2 hc
      refine lv_iconst (v := 1) hx hb dX2_isSetOfGuards_11 (by decide) ?_
      refine lv_goto (tgt := 16) hx hb dX2_isSetOfGuards_12 (by decide) ?_
      exact W.zret (v := (1 : Int32)) hx hb hr (by decide) (fun t ht _ => ⟨_, rfl, h, ht⟩) (fun _ hq => absurd hq List.not_mem_nil) dX2_isSetOfGuards_16
theorem dX2_has_0 : decode cX2_has 0 = .ok (.lload_n 0, 1) := by decide +kernel
theorem dX2_has_1 : decode cX2_has 1 = .ok (.iload_n 2, 1) := by decide +kernel
theorem dX2_has_2 : decode cX2_has 2 = .ok (.lushr, 1) := by decide +kernel
theorem dX2_has_3 : decode cX2_has 3 = .ok (.lconst 1, 1) := by decide +kernel
theorem dX2_has_4 : decode cX2_has 4 = .ok (.land, 1) := by decide +kernel
theorem dX2_has_5 : decode cX2_has 5 = .ok (.lconst 0, 1) := by decide +kernel
theorem dX2_has_6 : decode cX2_has 6 = .ok (.lcmp, 1) := by decide +kernel
theorem dX2_has_7 : decode cX2_has 7 = .ok (.ifCond .eq 7, 3) := by decide +kernel
theorem dX2_has_10 : decode cX2_has 10 = .ok (.iconst 1, 1) := by decide +kernel
theorem dX2_has_11 : decode cX2_has 11 = .ok (.goto 4, 3) := by decide +kernel
theorem dX2_has_14 : decode cX2_has 14 = .ok (.iconst 0, 1) := by decide +kernel
theorem dX2_has_15 : decode cX2_has 15 = .ok (.ireturn, 1) := by decide +kernel
def wX2_has (post : Int32 → Prop) (p1 : Int64) (p2 : Int32) : Prop :=
  (((lg_cmp ((jLushr p1 p2) &&& (1 : Int64)) (0 : Int64)) = 0) →
    post (0 : Int32)
  ) ∧ (¬ ((lg_cmp ((jLushr p1 p2) &&& (1 : Int64)) (0 : Int64)) = 0) →
    post (1 : Int32)
  )
abbrev wl_X2_has : List Cond := .code yX2_has cX2_has 3 (some .boolean) :: lwg
abbrev rm_X2_has : Room := { frames := 0, cells := 0, slots := 0, locals := 0 }
set_option maxHeartbeats 4000000 in
set_option maxRecDepth 100000 in
theorem kX2_has {post : Int32 → Prop} (l : Launch) (G : GT) (p1 : Int64) (p2 : Int32) (h : wX2_has post p1 p2) : Met l yX2_has wl_X2_has rm_X2_has (va_Pc [.long p1, .int p2] (fun U => PP G [] U.heap ∧ KK G U)) (vp_Si post) 0 0 (fun _ => False) := by
  refine Met.ofW (cc := cX2_has) (maxL := 3) (ret := (some .boolean)) (by decide) rfl ?_
  intro p e s m args below meth c s₁ B hml hv
  obtain ⟨rfl, hP, hKK⟩ := hv
  obtain ⟨hK, hN, hR, hFW, hNC⟩ := id hKK
  have hx := B.exec
  have hb := B.bytes
  have hr := B.returns
  have hts0 := atoms_spec (ws := wl_X2_has) B.pre
  have hts : ∀ w ∈ lwg, w.before ([.long p1, .int p2] : List Value).toArray s = true := fun w hw => hts0 w (List.mem_cons_of_mem _ hw)
  have hown : s.vm.findClass RX2 = some m.cls := findClass_of_methodNamed B.named
  have hlocks := B.notSynchronized
  have hP : PP G [] s.heap := hP
  have hl := lv_entry ([.long p1, .int p2]) (n := 3) (Nat.le_of_ble_eq_true rfl)
  rw [lg_entry_eq]
  generalize (lg_sl ([.long p1, .int p2]) ++ List.replicate (3 - (lg_sl ([.long p1, .int p2])).length) Slot.unset).toArray = ls at hl ⊢
  have hl : lv_has ls 3 [(0, .long p1), (2, .int p2)] := hl
  refine lv_lload_n hx hb dX2_has_0 rfl (lv_at hl 0 rfl) ?_
  refine lv_iload_n hx hb dX2_has_1 rfl (lv_at hl 1 rfl) ?_
  refine lv_lushr (v := (jLushr p1 p2)) hx hb dX2_has_2 rfl ?_
  refine lv_lconst (v := 1) hx hb dX2_has_3 (by decide) ?_
  refine lv_land hx hb dX2_has_4 ?_
  refine lv_lconst (v := 0) hx hb dX2_has_5 (by decide) ?_
  refine W.lcmp hx hb dX2_has_6 ?_
  refine lv_if_eq (tgt := 14) hx hb dX2_has_7 (by decide) (fun hc => ?_) (fun hc => ?_)
  · have h := h.1 hc
    refine lv_iconst (v := 0) hx hb dX2_has_14 (by decide) ?_
    exact W.zret (v := (0 : Int32)) hx hb hr (by decide) (fun t ht _ => ⟨_, rfl, h, ht⟩) (fun _ hq => absurd hq List.not_mem_nil) dX2_has_15
  · have h := h.2 hc
    refine lv_iconst (v := 1) hx hb dX2_has_10 (by decide) ?_
    refine lv_goto (tgt := 15) hx hb dX2_has_11 (by decide) ?_
    exact W.zret (v := (1 : Int32)) hx hb hr (by decide) (fun t ht _ => ⟨_, rfl, h, ht⟩) (fun _ hq => absurd hq List.not_mem_nil) dX2_has_15
theorem dX2_isWithin_0 : decode cX2_isWithin 0 = .ok (.lload_n 0, 1) := by decide +kernel
theorem dX2_isWithin_1 : decode cX2_isWithin 1 = .ok (.lload_n 2, 1) := by decide +kernel
theorem dX2_isWithin_2 : decode cX2_isWithin 2 = .ok (.ldc2_w 319, 3) := by decide +kernel
theorem dX2_isWithin_5 : decode cX2_isWithin 5 = .ok (.lxor, 1) := by decide +kernel
theorem dX2_isWithin_6 : decode cX2_isWithin 6 = .ok (.land, 1) := by decide +kernel
theorem dX2_isWithin_7 : decode cX2_isWithin 7 = .ok (.lconst 0, 1) := by decide +kernel
theorem dX2_isWithin_8 : decode cX2_isWithin 8 = .ok (.lcmp, 1) := by decide +kernel
theorem dX2_isWithin_9 : decode cX2_isWithin 9 = .ok (.ifCond .ne 7, 3) := by decide +kernel
theorem dX2_isWithin_12 : decode cX2_isWithin 12 = .ok (.iconst 1, 1) := by decide +kernel
theorem dX2_isWithin_13 : decode cX2_isWithin 13 = .ok (.goto 4, 3) := by decide +kernel
theorem dX2_isWithin_16 : decode cX2_isWithin 16 = .ok (.iconst 0, 1) := by decide +kernel
theorem dX2_isWithin_17 : decode cX2_isWithin 17 = .ok (.ireturn, 1) := by decide +kernel
def wX2_isWithin (post : Int32 → Prop) (p1 : Int64) (p2 : Int64) : Prop :=
  ((¬ (lg_cmp (p1 &&& (p2 ^^^ (-1 : Int64))) (0 : Int64)) = 0) →
    post (0 : Int32)
  ) ∧ (((lg_cmp (p1 &&& (p2 ^^^ (-1 : Int64))) (0 : Int64)) = 0) →
    post (1 : Int32)
  )
abbrev wl_X2_isWithin : List Cond := .code yX2_isWithin cX2_isWithin 4 (some .boolean) :: lwg
abbrev rm_X2_isWithin : Room := { frames := 0, cells := 0, slots := 0, locals := 0 }
set_option maxHeartbeats 4000000 in
set_option maxRecDepth 100000 in
theorem kX2_isWithin {post : Int32 → Prop} (l : Launch) (G : GT) (p1 : Int64) (p2 : Int64) (h : wX2_isWithin post p1 p2) : Met l yX2_isWithin wl_X2_isWithin rm_X2_isWithin (va_Pc [.long p1, .long p2] (fun U => PP G [] U.heap ∧ KK G U)) (vp_Si post) 0 0 (fun _ => False) := by
  refine Met.ofW (cc := cX2_isWithin) (maxL := 4) (ret := (some .boolean)) (by decide) rfl ?_
  intro p e s m args below meth c s₁ B hml hv
  obtain ⟨rfl, hP, hKK⟩ := hv
  obtain ⟨hK, hN, hR, hFW, hNC⟩ := id hKK
  have hx := B.exec
  have hb := B.bytes
  have hr := B.returns
  have hts0 := atoms_spec (ws := wl_X2_isWithin) B.pre
  have hts : ∀ w ∈ lwg, w.before ([.long p1, .long p2] : List Value).toArray s = true := fun w hw => hts0 w (List.mem_cons_of_mem _ hw)
  have hown : s.vm.findClass RX2 = some m.cls := findClass_of_methodNamed B.named
  have hlocks := B.notSynchronized
  have hP : PP G [] s.heap := hP
  have hl := lv_entry ([.long p1, .long p2]) (n := 4) (Nat.le_of_ble_eq_true rfl)
  rw [lg_entry_eq]
  generalize (lg_sl ([.long p1, .long p2]) ++ List.replicate (4 - (lg_sl ([.long p1, .long p2])).length) Slot.unset).toArray = ls at hl ⊢
  have hl : lv_has ls 4 [(0, .long p1), (2, .long p2)] := hl
  refine lv_lload_n hx hb dX2_isWithin_0 rfl (lv_at hl 0 rfl) ?_
  refine lv_lload_n hx hb dX2_isWithin_1 rfl (lv_at hl 1 rfl) ?_
  refine lv_ldc2 hx hb hown (hts _ q175) dX2_isWithin_2 ?_
  refine lv_lxor hx hb dX2_isWithin_5 ?_
  refine lv_land hx hb dX2_isWithin_6 ?_
  refine lv_lconst (v := 0) hx hb dX2_isWithin_7 (by decide) ?_
  refine W.lcmp hx hb dX2_isWithin_8 ?_
  refine lv_if_ne (tgt := 16) hx hb dX2_isWithin_9 (by decide) (fun hc => ?_) (fun hc => ?_)
  · have h := h.1 hc
    refine lv_iconst (v := 0) hx hb dX2_isWithin_16 (by decide) ?_
    exact W.zret (v := (0 : Int32)) hx hb hr (by decide) (fun t ht _ => ⟨_, rfl, h, ht⟩) (fun _ hq => absurd hq List.not_mem_nil) dX2_isWithin_17
  · have h := h.2 hc
    refine lv_iconst (v := 1) hx hb dX2_isWithin_12 (by decide) ?_
    refine lv_goto (tgt := 17) hx hb dX2_isWithin_13 (by decide) ?_
    exact W.zret (v := (1 : Int32)) hx hb hr (by decide) (fun t ht _ => ⟨_, rfl, h, ht⟩) (fun _ hq => absurd hq List.not_mem_nil) dX2_isWithin_17
theorem dX2_setOf_0 : decode cX2_setOf 0 = .ok (.lconst 1, 1) := by decide +kernel
theorem dX2_setOf_1 : decode cX2_setOf 1 = .ok (.iload_n 0, 1) := by decide +kernel
theorem dX2_setOf_2 : decode cX2_setOf 2 = .ok (.lshl, 1) := by decide +kernel
theorem dX2_setOf_3 : decode cX2_setOf 3 = .ok (.lreturn, 1) := by decide +kernel
def wX2_setOf (post : Int64 → Prop) (p1 : Int32) : Prop :=
  post (jLshl (1 : Int64) p1)
abbrev wl_X2_setOf : List Cond := .code yX2_setOf cX2_setOf 1 (some .long) :: lwg
abbrev rm_X2_setOf : Room := { frames := 0, cells := 0, slots := 0, locals := 0 }
set_option maxHeartbeats 4000000 in
set_option maxRecDepth 100000 in
theorem kX2_setOf {post : Int64 → Prop} (l : Launch) (G : GT) (p1 : Int32) (h : wX2_setOf post p1) : Met l yX2_setOf wl_X2_setOf rm_X2_setOf (va_Pc [.int p1] (fun U => PP G [] U.heap ∧ KK G U)) (vp_Sl post) 0 0 (fun _ => False) := by
  refine Met.ofW (cc := cX2_setOf) (maxL := 1) (ret := (some .long)) (by decide) rfl ?_
  intro p e s m args below meth c s₁ B hml hv
  obtain ⟨rfl, hP, hKK⟩ := hv
  obtain ⟨hK, hN, hR, hFW, hNC⟩ := id hKK
  have hx := B.exec
  have hb := B.bytes
  have hr := B.returns
  have hts0 := atoms_spec (ws := wl_X2_setOf) B.pre
  have hts : ∀ w ∈ lwg, w.before ([.int p1] : List Value).toArray s = true := fun w hw => hts0 w (List.mem_cons_of_mem _ hw)
  have hown : s.vm.findClass RX2 = some m.cls := findClass_of_methodNamed B.named
  have hlocks := B.notSynchronized
  have hP : PP G [] s.heap := hP
  have hl := lv_entry ([.int p1]) (n := 1) (Nat.le_of_ble_eq_true rfl)
  rw [lg_entry_eq]
  generalize (lg_sl ([.int p1]) ++ List.replicate (1 - (lg_sl ([.int p1])).length) Slot.unset).toArray = ls at hl ⊢
  have hl : lv_has ls 1 [(0, .int p1)] := hl
  refine lv_lconst (v := 1) hx hb dX2_setOf_0 (by decide) ?_
  refine lv_iload_n hx hb dX2_setOf_1 rfl (lv_at hl 0 rfl) ?_
  refine lv_lshl (v := (jLshl (1 : Int64) p1)) hx hb dX2_setOf_2 rfl ?_
  exact W.lret (v := (jLshl (1 : Int64) p1)) hx hb hr (fun t ht _ => ⟨_, rfl, h, ht⟩) (fun _ hq => absurd hq List.not_mem_nil) dX2_setOf_3
theorem dJ13_bitCount_95d88_0 : decode cJ13_bitCount_95d88 0 = .ok (.lload_n 0, 1) := by decide +kernel
theorem dJ13_bitCount_95d88_1 : decode cJ13_bitCount_95d88 1 = .ok (.lload_n 0, 1) := by decide +kernel
theorem dJ13_bitCount_95d88_2 : decode cJ13_bitCount_95d88 2 = .ok (.iconst 1, 1) := by decide +kernel
theorem dJ13_bitCount_95d88_3 : decode cJ13_bitCount_95d88 3 = .ok (.lushr, 1) := by decide +kernel
theorem dJ13_bitCount_95d88_4 : decode cJ13_bitCount_95d88 4 = .ok (.ldc2_w 314, 3) := by decide +kernel
theorem dJ13_bitCount_95d88_7 : decode cJ13_bitCount_95d88 7 = .ok (.land, 1) := by decide +kernel
theorem dJ13_bitCount_95d88_8 : decode cJ13_bitCount_95d88 8 = .ok (.lsub, 1) := by decide +kernel
theorem dJ13_bitCount_95d88_9 : decode cJ13_bitCount_95d88 9 = .ok (.lstore_n 0, 1) := by decide +kernel
theorem dJ13_bitCount_95d88_10 : decode cJ13_bitCount_95d88 10 = .ok (.lload_n 0, 1) := by decide +kernel
theorem dJ13_bitCount_95d88_11 : decode cJ13_bitCount_95d88 11 = .ok (.ldc2_w 316, 3) := by decide +kernel
theorem dJ13_bitCount_95d88_14 : decode cJ13_bitCount_95d88 14 = .ok (.land, 1) := by decide +kernel
theorem dJ13_bitCount_95d88_15 : decode cJ13_bitCount_95d88 15 = .ok (.lload_n 0, 1) := by decide +kernel
theorem dJ13_bitCount_95d88_16 : decode cJ13_bitCount_95d88 16 = .ok (.iconst 2, 1) := by decide +kernel
theorem dJ13_bitCount_95d88_17 : decode cJ13_bitCount_95d88 17 = .ok (.lushr, 1) := by decide +kernel
theorem dJ13_bitCount_95d88_18 : decode cJ13_bitCount_95d88 18 = .ok (.ldc2_w 316, 3) := by decide +kernel
theorem dJ13_bitCount_95d88_21 : decode cJ13_bitCount_95d88 21 = .ok (.land, 1) := by decide +kernel
theorem dJ13_bitCount_95d88_22 : decode cJ13_bitCount_95d88 22 = .ok (.ladd, 1) := by decide +kernel
theorem dJ13_bitCount_95d88_23 : decode cJ13_bitCount_95d88 23 = .ok (.lstore_n 0, 1) := by decide +kernel
theorem dJ13_bitCount_95d88_24 : decode cJ13_bitCount_95d88 24 = .ok (.lload_n 0, 1) := by decide +kernel
theorem dJ13_bitCount_95d88_25 : decode cJ13_bitCount_95d88 25 = .ok (.lload_n 0, 1) := by decide +kernel
theorem dJ13_bitCount_95d88_26 : decode cJ13_bitCount_95d88 26 = .ok (.iconst 4, 1) := by decide +kernel
theorem dJ13_bitCount_95d88_27 : decode cJ13_bitCount_95d88 27 = .ok (.lushr, 1) := by decide +kernel
theorem dJ13_bitCount_95d88_28 : decode cJ13_bitCount_95d88 28 = .ok (.ladd, 1) := by decide +kernel
theorem dJ13_bitCount_95d88_29 : decode cJ13_bitCount_95d88 29 = .ok (.ldc2_w 318, 3) := by decide +kernel
theorem dJ13_bitCount_95d88_32 : decode cJ13_bitCount_95d88 32 = .ok (.land, 1) := by decide +kernel
theorem dJ13_bitCount_95d88_33 : decode cJ13_bitCount_95d88 33 = .ok (.lstore_n 0, 1) := by decide +kernel
theorem dJ13_bitCount_95d88_34 : decode cJ13_bitCount_95d88 34 = .ok (.lload_n 0, 1) := by decide +kernel
theorem dJ13_bitCount_95d88_35 : decode cJ13_bitCount_95d88 35 = .ok (.lload_n 0, 1) := by decide +kernel
theorem dJ13_bitCount_95d88_36 : decode cJ13_bitCount_95d88 36 = .ok (.bipush 8, 2) := by decide +kernel
theorem dJ13_bitCount_95d88_38 : decode cJ13_bitCount_95d88 38 = .ok (.lushr, 1) := by decide +kernel
theorem dJ13_bitCount_95d88_39 : decode cJ13_bitCount_95d88 39 = .ok (.ladd, 1) := by decide +kernel
theorem dJ13_bitCount_95d88_40 : decode cJ13_bitCount_95d88 40 = .ok (.lstore_n 0, 1) := by decide +kernel
theorem dJ13_bitCount_95d88_41 : decode cJ13_bitCount_95d88 41 = .ok (.lload_n 0, 1) := by decide +kernel
theorem dJ13_bitCount_95d88_42 : decode cJ13_bitCount_95d88 42 = .ok (.lload_n 0, 1) := by decide +kernel
theorem dJ13_bitCount_95d88_43 : decode cJ13_bitCount_95d88 43 = .ok (.bipush 16, 2) := by decide +kernel
theorem dJ13_bitCount_95d88_45 : decode cJ13_bitCount_95d88 45 = .ok (.lushr, 1) := by decide +kernel
theorem dJ13_bitCount_95d88_46 : decode cJ13_bitCount_95d88 46 = .ok (.ladd, 1) := by decide +kernel
theorem dJ13_bitCount_95d88_47 : decode cJ13_bitCount_95d88 47 = .ok (.lstore_n 0, 1) := by decide +kernel
theorem dJ13_bitCount_95d88_48 : decode cJ13_bitCount_95d88 48 = .ok (.lload_n 0, 1) := by decide +kernel
theorem dJ13_bitCount_95d88_49 : decode cJ13_bitCount_95d88 49 = .ok (.lload_n 0, 1) := by decide +kernel
theorem dJ13_bitCount_95d88_50 : decode cJ13_bitCount_95d88 50 = .ok (.bipush 32, 2) := by decide +kernel
theorem dJ13_bitCount_95d88_52 : decode cJ13_bitCount_95d88 52 = .ok (.lushr, 1) := by decide +kernel
theorem dJ13_bitCount_95d88_53 : decode cJ13_bitCount_95d88 53 = .ok (.ladd, 1) := by decide +kernel
theorem dJ13_bitCount_95d88_54 : decode cJ13_bitCount_95d88 54 = .ok (.lstore_n 0, 1) := by decide +kernel
theorem dJ13_bitCount_95d88_55 : decode cJ13_bitCount_95d88 55 = .ok (.lload_n 0, 1) := by decide +kernel
theorem dJ13_bitCount_95d88_56 : decode cJ13_bitCount_95d88 56 = .ok (.l2i, 1) := by decide +kernel
theorem dJ13_bitCount_95d88_57 : decode cJ13_bitCount_95d88 57 = .ok (.bipush 127, 2) := by decide +kernel
theorem dJ13_bitCount_95d88_59 : decode cJ13_bitCount_95d88 59 = .ok (.iand, 1) := by decide +kernel
theorem dJ13_bitCount_95d88_60 : decode cJ13_bitCount_95d88 60 = .ok (.ireturn, 1) := by decide +kernel
def wJ13_bitCount_95d88 (post : Int32 → Prop) (p1 : Int64) : Prop :=
  ∀ x_1 : Int64, x_1 = (p1 - ((jLushr p1 (1 : Int32)) &&& (6148914691236517205 : Int64))) →
  ∀ x_2 : Int64, x_2 = ((x_1 &&& (3689348814741910323 : Int64)) + ((jLushr x_1 (2 : Int32)) &&& (3689348814741910323 : Int64))) →
  ∀ x_3 : Int64, x_3 = ((x_2 + (jLushr x_2 (4 : Int32))) &&& (1085102592571150095 : Int64)) →
  ∀ x_4 : Int64, x_4 = ((x_3 + (jLushr x_3 (8 : Int32))) + (jLushr (x_3 + (jLushr x_3 (8 : Int32))) (16 : Int32))) →
  post (((x_4 + (jLushr x_4 (32 : Int32))).toInt32) &&& (127 : Int32))
abbrev wl_J13_bitCount_95d88 : List Cond := .code yJ13_bitCount_95d88 cJ13_bitCount_95d88 2 (some .int) :: lwg
abbrev rm_J13_bitCount_95d88 : Room := { frames := 0, cells := 0, slots := 0, locals := 0 }
set_option maxHeartbeats 4000000 in
set_option maxRecDepth 100000 in
theorem kJ13_bitCount_95d88 {post : Int32 → Prop} (l : Launch) (G : GT) (p1 : Int64) (h : wJ13_bitCount_95d88 post p1) : Met l yJ13_bitCount_95d88 wl_J13_bitCount_95d88 rm_J13_bitCount_95d88 (va_Pc [.long p1] (fun U => PP G [] U.heap ∧ KK G U)) (vp_Si post) 0 0 (fun _ => False) := by
  refine Met.ofW (cc := cJ13_bitCount_95d88) (maxL := 2) (ret := (some .int)) (by decide) rfl ?_
  intro p e s m args below meth c s₁ B hml hv
  obtain ⟨rfl, hP, hKK⟩ := hv
  obtain ⟨hK, hN, hR, hFW, hNC⟩ := id hKK
  have hx := B.exec
  have hb := B.bytes
  have hr := B.returns
  have hts0 := atoms_spec (ws := wl_J13_bitCount_95d88) B.pre
  have hts : ∀ w ∈ lwg, w.before ([.long p1] : List Value).toArray s = true := fun w hw => hts0 w (List.mem_cons_of_mem _ hw)
  have hown : s.vm.findClass RJ13 = some m.cls := findClass_of_methodNamed B.named
  have hlocks := B.notSynchronized
  have hP : PP G [] s.heap := hP
  have hl := lv_entry ([.long p1]) (n := 2) (Nat.le_of_ble_eq_true rfl)
  rw [lg_entry_eq]
  generalize (lg_sl ([.long p1]) ++ List.replicate (2 - (lg_sl ([.long p1])).length) Slot.unset).toArray = ls at hl ⊢
  have hl : lv_has ls 2 [(0, .long p1)] := hl
  refine lv_lload_n hx hb dJ13_bitCount_95d88_0 rfl (lv_at hl 0 rfl) ?_
  refine lv_lload_n hx hb dJ13_bitCount_95d88_1 rfl (lv_at hl 0 rfl) ?_
  refine lv_iconst (v := 1) hx hb dJ13_bitCount_95d88_2 (by decide) ?_
  refine lv_lushr (v := (jLushr p1 (1 : Int32))) hx hb dJ13_bitCount_95d88_3 rfl ?_
  refine lv_ldc2 hx hb hown (hts _ q153) dJ13_bitCount_95d88_4 ?_
  refine lv_land hx hb dJ13_bitCount_95d88_7 ?_
  refine lv_lsub hx hb dJ13_bitCount_95d88_8 ?_
  refine lv_topl (fun x_1 ex_1 => ?_)
  have h := h x_1 ex_1
  refine lv_lstore_n hx hb dJ13_bitCount_95d88_9 rfl hl (Nat.le_of_ble_eq_true rfl) rfl (fun ls hl => ?_)
  have hl : lv_has ls 2 [(0, .long x_1)] := hl
  refine lv_lload_n hx hb dJ13_bitCount_95d88_10 rfl (lv_at hl 0 rfl) ?_
  refine lv_ldc2 hx hb hown (hts _ q154) dJ13_bitCount_95d88_11 ?_
  refine lv_land hx hb dJ13_bitCount_95d88_14 ?_
  refine lv_lload_n hx hb dJ13_bitCount_95d88_15 rfl (lv_at hl 0 rfl) ?_
  refine lv_iconst (v := 2) hx hb dJ13_bitCount_95d88_16 (by decide) ?_
  refine lv_lushr (v := (jLushr x_1 (2 : Int32))) hx hb dJ13_bitCount_95d88_17 rfl ?_
  refine lv_ldc2 hx hb hown (hts _ q154) dJ13_bitCount_95d88_18 ?_
  refine lv_land hx hb dJ13_bitCount_95d88_21 ?_
  refine lv_ladd hx hb dJ13_bitCount_95d88_22 ?_
  refine lv_topl (fun x_2 ex_2 => ?_)
  have h := h x_2 ex_2
  refine lv_lstore_n hx hb dJ13_bitCount_95d88_23 rfl hl (Nat.le_of_ble_eq_true rfl) rfl (fun ls hl => ?_)
  have hl : lv_has ls 2 [(0, .long x_2)] := hl
  refine lv_lload_n hx hb dJ13_bitCount_95d88_24 rfl (lv_at hl 0 rfl) ?_
  refine lv_lload_n hx hb dJ13_bitCount_95d88_25 rfl (lv_at hl 0 rfl) ?_
  refine lv_iconst (v := 4) hx hb dJ13_bitCount_95d88_26 (by decide) ?_
  refine lv_lushr (v := (jLushr x_2 (4 : Int32))) hx hb dJ13_bitCount_95d88_27 rfl ?_
  refine lv_ladd hx hb dJ13_bitCount_95d88_28 ?_
  refine lv_ldc2 hx hb hown (hts _ q155) dJ13_bitCount_95d88_29 ?_
  refine lv_land hx hb dJ13_bitCount_95d88_32 ?_
  refine lv_topl (fun x_3 ex_3 => ?_)
  have h := h x_3 ex_3
  refine lv_lstore_n hx hb dJ13_bitCount_95d88_33 rfl hl (Nat.le_of_ble_eq_true rfl) rfl (fun ls hl => ?_)
  have hl : lv_has ls 2 [(0, .long x_3)] := hl
  refine lv_lload_n hx hb dJ13_bitCount_95d88_34 rfl (lv_at hl 0 rfl) ?_
  refine lv_lload_n hx hb dJ13_bitCount_95d88_35 rfl (lv_at hl 0 rfl) ?_
  refine lv_bipush (v := 8) hx hb dJ13_bitCount_95d88_36 (by decide) ?_
  refine lv_lushr (v := (jLushr x_3 (8 : Int32))) hx hb dJ13_bitCount_95d88_38 rfl ?_
  refine lv_ladd hx hb dJ13_bitCount_95d88_39 ?_
  refine lv_lstore_n hx hb dJ13_bitCount_95d88_40 rfl hl (Nat.le_of_ble_eq_true rfl) rfl (fun ls hl => ?_)
  have hl : lv_has ls 2 [(0, .long (x_3 + (jLushr x_3 (8 : Int32))))] := hl
  refine lv_lload_n hx hb dJ13_bitCount_95d88_41 rfl (lv_at hl 0 rfl) ?_
  refine lv_lload_n hx hb dJ13_bitCount_95d88_42 rfl (lv_at hl 0 rfl) ?_
  refine lv_bipush (v := 16) hx hb dJ13_bitCount_95d88_43 (by decide) ?_
  refine lv_lushr (v := (jLushr (x_3 + (jLushr x_3 (8 : Int32))) (16 : Int32))) hx hb dJ13_bitCount_95d88_45 rfl ?_
  refine lv_ladd hx hb dJ13_bitCount_95d88_46 ?_
  refine lv_topl (fun x_4 ex_4 => ?_)
  have h := h x_4 ex_4
  refine lv_lstore_n hx hb dJ13_bitCount_95d88_47 rfl hl (Nat.le_of_ble_eq_true rfl) rfl (fun ls hl => ?_)
  have hl : lv_has ls 2 [(0, .long x_4)] := hl
  refine lv_lload_n hx hb dJ13_bitCount_95d88_48 rfl (lv_at hl 0 rfl) ?_
  refine lv_lload_n hx hb dJ13_bitCount_95d88_49 rfl (lv_at hl 0 rfl) ?_
  refine lv_bipush (v := 32) hx hb dJ13_bitCount_95d88_50 (by decide) ?_
  refine lv_lushr (v := (jLushr x_4 (32 : Int32))) hx hb dJ13_bitCount_95d88_52 rfl ?_
  refine lv_ladd hx hb dJ13_bitCount_95d88_53 ?_
  refine lv_lstore_n hx hb dJ13_bitCount_95d88_54 rfl hl (Nat.le_of_ble_eq_true rfl) rfl (fun ls hl => ?_)
  have hl : lv_has ls 2 [(0, .long (x_4 + (jLushr x_4 (32 : Int32))))] := hl
  refine lv_lload_n hx hb dJ13_bitCount_95d88_55 rfl (lv_at hl 0 rfl) ?_
  refine lv_l2i (v := ((x_4 + (jLushr x_4 (32 : Int32))).toInt32)) hx hb dJ13_bitCount_95d88_56 rfl ?_
  refine lv_bipush (v := 127) hx hb dJ13_bitCount_95d88_57 (by decide) ?_
  refine lv_iand hx hb dJ13_bitCount_95d88_59 ?_
  exact W.iret (v := (((x_4 + (jLushr x_4 (32 : Int32))).toInt32) &&& (127 : Int32))) hx hb hr (fun t ht _ => ⟨_, rfl, h, ht⟩) (fun _ hq => absurd hq List.not_mem_nil) dJ13_bitCount_95d88_60
theorem dJ6_bitCount_0f7a4_0 : decode cJ6_bitCount_0f7a4 0 = .ok (.iload_n 0, 1) := by decide +kernel
theorem dJ6_bitCount_0f7a4_1 : decode cJ6_bitCount_0f7a4 1 = .ok (.iload_n 0, 1) := by decide +kernel
theorem dJ6_bitCount_0f7a4_2 : decode cJ6_bitCount_0f7a4 2 = .ok (.iconst 1, 1) := by decide +kernel
theorem dJ6_bitCount_0f7a4_3 : decode cJ6_bitCount_0f7a4 3 = .ok (.iushr, 1) := by decide +kernel
theorem dJ6_bitCount_0f7a4_4 : decode cJ6_bitCount_0f7a4 4 = .ok (.ldc_w 265, 3) := by decide +kernel
theorem dJ6_bitCount_0f7a4_7 : decode cJ6_bitCount_0f7a4 7 = .ok (.iand, 1) := by decide +kernel
theorem dJ6_bitCount_0f7a4_8 : decode cJ6_bitCount_0f7a4 8 = .ok (.isub, 1) := by decide +kernel
theorem dJ6_bitCount_0f7a4_9 : decode cJ6_bitCount_0f7a4 9 = .ok (.istore_n 0, 1) := by decide +kernel
theorem dJ6_bitCount_0f7a4_10 : decode cJ6_bitCount_0f7a4 10 = .ok (.iload_n 0, 1) := by decide +kernel
theorem dJ6_bitCount_0f7a4_11 : decode cJ6_bitCount_0f7a4 11 = .ok (.ldc_w 266, 3) := by decide +kernel
theorem dJ6_bitCount_0f7a4_14 : decode cJ6_bitCount_0f7a4 14 = .ok (.iand, 1) := by decide +kernel
theorem dJ6_bitCount_0f7a4_15 : decode cJ6_bitCount_0f7a4 15 = .ok (.iload_n 0, 1) := by decide +kernel
theorem dJ6_bitCount_0f7a4_16 : decode cJ6_bitCount_0f7a4 16 = .ok (.iconst 2, 1) := by decide +kernel
theorem dJ6_bitCount_0f7a4_17 : decode cJ6_bitCount_0f7a4 17 = .ok (.iushr, 1) := by decide +kernel
theorem dJ6_bitCount_0f7a4_18 : decode cJ6_bitCount_0f7a4 18 = .ok (.ldc_w 266, 3) := by decide +kernel
theorem dJ6_bitCount_0f7a4_21 : decode cJ6_bitCount_0f7a4 21 = .ok (.iand, 1) := by decide +kernel
theorem dJ6_bitCount_0f7a4_22 : decode cJ6_bitCount_0f7a4 22 = .ok (.iadd, 1) := by decide +kernel
theorem dJ6_bitCount_0f7a4_23 : decode cJ6_bitCount_0f7a4 23 = .ok (.istore_n 0, 1) := by decide +kernel
theorem dJ6_bitCount_0f7a4_24 : decode cJ6_bitCount_0f7a4 24 = .ok (.iload_n 0, 1) := by decide +kernel
theorem dJ6_bitCount_0f7a4_25 : decode cJ6_bitCount_0f7a4 25 = .ok (.iload_n 0, 1) := by decide +kernel
theorem dJ6_bitCount_0f7a4_26 : decode cJ6_bitCount_0f7a4 26 = .ok (.iconst 4, 1) := by decide +kernel
theorem dJ6_bitCount_0f7a4_27 : decode cJ6_bitCount_0f7a4 27 = .ok (.iushr, 1) := by decide +kernel
theorem dJ6_bitCount_0f7a4_28 : decode cJ6_bitCount_0f7a4 28 = .ok (.iadd, 1) := by decide +kernel
theorem dJ6_bitCount_0f7a4_29 : decode cJ6_bitCount_0f7a4 29 = .ok (.ldc_w 267, 3) := by decide +kernel
theorem dJ6_bitCount_0f7a4_32 : decode cJ6_bitCount_0f7a4 32 = .ok (.iand, 1) := by decide +kernel
theorem dJ6_bitCount_0f7a4_33 : decode cJ6_bitCount_0f7a4 33 = .ok (.istore_n 0, 1) := by decide +kernel
theorem dJ6_bitCount_0f7a4_34 : decode cJ6_bitCount_0f7a4 34 = .ok (.iload_n 0, 1) := by decide +kernel
theorem dJ6_bitCount_0f7a4_35 : decode cJ6_bitCount_0f7a4 35 = .ok (.iload_n 0, 1) := by decide +kernel
theorem dJ6_bitCount_0f7a4_36 : decode cJ6_bitCount_0f7a4 36 = .ok (.bipush 8, 2) := by decide +kernel
theorem dJ6_bitCount_0f7a4_38 : decode cJ6_bitCount_0f7a4 38 = .ok (.iushr, 1) := by decide +kernel
theorem dJ6_bitCount_0f7a4_39 : decode cJ6_bitCount_0f7a4 39 = .ok (.iadd, 1) := by decide +kernel
theorem dJ6_bitCount_0f7a4_40 : decode cJ6_bitCount_0f7a4 40 = .ok (.istore_n 0, 1) := by decide +kernel
theorem dJ6_bitCount_0f7a4_41 : decode cJ6_bitCount_0f7a4 41 = .ok (.iload_n 0, 1) := by decide +kernel
theorem dJ6_bitCount_0f7a4_42 : decode cJ6_bitCount_0f7a4 42 = .ok (.iload_n 0, 1) := by decide +kernel
theorem dJ6_bitCount_0f7a4_43 : decode cJ6_bitCount_0f7a4 43 = .ok (.bipush 16, 2) := by decide +kernel
theorem dJ6_bitCount_0f7a4_45 : decode cJ6_bitCount_0f7a4 45 = .ok (.iushr, 1) := by decide +kernel
theorem dJ6_bitCount_0f7a4_46 : decode cJ6_bitCount_0f7a4 46 = .ok (.iadd, 1) := by decide +kernel
theorem dJ6_bitCount_0f7a4_47 : decode cJ6_bitCount_0f7a4 47 = .ok (.istore_n 0, 1) := by decide +kernel
theorem dJ6_bitCount_0f7a4_48 : decode cJ6_bitCount_0f7a4 48 = .ok (.iload_n 0, 1) := by decide +kernel
theorem dJ6_bitCount_0f7a4_49 : decode cJ6_bitCount_0f7a4 49 = .ok (.bipush 63, 2) := by decide +kernel
theorem dJ6_bitCount_0f7a4_51 : decode cJ6_bitCount_0f7a4 51 = .ok (.iand, 1) := by decide +kernel
theorem dJ6_bitCount_0f7a4_52 : decode cJ6_bitCount_0f7a4 52 = .ok (.ireturn, 1) := by decide +kernel
def wJ6_bitCount_0f7a4 (post : Int32 → Prop) (p1 : Int32) : Prop :=
  ∀ x_1 : Int32, x_1 = (p1 - ((jIushr p1 (1 : Int32)) &&& (1431655765 : Int32))) →
  ∀ x_2 : Int32, x_2 = ((x_1 &&& (858993459 : Int32)) + ((jIushr x_1 (2 : Int32)) &&& (858993459 : Int32))) →
  ∀ x_3 : Int32, x_3 = ((x_2 + (jIushr x_2 (4 : Int32))) &&& (252645135 : Int32)) →
  ∀ x_4 : Int32, x_4 = ((x_3 + (jIushr x_3 (8 : Int32))) + (jIushr (x_3 + (jIushr x_3 (8 : Int32))) (16 : Int32))) →
  post (x_4 &&& (63 : Int32))
abbrev wl_J6_bitCount_0f7a4 : List Cond := .code yJ6_bitCount_0f7a4 cJ6_bitCount_0f7a4 1 (some .int) :: lwg
abbrev rm_J6_bitCount_0f7a4 : Room := { frames := 0, cells := 0, slots := 0, locals := 0 }
set_option maxHeartbeats 4000000 in
set_option maxRecDepth 100000 in
theorem kJ6_bitCount_0f7a4 {post : Int32 → Prop} (l : Launch) (G : GT) (p1 : Int32) (h : wJ6_bitCount_0f7a4 post p1) : Met l yJ6_bitCount_0f7a4 wl_J6_bitCount_0f7a4 rm_J6_bitCount_0f7a4 (va_Pc [.int p1] (fun U => PP G [] U.heap ∧ KK G U)) (vp_Si post) 0 0 (fun _ => False) := by
  refine Met.ofW (cc := cJ6_bitCount_0f7a4) (maxL := 1) (ret := (some .int)) (by decide) rfl ?_
  intro p e s m args below meth c s₁ B hml hv
  obtain ⟨rfl, hP, hKK⟩ := hv
  obtain ⟨hK, hN, hR, hFW, hNC⟩ := id hKK
  have hx := B.exec
  have hb := B.bytes
  have hr := B.returns
  have hts0 := atoms_spec (ws := wl_J6_bitCount_0f7a4) B.pre
  have hts : ∀ w ∈ lwg, w.before ([.int p1] : List Value).toArray s = true := fun w hw => hts0 w (List.mem_cons_of_mem _ hw)
  have hown : s.vm.findClass RJ6 = some m.cls := findClass_of_methodNamed B.named
  have hlocks := B.notSynchronized
  have hP : PP G [] s.heap := hP
  have hl := lv_entry ([.int p1]) (n := 1) (Nat.le_of_ble_eq_true rfl)
  rw [lg_entry_eq]
  generalize (lg_sl ([.int p1]) ++ List.replicate (1 - (lg_sl ([.int p1])).length) Slot.unset).toArray = ls at hl ⊢
  have hl : lv_has ls 1 [(0, .int p1)] := hl
  refine lv_iload_n hx hb dJ6_bitCount_0f7a4_0 rfl (lv_at hl 0 rfl) ?_
  refine lv_iload_n hx hb dJ6_bitCount_0f7a4_1 rfl (lv_at hl 0 rfl) ?_
  refine lv_iconst (v := 1) hx hb dJ6_bitCount_0f7a4_2 (by decide) ?_
  refine lv_iushr (v := (jIushr p1 (1 : Int32))) hx hb dJ6_bitCount_0f7a4_3 rfl ?_
  refine lv_ldcw hx hb hown (hts _ q418) dJ6_bitCount_0f7a4_4 ?_
  refine lv_iand hx hb dJ6_bitCount_0f7a4_7 ?_
  refine lv_isub hx hb dJ6_bitCount_0f7a4_8 ?_
  refine lv_topi (fun x_1 ex_1 => ?_)
  have h := h x_1 ex_1
  refine lv_istore_n hx hb dJ6_bitCount_0f7a4_9 rfl hl (Nat.le_of_ble_eq_true rfl) rfl (fun ls hl => ?_)
  have hl : lv_has ls 1 [(0, .int x_1)] := hl
  refine lv_iload_n hx hb dJ6_bitCount_0f7a4_10 rfl (lv_at hl 0 rfl) ?_
  refine lv_ldcw hx hb hown (hts _ q419) dJ6_bitCount_0f7a4_11 ?_
  refine lv_iand hx hb dJ6_bitCount_0f7a4_14 ?_
  refine lv_iload_n hx hb dJ6_bitCount_0f7a4_15 rfl (lv_at hl 0 rfl) ?_
  refine lv_iconst (v := 2) hx hb dJ6_bitCount_0f7a4_16 (by decide) ?_
  refine lv_iushr (v := (jIushr x_1 (2 : Int32))) hx hb dJ6_bitCount_0f7a4_17 rfl ?_
  refine lv_ldcw hx hb hown (hts _ q419) dJ6_bitCount_0f7a4_18 ?_
  refine lv_iand hx hb dJ6_bitCount_0f7a4_21 ?_
  refine lv_iadd hx hb dJ6_bitCount_0f7a4_22 ?_
  refine lv_topi (fun x_2 ex_2 => ?_)
  have h := h x_2 ex_2
  refine lv_istore_n hx hb dJ6_bitCount_0f7a4_23 rfl hl (Nat.le_of_ble_eq_true rfl) rfl (fun ls hl => ?_)
  have hl : lv_has ls 1 [(0, .int x_2)] := hl
  refine lv_iload_n hx hb dJ6_bitCount_0f7a4_24 rfl (lv_at hl 0 rfl) ?_
  refine lv_iload_n hx hb dJ6_bitCount_0f7a4_25 rfl (lv_at hl 0 rfl) ?_
  refine lv_iconst (v := 4) hx hb dJ6_bitCount_0f7a4_26 (by decide) ?_
  refine lv_iushr (v := (jIushr x_2 (4 : Int32))) hx hb dJ6_bitCount_0f7a4_27 rfl ?_
  refine lv_iadd hx hb dJ6_bitCount_0f7a4_28 ?_
  refine lv_ldcw hx hb hown (hts _ q420) dJ6_bitCount_0f7a4_29 ?_
  refine lv_iand hx hb dJ6_bitCount_0f7a4_32 ?_
  refine lv_topi (fun x_3 ex_3 => ?_)
  have h := h x_3 ex_3
  refine lv_istore_n hx hb dJ6_bitCount_0f7a4_33 rfl hl (Nat.le_of_ble_eq_true rfl) rfl (fun ls hl => ?_)
  have hl : lv_has ls 1 [(0, .int x_3)] := hl
  refine lv_iload_n hx hb dJ6_bitCount_0f7a4_34 rfl (lv_at hl 0 rfl) ?_
  refine lv_iload_n hx hb dJ6_bitCount_0f7a4_35 rfl (lv_at hl 0 rfl) ?_
  refine lv_bipush (v := 8) hx hb dJ6_bitCount_0f7a4_36 (by decide) ?_
  refine lv_iushr (v := (jIushr x_3 (8 : Int32))) hx hb dJ6_bitCount_0f7a4_38 rfl ?_
  refine lv_iadd hx hb dJ6_bitCount_0f7a4_39 ?_
  refine lv_istore_n hx hb dJ6_bitCount_0f7a4_40 rfl hl (Nat.le_of_ble_eq_true rfl) rfl (fun ls hl => ?_)
  have hl : lv_has ls 1 [(0, .int (x_3 + (jIushr x_3 (8 : Int32))))] := hl
  refine lv_iload_n hx hb dJ6_bitCount_0f7a4_41 rfl (lv_at hl 0 rfl) ?_
  refine lv_iload_n hx hb dJ6_bitCount_0f7a4_42 rfl (lv_at hl 0 rfl) ?_
  refine lv_bipush (v := 16) hx hb dJ6_bitCount_0f7a4_43 (by decide) ?_
  refine lv_iushr (v := (jIushr (x_3 + (jIushr x_3 (8 : Int32))) (16 : Int32))) hx hb dJ6_bitCount_0f7a4_45 rfl ?_
  refine lv_iadd hx hb dJ6_bitCount_0f7a4_46 ?_
  refine lv_topi (fun x_4 ex_4 => ?_)
  have h := h x_4 ex_4
  refine lv_istore_n hx hb dJ6_bitCount_0f7a4_47 rfl hl (Nat.le_of_ble_eq_true rfl) rfl (fun ls hl => ?_)
  have hl : lv_has ls 1 [(0, .int x_4)] := hl
  refine lv_iload_n hx hb dJ6_bitCount_0f7a4_48 rfl (lv_at hl 0 rfl) ?_
  refine lv_bipush (v := 63) hx hb dJ6_bitCount_0f7a4_49 (by decide) ?_
  refine lv_iand hx hb dJ6_bitCount_0f7a4_51 ?_
  exact W.iret (v := (x_4 &&& (63 : Int32))) hx hb hr (fun t ht _ => ⟨_, rfl, h, ht⟩) (fun _ hq => absurd hq List.not_mem_nil) dJ6_bitCount_0f7a4_52
theorem dX2_smallestOf_0 : decode cX2_smallestOf 0 = .ok (.lload_n 0, 1) := by decide +kernel
theorem dX2_smallestOf_1 : decode cX2_smallestOf 1 = .ok (.lload_n 0, 1) := by decide +kernel
theorem dX2_smallestOf_2 : decode cX2_smallestOf 2 = .ok (.lneg, 1) := by decide +kernel
theorem dX2_smallestOf_3 : decode cX2_smallestOf 3 = .ok (.land, 1) := by decide +kernel
theorem dX2_smallestOf_4 : decode cX2_smallestOf 4 = .ok (.lconst 1, 1) := by decide +kernel
theorem dX2_smallestOf_5 : decode cX2_smallestOf 5 = .ok (.lsub, 1) := by decide +kernel
theorem dX2_smallestOf_6 : decode cX2_smallestOf 6 = .ok (.invokestatic 110, 3) := by decide +kernel
theorem dX2_smallestOf_9 : decode cX2_smallestOf 9 = .ok (.ireturn, 1) := by decide +kernel
def wX2_smallestOf (post : Int32 → Prop) (p1 : Int64) : Prop :=
  wJ13_bitCount_95d88 (fun r_1 : Int32 =>
    post r_1
    ) ((p1 &&& (-p1)) - (1 : Int64))
abbrev wl_X2_smallestOf : List Cond := .code yX2_smallestOf cX2_smallestOf 2 (some .int) :: lwg
abbrev rm_X2_smallestOf : Room := { frames := 1, cells := 0, slots := 0, locals := 21 }
set_option maxHeartbeats 4000000 in
set_option maxRecDepth 100000 in
theorem kX2_smallestOf {post : Int32 → Prop} (l : Launch) (G : GT) (p1 : Int64) (h : wX2_smallestOf post p1) : Met l yX2_smallestOf wl_X2_smallestOf rm_X2_smallestOf (va_Pc [.long p1] (fun U => PP G [] U.heap ∧ KK G U)) (vp_Si post) 0 0 (fun _ => False) := by
  refine Met.ofW (cc := cX2_smallestOf) (maxL := 2) (ret := (some .int)) (by decide) rfl ?_
  intro p e s m args below meth c s₁ B hml hv
  obtain ⟨rfl, hP, hKK⟩ := hv
  obtain ⟨hK, hN, hR, hFW, hNC⟩ := id hKK
  have hx := B.exec
  have hb := B.bytes
  have hr := B.returns
  have hts0 := atoms_spec (ws := wl_X2_smallestOf) B.pre
  have hts : ∀ w ∈ lwg, w.before ([.long p1] : List Value).toArray s = true := fun w hw => hts0 w (List.mem_cons_of_mem _ hw)
  have hown : s.vm.findClass RX2 = some m.cls := findClass_of_methodNamed B.named
  have hlocks := B.notSynchronized
  have hP : PP G [] s.heap := hP
  have hl := lv_entry ([.long p1]) (n := 2) (Nat.le_of_ble_eq_true rfl)
  rw [lg_entry_eq]
  generalize (lg_sl ([.long p1]) ++ List.replicate (2 - (lg_sl ([.long p1])).length) Slot.unset).toArray = ls at hl ⊢
  have hl : lv_has ls 2 [(0, .long p1)] := hl
  refine lv_lload_n hx hb dX2_smallestOf_0 rfl (lv_at hl 0 rfl) ?_
  refine lv_lload_n hx hb dX2_smallestOf_1 rfl (lv_at hl 0 rfl) ?_
  refine lv_lneg hx hb dX2_smallestOf_2 ?_
  refine lv_land hx hb dX2_smallestOf_3 ?_
  refine lv_lconst (v := 1) hx hb dX2_smallestOf_4 (by decide) ?_
  refine lv_lsub hx hb dX2_smallestOf_5 ?_
  have hPc := hP
  refine rdI (va_runS (As := [.long ((p1 &&& (-p1)) - (1 : Int64))]) (rest := []) ⟨hx, hb, hml, hown, hts⟩ (kJ13_bitCount_95d88 l G ((p1 &&& (-p1)) - (1 : Int64)) h) (va_cwS 1 hts (gdS q150 q151 q5 q152) rfl rfl rfl (by decide +kernel) ⟨Nat.le_of_ble_eq_true rfl, Nat.le_of_ble_eq_true rfl⟩) (preS hPc hKK) rfl rfl hl.1 rfl (lv_room (Nat.le_of_ble_eq_true rfl)) dX2_smallestOf_6 ⟨Nat.zero_le _, Nat.zero_le _⟩) (fun r_1 h => ?_)
  exact W.iret (v := r_1) hx hb hr (fun t ht _ => ⟨_, rfl, h, ht⟩) (fun _ hq => absurd hq List.not_mem_nil) dX2_smallestOf_9
theorem dX0_count_0 : decode cX0_count 0 = .ok (.aload_n 0, 1) := by decide +kernel
theorem dX0_count_1 : decode cX0_count 1 = .ok (.getfield 31, 3) := by decide +kernel
theorem dX0_count_4 : decode cX0_count 4 = .ok (.ireturn, 1) := by decide +kernel
def wX0_count (post : Int32 → Prop) (bn : Int32) : Prop :=
  post bn
abbrev wl_X0_count : List Cond := .code yX0_count cX0_count 1 (some .int) :: lwg
abbrev rm_X0_count : Room := { frames := 0, cells := 0, slots := 0, locals := 0 }
set_option maxHeartbeats 4000000 in
set_option maxRecDepth 100000 in
theorem kX0_count {post : Int32 → Prop} (l : Launch) (G : GT) (b0 : Nat) (b1 : Nat) (b2 : Nat) (b3 : Nat) (b4 : Nat) (b5 : Nat) (b6 : Nat) (kf : Nat → Int32) (ff : Nat → Int32) (sf : Nat → Int32) (df : Nat → Int32) (pf : Nat → Int64) (gf : Nat → Int64) (bn : Int32) (h : wX0_count post bn) : Met l yX0_count wl_X0_count rm_X0_count (va_Pc [.ref b0] (fun U => PP G [(b0, .inr (3, [.ref b1, .ref b2, .ref b3, .ref b4, .ref b5, .ref b6, .int bn])), (b1, .inl (G.2 0, 40, .inl kf)), (b2, .inl (G.2 0, 40, .inl ff)), (b3, .inl (G.2 0, 40, .inl sf)), (b4, .inl (G.2 0, 40, .inl df)), (b5, .inl (G.2 1, 40, .inr (.inl pf))), (b6, .inl (G.2 1, 6, .inr (.inl gf)))] U.heap ∧ KK G U)) (vp_Si post) 0 0 (fun _ => False) := by
  refine Met.ofW (cc := cX0_count) (maxL := 1) (ret := (some .int)) (by decide) rfl ?_
  intro p e s m args below meth c s₁ B hml hv
  obtain ⟨rfl, hP, hKK⟩ := hv
  obtain ⟨hK, hN, hR, hFW, hNC⟩ := id hKK
  have hx := B.exec
  have hb := B.bytes
  have hr := B.returns
  have hts0 := atoms_spec (ws := wl_X0_count) B.pre
  have hts : ∀ w ∈ lwg, w.before ([.ref b0] : List Value).toArray s = true := fun w hw => hts0 w (List.mem_cons_of_mem _ hw)
  have hown : s.vm.findClass RX0 = some m.cls := findClass_of_methodNamed B.named
  have hlocks := B.notSynchronized
  have hP : PP G [(b0, .inr (3, [.ref b1, .ref b2, .ref b3, .ref b4, .ref b5, .ref b6, .int bn])), (b1, .inl (G.2 0, 40, .inl kf)), (b2, .inl (G.2 0, 40, .inl ff)), (b3, .inl (G.2 0, 40, .inl sf)), (b4, .inl (G.2 0, 40, .inl df)), (b5, .inl (G.2 1, 40, .inr (.inl pf))), (b6, .inl (G.2 1, 6, .inr (.inl gf)))] s.heap := hP
  have hl := lv_entry ([.ref b0]) (n := 1) (Nat.le_of_ble_eq_true rfl)
  rw [lg_entry_eq]
  generalize (lg_sl ([.ref b0]) ++ List.replicate (1 - (lg_sl ([.ref b0])).length) Slot.unset).toArray = ls at hl ⊢
  have hl : lv_has ls 1 [(0, .ref b0)] := hl
  refine lv_aload_n hx hb dX0_count_0 rfl (lv_at hl 0 rfl) ?_
  refine va_get (D := G.1) (ci := 3) (v := .int bn) (C := RX0) (T := TX0) (N := 7) hx hb hts igX0 hown hK hP 0 rfl rfl 6 (by decide) (hts _ q49) (fun _ h9 => h9) rfl dX0_count_1 ?_
  exact W.iret (v := bn) hx hb hr (fun t ht _ => ⟨_, rfl, h, ht⟩) (fun _ hq => absurd hq List.not_mem_nil) dX0_count_4
theorem dX0_isFull_0 : decode cX0_isFull 0 = .ok (.aload_n 0, 1) := by decide +kernel
theorem dX0_isFull_1 : decode cX0_isFull 1 = .ok (.getfield 31, 3) := by decide +kernel
theorem dX0_isFull_4 : decode cX0_isFull 4 = .ok (.bipush 40, 2) := by decide +kernel
theorem dX0_isFull_6 : decode cX0_isFull 6 = .ok (.if_icmp .lt 7, 3) := by decide +kernel
theorem dX0_isFull_9 : decode cX0_isFull 9 = .ok (.iconst 1, 1) := by decide +kernel
theorem dX0_isFull_10 : decode cX0_isFull 10 = .ok (.goto 4, 3) := by decide +kernel
theorem dX0_isFull_13 : decode cX0_isFull 13 = .ok (.iconst 0, 1) := by decide +kernel
theorem dX0_isFull_14 : decode cX0_isFull 14 = .ok (.ireturn, 1) := by decide +kernel
def wX0_isFull (post : Int32 → Prop) (bn : Int32) : Prop :=
  ((bn < (40 : Int32)) →
    post (0 : Int32)
  ) ∧ (¬ (bn < (40 : Int32)) →
    post (1 : Int32)
  )
abbrev wl_X0_isFull : List Cond := .code yX0_isFull cX0_isFull 1 (some .boolean) :: lwg
abbrev rm_X0_isFull : Room := { frames := 0, cells := 0, slots := 0, locals := 0 }
set_option maxHeartbeats 4000000 in
set_option maxRecDepth 100000 in
theorem kX0_isFull {post : Int32 → Prop} (l : Launch) (G : GT) (b0 : Nat) (b1 : Nat) (b2 : Nat) (b3 : Nat) (b4 : Nat) (b5 : Nat) (b6 : Nat) (kf : Nat → Int32) (ff : Nat → Int32) (sf : Nat → Int32) (df : Nat → Int32) (pf : Nat → Int64) (gf : Nat → Int64) (bn : Int32) (h : wX0_isFull post bn) : Met l yX0_isFull wl_X0_isFull rm_X0_isFull (va_Pc [.ref b0] (fun U => PP G [(b0, .inr (3, [.ref b1, .ref b2, .ref b3, .ref b4, .ref b5, .ref b6, .int bn])), (b1, .inl (G.2 0, 40, .inl kf)), (b2, .inl (G.2 0, 40, .inl ff)), (b3, .inl (G.2 0, 40, .inl sf)), (b4, .inl (G.2 0, 40, .inl df)), (b5, .inl (G.2 1, 40, .inr (.inl pf))), (b6, .inl (G.2 1, 6, .inr (.inl gf)))] U.heap ∧ KK G U)) (vp_Si post) 0 0 (fun _ => False) := by
  refine Met.ofW (cc := cX0_isFull) (maxL := 1) (ret := (some .boolean)) (by decide) rfl ?_
  intro p e s m args below meth c s₁ B hml hv
  obtain ⟨rfl, hP, hKK⟩ := hv
  obtain ⟨hK, hN, hR, hFW, hNC⟩ := id hKK
  have hx := B.exec
  have hb := B.bytes
  have hr := B.returns
  have hts0 := atoms_spec (ws := wl_X0_isFull) B.pre
  have hts : ∀ w ∈ lwg, w.before ([.ref b0] : List Value).toArray s = true := fun w hw => hts0 w (List.mem_cons_of_mem _ hw)
  have hown : s.vm.findClass RX0 = some m.cls := findClass_of_methodNamed B.named
  have hlocks := B.notSynchronized
  have hP : PP G [(b0, .inr (3, [.ref b1, .ref b2, .ref b3, .ref b4, .ref b5, .ref b6, .int bn])), (b1, .inl (G.2 0, 40, .inl kf)), (b2, .inl (G.2 0, 40, .inl ff)), (b3, .inl (G.2 0, 40, .inl sf)), (b4, .inl (G.2 0, 40, .inl df)), (b5, .inl (G.2 1, 40, .inr (.inl pf))), (b6, .inl (G.2 1, 6, .inr (.inl gf)))] s.heap := hP
  have hl := lv_entry ([.ref b0]) (n := 1) (Nat.le_of_ble_eq_true rfl)
  rw [lg_entry_eq]
  generalize (lg_sl ([.ref b0]) ++ List.replicate (1 - (lg_sl ([.ref b0])).length) Slot.unset).toArray = ls at hl ⊢
  have hl : lv_has ls 1 [(0, .ref b0)] := hl
  refine lv_aload_n hx hb dX0_isFull_0 rfl (lv_at hl 0 rfl) ?_
  refine va_get (D := G.1) (ci := 3) (v := .int bn) (C := RX0) (T := TX0) (N := 7) hx hb hts igX0 hown hK hP 0 rfl rfl 6 (by decide) (hts _ q49) (fun _ h9 => h9) rfl dX0_isFull_1 ?_
  refine lv_bipush (v := 40) hx hb dX0_isFull_4 (by decide) ?_
  refine lv_icmp_lt (tgt := 13) hx hb dX0_isFull_6 (by decide) (fun hc => ?_) (fun hc => ?_)
  · have h := h.1 hc
    refine lv_iconst (v := 0) hx hb dX0_isFull_13 (by decide) ?_
    exact W.zret (v := (0 : Int32)) hx hb hr (by decide) (fun t ht _ => ⟨_, rfl, h, ht⟩) (fun _ hq => absurd hq List.not_mem_nil) dX0_isFull_14
  · have h := h.2 hc
    refine lv_iconst (v := 1) hx hb dX0_isFull_9 (by decide) ?_
    refine lv_goto (tgt := 14) hx hb dX0_isFull_10 (by decide) ?_
    exact W.zret (v := (1 : Int32)) hx hb hr (by decide) (fun t ht _ => ⟨_, rfl, h, ht⟩) (fun _ hq => absurd hq List.not_mem_nil) dX0_isFull_14
theorem dX0_holds_0 : decode cX0_holds 0 = .ok (.iload_n 1, 1) := by decide +kernel
theorem dX0_holds_1 : decode cX0_holds 1 = .ok (.ifCond .lt 15, 3) := by decide +kernel
theorem dX0_holds_4 : decode cX0_holds 4 = .ok (.iload_n 1, 1) := by decide +kernel
theorem dX0_holds_5 : decode cX0_holds 5 = .ok (.aload_n 0, 1) := by decide +kernel
theorem dX0_holds_6 : decode cX0_holds 6 = .ok (.getfield 31, 3) := by decide +kernel
theorem dX0_holds_9 : decode cX0_holds 9 = .ok (.if_icmp .ge 7, 3) := by decide +kernel
theorem dX0_holds_12 : decode cX0_holds 12 = .ok (.iconst 1, 1) := by decide +kernel
theorem dX0_holds_13 : decode cX0_holds 13 = .ok (.goto 4, 3) := by decide +kernel
theorem dX0_holds_16 : decode cX0_holds 16 = .ok (.iconst 0, 1) := by decide +kernel
theorem dX0_holds_17 : decode cX0_holds 17 = .ok (.ireturn, 1) := by decide +kernel
def wX0_holds (post : Int32 → Prop) (bn : Int32) (p1 : Int32) : Prop :=
  ((p1 < 0) →
    post (0 : Int32)
  ) ∧ (¬ (p1 < 0) →
    ((bn ≤ p1) →
      post (0 : Int32)
    ) ∧ (¬ (bn ≤ p1) →
      post (1 : Int32)
    )
  )
abbrev wl_X0_holds : List Cond := .code yX0_holds cX0_holds 2 (some .boolean) :: lwg
abbrev rm_X0_holds : Room := { frames := 0, cells := 0, slots := 0, locals := 0 }
set_option maxHeartbeats 4000000 in
set_option maxRecDepth 100000 in
theorem kX0_holds {post : Int32 → Prop} (l : Launch) (G : GT) (b0 : Nat) (b1 : Nat) (b2 : Nat) (b3 : Nat) (b4 : Nat) (b5 : Nat) (b6 : Nat) (kf : Nat → Int32) (ff : Nat → Int32) (sf : Nat → Int32) (df : Nat → Int32) (pf : Nat → Int64) (gf : Nat → Int64) (bn : Int32) (p1 : Int32) (h : wX0_holds post bn p1) : Met l yX0_holds wl_X0_holds rm_X0_holds (va_Pc [.ref b0, .int p1] (fun U => PP G [(b0, .inr (3, [.ref b1, .ref b2, .ref b3, .ref b4, .ref b5, .ref b6, .int bn])), (b1, .inl (G.2 0, 40, .inl kf)), (b2, .inl (G.2 0, 40, .inl ff)), (b3, .inl (G.2 0, 40, .inl sf)), (b4, .inl (G.2 0, 40, .inl df)), (b5, .inl (G.2 1, 40, .inr (.inl pf))), (b6, .inl (G.2 1, 6, .inr (.inl gf)))] U.heap ∧ KK G U)) (vp_Si post) 0 0 (fun _ => False) := by
  refine Met.ofW (cc := cX0_holds) (maxL := 2) (ret := (some .boolean)) (by decide) rfl ?_
  intro p e s m args below meth c s₁ B hml hv
  obtain ⟨rfl, hP, hKK⟩ := hv
  obtain ⟨hK, hN, hR, hFW, hNC⟩ := id hKK
  have hx := B.exec
  have hb := B.bytes
  have hr := B.returns
  have hts0 := atoms_spec (ws := wl_X0_holds) B.pre
  have hts : ∀ w ∈ lwg, w.before ([.ref b0, .int p1] : List Value).toArray s = true := fun w hw => hts0 w (List.mem_cons_of_mem _ hw)
  have hown : s.vm.findClass RX0 = some m.cls := findClass_of_methodNamed B.named
  have hlocks := B.notSynchronized
  have hP : PP G [(b0, .inr (3, [.ref b1, .ref b2, .ref b3, .ref b4, .ref b5, .ref b6, .int bn])), (b1, .inl (G.2 0, 40, .inl kf)), (b2, .inl (G.2 0, 40, .inl ff)), (b3, .inl (G.2 0, 40, .inl sf)), (b4, .inl (G.2 0, 40, .inl df)), (b5, .inl (G.2 1, 40, .inr (.inl pf))), (b6, .inl (G.2 1, 6, .inr (.inl gf)))] s.heap := hP
  have hl := lv_entry ([.ref b0, .int p1]) (n := 2) (Nat.le_of_ble_eq_true rfl)
  rw [lg_entry_eq]
  generalize (lg_sl ([.ref b0, .int p1]) ++ List.replicate (2 - (lg_sl ([.ref b0, .int p1])).length) Slot.unset).toArray = ls at hl ⊢
  have hl : lv_has ls 2 [(0, .ref b0), (1, .int p1)] := hl
  refine lv_iload_n hx hb dX0_holds_0 rfl (lv_at hl 1 rfl) ?_
  refine lv_if_lt (tgt := 16) hx hb dX0_holds_1 (by decide) (fun hc => ?_) (fun hc => ?_)
  · have h := h.1 hc
    refine lv_iconst (v := 0) hx hb dX0_holds_16 (by decide) ?_
    exact W.zret (v := (0 : Int32)) hx hb hr (by decide) (fun t ht _ => ⟨_, rfl, h, ht⟩) (fun _ hq => absurd hq List.not_mem_nil) dX0_holds_17
  · have h := h.2 hc
    refine lv_iload_n hx hb dX0_holds_4 rfl (lv_at hl 1 rfl) ?_
    refine lv_aload_n hx hb dX0_holds_5 rfl (lv_at hl 0 rfl) ?_
    refine va_get (D := G.1) (ci := 3) (v := .int bn) (C := RX0) (T := TX0) (N := 7) hx hb hts igX0 hown hK hP 0 rfl rfl 6 (by decide) (hts _ q49) (fun _ h9 => h9) rfl dX0_holds_6 ?_
    refine lv_icmp_ge (tgt := 16) hx hb dX0_holds_9 (by decide) (fun hc => ?_) (fun hc => ?_)
    · have h := h.1 hc
      refine lv_iconst (v := 0) hx hb dX0_holds_16 (by decide) ?_
      exact W.zret (v := (0 : Int32)) hx hb hr (by decide) (fun t ht _ => ⟨_, rfl, h, ht⟩) (fun _ hq => absurd hq List.not_mem_nil) dX0_holds_17
    · have h := h.2 hc
      refine lv_iconst (v := 1) hx hb dX0_holds_12 (by decide) ?_
      refine lv_goto (tgt := 17) hx hb dX0_holds_13 (by decide) ?_
      exact W.zret (v := (1 : Int32)) hx hb hr (by decide) (fun t ht _ => ⟨_, rfl, h, ht⟩) (fun _ hq => absurd hq List.not_mem_nil) dX0_holds_17
theorem dX0_kindOf_0 : decode cX0_kindOf 0 = .ok (.aload_n 0, 1) := by decide +kernel
theorem dX0_kindOf_1 : decode cX0_kindOf 1 = .ok (.iload_n 1, 1) := by decide +kernel
theorem dX0_kindOf_2 : decode cX0_kindOf 2 = .ok (.invokevirtual 39, 3) := by decide +kernel
theorem dX0_kindOf_5 : decode cX0_kindOf 5 = .ok (.ifCond .eq 12, 3) := by decide +kernel
theorem dX0_kindOf_8 : decode cX0_kindOf 8 = .ok (.aload_n 0, 1) := by decide +kernel
theorem dX0_kindOf_9 : decode cX0_kindOf 9 = .ok (.getfield 9, 3) := by decide +kernel
theorem dX0_kindOf_12 : decode cX0_kindOf 12 = .ok (.iload_n 1, 1) := by decide +kernel
theorem dX0_kindOf_13 : decode cX0_kindOf 13 = .ok (.iaload, 1) := by decide +kernel
theorem dX0_kindOf_14 : decode cX0_kindOf 14 = .ok (.goto 4, 3) := by decide +kernel
theorem dX0_kindOf_17 : decode cX0_kindOf 17 = .ok (.iconst (-1), 1) := by decide +kernel
theorem dX0_kindOf_18 : decode cX0_kindOf 18 = .ok (.ireturn, 1) := by decide +kernel
def wX0_kindOf (post : Int32 → Prop) (kf : Nat → Int32) (bn : Int32) (p1 : Int32) : Prop :=
  wX0_holds (fun r_1 : Int32 =>
    ((r_1 = 0) →
      post (-1 : Int32)
    ) ∧ (¬ (r_1 = 0) →
      vp_in p1 40 ∧
      post (kf p1.toNatClampNeg)
    )
    ) bn p1
abbrev wl_X0_kindOf : List Cond := .code yX0_kindOf cX0_kindOf 2 (some .int) :: lwg
abbrev rm_X0_kindOf : Room := { frames := 1, cells := 0, slots := 0, locals := 21 }
set_option maxHeartbeats 4000000 in
set_option maxRecDepth 100000 in
theorem kX0_kindOf {post : Int32 → Prop} (l : Launch) (G : GT) (b0 : Nat) (b1 : Nat) (b2 : Nat) (b3 : Nat) (b4 : Nat) (b5 : Nat) (b6 : Nat) (kf : Nat → Int32) (ff : Nat → Int32) (sf : Nat → Int32) (df : Nat → Int32) (pf : Nat → Int64) (gf : Nat → Int64) (bn : Int32) (p1 : Int32) (h : wX0_kindOf post kf bn p1) : Met l yX0_kindOf wl_X0_kindOf rm_X0_kindOf (va_Pc [.ref b0, .int p1] (fun U => PP G [(b0, .inr (3, [.ref b1, .ref b2, .ref b3, .ref b4, .ref b5, .ref b6, .int bn])), (b1, .inl (G.2 0, 40, .inl kf)), (b2, .inl (G.2 0, 40, .inl ff)), (b3, .inl (G.2 0, 40, .inl sf)), (b4, .inl (G.2 0, 40, .inl df)), (b5, .inl (G.2 1, 40, .inr (.inl pf))), (b6, .inl (G.2 1, 6, .inr (.inl gf)))] U.heap ∧ KK G U)) (vp_Si post) 0 0 (fun _ => False) := by
  refine Met.ofW (cc := cX0_kindOf) (maxL := 2) (ret := (some .int)) (by decide) rfl ?_
  intro p e s m args below meth c s₁ B hml hv
  obtain ⟨rfl, hP, hKK⟩ := hv
  obtain ⟨hK, hN, hR, hFW, hNC⟩ := id hKK
  have hx := B.exec
  have hb := B.bytes
  have hr := B.returns
  have hts0 := atoms_spec (ws := wl_X0_kindOf) B.pre
  have hts : ∀ w ∈ lwg, w.before ([.ref b0, .int p1] : List Value).toArray s = true := fun w hw => hts0 w (List.mem_cons_of_mem _ hw)
  have hown : s.vm.findClass RX0 = some m.cls := findClass_of_methodNamed B.named
  have hlocks := B.notSynchronized
  have hP : PP G [(b0, .inr (3, [.ref b1, .ref b2, .ref b3, .ref b4, .ref b5, .ref b6, .int bn])), (b1, .inl (G.2 0, 40, .inl kf)), (b2, .inl (G.2 0, 40, .inl ff)), (b3, .inl (G.2 0, 40, .inl sf)), (b4, .inl (G.2 0, 40, .inl df)), (b5, .inl (G.2 1, 40, .inr (.inl pf))), (b6, .inl (G.2 1, 6, .inr (.inl gf)))] s.heap := hP
  have hl := lv_entry ([.ref b0, .int p1]) (n := 2) (Nat.le_of_ble_eq_true rfl)
  rw [lg_entry_eq]
  generalize (lg_sl ([.ref b0, .int p1]) ++ List.replicate (2 - (lg_sl ([.ref b0, .int p1])).length) Slot.unset).toArray = ls at hl ⊢
  have hl : lv_has ls 2 [(0, .ref b0), (1, .int p1)] := hl
  refine lv_aload_n hx hb dX0_kindOf_0 rfl (lv_at hl 0 rfl) ?_
  refine lv_iload_n hx hb dX0_kindOf_1 rfl (lv_at hl 1 rfl) ?_
  have hPc := hP
  refine rdI (va_runV (C := RX0) (As := [.int p1]) (rest := []) ⟨hx, hb, hml, hown, hts⟩ (kX0_holds l G b0 b1 b2 b3 b4 b5 b6 kf ff sf df pf gf bn p1 h) (cwV 1 hts (gdV q114 q115 q116 q2 q117) rfl rfl rfl (by decide +kernel) ⟨Nat.le_of_ble_eq_true rfl, Nat.le_of_ble_eq_true rfl⟩) (preV hPc hKK (va_recv hK hPc (ci := 3) (q0 := 0) rfl rfl)) rfl rfl hl.1 rfl (lv_room (Nat.le_of_ble_eq_true rfl)) dX0_kindOf_2 ⟨Nat.zero_le _, Nat.zero_le _⟩) (fun r_1 h => ?_)
  refine lv_if_eq (tgt := 17) hx hb dX0_kindOf_5 (by decide) (fun hc => ?_) (fun hc => ?_)
  · have h := h.1 hc
    refine lv_iconst (v := (-1)) hx hb dX0_kindOf_17 (by decide) ?_
    exact W.iret (v := (-1 : Int32)) hx hb hr (fun t ht _ => ⟨_, rfl, h, ht⟩) (fun _ hq => absurd hq List.not_mem_nil) dX0_kindOf_18
  · have h := h.2 hc
    refine lv_aload_n hx hb dX0_kindOf_8 rfl (lv_at hl 0 rfl) ?_
    refine va_get (D := G.1) (ci := 3) (v := .ref b1) (C := RX0) (T := TX0) (N := 7) hx hb hts igX0 hown hK hP 0 rfl rfl 0 (by decide) (hts _ q43) (fun _ h9 => h9) rfl dX0_kindOf_9 ?_
    refine lv_iload_n hx hb dX0_kindOf_12 rfl (lv_at hl 1 rfl) ?_
    obtain ⟨hin, h⟩ := h
    refine va_iald (D := G.1) hx hb hK hP 1 0 rfl rfl hin dX0_kindOf_13 ?_
    refine lv_goto (tgt := 18) hx hb dX0_kindOf_14 (by decide) ?_
    exact W.iret (v := (kf p1.toNatClampNeg)) hx hb hr (fun t ht _ => ⟨_, rfl, h, ht⟩) (fun _ hq => absurd hq List.not_mem_nil) dX0_kindOf_18
theorem dX0_firstOf_0 : decode cX0_firstOf 0 = .ok (.aload_n 0, 1) := by decide +kernel
theorem dX0_firstOf_1 : decode cX0_firstOf 1 = .ok (.iload_n 1, 1) := by decide +kernel
theorem dX0_firstOf_2 : decode cX0_firstOf 2 = .ok (.invokevirtual 39, 3) := by decide +kernel
theorem dX0_firstOf_5 : decode cX0_firstOf 5 = .ok (.ifCond .eq 12, 3) := by decide +kernel
theorem dX0_firstOf_8 : decode cX0_firstOf 8 = .ok (.aload_n 0, 1) := by decide +kernel
theorem dX0_firstOf_9 : decode cX0_firstOf 9 = .ok (.getfield 15, 3) := by decide +kernel
theorem dX0_firstOf_12 : decode cX0_firstOf 12 = .ok (.iload_n 1, 1) := by decide +kernel
theorem dX0_firstOf_13 : decode cX0_firstOf 13 = .ok (.iaload, 1) := by decide +kernel
theorem dX0_firstOf_14 : decode cX0_firstOf 14 = .ok (.goto 4, 3) := by decide +kernel
theorem dX0_firstOf_17 : decode cX0_firstOf 17 = .ok (.iconst (-1), 1) := by decide +kernel
theorem dX0_firstOf_18 : decode cX0_firstOf 18 = .ok (.ireturn, 1) := by decide +kernel
def wX0_firstOf (post : Int32 → Prop) (ff : Nat → Int32) (bn : Int32) (p1 : Int32) : Prop :=
  wX0_holds (fun r_1 : Int32 =>
    ((r_1 = 0) →
      post (-1 : Int32)
    ) ∧ (¬ (r_1 = 0) →
      vp_in p1 40 ∧
      post (ff p1.toNatClampNeg)
    )
    ) bn p1
abbrev wl_X0_firstOf : List Cond := .code yX0_firstOf cX0_firstOf 2 (some .int) :: lwg
abbrev rm_X0_firstOf : Room := { frames := 1, cells := 0, slots := 0, locals := 21 }
set_option maxHeartbeats 4000000 in
set_option maxRecDepth 100000 in
theorem kX0_firstOf {post : Int32 → Prop} (l : Launch) (G : GT) (b0 : Nat) (b1 : Nat) (b2 : Nat) (b3 : Nat) (b4 : Nat) (b5 : Nat) (b6 : Nat) (kf : Nat → Int32) (ff : Nat → Int32) (sf : Nat → Int32) (df : Nat → Int32) (pf : Nat → Int64) (gf : Nat → Int64) (bn : Int32) (p1 : Int32) (h : wX0_firstOf post ff bn p1) : Met l yX0_firstOf wl_X0_firstOf rm_X0_firstOf (va_Pc [.ref b0, .int p1] (fun U => PP G [(b0, .inr (3, [.ref b1, .ref b2, .ref b3, .ref b4, .ref b5, .ref b6, .int bn])), (b1, .inl (G.2 0, 40, .inl kf)), (b2, .inl (G.2 0, 40, .inl ff)), (b3, .inl (G.2 0, 40, .inl sf)), (b4, .inl (G.2 0, 40, .inl df)), (b5, .inl (G.2 1, 40, .inr (.inl pf))), (b6, .inl (G.2 1, 6, .inr (.inl gf)))] U.heap ∧ KK G U)) (vp_Si post) 0 0 (fun _ => False) := by
  refine Met.ofW (cc := cX0_firstOf) (maxL := 2) (ret := (some .int)) (by decide) rfl ?_
  intro p e s m args below meth c s₁ B hml hv
  obtain ⟨rfl, hP, hKK⟩ := hv
  obtain ⟨hK, hN, hR, hFW, hNC⟩ := id hKK
  have hx := B.exec
  have hb := B.bytes
  have hr := B.returns
  have hts0 := atoms_spec (ws := wl_X0_firstOf) B.pre
  have hts : ∀ w ∈ lwg, w.before ([.ref b0, .int p1] : List Value).toArray s = true := fun w hw => hts0 w (List.mem_cons_of_mem _ hw)
  have hown : s.vm.findClass RX0 = some m.cls := findClass_of_methodNamed B.named
  have hlocks := B.notSynchronized
  have hP : PP G [(b0, .inr (3, [.ref b1, .ref b2, .ref b3, .ref b4, .ref b5, .ref b6, .int bn])), (b1, .inl (G.2 0, 40, .inl kf)), (b2, .inl (G.2 0, 40, .inl ff)), (b3, .inl (G.2 0, 40, .inl sf)), (b4, .inl (G.2 0, 40, .inl df)), (b5, .inl (G.2 1, 40, .inr (.inl pf))), (b6, .inl (G.2 1, 6, .inr (.inl gf)))] s.heap := hP
  have hl := lv_entry ([.ref b0, .int p1]) (n := 2) (Nat.le_of_ble_eq_true rfl)
  rw [lg_entry_eq]
  generalize (lg_sl ([.ref b0, .int p1]) ++ List.replicate (2 - (lg_sl ([.ref b0, .int p1])).length) Slot.unset).toArray = ls at hl ⊢
  have hl : lv_has ls 2 [(0, .ref b0), (1, .int p1)] := hl
  refine lv_aload_n hx hb dX0_firstOf_0 rfl (lv_at hl 0 rfl) ?_
  refine lv_iload_n hx hb dX0_firstOf_1 rfl (lv_at hl 1 rfl) ?_
  have hPc := hP
  refine rdI (va_runV (C := RX0) (As := [.int p1]) (rest := []) ⟨hx, hb, hml, hown, hts⟩ (kX0_holds l G b0 b1 b2 b3 b4 b5 b6 kf ff sf df pf gf bn p1 h) (cwV 1 hts (gdV q114 q115 q116 q2 q117) rfl rfl rfl (by decide +kernel) ⟨Nat.le_of_ble_eq_true rfl, Nat.le_of_ble_eq_true rfl⟩) (preV hPc hKK (va_recv hK hPc (ci := 3) (q0 := 0) rfl rfl)) rfl rfl hl.1 rfl (lv_room (Nat.le_of_ble_eq_true rfl)) dX0_firstOf_2 ⟨Nat.zero_le _, Nat.zero_le _⟩) (fun r_1 h => ?_)
  refine lv_if_eq (tgt := 17) hx hb dX0_firstOf_5 (by decide) (fun hc => ?_) (fun hc => ?_)
  · have h := h.1 hc
    refine lv_iconst (v := (-1)) hx hb dX0_firstOf_17 (by decide) ?_
    exact W.iret (v := (-1 : Int32)) hx hb hr (fun t ht _ => ⟨_, rfl, h, ht⟩) (fun _ hq => absurd hq List.not_mem_nil) dX0_firstOf_18
  · have h := h.2 hc
    refine lv_aload_n hx hb dX0_firstOf_8 rfl (lv_at hl 0 rfl) ?_
    refine va_get (D := G.1) (ci := 3) (v := .ref b2) (C := RX0) (T := TX0) (N := 7) hx hb hts igX0 hown hK hP 0 rfl rfl 1 (by decide) (hts _ q44) (fun _ h9 => h9) rfl dX0_firstOf_9 ?_
    refine lv_iload_n hx hb dX0_firstOf_12 rfl (lv_at hl 1 rfl) ?_
    obtain ⟨hin, h⟩ := h
    refine va_iald (D := G.1) hx hb hK hP 2 0 rfl rfl hin dX0_firstOf_13 ?_
    refine lv_goto (tgt := 18) hx hb dX0_firstOf_14 (by decide) ?_
    exact W.iret (v := (ff p1.toNatClampNeg)) hx hb hr (fun t ht _ => ⟨_, rfl, h, ht⟩) (fun _ hq => absurd hq List.not_mem_nil) dX0_firstOf_18
theorem dX0_secondOf_0 : decode cX0_secondOf 0 = .ok (.aload_n 0, 1) := by decide +kernel
theorem dX0_secondOf_1 : decode cX0_secondOf 1 = .ok (.iload_n 1, 1) := by decide +kernel
theorem dX0_secondOf_2 : decode cX0_secondOf 2 = .ok (.invokevirtual 39, 3) := by decide +kernel
theorem dX0_secondOf_5 : decode cX0_secondOf 5 = .ok (.ifCond .eq 12, 3) := by decide +kernel
theorem dX0_secondOf_8 : decode cX0_secondOf 8 = .ok (.aload_n 0, 1) := by decide +kernel
theorem dX0_secondOf_9 : decode cX0_secondOf 9 = .ok (.getfield 18, 3) := by decide +kernel
theorem dX0_secondOf_12 : decode cX0_secondOf 12 = .ok (.iload_n 1, 1) := by decide +kernel
theorem dX0_secondOf_13 : decode cX0_secondOf 13 = .ok (.iaload, 1) := by decide +kernel
theorem dX0_secondOf_14 : decode cX0_secondOf 14 = .ok (.goto 4, 3) := by decide +kernel
theorem dX0_secondOf_17 : decode cX0_secondOf 17 = .ok (.iconst (-1), 1) := by decide +kernel
theorem dX0_secondOf_18 : decode cX0_secondOf 18 = .ok (.ireturn, 1) := by decide +kernel
def wX0_secondOf (post : Int32 → Prop) (sf : Nat → Int32) (bn : Int32) (p1 : Int32) : Prop :=
  wX0_holds (fun r_1 : Int32 =>
    ((r_1 = 0) →
      post (-1 : Int32)
    ) ∧ (¬ (r_1 = 0) →
      vp_in p1 40 ∧
      post (sf p1.toNatClampNeg)
    )
    ) bn p1
abbrev wl_X0_secondOf : List Cond := .code yX0_secondOf cX0_secondOf 2 (some .int) :: lwg
abbrev rm_X0_secondOf : Room := { frames := 1, cells := 0, slots := 0, locals := 21 }
set_option maxHeartbeats 4000000 in
set_option maxRecDepth 100000 in
theorem kX0_secondOf {post : Int32 → Prop} (l : Launch) (G : GT) (b0 : Nat) (b1 : Nat) (b2 : Nat) (b3 : Nat) (b4 : Nat) (b5 : Nat) (b6 : Nat) (kf : Nat → Int32) (ff : Nat → Int32) (sf : Nat → Int32) (df : Nat → Int32) (pf : Nat → Int64) (gf : Nat → Int64) (bn : Int32) (p1 : Int32) (h : wX0_secondOf post sf bn p1) : Met l yX0_secondOf wl_X0_secondOf rm_X0_secondOf (va_Pc [.ref b0, .int p1] (fun U => PP G [(b0, .inr (3, [.ref b1, .ref b2, .ref b3, .ref b4, .ref b5, .ref b6, .int bn])), (b1, .inl (G.2 0, 40, .inl kf)), (b2, .inl (G.2 0, 40, .inl ff)), (b3, .inl (G.2 0, 40, .inl sf)), (b4, .inl (G.2 0, 40, .inl df)), (b5, .inl (G.2 1, 40, .inr (.inl pf))), (b6, .inl (G.2 1, 6, .inr (.inl gf)))] U.heap ∧ KK G U)) (vp_Si post) 0 0 (fun _ => False) := by
  refine Met.ofW (cc := cX0_secondOf) (maxL := 2) (ret := (some .int)) (by decide) rfl ?_
  intro p e s m args below meth c s₁ B hml hv
  obtain ⟨rfl, hP, hKK⟩ := hv
  obtain ⟨hK, hN, hR, hFW, hNC⟩ := id hKK
  have hx := B.exec
  have hb := B.bytes
  have hr := B.returns
  have hts0 := atoms_spec (ws := wl_X0_secondOf) B.pre
  have hts : ∀ w ∈ lwg, w.before ([.ref b0, .int p1] : List Value).toArray s = true := fun w hw => hts0 w (List.mem_cons_of_mem _ hw)
  have hown : s.vm.findClass RX0 = some m.cls := findClass_of_methodNamed B.named
  have hlocks := B.notSynchronized
  have hP : PP G [(b0, .inr (3, [.ref b1, .ref b2, .ref b3, .ref b4, .ref b5, .ref b6, .int bn])), (b1, .inl (G.2 0, 40, .inl kf)), (b2, .inl (G.2 0, 40, .inl ff)), (b3, .inl (G.2 0, 40, .inl sf)), (b4, .inl (G.2 0, 40, .inl df)), (b5, .inl (G.2 1, 40, .inr (.inl pf))), (b6, .inl (G.2 1, 6, .inr (.inl gf)))] s.heap := hP
  have hl := lv_entry ([.ref b0, .int p1]) (n := 2) (Nat.le_of_ble_eq_true rfl)
  rw [lg_entry_eq]
  generalize (lg_sl ([.ref b0, .int p1]) ++ List.replicate (2 - (lg_sl ([.ref b0, .int p1])).length) Slot.unset).toArray = ls at hl ⊢
  have hl : lv_has ls 2 [(0, .ref b0), (1, .int p1)] := hl
  refine lv_aload_n hx hb dX0_secondOf_0 rfl (lv_at hl 0 rfl) ?_
  refine lv_iload_n hx hb dX0_secondOf_1 rfl (lv_at hl 1 rfl) ?_
  have hPc := hP
  refine rdI (va_runV (C := RX0) (As := [.int p1]) (rest := []) ⟨hx, hb, hml, hown, hts⟩ (kX0_holds l G b0 b1 b2 b3 b4 b5 b6 kf ff sf df pf gf bn p1 h) (cwV 1 hts (gdV q114 q115 q116 q2 q117) rfl rfl rfl (by decide +kernel) ⟨Nat.le_of_ble_eq_true rfl, Nat.le_of_ble_eq_true rfl⟩) (preV hPc hKK (va_recv hK hPc (ci := 3) (q0 := 0) rfl rfl)) rfl rfl hl.1 rfl (lv_room (Nat.le_of_ble_eq_true rfl)) dX0_secondOf_2 ⟨Nat.zero_le _, Nat.zero_le _⟩) (fun r_1 h => ?_)
  refine lv_if_eq (tgt := 17) hx hb dX0_secondOf_5 (by decide) (fun hc => ?_) (fun hc => ?_)
  · have h := h.1 hc
    refine lv_iconst (v := (-1)) hx hb dX0_secondOf_17 (by decide) ?_
    exact W.iret (v := (-1 : Int32)) hx hb hr (fun t ht _ => ⟨_, rfl, h, ht⟩) (fun _ hq => absurd hq List.not_mem_nil) dX0_secondOf_18
  · have h := h.2 hc
    refine lv_aload_n hx hb dX0_secondOf_8 rfl (lv_at hl 0 rfl) ?_
    refine va_get (D := G.1) (ci := 3) (v := .ref b3) (C := RX0) (T := TX0) (N := 7) hx hb hts igX0 hown hK hP 0 rfl rfl 2 (by decide) (hts _ q45) (fun _ h9 => h9) rfl dX0_secondOf_9 ?_
    refine lv_iload_n hx hb dX0_secondOf_12 rfl (lv_at hl 1 rfl) ?_
    obtain ⟨hin, h⟩ := h
    refine va_iald (D := G.1) hx hb hK hP 3 0 rfl rfl hin dX0_secondOf_13 ?_
    refine lv_goto (tgt := 18) hx hb dX0_secondOf_14 (by decide) ?_
    exact W.iret (v := (sf p1.toNatClampNeg)) hx hb hr (fun t ht _ => ⟨_, rfl, h, ht⟩) (fun _ hq => absurd hq List.not_mem_nil) dX0_secondOf_18
theorem dX0_builtDeep_0 : decode cX0_builtDeep 0 = .ok (.aload_n 0, 1) := by decide +kernel
theorem dX0_builtDeep_1 : decode cX0_builtDeep 1 = .ok (.iload_n 1, 1) := by decide +kernel
theorem dX0_builtDeep_2 : decode cX0_builtDeep 2 = .ok (.invokevirtual 39, 3) := by decide +kernel
theorem dX0_builtDeep_5 : decode cX0_builtDeep 5 = .ok (.ifCond .eq 12, 3) := by decide +kernel
theorem dX0_builtDeep_8 : decode cX0_builtDeep 8 = .ok (.aload_n 0, 1) := by decide +kernel
theorem dX0_builtDeep_9 : decode cX0_builtDeep 9 = .ok (.getfield 21, 3) := by decide +kernel
theorem dX0_builtDeep_12 : decode cX0_builtDeep 12 = .ok (.iload_n 1, 1) := by decide +kernel
theorem dX0_builtDeep_13 : decode cX0_builtDeep 13 = .ok (.iaload, 1) := by decide +kernel
theorem dX0_builtDeep_14 : decode cX0_builtDeep 14 = .ok (.goto 4, 3) := by decide +kernel
theorem dX0_builtDeep_17 : decode cX0_builtDeep 17 = .ok (.iconst (-1), 1) := by decide +kernel
theorem dX0_builtDeep_18 : decode cX0_builtDeep 18 = .ok (.ireturn, 1) := by decide +kernel
def wX0_builtDeep (post : Int32 → Prop) (df : Nat → Int32) (bn : Int32) (p1 : Int32) : Prop :=
  wX0_holds (fun r_1 : Int32 =>
    ((r_1 = 0) →
      post (-1 : Int32)
    ) ∧ (¬ (r_1 = 0) →
      vp_in p1 40 ∧
      post (df p1.toNatClampNeg)
    )
    ) bn p1
abbrev wl_X0_builtDeep : List Cond := .code yX0_builtDeep cX0_builtDeep 2 (some .int) :: lwg
abbrev rm_X0_builtDeep : Room := { frames := 1, cells := 0, slots := 0, locals := 21 }
set_option maxHeartbeats 4000000 in
set_option maxRecDepth 100000 in
theorem kX0_builtDeep {post : Int32 → Prop} (l : Launch) (G : GT) (b0 : Nat) (b1 : Nat) (b2 : Nat) (b3 : Nat) (b4 : Nat) (b5 : Nat) (b6 : Nat) (kf : Nat → Int32) (ff : Nat → Int32) (sf : Nat → Int32) (df : Nat → Int32) (pf : Nat → Int64) (gf : Nat → Int64) (bn : Int32) (p1 : Int32) (h : wX0_builtDeep post df bn p1) : Met l yX0_builtDeep wl_X0_builtDeep rm_X0_builtDeep (va_Pc [.ref b0, .int p1] (fun U => PP G [(b0, .inr (3, [.ref b1, .ref b2, .ref b3, .ref b4, .ref b5, .ref b6, .int bn])), (b1, .inl (G.2 0, 40, .inl kf)), (b2, .inl (G.2 0, 40, .inl ff)), (b3, .inl (G.2 0, 40, .inl sf)), (b4, .inl (G.2 0, 40, .inl df)), (b5, .inl (G.2 1, 40, .inr (.inl pf))), (b6, .inl (G.2 1, 6, .inr (.inl gf)))] U.heap ∧ KK G U)) (vp_Si post) 0 0 (fun _ => False) := by
  refine Met.ofW (cc := cX0_builtDeep) (maxL := 2) (ret := (some .int)) (by decide) rfl ?_
  intro p e s m args below meth c s₁ B hml hv
  obtain ⟨rfl, hP, hKK⟩ := hv
  obtain ⟨hK, hN, hR, hFW, hNC⟩ := id hKK
  have hx := B.exec
  have hb := B.bytes
  have hr := B.returns
  have hts0 := atoms_spec (ws := wl_X0_builtDeep) B.pre
  have hts : ∀ w ∈ lwg, w.before ([.ref b0, .int p1] : List Value).toArray s = true := fun w hw => hts0 w (List.mem_cons_of_mem _ hw)
  have hown : s.vm.findClass RX0 = some m.cls := findClass_of_methodNamed B.named
  have hlocks := B.notSynchronized
  have hP : PP G [(b0, .inr (3, [.ref b1, .ref b2, .ref b3, .ref b4, .ref b5, .ref b6, .int bn])), (b1, .inl (G.2 0, 40, .inl kf)), (b2, .inl (G.2 0, 40, .inl ff)), (b3, .inl (G.2 0, 40, .inl sf)), (b4, .inl (G.2 0, 40, .inl df)), (b5, .inl (G.2 1, 40, .inr (.inl pf))), (b6, .inl (G.2 1, 6, .inr (.inl gf)))] s.heap := hP
  have hl := lv_entry ([.ref b0, .int p1]) (n := 2) (Nat.le_of_ble_eq_true rfl)
  rw [lg_entry_eq]
  generalize (lg_sl ([.ref b0, .int p1]) ++ List.replicate (2 - (lg_sl ([.ref b0, .int p1])).length) Slot.unset).toArray = ls at hl ⊢
  have hl : lv_has ls 2 [(0, .ref b0), (1, .int p1)] := hl
  refine lv_aload_n hx hb dX0_builtDeep_0 rfl (lv_at hl 0 rfl) ?_
  refine lv_iload_n hx hb dX0_builtDeep_1 rfl (lv_at hl 1 rfl) ?_
  have hPc := hP
  refine rdI (va_runV (C := RX0) (As := [.int p1]) (rest := []) ⟨hx, hb, hml, hown, hts⟩ (kX0_holds l G b0 b1 b2 b3 b4 b5 b6 kf ff sf df pf gf bn p1 h) (cwV 1 hts (gdV q114 q115 q116 q2 q117) rfl rfl rfl (by decide +kernel) ⟨Nat.le_of_ble_eq_true rfl, Nat.le_of_ble_eq_true rfl⟩) (preV hPc hKK (va_recv hK hPc (ci := 3) (q0 := 0) rfl rfl)) rfl rfl hl.1 rfl (lv_room (Nat.le_of_ble_eq_true rfl)) dX0_builtDeep_2 ⟨Nat.zero_le _, Nat.zero_le _⟩) (fun r_1 h => ?_)
  refine lv_if_eq (tgt := 17) hx hb dX0_builtDeep_5 (by decide) (fun hc => ?_) (fun hc => ?_)
  · have h := h.1 hc
    refine lv_iconst (v := (-1)) hx hb dX0_builtDeep_17 (by decide) ?_
    exact W.iret (v := (-1 : Int32)) hx hb hr (fun t ht _ => ⟨_, rfl, h, ht⟩) (fun _ hq => absurd hq List.not_mem_nil) dX0_builtDeep_18
  · have h := h.2 hc
    refine lv_aload_n hx hb dX0_builtDeep_8 rfl (lv_at hl 0 rfl) ?_
    refine va_get (D := G.1) (ci := 3) (v := .ref b4) (C := RX0) (T := TX0) (N := 7) hx hb hts igX0 hown hK hP 0 rfl rfl 3 (by decide) (hts _ q46) (fun _ h9 => h9) rfl dX0_builtDeep_9 ?_
    refine lv_iload_n hx hb dX0_builtDeep_12 rfl (lv_at hl 1 rfl) ?_
    obtain ⟨hin, h⟩ := h
    refine va_iald (D := G.1) hx hb hK hP 4 0 rfl rfl hin dX0_builtDeep_13 ?_
    refine lv_goto (tgt := 18) hx hb dX0_builtDeep_14 (by decide) ?_
    exact W.iret (v := (df p1.toNatClampNeg)) hx hb hr (fun t ht _ => ⟨_, rfl, h, ht⟩) (fun _ hq => absurd hq List.not_mem_nil) dX0_builtDeep_18
theorem dX0_partsOf_0 : decode cX0_partsOf 0 = .ok (.aload_n 0, 1) := by decide +kernel
theorem dX0_partsOf_1 : decode cX0_partsOf 1 = .ok (.iload_n 1, 1) := by decide +kernel
theorem dX0_partsOf_2 : decode cX0_partsOf 2 = .ok (.invokevirtual 39, 3) := by decide +kernel
theorem dX0_partsOf_5 : decode cX0_partsOf 5 = .ok (.ifCond .eq 12, 3) := by decide +kernel
theorem dX0_partsOf_8 : decode cX0_partsOf 8 = .ok (.aload_n 0, 1) := by decide +kernel
theorem dX0_partsOf_9 : decode cX0_partsOf 9 = .ok (.getfield 24, 3) := by decide +kernel
theorem dX0_partsOf_12 : decode cX0_partsOf 12 = .ok (.iload_n 1, 1) := by decide +kernel
theorem dX0_partsOf_13 : decode cX0_partsOf 13 = .ok (.laload, 1) := by decide +kernel
theorem dX0_partsOf_14 : decode cX0_partsOf 14 = .ok (.goto 4, 3) := by decide +kernel
theorem dX0_partsOf_17 : decode cX0_partsOf 17 = .ok (.lconst 0, 1) := by decide +kernel
theorem dX0_partsOf_18 : decode cX0_partsOf 18 = .ok (.lreturn, 1) := by decide +kernel
def wX0_partsOf (post : Int64 → Prop) (pf : Nat → Int64) (bn : Int32) (p1 : Int32) : Prop :=
  wX0_holds (fun r_1 : Int32 =>
    ((r_1 = 0) →
      post (0 : Int64)
    ) ∧ (¬ (r_1 = 0) →
      vp_in p1 40 ∧
      post (pf p1.toNatClampNeg)
    )
    ) bn p1
abbrev wl_X0_partsOf : List Cond := .code yX0_partsOf cX0_partsOf 2 (some .long) :: lwg
abbrev rm_X0_partsOf : Room := { frames := 1, cells := 0, slots := 0, locals := 21 }
set_option maxHeartbeats 4000000 in
set_option maxRecDepth 100000 in
theorem kX0_partsOf {post : Int64 → Prop} (l : Launch) (G : GT) (b0 : Nat) (b1 : Nat) (b2 : Nat) (b3 : Nat) (b4 : Nat) (b5 : Nat) (b6 : Nat) (kf : Nat → Int32) (ff : Nat → Int32) (sf : Nat → Int32) (df : Nat → Int32) (pf : Nat → Int64) (gf : Nat → Int64) (bn : Int32) (p1 : Int32) (h : wX0_partsOf post pf bn p1) : Met l yX0_partsOf wl_X0_partsOf rm_X0_partsOf (va_Pc [.ref b0, .int p1] (fun U => PP G [(b0, .inr (3, [.ref b1, .ref b2, .ref b3, .ref b4, .ref b5, .ref b6, .int bn])), (b1, .inl (G.2 0, 40, .inl kf)), (b2, .inl (G.2 0, 40, .inl ff)), (b3, .inl (G.2 0, 40, .inl sf)), (b4, .inl (G.2 0, 40, .inl df)), (b5, .inl (G.2 1, 40, .inr (.inl pf))), (b6, .inl (G.2 1, 6, .inr (.inl gf)))] U.heap ∧ KK G U)) (vp_Sl post) 0 0 (fun _ => False) := by
  refine Met.ofW (cc := cX0_partsOf) (maxL := 2) (ret := (some .long)) (by decide) rfl ?_
  intro p e s m args below meth c s₁ B hml hv
  obtain ⟨rfl, hP, hKK⟩ := hv
  obtain ⟨hK, hN, hR, hFW, hNC⟩ := id hKK
  have hx := B.exec
  have hb := B.bytes
  have hr := B.returns
  have hts0 := atoms_spec (ws := wl_X0_partsOf) B.pre
  have hts : ∀ w ∈ lwg, w.before ([.ref b0, .int p1] : List Value).toArray s = true := fun w hw => hts0 w (List.mem_cons_of_mem _ hw)
  have hown : s.vm.findClass RX0 = some m.cls := findClass_of_methodNamed B.named
  have hlocks := B.notSynchronized
  have hP : PP G [(b0, .inr (3, [.ref b1, .ref b2, .ref b3, .ref b4, .ref b5, .ref b6, .int bn])), (b1, .inl (G.2 0, 40, .inl kf)), (b2, .inl (G.2 0, 40, .inl ff)), (b3, .inl (G.2 0, 40, .inl sf)), (b4, .inl (G.2 0, 40, .inl df)), (b5, .inl (G.2 1, 40, .inr (.inl pf))), (b6, .inl (G.2 1, 6, .inr (.inl gf)))] s.heap := hP
  have hl := lv_entry ([.ref b0, .int p1]) (n := 2) (Nat.le_of_ble_eq_true rfl)
  rw [lg_entry_eq]
  generalize (lg_sl ([.ref b0, .int p1]) ++ List.replicate (2 - (lg_sl ([.ref b0, .int p1])).length) Slot.unset).toArray = ls at hl ⊢
  have hl : lv_has ls 2 [(0, .ref b0), (1, .int p1)] := hl
  refine lv_aload_n hx hb dX0_partsOf_0 rfl (lv_at hl 0 rfl) ?_
  refine lv_iload_n hx hb dX0_partsOf_1 rfl (lv_at hl 1 rfl) ?_
  have hPc := hP
  refine rdI (va_runV (C := RX0) (As := [.int p1]) (rest := []) ⟨hx, hb, hml, hown, hts⟩ (kX0_holds l G b0 b1 b2 b3 b4 b5 b6 kf ff sf df pf gf bn p1 h) (cwV 1 hts (gdV q114 q115 q116 q2 q117) rfl rfl rfl (by decide +kernel) ⟨Nat.le_of_ble_eq_true rfl, Nat.le_of_ble_eq_true rfl⟩) (preV hPc hKK (va_recv hK hPc (ci := 3) (q0 := 0) rfl rfl)) rfl rfl hl.1 rfl (lv_room (Nat.le_of_ble_eq_true rfl)) dX0_partsOf_2 ⟨Nat.zero_le _, Nat.zero_le _⟩) (fun r_1 h => ?_)
  refine lv_if_eq (tgt := 17) hx hb dX0_partsOf_5 (by decide) (fun hc => ?_) (fun hc => ?_)
  · have h := h.1 hc
    refine lv_lconst (v := 0) hx hb dX0_partsOf_17 (by decide) ?_
    exact W.lret (v := (0 : Int64)) hx hb hr (fun t ht _ => ⟨_, rfl, h, ht⟩) (fun _ hq => absurd hq List.not_mem_nil) dX0_partsOf_18
  · have h := h.2 hc
    refine lv_aload_n hx hb dX0_partsOf_8 rfl (lv_at hl 0 rfl) ?_
    refine va_get (D := G.1) (ci := 3) (v := .ref b5) (C := RX0) (T := TX0) (N := 7) hx hb hts igX0 hown hK hP 0 rfl rfl 4 (by decide) (hts _ q47) (fun _ h9 => h9) rfl dX0_partsOf_9 ?_
    refine lv_iload_n hx hb dX0_partsOf_12 rfl (lv_at hl 1 rfl) ?_
    obtain ⟨hin, h⟩ := h
    refine va_lald (D := G.1) hx hb hK hP 5 1 rfl rfl hin dX0_partsOf_13 ?_
    refine lv_goto (tgt := 18) hx hb dX0_partsOf_14 (by decide) ?_
    exact W.lret (v := (pf p1.toNatClampNeg)) hx hb hr (fun t ht _ => ⟨_, rfl, h, ht⟩) (fun _ hq => absurd hq List.not_mem_nil) dX0_partsOf_18
theorem dX0_everySentence_0 : decode cX0_everySentence 0 = .ok (.aload_n 0, 1) := by decide +kernel
theorem dX0_everySentence_1 : decode cX0_everySentence 1 = .ok (.getfield 31, 3) := by decide +kernel
theorem dX0_everySentence_4 : decode cX0_everySentence 4 = .ok (.invokestatic 35, 3) := by decide +kernel
theorem dX0_everySentence_7 : decode cX0_everySentence 7 = .ok (.lconst 1, 1) := by decide +kernel
theorem dX0_everySentence_8 : decode cX0_everySentence 8 = .ok (.lsub, 1) := by decide +kernel
theorem dX0_everySentence_9 : decode cX0_everySentence 9 = .ok (.lreturn, 1) := by decide +kernel
def wX0_everySentence (post : Int64 → Prop) (bn : Int32) : Prop :=
  wX2_setOf (fun r_1 : Int64 =>
    post (r_1 - (1 : Int64))
    ) bn
abbrev wl_X0_everySentence : List Cond := .code yX0_everySentence cX0_everySentence 1 (some .long) :: lwg
abbrev rm_X0_everySentence : Room := { frames := 1, cells := 0, slots := 0, locals := 20 }
set_option maxHeartbeats 4000000 in
set_option maxRecDepth 100000 in
theorem kX0_everySentence {post : Int64 → Prop} (l : Launch) (G : GT) (b0 : Nat) (b1 : Nat) (b2 : Nat) (b3 : Nat) (b4 : Nat) (b5 : Nat) (b6 : Nat) (kf : Nat → Int32) (ff : Nat → Int32) (sf : Nat → Int32) (df : Nat → Int32) (pf : Nat → Int64) (gf : Nat → Int64) (bn : Int32) (h : wX0_everySentence post bn) : Met l yX0_everySentence wl_X0_everySentence rm_X0_everySentence (va_Pc [.ref b0] (fun U => PP G [(b0, .inr (3, [.ref b1, .ref b2, .ref b3, .ref b4, .ref b5, .ref b6, .int bn])), (b1, .inl (G.2 0, 40, .inl kf)), (b2, .inl (G.2 0, 40, .inl ff)), (b3, .inl (G.2 0, 40, .inl sf)), (b4, .inl (G.2 0, 40, .inl df)), (b5, .inl (G.2 1, 40, .inr (.inl pf))), (b6, .inl (G.2 1, 6, .inr (.inl gf)))] U.heap ∧ KK G U)) (vp_Sl post) 0 0 (fun _ => False) := by
  refine Met.ofW (cc := cX0_everySentence) (maxL := 1) (ret := (some .long)) (by decide) rfl ?_
  intro p e s m args below meth c s₁ B hml hv
  obtain ⟨rfl, hP, hKK⟩ := hv
  obtain ⟨hK, hN, hR, hFW, hNC⟩ := id hKK
  have hx := B.exec
  have hb := B.bytes
  have hr := B.returns
  have hts0 := atoms_spec (ws := wl_X0_everySentence) B.pre
  have hts : ∀ w ∈ lwg, w.before ([.ref b0] : List Value).toArray s = true := fun w hw => hts0 w (List.mem_cons_of_mem _ hw)
  have hown : s.vm.findClass RX0 = some m.cls := findClass_of_methodNamed B.named
  have hlocks := B.notSynchronized
  have hP : PP G [(b0, .inr (3, [.ref b1, .ref b2, .ref b3, .ref b4, .ref b5, .ref b6, .int bn])), (b1, .inl (G.2 0, 40, .inl kf)), (b2, .inl (G.2 0, 40, .inl ff)), (b3, .inl (G.2 0, 40, .inl sf)), (b4, .inl (G.2 0, 40, .inl df)), (b5, .inl (G.2 1, 40, .inr (.inl pf))), (b6, .inl (G.2 1, 6, .inr (.inl gf)))] s.heap := hP
  have hl := lv_entry ([.ref b0]) (n := 1) (Nat.le_of_ble_eq_true rfl)
  rw [lg_entry_eq]
  generalize (lg_sl ([.ref b0]) ++ List.replicate (1 - (lg_sl ([.ref b0])).length) Slot.unset).toArray = ls at hl ⊢
  have hl : lv_has ls 1 [(0, .ref b0)] := hl
  refine lv_aload_n hx hb dX0_everySentence_0 rfl (lv_at hl 0 rfl) ?_
  refine va_get (D := G.1) (ci := 3) (v := .int bn) (C := RX0) (T := TX0) (N := 7) hx hb hts igX0 hown hK hP 0 rfl rfl 6 (by decide) (hts _ q49) (fun _ h9 => h9) rfl dX0_everySentence_1 ?_
  have hPc := va_P.sub (ws' := []) hP [] rfl
  refine rdL (va_runSN (As := [.int bn]) (rest := []) ⟨hx, hb, hml, hown, hts⟩ (kX2_setOf l G bn h) ⟨va_cnB 1 hts (gdC q102) rfl rfl rfl (hN _ n100) (hts _ q1) (by decide +kernel) ⟨Nat.le_of_ble_eq_true rfl, Nat.le_of_ble_eq_true rfl⟩, hts _ q101, trivial⟩ (preS hPc hKK) rfl rfl hl.1 rfl (lv_room (Nat.le_of_ble_eq_true rfl)) dX0_everySentence_4 ⟨Nat.zero_le _, Nat.zero_le _⟩) (fun r_1 h => ?_)
  refine lv_lconst (v := 1) hx hb dX0_everySentence_7 (by decide) ?_
  refine lv_lsub hx hb dX0_everySentence_8 ?_
  exact W.lret (v := (r_1 - (1 : Int64))) hx hb hr (fun t ht _ => ⟨_, rfl, h, ht⟩) (fun _ hq => absurd hq List.not_mem_nil) dX0_everySentence_9
theorem dX0_hangingOn_0 : decode cX0_hangingOn 0 = .ok (.iload_n 1, 1) := by decide +kernel
theorem dX0_hangingOn_1 : decode cX0_hangingOn 1 = .ok (.invokestatic 43, 3) := by decide +kernel
theorem dX0_hangingOn_4 : decode cX0_hangingOn 4 = .ok (.ifCond .eq 18, 3) := by decide +kernel
theorem dX0_hangingOn_7 : decode cX0_hangingOn 7 = .ok (.aload_n 0, 1) := by decide +kernel
theorem dX0_hangingOn_8 : decode cX0_hangingOn 8 = .ok (.getfield 28, 3) := by decide +kernel
theorem dX0_hangingOn_11 : decode cX0_hangingOn 11 = .ok (.iload_n 1, 1) := by decide +kernel
theorem dX0_hangingOn_12 : decode cX0_hangingOn 12 = .ok (.laload, 1) := by decide +kernel
theorem dX0_hangingOn_13 : decode cX0_hangingOn 13 = .ok (.aload_n 0, 1) := by decide +kernel
theorem dX0_hangingOn_14 : decode cX0_hangingOn 14 = .ok (.iload_n 2, 1) := by decide +kernel
theorem dX0_hangingOn_15 : decode cX0_hangingOn 15 = .ok (.invokevirtual 46, 3) := by decide +kernel
theorem dX0_hangingOn_18 : decode cX0_hangingOn 18 = .ok (.land, 1) := by decide +kernel
theorem dX0_hangingOn_19 : decode cX0_hangingOn 19 = .ok (.goto 4, 3) := by decide +kernel
theorem dX0_hangingOn_22 : decode cX0_hangingOn 22 = .ok (.lconst 0, 1) := by decide +kernel
theorem dX0_hangingOn_23 : decode cX0_hangingOn 23 = .ok (.lreturn, 1) := by decide +kernel
def wX0_hangingOn (post : Int64 → Prop) (pf : Nat → Int64) (gf : Nat → Int64) (bn : Int32) (p1 : Int32) (p2 : Int32) : Prop :=
  wX2_isGuard (fun r_1 : Int32 =>
    ((r_1 = 0) →
      post (0 : Int64)
    ) ∧ (¬ (r_1 = 0) →
      vp_in p1 6 ∧
      wX0_partsOf (fun r_2 : Int64 =>
        post ((gf p1.toNatClampNeg) &&& r_2)
        ) pf bn p2
    )
    ) p1
abbrev wl_X0_hangingOn : List Cond := .code yX0_hangingOn cX0_hangingOn 3 (some .long) :: lwg
abbrev rm_X0_hangingOn : Room := { frames := 2, cells := 0, slots := 0, locals := 42 }
set_option maxHeartbeats 4000000 in
set_option maxRecDepth 100000 in
theorem kX0_hangingOn {post : Int64 → Prop} (l : Launch) (G : GT) (b0 : Nat) (b1 : Nat) (b2 : Nat) (b3 : Nat) (b4 : Nat) (b5 : Nat) (b6 : Nat) (kf : Nat → Int32) (ff : Nat → Int32) (sf : Nat → Int32) (df : Nat → Int32) (pf : Nat → Int64) (gf : Nat → Int64) (bn : Int32) (p1 : Int32) (p2 : Int32) (h : wX0_hangingOn post pf gf bn p1 p2) : Met l yX0_hangingOn wl_X0_hangingOn rm_X0_hangingOn (va_Pc [.ref b0, .int p1, .int p2] (fun U => PP G [(b0, .inr (3, [.ref b1, .ref b2, .ref b3, .ref b4, .ref b5, .ref b6, .int bn])), (b1, .inl (G.2 0, 40, .inl kf)), (b2, .inl (G.2 0, 40, .inl ff)), (b3, .inl (G.2 0, 40, .inl sf)), (b4, .inl (G.2 0, 40, .inl df)), (b5, .inl (G.2 1, 40, .inr (.inl pf))), (b6, .inl (G.2 1, 6, .inr (.inl gf)))] U.heap ∧ KK G U)) (vp_Sl post) 0 0 (fun _ => False) := by
  refine Met.ofW (cc := cX0_hangingOn) (maxL := 3) (ret := (some .long)) (by decide) rfl ?_
  intro p e s m args below meth c s₁ B hml hv
  obtain ⟨rfl, hP, hKK⟩ := hv
  obtain ⟨hK, hN, hR, hFW, hNC⟩ := id hKK
  have hx := B.exec
  have hb := B.bytes
  have hr := B.returns
  have hts0 := atoms_spec (ws := wl_X0_hangingOn) B.pre
  have hts : ∀ w ∈ lwg, w.before ([.ref b0, .int p1, .int p2] : List Value).toArray s = true := fun w hw => hts0 w (List.mem_cons_of_mem _ hw)
  have hown : s.vm.findClass RX0 = some m.cls := findClass_of_methodNamed B.named
  have hlocks := B.notSynchronized
  have hP : PP G [(b0, .inr (3, [.ref b1, .ref b2, .ref b3, .ref b4, .ref b5, .ref b6, .int bn])), (b1, .inl (G.2 0, 40, .inl kf)), (b2, .inl (G.2 0, 40, .inl ff)), (b3, .inl (G.2 0, 40, .inl sf)), (b4, .inl (G.2 0, 40, .inl df)), (b5, .inl (G.2 1, 40, .inr (.inl pf))), (b6, .inl (G.2 1, 6, .inr (.inl gf)))] s.heap := hP
  have hl := lv_entry ([.ref b0, .int p1, .int p2]) (n := 3) (Nat.le_of_ble_eq_true rfl)
  rw [lg_entry_eq]
  generalize (lg_sl ([.ref b0, .int p1, .int p2]) ++ List.replicate (3 - (lg_sl ([.ref b0, .int p1, .int p2])).length) Slot.unset).toArray = ls at hl ⊢
  have hl : lv_has ls 3 [(0, .ref b0), (1, .int p1), (2, .int p2)] := hl
  refine lv_iload_n hx hb dX0_hangingOn_0 rfl (lv_at hl 1 rfl) ?_
  have hPc := va_P.sub (ws' := []) hP [] rfl
  refine rdI (va_runSN (As := [.int p1]) (rest := []) ⟨hx, hb, hml, hown, hts⟩ (kX2_isGuard l G p1 h) ⟨va_cnB 1 hts (gdC q348) rfl rfl rfl (hN _ n458) (hts _ q1) (by decide +kernel) ⟨Nat.le_of_ble_eq_true rfl, Nat.le_of_ble_eq_true rfl⟩, hts _ q347, trivial⟩ (preS hPc hKK) rfl rfl hl.1 rfl (lv_room (Nat.le_of_ble_eq_true rfl)) dX0_hangingOn_1 ⟨Nat.zero_le _, Nat.zero_le _⟩) (fun r_1 h => ?_)
  refine lv_if_eq (tgt := 22) hx hb dX0_hangingOn_4 (by decide) (fun hc => ?_) (fun hc => ?_)
  · have h := h.1 hc
    refine lv_lconst (v := 0) hx hb dX0_hangingOn_22 (by decide) ?_
    exact W.lret (v := (0 : Int64)) hx hb hr (fun t ht _ => ⟨_, rfl, h, ht⟩) (fun _ hq => absurd hq List.not_mem_nil) dX0_hangingOn_23
  · have h := h.2 hc
    refine lv_aload_n hx hb dX0_hangingOn_7 rfl (lv_at hl 0 rfl) ?_
    refine va_get (D := G.1) (ci := 3) (v := .ref b6) (C := RX0) (T := TX0) (N := 7) hx hb hts igX0 hown hK hP 0 rfl rfl 5 (by decide) (hts _ q48) (fun _ h9 => h9) rfl dX0_hangingOn_8 ?_
    refine lv_iload_n hx hb dX0_hangingOn_11 rfl (lv_at hl 1 rfl) ?_
    obtain ⟨hin, h⟩ := h
    refine va_lald (D := G.1) hx hb hK hP 6 1 rfl rfl hin dX0_hangingOn_12 ?_
    refine lv_aload_n hx hb dX0_hangingOn_13 rfl (lv_at hl 0 rfl) ?_
    refine lv_iload_n hx hb dX0_hangingOn_14 rfl (lv_at hl 2 rfl) ?_
    have hPc := hP
    refine rdL (va_runV (C := RX0) (As := [.int p2]) (rest := [.long (gf p1.toNatClampNeg)]) ⟨hx, hb, hml, hown, hts⟩ (kX0_partsOf l G b0 b1 b2 b3 b4 b5 b6 kf ff sf df pf gf bn p2 h) (cwV 1 hts (gdV q459 q460 q461 q2 q462) rfl rfl rfl (by decide +kernel) ⟨Nat.le_of_ble_eq_true rfl, Nat.le_of_ble_eq_true rfl⟩) (preV hPc hKK (va_recv hK hPc (ci := 3) (q0 := 0) rfl rfl)) rfl rfl hl.1 rfl (lv_room (Nat.le_of_ble_eq_true rfl)) dX0_hangingOn_15 ⟨Nat.zero_le _, Nat.zero_le _⟩) (fun r_2 h => ?_)
    refine lv_land hx hb dX0_hangingOn_18 ?_
    refine lv_goto (tgt := 23) hx hb dX0_hangingOn_19 (by decide) ?_
    exact W.lret (v := ((gf p1.toNatClampNeg) &&& r_2)) hx hb hr (fun t ht _ => ⟨_, rfl, h, ht⟩) (fun _ hq => absurd hq List.not_mem_nil) dX0_hangingOn_23
theorem dX0_fits_0 : decode cX0_fits 0 = .ok (.iload_n 1, 1) := by decide +kernel
theorem dX0_fits_1 : decode cX0_fits 1 = .ok (.tableswitch 122 0 7 #[47, 52, 58, 58, 80, 101, 101, 101], 47) := by decide +kernel
theorem dX0_fits_48 : decode cX0_fits 48 = .ok (.iload_n 2, 1) := by decide +kernel
theorem dX0_fits_49 : decode cX0_fits 49 = .ok (.invokestatic 49, 3) := by decide +kernel
theorem dX0_fits_52 : decode cX0_fits 52 = .ok (.ireturn, 1) := by decide +kernel
theorem dX0_fits_53 : decode cX0_fits 53 = .ok (.aload_n 0, 1) := by decide +kernel
theorem dX0_fits_54 : decode cX0_fits 54 = .ok (.iload_n 2, 1) := by decide +kernel
theorem dX0_fits_55 : decode cX0_fits 55 = .ok (.invokevirtual 39, 3) := by decide +kernel
theorem dX0_fits_58 : decode cX0_fits 58 = .ok (.ireturn, 1) := by decide +kernel
theorem dX0_fits_59 : decode cX0_fits 59 = .ok (.aload_n 0, 1) := by decide +kernel
theorem dX0_fits_60 : decode cX0_fits 60 = .ok (.iload_n 2, 1) := by decide +kernel
theorem dX0_fits_61 : decode cX0_fits 61 = .ok (.invokevirtual 39, 3) := by decide +kernel
theorem dX0_fits_64 : decode cX0_fits 64 = .ok (.ifCond .eq 15, 3) := by decide +kernel
theorem dX0_fits_67 : decode cX0_fits 67 = .ok (.aload_n 0, 1) := by decide +kernel
theorem dX0_fits_68 : decode cX0_fits 68 = .ok (.iload_n 3, 1) := by decide +kernel
theorem dX0_fits_69 : decode cX0_fits 69 = .ok (.invokevirtual 39, 3) := by decide +kernel
theorem dX0_fits_72 : decode cX0_fits 72 = .ok (.ifCond .eq 7, 3) := by decide +kernel
theorem dX0_fits_75 : decode cX0_fits 75 = .ok (.iconst 1, 1) := by decide +kernel
theorem dX0_fits_76 : decode cX0_fits 76 = .ok (.goto 4, 3) := by decide +kernel
theorem dX0_fits_79 : decode cX0_fits 79 = .ok (.iconst 0, 1) := by decide +kernel
theorem dX0_fits_80 : decode cX0_fits 80 = .ok (.ireturn, 1) := by decide +kernel
theorem dX0_fits_81 : decode cX0_fits 81 = .ok (.iload_n 2, 1) := by decide +kernel
theorem dX0_fits_82 : decode cX0_fits 82 = .ok (.invokestatic 43, 3) := by decide +kernel
theorem dX0_fits_85 : decode cX0_fits 85 = .ok (.ifCond .eq 15, 3) := by decide +kernel
theorem dX0_fits_88 : decode cX0_fits 88 = .ok (.aload_n 0, 1) := by decide +kernel
theorem dX0_fits_89 : decode cX0_fits 89 = .ok (.iload_n 3, 1) := by decide +kernel
theorem dX0_fits_90 : decode cX0_fits 90 = .ok (.invokevirtual 39, 3) := by decide +kernel
theorem dX0_fits_93 : decode cX0_fits 93 = .ok (.ifCond .eq 7, 3) := by decide +kernel
theorem dX0_fits_96 : decode cX0_fits 96 = .ok (.iconst 1, 1) := by decide +kernel
theorem dX0_fits_97 : decode cX0_fits 97 = .ok (.goto 4, 3) := by decide +kernel
theorem dX0_fits_100 : decode cX0_fits 100 = .ok (.iconst 0, 1) := by decide +kernel
theorem dX0_fits_101 : decode cX0_fits 101 = .ok (.ireturn, 1) := by decide +kernel
theorem dX0_fits_102 : decode cX0_fits 102 = .ok (.iload_n 2, 1) := by decide +kernel
theorem dX0_fits_103 : decode cX0_fits 103 = .ok (.invokestatic 52, 3) := by decide +kernel
theorem dX0_fits_106 : decode cX0_fits 106 = .ok (.ifCond .eq 15, 3) := by decide +kernel
theorem dX0_fits_109 : decode cX0_fits 109 = .ok (.aload_n 0, 1) := by decide +kernel
theorem dX0_fits_110 : decode cX0_fits 110 = .ok (.iload_n 3, 1) := by decide +kernel
theorem dX0_fits_111 : decode cX0_fits 111 = .ok (.invokevirtual 39, 3) := by decide +kernel
theorem dX0_fits_114 : decode cX0_fits 114 = .ok (.ifCond .eq 7, 3) := by decide +kernel
theorem dX0_fits_117 : decode cX0_fits 117 = .ok (.iconst 1, 1) := by decide +kernel
theorem dX0_fits_118 : decode cX0_fits 118 = .ok (.goto 4, 3) := by decide +kernel
theorem dX0_fits_121 : decode cX0_fits 121 = .ok (.iconst 0, 1) := by decide +kernel
theorem dX0_fits_122 : decode cX0_fits 122 = .ok (.ireturn, 1) := by decide +kernel
theorem dX0_fits_123 : decode cX0_fits 123 = .ok (.iconst 0, 1) := by decide +kernel
theorem dX0_fits_124 : decode cX0_fits 124 = .ok (.ireturn, 1) := by decide +kernel
def wX0_fits (post : Int32 → Prop) (bn : Int32) (p1 : Int32) (p2 : Int32) (p3 : Int32) : Prop :=
  (p1 = 0 →
    wX2_isFact (fun r_1 : Int32 =>
      vZ r_1 ∧
      post r_1
      ) p2
  ) ∧ (¬ p1 = 0 →
  (p1 = 1 →
    wX0_holds (fun r_2 : Int32 =>
      vZ r_2 ∧
      post r_2
      ) bn p2
  ) ∧ (¬ p1 = 1 →
  (p1 = 2 →
    wX0_holds (fun r_3 : Int32 =>
      ((r_3 = 0) →
        post (0 : Int32)
      ) ∧ (¬ (r_3 = 0) →
        wX0_holds (fun r_4 : Int32 =>
          ((r_4 = 0) →
            post (0 : Int32)
          ) ∧ (¬ (r_4 = 0) →
            post (1 : Int32)
          )
          ) bn p3
      )
      ) bn p2
  ) ∧ (¬ p1 = 2 →
  (p1 = 3 →
    wX0_holds (fun r_5 : Int32 =>
      ((r_5 = 0) →
        post (0 : Int32)
      ) ∧ (¬ (r_5 = 0) →
        wX0_holds (fun r_6 : Int32 =>
          ((r_6 = 0) →
            post (0 : Int32)
          ) ∧ (¬ (r_6 = 0) →
            post (1 : Int32)
          )
          ) bn p3
      )
      ) bn p2
  ) ∧ (¬ p1 = 3 →
  (p1 = 4 →
    wX2_isGuard (fun r_7 : Int32 =>
      ((r_7 = 0) →
        post (0 : Int32)
      ) ∧ (¬ (r_7 = 0) →
        wX0_holds (fun r_8 : Int32 =>
          ((r_8 = 0) →
            post (0 : Int32)
          ) ∧ (¬ (r_8 = 0) →
            post (1 : Int32)
          )
          ) bn p3
      )
      ) p2
  ) ∧ (¬ p1 = 4 →
  (p1 = 5 →
    wX2_isSetOfGuards (fun r_9 : Int32 =>
      ((r_9 = 0) →
        post (0 : Int32)
      ) ∧ (¬ (r_9 = 0) →
        wX0_holds (fun r_10 : Int32 =>
          ((r_10 = 0) →
            post (0 : Int32)
          ) ∧ (¬ (r_10 = 0) →
            post (1 : Int32)
          )
          ) bn p3
      )
      ) p2
  ) ∧ (¬ p1 = 5 →
  (p1 = 6 →
    wX2_isSetOfGuards (fun r_11 : Int32 =>
      ((r_11 = 0) →
        post (0 : Int32)
      ) ∧ (¬ (r_11 = 0) →
        wX0_holds (fun r_12 : Int32 =>
          ((r_12 = 0) →
            post (0 : Int32)
          ) ∧ (¬ (r_12 = 0) →
            post (1 : Int32)
          )
          ) bn p3
      )
      ) p2
  ) ∧ (¬ p1 = 6 →
  (p1 = 7 →
    wX2_isSetOfGuards (fun r_13 : Int32 =>
      ((r_13 = 0) →
        post (0 : Int32)
      ) ∧ (¬ (r_13 = 0) →
        wX0_holds (fun r_14 : Int32 =>
          ((r_14 = 0) →
            post (0 : Int32)
          ) ∧ (¬ (r_14 = 0) →
            post (1 : Int32)
          )
          ) bn p3
      )
      ) p2
  ) ∧ (¬ p1 = 7 →
    post (0 : Int32)
  ))))))))
abbrev wl_X0_fits : List Cond := .code yX0_fits cX0_fits 4 (some .boolean) :: lwg
abbrev rm_X0_fits : Room := { frames := 1, cells := 0, slots := 0, locals := 21 }
set_option maxHeartbeats 4000000 in
set_option maxRecDepth 100000 in
theorem kX0_fits {post : Int32 → Prop} (l : Launch) (G : GT) (b0 : Nat) (b1 : Nat) (b2 : Nat) (b3 : Nat) (b4 : Nat) (b5 : Nat) (b6 : Nat) (kf : Nat → Int32) (ff : Nat → Int32) (sf : Nat → Int32) (df : Nat → Int32) (pf : Nat → Int64) (gf : Nat → Int64) (bn : Int32) (p1 : Int32) (p2 : Int32) (p3 : Int32) (h : wX0_fits post bn p1 p2 p3) : Met l yX0_fits wl_X0_fits rm_X0_fits (va_Pc [.ref b0, .int p1, .int p2, .int p3] (fun U => PP G [(b0, .inr (3, [.ref b1, .ref b2, .ref b3, .ref b4, .ref b5, .ref b6, .int bn])), (b1, .inl (G.2 0, 40, .inl kf)), (b2, .inl (G.2 0, 40, .inl ff)), (b3, .inl (G.2 0, 40, .inl sf)), (b4, .inl (G.2 0, 40, .inl df)), (b5, .inl (G.2 1, 40, .inr (.inl pf))), (b6, .inl (G.2 1, 6, .inr (.inl gf)))] U.heap ∧ KK G U)) (vp_Si post) 0 0 (fun _ => False) := by
  refine Met.ofW (cc := cX0_fits) (maxL := 4) (ret := (some .boolean)) (by decide) rfl ?_
  intro p e s m args below meth c s₁ B hml hv
  obtain ⟨rfl, hP, hKK⟩ := hv
  obtain ⟨hK, hN, hR, hFW, hNC⟩ := id hKK
  have hx := B.exec
  have hb := B.bytes
  have hr := B.returns
  have hts0 := atoms_spec (ws := wl_X0_fits) B.pre
  have hts : ∀ w ∈ lwg, w.before ([.ref b0, .int p1, .int p2, .int p3] : List Value).toArray s = true := fun w hw => hts0 w (List.mem_cons_of_mem _ hw)
  have hown : s.vm.findClass RX0 = some m.cls := findClass_of_methodNamed B.named
  have hlocks := B.notSynchronized
  have hP : PP G [(b0, .inr (3, [.ref b1, .ref b2, .ref b3, .ref b4, .ref b5, .ref b6, .int bn])), (b1, .inl (G.2 0, 40, .inl kf)), (b2, .inl (G.2 0, 40, .inl ff)), (b3, .inl (G.2 0, 40, .inl sf)), (b4, .inl (G.2 0, 40, .inl df)), (b5, .inl (G.2 1, 40, .inr (.inl pf))), (b6, .inl (G.2 1, 6, .inr (.inl gf)))] s.heap := hP
  have hl := lv_entry ([.ref b0, .int p1, .int p2, .int p3]) (n := 4) (Nat.le_of_ble_eq_true rfl)
  rw [lg_entry_eq]
  generalize (lg_sl ([.ref b0, .int p1, .int p2, .int p3]) ++ List.replicate (4 - (lg_sl ([.ref b0, .int p1, .int p2, .int p3])).length) Slot.unset).toArray = ls at hl ⊢
  have hl : lv_has ls 4 [(0, .ref b0), (1, .int p1), (2, .int p2), (3, .int p3)] := hl
  refine lv_iload_n hx hb dX0_fits_0 rfl (lv_at hl 1 rfl) ?_
  by_cases hc0 : p1 = 0
  · have h := h.1 hc0
    refine lv_tableIn (tgt := 48) hx hb dX0_fits_1 (by rw [hc0]; decide) (by rw [hc0]; decide) (by rw [hc0]; rfl) (by decide) ?_
    refine lv_iload_n hx hb dX0_fits_48 rfl (lv_at hl 2 rfl) ?_
    have hPc := va_P.sub (ws' := []) hP [] rfl
    refine rdI (va_runSN (As := [.int p2]) (rest := []) ⟨hx, hb, hml, hown, hts⟩ (kX2_isFact l G p2 h) ⟨va_cnB 1 hts (gdC q131) rfl rfl rfl (hN _ n532) (hts _ q1) (by decide +kernel) ⟨Nat.le_of_ble_eq_true rfl, Nat.le_of_ble_eq_true rfl⟩, hts _ q130, trivial⟩ (preS hPc hKK) rfl rfl hl.1 rfl (lv_room (Nat.le_of_ble_eq_true rfl)) dX0_fits_49 ⟨Nat.zero_le _, Nat.zero_le _⟩) (fun r_1 h => ?_)
    obtain ⟨hz, h⟩ := h
    exact W.zret (v := r_1) hx hb hr (vZn hz) (fun t ht _ => ⟨_, rfl, h, ht⟩) (fun _ hq => absurd hq List.not_mem_nil) dX0_fits_52
  have h := h.2 hc0
  by_cases hc1 : p1 = 1
  · have h := h.1 hc1
    refine lv_tableIn (tgt := 53) hx hb dX0_fits_1 (by rw [hc1]; decide) (by rw [hc1]; decide) (by rw [hc1]; rfl) (by decide) ?_
    refine lv_aload_n hx hb dX0_fits_53 rfl (lv_at hl 0 rfl) ?_
    refine lv_iload_n hx hb dX0_fits_54 rfl (lv_at hl 2 rfl) ?_
    have hPc := hP
    refine rdI (va_runV (C := RX0) (As := [.int p2]) (rest := []) ⟨hx, hb, hml, hown, hts⟩ (kX0_holds l G b0 b1 b2 b3 b4 b5 b6 kf ff sf df pf gf bn p2 h) (cwV 1 hts (gdV q114 q115 q116 q2 q117) rfl rfl rfl (by decide +kernel) ⟨Nat.le_of_ble_eq_true rfl, Nat.le_of_ble_eq_true rfl⟩) (preV hPc hKK (va_recv hK hPc (ci := 3) (q0 := 0) rfl rfl)) rfl rfl hl.1 rfl (lv_room (Nat.le_of_ble_eq_true rfl)) dX0_fits_55 ⟨Nat.zero_le _, Nat.zero_le _⟩) (fun r_2 h => ?_)
    obtain ⟨hz, h⟩ := h
    exact W.zret (v := r_2) hx hb hr (vZn hz) (fun t ht _ => ⟨_, rfl, h, ht⟩) (fun _ hq => absurd hq List.not_mem_nil) dX0_fits_58
  have h := h.2 hc1
  by_cases hc2 : p1 = 2
  · have h := h.1 hc2
    refine lv_tableIn (tgt := 59) hx hb dX0_fits_1 (by rw [hc2]; decide) (by rw [hc2]; decide) (by rw [hc2]; rfl) (by decide) ?_
    refine lv_aload_n hx hb dX0_fits_59 rfl (lv_at hl 0 rfl) ?_
    refine lv_iload_n hx hb dX0_fits_60 rfl (lv_at hl 2 rfl) ?_
    have hPc := hP
    refine rdI (va_runV (C := RX0) (As := [.int p2]) (rest := []) ⟨hx, hb, hml, hown, hts⟩ (kX0_holds l G b0 b1 b2 b3 b4 b5 b6 kf ff sf df pf gf bn p2 h) (cwV 1 hts (gdV q114 q115 q116 q2 q117) rfl rfl rfl (by decide +kernel) ⟨Nat.le_of_ble_eq_true rfl, Nat.le_of_ble_eq_true rfl⟩) (preV hPc hKK (va_recv hK hPc (ci := 3) (q0 := 0) rfl rfl)) rfl rfl hl.1 rfl (lv_room (Nat.le_of_ble_eq_true rfl)) dX0_fits_61 ⟨Nat.zero_le _, Nat.zero_le _⟩) (fun r_3 h => ?_)
    refine lv_if_eq (tgt := 79) hx hb dX0_fits_64 (by decide) (fun hc => ?_) (fun hc => ?_)
    · have h := h.1 hc
      refine lv_iconst (v := 0) hx hb dX0_fits_79 (by decide) ?_
      exact W.zret (v := (0 : Int32)) hx hb hr (by decide) (fun t ht _ => ⟨_, rfl, h, ht⟩) (fun _ hq => absurd hq List.not_mem_nil) dX0_fits_80
    · have h := h.2 hc
      refine lv_aload_n hx hb dX0_fits_67 rfl (lv_at hl 0 rfl) ?_
      refine lv_iload_n hx hb dX0_fits_68 rfl (lv_at hl 3 rfl) ?_
      have hPc := hP
      refine rdI (va_runV (C := RX0) (As := [.int p3]) (rest := []) ⟨hx, hb, hml, hown, hts⟩ (kX0_holds l G b0 b1 b2 b3 b4 b5 b6 kf ff sf df pf gf bn p3 h) (cwV 1 hts (gdV q114 q115 q116 q2 q117) rfl rfl rfl (by decide +kernel) ⟨Nat.le_of_ble_eq_true rfl, Nat.le_of_ble_eq_true rfl⟩) (preV hPc hKK (va_recv hK hPc (ci := 3) (q0 := 0) rfl rfl)) rfl rfl hl.1 rfl (lv_room (Nat.le_of_ble_eq_true rfl)) dX0_fits_69 ⟨Nat.zero_le _, Nat.zero_le _⟩) (fun r_4 h => ?_)
      refine lv_if_eq (tgt := 79) hx hb dX0_fits_72 (by decide) (fun hc => ?_) (fun hc => ?_)
      · have h := h.1 hc
        refine lv_iconst (v := 0) hx hb dX0_fits_79 (by decide) ?_
        exact W.zret (v := (0 : Int32)) hx hb hr (by decide) (fun t ht _ => ⟨_, rfl, h, ht⟩) (fun _ hq => absurd hq List.not_mem_nil) dX0_fits_80
      · have h := h.2 hc
        refine lv_iconst (v := 1) hx hb dX0_fits_75 (by decide) ?_
        refine lv_goto (tgt := 80) hx hb dX0_fits_76 (by decide) ?_
        exact W.zret (v := (1 : Int32)) hx hb hr (by decide) (fun t ht _ => ⟨_, rfl, h, ht⟩) (fun _ hq => absurd hq List.not_mem_nil) dX0_fits_80
  have h := h.2 hc2
  by_cases hc3 : p1 = 3
  · have h := h.1 hc3
    refine lv_tableIn (tgt := 59) hx hb dX0_fits_1 (by rw [hc3]; decide) (by rw [hc3]; decide) (by rw [hc3]; rfl) (by decide) ?_
    refine lv_aload_n hx hb dX0_fits_59 rfl (lv_at hl 0 rfl) ?_
    refine lv_iload_n hx hb dX0_fits_60 rfl (lv_at hl 2 rfl) ?_
    have hPc := hP
    refine rdI (va_runV (C := RX0) (As := [.int p2]) (rest := []) ⟨hx, hb, hml, hown, hts⟩ (kX0_holds l G b0 b1 b2 b3 b4 b5 b6 kf ff sf df pf gf bn p2 h) (cwV 1 hts (gdV q114 q115 q116 q2 q117) rfl rfl rfl (by decide +kernel) ⟨Nat.le_of_ble_eq_true rfl, Nat.le_of_ble_eq_true rfl⟩) (preV hPc hKK (va_recv hK hPc (ci := 3) (q0 := 0) rfl rfl)) rfl rfl hl.1 rfl (lv_room (Nat.le_of_ble_eq_true rfl)) dX0_fits_61 ⟨Nat.zero_le _, Nat.zero_le _⟩) (fun r_5 h => ?_)
    refine lv_if_eq (tgt := 79) hx hb dX0_fits_64 (by decide) (fun hc => ?_) (fun hc => ?_)
    · have h := h.1 hc
      refine lv_iconst (v := 0) hx hb dX0_fits_79 (by decide) ?_
      exact W.zret (v := (0 : Int32)) hx hb hr (by decide) (fun t ht _ => ⟨_, rfl, h, ht⟩) (fun _ hq => absurd hq List.not_mem_nil) dX0_fits_80
    · have h := h.2 hc
      refine lv_aload_n hx hb dX0_fits_67 rfl (lv_at hl 0 rfl) ?_
      refine lv_iload_n hx hb dX0_fits_68 rfl (lv_at hl 3 rfl) ?_
      have hPc := hP
      refine rdI (va_runV (C := RX0) (As := [.int p3]) (rest := []) ⟨hx, hb, hml, hown, hts⟩ (kX0_holds l G b0 b1 b2 b3 b4 b5 b6 kf ff sf df pf gf bn p3 h) (cwV 1 hts (gdV q114 q115 q116 q2 q117) rfl rfl rfl (by decide +kernel) ⟨Nat.le_of_ble_eq_true rfl, Nat.le_of_ble_eq_true rfl⟩) (preV hPc hKK (va_recv hK hPc (ci := 3) (q0 := 0) rfl rfl)) rfl rfl hl.1 rfl (lv_room (Nat.le_of_ble_eq_true rfl)) dX0_fits_69 ⟨Nat.zero_le _, Nat.zero_le _⟩) (fun r_6 h => ?_)
      refine lv_if_eq (tgt := 79) hx hb dX0_fits_72 (by decide) (fun hc => ?_) (fun hc => ?_)
      · have h := h.1 hc
        refine lv_iconst (v := 0) hx hb dX0_fits_79 (by decide) ?_
        exact W.zret (v := (0 : Int32)) hx hb hr (by decide) (fun t ht _ => ⟨_, rfl, h, ht⟩) (fun _ hq => absurd hq List.not_mem_nil) dX0_fits_80
      · have h := h.2 hc
        refine lv_iconst (v := 1) hx hb dX0_fits_75 (by decide) ?_
        refine lv_goto (tgt := 80) hx hb dX0_fits_76 (by decide) ?_
        exact W.zret (v := (1 : Int32)) hx hb hr (by decide) (fun t ht _ => ⟨_, rfl, h, ht⟩) (fun _ hq => absurd hq List.not_mem_nil) dX0_fits_80
  have h := h.2 hc3
  by_cases hc4 : p1 = 4
  · have h := h.1 hc4
    refine lv_tableIn (tgt := 81) hx hb dX0_fits_1 (by rw [hc4]; decide) (by rw [hc4]; decide) (by rw [hc4]; rfl) (by decide) ?_
    refine lv_iload_n hx hb dX0_fits_81 rfl (lv_at hl 2 rfl) ?_
    have hPc := va_P.sub (ws' := []) hP [] rfl
    refine rdI (va_runSN (As := [.int p2]) (rest := []) ⟨hx, hb, hml, hown, hts⟩ (kX2_isGuard l G p2 h) ⟨va_cnB 1 hts (gdC q348) rfl rfl rfl (hN _ n458) (hts _ q1) (by decide +kernel) ⟨Nat.le_of_ble_eq_true rfl, Nat.le_of_ble_eq_true rfl⟩, hts _ q347, trivial⟩ (preS hPc hKK) rfl rfl hl.1 rfl (lv_room (Nat.le_of_ble_eq_true rfl)) dX0_fits_82 ⟨Nat.zero_le _, Nat.zero_le _⟩) (fun r_7 h => ?_)
    refine lv_if_eq (tgt := 100) hx hb dX0_fits_85 (by decide) (fun hc => ?_) (fun hc => ?_)
    · have h := h.1 hc
      refine lv_iconst (v := 0) hx hb dX0_fits_100 (by decide) ?_
      exact W.zret (v := (0 : Int32)) hx hb hr (by decide) (fun t ht _ => ⟨_, rfl, h, ht⟩) (fun _ hq => absurd hq List.not_mem_nil) dX0_fits_101
    · have h := h.2 hc
      refine lv_aload_n hx hb dX0_fits_88 rfl (lv_at hl 0 rfl) ?_
      refine lv_iload_n hx hb dX0_fits_89 rfl (lv_at hl 3 rfl) ?_
      have hPc := hP
      refine rdI (va_runV (C := RX0) (As := [.int p3]) (rest := []) ⟨hx, hb, hml, hown, hts⟩ (kX0_holds l G b0 b1 b2 b3 b4 b5 b6 kf ff sf df pf gf bn p3 h) (cwV 1 hts (gdV q114 q115 q116 q2 q117) rfl rfl rfl (by decide +kernel) ⟨Nat.le_of_ble_eq_true rfl, Nat.le_of_ble_eq_true rfl⟩) (preV hPc hKK (va_recv hK hPc (ci := 3) (q0 := 0) rfl rfl)) rfl rfl hl.1 rfl (lv_room (Nat.le_of_ble_eq_true rfl)) dX0_fits_90 ⟨Nat.zero_le _, Nat.zero_le _⟩) (fun r_8 h => ?_)
      refine lv_if_eq (tgt := 100) hx hb dX0_fits_93 (by decide) (fun hc => ?_) (fun hc => ?_)
      · have h := h.1 hc
        refine lv_iconst (v := 0) hx hb dX0_fits_100 (by decide) ?_
        exact W.zret (v := (0 : Int32)) hx hb hr (by decide) (fun t ht _ => ⟨_, rfl, h, ht⟩) (fun _ hq => absurd hq List.not_mem_nil) dX0_fits_101
      · have h := h.2 hc
        refine lv_iconst (v := 1) hx hb dX0_fits_96 (by decide) ?_
        refine lv_goto (tgt := 101) hx hb dX0_fits_97 (by decide) ?_
        exact W.zret (v := (1 : Int32)) hx hb hr (by decide) (fun t ht _ => ⟨_, rfl, h, ht⟩) (fun _ hq => absurd hq List.not_mem_nil) dX0_fits_101
  have h := h.2 hc4
  by_cases hc5 : p1 = 5
  · have h := h.1 hc5
    refine lv_tableIn (tgt := 102) hx hb dX0_fits_1 (by rw [hc5]; decide) (by rw [hc5]; decide) (by rw [hc5]; rfl) (by decide) ?_
    refine lv_iload_n hx hb dX0_fits_102 rfl (lv_at hl 2 rfl) ?_
    have hPc := va_P.sub (ws' := []) hP [] rfl
    refine rdI (va_runSN (As := [.int p2]) (rest := []) ⟨hx, hb, hml, hown, hts⟩ (kX2_isSetOfGuards l G p2 h) ⟨va_cnB 1 hts (gdC q438) rfl rfl rfl (hN _ n533) (hts _ q1) (by decide +kernel) ⟨Nat.le_of_ble_eq_true rfl, Nat.le_of_ble_eq_true rfl⟩, hts _ q437, trivial⟩ (preS hPc hKK) rfl rfl hl.1 rfl (lv_room (Nat.le_of_ble_eq_true rfl)) dX0_fits_103 ⟨Nat.zero_le _, Nat.zero_le _⟩) (fun r_9 h => ?_)
    refine lv_if_eq (tgt := 121) hx hb dX0_fits_106 (by decide) (fun hc => ?_) (fun hc => ?_)
    · have h := h.1 hc
      refine lv_iconst (v := 0) hx hb dX0_fits_121 (by decide) ?_
      exact W.zret (v := (0 : Int32)) hx hb hr (by decide) (fun t ht _ => ⟨_, rfl, h, ht⟩) (fun _ hq => absurd hq List.not_mem_nil) dX0_fits_122
    · have h := h.2 hc
      refine lv_aload_n hx hb dX0_fits_109 rfl (lv_at hl 0 rfl) ?_
      refine lv_iload_n hx hb dX0_fits_110 rfl (lv_at hl 3 rfl) ?_
      have hPc := hP
      refine rdI (va_runV (C := RX0) (As := [.int p3]) (rest := []) ⟨hx, hb, hml, hown, hts⟩ (kX0_holds l G b0 b1 b2 b3 b4 b5 b6 kf ff sf df pf gf bn p3 h) (cwV 1 hts (gdV q114 q115 q116 q2 q117) rfl rfl rfl (by decide +kernel) ⟨Nat.le_of_ble_eq_true rfl, Nat.le_of_ble_eq_true rfl⟩) (preV hPc hKK (va_recv hK hPc (ci := 3) (q0 := 0) rfl rfl)) rfl rfl hl.1 rfl (lv_room (Nat.le_of_ble_eq_true rfl)) dX0_fits_111 ⟨Nat.zero_le _, Nat.zero_le _⟩) (fun r_10 h => ?_)
      refine lv_if_eq (tgt := 121) hx hb dX0_fits_114 (by decide) (fun hc => ?_) (fun hc => ?_)
      · have h := h.1 hc
        refine lv_iconst (v := 0) hx hb dX0_fits_121 (by decide) ?_
        exact W.zret (v := (0 : Int32)) hx hb hr (by decide) (fun t ht _ => ⟨_, rfl, h, ht⟩) (fun _ hq => absurd hq List.not_mem_nil) dX0_fits_122
      · have h := h.2 hc
        refine lv_iconst (v := 1) hx hb dX0_fits_117 (by decide) ?_
        refine lv_goto (tgt := 122) hx hb dX0_fits_118 (by decide) ?_
        exact W.zret (v := (1 : Int32)) hx hb hr (by decide) (fun t ht _ => ⟨_, rfl, h, ht⟩) (fun _ hq => absurd hq List.not_mem_nil) dX0_fits_122
  have h := h.2 hc5
  by_cases hc6 : p1 = 6
  · have h := h.1 hc6
    refine lv_tableIn (tgt := 102) hx hb dX0_fits_1 (by rw [hc6]; decide) (by rw [hc6]; decide) (by rw [hc6]; rfl) (by decide) ?_
    refine lv_iload_n hx hb dX0_fits_102 rfl (lv_at hl 2 rfl) ?_
    have hPc := va_P.sub (ws' := []) hP [] rfl
    refine rdI (va_runSN (As := [.int p2]) (rest := []) ⟨hx, hb, hml, hown, hts⟩ (kX2_isSetOfGuards l G p2 h) ⟨va_cnB 1 hts (gdC q438) rfl rfl rfl (hN _ n533) (hts _ q1) (by decide +kernel) ⟨Nat.le_of_ble_eq_true rfl, Nat.le_of_ble_eq_true rfl⟩, hts _ q437, trivial⟩ (preS hPc hKK) rfl rfl hl.1 rfl (lv_room (Nat.le_of_ble_eq_true rfl)) dX0_fits_103 ⟨Nat.zero_le _, Nat.zero_le _⟩) (fun r_11 h => ?_)
    refine lv_if_eq (tgt := 121) hx hb dX0_fits_106 (by decide) (fun hc => ?_) (fun hc => ?_)
    · have h := h.1 hc
      refine lv_iconst (v := 0) hx hb dX0_fits_121 (by decide) ?_
      exact W.zret (v := (0 : Int32)) hx hb hr (by decide) (fun t ht _ => ⟨_, rfl, h, ht⟩) (fun _ hq => absurd hq List.not_mem_nil) dX0_fits_122
    · have h := h.2 hc
      refine lv_aload_n hx hb dX0_fits_109 rfl (lv_at hl 0 rfl) ?_
      refine lv_iload_n hx hb dX0_fits_110 rfl (lv_at hl 3 rfl) ?_
      have hPc := hP
      refine rdI (va_runV (C := RX0) (As := [.int p3]) (rest := []) ⟨hx, hb, hml, hown, hts⟩ (kX0_holds l G b0 b1 b2 b3 b4 b5 b6 kf ff sf df pf gf bn p3 h) (cwV 1 hts (gdV q114 q115 q116 q2 q117) rfl rfl rfl (by decide +kernel) ⟨Nat.le_of_ble_eq_true rfl, Nat.le_of_ble_eq_true rfl⟩) (preV hPc hKK (va_recv hK hPc (ci := 3) (q0 := 0) rfl rfl)) rfl rfl hl.1 rfl (lv_room (Nat.le_of_ble_eq_true rfl)) dX0_fits_111 ⟨Nat.zero_le _, Nat.zero_le _⟩) (fun r_12 h => ?_)
      refine lv_if_eq (tgt := 121) hx hb dX0_fits_114 (by decide) (fun hc => ?_) (fun hc => ?_)
      · have h := h.1 hc
        refine lv_iconst (v := 0) hx hb dX0_fits_121 (by decide) ?_
        exact W.zret (v := (0 : Int32)) hx hb hr (by decide) (fun t ht _ => ⟨_, rfl, h, ht⟩) (fun _ hq => absurd hq List.not_mem_nil) dX0_fits_122
      · have h := h.2 hc
        refine lv_iconst (v := 1) hx hb dX0_fits_117 (by decide) ?_
        refine lv_goto (tgt := 122) hx hb dX0_fits_118 (by decide) ?_
        exact W.zret (v := (1 : Int32)) hx hb hr (by decide) (fun t ht _ => ⟨_, rfl, h, ht⟩) (fun _ hq => absurd hq List.not_mem_nil) dX0_fits_122
  have h := h.2 hc6
  by_cases hc7 : p1 = 7
  · have h := h.1 hc7
    refine lv_tableIn (tgt := 102) hx hb dX0_fits_1 (by rw [hc7]; decide) (by rw [hc7]; decide) (by rw [hc7]; rfl) (by decide) ?_
    refine lv_iload_n hx hb dX0_fits_102 rfl (lv_at hl 2 rfl) ?_
    have hPc := va_P.sub (ws' := []) hP [] rfl
    refine rdI (va_runSN (As := [.int p2]) (rest := []) ⟨hx, hb, hml, hown, hts⟩ (kX2_isSetOfGuards l G p2 h) ⟨va_cnB 1 hts (gdC q438) rfl rfl rfl (hN _ n533) (hts _ q1) (by decide +kernel) ⟨Nat.le_of_ble_eq_true rfl, Nat.le_of_ble_eq_true rfl⟩, hts _ q437, trivial⟩ (preS hPc hKK) rfl rfl hl.1 rfl (lv_room (Nat.le_of_ble_eq_true rfl)) dX0_fits_103 ⟨Nat.zero_le _, Nat.zero_le _⟩) (fun r_13 h => ?_)
    refine lv_if_eq (tgt := 121) hx hb dX0_fits_106 (by decide) (fun hc => ?_) (fun hc => ?_)
    · have h := h.1 hc
      refine lv_iconst (v := 0) hx hb dX0_fits_121 (by decide) ?_
      exact W.zret (v := (0 : Int32)) hx hb hr (by decide) (fun t ht _ => ⟨_, rfl, h, ht⟩) (fun _ hq => absurd hq List.not_mem_nil) dX0_fits_122
    · have h := h.2 hc
      refine lv_aload_n hx hb dX0_fits_109 rfl (lv_at hl 0 rfl) ?_
      refine lv_iload_n hx hb dX0_fits_110 rfl (lv_at hl 3 rfl) ?_
      have hPc := hP
      refine rdI (va_runV (C := RX0) (As := [.int p3]) (rest := []) ⟨hx, hb, hml, hown, hts⟩ (kX0_holds l G b0 b1 b2 b3 b4 b5 b6 kf ff sf df pf gf bn p3 h) (cwV 1 hts (gdV q114 q115 q116 q2 q117) rfl rfl rfl (by decide +kernel) ⟨Nat.le_of_ble_eq_true rfl, Nat.le_of_ble_eq_true rfl⟩) (preV hPc hKK (va_recv hK hPc (ci := 3) (q0 := 0) rfl rfl)) rfl rfl hl.1 rfl (lv_room (Nat.le_of_ble_eq_true rfl)) dX0_fits_111 ⟨Nat.zero_le _, Nat.zero_le _⟩) (fun r_14 h => ?_)
      refine lv_if_eq (tgt := 121) hx hb dX0_fits_114 (by decide) (fun hc => ?_) (fun hc => ?_)
      · have h := h.1 hc
        refine lv_iconst (v := 0) hx hb dX0_fits_121 (by decide) ?_
        exact W.zret (v := (0 : Int32)) hx hb hr (by decide) (fun t ht _ => ⟨_, rfl, h, ht⟩) (fun _ hq => absurd hq List.not_mem_nil) dX0_fits_122
      · have h := h.2 hc
        refine lv_iconst (v := 1) hx hb dX0_fits_117 (by decide) ?_
        refine lv_goto (tgt := 122) hx hb dX0_fits_118 (by decide) ?_
        exact W.zret (v := (1 : Int32)) hx hb hr (by decide) (fun t ht _ => ⟨_, rfl, h, ht⟩) (fun _ hq => absurd hq List.not_mem_nil) dX0_fits_122
  have h := h.2 hc7
  refine lv_tableOut (tgt := 123) hx hb dX0_fits_1 (tsw_0_7 hc0 hc1 hc2 hc3 hc4 hc5 hc6 hc7) (by decide) ?_
  refine lv_iconst (v := 0) hx hb dX0_fits_123 (by decide) ?_
  exact W.zret (v := (0 : Int32)) hx hb hr (by decide) (fun t ht _ => ⟨_, rfl, h, ht⟩) (fun _ hq => absurd hq List.not_mem_nil) dX0_fits_124
theorem dX0_names_0 : decode cX0_names 0 = .ok (.iload_n 0, 1) := by decide +kernel
theorem dX0_names_1 : decode cX0_names 1 = .ok (.iconst 4, 1) := by decide +kernel
theorem dX0_names_2 : decode cX0_names 2 = .ok (.if_icmp .ne 16, 3) := by decide +kernel
theorem dX0_names_5 : decode cX0_names 5 = .ok (.iload_n 1, 1) := by decide +kernel
theorem dX0_names_6 : decode cX0_names 6 = .ok (.iload_n 2, 1) := by decide +kernel
theorem dX0_names_7 : decode cX0_names 7 = .ok (.if_icmp .ne 7, 3) := by decide +kernel
theorem dX0_names_10 : decode cX0_names 10 = .ok (.iconst 1, 1) := by decide +kernel
theorem dX0_names_11 : decode cX0_names 11 = .ok (.goto 26, 3) := by decide +kernel
theorem dX0_names_14 : decode cX0_names 14 = .ok (.iconst 0, 1) := by decide +kernel
theorem dX0_names_15 : decode cX0_names 15 = .ok (.goto 22, 3) := by decide +kernel
theorem dX0_names_18 : decode cX0_names 18 = .ok (.iload_n 0, 1) := by decide +kernel
theorem dX0_names_19 : decode cX0_names 19 = .ok (.iconst 4, 1) := by decide +kernel
theorem dX0_names_20 : decode cX0_names 20 = .ok (.if_icmp .le 16, 3) := by decide +kernel
theorem dX0_names_23 : decode cX0_names 23 = .ok (.iload_n 1, 1) := by decide +kernel
theorem dX0_names_24 : decode cX0_names 24 = .ok (.i2l, 1) := by decide +kernel
theorem dX0_names_25 : decode cX0_names 25 = .ok (.iload_n 2, 1) := by decide +kernel
theorem dX0_names_26 : decode cX0_names 26 = .ok (.invokestatic 73, 3) := by decide +kernel
theorem dX0_names_29 : decode cX0_names 29 = .ok (.ifCond .eq 7, 3) := by decide +kernel
theorem dX0_names_32 : decode cX0_names 32 = .ok (.iconst 1, 1) := by decide +kernel
theorem dX0_names_33 : decode cX0_names 33 = .ok (.goto 4, 3) := by decide +kernel
theorem dX0_names_36 : decode cX0_names 36 = .ok (.iconst 0, 1) := by decide +kernel
theorem dX0_names_37 : decode cX0_names 37 = .ok (.ireturn, 1) := by decide +kernel
def wX0_names (post : Int32 → Prop) (p1 : Int32) (p2 : Int32) (p3 : Int32) : Prop :=
  ((¬ p1 = (4 : Int32)) →
    ((p1 ≤ (4 : Int32)) →
      post (0 : Int32)
    ) ∧ (¬ (p1 ≤ (4 : Int32)) →
      wX2_has (fun r_1 : Int32 =>
        ((r_1 = 0) →
          post (0 : Int32)
        ) ∧ (¬ (r_1 = 0) →
          post (1 : Int32)
        )
        ) (p2.toInt64) p3
    )
  ) ∧ ((p1 = (4 : Int32)) →
    ((¬ p2 = p3) →
      post (0 : Int32)
    ) ∧ ((p2 = p3) →
      post (1 : Int32)
    )
  )
abbrev wl_X0_names : List Cond := .code yX0_names cX0_names 3 (some .boolean) :: lwg
abbrev rm_X0_names : Room := { frames := 1, cells := 0, slots := 0, locals := 22 }
set_option maxHeartbeats 4000000 in
set_option maxRecDepth 100000 in
theorem kX0_names {post : Int32 → Prop} (l : Launch) (G : GT) (p1 : Int32) (p2 : Int32) (p3 : Int32) (h : wX0_names post p1 p2 p3) : Met l yX0_names wl_X0_names rm_X0_names (va_Pc [.int p1, .int p2, .int p3] (fun U => PP G [] U.heap ∧ KK G U)) (vp_Si post) 0 0 (fun _ => False) := by
  refine Met.ofW (cc := cX0_names) (maxL := 3) (ret := (some .boolean)) (by decide) rfl ?_
  intro p e s m args below meth c s₁ B hml hv
  obtain ⟨rfl, hP, hKK⟩ := hv
  obtain ⟨hK, hN, hR, hFW, hNC⟩ := id hKK
  have hx := B.exec
  have hb := B.bytes
  have hr := B.returns
  have hts0 := atoms_spec (ws := wl_X0_names) B.pre
  have hts : ∀ w ∈ lwg, w.before ([.int p1, .int p2, .int p3] : List Value).toArray s = true := fun w hw => hts0 w (List.mem_cons_of_mem _ hw)
  have hown : s.vm.findClass RX0 = some m.cls := findClass_of_methodNamed B.named
  have hlocks := B.notSynchronized
  have hP : PP G [] s.heap := hP
  have hl := lv_entry ([.int p1, .int p2, .int p3]) (n := 3) (Nat.le_of_ble_eq_true rfl)
  rw [lg_entry_eq]
  generalize (lg_sl ([.int p1, .int p2, .int p3]) ++ List.replicate (3 - (lg_sl ([.int p1, .int p2, .int p3])).length) Slot.unset).toArray = ls at hl ⊢
  have hl : lv_has ls 3 [(0, .int p1), (1, .int p2), (2, .int p3)] := hl
  refine lv_iload_n hx hb dX0_names_0 rfl (lv_at hl 0 rfl) ?_
  refine lv_iconst (v := 4) hx hb dX0_names_1 (by decide) ?_
  refine lv_icmp_ne (tgt := 18) hx hb dX0_names_2 (by decide) (fun hc => ?_) (fun hc => ?_)
  · have h := h.1 hc
    refine lv_iload_n hx hb dX0_names_18 rfl (lv_at hl 0 rfl) ?_
    refine lv_iconst (v := 4) hx hb dX0_names_19 (by decide) ?_
    refine lv_icmp_le (tgt := 36) hx hb dX0_names_20 (by decide) (fun hc => ?_) (fun hc => ?_)
    · have h := h.1 hc
      refine lv_iconst (v := 0) hx hb dX0_names_36 (by decide) ?_
      exact W.zret (v := (0 : Int32)) hx hb hr (by decide) (fun t ht _ => ⟨_, rfl, h, ht⟩) (fun _ hq => absurd hq List.not_mem_nil) dX0_names_37
    · have h := h.2 hc
      refine lv_iload_n hx hb dX0_names_23 rfl (lv_at hl 1 rfl) ?_
      refine lv_i2l (v := (p2.toInt64)) hx hb dX0_names_24 rfl ?_
      refine lv_iload_n hx hb dX0_names_25 rfl (lv_at hl 2 rfl) ?_
      have hPc := hP
      refine rdI (va_runSN (As := [.long (p2.toInt64), .int p3]) (rest := []) ⟨hx, hb, hml, hown, hts⟩ (kX2_has l G (p2.toInt64) p3 h) ⟨va_cnB 2 hts (gdC q109) rfl rfl rfl (hN _ n567) (hts _ q1) (by decide +kernel) ⟨Nat.le_of_ble_eq_true rfl, Nat.le_of_ble_eq_true rfl⟩, hts _ q108, trivial⟩ (preS hPc hKK) rfl rfl hl.1 rfl (lv_room (Nat.le_of_ble_eq_true rfl)) dX0_names_26 ⟨Nat.zero_le _, Nat.zero_le _⟩) (fun r_1 h => ?_)
      refine lv_if_eq (tgt := 36) hx hb dX0_names_29 (by decide) (fun hc => ?_) (fun hc => ?_)
      · have h := h.1 hc
        refine lv_iconst (v := 0) hx hb dX0_names_36 (by decide) ?_
        exact W.zret (v := (0 : Int32)) hx hb hr (by decide) (fun t ht _ => ⟨_, rfl, h, ht⟩) (fun _ hq => absurd hq List.not_mem_nil) dX0_names_37
      · have h := h.2 hc
        refine lv_iconst (v := 1) hx hb dX0_names_32 (by decide) ?_
        refine lv_goto (tgt := 37) hx hb dX0_names_33 (by decide) ?_
        exact W.zret (v := (1 : Int32)) hx hb hr (by decide) (fun t ht _ => ⟨_, rfl, h, ht⟩) (fun _ hq => absurd hq List.not_mem_nil) dX0_names_37
  · have h := h.2 hc
    refine lv_iload_n hx hb dX0_names_5 rfl (lv_at hl 1 rfl) ?_
    refine lv_iload_n hx hb dX0_names_6 rfl (lv_at hl 2 rfl) ?_
    refine lv_icmp_ne (tgt := 14) hx hb dX0_names_7 (by decide) (fun hc => ?_) (fun hc => ?_)
    · have h := h.1 hc
      refine lv_iconst (v := 0) hx hb dX0_names_14 (by decide) ?_
      refine lv_goto (tgt := 37) hx hb dX0_names_15 (by decide) ?_
      exact W.zret (v := (0 : Int32)) hx hb hr (by decide) (fun t ht _ => ⟨_, rfl, h, ht⟩) (fun _ hq => absurd hq List.not_mem_nil) dX0_names_37
    · have h := h.2 hc
      refine lv_iconst (v := 1) hx hb dX0_names_10 (by decide) ?_
      refine lv_goto (tgt := 37) hx hb dX0_names_11 (by decide) ?_
      exact W.zret (v := (1 : Int32)) hx hb hr (by decide) (fun t ht _ => ⟨_, rfl, h, ht⟩) (fun _ hq => absurd hq List.not_mem_nil) dX0_names_37
theorem dX0_letterOf_0 : decode cX0_letterOf 0 = .ok (.iload_n 0, 1) := by decide +kernel
theorem dX0_letterOf_1 : decode cX0_letterOf 1 = .ok (.tableswitch 36 4 6 #[27, 30, 33], 27) := by decide +kernel
theorem dX0_letterOf_28 : decode cX0_letterOf 28 = .ok (.bipush 75, 2) := by decide +kernel
theorem dX0_letterOf_30 : decode cX0_letterOf 30 = .ok (.ireturn, 1) := by decide +kernel
theorem dX0_letterOf_31 : decode cX0_letterOf 31 = .ok (.bipush 69, 2) := by decide +kernel
theorem dX0_letterOf_33 : decode cX0_letterOf 33 = .ok (.ireturn, 1) := by decide +kernel
theorem dX0_letterOf_34 : decode cX0_letterOf 34 = .ok (.bipush 67, 2) := by decide +kernel
theorem dX0_letterOf_36 : decode cX0_letterOf 36 = .ok (.ireturn, 1) := by decide +kernel
theorem dX0_letterOf_37 : decode cX0_letterOf 37 = .ok (.bipush 68, 2) := by decide +kernel
theorem dX0_letterOf_39 : decode cX0_letterOf 39 = .ok (.ireturn, 1) := by decide +kernel
def wX0_letterOf (post : Int32 → Prop) (p1 : Int32) : Prop :=
  (p1 = 4 →
    post (75 : Int32)
  ) ∧ (¬ p1 = 4 →
  (p1 = 5 →
    post (69 : Int32)
  ) ∧ (¬ p1 = 5 →
  (p1 = 6 →
    post (67 : Int32)
  ) ∧ (¬ p1 = 6 →
    post (68 : Int32)
  )))
abbrev wl_X0_letterOf : List Cond := .code yX0_letterOf cX0_letterOf 1 (some .char) :: lwg
abbrev rm_X0_letterOf : Room := { frames := 0, cells := 0, slots := 0, locals := 0 }
set_option maxHeartbeats 4000000 in
set_option maxRecDepth 100000 in
theorem kX0_letterOf {post : Int32 → Prop} (l : Launch) (G : GT) (p1 : Int32) (h : wX0_letterOf post p1) : Met l yX0_letterOf wl_X0_letterOf rm_X0_letterOf (va_Pc [.int p1] (fun U => PP G [] U.heap ∧ KK G U)) (vp_Si post) 0 0 (fun _ => False) := by
  refine Met.ofW (cc := cX0_letterOf) (maxL := 1) (ret := (some .char)) (by decide) rfl ?_
  intro p e s m args below meth c s₁ B hml hv
  obtain ⟨rfl, hP, hKK⟩ := hv
  obtain ⟨hK, hN, hR, hFW, hNC⟩ := id hKK
  have hx := B.exec
  have hb := B.bytes
  have hr := B.returns
  have hts0 := atoms_spec (ws := wl_X0_letterOf) B.pre
  have hts : ∀ w ∈ lwg, w.before ([.int p1] : List Value).toArray s = true := fun w hw => hts0 w (List.mem_cons_of_mem _ hw)
  have hown : s.vm.findClass RX0 = some m.cls := findClass_of_methodNamed B.named
  have hlocks := B.notSynchronized
  have hP : PP G [] s.heap := hP
  have hl := lv_entry ([.int p1]) (n := 1) (Nat.le_of_ble_eq_true rfl)
  rw [lg_entry_eq]
  generalize (lg_sl ([.int p1]) ++ List.replicate (1 - (lg_sl ([.int p1])).length) Slot.unset).toArray = ls at hl ⊢
  have hl : lv_has ls 1 [(0, .int p1)] := hl
  refine lv_iload_n hx hb dX0_letterOf_0 rfl (lv_at hl 0 rfl) ?_
  by_cases hc4 : p1 = 4
  · have h := h.1 hc4
    refine lv_tableIn (tgt := 28) hx hb dX0_letterOf_1 (by rw [hc4]; decide) (by rw [hc4]; decide) (by rw [hc4]; rfl) (by decide) ?_
    refine lv_bipush (v := 75) hx hb dX0_letterOf_28 (by decide) ?_
    exact W.zret (v := (75 : Int32)) hx hb hr (by decide) (fun t ht _ => ⟨_, rfl, h, ht⟩) (fun _ hq => absurd hq List.not_mem_nil) dX0_letterOf_30
  have h := h.2 hc4
  by_cases hc5 : p1 = 5
  · have h := h.1 hc5
    refine lv_tableIn (tgt := 31) hx hb dX0_letterOf_1 (by rw [hc5]; decide) (by rw [hc5]; decide) (by rw [hc5]; rfl) (by decide) ?_
    refine lv_bipush (v := 69) hx hb dX0_letterOf_31 (by decide) ?_
    exact W.zret (v := (69 : Int32)) hx hb hr (by decide) (fun t ht _ => ⟨_, rfl, h, ht⟩) (fun _ hq => absurd hq List.not_mem_nil) dX0_letterOf_33
  have h := h.2 hc5
  by_cases hc6 : p1 = 6
  · have h := h.1 hc6
    refine lv_tableIn (tgt := 34) hx hb dX0_letterOf_1 (by rw [hc6]; decide) (by rw [hc6]; decide) (by rw [hc6]; rfl) (by decide) ?_
    refine lv_bipush (v := 67) hx hb dX0_letterOf_34 (by decide) ?_
    exact W.zret (v := (67 : Int32)) hx hb hr (by decide) (fun t ht _ => ⟨_, rfl, h, ht⟩) (fun _ hq => absurd hq List.not_mem_nil) dX0_letterOf_36
  have h := h.2 hc6
  refine lv_tableOut (tgt := 37) hx hb dX0_letterOf_1 (tsw_4_6 hc4 hc5 hc6) (by decide) ?_
  refine lv_bipush (v := 68) hx hb dX0_letterOf_37 (by decide) ?_
  exact W.zret (v := (68 : Int32)) hx hb hr (by decide) (fun t ht _ => ⟨_, rfl, h, ht⟩) (fun _ hq => absurd hq List.not_mem_nil) dX0_letterOf_39
theorem dX1_cell_0 : decode cX1_cell 0 = .ok (.iload_n 1, 1) := by decide +kernel
theorem dX1_cell_1 : decode cX1_cell 1 = .ok (.ifCond .lt 23, 3) := by decide +kernel
theorem dX1_cell_4 : decode cX1_cell 4 = .ok (.iload_n 1, 1) := by decide +kernel
theorem dX1_cell_5 : decode cX1_cell 5 = .ok (.bipush 6, 2) := by decide +kernel
theorem dX1_cell_7 : decode cX1_cell 7 = .ok (.if_icmp .ge 17, 3) := by decide +kernel
theorem dX1_cell_10 : decode cX1_cell 10 = .ok (.iload_n 2, 1) := by decide +kernel
theorem dX1_cell_11 : decode cX1_cell 11 = .ok (.ifCond .lt 13, 3) := by decide +kernel
theorem dX1_cell_14 : decode cX1_cell 14 = .ok (.iload_n 2, 1) := by decide +kernel
theorem dX1_cell_15 : decode cX1_cell 15 = .ok (.bipush 64, 2) := by decide +kernel
theorem dX1_cell_17 : decode cX1_cell 17 = .ok (.if_icmp .ge 7, 3) := by decide +kernel
theorem dX1_cell_20 : decode cX1_cell 20 = .ok (.iconst 1, 1) := by decide +kernel
theorem dX1_cell_21 : decode cX1_cell 21 = .ok (.goto 4, 3) := by decide +kernel
theorem dX1_cell_24 : decode cX1_cell 24 = .ok (.iconst 0, 1) := by decide +kernel
theorem dX1_cell_25 : decode cX1_cell 25 = .ok (.istore_n 3, 1) := by decide +kernel
theorem dX1_cell_26 : decode cX1_cell 26 = .ok (.iload_n 3, 1) := by decide +kernel
theorem dX1_cell_27 : decode cX1_cell 27 = .ok (.ifCond .eq 22, 3) := by decide +kernel
theorem dX1_cell_30 : decode cX1_cell 30 = .ok (.aload_n 0, 1) := by decide +kernel
theorem dX1_cell_31 : decode cX1_cell 31 = .ok (.getfield 9, 3) := by decide +kernel
theorem dX1_cell_34 : decode cX1_cell 34 = .ok (.iload_n 1, 1) := by decide +kernel
theorem dX1_cell_35 : decode cX1_cell 35 = .ok (.bipush 64, 2) := by decide +kernel
theorem dX1_cell_37 : decode cX1_cell 37 = .ok (.imul, 1) := by decide +kernel
theorem dX1_cell_38 : decode cX1_cell 38 = .ok (.iload_n 2, 1) := by decide +kernel
theorem dX1_cell_39 : decode cX1_cell 39 = .ok (.iadd, 1) := by decide +kernel
theorem dX1_cell_40 : decode cX1_cell 40 = .ok (.laload, 1) := by decide +kernel
theorem dX1_cell_41 : decode cX1_cell 41 = .ok (.aload_n 0, 1) := by decide +kernel
theorem dX1_cell_42 : decode cX1_cell 42 = .ok (.getfield 28, 3) := by decide +kernel
theorem dX1_cell_45 : decode cX1_cell 45 = .ok (.land, 1) := by decide +kernel
theorem dX1_cell_46 : decode cX1_cell 46 = .ok (.goto 4, 3) := by decide +kernel
theorem dX1_cell_49 : decode cX1_cell 49 = .ok (.lconst 0, 1) := by decide +kernel
theorem dX1_cell_50 : decode cX1_cell 50 = .ok (.lreturn, 1) := by decide +kernel
def wX1_cell (post : Int64 → Prop) (dk : Nat → Int64) (op : Int64) (p1 : Int32) (p2 : Int32) : Prop :=
  ((p1 < 0) →
    post (0 : Int64)
  ) ∧ (¬ (p1 < 0) →
    (((6 : Int32) ≤ p1) →
      post (0 : Int64)
    ) ∧ (¬ ((6 : Int32) ≤ p1) →
      ((p2 < 0) →
        post (0 : Int64)
      ) ∧ (¬ (p2 < 0) →
        (((64 : Int32) ≤ p2) →
          post (0 : Int64)
        ) ∧ (¬ ((64 : Int32) ≤ p2) →
          vp_in ((p1 * (64 : Int32)) + p2) 384 ∧
          post ((dk ((p1 * (64 : Int32)) + p2).toNatClampNeg) &&& op)
        )
      )
    )
  )
abbrev wl_X1_cell : List Cond := .code yX1_cell cX1_cell 4 (some .long) :: lwg
abbrev rm_X1_cell : Room := { frames := 0, cells := 0, slots := 0, locals := 0 }
set_option maxHeartbeats 4000000 in
set_option maxRecDepth 100000 in
theorem kX1_cell {post : Int64 → Prop} (l : Launch) (G : GT) (s0 : Nat) (s1 : Nat) (s2 : Nat) (b0 : Nat) (b1 : Nat) (b2 : Nat) (b3 : Nat) (b4 : Nat) (b5 : Nat) (b6 : Nat) (dk : Nat → Int64) (wg : Nat → Int64) (op : Int64) (re : Int32) (kf : Nat → Int32) (ff : Nat → Int32) (sf : Nat → Int32) (df : Nat → Int32) (pf : Nat → Int64) (gf : Nat → Int64) (bn : Int32) (p1 : Int32) (p2 : Int32) (h : wX1_cell post dk op p1 p2) : Met l yX1_cell wl_X1_cell rm_X1_cell (va_Pc [.ref s0, .int p1, .int p2] (fun U => PP G [(s0, .inr (4, [.ref b0, .ref s1, .ref s2, .long op, .int re])), (s1, .inl (G.2 1, 384, .inr (.inl dk))), (s2, .inl (G.2 1, 40, .inr (.inl wg))), (b0, .inr (3, [.ref b1, .ref b2, .ref b3, .ref b4, .ref b5, .ref b6, .int bn])), (b1, .inl (G.2 0, 40, .inl kf)), (b2, .inl (G.2 0, 40, .inl ff)), (b3, .inl (G.2 0, 40, .inl sf)), (b4, .inl (G.2 0, 40, .inl df)), (b5, .inl (G.2 1, 40, .inr (.inl pf))), (b6, .inl (G.2 1, 6, .inr (.inl gf)))] U.heap ∧ KK G U)) (vp_Sl post) 0 0 (fun _ => False) := by
  refine Met.ofW (cc := cX1_cell) (maxL := 4) (ret := (some .long)) (by decide) rfl ?_
  intro p e s m args below meth c s₁ B hml hv
  obtain ⟨rfl, hP, hKK⟩ := hv
  obtain ⟨hK, hN, hR, hFW, hNC⟩ := id hKK
  have hx := B.exec
  have hb := B.bytes
  have hr := B.returns
  have hts0 := atoms_spec (ws := wl_X1_cell) B.pre
  have hts : ∀ w ∈ lwg, w.before ([.ref s0, .int p1, .int p2] : List Value).toArray s = true := fun w hw => hts0 w (List.mem_cons_of_mem _ hw)
  have hown : s.vm.findClass RX1 = some m.cls := findClass_of_methodNamed B.named
  have hlocks := B.notSynchronized
  have hP : PP G [(s0, .inr (4, [.ref b0, .ref s1, .ref s2, .long op, .int re])), (s1, .inl (G.2 1, 384, .inr (.inl dk))), (s2, .inl (G.2 1, 40, .inr (.inl wg))), (b0, .inr (3, [.ref b1, .ref b2, .ref b3, .ref b4, .ref b5, .ref b6, .int bn])), (b1, .inl (G.2 0, 40, .inl kf)), (b2, .inl (G.2 0, 40, .inl ff)), (b3, .inl (G.2 0, 40, .inl sf)), (b4, .inl (G.2 0, 40, .inl df)), (b5, .inl (G.2 1, 40, .inr (.inl pf))), (b6, .inl (G.2 1, 6, .inr (.inl gf)))] s.heap := hP
  have hl := lv_entry ([.ref s0, .int p1, .int p2]) (n := 4) (Nat.le_of_ble_eq_true rfl)
  rw [lg_entry_eq]
  generalize (lg_sl ([.ref s0, .int p1, .int p2]) ++ List.replicate (4 - (lg_sl ([.ref s0, .int p1, .int p2])).length) Slot.unset).toArray = ls at hl ⊢
  have hl : lv_has ls 4 [(0, .ref s0), (1, .int p1), (2, .int p2)] := hl
  refine lv_iload_n hx hb dX1_cell_0 rfl (lv_at hl 1 rfl) ?_
  refine lv_if_lt (tgt := 24) hx hb dX1_cell_1 (by decide) (fun hc => ?_) (fun hc => ?_)
  · have h := h.1 hc
    refine lv_iconst (v := 0) hx hb dX1_cell_24 (by decide) ?_
    refine lv_istore_n hx hb dX1_cell_25 rfl hl (Nat.le_of_ble_eq_true rfl) rfl (fun ls hl => ?_)
    have hl : lv_has ls 4 [(3, .int (0 : Int32)), (0, .ref s0), (1, .int p1), (2, .int p2)] := hl
    refine lv_iload_n hx hb dX1_cell_26 rfl (lv_at hl 0 rfl) ?_
    refine lv_if_eq (tgt := 49) hx hb dX1_cell_27 (by decide) (fun _ => ?_) (fun hc => absurd (by decide) hc)
    refine lv_lconst (v := 0) hx hb dX1_cell_49 (by decide) ?_
    exact W.lret (v := (0 : Int64)) hx hb hr (fun t ht _ => ⟨_, rfl, h, ht⟩) (fun _ hq => absurd hq List.not_mem_nil) dX1_cell_50
  · have h := h.2 hc
    refine lv_iload_n hx hb dX1_cell_4 rfl (lv_at hl 1 rfl) ?_
    refine lv_bipush (v := 6) hx hb dX1_cell_5 (by decide) ?_
    refine lv_icmp_ge (tgt := 24) hx hb dX1_cell_7 (by decide) (fun hc => ?_) (fun hc => ?_)
    · have h := h.1 hc
      refine lv_iconst (v := 0) hx hb dX1_cell_24 (by decide) ?_
      refine lv_istore_n hx hb dX1_cell_25 rfl hl (Nat.le_of_ble_eq_true rfl) rfl (fun ls hl => ?_)
      have hl : lv_has ls 4 [(3, .int (0 : Int32)), (0, .ref s0), (1, .int p1), (2, .int p2)] := hl
      refine lv_iload_n hx hb dX1_cell_26 rfl (lv_at hl 0 rfl) ?_
      refine lv_if_eq (tgt := 49) hx hb dX1_cell_27 (by decide) (fun _ => ?_) (fun hc => absurd (by decide) hc)
      refine lv_lconst (v := 0) hx hb dX1_cell_49 (by decide) ?_
      exact W.lret (v := (0 : Int64)) hx hb hr (fun t ht _ => ⟨_, rfl, h, ht⟩) (fun _ hq => absurd hq List.not_mem_nil) dX1_cell_50
    · have h := h.2 hc
      refine lv_iload_n hx hb dX1_cell_10 rfl (lv_at hl 2 rfl) ?_
      refine lv_if_lt (tgt := 24) hx hb dX1_cell_11 (by decide) (fun hc => ?_) (fun hc => ?_)
      · have h := h.1 hc
        refine lv_iconst (v := 0) hx hb dX1_cell_24 (by decide) ?_
        refine lv_istore_n hx hb dX1_cell_25 rfl hl (Nat.le_of_ble_eq_true rfl) rfl (fun ls hl => ?_)
        have hl : lv_has ls 4 [(3, .int (0 : Int32)), (0, .ref s0), (1, .int p1), (2, .int p2)] := hl
        refine lv_iload_n hx hb dX1_cell_26 rfl (lv_at hl 0 rfl) ?_
        refine lv_if_eq (tgt := 49) hx hb dX1_cell_27 (by decide) (fun _ => ?_) (fun hc => absurd (by decide) hc)
        refine lv_lconst (v := 0) hx hb dX1_cell_49 (by decide) ?_
        exact W.lret (v := (0 : Int64)) hx hb hr (fun t ht _ => ⟨_, rfl, h, ht⟩) (fun _ hq => absurd hq List.not_mem_nil) dX1_cell_50
      · have h := h.2 hc
        refine lv_iload_n hx hb dX1_cell_14 rfl (lv_at hl 2 rfl) ?_
        refine lv_bipush (v := 64) hx hb dX1_cell_15 (by decide) ?_
        refine lv_icmp_ge (tgt := 24) hx hb dX1_cell_17 (by decide) (fun hc => ?_) (fun hc => ?_)
        · have h := h.1 hc
          refine lv_iconst (v := 0) hx hb dX1_cell_24 (by decide) ?_
          refine lv_istore_n hx hb dX1_cell_25 rfl hl (Nat.le_of_ble_eq_true rfl) rfl (fun ls hl => ?_)
          have hl : lv_has ls 4 [(3, .int (0 : Int32)), (0, .ref s0), (1, .int p1), (2, .int p2)] := hl
          refine lv_iload_n hx hb dX1_cell_26 rfl (lv_at hl 0 rfl) ?_
          refine lv_if_eq (tgt := 49) hx hb dX1_cell_27 (by decide) (fun _ => ?_) (fun hc => absurd (by decide) hc)
          refine lv_lconst (v := 0) hx hb dX1_cell_49 (by decide) ?_
          exact W.lret (v := (0 : Int64)) hx hb hr (fun t ht _ => ⟨_, rfl, h, ht⟩) (fun _ hq => absurd hq List.not_mem_nil) dX1_cell_50
        · have h := h.2 hc
          refine lv_iconst (v := 1) hx hb dX1_cell_20 (by decide) ?_
          refine lv_goto (tgt := 25) hx hb dX1_cell_21 (by decide) ?_
          refine lv_istore_n hx hb dX1_cell_25 rfl hl (Nat.le_of_ble_eq_true rfl) rfl (fun ls hl => ?_)
          have hl : lv_has ls 4 [(3, .int (1 : Int32)), (0, .ref s0), (1, .int p1), (2, .int p2)] := hl
          refine lv_iload_n hx hb dX1_cell_26 rfl (lv_at hl 0 rfl) ?_
          refine lv_if_eq (tgt := 49) hx hb dX1_cell_27 (by decide) (fun hc => absurd hc (by decide)) (fun _ => ?_)
          refine lv_aload_n hx hb dX1_cell_30 rfl (lv_at hl 1 rfl) ?_
          refine va_get (D := G.1) (ci := 4) (v := .ref s1) (C := RX1) (T := TX1) (N := 5) hx hb hts igX1 hown hK hP 0 rfl rfl 1 (by decide) (hts _ q74) (fun _ h9 => h9) rfl dX1_cell_31 ?_
          refine lv_iload_n hx hb dX1_cell_34 rfl (lv_at hl 2 rfl) ?_
          refine lv_bipush (v := 64) hx hb dX1_cell_35 (by decide) ?_
          refine lv_imul hx hb dX1_cell_37 ?_
          refine lv_iload_n hx hb dX1_cell_38 rfl (lv_at hl 3 rfl) ?_
          refine lv_iadd hx hb dX1_cell_39 ?_
          obtain ⟨hin, h⟩ := h
          refine va_lald (D := G.1) hx hb hK hP 1 1 rfl rfl hin dX1_cell_40 ?_
          refine lv_aload_n hx hb dX1_cell_41 rfl (lv_at hl 1 rfl) ?_
          refine va_get (D := G.1) (ci := 4) (v := .long op) (C := RX1) (T := TX1) (N := 5) hx hb hts igX1 hown hK hP 0 rfl rfl 3 (by decide) (hts _ q76) (fun _ h9 => h9) rfl dX1_cell_42 ?_
          refine lv_land hx hb dX1_cell_45 ?_
          refine lv_goto (tgt := 50) hx hb dX1_cell_46 (by decide) ?_
          exact W.lret (v := ((dk ((p1 * (64 : Int32)) + p2).toNatClampNeg) &&& op)) hx hb hr (fun t ht _ => ⟨_, rfl, h, ht⟩) (fun _ hq => absurd hq List.not_mem_nil) dX1_cell_50
theorem dX1_worldsOf_0 : decode cX1_worldsOf 0 = .ok (.aload_n 0, 1) := by decide +kernel
theorem dX1_worldsOf_1 : decode cX1_worldsOf 1 = .ok (.getfield 18, 3) := by decide +kernel
theorem dX1_worldsOf_4 : decode cX1_worldsOf 4 = .ok (.iload_n 1, 1) := by decide +kernel
theorem dX1_worldsOf_5 : decode cX1_worldsOf 5 = .ok (.invokevirtual 90, 3) := by decide +kernel
theorem dX1_worldsOf_8 : decode cX1_worldsOf 8 = .ok (.ifCond .eq 12, 3) := by decide +kernel
theorem dX1_worldsOf_11 : decode cX1_worldsOf 11 = .ok (.aload_n 0, 1) := by decide +kernel
theorem dX1_worldsOf_12 : decode cX1_worldsOf 12 = .ok (.getfield 15, 3) := by decide +kernel
theorem dX1_worldsOf_15 : decode cX1_worldsOf 15 = .ok (.iload_n 1, 1) := by decide +kernel
theorem dX1_worldsOf_16 : decode cX1_worldsOf 16 = .ok (.laload, 1) := by decide +kernel
theorem dX1_worldsOf_17 : decode cX1_worldsOf 17 = .ok (.goto 4, 3) := by decide +kernel
theorem dX1_worldsOf_20 : decode cX1_worldsOf 20 = .ok (.lconst 0, 1) := by decide +kernel
theorem dX1_worldsOf_21 : decode cX1_worldsOf 21 = .ok (.lreturn, 1) := by decide +kernel
def wX1_worldsOf (post : Int64 → Prop) (wg : Nat → Int64) (bn : Int32) (p1 : Int32) : Prop :=
  wX0_holds (fun r_1 : Int32 =>
    ((r_1 = 0) →
      post (0 : Int64)
    ) ∧ (¬ (r_1 = 0) →
      vp_in p1 40 ∧
      post (wg p1.toNatClampNeg)
    )
    ) bn p1
abbrev wl_X1_worldsOf : List Cond := .code yX1_worldsOf cX1_worldsOf 2 (some .long) :: lwg
abbrev rm_X1_worldsOf : Room := { frames := 1, cells := 0, slots := 0, locals := 21 }
set_option maxHeartbeats 4000000 in
set_option maxRecDepth 100000 in
theorem kX1_worldsOf {post : Int64 → Prop} (l : Launch) (G : GT) (s0 : Nat) (s1 : Nat) (s2 : Nat) (b0 : Nat) (b1 : Nat) (b2 : Nat) (b3 : Nat) (b4 : Nat) (b5 : Nat) (b6 : Nat) (dk : Nat → Int64) (wg : Nat → Int64) (op : Int64) (re : Int32) (kf : Nat → Int32) (ff : Nat → Int32) (sf : Nat → Int32) (df : Nat → Int32) (pf : Nat → Int64) (gf : Nat → Int64) (bn : Int32) (p1 : Int32) (h : wX1_worldsOf post wg bn p1) : Met l yX1_worldsOf wl_X1_worldsOf rm_X1_worldsOf (va_Pc [.ref s0, .int p1] (fun U => PP G [(s0, .inr (4, [.ref b0, .ref s1, .ref s2, .long op, .int re])), (s1, .inl (G.2 1, 384, .inr (.inl dk))), (s2, .inl (G.2 1, 40, .inr (.inl wg))), (b0, .inr (3, [.ref b1, .ref b2, .ref b3, .ref b4, .ref b5, .ref b6, .int bn])), (b1, .inl (G.2 0, 40, .inl kf)), (b2, .inl (G.2 0, 40, .inl ff)), (b3, .inl (G.2 0, 40, .inl sf)), (b4, .inl (G.2 0, 40, .inl df)), (b5, .inl (G.2 1, 40, .inr (.inl pf))), (b6, .inl (G.2 1, 6, .inr (.inl gf)))] U.heap ∧ KK G U)) (vp_Sl post) 0 0 (fun _ => False) := by
  refine Met.ofW (cc := cX1_worldsOf) (maxL := 2) (ret := (some .long)) (by decide) rfl ?_
  intro p e s m args below meth c s₁ B hml hv
  obtain ⟨rfl, hP, hKK⟩ := hv
  obtain ⟨hK, hN, hR, hFW, hNC⟩ := id hKK
  have hx := B.exec
  have hb := B.bytes
  have hr := B.returns
  have hts0 := atoms_spec (ws := wl_X1_worldsOf) B.pre
  have hts : ∀ w ∈ lwg, w.before ([.ref s0, .int p1] : List Value).toArray s = true := fun w hw => hts0 w (List.mem_cons_of_mem _ hw)
  have hown : s.vm.findClass RX1 = some m.cls := findClass_of_methodNamed B.named
  have hlocks := B.notSynchronized
  have hP : PP G [(s0, .inr (4, [.ref b0, .ref s1, .ref s2, .long op, .int re])), (s1, .inl (G.2 1, 384, .inr (.inl dk))), (s2, .inl (G.2 1, 40, .inr (.inl wg))), (b0, .inr (3, [.ref b1, .ref b2, .ref b3, .ref b4, .ref b5, .ref b6, .int bn])), (b1, .inl (G.2 0, 40, .inl kf)), (b2, .inl (G.2 0, 40, .inl ff)), (b3, .inl (G.2 0, 40, .inl sf)), (b4, .inl (G.2 0, 40, .inl df)), (b5, .inl (G.2 1, 40, .inr (.inl pf))), (b6, .inl (G.2 1, 6, .inr (.inl gf)))] s.heap := hP
  have hl := lv_entry ([.ref s0, .int p1]) (n := 2) (Nat.le_of_ble_eq_true rfl)
  rw [lg_entry_eq]
  generalize (lg_sl ([.ref s0, .int p1]) ++ List.replicate (2 - (lg_sl ([.ref s0, .int p1])).length) Slot.unset).toArray = ls at hl ⊢
  have hl : lv_has ls 2 [(0, .ref s0), (1, .int p1)] := hl
  refine lv_aload_n hx hb dX1_worldsOf_0 rfl (lv_at hl 0 rfl) ?_
  refine va_get (D := G.1) (ci := 4) (v := .ref b0) (C := RX1) (T := TX1) (N := 5) hx hb hts igX1 hown hK hP 0 rfl rfl 0 (by decide) (hts _ q73) (fun _ h9 => h9) rfl dX1_worldsOf_1 ?_
  refine lv_iload_n hx hb dX1_worldsOf_4 rfl (lv_at hl 1 rfl) ?_
  have hPc := va_P.sub (ws' := [(b0, .inr (3, [.ref b1, .ref b2, .ref b3, .ref b4, .ref b5, .ref b6, .int bn])), (b1, .inl (G.2 0, 40, .inl kf)), (b2, .inl (G.2 0, 40, .inl ff)), (b3, .inl (G.2 0, 40, .inl sf)), (b4, .inl (G.2 0, 40, .inl df)), (b5, .inl (G.2 1, 40, .inr (.inl pf))), (b6, .inl (G.2 1, 6, .inr (.inl gf)))]) hP [3, 4, 5, 6, 7, 8, 9] rfl
  refine rdI (va_runV (C := RX0) (As := [.int p1]) (rest := []) ⟨hx, hb, hml, hown, hts⟩ (kX0_holds l G b0 b1 b2 b3 b4 b5 b6 kf ff sf df pf gf bn p1 h) (cwV 1 hts (gdV q138 q115 q116 q2 q117) rfl rfl rfl (by decide +kernel) ⟨Nat.le_of_ble_eq_true rfl, Nat.le_of_ble_eq_true rfl⟩) (preV hPc hKK (va_recv hK hPc (ci := 3) (q0 := 0) rfl rfl)) rfl rfl hl.1 rfl (lv_room (Nat.le_of_ble_eq_true rfl)) dX1_worldsOf_5 ⟨Nat.zero_le _, Nat.zero_le _⟩) (fun r_1 h => ?_)
  refine lv_if_eq (tgt := 20) hx hb dX1_worldsOf_8 (by decide) (fun hc => ?_) (fun hc => ?_)
  · have h := h.1 hc
    refine lv_lconst (v := 0) hx hb dX1_worldsOf_20 (by decide) ?_
    exact W.lret (v := (0 : Int64)) hx hb hr (fun t ht _ => ⟨_, rfl, h, ht⟩) (fun _ hq => absurd hq List.not_mem_nil) dX1_worldsOf_21
  · have h := h.2 hc
    refine lv_aload_n hx hb dX1_worldsOf_11 rfl (lv_at hl 0 rfl) ?_
    refine va_get (D := G.1) (ci := 4) (v := .ref s2) (C := RX1) (T := TX1) (N := 5) hx hb hts igX1 hown hK hP 0 rfl rfl 2 (by decide) (hts _ q75) (fun _ h9 => h9) rfl dX1_worldsOf_12 ?_
    refine lv_iload_n hx hb dX1_worldsOf_15 rfl (lv_at hl 1 rfl) ?_
    obtain ⟨hin, h⟩ := h
    refine va_lald (D := G.1) hx hb hK hP 2 1 rfl rfl hin dX1_worldsOf_16 ?_
    refine lv_goto (tgt := 21) hx hb dX1_worldsOf_17 (by decide) ?_
    exact W.lret (v := (wg p1.toNatClampNeg)) hx hb hr (fun t ht _ => ⟨_, rfl, h, ht⟩) (fun _ hq => absurd hq List.not_mem_nil) dX1_worldsOf_21
theorem dX1_isTrueInReal_0 : decode cX1_isTrueInReal 0 = .ok (.aload_n 0, 1) := by decide +kernel
theorem dX1_isTrueInReal_1 : decode cX1_isTrueInReal 1 = .ok (.iload_n 1, 1) := by decide +kernel
theorem dX1_isTrueInReal_2 : decode cX1_isTrueInReal 2 = .ok (.invokevirtual 77, 3) := by decide +kernel
theorem dX1_isTrueInReal_5 : decode cX1_isTrueInReal 5 = .ok (.aload_n 0, 1) := by decide +kernel
theorem dX1_isTrueInReal_6 : decode cX1_isTrueInReal 6 = .ok (.getfield 22, 3) := by decide +kernel
theorem dX1_isTrueInReal_9 : decode cX1_isTrueInReal 9 = .ok (.invokestatic 52, 3) := by decide +kernel
theorem dX1_isTrueInReal_12 : decode cX1_isTrueInReal 12 = .ok (.ireturn, 1) := by decide +kernel
def wX1_isTrueInReal (post : Int32 → Prop) (wg : Nat → Int64) (re : Int32) (bn : Int32) (p1 : Int32) : Prop :=
  wX1_worldsOf (fun r_1 : Int64 =>
    wX2_has (fun r_2 : Int32 =>
      vZ r_2 ∧
      post r_2
      ) r_1 re
    ) wg bn p1
abbrev wl_X1_isTrueInReal : List Cond := .code yX1_isTrueInReal cX1_isTrueInReal 2 (some .boolean) :: lwg
abbrev rm_X1_isTrueInReal : Room := { frames := 2, cells := 0, slots := 0, locals := 42 }
set_option maxHeartbeats 4000000 in
set_option maxRecDepth 100000 in
theorem kX1_isTrueInReal {post : Int32 → Prop} (l : Launch) (G : GT) (s0 : Nat) (s1 : Nat) (s2 : Nat) (b0 : Nat) (b1 : Nat) (b2 : Nat) (b3 : Nat) (b4 : Nat) (b5 : Nat) (b6 : Nat) (dk : Nat → Int64) (wg : Nat → Int64) (op : Int64) (re : Int32) (kf : Nat → Int32) (ff : Nat → Int32) (sf : Nat → Int32) (df : Nat → Int32) (pf : Nat → Int64) (gf : Nat → Int64) (bn : Int32) (p1 : Int32) (h : wX1_isTrueInReal post wg re bn p1) : Met l yX1_isTrueInReal wl_X1_isTrueInReal rm_X1_isTrueInReal (va_Pc [.ref s0, .int p1] (fun U => PP G [(s0, .inr (4, [.ref b0, .ref s1, .ref s2, .long op, .int re])), (s1, .inl (G.2 1, 384, .inr (.inl dk))), (s2, .inl (G.2 1, 40, .inr (.inl wg))), (b0, .inr (3, [.ref b1, .ref b2, .ref b3, .ref b4, .ref b5, .ref b6, .int bn])), (b1, .inl (G.2 0, 40, .inl kf)), (b2, .inl (G.2 0, 40, .inl ff)), (b3, .inl (G.2 0, 40, .inl sf)), (b4, .inl (G.2 0, 40, .inl df)), (b5, .inl (G.2 1, 40, .inr (.inl pf))), (b6, .inl (G.2 1, 6, .inr (.inl gf)))] U.heap ∧ KK G U)) (vp_Si post) 0 0 (fun _ => False) := by
  refine Met.ofW (cc := cX1_isTrueInReal) (maxL := 2) (ret := (some .boolean)) (by decide) rfl ?_
  intro p e s m args below meth c s₁ B hml hv
  obtain ⟨rfl, hP, hKK⟩ := hv
  obtain ⟨hK, hN, hR, hFW, hNC⟩ := id hKK
  have hx := B.exec
  have hb := B.bytes
  have hr := B.returns
  have hts0 := atoms_spec (ws := wl_X1_isTrueInReal) B.pre
  have hts : ∀ w ∈ lwg, w.before ([.ref s0, .int p1] : List Value).toArray s = true := fun w hw => hts0 w (List.mem_cons_of_mem _ hw)
  have hown : s.vm.findClass RX1 = some m.cls := findClass_of_methodNamed B.named
  have hlocks := B.notSynchronized
  have hP : PP G [(s0, .inr (4, [.ref b0, .ref s1, .ref s2, .long op, .int re])), (s1, .inl (G.2 1, 384, .inr (.inl dk))), (s2, .inl (G.2 1, 40, .inr (.inl wg))), (b0, .inr (3, [.ref b1, .ref b2, .ref b3, .ref b4, .ref b5, .ref b6, .int bn])), (b1, .inl (G.2 0, 40, .inl kf)), (b2, .inl (G.2 0, 40, .inl ff)), (b3, .inl (G.2 0, 40, .inl sf)), (b4, .inl (G.2 0, 40, .inl df)), (b5, .inl (G.2 1, 40, .inr (.inl pf))), (b6, .inl (G.2 1, 6, .inr (.inl gf)))] s.heap := hP
  have hl := lv_entry ([.ref s0, .int p1]) (n := 2) (Nat.le_of_ble_eq_true rfl)
  rw [lg_entry_eq]
  generalize (lg_sl ([.ref s0, .int p1]) ++ List.replicate (2 - (lg_sl ([.ref s0, .int p1])).length) Slot.unset).toArray = ls at hl ⊢
  have hl : lv_has ls 2 [(0, .ref s0), (1, .int p1)] := hl
  refine lv_aload_n hx hb dX1_isTrueInReal_0 rfl (lv_at hl 0 rfl) ?_
  refine lv_iload_n hx hb dX1_isTrueInReal_1 rfl (lv_at hl 1 rfl) ?_
  have hPc := hP
  refine rdL (va_runV (C := RX1) (As := [.int p1]) (rest := []) ⟨hx, hb, hml, hown, hts⟩ (kX1_worldsOf l G s0 s1 s2 b0 b1 b2 b3 b4 b5 b6 dk wg op re kf ff sf df pf gf bn p1 h) (cwV 1 hts (gdV q134 q135 q136 q3 q137) rfl rfl rfl (by decide +kernel) ⟨Nat.le_of_ble_eq_true rfl, Nat.le_of_ble_eq_true rfl⟩) (preV hPc hKK (va_recv hK hPc (ci := 4) (q0 := 0) rfl rfl)) rfl rfl hl.1 rfl (lv_room (Nat.le_of_ble_eq_true rfl)) dX1_isTrueInReal_2 ⟨Nat.zero_le _, Nat.zero_le _⟩) (fun r_1 h => ?_)
  refine lv_aload_n hx hb dX1_isTrueInReal_5 rfl (lv_at hl 0 rfl) ?_
  refine va_get (D := G.1) (ci := 4) (v := .int re) (C := RX1) (T := TX1) (N := 5) hx hb hts igX1 hown hK hP 0 rfl rfl 4 (by decide) (hts _ q78) (fun _ h9 => h9) rfl dX1_isTrueInReal_6 ?_
  have hPc := va_P.sub (ws' := []) hP [] rfl
  refine rdI (va_runSN (As := [.long r_1, .int re]) (rest := []) ⟨hx, hb, hml, hown, hts⟩ (kX2_has l G r_1 re h) ⟨va_cnB 2 hts (gdC q109) rfl rfl rfl (hN _ n107) (hts _ q1) (by decide +kernel) ⟨Nat.le_of_ble_eq_true rfl, Nat.le_of_ble_eq_true rfl⟩, hts _ q108, trivial⟩ (preS hPc hKK) rfl rfl hl.1 rfl (lv_room (Nat.le_of_ble_eq_true rfl)) dX1_isTrueInReal_9 ⟨Nat.zero_le _, Nat.zero_le _⟩) (fun r_2 h => ?_)
  obtain ⟨hz, h⟩ := h
  exact W.zret (v := r_2) hx hb hr (vZn hz) (fun t ht _ => ⟨_, rfl, h, ht⟩) (fun _ hq => absurd hq List.not_mem_nil) dX1_isTrueInReal_12
theorem dX1_cellTogether_0 : decode cX1_cellTogether 0 = .ok (.aload_n 0, 1) := by decide +kernel
theorem dX1_cellTogether_1 : decode cX1_cellTogether 1 = .ok (.getfield 28, 3) := by decide +kernel
theorem dX1_cellTogether_4 : decode cX1_cellTogether 4 = .ok (.lstore_n 3, 1) := by decide +kernel
theorem dX1_cellTogether_5 : decode cX1_cellTogether 5 = .ok (.iconst 0, 1) := by decide +kernel
theorem dX1_cellTogether_6 : decode cX1_cellTogether 6 = .ok (.istore 5, 2) := by decide +kernel
theorem dX1_cellTogether_8 : decode cX1_cellTogether 8 = .ok (.iload 5, 2) := by decide +kernel
theorem dX1_cellTogether_10 : decode cX1_cellTogether 10 = .ok (.bipush 6, 2) := by decide +kernel
theorem dX1_cellTogether_12 : decode cX1_cellTogether 12 = .ok (.if_icmp .ge 29, 3) := by decide +kernel
theorem dX1_cellTogether_15 : decode cX1_cellTogether 15 = .ok (.iload_n 1, 1) := by decide +kernel
theorem dX1_cellTogether_16 : decode cX1_cellTogether 16 = .ok (.i2l, 1) := by decide +kernel
theorem dX1_cellTogether_17 : decode cX1_cellTogether 17 = .ok (.iload 5, 2) := by decide +kernel
theorem dX1_cellTogether_19 : decode cX1_cellTogether 19 = .ok (.invokestatic 52, 3) := by decide +kernel
theorem dX1_cellTogether_22 : decode cX1_cellTogether 22 = .ok (.ifCond .eq 13, 3) := by decide +kernel
theorem dX1_cellTogether_25 : decode cX1_cellTogether 25 = .ok (.lload_n 3, 1) := by decide +kernel
theorem dX1_cellTogether_26 : decode cX1_cellTogether 26 = .ok (.aload_n 0, 1) := by decide +kernel
theorem dX1_cellTogether_27 : decode cX1_cellTogether 27 = .ok (.iload 5, 2) := by decide +kernel
theorem dX1_cellTogether_29 : decode cX1_cellTogether 29 = .ok (.iload_n 2, 1) := by decide +kernel
theorem dX1_cellTogether_30 : decode cX1_cellTogether 30 = .ok (.invokevirtual 93, 3) := by decide +kernel
theorem dX1_cellTogether_33 : decode cX1_cellTogether 33 = .ok (.land, 1) := by decide +kernel
theorem dX1_cellTogether_34 : decode cX1_cellTogether 34 = .ok (.lstore_n 3, 1) := by decide +kernel
theorem dX1_cellTogether_35 : decode cX1_cellTogether 35 = .ok (.iinc 5 1, 3) := by decide +kernel
theorem dX1_cellTogether_38 : decode cX1_cellTogether 38 = .ok (.goto (-30), 3) := by decide +kernel
theorem dX1_cellTogether_41 : decode cX1_cellTogether 41 = .ok (.lload_n 3, 1) := by decide +kernel
theorem dX1_cellTogether_42 : decode cX1_cellTogether 42 = .ok (.lreturn, 1) := by decide +kernel
def wX1_cellTogether_L8 (post : Int64 → Prop) (K41 : Int64 → Int32 → Prop) (dk : Nat → Int64) (op : Int64) (p1 : Int32) (p2 : Int32) : Nat → Int64 → Int32 → Prop
  | 0, _, _ => False
  | n+1, i3, i5 =>
    (((6 : Int32) ≤ i5) →
      K41 i3 i5
    ) ∧ (¬ ((6 : Int32) ≤ i5) →
      wX2_has (fun r_1 : Int32 =>
        ((r_1 = 0) →
          wX1_cellTogether_L8 post K41 dk op p1 p2 n i3 (i5 + 1)
        ) ∧ (¬ (r_1 = 0) →
          wX1_cell (fun r_2 : Int64 =>
            wX1_cellTogether_L8 post K41 dk op p1 p2 n (i3 &&& r_2) (i5 + 1)
            ) dk op i5 p2
        )
        ) (p1.toInt64) i5
    )
def wX1_cellTogether (post : Int64 → Prop) (dk : Nat → Int64) (op : Int64) (p1 : Int32) (p2 : Int32) : Prop :=
  ∃ nF, wX1_cellTogether_L8 post
    (fun i3 i5 =>
      post i3
    )
    dk op p1 p2 nF op (0 : Int32)
abbrev wl_X1_cellTogether : List Cond := .code yX1_cellTogether cX1_cellTogether 6 (some .long) :: lwg
abbrev rm_X1_cellTogether : Room := { frames := 1, cells := 0, slots := 0, locals := 23 }
set_option maxHeartbeats 4000000 in
set_option maxRecDepth 100000 in
theorem kX1_cellTogether {post : Int64 → Prop} (l : Launch) (G : GT) (s0 : Nat) (s1 : Nat) (s2 : Nat) (b0 : Nat) (b1 : Nat) (b2 : Nat) (b3 : Nat) (b4 : Nat) (b5 : Nat) (b6 : Nat) (dk : Nat → Int64) (wg : Nat → Int64) (op : Int64) (re : Int32) (kf : Nat → Int32) (ff : Nat → Int32) (sf : Nat → Int32) (df : Nat → Int32) (pf : Nat → Int64) (gf : Nat → Int64) (bn : Int32) (p1 : Int32) (p2 : Int32) (h : wX1_cellTogether post dk op p1 p2) : Met l yX1_cellTogether wl_X1_cellTogether rm_X1_cellTogether (va_Pc [.ref s0, .int p1, .int p2] (fun U => PP G [(s0, .inr (4, [.ref b0, .ref s1, .ref s2, .long op, .int re])), (s1, .inl (G.2 1, 384, .inr (.inl dk))), (s2, .inl (G.2 1, 40, .inr (.inl wg))), (b0, .inr (3, [.ref b1, .ref b2, .ref b3, .ref b4, .ref b5, .ref b6, .int bn])), (b1, .inl (G.2 0, 40, .inl kf)), (b2, .inl (G.2 0, 40, .inl ff)), (b3, .inl (G.2 0, 40, .inl sf)), (b4, .inl (G.2 0, 40, .inl df)), (b5, .inl (G.2 1, 40, .inr (.inl pf))), (b6, .inl (G.2 1, 6, .inr (.inl gf)))] U.heap ∧ KK G U)) (vp_Sl post) 0 0 (fun _ => False) := by
  refine Met.ofW (cc := cX1_cellTogether) (maxL := 6) (ret := (some .long)) (by decide) rfl ?_
  intro p e s m args below meth c s₁ B hml hv
  obtain ⟨rfl, hP, hKK⟩ := hv
  obtain ⟨hK, hN, hR, hFW, hNC⟩ := id hKK
  have hx := B.exec
  have hb := B.bytes
  have hr := B.returns
  have hts0 := atoms_spec (ws := wl_X1_cellTogether) B.pre
  have hts : ∀ w ∈ lwg, w.before ([.ref s0, .int p1, .int p2] : List Value).toArray s = true := fun w hw => hts0 w (List.mem_cons_of_mem _ hw)
  have hown : s.vm.findClass RX1 = some m.cls := findClass_of_methodNamed B.named
  have hlocks := B.notSynchronized
  have hP : PP G [(s0, .inr (4, [.ref b0, .ref s1, .ref s2, .long op, .int re])), (s1, .inl (G.2 1, 384, .inr (.inl dk))), (s2, .inl (G.2 1, 40, .inr (.inl wg))), (b0, .inr (3, [.ref b1, .ref b2, .ref b3, .ref b4, .ref b5, .ref b6, .int bn])), (b1, .inl (G.2 0, 40, .inl kf)), (b2, .inl (G.2 0, 40, .inl ff)), (b3, .inl (G.2 0, 40, .inl sf)), (b4, .inl (G.2 0, 40, .inl df)), (b5, .inl (G.2 1, 40, .inr (.inl pf))), (b6, .inl (G.2 1, 6, .inr (.inl gf)))] s.heap := hP
  have hl := lv_entry ([.ref s0, .int p1, .int p2]) (n := 6) (Nat.le_of_ble_eq_true rfl)
  rw [lg_entry_eq]
  generalize (lg_sl ([.ref s0, .int p1, .int p2]) ++ List.replicate (6 - (lg_sl ([.ref s0, .int p1, .int p2])).length) Slot.unset).toArray = ls at hl ⊢
  have hl : lv_has ls 6 [(0, .ref s0), (1, .int p1), (2, .int p2)] := hl
  have loop8 : ∀ (K41 : Int64 → Int32 → Prop), True → (∀ (i3 : Int64) (i5 : Int32) (ls : Array Slot), lv_has ls 6 [(0, .ref s0), (1, .int p1), (2, .int p2), (3, .long i3), (5, .int i5)] → K41 i3 i5 → W p l e (headSpec (wl_X1_cellTogether) rm_X1_cellTogether).room s m ([.ref s0, .int p1, .int p2] : List Value).toArray below meth c s.heap [] 0 0 (MQ below (vp_Sl post) ([.ref s0, .int p1, .int p2] : List Value).toArray s 0 0 (fun _ => False)) (F0 m 41 ls [])) → ∀ (n : Nat) (i3 : Int64) (i5 : Int32) (ls : Array Slot), lv_has ls 6 [(0, .ref s0), (1, .int p1), (2, .int p2), (3, .long i3), (5, .int i5)] → wX1_cellTogether_L8 post K41 dk op p1 p2 n i3 i5 → W p l e (headSpec (wl_X1_cellTogether) rm_X1_cellTogether).room s m ([.ref s0, .int p1, .int p2] : List Value).toArray below meth c s.heap [] 0 0 (MQ below (vp_Sl post) ([.ref s0, .int p1, .int p2] : List Value).toArray s 0 0 (fun _ => False)) (F0 m 8 ls []) := by
    intro K41 _ hexit41 n
    induction n with
    | zero => intro i3 i5 ls hl h; exact False.elim h
    | succ n ih =>
      intro i3 i5 ls hl h
      refine lv_iload hx hb dX1_cellTogether_8 (lv_at hl 4 rfl) ?_
      refine lv_bipush (v := 6) hx hb dX1_cellTogether_10 (by decide) ?_
      refine lv_icmp_ge (tgt := 41) hx hb dX1_cellTogether_12 (by decide) (fun hc => ?_) (fun hc => ?_)
      · have h := h.1 hc
        have hl := lv_sub (l' := [(0, .ref s0), (1, .int p1), (2, .int p2), (3, .long i3), (5, .int i5)]) hl [0, 1, 2, 3, 4] rfl
        exact hexit41 _ _ ls hl h
      · have h := h.2 hc
        refine lv_iload_n hx hb dX1_cellTogether_15 rfl (lv_at hl 1 rfl) ?_
        refine lv_i2l (v := (p1.toInt64)) hx hb dX1_cellTogether_16 rfl ?_
        refine lv_iload hx hb dX1_cellTogether_17 (lv_at hl 4 rfl) ?_
        have hPc := va_P.sub (ws' := []) hP [] rfl
        refine rdI (va_runSN (As := [.long (p1.toInt64), .int i5]) (rest := []) ⟨hx, hb, hml, hown, hts⟩ (kX2_has l G (p1.toInt64) i5 h) ⟨va_cnB 2 hts (gdC q109) rfl rfl rfl (hN _ n107) (hts _ q1) (by decide +kernel) ⟨Nat.le_of_ble_eq_true rfl, Nat.le_of_ble_eq_true rfl⟩, hts _ q108, trivial⟩ (preS hPc hKK) rfl rfl hl.1 rfl (lv_room (Nat.le_of_ble_eq_true rfl)) dX1_cellTogether_19 ⟨Nat.zero_le _, Nat.zero_le _⟩) (fun r_1 h => ?_)
        refine lv_if_eq (tgt := 35) hx hb dX1_cellTogether_22 (by decide) (fun hc => ?_) (fun hc => ?_)
        · have h := h.1 hc
          refine lv_iinc (v := (i5 + 1)) hx hb dX1_cellTogether_35 hl (k := 4) rfl (by rw [show Int32.ofInt 1 = 1 from by decide]) (Nat.le_of_ble_eq_true rfl) rfl (fun ls hl => ?_)
          have hl : lv_has ls 6 [(5, .int (i5 + 1)), (0, .ref s0), (1, .int p1), (2, .int p2), (3, .long i3)] := hl
          refine lv_goto (tgt := 8) hx hb dX1_cellTogether_38 (by decide) ?_
          have hl := lv_sub (l' := [(0, .ref s0), (1, .int p1), (2, .int p2), (3, .long i3), (5, .int (i5 + 1))]) hl [1, 2, 3, 4, 0] rfl
          exact ih _ _ ls hl h
        · have h := h.2 hc
          refine lv_lload_n hx hb dX1_cellTogether_25 rfl (lv_at hl 3 rfl) ?_
          refine lv_aload_n hx hb dX1_cellTogether_26 rfl (lv_at hl 0 rfl) ?_
          refine lv_iload hx hb dX1_cellTogether_27 (lv_at hl 4 rfl) ?_
          refine lv_iload_n hx hb dX1_cellTogether_29 rfl (lv_at hl 2 rfl) ?_
          have hPc := hP
          refine rdL (va_runV (C := RX1) (As := [.int i5, .int p2]) (rest := [.long i3]) ⟨hx, hb, hml, hown, hts⟩ (kX1_cell l G s0 s1 s2 b0 b1 b2 b3 b4 b5 b6 dk wg op re kf ff sf df pf gf bn i5 p2 h) (cwV 2 hts (gdV q156 q157 q158 q3 q159) rfl rfl rfl (by decide +kernel) ⟨Nat.le_of_ble_eq_true rfl, Nat.le_of_ble_eq_true rfl⟩) (preV hPc hKK (va_recv hK hPc (ci := 4) (q0 := 0) rfl rfl)) rfl rfl hl.1 rfl (lv_room (Nat.le_of_ble_eq_true rfl)) dX1_cellTogether_30 ⟨Nat.zero_le _, Nat.zero_le _⟩) (fun r_2 h => ?_)
          refine lv_land hx hb dX1_cellTogether_33 ?_
          refine lv_lstore_n hx hb dX1_cellTogether_34 rfl hl (Nat.le_of_ble_eq_true rfl) rfl (fun ls hl => ?_)
          have hl : lv_has ls 6 [(3, .long (i3 &&& r_2)), (0, .ref s0), (1, .int p1), (2, .int p2), (5, .int i5)] := hl
          refine lv_iinc (v := (i5 + 1)) hx hb dX1_cellTogether_35 hl (k := 4) rfl (by rw [show Int32.ofInt 1 = 1 from by decide]) (Nat.le_of_ble_eq_true rfl) rfl (fun ls hl => ?_)
          have hl : lv_has ls 6 [(5, .int (i5 + 1)), (3, .long (i3 &&& r_2)), (0, .ref s0), (1, .int p1), (2, .int p2)] := hl
          refine lv_goto (tgt := 8) hx hb dX1_cellTogether_38 (by decide) ?_
          have hl := lv_sub (l' := [(0, .ref s0), (1, .int p1), (2, .int p2), (3, .long (i3 &&& r_2)), (5, .int (i5 + 1))]) hl [2, 3, 4, 1, 0] rfl
          exact ih _ _ ls hl h
  refine lv_aload_n hx hb dX1_cellTogether_0 rfl (lv_at hl 0 rfl) ?_
  refine va_get (D := G.1) (ci := 4) (v := .long op) (C := RX1) (T := TX1) (N := 5) hx hb hts igX1 hown hK hP 0 rfl rfl 3 (by decide) (hts _ q76) (fun _ h9 => h9) rfl dX1_cellTogether_1 ?_
  refine lv_lstore_n hx hb dX1_cellTogether_4 rfl hl (Nat.le_of_ble_eq_true rfl) rfl (fun ls hl => ?_)
  have hl : lv_has ls 6 [(3, .long op), (0, .ref s0), (1, .int p1), (2, .int p2)] := hl
  refine lv_iconst (v := 0) hx hb dX1_cellTogether_5 (by decide) ?_
  refine lv_istore hx hb dX1_cellTogether_6 hl (Nat.le_of_ble_eq_true rfl) rfl (fun ls hl => ?_)
  have hl : lv_has ls 6 [(5, .int (0 : Int32)), (3, .long op), (0, .ref s0), (1, .int p1), (2, .int p2)] := hl
  have hl := lv_sub (l' := [(0, .ref s0), (1, .int p1), (2, .int p2), (3, .long op), (5, .int (0 : Int32))]) hl [2, 3, 4, 1, 0] rfl
  obtain ⟨nF, h⟩ := h
  refine loop8 _ trivial ?_ nF op (0 : Int32) _ hl h
  · intro i3 i5 ls hl h
    refine lv_lload_n hx hb dX1_cellTogether_41 rfl (lv_at hl 3 rfl) ?_
    exact W.lret (v := i3) hx hb hr (fun t ht _ => ⟨_, rfl, h, ht⟩) (fun _ hq => absurd hq List.not_mem_nil) dX1_cellTogether_42
theorem dX1_spread_0 : decode cX1_spread 0 = .ok (.lconst 0, 1) := by decide +kernel
theorem dX1_spread_1 : decode cX1_spread 1 = .ok (.lstore 4, 2) := by decide +kernel
theorem dX1_spread_3 : decode cX1_spread 3 = .ok (.iconst 0, 1) := by decide +kernel
theorem dX1_spread_4 : decode cX1_spread 4 = .ok (.istore 6, 2) := by decide +kernel
theorem dX1_spread_6 : decode cX1_spread 6 = .ok (.iload 6, 2) := by decide +kernel
theorem dX1_spread_8 : decode cX1_spread 8 = .ok (.bipush 6, 2) := by decide +kernel
theorem dX1_spread_10 : decode cX1_spread 10 = .ok (.if_icmp .ge 85, 3) := by decide +kernel
theorem dX1_spread_13 : decode cX1_spread 13 = .ok (.iload_n 1, 1) := by decide +kernel
theorem dX1_spread_14 : decode cX1_spread 14 = .ok (.i2l, 1) := by decide +kernel
theorem dX1_spread_15 : decode cX1_spread 15 = .ok (.iload 6, 2) := by decide +kernel
theorem dX1_spread_17 : decode cX1_spread 17 = .ok (.invokestatic 52, 3) := by decide +kernel
theorem dX1_spread_20 : decode cX1_spread 20 = .ok (.ifCond .eq 12, 3) := by decide +kernel
theorem dX1_spread_23 : decode cX1_spread 23 = .ok (.lload_n 2, 1) := by decide +kernel
theorem dX1_spread_24 : decode cX1_spread 24 = .ok (.aload_n 0, 1) := by decide +kernel
theorem dX1_spread_25 : decode cX1_spread 25 = .ok (.getfield 28, 3) := by decide +kernel
theorem dX1_spread_28 : decode cX1_spread 28 = .ok (.land, 1) := by decide +kernel
theorem dX1_spread_29 : decode cX1_spread 29 = .ok (.goto 4, 3) := by decide +kernel
theorem dX1_spread_32 : decode cX1_spread 32 = .ok (.lconst 0, 1) := by decide +kernel
theorem dX1_spread_33 : decode cX1_spread 33 = .ok (.lstore 7, 2) := by decide +kernel
theorem dX1_spread_35 : decode cX1_spread 35 = .ok (.iconst 0, 1) := by decide +kernel
theorem dX1_spread_36 : decode cX1_spread 36 = .ok (.istore 9, 2) := by decide +kernel
theorem dX1_spread_38 : decode cX1_spread 38 = .ok (.iload 9, 2) := by decide +kernel
theorem dX1_spread_40 : decode cX1_spread 40 = .ok (.bipush 64, 2) := by decide +kernel
theorem dX1_spread_42 : decode cX1_spread 42 = .ok (.if_icmp .ge 47, 3) := by decide +kernel
theorem dX1_spread_45 : decode cX1_spread 45 = .ok (.lload 7, 2) := by decide +kernel
theorem dX1_spread_47 : decode cX1_spread 47 = .ok (.lconst 0, 1) := by decide +kernel
theorem dX1_spread_48 : decode cX1_spread 48 = .ok (.lcmp, 1) := by decide +kernel
theorem dX1_spread_49 : decode cX1_spread 49 = .ok (.ifCond .eq 40, 3) := by decide +kernel
theorem dX1_spread_52 : decode cX1_spread 52 = .ok (.aload_n 0, 1) := by decide +kernel
theorem dX1_spread_53 : decode cX1_spread 53 = .ok (.iload 6, 2) := by decide +kernel
theorem dX1_spread_55 : decode cX1_spread 55 = .ok (.lload 7, 2) := by decide +kernel
theorem dX1_spread_57 : decode cX1_spread 57 = .ok (.invokestatic 97, 3) := by decide +kernel
theorem dX1_spread_60 : decode cX1_spread 60 = .ok (.invokevirtual 93, 3) := by decide +kernel
theorem dX1_spread_63 : decode cX1_spread 63 = .ok (.lstore 10, 2) := by decide +kernel
theorem dX1_spread_65 : decode cX1_spread 65 = .ok (.lload 4, 2) := by decide +kernel
theorem dX1_spread_67 : decode cX1_spread 67 = .ok (.lload 10, 2) := by decide +kernel
theorem dX1_spread_69 : decode cX1_spread 69 = .ok (.lor, 1) := by decide +kernel
theorem dX1_spread_70 : decode cX1_spread 70 = .ok (.lstore 4, 2) := by decide +kernel
theorem dX1_spread_72 : decode cX1_spread 72 = .ok (.lload 7, 2) := by decide +kernel
theorem dX1_spread_74 : decode cX1_spread 74 = .ok (.lload 10, 2) := by decide +kernel
theorem dX1_spread_76 : decode cX1_spread 76 = .ok (.ldc2_w 26, 3) := by decide +kernel
theorem dX1_spread_79 : decode cX1_spread 79 = .ok (.lxor, 1) := by decide +kernel
theorem dX1_spread_80 : decode cX1_spread 80 = .ok (.land, 1) := by decide +kernel
theorem dX1_spread_81 : decode cX1_spread 81 = .ok (.lstore 7, 2) := by decide +kernel
theorem dX1_spread_83 : decode cX1_spread 83 = .ok (.iinc 9 1, 3) := by decide +kernel
theorem dX1_spread_86 : decode cX1_spread 86 = .ok (.goto (-48), 3) := by decide +kernel
theorem dX1_spread_89 : decode cX1_spread 89 = .ok (.iinc 6 1, 3) := by decide +kernel
theorem dX1_spread_92 : decode cX1_spread 92 = .ok (.goto (-86), 3) := by decide +kernel
theorem dX1_spread_95 : decode cX1_spread 95 = .ok (.lload 4, 2) := by decide +kernel
theorem dX1_spread_97 : decode cX1_spread 97 = .ok (.lreturn, 1) := by decide +kernel
def wX1_spread_L38 (post : Int64 → Prop) (K89 : Int64 → Int64 → Int32 → Prop) (dk : Nat → Int64) (op : Int64) (i6 : Int32) : Nat → Int64 → Int64 → Int32 → Prop
  | 0, _, _, _ => False
  | n+1, i4, i7, i9 =>
    (((64 : Int32) ≤ i9) →
      K89 i4 i7 i9
    ) ∧ (¬ ((64 : Int32) ≤ i9) →
      (((lg_cmp i7 (0 : Int64)) = 0) →
        K89 i4 i7 i9
      ) ∧ (¬ ((lg_cmp i7 (0 : Int64)) = 0) →
        wX2_smallestOf (fun r_2 : Int32 =>
          wX1_cell (fun r_3 : Int64 =>
            wX1_spread_L38 post K89 dk op i6 n (i4 ||| r_3) (i7 &&& (r_3 ^^^ (-1 : Int64))) (i9 + 1)
            ) dk op i6 r_2
          ) i7
      )
    )
def wX1_spread_L6 (post : Int64 → Prop) (K95 : Int64 → Int32 → Prop) (dk : Nat → Int64) (op : Int64) (p1 : Int32) (p2 : Int64) : Nat → Int64 → Int32 → Prop
  | 0, _, _ => False
  | n+1, i4, i6 =>
    (((6 : Int32) ≤ i6) →
      K95 i4 i6
    ) ∧ (¬ ((6 : Int32) ≤ i6) →
      wX2_has (fun r_1 : Int32 =>
        ((r_1 = 0) →
          ∃ nF, wX1_spread_L38 post
            (fun i4 i7 i9 =>
              wX1_spread_L6 post K95 dk op p1 p2 n i4 (i6 + 1)
            )
            dk op i6 nF i4 (0 : Int64) (0 : Int32)
        ) ∧ (¬ (r_1 = 0) →
          ∃ nF, wX1_spread_L38 post
            (fun i4 i7 i9 =>
              wX1_spread_L6 post K95 dk op p1 p2 n i4 (i6 + 1)
            )
            dk op i6 nF i4 (p2 &&& op) (0 : Int32)
        )
        ) (p1.toInt64) i6
    )
def wX1_spread (post : Int64 → Prop) (dk : Nat → Int64) (op : Int64) (p1 : Int32) (p2 : Int64) : Prop :=
  ∃ nF, wX1_spread_L6 post
    (fun i4 i6 =>
      post i4
    )
    dk op p1 p2 nF (0 : Int64) (0 : Int32)
abbrev wl_X1_spread : List Cond := .code yX1_spread cX1_spread 12 (some .long) :: lwg
abbrev rm_X1_spread : Room := { frames := 2, cells := 0, slots := 0, locals := 42 }
set_option maxHeartbeats 4000000 in
set_option maxRecDepth 100000 in
theorem kX1_spread {post : Int64 → Prop} (l : Launch) (G : GT) (s0 : Nat) (s1 : Nat) (s2 : Nat) (b0 : Nat) (b1 : Nat) (b2 : Nat) (b3 : Nat) (b4 : Nat) (b5 : Nat) (b6 : Nat) (dk : Nat → Int64) (wg : Nat → Int64) (op : Int64) (re : Int32) (kf : Nat → Int32) (ff : Nat → Int32) (sf : Nat → Int32) (df : Nat → Int32) (pf : Nat → Int64) (gf : Nat → Int64) (bn : Int32) (p1 : Int32) (p2 : Int64) (h : wX1_spread post dk op p1 p2) : Met l yX1_spread wl_X1_spread rm_X1_spread (va_Pc [.ref s0, .int p1, .long p2] (fun U => PP G [(s0, .inr (4, [.ref b0, .ref s1, .ref s2, .long op, .int re])), (s1, .inl (G.2 1, 384, .inr (.inl dk))), (s2, .inl (G.2 1, 40, .inr (.inl wg))), (b0, .inr (3, [.ref b1, .ref b2, .ref b3, .ref b4, .ref b5, .ref b6, .int bn])), (b1, .inl (G.2 0, 40, .inl kf)), (b2, .inl (G.2 0, 40, .inl ff)), (b3, .inl (G.2 0, 40, .inl sf)), (b4, .inl (G.2 0, 40, .inl df)), (b5, .inl (G.2 1, 40, .inr (.inl pf))), (b6, .inl (G.2 1, 6, .inr (.inl gf)))] U.heap ∧ KK G U)) (vp_Sl post) 0 0 (fun _ => False) := by
  refine Met.ofW (cc := cX1_spread) (maxL := 12) (ret := (some .long)) (by decide) rfl ?_
  intro p e s m args below meth c s₁ B hml hv
  obtain ⟨rfl, hP, hKK⟩ := hv
  obtain ⟨hK, hN, hR, hFW, hNC⟩ := id hKK
  have hx := B.exec
  have hb := B.bytes
  have hr := B.returns
  have hts0 := atoms_spec (ws := wl_X1_spread) B.pre
  have hts : ∀ w ∈ lwg, w.before ([.ref s0, .int p1, .long p2] : List Value).toArray s = true := fun w hw => hts0 w (List.mem_cons_of_mem _ hw)
  have hown : s.vm.findClass RX1 = some m.cls := findClass_of_methodNamed B.named
  have hlocks := B.notSynchronized
  have hP : PP G [(s0, .inr (4, [.ref b0, .ref s1, .ref s2, .long op, .int re])), (s1, .inl (G.2 1, 384, .inr (.inl dk))), (s2, .inl (G.2 1, 40, .inr (.inl wg))), (b0, .inr (3, [.ref b1, .ref b2, .ref b3, .ref b4, .ref b5, .ref b6, .int bn])), (b1, .inl (G.2 0, 40, .inl kf)), (b2, .inl (G.2 0, 40, .inl ff)), (b3, .inl (G.2 0, 40, .inl sf)), (b4, .inl (G.2 0, 40, .inl df)), (b5, .inl (G.2 1, 40, .inr (.inl pf))), (b6, .inl (G.2 1, 6, .inr (.inl gf)))] s.heap := hP
  have hl := lv_entry ([.ref s0, .int p1, .long p2]) (n := 12) (Nat.le_of_ble_eq_true rfl)
  rw [lg_entry_eq]
  generalize (lg_sl ([.ref s0, .int p1, .long p2]) ++ List.replicate (12 - (lg_sl ([.ref s0, .int p1, .long p2])).length) Slot.unset).toArray = ls at hl ⊢
  have hl : lv_has ls 12 [(0, .ref s0), (1, .int p1), (2, .long p2)] := hl
  have loop38 : ∀ (K89 : Int64 → Int64 → Int32 → Prop) (i6 : Int32), True → (∀ (i4 : Int64) (i7 : Int64) (i9 : Int32) (ls : Array Slot), lv_has ls 12 [(0, .ref s0), (1, .int p1), (2, .long p2), (4, .long i4), (6, .int i6), (7, .long i7), (9, .int i9)] → K89 i4 i7 i9 → W p l e (headSpec (wl_X1_spread) rm_X1_spread).room s m ([.ref s0, .int p1, .long p2] : List Value).toArray below meth c s.heap [] 0 0 (MQ below (vp_Sl post) ([.ref s0, .int p1, .long p2] : List Value).toArray s 0 0 (fun _ => False)) (F0 m 89 ls [])) → ∀ (n : Nat) (i4 : Int64) (i7 : Int64) (i9 : Int32) (ls : Array Slot), lv_has ls 12 [(0, .ref s0), (1, .int p1), (2, .long p2), (4, .long i4), (6, .int i6), (7, .long i7), (9, .int i9)] → wX1_spread_L38 post K89 dk op i6 n i4 i7 i9 → W p l e (headSpec (wl_X1_spread) rm_X1_spread).room s m ([.ref s0, .int p1, .long p2] : List Value).toArray below meth c s.heap [] 0 0 (MQ below (vp_Sl post) ([.ref s0, .int p1, .long p2] : List Value).toArray s 0 0 (fun _ => False)) (F0 m 38 ls []) := by
    intro K89 i6 _ hexit89 n
    induction n with
    | zero => intro i4 i7 i9 ls hl h; exact False.elim h
    | succ n ih =>
      intro i4 i7 i9 ls hl h
      refine lv_iload hx hb dX1_spread_38 (lv_at hl 6 rfl) ?_
      refine lv_bipush (v := 64) hx hb dX1_spread_40 (by decide) ?_
      refine lv_icmp_ge (tgt := 89) hx hb dX1_spread_42 (by decide) (fun hc => ?_) (fun hc => ?_)
      · have h := h.1 hc
        have hl := lv_sub (l' := [(0, .ref s0), (1, .int p1), (2, .long p2), (4, .long i4), (6, .int i6), (7, .long i7), (9, .int i9)]) hl [0, 1, 2, 3, 4, 5, 6] rfl
        exact hexit89 _ _ _ ls hl h
      · have h := h.2 hc
        refine lv_lload hx hb dX1_spread_45 (lv_at hl 5 rfl) ?_
        refine lv_lconst (v := 0) hx hb dX1_spread_47 (by decide) ?_
        refine W.lcmp hx hb dX1_spread_48 ?_
        refine lv_if_eq (tgt := 89) hx hb dX1_spread_49 (by decide) (fun hc => ?_) (fun hc => ?_)
        · have h := h.1 hc
          have hl := lv_sub (l' := [(0, .ref s0), (1, .int p1), (2, .long p2), (4, .long i4), (6, .int i6), (7, .long i7), (9, .int i9)]) hl [0, 1, 2, 3, 4, 5, 6] rfl
          exact hexit89 _ _ _ ls hl h
        · have h := h.2 hc
          refine lv_aload_n hx hb dX1_spread_52 rfl (lv_at hl 0 rfl) ?_
          refine lv_iload hx hb dX1_spread_53 (lv_at hl 4 rfl) ?_
          refine lv_lload hx hb dX1_spread_55 (lv_at hl 5 rfl) ?_
          have hPc := va_P.sub (ws' := []) hP [] rfl
          refine rdI (va_runSN (As := [.long i7]) (rest := [.int i6, .ref s0]) ⟨hx, hb, hml, hown, hts⟩ (kX2_smallestOf l G i7 h) ⟨va_cnB 1 hts (gdC q149) rfl rfl rfl (hN _ n147) (hts _ q1) (by decide +kernel) ⟨Nat.le_of_ble_eq_true rfl, Nat.le_of_ble_eq_true rfl⟩, hts _ q148, trivial⟩ (preS hPc hKK) rfl rfl hl.1 rfl (lv_room (Nat.le_of_ble_eq_true rfl)) dX1_spread_57 ⟨Nat.zero_le _, Nat.zero_le _⟩) (fun r_2 h => ?_)
          have hPc := hP
          refine rdL (va_runV (C := RX1) (As := [.int i6, .int r_2]) (rest := []) ⟨hx, hb, hml, hown, hts⟩ (kX1_cell l G s0 s1 s2 b0 b1 b2 b3 b4 b5 b6 dk wg op re kf ff sf df pf gf bn i6 r_2 h) (cwV 2 hts (gdV q156 q157 q158 q3 q159) rfl rfl rfl (by decide +kernel) ⟨Nat.le_of_ble_eq_true rfl, Nat.le_of_ble_eq_true rfl⟩) (preV hPc hKK (va_recv hK hPc (ci := 4) (q0 := 0) rfl rfl)) rfl rfl hl.1 rfl (lv_room (Nat.le_of_ble_eq_true rfl)) dX1_spread_60 ⟨Nat.zero_le _, Nat.zero_le _⟩) (fun r_3 h => ?_)
          refine lv_lstore hx hb dX1_spread_63 hl (Nat.le_of_ble_eq_true rfl) rfl (fun ls hl => ?_)
          have hl : lv_has ls 12 [(10, .long r_3), (0, .ref s0), (1, .int p1), (2, .long p2), (4, .long i4), (6, .int i6), (7, .long i7), (9, .int i9)] := hl
          refine lv_lload hx hb dX1_spread_65 (lv_at hl 4 rfl) ?_
          refine lv_lload hx hb dX1_spread_67 (lv_at hl 0 rfl) ?_
          refine lv_lor hx hb dX1_spread_69 ?_
          refine lv_lstore hx hb dX1_spread_70 hl (Nat.le_of_ble_eq_true rfl) rfl (fun ls hl => ?_)
          have hl : lv_has ls 12 [(4, .long (i4 ||| r_3)), (10, .long r_3), (0, .ref s0), (1, .int p1), (2, .long p2), (6, .int i6), (7, .long i7), (9, .int i9)] := hl
          refine lv_lload hx hb dX1_spread_72 (lv_at hl 6 rfl) ?_
          refine lv_lload hx hb dX1_spread_74 (lv_at hl 1 rfl) ?_
          refine lv_ldc2 hx hb hown (hts _ q95) dX1_spread_76 ?_
          refine lv_lxor hx hb dX1_spread_79 ?_
          refine lv_land hx hb dX1_spread_80 ?_
          refine lv_lstore hx hb dX1_spread_81 hl (Nat.le_of_ble_eq_true rfl) rfl (fun ls hl => ?_)
          have hl : lv_has ls 12 [(7, .long (i7 &&& (r_3 ^^^ (-1 : Int64)))), (4, .long (i4 ||| r_3)), (10, .long r_3), (0, .ref s0), (1, .int p1), (2, .long p2), (6, .int i6), (9, .int i9)] := hl
          refine lv_iinc (v := (i9 + 1)) hx hb dX1_spread_83 hl (k := 7) rfl (by rw [show Int32.ofInt 1 = 1 from by decide]) (Nat.le_of_ble_eq_true rfl) rfl (fun ls hl => ?_)
          have hl : lv_has ls 12 [(9, .int (i9 + 1)), (7, .long (i7 &&& (r_3 ^^^ (-1 : Int64)))), (4, .long (i4 ||| r_3)), (10, .long r_3), (0, .ref s0), (1, .int p1), (2, .long p2), (6, .int i6)] := hl
          refine lv_goto (tgt := 38) hx hb dX1_spread_86 (by decide) ?_
          have hl := lv_sub (l' := [(0, .ref s0), (1, .int p1), (2, .long p2), (4, .long (i4 ||| r_3)), (6, .int i6), (7, .long (i7 &&& (r_3 ^^^ (-1 : Int64)))), (9, .int (i9 + 1))]) hl [4, 5, 6, 2, 7, 1, 0] rfl
          exact ih _ _ _ ls hl h
  have loop6 : ∀ (K95 : Int64 → Int32 → Prop), True → (∀ (i4 : Int64) (i6 : Int32) (ls : Array Slot), lv_has ls 12 [(0, .ref s0), (1, .int p1), (2, .long p2), (4, .long i4), (6, .int i6)] → K95 i4 i6 → W p l e (headSpec (wl_X1_spread) rm_X1_spread).room s m ([.ref s0, .int p1, .long p2] : List Value).toArray below meth c s.heap [] 0 0 (MQ below (vp_Sl post) ([.ref s0, .int p1, .long p2] : List Value).toArray s 0 0 (fun _ => False)) (F0 m 95 ls [])) → ∀ (n : Nat) (i4 : Int64) (i6 : Int32) (ls : Array Slot), lv_has ls 12 [(0, .ref s0), (1, .int p1), (2, .long p2), (4, .long i4), (6, .int i6)] → wX1_spread_L6 post K95 dk op p1 p2 n i4 i6 → W p l e (headSpec (wl_X1_spread) rm_X1_spread).room s m ([.ref s0, .int p1, .long p2] : List Value).toArray below meth c s.heap [] 0 0 (MQ below (vp_Sl post) ([.ref s0, .int p1, .long p2] : List Value).toArray s 0 0 (fun _ => False)) (F0 m 6 ls []) := by
    intro K95 _ hexit95 n
    induction n with
    | zero => intro i4 i6 ls hl h; exact False.elim h
    | succ n ih =>
      intro i4 i6 ls hl h
      refine lv_iload hx hb dX1_spread_6 (lv_at hl 4 rfl) ?_
      refine lv_bipush (v := 6) hx hb dX1_spread_8 (by decide) ?_
      refine lv_icmp_ge (tgt := 95) hx hb dX1_spread_10 (by decide) (fun hc => ?_) (fun hc => ?_)
      · have h := h.1 hc
        have hl := lv_sub (l' := [(0, .ref s0), (1, .int p1), (2, .long p2), (4, .long i4), (6, .int i6)]) hl [0, 1, 2, 3, 4] rfl
        exact hexit95 _ _ ls hl h
      · have h := h.2 hc
        refine lv_iload_n hx hb dX1_spread_13 rfl (lv_at hl 1 rfl) ?_
        refine lv_i2l (v := (p1.toInt64)) hx hb dX1_spread_14 rfl ?_
        refine lv_iload hx hb dX1_spread_15 (lv_at hl 4 rfl) ?_
        have hPc := va_P.sub (ws' := []) hP [] rfl
        refine rdI (va_runSN (As := [.long (p1.toInt64), .int i6]) (rest := []) ⟨hx, hb, hml, hown, hts⟩ (kX2_has l G (p1.toInt64) i6 h) ⟨va_cnB 2 hts (gdC q109) rfl rfl rfl (hN _ n107) (hts _ q1) (by decide +kernel) ⟨Nat.le_of_ble_eq_true rfl, Nat.le_of_ble_eq_true rfl⟩, hts _ q108, trivial⟩ (preS hPc hKK) rfl rfl hl.1 rfl (lv_room (Nat.le_of_ble_eq_true rfl)) dX1_spread_17 ⟨Nat.zero_le _, Nat.zero_le _⟩) (fun r_1 h => ?_)
        refine lv_if_eq (tgt := 32) hx hb dX1_spread_20 (by decide) (fun hc => ?_) (fun hc => ?_)
        · have h := h.1 hc
          refine lv_lconst (v := 0) hx hb dX1_spread_32 (by decide) ?_
          refine lv_lstore hx hb dX1_spread_33 hl (Nat.le_of_ble_eq_true rfl) rfl (fun ls hl => ?_)
          have hl : lv_has ls 12 [(7, .long (0 : Int64)), (0, .ref s0), (1, .int p1), (2, .long p2), (4, .long i4), (6, .int i6)] := hl
          refine lv_iconst (v := 0) hx hb dX1_spread_35 (by decide) ?_
          refine lv_istore hx hb dX1_spread_36 hl (Nat.le_of_ble_eq_true rfl) rfl (fun ls hl => ?_)
          have hl : lv_has ls 12 [(9, .int (0 : Int32)), (7, .long (0 : Int64)), (0, .ref s0), (1, .int p1), (2, .long p2), (4, .long i4), (6, .int i6)] := hl
          have hl := lv_sub (l' := [(0, .ref s0), (1, .int p1), (2, .long p2), (4, .long i4), (6, .int i6), (7, .long (0 : Int64)), (9, .int (0 : Int32))]) hl [2, 3, 4, 5, 6, 1, 0] rfl
          obtain ⟨nF, h⟩ := h
          refine loop38 _ i6 trivial ?_ nF i4 (0 : Int64) (0 : Int32) _ hl h
          · intro i4 i7 i9 ls hl h
            refine lv_iinc (v := (i6 + 1)) hx hb dX1_spread_89 hl (k := 4) rfl (by rw [show Int32.ofInt 1 = 1 from by decide]) (Nat.le_of_ble_eq_true rfl) rfl (fun ls hl => ?_)
            have hl : lv_has ls 12 [(6, .int (i6 + 1)), (0, .ref s0), (1, .int p1), (2, .long p2), (4, .long i4), (7, .long i7), (9, .int i9)] := hl
            refine lv_goto (tgt := 6) hx hb dX1_spread_92 (by decide) ?_
            have hl := lv_sub (l' := [(0, .ref s0), (1, .int p1), (2, .long p2), (4, .long i4), (6, .int (i6 + 1))]) hl [1, 2, 3, 4, 0] rfl
            exact ih _ _ ls hl h
        · have h := h.2 hc
          refine lv_lload_n hx hb dX1_spread_23 rfl (lv_at hl 2 rfl) ?_
          refine lv_aload_n hx hb dX1_spread_24 rfl (lv_at hl 0 rfl) ?_
          refine va_get (D := G.1) (ci := 4) (v := .long op) (C := RX1) (T := TX1) (N := 5) hx hb hts igX1 hown hK hP 0 rfl rfl 3 (by decide) (hts _ q76) (fun _ h9 => h9) rfl dX1_spread_25 ?_
          refine lv_land hx hb dX1_spread_28 ?_
          refine lv_goto (tgt := 33) hx hb dX1_spread_29 (by decide) ?_
          refine lv_lstore hx hb dX1_spread_33 hl (Nat.le_of_ble_eq_true rfl) rfl (fun ls hl => ?_)
          have hl : lv_has ls 12 [(7, .long (p2 &&& op)), (0, .ref s0), (1, .int p1), (2, .long p2), (4, .long i4), (6, .int i6)] := hl
          refine lv_iconst (v := 0) hx hb dX1_spread_35 (by decide) ?_
          refine lv_istore hx hb dX1_spread_36 hl (Nat.le_of_ble_eq_true rfl) rfl (fun ls hl => ?_)
          have hl : lv_has ls 12 [(9, .int (0 : Int32)), (7, .long (p2 &&& op)), (0, .ref s0), (1, .int p1), (2, .long p2), (4, .long i4), (6, .int i6)] := hl
          have hl := lv_sub (l' := [(0, .ref s0), (1, .int p1), (2, .long p2), (4, .long i4), (6, .int i6), (7, .long (p2 &&& op)), (9, .int (0 : Int32))]) hl [2, 3, 4, 5, 6, 1, 0] rfl
          obtain ⟨nF, h⟩ := h
          refine loop38 _ i6 trivial ?_ nF i4 (p2 &&& op) (0 : Int32) _ hl h
          · intro i4 i7 i9 ls hl h
            refine lv_iinc (v := (i6 + 1)) hx hb dX1_spread_89 hl (k := 4) rfl (by rw [show Int32.ofInt 1 = 1 from by decide]) (Nat.le_of_ble_eq_true rfl) rfl (fun ls hl => ?_)
            have hl : lv_has ls 12 [(6, .int (i6 + 1)), (0, .ref s0), (1, .int p1), (2, .long p2), (4, .long i4), (7, .long i7), (9, .int i9)] := hl
            refine lv_goto (tgt := 6) hx hb dX1_spread_92 (by decide) ?_
            have hl := lv_sub (l' := [(0, .ref s0), (1, .int p1), (2, .long p2), (4, .long i4), (6, .int (i6 + 1))]) hl [1, 2, 3, 4, 0] rfl
            exact ih _ _ ls hl h
  refine lv_lconst (v := 0) hx hb dX1_spread_0 (by decide) ?_
  refine lv_lstore hx hb dX1_spread_1 hl (Nat.le_of_ble_eq_true rfl) rfl (fun ls hl => ?_)
  have hl : lv_has ls 12 [(4, .long (0 : Int64)), (0, .ref s0), (1, .int p1), (2, .long p2)] := hl
  refine lv_iconst (v := 0) hx hb dX1_spread_3 (by decide) ?_
  refine lv_istore hx hb dX1_spread_4 hl (Nat.le_of_ble_eq_true rfl) rfl (fun ls hl => ?_)
  have hl : lv_has ls 12 [(6, .int (0 : Int32)), (4, .long (0 : Int64)), (0, .ref s0), (1, .int p1), (2, .long p2)] := hl
  have hl := lv_sub (l' := [(0, .ref s0), (1, .int p1), (2, .long p2), (4, .long (0 : Int64)), (6, .int (0 : Int32))]) hl [2, 3, 4, 1, 0] rfl
  obtain ⟨nF, h⟩ := h
  refine loop6 _ trivial ?_ nF (0 : Int64) (0 : Int32) _ hl h
  · intro i4 i6 ls hl h
    refine lv_lload hx hb dX1_spread_95 (lv_at hl 3 rfl) ?_
    exact W.lret (v := i4) hx hb hr (fun t ht _ => ⟨_, rfl, h, ht⟩) (fun _ hq => absurd hq List.not_mem_nil) dX1_spread_97
theorem dX1_reached_0 : decode cX1_reached 0 = .ok (.lload_n 2, 1) := by decide +kernel
theorem dX1_reached_1 : decode cX1_reached 1 = .ok (.aload_n 0, 1) := by decide +kernel
theorem dX1_reached_2 : decode cX1_reached 2 = .ok (.getfield 28, 3) := by decide +kernel
theorem dX1_reached_5 : decode cX1_reached 5 = .ok (.land, 1) := by decide +kernel
theorem dX1_reached_6 : decode cX1_reached 6 = .ok (.lstore 4, 2) := by decide +kernel
theorem dX1_reached_8 : decode cX1_reached 8 = .ok (.lload 4, 2) := by decide +kernel
theorem dX1_reached_10 : decode cX1_reached 10 = .ok (.lstore 6, 2) := by decide +kernel
theorem dX1_reached_12 : decode cX1_reached 12 = .ok (.iconst 0, 1) := by decide +kernel
theorem dX1_reached_13 : decode cX1_reached 13 = .ok (.istore 8, 2) := by decide +kernel
theorem dX1_reached_15 : decode cX1_reached 15 = .ok (.iload 8, 2) := by decide +kernel
theorem dX1_reached_17 : decode cX1_reached 17 = .ok (.bipush 64, 2) := by decide +kernel
theorem dX1_reached_19 : decode cX1_reached 19 = .ok (.if_icmp .ge 39, 3) := by decide +kernel
theorem dX1_reached_22 : decode cX1_reached 22 = .ok (.lload 6, 2) := by decide +kernel
theorem dX1_reached_24 : decode cX1_reached 24 = .ok (.lconst 0, 1) := by decide +kernel
theorem dX1_reached_25 : decode cX1_reached 25 = .ok (.lcmp, 1) := by decide +kernel
theorem dX1_reached_26 : decode cX1_reached 26 = .ok (.ifCond .eq 32, 3) := by decide +kernel
theorem dX1_reached_29 : decode cX1_reached 29 = .ok (.aload_n 0, 1) := by decide +kernel
theorem dX1_reached_30 : decode cX1_reached 30 = .ok (.iload_n 1, 1) := by decide +kernel
theorem dX1_reached_31 : decode cX1_reached 31 = .ok (.lload 6, 2) := by decide +kernel
theorem dX1_reached_33 : decode cX1_reached 33 = .ok (.invokevirtual 101, 3) := by decide +kernel
theorem dX1_reached_36 : decode cX1_reached 36 = .ok (.lload 4, 2) := by decide +kernel
theorem dX1_reached_38 : decode cX1_reached 38 = .ok (.ldc2_w 26, 3) := by decide +kernel
theorem dX1_reached_41 : decode cX1_reached 41 = .ok (.lxor, 1) := by decide +kernel
theorem dX1_reached_42 : decode cX1_reached 42 = .ok (.land, 1) := by decide +kernel
theorem dX1_reached_43 : decode cX1_reached 43 = .ok (.lstore 6, 2) := by decide +kernel
theorem dX1_reached_45 : decode cX1_reached 45 = .ok (.lload 4, 2) := by decide +kernel
theorem dX1_reached_47 : decode cX1_reached 47 = .ok (.lload 6, 2) := by decide +kernel
theorem dX1_reached_49 : decode cX1_reached 49 = .ok (.lor, 1) := by decide +kernel
theorem dX1_reached_50 : decode cX1_reached 50 = .ok (.lstore 4, 2) := by decide +kernel
theorem dX1_reached_52 : decode cX1_reached 52 = .ok (.iinc 8 1, 3) := by decide +kernel
theorem dX1_reached_55 : decode cX1_reached 55 = .ok (.goto (-40), 3) := by decide +kernel
theorem dX1_reached_58 : decode cX1_reached 58 = .ok (.lload 4, 2) := by decide +kernel
theorem dX1_reached_60 : decode cX1_reached 60 = .ok (.lreturn, 1) := by decide +kernel
def wX1_reached_L15 (post : Int64 → Prop) (K58 : Int64 → Int64 → Int32 → Prop) (dk : Nat → Int64) (op : Int64) (p1 : Int32) : Nat → Int64 → Int64 → Int32 → Prop
  | 0, _, _, _ => False
  | n+1, i4, i6, i8 =>
    (((64 : Int32) ≤ i8) →
      K58 i4 i6 i8
    ) ∧ (¬ ((64 : Int32) ≤ i8) →
      (((lg_cmp i6 (0 : Int64)) = 0) →
        K58 i4 i6 i8
      ) ∧ (¬ ((lg_cmp i6 (0 : Int64)) = 0) →
        wX1_spread (fun r_1 : Int64 =>
          wX1_reached_L15 post K58 dk op p1 n (i4 ||| (r_1 &&& (i4 ^^^ (-1 : Int64)))) (r_1 &&& (i4 ^^^ (-1 : Int64))) (i8 + 1)
          ) dk op p1 i6
      )
    )
def wX1_reached (post : Int64 → Prop) (dk : Nat → Int64) (op : Int64) (p1 : Int32) (p2 : Int64) : Prop :=
  ∃ nF, wX1_reached_L15 post
    (fun i4 i6 i8 =>
      post i4
    )
    dk op p1 nF (p2 &&& op) (p2 &&& op) (0 : Int32)
abbrev wl_X1_reached : List Cond := .code yX1_reached cX1_reached 9 (some .long) :: lwg
abbrev rm_X1_reached : Room := { frames := 3, cells := 0, slots := 0, locals := 73 }
set_option maxHeartbeats 4000000 in
set_option maxRecDepth 100000 in
theorem kX1_reached {post : Int64 → Prop} (l : Launch) (G : GT) (s0 : Nat) (s1 : Nat) (s2 : Nat) (b0 : Nat) (b1 : Nat) (b2 : Nat) (b3 : Nat) (b4 : Nat) (b5 : Nat) (b6 : Nat) (dk : Nat → Int64) (wg : Nat → Int64) (op : Int64) (re : Int32) (kf : Nat → Int32) (ff : Nat → Int32) (sf : Nat → Int32) (df : Nat → Int32) (pf : Nat → Int64) (gf : Nat → Int64) (bn : Int32) (p1 : Int32) (p2 : Int64) (h : wX1_reached post dk op p1 p2) : Met l yX1_reached wl_X1_reached rm_X1_reached (va_Pc [.ref s0, .int p1, .long p2] (fun U => PP G [(s0, .inr (4, [.ref b0, .ref s1, .ref s2, .long op, .int re])), (s1, .inl (G.2 1, 384, .inr (.inl dk))), (s2, .inl (G.2 1, 40, .inr (.inl wg))), (b0, .inr (3, [.ref b1, .ref b2, .ref b3, .ref b4, .ref b5, .ref b6, .int bn])), (b1, .inl (G.2 0, 40, .inl kf)), (b2, .inl (G.2 0, 40, .inl ff)), (b3, .inl (G.2 0, 40, .inl sf)), (b4, .inl (G.2 0, 40, .inl df)), (b5, .inl (G.2 1, 40, .inr (.inl pf))), (b6, .inl (G.2 1, 6, .inr (.inl gf)))] U.heap ∧ KK G U)) (vp_Sl post) 0 0 (fun _ => False) := by
  refine Met.ofW (cc := cX1_reached) (maxL := 9) (ret := (some .long)) (by decide) rfl ?_
  intro p e s m args below meth c s₁ B hml hv
  obtain ⟨rfl, hP, hKK⟩ := hv
  obtain ⟨hK, hN, hR, hFW, hNC⟩ := id hKK
  have hx := B.exec
  have hb := B.bytes
  have hr := B.returns
  have hts0 := atoms_spec (ws := wl_X1_reached) B.pre
  have hts : ∀ w ∈ lwg, w.before ([.ref s0, .int p1, .long p2] : List Value).toArray s = true := fun w hw => hts0 w (List.mem_cons_of_mem _ hw)
  have hown : s.vm.findClass RX1 = some m.cls := findClass_of_methodNamed B.named
  have hlocks := B.notSynchronized
  have hP : PP G [(s0, .inr (4, [.ref b0, .ref s1, .ref s2, .long op, .int re])), (s1, .inl (G.2 1, 384, .inr (.inl dk))), (s2, .inl (G.2 1, 40, .inr (.inl wg))), (b0, .inr (3, [.ref b1, .ref b2, .ref b3, .ref b4, .ref b5, .ref b6, .int bn])), (b1, .inl (G.2 0, 40, .inl kf)), (b2, .inl (G.2 0, 40, .inl ff)), (b3, .inl (G.2 0, 40, .inl sf)), (b4, .inl (G.2 0, 40, .inl df)), (b5, .inl (G.2 1, 40, .inr (.inl pf))), (b6, .inl (G.2 1, 6, .inr (.inl gf)))] s.heap := hP
  have hl := lv_entry ([.ref s0, .int p1, .long p2]) (n := 9) (Nat.le_of_ble_eq_true rfl)
  rw [lg_entry_eq]
  generalize (lg_sl ([.ref s0, .int p1, .long p2]) ++ List.replicate (9 - (lg_sl ([.ref s0, .int p1, .long p2])).length) Slot.unset).toArray = ls at hl ⊢
  have hl : lv_has ls 9 [(0, .ref s0), (1, .int p1), (2, .long p2)] := hl
  have loop15 : ∀ (K58 : Int64 → Int64 → Int32 → Prop), True → (∀ (i4 : Int64) (i6 : Int64) (i8 : Int32) (ls : Array Slot), lv_has ls 9 [(0, .ref s0), (1, .int p1), (2, .long p2), (4, .long i4), (6, .long i6), (8, .int i8)] → K58 i4 i6 i8 → W p l e (headSpec (wl_X1_reached) rm_X1_reached).room s m ([.ref s0, .int p1, .long p2] : List Value).toArray below meth c s.heap [] 0 0 (MQ below (vp_Sl post) ([.ref s0, .int p1, .long p2] : List Value).toArray s 0 0 (fun _ => False)) (F0 m 58 ls [])) → ∀ (n : Nat) (i4 : Int64) (i6 : Int64) (i8 : Int32) (ls : Array Slot), lv_has ls 9 [(0, .ref s0), (1, .int p1), (2, .long p2), (4, .long i4), (6, .long i6), (8, .int i8)] → wX1_reached_L15 post K58 dk op p1 n i4 i6 i8 → W p l e (headSpec (wl_X1_reached) rm_X1_reached).room s m ([.ref s0, .int p1, .long p2] : List Value).toArray below meth c s.heap [] 0 0 (MQ below (vp_Sl post) ([.ref s0, .int p1, .long p2] : List Value).toArray s 0 0 (fun _ => False)) (F0 m 15 ls []) := by
    intro K58 _ hexit58 n
    induction n with
    | zero => intro i4 i6 i8 ls hl h; exact False.elim h
    | succ n ih =>
      intro i4 i6 i8 ls hl h
      refine lv_iload hx hb dX1_reached_15 (lv_at hl 5 rfl) ?_
      refine lv_bipush (v := 64) hx hb dX1_reached_17 (by decide) ?_
      refine lv_icmp_ge (tgt := 58) hx hb dX1_reached_19 (by decide) (fun hc => ?_) (fun hc => ?_)
      · have h := h.1 hc
        have hl := lv_sub (l' := [(0, .ref s0), (1, .int p1), (2, .long p2), (4, .long i4), (6, .long i6), (8, .int i8)]) hl [0, 1, 2, 3, 4, 5] rfl
        exact hexit58 _ _ _ ls hl h
      · have h := h.2 hc
        refine lv_lload hx hb dX1_reached_22 (lv_at hl 4 rfl) ?_
        refine lv_lconst (v := 0) hx hb dX1_reached_24 (by decide) ?_
        refine W.lcmp hx hb dX1_reached_25 ?_
        refine lv_if_eq (tgt := 58) hx hb dX1_reached_26 (by decide) (fun hc => ?_) (fun hc => ?_)
        · have h := h.1 hc
          have hl := lv_sub (l' := [(0, .ref s0), (1, .int p1), (2, .long p2), (4, .long i4), (6, .long i6), (8, .int i8)]) hl [0, 1, 2, 3, 4, 5] rfl
          exact hexit58 _ _ _ ls hl h
        · have h := h.2 hc
          refine lv_aload_n hx hb dX1_reached_29 rfl (lv_at hl 0 rfl) ?_
          refine lv_iload_n hx hb dX1_reached_30 rfl (lv_at hl 1 rfl) ?_
          refine lv_lload hx hb dX1_reached_31 (lv_at hl 4 rfl) ?_
          have hPc := hP
          refine rdL (va_runV (C := RX1) (As := [.int p1, .long i6]) (rest := []) ⟨hx, hb, hml, hown, hts⟩ (kX1_spread l G s0 s1 s2 b0 b1 b2 b3 b4 b5 b6 dk wg op re kf ff sf df pf gf bn p1 i6 h) (cwV 2 hts (gdV q143 q145 qs1 q3 q146) rfl rfl rfl (by decide +kernel) ⟨Nat.le_of_ble_eq_true rfl, Nat.le_of_ble_eq_true rfl⟩) (preV hPc hKK (va_recv hK hPc (ci := 4) (q0 := 0) rfl rfl)) rfl rfl hl.1 rfl (lv_room (Nat.le_of_ble_eq_true rfl)) dX1_reached_33 ⟨Nat.zero_le _, Nat.zero_le _⟩) (fun r_1 h => ?_)
          refine lv_lload hx hb dX1_reached_36 (lv_at hl 3 rfl) ?_
          refine lv_ldc2 hx hb hown (hts _ q95) dX1_reached_38 ?_
          refine lv_lxor hx hb dX1_reached_41 ?_
          refine lv_land hx hb dX1_reached_42 ?_
          refine lv_lstore hx hb dX1_reached_43 hl (Nat.le_of_ble_eq_true rfl) rfl (fun ls hl => ?_)
          have hl : lv_has ls 9 [(6, .long (r_1 &&& (i4 ^^^ (-1 : Int64)))), (0, .ref s0), (1, .int p1), (2, .long p2), (4, .long i4), (8, .int i8)] := hl
          refine lv_lload hx hb dX1_reached_45 (lv_at hl 4 rfl) ?_
          refine lv_lload hx hb dX1_reached_47 (lv_at hl 0 rfl) ?_
          refine lv_lor hx hb dX1_reached_49 ?_
          refine lv_lstore hx hb dX1_reached_50 hl (Nat.le_of_ble_eq_true rfl) rfl (fun ls hl => ?_)
          have hl : lv_has ls 9 [(4, .long (i4 ||| (r_1 &&& (i4 ^^^ (-1 : Int64))))), (6, .long (r_1 &&& (i4 ^^^ (-1 : Int64)))), (0, .ref s0), (1, .int p1), (2, .long p2), (8, .int i8)] := hl
          refine lv_iinc (v := (i8 + 1)) hx hb dX1_reached_52 hl (k := 5) rfl (by rw [show Int32.ofInt 1 = 1 from by decide]) (Nat.le_of_ble_eq_true rfl) rfl (fun ls hl => ?_)
          have hl : lv_has ls 9 [(8, .int (i8 + 1)), (4, .long (i4 ||| (r_1 &&& (i4 ^^^ (-1 : Int64))))), (6, .long (r_1 &&& (i4 ^^^ (-1 : Int64)))), (0, .ref s0), (1, .int p1), (2, .long p2)] := hl
          refine lv_goto (tgt := 15) hx hb dX1_reached_55 (by decide) ?_
          have hl := lv_sub (l' := [(0, .ref s0), (1, .int p1), (2, .long p2), (4, .long (i4 ||| (r_1 &&& (i4 ^^^ (-1 : Int64))))), (6, .long (r_1 &&& (i4 ^^^ (-1 : Int64)))), (8, .int (i8 + 1))]) hl [3, 4, 5, 1, 2, 0] rfl
          exact ih _ _ _ ls hl h
  refine lv_lload_n hx hb dX1_reached_0 rfl (lv_at hl 2 rfl) ?_
  refine lv_aload_n hx hb dX1_reached_1 rfl (lv_at hl 0 rfl) ?_
  refine va_get (D := G.1) (ci := 4) (v := .long op) (C := RX1) (T := TX1) (N := 5) hx hb hts igX1 hown hK hP 0 rfl rfl 3 (by decide) (hts _ q76) (fun _ h9 => h9) rfl dX1_reached_2 ?_
  refine lv_land hx hb dX1_reached_5 ?_
  refine lv_lstore hx hb dX1_reached_6 hl (Nat.le_of_ble_eq_true rfl) rfl (fun ls hl => ?_)
  have hl : lv_has ls 9 [(4, .long (p2 &&& op)), (0, .ref s0), (1, .int p1), (2, .long p2)] := hl
  refine lv_lload hx hb dX1_reached_8 (lv_at hl 0 rfl) ?_
  refine lv_lstore hx hb dX1_reached_10 hl (Nat.le_of_ble_eq_true rfl) rfl (fun ls hl => ?_)
  have hl : lv_has ls 9 [(6, .long (p2 &&& op)), (4, .long (p2 &&& op)), (0, .ref s0), (1, .int p1), (2, .long p2)] := hl
  refine lv_iconst (v := 0) hx hb dX1_reached_12 (by decide) ?_
  refine lv_istore hx hb dX1_reached_13 hl (Nat.le_of_ble_eq_true rfl) rfl (fun ls hl => ?_)
  have hl : lv_has ls 9 [(8, .int (0 : Int32)), (6, .long (p2 &&& op)), (4, .long (p2 &&& op)), (0, .ref s0), (1, .int p1), (2, .long p2)] := hl
  have hl := lv_sub (l' := [(0, .ref s0), (1, .int p1), (2, .long p2), (4, .long (p2 &&& op)), (6, .long (p2 &&& op)), (8, .int (0 : Int32))]) hl [3, 4, 5, 2, 1, 0] rfl
  obtain ⟨nF, h⟩ := h
  refine loop15 _ trivial ?_ nF (p2 &&& op) (p2 &&& op) (0 : Int32) _ hl h
  · intro i4 i6 i8 ls hl h
    refine lv_lload hx hb dX1_reached_58 (lv_at hl 3 rfl) ?_
    exact W.lret (v := i4) hx hb hr (fun t ht _ => ⟨_, rfl, h, ht⟩) (fun _ hq => absurd hq List.not_mem_nil) dX1_reached_60
theorem dX1_reachedFromReal_0 : decode cX1_reachedFromReal 0 = .ok (.aload_n 0, 1) := by decide +kernel
theorem dX1_reachedFromReal_1 : decode cX1_reachedFromReal 1 = .ok (.iload_n 1, 1) := by decide +kernel
theorem dX1_reachedFromReal_2 : decode cX1_reachedFromReal 2 = .ok (.aload_n 0, 1) := by decide +kernel
theorem dX1_reachedFromReal_3 : decode cX1_reachedFromReal 3 = .ok (.getfield 22, 3) := by decide +kernel
theorem dX1_reachedFromReal_6 : decode cX1_reachedFromReal 6 = .ok (.invokestatic 104, 3) := by decide +kernel
theorem dX1_reachedFromReal_9 : decode cX1_reachedFromReal 9 = .ok (.invokevirtual 84, 3) := by decide +kernel
theorem dX1_reachedFromReal_12 : decode cX1_reachedFromReal 12 = .ok (.lreturn, 1) := by decide +kernel
def wX1_reachedFromReal (post : Int64 → Prop) (dk : Nat → Int64) (op : Int64) (re : Int32) (p1 : Int32) : Prop :=
  wX2_setOf (fun r_1 : Int64 =>
    wX1_reached (fun r_2 : Int64 =>
      post r_2
      ) dk op p1 r_1
    ) re
abbrev wl_X1_reachedFromReal : List Cond := .code yX1_reachedFromReal cX1_reachedFromReal 2 (some .long) :: lwg
abbrev rm_X1_reachedFromReal : Room := { frames := 4, cells := 0, slots := 0, locals := 101 }
set_option maxHeartbeats 4000000 in
set_option maxRecDepth 100000 in
theorem kX1_reachedFromReal {post : Int64 → Prop} (l : Launch) (G : GT) (s0 : Nat) (s1 : Nat) (s2 : Nat) (b0 : Nat) (b1 : Nat) (b2 : Nat) (b3 : Nat) (b4 : Nat) (b5 : Nat) (b6 : Nat) (dk : Nat → Int64) (wg : Nat → Int64) (op : Int64) (re : Int32) (kf : Nat → Int32) (ff : Nat → Int32) (sf : Nat → Int32) (df : Nat → Int32) (pf : Nat → Int64) (gf : Nat → Int64) (bn : Int32) (p1 : Int32) (h : wX1_reachedFromReal post dk op re p1) : Met l yX1_reachedFromReal wl_X1_reachedFromReal rm_X1_reachedFromReal (va_Pc [.ref s0, .int p1] (fun U => PP G [(s0, .inr (4, [.ref b0, .ref s1, .ref s2, .long op, .int re])), (s1, .inl (G.2 1, 384, .inr (.inl dk))), (s2, .inl (G.2 1, 40, .inr (.inl wg))), (b0, .inr (3, [.ref b1, .ref b2, .ref b3, .ref b4, .ref b5, .ref b6, .int bn])), (b1, .inl (G.2 0, 40, .inl kf)), (b2, .inl (G.2 0, 40, .inl ff)), (b3, .inl (G.2 0, 40, .inl sf)), (b4, .inl (G.2 0, 40, .inl df)), (b5, .inl (G.2 1, 40, .inr (.inl pf))), (b6, .inl (G.2 1, 6, .inr (.inl gf)))] U.heap ∧ KK G U)) (vp_Sl post) 0 0 (fun _ => False) := by
  refine Met.ofW (cc := cX1_reachedFromReal) (maxL := 2) (ret := (some .long)) (by decide) rfl ?_
  intro p e s m args below meth c s₁ B hml hv
  obtain ⟨rfl, hP, hKK⟩ := hv
  obtain ⟨hK, hN, hR, hFW, hNC⟩ := id hKK
  have hx := B.exec
  have hb := B.bytes
  have hr := B.returns
  have hts0 := atoms_spec (ws := wl_X1_reachedFromReal) B.pre
  have hts : ∀ w ∈ lwg, w.before ([.ref s0, .int p1] : List Value).toArray s = true := fun w hw => hts0 w (List.mem_cons_of_mem _ hw)
  have hown : s.vm.findClass RX1 = some m.cls := findClass_of_methodNamed B.named
  have hlocks := B.notSynchronized
  have hP : PP G [(s0, .inr (4, [.ref b0, .ref s1, .ref s2, .long op, .int re])), (s1, .inl (G.2 1, 384, .inr (.inl dk))), (s2, .inl (G.2 1, 40, .inr (.inl wg))), (b0, .inr (3, [.ref b1, .ref b2, .ref b3, .ref b4, .ref b5, .ref b6, .int bn])), (b1, .inl (G.2 0, 40, .inl kf)), (b2, .inl (G.2 0, 40, .inl ff)), (b3, .inl (G.2 0, 40, .inl sf)), (b4, .inl (G.2 0, 40, .inl df)), (b5, .inl (G.2 1, 40, .inr (.inl pf))), (b6, .inl (G.2 1, 6, .inr (.inl gf)))] s.heap := hP
  have hl := lv_entry ([.ref s0, .int p1]) (n := 2) (Nat.le_of_ble_eq_true rfl)
  rw [lg_entry_eq]
  generalize (lg_sl ([.ref s0, .int p1]) ++ List.replicate (2 - (lg_sl ([.ref s0, .int p1])).length) Slot.unset).toArray = ls at hl ⊢
  have hl : lv_has ls 2 [(0, .ref s0), (1, .int p1)] := hl
  refine lv_aload_n hx hb dX1_reachedFromReal_0 rfl (lv_at hl 0 rfl) ?_
  refine lv_iload_n hx hb dX1_reachedFromReal_1 rfl (lv_at hl 1 rfl) ?_
  refine lv_aload_n hx hb dX1_reachedFromReal_2 rfl (lv_at hl 0 rfl) ?_
  refine va_get (D := G.1) (ci := 4) (v := .int re) (C := RX1) (T := TX1) (N := 5) hx hb hts igX1 hown hK hP 0 rfl rfl 4 (by decide) (hts _ q78) (fun _ h9 => h9) rfl dX1_reachedFromReal_3 ?_
  have hPc := va_P.sub (ws' := []) hP [] rfl
  refine rdL (va_runSN (As := [.int re]) (rest := [.int p1, .ref s0]) ⟨hx, hb, hml, hown, hts⟩ (kX2_setOf l G re h) ⟨va_cnB 1 hts (gdC q102) rfl rfl rfl (hN _ n257) (hts _ q1) (by decide +kernel) ⟨Nat.le_of_ble_eq_true rfl, Nat.le_of_ble_eq_true rfl⟩, hts _ q101, trivial⟩ (preS hPc hKK) rfl rfl hl.1 rfl (lv_room (Nat.le_of_ble_eq_true rfl)) dX1_reachedFromReal_6 ⟨Nat.zero_le _, Nat.zero_le _⟩) (fun r_1 h => ?_)
  have hPc := hP
  refine rdL (va_runV (C := RX1) (As := [.int p1, .long r_1]) (rest := []) ⟨hx, hb, hml, hown, hts⟩ (kX1_reached l G s0 s1 s2 b0 b1 b2 b3 b4 b5 b6 dk wg op re kf ff sf df pf gf bn p1 r_1 h) (cwV 2 hts (gdV q160 q162 qs2 q3 q163) rfl rfl rfl (by decide +kernel) ⟨Nat.le_of_ble_eq_true rfl, Nat.le_of_ble_eq_true rfl⟩) (preV hPc hKK (va_recv hK hPc (ci := 4) (q0 := 0) rfl rfl)) rfl rfl hl.1 rfl (lv_room (Nat.le_of_ble_eq_true rfl)) dX1_reachedFromReal_9 ⟨Nat.zero_le _, Nat.zero_le _⟩) (fun r_2 h => ?_)
  exact W.lret (v := r_2) hx hb hr (fun t ht _ => ⟨_, rfl, h, ht⟩) (fun _ hq => absurd hq List.not_mem_nil) dX1_reachedFromReal_12
theorem dX1_knownToAll_0 : decode cX1_knownToAll 0 = .ok (.aload_n 0, 1) := by decide +kernel
theorem dX1_knownToAll_1 : decode cX1_knownToAll 1 = .ok (.getfield 28, 3) := by decide +kernel
theorem dX1_knownToAll_4 : decode cX1_knownToAll 4 = .ok (.aload_n 0, 1) := by decide +kernel
theorem dX1_knownToAll_5 : decode cX1_knownToAll 5 = .ok (.iload_n 1, 1) := by decide +kernel
theorem dX1_knownToAll_6 : decode cX1_knownToAll 6 = .ok (.lload_n 2, 1) := by decide +kernel
theorem dX1_knownToAll_7 : decode cX1_knownToAll 7 = .ok (.ldc2_w 26, 3) := by decide +kernel
theorem dX1_knownToAll_10 : decode cX1_knownToAll 10 = .ok (.lxor, 1) := by decide +kernel
theorem dX1_knownToAll_11 : decode cX1_knownToAll 11 = .ok (.invokevirtual 101, 3) := by decide +kernel
theorem dX1_knownToAll_14 : decode cX1_knownToAll 14 = .ok (.ldc2_w 26, 3) := by decide +kernel
theorem dX1_knownToAll_17 : decode cX1_knownToAll 17 = .ok (.lxor, 1) := by decide +kernel
theorem dX1_knownToAll_18 : decode cX1_knownToAll 18 = .ok (.land, 1) := by decide +kernel
theorem dX1_knownToAll_19 : decode cX1_knownToAll 19 = .ok (.lreturn, 1) := by decide +kernel
def wX1_knownToAll (post : Int64 → Prop) (dk : Nat → Int64) (op : Int64) (p1 : Int32) (p2 : Int64) : Prop :=
  wX1_spread (fun r_1 : Int64 =>
    post (op &&& (r_1 ^^^ (-1 : Int64)))
    ) dk op p1 (p2 ^^^ (-1 : Int64))
abbrev wl_X1_knownToAll : List Cond := .code yX1_knownToAll cX1_knownToAll 4 (some .long) :: lwg
abbrev rm_X1_knownToAll : Room := { frames := 3, cells := 0, slots := 0, locals := 73 }
set_option maxHeartbeats 4000000 in
set_option maxRecDepth 100000 in
theorem kX1_knownToAll {post : Int64 → Prop} (l : Launch) (G : GT) (s0 : Nat) (s1 : Nat) (s2 : Nat) (b0 : Nat) (b1 : Nat) (b2 : Nat) (b3 : Nat) (b4 : Nat) (b5 : Nat) (b6 : Nat) (dk : Nat → Int64) (wg : Nat → Int64) (op : Int64) (re : Int32) (kf : Nat → Int32) (ff : Nat → Int32) (sf : Nat → Int32) (df : Nat → Int32) (pf : Nat → Int64) (gf : Nat → Int64) (bn : Int32) (p1 : Int32) (p2 : Int64) (h : wX1_knownToAll post dk op p1 p2) : Met l yX1_knownToAll wl_X1_knownToAll rm_X1_knownToAll (va_Pc [.ref s0, .int p1, .long p2] (fun U => PP G [(s0, .inr (4, [.ref b0, .ref s1, .ref s2, .long op, .int re])), (s1, .inl (G.2 1, 384, .inr (.inl dk))), (s2, .inl (G.2 1, 40, .inr (.inl wg))), (b0, .inr (3, [.ref b1, .ref b2, .ref b3, .ref b4, .ref b5, .ref b6, .int bn])), (b1, .inl (G.2 0, 40, .inl kf)), (b2, .inl (G.2 0, 40, .inl ff)), (b3, .inl (G.2 0, 40, .inl sf)), (b4, .inl (G.2 0, 40, .inl df)), (b5, .inl (G.2 1, 40, .inr (.inl pf))), (b6, .inl (G.2 1, 6, .inr (.inl gf)))] U.heap ∧ KK G U)) (vp_Sl post) 0 0 (fun _ => False) := by
  refine Met.ofW (cc := cX1_knownToAll) (maxL := 4) (ret := (some .long)) (by decide) rfl ?_
  intro p e s m args below meth c s₁ B hml hv
  obtain ⟨rfl, hP, hKK⟩ := hv
  obtain ⟨hK, hN, hR, hFW, hNC⟩ := id hKK
  have hx := B.exec
  have hb := B.bytes
  have hr := B.returns
  have hts0 := atoms_spec (ws := wl_X1_knownToAll) B.pre
  have hts : ∀ w ∈ lwg, w.before ([.ref s0, .int p1, .long p2] : List Value).toArray s = true := fun w hw => hts0 w (List.mem_cons_of_mem _ hw)
  have hown : s.vm.findClass RX1 = some m.cls := findClass_of_methodNamed B.named
  have hlocks := B.notSynchronized
  have hP : PP G [(s0, .inr (4, [.ref b0, .ref s1, .ref s2, .long op, .int re])), (s1, .inl (G.2 1, 384, .inr (.inl dk))), (s2, .inl (G.2 1, 40, .inr (.inl wg))), (b0, .inr (3, [.ref b1, .ref b2, .ref b3, .ref b4, .ref b5, .ref b6, .int bn])), (b1, .inl (G.2 0, 40, .inl kf)), (b2, .inl (G.2 0, 40, .inl ff)), (b3, .inl (G.2 0, 40, .inl sf)), (b4, .inl (G.2 0, 40, .inl df)), (b5, .inl (G.2 1, 40, .inr (.inl pf))), (b6, .inl (G.2 1, 6, .inr (.inl gf)))] s.heap := hP
  have hl := lv_entry ([.ref s0, .int p1, .long p2]) (n := 4) (Nat.le_of_ble_eq_true rfl)
  rw [lg_entry_eq]
  generalize (lg_sl ([.ref s0, .int p1, .long p2]) ++ List.replicate (4 - (lg_sl ([.ref s0, .int p1, .long p2])).length) Slot.unset).toArray = ls at hl ⊢
  have hl : lv_has ls 4 [(0, .ref s0), (1, .int p1), (2, .long p2)] := hl
  refine lv_aload_n hx hb dX1_knownToAll_0 rfl (lv_at hl 0 rfl) ?_
  refine va_get (D := G.1) (ci := 4) (v := .long op) (C := RX1) (T := TX1) (N := 5) hx hb hts igX1 hown hK hP 0 rfl rfl 3 (by decide) (hts _ q76) (fun _ h9 => h9) rfl dX1_knownToAll_1 ?_
  refine lv_aload_n hx hb dX1_knownToAll_4 rfl (lv_at hl 0 rfl) ?_
  refine lv_iload_n hx hb dX1_knownToAll_5 rfl (lv_at hl 1 rfl) ?_
  refine lv_lload_n hx hb dX1_knownToAll_6 rfl (lv_at hl 2 rfl) ?_
  refine lv_ldc2 hx hb hown (hts _ q95) dX1_knownToAll_7 ?_
  refine lv_lxor hx hb dX1_knownToAll_10 ?_
  have hPc := hP
  refine rdL (va_runV (C := RX1) (As := [.int p1, .long (p2 ^^^ (-1 : Int64))]) (rest := [.long op]) ⟨hx, hb, hml, hown, hts⟩ (kX1_spread l G s0 s1 s2 b0 b1 b2 b3 b4 b5 b6 dk wg op re kf ff sf df pf gf bn p1 (p2 ^^^ (-1 : Int64)) h) (cwV 2 hts (gdV q143 q145 qs1 q3 q146) rfl rfl rfl (by decide +kernel) ⟨Nat.le_of_ble_eq_true rfl, Nat.le_of_ble_eq_true rfl⟩) (preV hPc hKK (va_recv hK hPc (ci := 4) (q0 := 0) rfl rfl)) rfl rfl hl.1 rfl (lv_room (Nat.le_of_ble_eq_true rfl)) dX1_knownToAll_11 ⟨Nat.zero_le _, Nat.zero_le _⟩) (fun r_1 h => ?_)
  refine lv_ldc2 hx hb hown (hts _ q95) dX1_knownToAll_14 ?_
  refine lv_lxor hx hb dX1_knownToAll_17 ?_
  refine lv_land hx hb dX1_knownToAll_18 ?_
  exact W.lret (v := (op &&& (r_1 ^^^ (-1 : Int64)))) hx hb hr (fun t ht _ => ⟨_, rfl, h, ht⟩) (fun _ hq => absurd hq List.not_mem_nil) dX1_knownToAll_19
theorem dX1_knownTogether_0 : decode cX1_knownTogether 0 = .ok (.lconst 0, 1) := by decide +kernel
theorem dX1_knownTogether_1 : decode cX1_knownTogether 1 = .ok (.lstore 4, 2) := by decide +kernel
theorem dX1_knownTogether_3 : decode cX1_knownTogether 3 = .ok (.aload_n 0, 1) := by decide +kernel
theorem dX1_knownTogether_4 : decode cX1_knownTogether 4 = .ok (.getfield 28, 3) := by decide +kernel
theorem dX1_knownTogether_7 : decode cX1_knownTogether 7 = .ok (.lstore 6, 2) := by decide +kernel
theorem dX1_knownTogether_9 : decode cX1_knownTogether 9 = .ok (.iconst 0, 1) := by decide +kernel
theorem dX1_knownTogether_10 : decode cX1_knownTogether 10 = .ok (.istore 8, 2) := by decide +kernel
theorem dX1_knownTogether_12 : decode cX1_knownTogether 12 = .ok (.iload 8, 2) := by decide +kernel
theorem dX1_knownTogether_14 : decode cX1_knownTogether 14 = .ok (.bipush 64, 2) := by decide +kernel
theorem dX1_knownTogether_16 : decode cX1_knownTogether 16 = .ok (.if_icmp .ge 55, 3) := by decide +kernel
theorem dX1_knownTogether_19 : decode cX1_knownTogether 19 = .ok (.lload 6, 2) := by decide +kernel
theorem dX1_knownTogether_21 : decode cX1_knownTogether 21 = .ok (.lconst 0, 1) := by decide +kernel
theorem dX1_knownTogether_22 : decode cX1_knownTogether 22 = .ok (.lcmp, 1) := by decide +kernel
theorem dX1_knownTogether_23 : decode cX1_knownTogether 23 = .ok (.ifCond .eq 48, 3) := by decide +kernel
theorem dX1_knownTogether_26 : decode cX1_knownTogether 26 = .ok (.aload_n 0, 1) := by decide +kernel
theorem dX1_knownTogether_27 : decode cX1_knownTogether 27 = .ok (.iload_n 1, 1) := by decide +kernel
theorem dX1_knownTogether_28 : decode cX1_knownTogether 28 = .ok (.lload 6, 2) := by decide +kernel
theorem dX1_knownTogether_30 : decode cX1_knownTogether 30 = .ok (.invokestatic 97, 3) := by decide +kernel
theorem dX1_knownTogether_33 : decode cX1_knownTogether 33 = .ok (.invokevirtual 107, 3) := by decide +kernel
theorem dX1_knownTogether_36 : decode cX1_knownTogether 36 = .ok (.lstore 9, 2) := by decide +kernel
theorem dX1_knownTogether_38 : decode cX1_knownTogether 38 = .ok (.lload 9, 2) := by decide +kernel
theorem dX1_knownTogether_40 : decode cX1_knownTogether 40 = .ok (.lload_n 2, 1) := by decide +kernel
theorem dX1_knownTogether_41 : decode cX1_knownTogether 41 = .ok (.invokestatic 110, 3) := by decide +kernel
theorem dX1_knownTogether_44 : decode cX1_knownTogether 44 = .ok (.ifCond .eq 10, 3) := by decide +kernel
theorem dX1_knownTogether_47 : decode cX1_knownTogether 47 = .ok (.lload 4, 2) := by decide +kernel
theorem dX1_knownTogether_49 : decode cX1_knownTogether 49 = .ok (.lload 9, 2) := by decide +kernel
theorem dX1_knownTogether_51 : decode cX1_knownTogether 51 = .ok (.lor, 1) := by decide +kernel
theorem dX1_knownTogether_52 : decode cX1_knownTogether 52 = .ok (.lstore 4, 2) := by decide +kernel
theorem dX1_knownTogether_54 : decode cX1_knownTogether 54 = .ok (.lload 6, 2) := by decide +kernel
theorem dX1_knownTogether_56 : decode cX1_knownTogether 56 = .ok (.lload 9, 2) := by decide +kernel
theorem dX1_knownTogether_58 : decode cX1_knownTogether 58 = .ok (.ldc2_w 26, 3) := by decide +kernel
theorem dX1_knownTogether_61 : decode cX1_knownTogether 61 = .ok (.lxor, 1) := by decide +kernel
theorem dX1_knownTogether_62 : decode cX1_knownTogether 62 = .ok (.land, 1) := by decide +kernel
theorem dX1_knownTogether_63 : decode cX1_knownTogether 63 = .ok (.lstore 6, 2) := by decide +kernel
theorem dX1_knownTogether_65 : decode cX1_knownTogether 65 = .ok (.iinc 8 1, 3) := by decide +kernel
theorem dX1_knownTogether_68 : decode cX1_knownTogether 68 = .ok (.goto (-56), 3) := by decide +kernel
theorem dX1_knownTogether_71 : decode cX1_knownTogether 71 = .ok (.lload 4, 2) := by decide +kernel
theorem dX1_knownTogether_73 : decode cX1_knownTogether 73 = .ok (.lreturn, 1) := by decide +kernel
def wX1_knownTogether_L12 (post : Int64 → Prop) (K71 : Int64 → Int64 → Int32 → Prop) (dk : Nat → Int64) (op : Int64) (p1 : Int32) (p2 : Int64) : Nat → Int64 → Int64 → Int32 → Prop
  | 0, _, _, _ => False
  | n+1, i4, i6, i8 =>
    (((64 : Int32) ≤ i8) →
      K71 i4 i6 i8
    ) ∧ (¬ ((64 : Int32) ≤ i8) →
      (((lg_cmp i6 (0 : Int64)) = 0) →
        K71 i4 i6 i8
      ) ∧ (¬ ((lg_cmp i6 (0 : Int64)) = 0) →
        wX2_smallestOf (fun r_1 : Int32 =>
          wX1_cellTogether (fun r_2 : Int64 =>
            wX2_isWithin (fun r_3 : Int32 =>
              ((r_3 = 0) →
                wX1_knownTogether_L12 post K71 dk op p1 p2 n i4 (i6 &&& (r_2 ^^^ (-1 : Int64))) (i8 + 1)
              ) ∧ (¬ (r_3 = 0) →
                wX1_knownTogether_L12 post K71 dk op p1 p2 n (i4 ||| r_2) (i6 &&& (r_2 ^^^ (-1 : Int64))) (i8 + 1)
              )
              ) r_2 p2
            ) dk op p1 r_1
          ) i6
      )
    )
def wX1_knownTogether (post : Int64 → Prop) (dk : Nat → Int64) (op : Int64) (p1 : Int32) (p2 : Int64) : Prop :=
  ∃ nF, wX1_knownTogether_L12 post
    (fun i4 i6 i8 =>
      post i4
    )
    dk op p1 p2 nF (0 : Int64) op (0 : Int32)
abbrev wl_X1_knownTogether : List Cond := .code yX1_knownTogether cX1_knownTogether 11 (some .long) :: lwg
abbrev rm_X1_knownTogether : Room := { frames := 2, cells := 0, slots := 0, locals := 48 }
set_option maxHeartbeats 4000000 in
set_option maxRecDepth 100000 in
theorem kX1_knownTogether {post : Int64 → Prop} (l : Launch) (G : GT) (s0 : Nat) (s1 : Nat) (s2 : Nat) (b0 : Nat) (b1 : Nat) (b2 : Nat) (b3 : Nat) (b4 : Nat) (b5 : Nat) (b6 : Nat) (dk : Nat → Int64) (wg : Nat → Int64) (op : Int64) (re : Int32) (kf : Nat → Int32) (ff : Nat → Int32) (sf : Nat → Int32) (df : Nat → Int32) (pf : Nat → Int64) (gf : Nat → Int64) (bn : Int32) (p1 : Int32) (p2 : Int64) (h : wX1_knownTogether post dk op p1 p2) : Met l yX1_knownTogether wl_X1_knownTogether rm_X1_knownTogether (va_Pc [.ref s0, .int p1, .long p2] (fun U => PP G [(s0, .inr (4, [.ref b0, .ref s1, .ref s2, .long op, .int re])), (s1, .inl (G.2 1, 384, .inr (.inl dk))), (s2, .inl (G.2 1, 40, .inr (.inl wg))), (b0, .inr (3, [.ref b1, .ref b2, .ref b3, .ref b4, .ref b5, .ref b6, .int bn])), (b1, .inl (G.2 0, 40, .inl kf)), (b2, .inl (G.2 0, 40, .inl ff)), (b3, .inl (G.2 0, 40, .inl sf)), (b4, .inl (G.2 0, 40, .inl df)), (b5, .inl (G.2 1, 40, .inr (.inl pf))), (b6, .inl (G.2 1, 6, .inr (.inl gf)))] U.heap ∧ KK G U)) (vp_Sl post) 0 0 (fun _ => False) := by
  refine Met.ofW (cc := cX1_knownTogether) (maxL := 11) (ret := (some .long)) (by decide) rfl ?_
  intro p e s m args below meth c s₁ B hml hv
  obtain ⟨rfl, hP, hKK⟩ := hv
  obtain ⟨hK, hN, hR, hFW, hNC⟩ := id hKK
  have hx := B.exec
  have hb := B.bytes
  have hr := B.returns
  have hts0 := atoms_spec (ws := wl_X1_knownTogether) B.pre
  have hts : ∀ w ∈ lwg, w.before ([.ref s0, .int p1, .long p2] : List Value).toArray s = true := fun w hw => hts0 w (List.mem_cons_of_mem _ hw)
  have hown : s.vm.findClass RX1 = some m.cls := findClass_of_methodNamed B.named
  have hlocks := B.notSynchronized
  have hP : PP G [(s0, .inr (4, [.ref b0, .ref s1, .ref s2, .long op, .int re])), (s1, .inl (G.2 1, 384, .inr (.inl dk))), (s2, .inl (G.2 1, 40, .inr (.inl wg))), (b0, .inr (3, [.ref b1, .ref b2, .ref b3, .ref b4, .ref b5, .ref b6, .int bn])), (b1, .inl (G.2 0, 40, .inl kf)), (b2, .inl (G.2 0, 40, .inl ff)), (b3, .inl (G.2 0, 40, .inl sf)), (b4, .inl (G.2 0, 40, .inl df)), (b5, .inl (G.2 1, 40, .inr (.inl pf))), (b6, .inl (G.2 1, 6, .inr (.inl gf)))] s.heap := hP
  have hl := lv_entry ([.ref s0, .int p1, .long p2]) (n := 11) (Nat.le_of_ble_eq_true rfl)
  rw [lg_entry_eq]
  generalize (lg_sl ([.ref s0, .int p1, .long p2]) ++ List.replicate (11 - (lg_sl ([.ref s0, .int p1, .long p2])).length) Slot.unset).toArray = ls at hl ⊢
  have hl : lv_has ls 11 [(0, .ref s0), (1, .int p1), (2, .long p2)] := hl
  have loop12 : ∀ (K71 : Int64 → Int64 → Int32 → Prop), True → (∀ (i4 : Int64) (i6 : Int64) (i8 : Int32) (ls : Array Slot), lv_has ls 11 [(0, .ref s0), (1, .int p1), (2, .long p2), (4, .long i4), (6, .long i6), (8, .int i8)] → K71 i4 i6 i8 → W p l e (headSpec (wl_X1_knownTogether) rm_X1_knownTogether).room s m ([.ref s0, .int p1, .long p2] : List Value).toArray below meth c s.heap [] 0 0 (MQ below (vp_Sl post) ([.ref s0, .int p1, .long p2] : List Value).toArray s 0 0 (fun _ => False)) (F0 m 71 ls [])) → ∀ (n : Nat) (i4 : Int64) (i6 : Int64) (i8 : Int32) (ls : Array Slot), lv_has ls 11 [(0, .ref s0), (1, .int p1), (2, .long p2), (4, .long i4), (6, .long i6), (8, .int i8)] → wX1_knownTogether_L12 post K71 dk op p1 p2 n i4 i6 i8 → W p l e (headSpec (wl_X1_knownTogether) rm_X1_knownTogether).room s m ([.ref s0, .int p1, .long p2] : List Value).toArray below meth c s.heap [] 0 0 (MQ below (vp_Sl post) ([.ref s0, .int p1, .long p2] : List Value).toArray s 0 0 (fun _ => False)) (F0 m 12 ls []) := by
    intro K71 _ hexit71 n
    induction n with
    | zero => intro i4 i6 i8 ls hl h; exact False.elim h
    | succ n ih =>
      intro i4 i6 i8 ls hl h
      refine lv_iload hx hb dX1_knownTogether_12 (lv_at hl 5 rfl) ?_
      refine lv_bipush (v := 64) hx hb dX1_knownTogether_14 (by decide) ?_
      refine lv_icmp_ge (tgt := 71) hx hb dX1_knownTogether_16 (by decide) (fun hc => ?_) (fun hc => ?_)
      · have h := h.1 hc
        have hl := lv_sub (l' := [(0, .ref s0), (1, .int p1), (2, .long p2), (4, .long i4), (6, .long i6), (8, .int i8)]) hl [0, 1, 2, 3, 4, 5] rfl
        exact hexit71 _ _ _ ls hl h
      · have h := h.2 hc
        refine lv_lload hx hb dX1_knownTogether_19 (lv_at hl 4 rfl) ?_
        refine lv_lconst (v := 0) hx hb dX1_knownTogether_21 (by decide) ?_
        refine W.lcmp hx hb dX1_knownTogether_22 ?_
        refine lv_if_eq (tgt := 71) hx hb dX1_knownTogether_23 (by decide) (fun hc => ?_) (fun hc => ?_)
        · have h := h.1 hc
          have hl := lv_sub (l' := [(0, .ref s0), (1, .int p1), (2, .long p2), (4, .long i4), (6, .long i6), (8, .int i8)]) hl [0, 1, 2, 3, 4, 5] rfl
          exact hexit71 _ _ _ ls hl h
        · have h := h.2 hc
          refine lv_aload_n hx hb dX1_knownTogether_26 rfl (lv_at hl 0 rfl) ?_
          refine lv_iload_n hx hb dX1_knownTogether_27 rfl (lv_at hl 1 rfl) ?_
          refine lv_lload hx hb dX1_knownTogether_28 (lv_at hl 4 rfl) ?_
          have hPc := va_P.sub (ws' := []) hP [] rfl
          refine rdI (va_runSN (As := [.long i6]) (rest := [.int p1, .ref s0]) ⟨hx, hb, hml, hown, hts⟩ (kX2_smallestOf l G i6 h) ⟨va_cnB 1 hts (gdC q149) rfl rfl rfl (hN _ n147) (hts _ q1) (by decide +kernel) ⟨Nat.le_of_ble_eq_true rfl, Nat.le_of_ble_eq_true rfl⟩, hts _ q148, trivial⟩ (preS hPc hKK) rfl rfl hl.1 rfl (lv_room (Nat.le_of_ble_eq_true rfl)) dX1_knownTogether_30 ⟨Nat.zero_le _, Nat.zero_le _⟩) (fun r_1 h => ?_)
          have hPc := hP
          refine rdL (va_runV (C := RX1) (As := [.int p1, .int r_1]) (rest := []) ⟨hx, hb, hml, hown, hts⟩ (kX1_cellTogether l G s0 s1 s2 b0 b1 b2 b3 b4 b5 b6 dk wg op re kf ff sf df pf gf bn p1 r_1 h) (cwV 2 hts (gdV q168 q170 qs4 q3 q171) rfl rfl rfl (by decide +kernel) ⟨Nat.le_of_ble_eq_true rfl, Nat.le_of_ble_eq_true rfl⟩) (preV hPc hKK (va_recv hK hPc (ci := 4) (q0 := 0) rfl rfl)) rfl rfl hl.1 rfl (lv_room (Nat.le_of_ble_eq_true rfl)) dX1_knownTogether_33 ⟨Nat.zero_le _, Nat.zero_le _⟩) (fun r_2 h => ?_)
          refine lv_lstore hx hb dX1_knownTogether_36 hl (Nat.le_of_ble_eq_true rfl) rfl (fun ls hl => ?_)
          have hl : lv_has ls 11 [(9, .long r_2), (0, .ref s0), (1, .int p1), (2, .long p2), (4, .long i4), (6, .long i6), (8, .int i8)] := hl
          refine lv_lload hx hb dX1_knownTogether_38 (lv_at hl 0 rfl) ?_
          refine lv_lload_n hx hb dX1_knownTogether_40 rfl (lv_at hl 3 rfl) ?_
          have hPc := va_P.sub (ws' := []) hP [] rfl
          refine rdI (va_runSN (As := [.long r_2, .long p2]) (rest := []) ⟨hx, hb, hml, hown, hts⟩ (kX2_isWithin l G r_2 p2 h) ⟨va_cnB 2 hts (gdC q174) rfl rfl rfl (hN _ n172) (hts _ q1) (by decide +kernel) ⟨Nat.le_of_ble_eq_true rfl, Nat.le_of_ble_eq_true rfl⟩, hts _ q173, trivial⟩ (preS hPc hKK) rfl rfl hl.1 rfl (lv_room (Nat.le_of_ble_eq_true rfl)) dX1_knownTogether_41 ⟨Nat.zero_le _, Nat.zero_le _⟩) (fun r_3 h => ?_)
          refine lv_if_eq (tgt := 54) hx hb dX1_knownTogether_44 (by decide) (fun hc => ?_) (fun hc => ?_)
          · have h := h.1 hc
            refine lv_lload hx hb dX1_knownTogether_54 (lv_at hl 5 rfl) ?_
            refine lv_lload hx hb dX1_knownTogether_56 (lv_at hl 0 rfl) ?_
            refine lv_ldc2 hx hb hown (hts _ q95) dX1_knownTogether_58 ?_
            refine lv_lxor hx hb dX1_knownTogether_61 ?_
            refine lv_land hx hb dX1_knownTogether_62 ?_
            refine lv_lstore hx hb dX1_knownTogether_63 hl (Nat.le_of_ble_eq_true rfl) rfl (fun ls hl => ?_)
            have hl : lv_has ls 11 [(6, .long (i6 &&& (r_2 ^^^ (-1 : Int64)))), (9, .long r_2), (0, .ref s0), (1, .int p1), (2, .long p2), (4, .long i4), (8, .int i8)] := hl
            refine lv_iinc (v := (i8 + 1)) hx hb dX1_knownTogether_65 hl (k := 6) rfl (by rw [show Int32.ofInt 1 = 1 from by decide]) (Nat.le_of_ble_eq_true rfl) rfl (fun ls hl => ?_)
            have hl : lv_has ls 11 [(8, .int (i8 + 1)), (6, .long (i6 &&& (r_2 ^^^ (-1 : Int64)))), (9, .long r_2), (0, .ref s0), (1, .int p1), (2, .long p2), (4, .long i4)] := hl
            refine lv_goto (tgt := 12) hx hb dX1_knownTogether_68 (by decide) ?_
            have hl := lv_sub (l' := [(0, .ref s0), (1, .int p1), (2, .long p2), (4, .long i4), (6, .long (i6 &&& (r_2 ^^^ (-1 : Int64)))), (8, .int (i8 + 1))]) hl [3, 4, 5, 6, 1, 0] rfl
            exact ih _ _ _ ls hl h
          · have h := h.2 hc
            refine lv_lload hx hb dX1_knownTogether_47 (lv_at hl 4 rfl) ?_
            refine lv_lload hx hb dX1_knownTogether_49 (lv_at hl 0 rfl) ?_
            refine lv_lor hx hb dX1_knownTogether_51 ?_
            refine lv_lstore hx hb dX1_knownTogether_52 hl (Nat.le_of_ble_eq_true rfl) rfl (fun ls hl => ?_)
            have hl : lv_has ls 11 [(4, .long (i4 ||| r_2)), (9, .long r_2), (0, .ref s0), (1, .int p1), (2, .long p2), (6, .long i6), (8, .int i8)] := hl
            refine lv_lload hx hb dX1_knownTogether_54 (lv_at hl 5 rfl) ?_
            refine lv_lload hx hb dX1_knownTogether_56 (lv_at hl 1 rfl) ?_
            refine lv_ldc2 hx hb hown (hts _ q95) dX1_knownTogether_58 ?_
            refine lv_lxor hx hb dX1_knownTogether_61 ?_
            refine lv_land hx hb dX1_knownTogether_62 ?_
            refine lv_lstore hx hb dX1_knownTogether_63 hl (Nat.le_of_ble_eq_true rfl) rfl (fun ls hl => ?_)
            have hl : lv_has ls 11 [(6, .long (i6 &&& (r_2 ^^^ (-1 : Int64)))), (4, .long (i4 ||| r_2)), (9, .long r_2), (0, .ref s0), (1, .int p1), (2, .long p2), (8, .int i8)] := hl
            refine lv_iinc (v := (i8 + 1)) hx hb dX1_knownTogether_65 hl (k := 6) rfl (by rw [show Int32.ofInt 1 = 1 from by decide]) (Nat.le_of_ble_eq_true rfl) rfl (fun ls hl => ?_)
            have hl : lv_has ls 11 [(8, .int (i8 + 1)), (6, .long (i6 &&& (r_2 ^^^ (-1 : Int64)))), (4, .long (i4 ||| r_2)), (9, .long r_2), (0, .ref s0), (1, .int p1), (2, .long p2)] := hl
            refine lv_goto (tgt := 12) hx hb dX1_knownTogether_68 (by decide) ?_
            have hl := lv_sub (l' := [(0, .ref s0), (1, .int p1), (2, .long p2), (4, .long (i4 ||| r_2)), (6, .long (i6 &&& (r_2 ^^^ (-1 : Int64)))), (8, .int (i8 + 1))]) hl [4, 5, 6, 2, 1, 0] rfl
            exact ih _ _ _ ls hl h
  refine lv_lconst (v := 0) hx hb dX1_knownTogether_0 (by decide) ?_
  refine lv_lstore hx hb dX1_knownTogether_1 hl (Nat.le_of_ble_eq_true rfl) rfl (fun ls hl => ?_)
  have hl : lv_has ls 11 [(4, .long (0 : Int64)), (0, .ref s0), (1, .int p1), (2, .long p2)] := hl
  refine lv_aload_n hx hb dX1_knownTogether_3 rfl (lv_at hl 1 rfl) ?_
  refine va_get (D := G.1) (ci := 4) (v := .long op) (C := RX1) (T := TX1) (N := 5) hx hb hts igX1 hown hK hP 0 rfl rfl 3 (by decide) (hts _ q76) (fun _ h9 => h9) rfl dX1_knownTogether_4 ?_
  refine lv_lstore hx hb dX1_knownTogether_7 hl (Nat.le_of_ble_eq_true rfl) rfl (fun ls hl => ?_)
  have hl : lv_has ls 11 [(6, .long op), (4, .long (0 : Int64)), (0, .ref s0), (1, .int p1), (2, .long p2)] := hl
  refine lv_iconst (v := 0) hx hb dX1_knownTogether_9 (by decide) ?_
  refine lv_istore hx hb dX1_knownTogether_10 hl (Nat.le_of_ble_eq_true rfl) rfl (fun ls hl => ?_)
  have hl : lv_has ls 11 [(8, .int (0 : Int32)), (6, .long op), (4, .long (0 : Int64)), (0, .ref s0), (1, .int p1), (2, .long p2)] := hl
  have hl := lv_sub (l' := [(0, .ref s0), (1, .int p1), (2, .long p2), (4, .long (0 : Int64)), (6, .long op), (8, .int (0 : Int32))]) hl [3, 4, 5, 2, 1, 0] rfl
  obtain ⟨nF, h⟩ := h
  refine loop12 _ trivial ?_ nF (0 : Int64) op (0 : Int32) _ hl h
  · intro i4 i6 i8 ls hl h
    refine lv_lload hx hb dX1_knownTogether_71 (lv_at hl 3 rfl) ?_
    exact W.lret (v := i4) hx hb hr (fun t ht _ => ⟨_, rfl, h, ht⟩) (fun _ hq => absurd hq List.not_mem_nil) dX1_knownTogether_73
theorem dX1_knows_0 : decode cX1_knows 0 = .ok (.aload_n 0, 1) := by decide +kernel
theorem dX1_knows_1 : decode cX1_knows 1 = .ok (.iload_n 1, 1) := by decide +kernel
theorem dX1_knows_2 : decode cX1_knows 2 = .ok (.aload_n 0, 1) := by decide +kernel
theorem dX1_knows_3 : decode cX1_knows 3 = .ok (.getfield 22, 3) := by decide +kernel
theorem dX1_knows_6 : decode cX1_knows 6 = .ok (.invokevirtual 93, 3) := by decide +kernel
theorem dX1_knows_9 : decode cX1_knows 9 = .ok (.aload_n 0, 1) := by decide +kernel
theorem dX1_knows_10 : decode cX1_knows 10 = .ok (.iload_n 2, 1) := by decide +kernel
theorem dX1_knows_11 : decode cX1_knows 11 = .ok (.invokevirtual 77, 3) := by decide +kernel
theorem dX1_knows_14 : decode cX1_knows 14 = .ok (.invokestatic 110, 3) := by decide +kernel
theorem dX1_knows_17 : decode cX1_knows 17 = .ok (.ireturn, 1) := by decide +kernel
def wX1_knows (post : Int32 → Prop) (dk : Nat → Int64) (wg : Nat → Int64) (op : Int64) (re : Int32) (bn : Int32) (p1 : Int32) (p2 : Int32) : Prop :=
  wX1_cell (fun r_1 : Int64 =>
    wX1_worldsOf (fun r_2 : Int64 =>
      wX2_isWithin (fun r_3 : Int32 =>
        vZ r_3 ∧
        post r_3
        ) r_1 r_2
      ) wg bn p2
    ) dk op p1 re
abbrev wl_X1_knows : List Cond := .code yX1_knows cX1_knows 3 (some .boolean) :: lwg
abbrev rm_X1_knows : Room := { frames := 2, cells := 0, slots := 0, locals := 42 }
set_option maxHeartbeats 4000000 in
set_option maxRecDepth 100000 in
theorem kX1_knows {post : Int32 → Prop} (l : Launch) (G : GT) (s0 : Nat) (s1 : Nat) (s2 : Nat) (b0 : Nat) (b1 : Nat) (b2 : Nat) (b3 : Nat) (b4 : Nat) (b5 : Nat) (b6 : Nat) (dk : Nat → Int64) (wg : Nat → Int64) (op : Int64) (re : Int32) (kf : Nat → Int32) (ff : Nat → Int32) (sf : Nat → Int32) (df : Nat → Int32) (pf : Nat → Int64) (gf : Nat → Int64) (bn : Int32) (p1 : Int32) (p2 : Int32) (h : wX1_knows post dk wg op re bn p1 p2) : Met l yX1_knows wl_X1_knows rm_X1_knows (va_Pc [.ref s0, .int p1, .int p2] (fun U => PP G [(s0, .inr (4, [.ref b0, .ref s1, .ref s2, .long op, .int re])), (s1, .inl (G.2 1, 384, .inr (.inl dk))), (s2, .inl (G.2 1, 40, .inr (.inl wg))), (b0, .inr (3, [.ref b1, .ref b2, .ref b3, .ref b4, .ref b5, .ref b6, .int bn])), (b1, .inl (G.2 0, 40, .inl kf)), (b2, .inl (G.2 0, 40, .inl ff)), (b3, .inl (G.2 0, 40, .inl sf)), (b4, .inl (G.2 0, 40, .inl df)), (b5, .inl (G.2 1, 40, .inr (.inl pf))), (b6, .inl (G.2 1, 6, .inr (.inl gf)))] U.heap ∧ KK G U)) (vp_Si post) 0 0 (fun _ => False) := by
  refine Met.ofW (cc := cX1_knows) (maxL := 3) (ret := (some .boolean)) (by decide) rfl ?_
  intro p e s m args below meth c s₁ B hml hv
  obtain ⟨rfl, hP, hKK⟩ := hv
  obtain ⟨hK, hN, hR, hFW, hNC⟩ := id hKK
  have hx := B.exec
  have hb := B.bytes
  have hr := B.returns
  have hts0 := atoms_spec (ws := wl_X1_knows) B.pre
  have hts : ∀ w ∈ lwg, w.before ([.ref s0, .int p1, .int p2] : List Value).toArray s = true := fun w hw => hts0 w (List.mem_cons_of_mem _ hw)
  have hown : s.vm.findClass RX1 = some m.cls := findClass_of_methodNamed B.named
  have hlocks := B.notSynchronized
  have hP : PP G [(s0, .inr (4, [.ref b0, .ref s1, .ref s2, .long op, .int re])), (s1, .inl (G.2 1, 384, .inr (.inl dk))), (s2, .inl (G.2 1, 40, .inr (.inl wg))), (b0, .inr (3, [.ref b1, .ref b2, .ref b3, .ref b4, .ref b5, .ref b6, .int bn])), (b1, .inl (G.2 0, 40, .inl kf)), (b2, .inl (G.2 0, 40, .inl ff)), (b3, .inl (G.2 0, 40, .inl sf)), (b4, .inl (G.2 0, 40, .inl df)), (b5, .inl (G.2 1, 40, .inr (.inl pf))), (b6, .inl (G.2 1, 6, .inr (.inl gf)))] s.heap := hP
  have hl := lv_entry ([.ref s0, .int p1, .int p2]) (n := 3) (Nat.le_of_ble_eq_true rfl)
  rw [lg_entry_eq]
  generalize (lg_sl ([.ref s0, .int p1, .int p2]) ++ List.replicate (3 - (lg_sl ([.ref s0, .int p1, .int p2])).length) Slot.unset).toArray = ls at hl ⊢
  have hl : lv_has ls 3 [(0, .ref s0), (1, .int p1), (2, .int p2)] := hl
  refine lv_aload_n hx hb dX1_knows_0 rfl (lv_at hl 0 rfl) ?_
  refine lv_iload_n hx hb dX1_knows_1 rfl (lv_at hl 1 rfl) ?_
  refine lv_aload_n hx hb dX1_knows_2 rfl (lv_at hl 0 rfl) ?_
  refine va_get (D := G.1) (ci := 4) (v := .int re) (C := RX1) (T := TX1) (N := 5) hx hb hts igX1 hown hK hP 0 rfl rfl 4 (by decide) (hts _ q78) (fun _ h9 => h9) rfl dX1_knows_3 ?_
  have hPc := hP
  refine rdL (va_runV (C := RX1) (As := [.int p1, .int re]) (rest := []) ⟨hx, hb, hml, hown, hts⟩ (kX1_cell l G s0 s1 s2 b0 b1 b2 b3 b4 b5 b6 dk wg op re kf ff sf df pf gf bn p1 re h) (cwV 2 hts (gdV q156 q157 q158 q3 q159) rfl rfl rfl (by decide +kernel) ⟨Nat.le_of_ble_eq_true rfl, Nat.le_of_ble_eq_true rfl⟩) (preV hPc hKK (va_recv hK hPc (ci := 4) (q0 := 0) rfl rfl)) rfl rfl hl.1 rfl (lv_room (Nat.le_of_ble_eq_true rfl)) dX1_knows_6 ⟨Nat.zero_le _, Nat.zero_le _⟩) (fun r_1 h => ?_)
  refine lv_aload_n hx hb dX1_knows_9 rfl (lv_at hl 0 rfl) ?_
  refine lv_iload_n hx hb dX1_knows_10 rfl (lv_at hl 2 rfl) ?_
  have hPc := hP
  refine rdL (va_runV (C := RX1) (As := [.int p2]) (rest := [.long r_1]) ⟨hx, hb, hml, hown, hts⟩ (kX1_worldsOf l G s0 s1 s2 b0 b1 b2 b3 b4 b5 b6 dk wg op re kf ff sf df pf gf bn p2 h) (cwV 1 hts (gdV q134 q135 q136 q3 q137) rfl rfl rfl (by decide +kernel) ⟨Nat.le_of_ble_eq_true rfl, Nat.le_of_ble_eq_true rfl⟩) (preV hPc hKK (va_recv hK hPc (ci := 4) (q0 := 0) rfl rfl)) rfl rfl hl.1 rfl (lv_room (Nat.le_of_ble_eq_true rfl)) dX1_knows_11 ⟨Nat.zero_le _, Nat.zero_le _⟩) (fun r_2 h => ?_)
  have hPc := va_P.sub (ws' := []) hP [] rfl
  refine rdI (va_runSN (As := [.long r_1, .long r_2]) (rest := []) ⟨hx, hb, hml, hown, hts⟩ (kX2_isWithin l G r_1 r_2 h) ⟨va_cnB 2 hts (gdC q174) rfl rfl rfl (hN _ n172) (hts _ q1) (by decide +kernel) ⟨Nat.le_of_ble_eq_true rfl, Nat.le_of_ble_eq_true rfl⟩, hts _ q173, trivial⟩ (preS hPc hKK) rfl rfl hl.1 rfl (lv_room (Nat.le_of_ble_eq_true rfl)) dX1_knows_14 ⟨Nat.zero_le _, Nat.zero_le _⟩) (fun r_3 h => ?_)
  obtain ⟨hz, h⟩ := h
  exact W.zret (v := r_3) hx hb hr (vZn hz) (fun t ht _ => ⟨_, rfl, h, ht⟩) (fun _ hq => absurd hq List.not_mem_nil) dX1_knows_17
theorem dX1_knowersOf_0 : decode cX1_knowersOf 0 = .ok (.iconst 0, 1) := by decide +kernel
theorem dX1_knowersOf_1 : decode cX1_knowersOf 1 = .ok (.istore_n 2, 1) := by decide +kernel
theorem dX1_knowersOf_2 : decode cX1_knowersOf 2 = .ok (.iconst 0, 1) := by decide +kernel
theorem dX1_knowersOf_3 : decode cX1_knowersOf 3 = .ok (.istore_n 3, 1) := by decide +kernel
theorem dX1_knowersOf_4 : decode cX1_knowersOf 4 = .ok (.iload_n 3, 1) := by decide +kernel
theorem dX1_knowersOf_5 : decode cX1_knowersOf 5 = .ok (.bipush 6, 2) := by decide +kernel
theorem dX1_knowersOf_7 : decode cX1_knowersOf 7 = .ok (.if_icmp .ge 24, 3) := by decide +kernel
theorem dX1_knowersOf_10 : decode cX1_knowersOf 10 = .ok (.aload_n 0, 1) := by decide +kernel
theorem dX1_knowersOf_11 : decode cX1_knowersOf 11 = .ok (.iload_n 3, 1) := by decide +kernel
theorem dX1_knowersOf_12 : decode cX1_knowersOf 12 = .ok (.iload_n 1, 1) := by decide +kernel
theorem dX1_knowersOf_13 : decode cX1_knowersOf 13 = .ok (.invokevirtual 114, 3) := by decide +kernel
theorem dX1_knowersOf_16 : decode cX1_knowersOf 16 = .ok (.ifCond .eq 9, 3) := by decide +kernel
theorem dX1_knowersOf_19 : decode cX1_knowersOf 19 = .ok (.iload_n 2, 1) := by decide +kernel
theorem dX1_knowersOf_20 : decode cX1_knowersOf 20 = .ok (.iconst 1, 1) := by decide +kernel
theorem dX1_knowersOf_21 : decode cX1_knowersOf 21 = .ok (.iload_n 3, 1) := by decide +kernel
theorem dX1_knowersOf_22 : decode cX1_knowersOf 22 = .ok (.ishl, 1) := by decide +kernel
theorem dX1_knowersOf_23 : decode cX1_knowersOf 23 = .ok (.ior, 1) := by decide +kernel
theorem dX1_knowersOf_24 : decode cX1_knowersOf 24 = .ok (.istore_n 2, 1) := by decide +kernel
theorem dX1_knowersOf_25 : decode cX1_knowersOf 25 = .ok (.iinc 3 1, 3) := by decide +kernel
theorem dX1_knowersOf_28 : decode cX1_knowersOf 28 = .ok (.goto (-24), 3) := by decide +kernel
theorem dX1_knowersOf_31 : decode cX1_knowersOf 31 = .ok (.iload_n 2, 1) := by decide +kernel
theorem dX1_knowersOf_32 : decode cX1_knowersOf 32 = .ok (.ireturn, 1) := by decide +kernel
def wX1_knowersOf_L4 (post : Int32 → Prop) (K31 : Int32 → Int32 → Prop) (dk : Nat → Int64) (wg : Nat → Int64) (op : Int64) (re : Int32) (bn : Int32) (p1 : Int32) : Nat → Int32 → Int32 → Prop
  | 0, _, _ => False
  | n+1, i2, i3 =>
    (((6 : Int32) ≤ i3) →
      K31 i2 i3
    ) ∧ (¬ ((6 : Int32) ≤ i3) →
      wX1_knows (fun r_1 : Int32 =>
        ((r_1 = 0) →
          wX1_knowersOf_L4 post K31 dk wg op re bn p1 n i2 (i3 + 1)
        ) ∧ (¬ (r_1 = 0) →
          wX1_knowersOf_L4 post K31 dk wg op re bn p1 n (i2 ||| ((1 : Int32) <<< (i3 &&& 31))) (i3 + 1)
        )
        ) dk wg op re bn i3 p1
    )
def wX1_knowersOf (post : Int32 → Prop) (dk : Nat → Int64) (wg : Nat → Int64) (op : Int64) (re : Int32) (bn : Int32) (p1 : Int32) : Prop :=
  ∃ nF, wX1_knowersOf_L4 post
    (fun i2 i3 =>
      post i2
    )
    dk wg op re bn p1 nF (0 : Int32) (0 : Int32)
abbrev wl_X1_knowersOf : List Cond := .code yX1_knowersOf cX1_knowersOf 4 (some .int) :: lwg
abbrev rm_X1_knowersOf : Room := { frames := 3, cells := 0, slots := 0, locals := 64 }
set_option maxHeartbeats 4000000 in
set_option maxRecDepth 100000 in
theorem kX1_knowersOf {post : Int32 → Prop} (l : Launch) (G : GT) (s0 : Nat) (s1 : Nat) (s2 : Nat) (b0 : Nat) (b1 : Nat) (b2 : Nat) (b3 : Nat) (b4 : Nat) (b5 : Nat) (b6 : Nat) (dk : Nat → Int64) (wg : Nat → Int64) (op : Int64) (re : Int32) (kf : Nat → Int32) (ff : Nat → Int32) (sf : Nat → Int32) (df : Nat → Int32) (pf : Nat → Int64) (gf : Nat → Int64) (bn : Int32) (p1 : Int32) (h : wX1_knowersOf post dk wg op re bn p1) : Met l yX1_knowersOf wl_X1_knowersOf rm_X1_knowersOf (va_Pc [.ref s0, .int p1] (fun U => PP G [(s0, .inr (4, [.ref b0, .ref s1, .ref s2, .long op, .int re])), (s1, .inl (G.2 1, 384, .inr (.inl dk))), (s2, .inl (G.2 1, 40, .inr (.inl wg))), (b0, .inr (3, [.ref b1, .ref b2, .ref b3, .ref b4, .ref b5, .ref b6, .int bn])), (b1, .inl (G.2 0, 40, .inl kf)), (b2, .inl (G.2 0, 40, .inl ff)), (b3, .inl (G.2 0, 40, .inl sf)), (b4, .inl (G.2 0, 40, .inl df)), (b5, .inl (G.2 1, 40, .inr (.inl pf))), (b6, .inl (G.2 1, 6, .inr (.inl gf)))] U.heap ∧ KK G U)) (vp_Si post) 0 0 (fun _ => False) := by
  refine Met.ofW (cc := cX1_knowersOf) (maxL := 4) (ret := (some .int)) (by decide) rfl ?_
  intro p e s m args below meth c s₁ B hml hv
  obtain ⟨rfl, hP, hKK⟩ := hv
  obtain ⟨hK, hN, hR, hFW, hNC⟩ := id hKK
  have hx := B.exec
  have hb := B.bytes
  have hr := B.returns
  have hts0 := atoms_spec (ws := wl_X1_knowersOf) B.pre
  have hts : ∀ w ∈ lwg, w.before ([.ref s0, .int p1] : List Value).toArray s = true := fun w hw => hts0 w (List.mem_cons_of_mem _ hw)
  have hown : s.vm.findClass RX1 = some m.cls := findClass_of_methodNamed B.named
  have hlocks := B.notSynchronized
  have hP : PP G [(s0, .inr (4, [.ref b0, .ref s1, .ref s2, .long op, .int re])), (s1, .inl (G.2 1, 384, .inr (.inl dk))), (s2, .inl (G.2 1, 40, .inr (.inl wg))), (b0, .inr (3, [.ref b1, .ref b2, .ref b3, .ref b4, .ref b5, .ref b6, .int bn])), (b1, .inl (G.2 0, 40, .inl kf)), (b2, .inl (G.2 0, 40, .inl ff)), (b3, .inl (G.2 0, 40, .inl sf)), (b4, .inl (G.2 0, 40, .inl df)), (b5, .inl (G.2 1, 40, .inr (.inl pf))), (b6, .inl (G.2 1, 6, .inr (.inl gf)))] s.heap := hP
  have hl := lv_entry ([.ref s0, .int p1]) (n := 4) (Nat.le_of_ble_eq_true rfl)
  rw [lg_entry_eq]
  generalize (lg_sl ([.ref s0, .int p1]) ++ List.replicate (4 - (lg_sl ([.ref s0, .int p1])).length) Slot.unset).toArray = ls at hl ⊢
  have hl : lv_has ls 4 [(0, .ref s0), (1, .int p1)] := hl
  have loop4 : ∀ (K31 : Int32 → Int32 → Prop), True → (∀ (i2 : Int32) (i3 : Int32) (ls : Array Slot), lv_has ls 4 [(0, .ref s0), (1, .int p1), (2, .int i2), (3, .int i3)] → K31 i2 i3 → W p l e (headSpec (wl_X1_knowersOf) rm_X1_knowersOf).room s m ([.ref s0, .int p1] : List Value).toArray below meth c s.heap [] 0 0 (MQ below (vp_Si post) ([.ref s0, .int p1] : List Value).toArray s 0 0 (fun _ => False)) (F0 m 31 ls [])) → ∀ (n : Nat) (i2 : Int32) (i3 : Int32) (ls : Array Slot), lv_has ls 4 [(0, .ref s0), (1, .int p1), (2, .int i2), (3, .int i3)] → wX1_knowersOf_L4 post K31 dk wg op re bn p1 n i2 i3 → W p l e (headSpec (wl_X1_knowersOf) rm_X1_knowersOf).room s m ([.ref s0, .int p1] : List Value).toArray below meth c s.heap [] 0 0 (MQ below (vp_Si post) ([.ref s0, .int p1] : List Value).toArray s 0 0 (fun _ => False)) (F0 m 4 ls []) := by
    intro K31 _ hexit31 n
    induction n with
    | zero => intro i2 i3 ls hl h; exact False.elim h
    | succ n ih =>
      intro i2 i3 ls hl h
      refine lv_iload_n hx hb dX1_knowersOf_4 rfl (lv_at hl 3 rfl) ?_
      refine lv_bipush (v := 6) hx hb dX1_knowersOf_5 (by decide) ?_
      refine lv_icmp_ge (tgt := 31) hx hb dX1_knowersOf_7 (by decide) (fun hc => ?_) (fun hc => ?_)
      · have h := h.1 hc
        have hl := lv_sub (l' := [(0, .ref s0), (1, .int p1), (2, .int i2), (3, .int i3)]) hl [0, 1, 2, 3] rfl
        exact hexit31 _ _ ls hl h
      · have h := h.2 hc
        refine lv_aload_n hx hb dX1_knowersOf_10 rfl (lv_at hl 0 rfl) ?_
        refine lv_iload_n hx hb dX1_knowersOf_11 rfl (lv_at hl 3 rfl) ?_
        refine lv_iload_n hx hb dX1_knowersOf_12 rfl (lv_at hl 1 rfl) ?_
        have hPc := hP
        refine rdI (va_runV (C := RX1) (As := [.int i3, .int p1]) (rest := []) ⟨hx, hb, hml, hown, hts⟩ (kX1_knows l G s0 s1 s2 b0 b1 b2 b3 b4 b5 b6 dk wg op re kf ff sf df pf gf bn i3 p1 h) (cwV 2 hts (gdV q235 q236 q237 q3 q238) rfl rfl rfl (by decide +kernel) ⟨Nat.le_of_ble_eq_true rfl, Nat.le_of_ble_eq_true rfl⟩) (preV hPc hKK (va_recv hK hPc (ci := 4) (q0 := 0) rfl rfl)) rfl rfl hl.1 rfl (lv_room (Nat.le_of_ble_eq_true rfl)) dX1_knowersOf_13 ⟨Nat.zero_le _, Nat.zero_le _⟩) (fun r_1 h => ?_)
        refine lv_if_eq (tgt := 25) hx hb dX1_knowersOf_16 (by decide) (fun hc => ?_) (fun hc => ?_)
        · have h := h.1 hc
          refine lv_iinc (v := (i3 + 1)) hx hb dX1_knowersOf_25 hl (k := 3) rfl (by rw [show Int32.ofInt 1 = 1 from by decide]) (Nat.le_of_ble_eq_true rfl) rfl (fun ls hl => ?_)
          have hl : lv_has ls 4 [(3, .int (i3 + 1)), (0, .ref s0), (1, .int p1), (2, .int i2)] := hl
          refine lv_goto (tgt := 4) hx hb dX1_knowersOf_28 (by decide) ?_
          have hl := lv_sub (l' := [(0, .ref s0), (1, .int p1), (2, .int i2), (3, .int (i3 + 1))]) hl [1, 2, 3, 0] rfl
          exact ih _ _ ls hl h
        · have h := h.2 hc
          refine lv_iload_n hx hb dX1_knowersOf_19 rfl (lv_at hl 2 rfl) ?_
          refine lv_iconst (v := 1) hx hb dX1_knowersOf_20 (by decide) ?_
          refine lv_iload_n hx hb dX1_knowersOf_21 rfl (lv_at hl 3 rfl) ?_
          refine lv_ishl hx hb dX1_knowersOf_22 ?_
          refine lv_ior hx hb dX1_knowersOf_23 ?_
          refine lv_istore_n hx hb dX1_knowersOf_24 rfl hl (Nat.le_of_ble_eq_true rfl) rfl (fun ls hl => ?_)
          have hl : lv_has ls 4 [(2, .int (i2 ||| ((1 : Int32) <<< (i3 &&& 31)))), (0, .ref s0), (1, .int p1), (3, .int i3)] := hl
          refine lv_iinc (v := (i3 + 1)) hx hb dX1_knowersOf_25 hl (k := 3) rfl (by rw [show Int32.ofInt 1 = 1 from by decide]) (Nat.le_of_ble_eq_true rfl) rfl (fun ls hl => ?_)
          have hl : lv_has ls 4 [(3, .int (i3 + 1)), (2, .int (i2 ||| ((1 : Int32) <<< (i3 &&& 31)))), (0, .ref s0), (1, .int p1)] := hl
          refine lv_goto (tgt := 4) hx hb dX1_knowersOf_28 (by decide) ?_
          have hl := lv_sub (l' := [(0, .ref s0), (1, .int p1), (2, .int (i2 ||| ((1 : Int32) <<< (i3 &&& 31)))), (3, .int (i3 + 1))]) hl [2, 3, 1, 0] rfl
          exact ih _ _ ls hl h
  refine lv_iconst (v := 0) hx hb dX1_knowersOf_0 (by decide) ?_
  refine lv_istore_n hx hb dX1_knowersOf_1 rfl hl (Nat.le_of_ble_eq_true rfl) rfl (fun ls hl => ?_)
  have hl : lv_has ls 4 [(2, .int (0 : Int32)), (0, .ref s0), (1, .int p1)] := hl
  refine lv_iconst (v := 0) hx hb dX1_knowersOf_2 (by decide) ?_
  refine lv_istore_n hx hb dX1_knowersOf_3 rfl hl (Nat.le_of_ble_eq_true rfl) rfl (fun ls hl => ?_)
  have hl : lv_has ls 4 [(3, .int (0 : Int32)), (2, .int (0 : Int32)), (0, .ref s0), (1, .int p1)] := hl
  have hl := lv_sub (l' := [(0, .ref s0), (1, .int p1), (2, .int (0 : Int32)), (3, .int (0 : Int32))]) hl [2, 3, 1, 0] rfl
  obtain ⟨nF, h⟩ := h
  refine loop4 _ trivial ?_ nF (0 : Int32) (0 : Int32) _ hl h
  · intro i2 i3 ls hl h
    refine lv_iload_n hx hb dX1_knowersOf_31 rfl (lv_at hl 2 rfl) ?_
    exact W.iret (v := i2) hx hb hr (fun t ht _ => ⟨_, rfl, h, ht⟩) (fun _ hq => absurd hq List.not_mem_nil) dX1_knowersOf_32
theorem dX1_answeringAlike_0 : decode cX1_answeringAlike 0 = .ok (.aload_n 0, 1) := by decide +kernel
theorem dX1_answeringAlike_1 : decode cX1_answeringAlike 1 = .ok (.getfield 28, 3) := by decide +kernel
theorem dX1_answeringAlike_4 : decode cX1_answeringAlike 4 = .ok (.lstore_n 3, 1) := by decide +kernel
theorem dX1_answeringAlike_5 : decode cX1_answeringAlike 5 = .ok (.iconst 0, 1) := by decide +kernel
theorem dX1_answeringAlike_6 : decode cX1_answeringAlike 6 = .ok (.istore 5, 2) := by decide +kernel
theorem dX1_answeringAlike_8 : decode cX1_answeringAlike 8 = .ok (.iload 5, 2) := by decide +kernel
theorem dX1_answeringAlike_10 : decode cX1_answeringAlike 10 = .ok (.bipush 6, 2) := by decide +kernel
theorem dX1_answeringAlike_12 : decode cX1_answeringAlike 12 = .ok (.if_icmp .ge 60, 3) := by decide +kernel
theorem dX1_answeringAlike_15 : decode cX1_answeringAlike 15 = .ok (.iload_n 1, 1) := by decide +kernel
theorem dX1_answeringAlike_16 : decode cX1_answeringAlike 16 = .ok (.i2l, 1) := by decide +kernel
theorem dX1_answeringAlike_17 : decode cX1_answeringAlike 17 = .ok (.iload 5, 2) := by decide +kernel
theorem dX1_answeringAlike_19 : decode cX1_answeringAlike 19 = .ok (.invokestatic 52, 3) := by decide +kernel
theorem dX1_answeringAlike_22 : decode cX1_answeringAlike 22 = .ok (.ifCond .eq 44, 3) := by decide +kernel
theorem dX1_answeringAlike_25 : decode cX1_answeringAlike 25 = .ok (.aload_n 0, 1) := by decide +kernel
theorem dX1_answeringAlike_26 : decode cX1_answeringAlike 26 = .ok (.iconst 1, 1) := by decide +kernel
theorem dX1_answeringAlike_27 : decode cX1_answeringAlike 27 = .ok (.iload 5, 2) := by decide +kernel
theorem dX1_answeringAlike_29 : decode cX1_answeringAlike 29 = .ok (.ishl, 1) := by decide +kernel
theorem dX1_answeringAlike_30 : decode cX1_answeringAlike 30 = .ok (.aload_n 0, 1) := by decide +kernel
theorem dX1_answeringAlike_31 : decode cX1_answeringAlike 31 = .ok (.iload_n 2, 1) := by decide +kernel
theorem dX1_answeringAlike_32 : decode cX1_answeringAlike 32 = .ok (.invokevirtual 77, 3) := by decide +kernel
theorem dX1_answeringAlike_35 : decode cX1_answeringAlike 35 = .ok (.invokevirtual 80, 3) := by decide +kernel
theorem dX1_answeringAlike_38 : decode cX1_answeringAlike 38 = .ok (.lstore 6, 2) := by decide +kernel
theorem dX1_answeringAlike_40 : decode cX1_answeringAlike 40 = .ok (.lload_n 3, 1) := by decide +kernel
theorem dX1_answeringAlike_41 : decode cX1_answeringAlike 41 = .ok (.lload 6, 2) := by decide +kernel
theorem dX1_answeringAlike_43 : decode cX1_answeringAlike 43 = .ok (.aload_n 0, 1) := by decide +kernel
theorem dX1_answeringAlike_44 : decode cX1_answeringAlike 44 = .ok (.getfield 22, 3) := by decide +kernel
theorem dX1_answeringAlike_47 : decode cX1_answeringAlike 47 = .ok (.invokestatic 52, 3) := by decide +kernel
theorem dX1_answeringAlike_50 : decode cX1_answeringAlike 50 = .ok (.ifCond .eq 8, 3) := by decide +kernel
theorem dX1_answeringAlike_53 : decode cX1_answeringAlike 53 = .ok (.lload 6, 2) := by decide +kernel
theorem dX1_answeringAlike_55 : decode cX1_answeringAlike 55 = .ok (.goto 9, 3) := by decide +kernel
theorem dX1_answeringAlike_58 : decode cX1_answeringAlike 58 = .ok (.lload 6, 2) := by decide +kernel
theorem dX1_answeringAlike_60 : decode cX1_answeringAlike 60 = .ok (.ldc2_w 26, 3) := by decide +kernel
theorem dX1_answeringAlike_63 : decode cX1_answeringAlike 63 = .ok (.lxor, 1) := by decide +kernel
theorem dX1_answeringAlike_64 : decode cX1_answeringAlike 64 = .ok (.land, 1) := by decide +kernel
theorem dX1_answeringAlike_65 : decode cX1_answeringAlike 65 = .ok (.lstore_n 3, 1) := by decide +kernel
theorem dX1_answeringAlike_66 : decode cX1_answeringAlike 66 = .ok (.iinc 5 1, 3) := by decide +kernel
theorem dX1_answeringAlike_69 : decode cX1_answeringAlike 69 = .ok (.goto (-61), 3) := by decide +kernel
theorem dX1_answeringAlike_72 : decode cX1_answeringAlike 72 = .ok (.lload_n 3, 1) := by decide +kernel
theorem dX1_answeringAlike_73 : decode cX1_answeringAlike 73 = .ok (.lreturn, 1) := by decide +kernel
def wX1_answeringAlike_L8 (post : Int64 → Prop) (K72 : Int64 → Int32 → Prop) (dk : Nat → Int64) (wg : Nat → Int64) (op : Int64) (re : Int32) (bn : Int32) (p1 : Int32) (p2 : Int32) : Nat → Int64 → Int32 → Prop
  | 0, _, _ => False
  | n+1, i3, i5 =>
    (((6 : Int32) ≤ i5) →
      K72 i3 i5
    ) ∧ (¬ ((6 : Int32) ≤ i5) →
      wX2_has (fun r_1 : Int32 =>
        ((r_1 = 0) →
          wX1_answeringAlike_L8 post K72 dk wg op re bn p1 p2 n i3 (i5 + 1)
        ) ∧ (¬ (r_1 = 0) →
          wX1_worldsOf (fun r_2 : Int64 =>
            wX1_knownToAll (fun r_3 : Int64 =>
              wX2_has (fun r_4 : Int32 =>
                ((r_4 = 0) →
                  wX1_answeringAlike_L8 post K72 dk wg op re bn p1 p2 n (i3 &&& (r_3 ^^^ (-1 : Int64))) (i5 + 1)
                ) ∧ (¬ (r_4 = 0) →
                  wX1_answeringAlike_L8 post K72 dk wg op re bn p1 p2 n (i3 &&& r_3) (i5 + 1)
                )
                ) r_3 re
              ) dk op ((1 : Int32) <<< (i5 &&& 31)) r_2
            ) wg bn p2
        )
        ) (p1.toInt64) i5
    )
def wX1_answeringAlike (post : Int64 → Prop) (dk : Nat → Int64) (wg : Nat → Int64) (op : Int64) (re : Int32) (bn : Int32) (p1 : Int32) (p2 : Int32) : Prop :=
  ∃ nF, wX1_answeringAlike_L8 post
    (fun i3 i5 =>
      post i3
    )
    dk wg op re bn p1 p2 nF op (0 : Int32)
abbrev wl_X1_answeringAlike : List Cond := .code yX1_answeringAlike cX1_answeringAlike 8 (some .long) :: lwg
abbrev rm_X1_answeringAlike : Room := { frames := 4, cells := 0, slots := 0, locals := 96 }
set_option maxHeartbeats 4000000 in
set_option maxRecDepth 100000 in
theorem kX1_answeringAlike {post : Int64 → Prop} (l : Launch) (G : GT) (s0 : Nat) (s1 : Nat) (s2 : Nat) (b0 : Nat) (b1 : Nat) (b2 : Nat) (b3 : Nat) (b4 : Nat) (b5 : Nat) (b6 : Nat) (dk : Nat → Int64) (wg : Nat → Int64) (op : Int64) (re : Int32) (kf : Nat → Int32) (ff : Nat → Int32) (sf : Nat → Int32) (df : Nat → Int32) (pf : Nat → Int64) (gf : Nat → Int64) (bn : Int32) (p1 : Int32) (p2 : Int32) (h : wX1_answeringAlike post dk wg op re bn p1 p2) : Met l yX1_answeringAlike wl_X1_answeringAlike rm_X1_answeringAlike (va_Pc [.ref s0, .int p1, .int p2] (fun U => PP G [(s0, .inr (4, [.ref b0, .ref s1, .ref s2, .long op, .int re])), (s1, .inl (G.2 1, 384, .inr (.inl dk))), (s2, .inl (G.2 1, 40, .inr (.inl wg))), (b0, .inr (3, [.ref b1, .ref b2, .ref b3, .ref b4, .ref b5, .ref b6, .int bn])), (b1, .inl (G.2 0, 40, .inl kf)), (b2, .inl (G.2 0, 40, .inl ff)), (b3, .inl (G.2 0, 40, .inl sf)), (b4, .inl (G.2 0, 40, .inl df)), (b5, .inl (G.2 1, 40, .inr (.inl pf))), (b6, .inl (G.2 1, 6, .inr (.inl gf)))] U.heap ∧ KK G U)) (vp_Sl post) 0 0 (fun _ => False) := by
  refine Met.ofW (cc := cX1_answeringAlike) (maxL := 8) (ret := (some .long)) (by decide) rfl ?_
  intro p e s m args below meth c s₁ B hml hv
  obtain ⟨rfl, hP, hKK⟩ := hv
  obtain ⟨hK, hN, hR, hFW, hNC⟩ := id hKK
  have hx := B.exec
  have hb := B.bytes
  have hr := B.returns
  have hts0 := atoms_spec (ws := wl_X1_answeringAlike) B.pre
  have hts : ∀ w ∈ lwg, w.before ([.ref s0, .int p1, .int p2] : List Value).toArray s = true := fun w hw => hts0 w (List.mem_cons_of_mem _ hw)
  have hown : s.vm.findClass RX1 = some m.cls := findClass_of_methodNamed B.named
  have hlocks := B.notSynchronized
  have hP : PP G [(s0, .inr (4, [.ref b0, .ref s1, .ref s2, .long op, .int re])), (s1, .inl (G.2 1, 384, .inr (.inl dk))), (s2, .inl (G.2 1, 40, .inr (.inl wg))), (b0, .inr (3, [.ref b1, .ref b2, .ref b3, .ref b4, .ref b5, .ref b6, .int bn])), (b1, .inl (G.2 0, 40, .inl kf)), (b2, .inl (G.2 0, 40, .inl ff)), (b3, .inl (G.2 0, 40, .inl sf)), (b4, .inl (G.2 0, 40, .inl df)), (b5, .inl (G.2 1, 40, .inr (.inl pf))), (b6, .inl (G.2 1, 6, .inr (.inl gf)))] s.heap := hP
  have hl := lv_entry ([.ref s0, .int p1, .int p2]) (n := 8) (Nat.le_of_ble_eq_true rfl)
  rw [lg_entry_eq]
  generalize (lg_sl ([.ref s0, .int p1, .int p2]) ++ List.replicate (8 - (lg_sl ([.ref s0, .int p1, .int p2])).length) Slot.unset).toArray = ls at hl ⊢
  have hl : lv_has ls 8 [(0, .ref s0), (1, .int p1), (2, .int p2)] := hl
  have loop8 : ∀ (K72 : Int64 → Int32 → Prop), True → (∀ (i3 : Int64) (i5 : Int32) (ls : Array Slot), lv_has ls 8 [(0, .ref s0), (1, .int p1), (2, .int p2), (3, .long i3), (5, .int i5)] → K72 i3 i5 → W p l e (headSpec (wl_X1_answeringAlike) rm_X1_answeringAlike).room s m ([.ref s0, .int p1, .int p2] : List Value).toArray below meth c s.heap [] 0 0 (MQ below (vp_Sl post) ([.ref s0, .int p1, .int p2] : List Value).toArray s 0 0 (fun _ => False)) (F0 m 72 ls [])) → ∀ (n : Nat) (i3 : Int64) (i5 : Int32) (ls : Array Slot), lv_has ls 8 [(0, .ref s0), (1, .int p1), (2, .int p2), (3, .long i3), (5, .int i5)] → wX1_answeringAlike_L8 post K72 dk wg op re bn p1 p2 n i3 i5 → W p l e (headSpec (wl_X1_answeringAlike) rm_X1_answeringAlike).room s m ([.ref s0, .int p1, .int p2] : List Value).toArray below meth c s.heap [] 0 0 (MQ below (vp_Sl post) ([.ref s0, .int p1, .int p2] : List Value).toArray s 0 0 (fun _ => False)) (F0 m 8 ls []) := by
    intro K72 _ hexit72 n
    induction n with
    | zero => intro i3 i5 ls hl h; exact False.elim h
    | succ n ih =>
      intro i3 i5 ls hl h
      refine lv_iload hx hb dX1_answeringAlike_8 (lv_at hl 4 rfl) ?_
      refine lv_bipush (v := 6) hx hb dX1_answeringAlike_10 (by decide) ?_
      refine lv_icmp_ge (tgt := 72) hx hb dX1_answeringAlike_12 (by decide) (fun hc => ?_) (fun hc => ?_)
      · have h := h.1 hc
        have hl := lv_sub (l' := [(0, .ref s0), (1, .int p1), (2, .int p2), (3, .long i3), (5, .int i5)]) hl [0, 1, 2, 3, 4] rfl
        exact hexit72 _ _ ls hl h
      · have h := h.2 hc
        refine lv_iload_n hx hb dX1_answeringAlike_15 rfl (lv_at hl 1 rfl) ?_
        refine lv_i2l (v := (p1.toInt64)) hx hb dX1_answeringAlike_16 rfl ?_
        refine lv_iload hx hb dX1_answeringAlike_17 (lv_at hl 4 rfl) ?_
        have hPc := va_P.sub (ws' := []) hP [] rfl
        refine rdI (va_runSN (As := [.long (p1.toInt64), .int i5]) (rest := []) ⟨hx, hb, hml, hown, hts⟩ (kX2_has l G (p1.toInt64) i5 h) ⟨va_cnB 2 hts (gdC q109) rfl rfl rfl (hN _ n107) (hts _ q1) (by decide +kernel) ⟨Nat.le_of_ble_eq_true rfl, Nat.le_of_ble_eq_true rfl⟩, hts _ q108, trivial⟩ (preS hPc hKK) rfl rfl hl.1 rfl (lv_room (Nat.le_of_ble_eq_true rfl)) dX1_answeringAlike_19 ⟨Nat.zero_le _, Nat.zero_le _⟩) (fun r_1 h => ?_)
        refine lv_if_eq (tgt := 66) hx hb dX1_answeringAlike_22 (by decide) (fun hc => ?_) (fun hc => ?_)
        · have h := h.1 hc
          refine lv_iinc (v := (i5 + 1)) hx hb dX1_answeringAlike_66 hl (k := 4) rfl (by rw [show Int32.ofInt 1 = 1 from by decide]) (Nat.le_of_ble_eq_true rfl) rfl (fun ls hl => ?_)
          have hl : lv_has ls 8 [(5, .int (i5 + 1)), (0, .ref s0), (1, .int p1), (2, .int p2), (3, .long i3)] := hl
          refine lv_goto (tgt := 8) hx hb dX1_answeringAlike_69 (by decide) ?_
          have hl := lv_sub (l' := [(0, .ref s0), (1, .int p1), (2, .int p2), (3, .long i3), (5, .int (i5 + 1))]) hl [1, 2, 3, 4, 0] rfl
          exact ih _ _ ls hl h
        · have h := h.2 hc
          refine lv_aload_n hx hb dX1_answeringAlike_25 rfl (lv_at hl 0 rfl) ?_
          refine lv_iconst (v := 1) hx hb dX1_answeringAlike_26 (by decide) ?_
          refine lv_iload hx hb dX1_answeringAlike_27 (lv_at hl 4 rfl) ?_
          refine lv_ishl hx hb dX1_answeringAlike_29 ?_
          refine lv_aload_n hx hb dX1_answeringAlike_30 rfl (lv_at hl 0 rfl) ?_
          refine lv_iload_n hx hb dX1_answeringAlike_31 rfl (lv_at hl 2 rfl) ?_
          have hPc := hP
          refine rdL (va_runV (C := RX1) (As := [.int p2]) (rest := [.int ((1 : Int32) <<< (i5 &&& 31)), .ref s0]) ⟨hx, hb, hml, hown, hts⟩ (kX1_worldsOf l G s0 s1 s2 b0 b1 b2 b3 b4 b5 b6 dk wg op re kf ff sf df pf gf bn p2 h) (cwV 1 hts (gdV q134 q135 q136 q3 q137) rfl rfl rfl (by decide +kernel) ⟨Nat.le_of_ble_eq_true rfl, Nat.le_of_ble_eq_true rfl⟩) (preV hPc hKK (va_recv hK hPc (ci := 4) (q0 := 0) rfl rfl)) rfl rfl hl.1 rfl (lv_room (Nat.le_of_ble_eq_true rfl)) dX1_answeringAlike_32 ⟨Nat.zero_le _, Nat.zero_le _⟩) (fun r_2 h => ?_)
          have hPc := hP
          refine rdL (va_runV (C := RX1) (As := [.int ((1 : Int32) <<< (i5 &&& 31)), .long r_2]) (rest := []) ⟨hx, hb, hml, hown, hts⟩ (kX1_knownToAll l G s0 s1 s2 b0 b1 b2 b3 b4 b5 b6 dk wg op re kf ff sf df pf gf bn ((1 : Int32) <<< (i5 &&& 31)) r_2 h) (cwV 2 hts (gdV q139 q141 qs0 q3 q142) rfl rfl rfl (by decide +kernel) ⟨Nat.le_of_ble_eq_true rfl, Nat.le_of_ble_eq_true rfl⟩) (preV hPc hKK (va_recv hK hPc (ci := 4) (q0 := 0) rfl rfl)) rfl rfl hl.1 rfl (lv_room (Nat.le_of_ble_eq_true rfl)) dX1_answeringAlike_35 ⟨Nat.zero_le _, Nat.zero_le _⟩) (fun r_3 h => ?_)
          refine lv_lstore hx hb dX1_answeringAlike_38 hl (Nat.le_of_ble_eq_true rfl) rfl (fun ls hl => ?_)
          have hl : lv_has ls 8 [(6, .long r_3), (0, .ref s0), (1, .int p1), (2, .int p2), (3, .long i3), (5, .int i5)] := hl
          refine lv_lload_n hx hb dX1_answeringAlike_40 rfl (lv_at hl 4 rfl) ?_
          refine lv_lload hx hb dX1_answeringAlike_41 (lv_at hl 0 rfl) ?_
          refine lv_aload_n hx hb dX1_answeringAlike_43 rfl (lv_at hl 1 rfl) ?_
          refine va_get (D := G.1) (ci := 4) (v := .int re) (C := RX1) (T := TX1) (N := 5) hx hb hts igX1 hown hK hP 0 rfl rfl 4 (by decide) (hts _ q78) (fun _ h9 => h9) rfl dX1_answeringAlike_44 ?_
          have hPc := va_P.sub (ws' := []) hP [] rfl
          refine rdI (va_runSN (As := [.long r_3, .int re]) (rest := [.long i3]) ⟨hx, hb, hml, hown, hts⟩ (kX2_has l G r_3 re h) ⟨va_cnB 2 hts (gdC q109) rfl rfl rfl (hN _ n107) (hts _ q1) (by decide +kernel) ⟨Nat.le_of_ble_eq_true rfl, Nat.le_of_ble_eq_true rfl⟩, hts _ q108, trivial⟩ (preS hPc hKK) rfl rfl hl.1 rfl (lv_room (Nat.le_of_ble_eq_true rfl)) dX1_answeringAlike_47 ⟨Nat.zero_le _, Nat.zero_le _⟩) (fun r_4 h => ?_)
          refine lv_if_eq (tgt := 58) hx hb dX1_answeringAlike_50 (by decide) (fun hc => ?_) (fun hc => ?_)
          · have h := h.1 hc
            refine lv_lload hx hb dX1_answeringAlike_58 (lv_at hl 0 rfl) ?_
            refine lv_ldc2 hx hb hown (hts _ q95) dX1_answeringAlike_60 ?_
            refine lv_lxor hx hb dX1_answeringAlike_63 ?_
            refine lv_land hx hb dX1_answeringAlike_64 ?_
            refine lv_lstore_n hx hb dX1_answeringAlike_65 rfl hl (Nat.le_of_ble_eq_true rfl) rfl (fun ls hl => ?_)
            have hl : lv_has ls 8 [(3, .long (i3 &&& (r_3 ^^^ (-1 : Int64)))), (6, .long r_3), (0, .ref s0), (1, .int p1), (2, .int p2), (5, .int i5)] := hl
            refine lv_iinc (v := (i5 + 1)) hx hb dX1_answeringAlike_66 hl (k := 5) rfl (by rw [show Int32.ofInt 1 = 1 from by decide]) (Nat.le_of_ble_eq_true rfl) rfl (fun ls hl => ?_)
            have hl : lv_has ls 8 [(5, .int (i5 + 1)), (3, .long (i3 &&& (r_3 ^^^ (-1 : Int64)))), (6, .long r_3), (0, .ref s0), (1, .int p1), (2, .int p2)] := hl
            refine lv_goto (tgt := 8) hx hb dX1_answeringAlike_69 (by decide) ?_
            have hl := lv_sub (l' := [(0, .ref s0), (1, .int p1), (2, .int p2), (3, .long (i3 &&& (r_3 ^^^ (-1 : Int64)))), (5, .int (i5 + 1))]) hl [3, 4, 5, 1, 0] rfl
            exact ih _ _ ls hl h
          · have h := h.2 hc
            refine lv_lload hx hb dX1_answeringAlike_53 (lv_at hl 0 rfl) ?_
            refine lv_goto (tgt := 64) hx hb dX1_answeringAlike_55 (by decide) ?_
            refine lv_land hx hb dX1_answeringAlike_64 ?_
            refine lv_lstore_n hx hb dX1_answeringAlike_65 rfl hl (Nat.le_of_ble_eq_true rfl) rfl (fun ls hl => ?_)
            have hl : lv_has ls 8 [(3, .long (i3 &&& r_3)), (6, .long r_3), (0, .ref s0), (1, .int p1), (2, .int p2), (5, .int i5)] := hl
            refine lv_iinc (v := (i5 + 1)) hx hb dX1_answeringAlike_66 hl (k := 5) rfl (by rw [show Int32.ofInt 1 = 1 from by decide]) (Nat.le_of_ble_eq_true rfl) rfl (fun ls hl => ?_)
            have hl : lv_has ls 8 [(5, .int (i5 + 1)), (3, .long (i3 &&& r_3)), (6, .long r_3), (0, .ref s0), (1, .int p1), (2, .int p2)] := hl
            refine lv_goto (tgt := 8) hx hb dX1_answeringAlike_69 (by decide) ?_
            have hl := lv_sub (l' := [(0, .ref s0), (1, .int p1), (2, .int p2), (3, .long (i3 &&& r_3)), (5, .int (i5 + 1))]) hl [3, 4, 5, 1, 0] rfl
            exact ih _ _ ls hl h
  refine lv_aload_n hx hb dX1_answeringAlike_0 rfl (lv_at hl 0 rfl) ?_
  refine va_get (D := G.1) (ci := 4) (v := .long op) (C := RX1) (T := TX1) (N := 5) hx hb hts igX1 hown hK hP 0 rfl rfl 3 (by decide) (hts _ q76) (fun _ h9 => h9) rfl dX1_answeringAlike_1 ?_
  refine lv_lstore_n hx hb dX1_answeringAlike_4 rfl hl (Nat.le_of_ble_eq_true rfl) rfl (fun ls hl => ?_)
  have hl : lv_has ls 8 [(3, .long op), (0, .ref s0), (1, .int p1), (2, .int p2)] := hl
  refine lv_iconst (v := 0) hx hb dX1_answeringAlike_5 (by decide) ?_
  refine lv_istore hx hb dX1_answeringAlike_6 hl (Nat.le_of_ble_eq_true rfl) rfl (fun ls hl => ?_)
  have hl : lv_has ls 8 [(5, .int (0 : Int32)), (3, .long op), (0, .ref s0), (1, .int p1), (2, .int p2)] := hl
  have hl := lv_sub (l' := [(0, .ref s0), (1, .int p1), (2, .int p2), (3, .long op), (5, .int (0 : Int32))]) hl [2, 3, 4, 1, 0] rfl
  obtain ⟨nF, h⟩ := h
  refine loop8 _ trivial ?_ nF op (0 : Int32) _ hl h
  · intro i3 i5 ls hl h
    refine lv_lload_n hx hb dX1_answeringAlike_72 rfl (lv_at hl 3 rfl) ?_
    exact W.lret (v := i3) hx hb hr (fun t ht _ => ⟨_, rfl, h, ht⟩) (fun _ hq => absurd hq List.not_mem_nil) dX1_answeringAlike_73
theorem dX1_fewestFor_0 : decode cX1_fewestFor 0 = .ok (.iconst (-1), 1) := by decide +kernel
theorem dX1_fewestFor_1 : decode cX1_fewestFor 1 = .ok (.istore_n 2, 1) := by decide +kernel
theorem dX1_fewestFor_2 : decode cX1_fewestFor 2 = .ok (.bipush 7, 2) := by decide +kernel
theorem dX1_fewestFor_4 : decode cX1_fewestFor 4 = .ok (.istore_n 3, 1) := by decide +kernel
theorem dX1_fewestFor_5 : decode cX1_fewestFor 5 = .ok (.iconst 1, 1) := by decide +kernel
theorem dX1_fewestFor_6 : decode cX1_fewestFor 6 = .ok (.istore 4, 2) := by decide +kernel
theorem dX1_fewestFor_8 : decode cX1_fewestFor 8 = .ok (.iload 4, 2) := by decide +kernel
theorem dX1_fewestFor_10 : decode cX1_fewestFor 10 = .ok (.bipush 63, 2) := by decide +kernel
theorem dX1_fewestFor_12 : decode cX1_fewestFor 12 = .ok (.if_icmp .gt 49, 3) := by decide +kernel
theorem dX1_fewestFor_15 : decode cX1_fewestFor 15 = .ok (.iload 4, 2) := by decide +kernel
theorem dX1_fewestFor_17 : decode cX1_fewestFor 17 = .ok (.invokestatic 118, 3) := by decide +kernel
theorem dX1_fewestFor_20 : decode cX1_fewestFor 20 = .ok (.istore 5, 2) := by decide +kernel
theorem dX1_fewestFor_22 : decode cX1_fewestFor 22 = .ok (.iload 5, 2) := by decide +kernel
theorem dX1_fewestFor_24 : decode cX1_fewestFor 24 = .ok (.iload_n 3, 1) := by decide +kernel
theorem dX1_fewestFor_25 : decode cX1_fewestFor 25 = .ok (.if_icmp .ge 30, 3) := by decide +kernel
theorem dX1_fewestFor_28 : decode cX1_fewestFor 28 = .ok (.aload_n 0, 1) := by decide +kernel
theorem dX1_fewestFor_29 : decode cX1_fewestFor 29 = .ok (.iload 4, 2) := by decide +kernel
theorem dX1_fewestFor_31 : decode cX1_fewestFor 31 = .ok (.aload_n 0, 1) := by decide +kernel
theorem dX1_fewestFor_32 : decode cX1_fewestFor 32 = .ok (.getfield 22, 3) := by decide +kernel
theorem dX1_fewestFor_35 : decode cX1_fewestFor 35 = .ok (.invokevirtual 107, 3) := by decide +kernel
theorem dX1_fewestFor_38 : decode cX1_fewestFor 38 = .ok (.aload_n 0, 1) := by decide +kernel
theorem dX1_fewestFor_39 : decode cX1_fewestFor 39 = .ok (.iload_n 1, 1) := by decide +kernel
theorem dX1_fewestFor_40 : decode cX1_fewestFor 40 = .ok (.invokevirtual 77, 3) := by decide +kernel
theorem dX1_fewestFor_43 : decode cX1_fewestFor 43 = .ok (.invokestatic 110, 3) := by decide +kernel
theorem dX1_fewestFor_46 : decode cX1_fewestFor 46 = .ok (.ifCond .eq 9, 3) := by decide +kernel
theorem dX1_fewestFor_49 : decode cX1_fewestFor 49 = .ok (.iload 5, 2) := by decide +kernel
theorem dX1_fewestFor_51 : decode cX1_fewestFor 51 = .ok (.istore_n 3, 1) := by decide +kernel
theorem dX1_fewestFor_52 : decode cX1_fewestFor 52 = .ok (.iload 4, 2) := by decide +kernel
theorem dX1_fewestFor_54 : decode cX1_fewestFor 54 = .ok (.istore_n 2, 1) := by decide +kernel
theorem dX1_fewestFor_55 : decode cX1_fewestFor 55 = .ok (.iinc 4 1, 3) := by decide +kernel
theorem dX1_fewestFor_58 : decode cX1_fewestFor 58 = .ok (.goto (-50), 3) := by decide +kernel
theorem dX1_fewestFor_61 : decode cX1_fewestFor 61 = .ok (.iload_n 2, 1) := by decide +kernel
theorem dX1_fewestFor_62 : decode cX1_fewestFor 62 = .ok (.ireturn, 1) := by decide +kernel
def wX1_fewestFor_L8 (post : Int32 → Prop) (K61 : Int32 → Int32 → Int32 → Prop) (dk : Nat → Int64) (wg : Nat → Int64) (op : Int64) (re : Int32) (bn : Int32) (p1 : Int32) : Nat → Int32 → Int32 → Int32 → Prop
  | 0, _, _, _ => False
  | n+1, i2, i3, i4 =>
    (((63 : Int32) < i4) →
      K61 i2 i3 i4
    ) ∧ (¬ ((63 : Int32) < i4) →
      wJ6_bitCount_0f7a4 (fun r_1 : Int32 =>
        ((i3 ≤ r_1) →
          wX1_fewestFor_L8 post K61 dk wg op re bn p1 n i2 i3 (i4 + 1)
        ) ∧ (¬ (i3 ≤ r_1) →
          wX1_cellTogether (fun r_2 : Int64 =>
            wX1_worldsOf (fun r_3 : Int64 =>
              wX2_isWithin (fun r_4 : Int32 =>
                ((r_4 = 0) →
                  wX1_fewestFor_L8 post K61 dk wg op re bn p1 n i2 i3 (i4 + 1)
                ) ∧ (¬ (r_4 = 0) →
                  wX1_fewestFor_L8 post K61 dk wg op re bn p1 n i4 r_1 (i4 + 1)
                )
                ) r_2 r_3
              ) wg bn p1
            ) dk op i4 re
        )
        ) i4
    )
def wX1_fewestFor (post : Int32 → Prop) (dk : Nat → Int64) (wg : Nat → Int64) (op : Int64) (re : Int32) (bn : Int32) (p1 : Int32) : Prop :=
  ∃ nF, wX1_fewestFor_L8 post
    (fun i2 i3 i4 =>
      post i2
    )
    dk wg op re bn p1 nF (-1 : Int32) (7 : Int32) (1 : Int32)
abbrev wl_X1_fewestFor : List Cond := .code yX1_fewestFor cX1_fewestFor 6 (some .int) :: lwg
abbrev rm_X1_fewestFor : Room := { frames := 2, cells := 0, slots := 0, locals := 48 }
set_option maxHeartbeats 4000000 in
set_option maxRecDepth 100000 in
theorem kX1_fewestFor {post : Int32 → Prop} (l : Launch) (G : GT) (s0 : Nat) (s1 : Nat) (s2 : Nat) (b0 : Nat) (b1 : Nat) (b2 : Nat) (b3 : Nat) (b4 : Nat) (b5 : Nat) (b6 : Nat) (dk : Nat → Int64) (wg : Nat → Int64) (op : Int64) (re : Int32) (kf : Nat → Int32) (ff : Nat → Int32) (sf : Nat → Int32) (df : Nat → Int32) (pf : Nat → Int64) (gf : Nat → Int64) (bn : Int32) (p1 : Int32) (h : wX1_fewestFor post dk wg op re bn p1) : Met l yX1_fewestFor wl_X1_fewestFor rm_X1_fewestFor (va_Pc [.ref s0, .int p1] (fun U => PP G [(s0, .inr (4, [.ref b0, .ref s1, .ref s2, .long op, .int re])), (s1, .inl (G.2 1, 384, .inr (.inl dk))), (s2, .inl (G.2 1, 40, .inr (.inl wg))), (b0, .inr (3, [.ref b1, .ref b2, .ref b3, .ref b4, .ref b5, .ref b6, .int bn])), (b1, .inl (G.2 0, 40, .inl kf)), (b2, .inl (G.2 0, 40, .inl ff)), (b3, .inl (G.2 0, 40, .inl sf)), (b4, .inl (G.2 0, 40, .inl df)), (b5, .inl (G.2 1, 40, .inr (.inl pf))), (b6, .inl (G.2 1, 6, .inr (.inl gf)))] U.heap ∧ KK G U)) (vp_Si post) 0 0 (fun _ => False) := by
  refine Met.ofW (cc := cX1_fewestFor) (maxL := 6) (ret := (some .int)) (by decide) rfl ?_
  intro p e s m args below meth c s₁ B hml hv
  obtain ⟨rfl, hP, hKK⟩ := hv
  obtain ⟨hK, hN, hR, hFW, hNC⟩ := id hKK
  have hx := B.exec
  have hb := B.bytes
  have hr := B.returns
  have hts0 := atoms_spec (ws := wl_X1_fewestFor) B.pre
  have hts : ∀ w ∈ lwg, w.before ([.ref s0, .int p1] : List Value).toArray s = true := fun w hw => hts0 w (List.mem_cons_of_mem _ hw)
  have hown : s.vm.findClass RX1 = some m.cls := findClass_of_methodNamed B.named
  have hlocks := B.notSynchronized
  have hP : PP G [(s0, .inr (4, [.ref b0, .ref s1, .ref s2, .long op, .int re])), (s1, .inl (G.2 1, 384, .inr (.inl dk))), (s2, .inl (G.2 1, 40, .inr (.inl wg))), (b0, .inr (3, [.ref b1, .ref b2, .ref b3, .ref b4, .ref b5, .ref b6, .int bn])), (b1, .inl (G.2 0, 40, .inl kf)), (b2, .inl (G.2 0, 40, .inl ff)), (b3, .inl (G.2 0, 40, .inl sf)), (b4, .inl (G.2 0, 40, .inl df)), (b5, .inl (G.2 1, 40, .inr (.inl pf))), (b6, .inl (G.2 1, 6, .inr (.inl gf)))] s.heap := hP
  have hl := lv_entry ([.ref s0, .int p1]) (n := 6) (Nat.le_of_ble_eq_true rfl)
  rw [lg_entry_eq]
  generalize (lg_sl ([.ref s0, .int p1]) ++ List.replicate (6 - (lg_sl ([.ref s0, .int p1])).length) Slot.unset).toArray = ls at hl ⊢
  have hl : lv_has ls 6 [(0, .ref s0), (1, .int p1)] := hl
  have loop8 : ∀ (K61 : Int32 → Int32 → Int32 → Prop), True → (∀ (i2 : Int32) (i3 : Int32) (i4 : Int32) (ls : Array Slot), lv_has ls 6 [(0, .ref s0), (1, .int p1), (2, .int i2), (3, .int i3), (4, .int i4)] → K61 i2 i3 i4 → W p l e (headSpec (wl_X1_fewestFor) rm_X1_fewestFor).room s m ([.ref s0, .int p1] : List Value).toArray below meth c s.heap [] 0 0 (MQ below (vp_Si post) ([.ref s0, .int p1] : List Value).toArray s 0 0 (fun _ => False)) (F0 m 61 ls [])) → ∀ (n : Nat) (i2 : Int32) (i3 : Int32) (i4 : Int32) (ls : Array Slot), lv_has ls 6 [(0, .ref s0), (1, .int p1), (2, .int i2), (3, .int i3), (4, .int i4)] → wX1_fewestFor_L8 post K61 dk wg op re bn p1 n i2 i3 i4 → W p l e (headSpec (wl_X1_fewestFor) rm_X1_fewestFor).room s m ([.ref s0, .int p1] : List Value).toArray below meth c s.heap [] 0 0 (MQ below (vp_Si post) ([.ref s0, .int p1] : List Value).toArray s 0 0 (fun _ => False)) (F0 m 8 ls []) := by
    intro K61 _ hexit61 n
    induction n with
    | zero => intro i2 i3 i4 ls hl h; exact False.elim h
    | succ n ih =>
      intro i2 i3 i4 ls hl h
      refine lv_iload hx hb dX1_fewestFor_8 (lv_at hl 4 rfl) ?_
      refine lv_bipush (v := 63) hx hb dX1_fewestFor_10 (by decide) ?_
      refine lv_icmp_gt (tgt := 61) hx hb dX1_fewestFor_12 (by decide) (fun hc => ?_) (fun hc => ?_)
      · have h := h.1 hc
        have hl := lv_sub (l' := [(0, .ref s0), (1, .int p1), (2, .int i2), (3, .int i3), (4, .int i4)]) hl [0, 1, 2, 3, 4] rfl
        exact hexit61 _ _ _ ls hl h
      · have h := h.2 hc
        refine lv_iload hx hb dX1_fewestFor_15 (lv_at hl 4 rfl) ?_
        have hPc := va_P.sub (ws' := []) hP [] rfl
        refine rdI (va_runS (As := [.int i4]) (rest := []) ⟨hx, hb, hml, hown, hts⟩ (kJ6_bitCount_0f7a4 l G i4 h) (va_cwS 1 hts (gdS q426 q416 q23 q417) rfl rfl rfl (by decide +kernel) ⟨Nat.le_of_ble_eq_true rfl, Nat.le_of_ble_eq_true rfl⟩) (preS hPc hKK) rfl rfl hl.1 rfl (lv_room (Nat.le_of_ble_eq_true rfl)) dX1_fewestFor_17 ⟨Nat.zero_le _, Nat.zero_le _⟩) (fun r_1 h => ?_)
        refine lv_istore hx hb dX1_fewestFor_20 hl (Nat.le_of_ble_eq_true rfl) rfl (fun ls hl => ?_)
        have hl : lv_has ls 6 [(5, .int r_1), (0, .ref s0), (1, .int p1), (2, .int i2), (3, .int i3), (4, .int i4)] := hl
        refine lv_iload hx hb dX1_fewestFor_22 (lv_at hl 0 rfl) ?_
        refine lv_iload_n hx hb dX1_fewestFor_24 rfl (lv_at hl 4 rfl) ?_
        refine lv_icmp_ge (tgt := 55) hx hb dX1_fewestFor_25 (by decide) (fun hc => ?_) (fun hc => ?_)
        · have h := h.1 hc
          refine lv_iinc (v := (i4 + 1)) hx hb dX1_fewestFor_55 hl (k := 5) rfl (by rw [show Int32.ofInt 1 = 1 from by decide]) (Nat.le_of_ble_eq_true rfl) rfl (fun ls hl => ?_)
          have hl : lv_has ls 6 [(4, .int (i4 + 1)), (5, .int r_1), (0, .ref s0), (1, .int p1), (2, .int i2), (3, .int i3)] := hl
          refine lv_goto (tgt := 8) hx hb dX1_fewestFor_58 (by decide) ?_
          have hl := lv_sub (l' := [(0, .ref s0), (1, .int p1), (2, .int i2), (3, .int i3), (4, .int (i4 + 1))]) hl [2, 3, 4, 5, 0] rfl
          exact ih _ _ _ ls hl h
        · have h := h.2 hc
          refine lv_aload_n hx hb dX1_fewestFor_28 rfl (lv_at hl 1 rfl) ?_
          refine lv_iload hx hb dX1_fewestFor_29 (lv_at hl 5 rfl) ?_
          refine lv_aload_n hx hb dX1_fewestFor_31 rfl (lv_at hl 1 rfl) ?_
          refine va_get (D := G.1) (ci := 4) (v := .int re) (C := RX1) (T := TX1) (N := 5) hx hb hts igX1 hown hK hP 0 rfl rfl 4 (by decide) (hts _ q78) (fun _ h9 => h9) rfl dX1_fewestFor_32 ?_
          have hPc := hP
          refine rdL (va_runV (C := RX1) (As := [.int i4, .int re]) (rest := []) ⟨hx, hb, hml, hown, hts⟩ (kX1_cellTogether l G s0 s1 s2 b0 b1 b2 b3 b4 b5 b6 dk wg op re kf ff sf df pf gf bn i4 re h) (cwV 2 hts (gdV q168 q170 qs4 q3 q171) rfl rfl rfl (by decide +kernel) ⟨Nat.le_of_ble_eq_true rfl, Nat.le_of_ble_eq_true rfl⟩) (preV hPc hKK (va_recv hK hPc (ci := 4) (q0 := 0) rfl rfl)) rfl rfl hl.1 rfl (lv_room (Nat.le_of_ble_eq_true rfl)) dX1_fewestFor_35 ⟨Nat.zero_le _, Nat.zero_le _⟩) (fun r_2 h => ?_)
          refine lv_aload_n hx hb dX1_fewestFor_38 rfl (lv_at hl 1 rfl) ?_
          refine lv_iload_n hx hb dX1_fewestFor_39 rfl (lv_at hl 2 rfl) ?_
          have hPc := hP
          refine rdL (va_runV (C := RX1) (As := [.int p1]) (rest := [.long r_2]) ⟨hx, hb, hml, hown, hts⟩ (kX1_worldsOf l G s0 s1 s2 b0 b1 b2 b3 b4 b5 b6 dk wg op re kf ff sf df pf gf bn p1 h) (cwV 1 hts (gdV q134 q135 q136 q3 q137) rfl rfl rfl (by decide +kernel) ⟨Nat.le_of_ble_eq_true rfl, Nat.le_of_ble_eq_true rfl⟩) (preV hPc hKK (va_recv hK hPc (ci := 4) (q0 := 0) rfl rfl)) rfl rfl hl.1 rfl (lv_room (Nat.le_of_ble_eq_true rfl)) dX1_fewestFor_40 ⟨Nat.zero_le _, Nat.zero_le _⟩) (fun r_3 h => ?_)
          have hPc := va_P.sub (ws' := []) hP [] rfl
          refine rdI (va_runSN (As := [.long r_2, .long r_3]) (rest := []) ⟨hx, hb, hml, hown, hts⟩ (kX2_isWithin l G r_2 r_3 h) ⟨va_cnB 2 hts (gdC q174) rfl rfl rfl (hN _ n172) (hts _ q1) (by decide +kernel) ⟨Nat.le_of_ble_eq_true rfl, Nat.le_of_ble_eq_true rfl⟩, hts _ q173, trivial⟩ (preS hPc hKK) rfl rfl hl.1 rfl (lv_room (Nat.le_of_ble_eq_true rfl)) dX1_fewestFor_43 ⟨Nat.zero_le _, Nat.zero_le _⟩) (fun r_4 h => ?_)
          refine lv_if_eq (tgt := 55) hx hb dX1_fewestFor_46 (by decide) (fun hc => ?_) (fun hc => ?_)
          · have h := h.1 hc
            refine lv_iinc (v := (i4 + 1)) hx hb dX1_fewestFor_55 hl (k := 5) rfl (by rw [show Int32.ofInt 1 = 1 from by decide]) (Nat.le_of_ble_eq_true rfl) rfl (fun ls hl => ?_)
            have hl : lv_has ls 6 [(4, .int (i4 + 1)), (5, .int r_1), (0, .ref s0), (1, .int p1), (2, .int i2), (3, .int i3)] := hl
            refine lv_goto (tgt := 8) hx hb dX1_fewestFor_58 (by decide) ?_
            have hl := lv_sub (l' := [(0, .ref s0), (1, .int p1), (2, .int i2), (3, .int i3), (4, .int (i4 + 1))]) hl [2, 3, 4, 5, 0] rfl
            exact ih _ _ _ ls hl h
          · have h := h.2 hc
            refine lv_iload hx hb dX1_fewestFor_49 (lv_at hl 0 rfl) ?_
            refine lv_istore_n hx hb dX1_fewestFor_51 rfl hl (Nat.le_of_ble_eq_true rfl) rfl (fun ls hl => ?_)
            have hl : lv_has ls 6 [(3, .int r_1), (5, .int r_1), (0, .ref s0), (1, .int p1), (2, .int i2), (4, .int i4)] := hl
            refine lv_iload hx hb dX1_fewestFor_52 (lv_at hl 5 rfl) ?_
            refine lv_istore_n hx hb dX1_fewestFor_54 rfl hl (Nat.le_of_ble_eq_true rfl) rfl (fun ls hl => ?_)
            have hl : lv_has ls 6 [(2, .int i4), (3, .int r_1), (5, .int r_1), (0, .ref s0), (1, .int p1), (4, .int i4)] := hl
            refine lv_iinc (v := (i4 + 1)) hx hb dX1_fewestFor_55 hl (k := 5) rfl (by rw [show Int32.ofInt 1 = 1 from by decide]) (Nat.le_of_ble_eq_true rfl) rfl (fun ls hl => ?_)
            have hl : lv_has ls 6 [(4, .int (i4 + 1)), (2, .int i4), (3, .int r_1), (5, .int r_1), (0, .ref s0), (1, .int p1)] := hl
            refine lv_goto (tgt := 8) hx hb dX1_fewestFor_58 (by decide) ?_
            have hl := lv_sub (l' := [(0, .ref s0), (1, .int p1), (2, .int i4), (3, .int r_1), (4, .int (i4 + 1))]) hl [4, 5, 1, 2, 0] rfl
            exact ih _ _ _ ls hl h
  refine lv_iconst (v := (-1)) hx hb dX1_fewestFor_0 (by decide) ?_
  refine lv_istore_n hx hb dX1_fewestFor_1 rfl hl (Nat.le_of_ble_eq_true rfl) rfl (fun ls hl => ?_)
  have hl : lv_has ls 6 [(2, .int (-1 : Int32)), (0, .ref s0), (1, .int p1)] := hl
  refine lv_bipush (v := 7) hx hb dX1_fewestFor_2 (by decide) ?_
  refine lv_istore_n hx hb dX1_fewestFor_4 rfl hl (Nat.le_of_ble_eq_true rfl) rfl (fun ls hl => ?_)
  have hl : lv_has ls 6 [(3, .int (7 : Int32)), (2, .int (-1 : Int32)), (0, .ref s0), (1, .int p1)] := hl
  refine lv_iconst (v := 1) hx hb dX1_fewestFor_5 (by decide) ?_
  refine lv_istore hx hb dX1_fewestFor_6 hl (Nat.le_of_ble_eq_true rfl) rfl (fun ls hl => ?_)
  have hl : lv_has ls 6 [(4, .int (1 : Int32)), (3, .int (7 : Int32)), (2, .int (-1 : Int32)), (0, .ref s0), (1, .int p1)] := hl
  have hl := lv_sub (l' := [(0, .ref s0), (1, .int p1), (2, .int (-1 : Int32)), (3, .int (7 : Int32)), (4, .int (1 : Int32))]) hl [3, 4, 2, 1, 0] rfl
  obtain ⟨nF, h⟩ := h
  refine loop8 _ trivial ?_ nF (-1 : Int32) (7 : Int32) (1 : Int32) _ hl h
  · intro i2 i3 i4 ls hl h
    refine lv_iload_n hx hb dX1_fewestFor_61 rfl (lv_at hl 2 rfl) ?_
    exact W.iret (v := i2) hx hb hr (fun t ht _ => ⟨_, rfl, h, ht⟩) (fun _ hq => absurd hq List.not_mem_nil) dX1_fewestFor_62
theorem dX1_depthFor_0 : decode cX1_depthFor 0 = .ok (.lload_n 2, 1) := by decide +kernel
theorem dX1_depthFor_1 : decode cX1_depthFor 1 = .ok (.aload_n 0, 1) := by decide +kernel
theorem dX1_depthFor_2 : decode cX1_depthFor 2 = .ok (.getfield 22, 3) := by decide +kernel
theorem dX1_depthFor_5 : decode cX1_depthFor 5 = .ok (.invokestatic 52, 3) := by decide +kernel
theorem dX1_depthFor_8 : decode cX1_depthFor 8 = .ok (.ifCond .ne 5, 3) := by decide +kernel
theorem dX1_depthFor_11 : decode cX1_depthFor 11 = .ok (.iconst (-1), 1) := by decide +kernel
theorem dX1_depthFor_12 : decode cX1_depthFor 12 = .ok (.ireturn, 1) := by decide +kernel
theorem dX1_depthFor_13 : decode cX1_depthFor 13 = .ok (.lload_n 2, 1) := by decide +kernel
theorem dX1_depthFor_14 : decode cX1_depthFor 14 = .ok (.lstore 4, 2) := by decide +kernel
theorem dX1_depthFor_16 : decode cX1_depthFor 16 = .ok (.iconst 0, 1) := by decide +kernel
theorem dX1_depthFor_17 : decode cX1_depthFor 17 = .ok (.istore 6, 2) := by decide +kernel
theorem dX1_depthFor_19 : decode cX1_depthFor 19 = .ok (.iload 6, 2) := by decide +kernel
theorem dX1_depthFor_21 : decode cX1_depthFor 21 = .ok (.bipush 64, 2) := by decide +kernel
theorem dX1_depthFor_23 : decode cX1_depthFor 23 = .ok (.if_icmp .ge 48, 3) := by decide +kernel
theorem dX1_depthFor_26 : decode cX1_depthFor 26 = .ok (.aload_n 0, 1) := by decide +kernel
theorem dX1_depthFor_27 : decode cX1_depthFor 27 = .ok (.iload_n 1, 1) := by decide +kernel
theorem dX1_depthFor_28 : decode cX1_depthFor 28 = .ok (.lload 4, 2) := by decide +kernel
theorem dX1_depthFor_30 : decode cX1_depthFor 30 = .ok (.invokevirtual 80, 3) := by decide +kernel
theorem dX1_depthFor_33 : decode cX1_depthFor 33 = .ok (.lstore 7, 2) := by decide +kernel
theorem dX1_depthFor_35 : decode cX1_depthFor 35 = .ok (.lload 7, 2) := by decide +kernel
theorem dX1_depthFor_37 : decode cX1_depthFor 37 = .ok (.aload_n 0, 1) := by decide +kernel
theorem dX1_depthFor_38 : decode cX1_depthFor 38 = .ok (.getfield 22, 3) := by decide +kernel
theorem dX1_depthFor_41 : decode cX1_depthFor 41 = .ok (.invokestatic 52, 3) := by decide +kernel
theorem dX1_depthFor_44 : decode cX1_depthFor 44 = .ok (.ifCond .ne 6, 3) := by decide +kernel
theorem dX1_depthFor_47 : decode cX1_depthFor 47 = .ok (.iload 6, 2) := by decide +kernel
theorem dX1_depthFor_49 : decode cX1_depthFor 49 = .ok (.ireturn, 1) := by decide +kernel
theorem dX1_depthFor_50 : decode cX1_depthFor 50 = .ok (.lload 7, 2) := by decide +kernel
theorem dX1_depthFor_52 : decode cX1_depthFor 52 = .ok (.lload 4, 2) := by decide +kernel
theorem dX1_depthFor_54 : decode cX1_depthFor 54 = .ok (.lcmp, 1) := by decide +kernel
theorem dX1_depthFor_55 : decode cX1_depthFor 55 = .ok (.ifCond .ne 6, 3) := by decide +kernel
theorem dX1_depthFor_58 : decode cX1_depthFor 58 = .ok (.bipush 99, 2) := by decide +kernel
theorem dX1_depthFor_60 : decode cX1_depthFor 60 = .ok (.ireturn, 1) := by decide +kernel
theorem dX1_depthFor_61 : decode cX1_depthFor 61 = .ok (.lload 7, 2) := by decide +kernel
theorem dX1_depthFor_63 : decode cX1_depthFor 63 = .ok (.lstore 4, 2) := by decide +kernel
theorem dX1_depthFor_65 : decode cX1_depthFor 65 = .ok (.iinc 6 1, 3) := by decide +kernel
theorem dX1_depthFor_68 : decode cX1_depthFor 68 = .ok (.goto (-49), 3) := by decide +kernel
theorem dX1_depthFor_71 : decode cX1_depthFor 71 = .ok (.bipush 99, 2) := by decide +kernel
theorem dX1_depthFor_73 : decode cX1_depthFor 73 = .ok (.ireturn, 1) := by decide +kernel
def wX1_depthFor_L19 (post : Int32 → Prop) (K71 : Int64 → Int32 → Prop) (dk : Nat → Int64) (op : Int64) (re : Int32) (p1 : Int32) : Nat → Int64 → Int32 → Prop
  | 0, _, _ => False
  | n+1, i4, i6 =>
    (((64 : Int32) ≤ i6) →
      K71 i4 i6
    ) ∧ (¬ ((64 : Int32) ≤ i6) →
      wX1_knownToAll (fun r_2 : Int64 =>
        wX2_has (fun r_3 : Int32 =>
          ((¬ r_3 = 0) →
            ((¬ (lg_cmp r_2 i4) = 0) →
              wX1_depthFor_L19 post K71 dk op re p1 n r_2 (i6 + 1)
            ) ∧ (((lg_cmp r_2 i4) = 0) →
              post (99 : Int32)
            )
          ) ∧ ((r_3 = 0) →
            post i6
          )
          ) r_2 re
        ) dk op p1 i4
    )
def wX1_depthFor (post : Int32 → Prop) (dk : Nat → Int64) (op : Int64) (re : Int32) (p1 : Int32) (p2 : Int64) : Prop :=
  wX2_has (fun r_1 : Int32 =>
    ((¬ r_1 = 0) →
      ∃ nF, wX1_depthFor_L19 post
        (fun i4 i6 =>
          post (99 : Int32)
        )
        dk op re p1 nF p2 (0 : Int32)
    ) ∧ ((r_1 = 0) →
      post (-1 : Int32)
    )
    ) p2 re
abbrev wl_X1_depthFor : List Cond := .code yX1_depthFor cX1_depthFor 9 (some .int) :: lwg
abbrev rm_X1_depthFor : Room := { frames := 4, cells := 0, slots := 0, locals := 96 }
set_option maxHeartbeats 4000000 in
set_option maxRecDepth 100000 in
theorem kX1_depthFor {post : Int32 → Prop} (l : Launch) (G : GT) (s0 : Nat) (s1 : Nat) (s2 : Nat) (b0 : Nat) (b1 : Nat) (b2 : Nat) (b3 : Nat) (b4 : Nat) (b5 : Nat) (b6 : Nat) (dk : Nat → Int64) (wg : Nat → Int64) (op : Int64) (re : Int32) (kf : Nat → Int32) (ff : Nat → Int32) (sf : Nat → Int32) (df : Nat → Int32) (pf : Nat → Int64) (gf : Nat → Int64) (bn : Int32) (p1 : Int32) (p2 : Int64) (h : wX1_depthFor post dk op re p1 p2) : Met l yX1_depthFor wl_X1_depthFor rm_X1_depthFor (va_Pc [.ref s0, .int p1, .long p2] (fun U => PP G [(s0, .inr (4, [.ref b0, .ref s1, .ref s2, .long op, .int re])), (s1, .inl (G.2 1, 384, .inr (.inl dk))), (s2, .inl (G.2 1, 40, .inr (.inl wg))), (b0, .inr (3, [.ref b1, .ref b2, .ref b3, .ref b4, .ref b5, .ref b6, .int bn])), (b1, .inl (G.2 0, 40, .inl kf)), (b2, .inl (G.2 0, 40, .inl ff)), (b3, .inl (G.2 0, 40, .inl sf)), (b4, .inl (G.2 0, 40, .inl df)), (b5, .inl (G.2 1, 40, .inr (.inl pf))), (b6, .inl (G.2 1, 6, .inr (.inl gf)))] U.heap ∧ KK G U)) (vp_Si post) 0 0 (fun _ => False) := by
  refine Met.ofW (cc := cX1_depthFor) (maxL := 9) (ret := (some .int)) (by decide) rfl ?_
  intro p e s m args below meth c s₁ B hml hv
  obtain ⟨rfl, hP, hKK⟩ := hv
  obtain ⟨hK, hN, hR, hFW, hNC⟩ := id hKK
  have hx := B.exec
  have hb := B.bytes
  have hr := B.returns
  have hts0 := atoms_spec (ws := wl_X1_depthFor) B.pre
  have hts : ∀ w ∈ lwg, w.before ([.ref s0, .int p1, .long p2] : List Value).toArray s = true := fun w hw => hts0 w (List.mem_cons_of_mem _ hw)
  have hown : s.vm.findClass RX1 = some m.cls := findClass_of_methodNamed B.named
  have hlocks := B.notSynchronized
  have hP : PP G [(s0, .inr (4, [.ref b0, .ref s1, .ref s2, .long op, .int re])), (s1, .inl (G.2 1, 384, .inr (.inl dk))), (s2, .inl (G.2 1, 40, .inr (.inl wg))), (b0, .inr (3, [.ref b1, .ref b2, .ref b3, .ref b4, .ref b5, .ref b6, .int bn])), (b1, .inl (G.2 0, 40, .inl kf)), (b2, .inl (G.2 0, 40, .inl ff)), (b3, .inl (G.2 0, 40, .inl sf)), (b4, .inl (G.2 0, 40, .inl df)), (b5, .inl (G.2 1, 40, .inr (.inl pf))), (b6, .inl (G.2 1, 6, .inr (.inl gf)))] s.heap := hP
  have hl := lv_entry ([.ref s0, .int p1, .long p2]) (n := 9) (Nat.le_of_ble_eq_true rfl)
  rw [lg_entry_eq]
  generalize (lg_sl ([.ref s0, .int p1, .long p2]) ++ List.replicate (9 - (lg_sl ([.ref s0, .int p1, .long p2])).length) Slot.unset).toArray = ls at hl ⊢
  have hl : lv_has ls 9 [(0, .ref s0), (1, .int p1), (2, .long p2)] := hl
  have loop19 : ∀ (K71 : Int64 → Int32 → Prop), True → (∀ (i4 : Int64) (i6 : Int32) (ls : Array Slot), lv_has ls 9 [(0, .ref s0), (1, .int p1), (2, .long p2), (4, .long i4), (6, .int i6)] → K71 i4 i6 → W p l e (headSpec (wl_X1_depthFor) rm_X1_depthFor).room s m ([.ref s0, .int p1, .long p2] : List Value).toArray below meth c s.heap [] 0 0 (MQ below (vp_Si post) ([.ref s0, .int p1, .long p2] : List Value).toArray s 0 0 (fun _ => False)) (F0 m 71 ls [])) → ∀ (n : Nat) (i4 : Int64) (i6 : Int32) (ls : Array Slot), lv_has ls 9 [(0, .ref s0), (1, .int p1), (2, .long p2), (4, .long i4), (6, .int i6)] → wX1_depthFor_L19 post K71 dk op re p1 n i4 i6 → W p l e (headSpec (wl_X1_depthFor) rm_X1_depthFor).room s m ([.ref s0, .int p1, .long p2] : List Value).toArray below meth c s.heap [] 0 0 (MQ below (vp_Si post) ([.ref s0, .int p1, .long p2] : List Value).toArray s 0 0 (fun _ => False)) (F0 m 19 ls []) := by
    intro K71 _ hexit71 n
    induction n with
    | zero => intro i4 i6 ls hl h; exact False.elim h
    | succ n ih =>
      intro i4 i6 ls hl h
      refine lv_iload hx hb dX1_depthFor_19 (lv_at hl 4 rfl) ?_
      refine lv_bipush (v := 64) hx hb dX1_depthFor_21 (by decide) ?_
      refine lv_icmp_ge (tgt := 71) hx hb dX1_depthFor_23 (by decide) (fun hc => ?_) (fun hc => ?_)
      · have h := h.1 hc
        have hl := lv_sub (l' := [(0, .ref s0), (1, .int p1), (2, .long p2), (4, .long i4), (6, .int i6)]) hl [0, 1, 2, 3, 4] rfl
        exact hexit71 _ _ ls hl h
      · have h := h.2 hc
        refine lv_aload_n hx hb dX1_depthFor_26 rfl (lv_at hl 0 rfl) ?_
        refine lv_iload_n hx hb dX1_depthFor_27 rfl (lv_at hl 1 rfl) ?_
        refine lv_lload hx hb dX1_depthFor_28 (lv_at hl 3 rfl) ?_
        have hPc := hP
        refine rdL (va_runV (C := RX1) (As := [.int p1, .long i4]) (rest := []) ⟨hx, hb, hml, hown, hts⟩ (kX1_knownToAll l G s0 s1 s2 b0 b1 b2 b3 b4 b5 b6 dk wg op re kf ff sf df pf gf bn p1 i4 h) (cwV 2 hts (gdV q139 q141 qs0 q3 q142) rfl rfl rfl (by decide +kernel) ⟨Nat.le_of_ble_eq_true rfl, Nat.le_of_ble_eq_true rfl⟩) (preV hPc hKK (va_recv hK hPc (ci := 4) (q0 := 0) rfl rfl)) rfl rfl hl.1 rfl (lv_room (Nat.le_of_ble_eq_true rfl)) dX1_depthFor_30 ⟨Nat.zero_le _, Nat.zero_le _⟩) (fun r_2 h => ?_)
        refine lv_lstore hx hb dX1_depthFor_33 hl (Nat.le_of_ble_eq_true rfl) rfl (fun ls hl => ?_)
        have hl : lv_has ls 9 [(7, .long r_2), (0, .ref s0), (1, .int p1), (2, .long p2), (4, .long i4), (6, .int i6)] := hl
        refine lv_lload hx hb dX1_depthFor_35 (lv_at hl 0 rfl) ?_
        refine lv_aload_n hx hb dX1_depthFor_37 rfl (lv_at hl 1 rfl) ?_
        refine va_get (D := G.1) (ci := 4) (v := .int re) (C := RX1) (T := TX1) (N := 5) hx hb hts igX1 hown hK hP 0 rfl rfl 4 (by decide) (hts _ q78) (fun _ h9 => h9) rfl dX1_depthFor_38 ?_
        have hPc := va_P.sub (ws' := []) hP [] rfl
        refine rdI (va_runSN (As := [.long r_2, .int re]) (rest := []) ⟨hx, hb, hml, hown, hts⟩ (kX2_has l G r_2 re h) ⟨va_cnB 2 hts (gdC q109) rfl rfl rfl (hN _ n107) (hts _ q1) (by decide +kernel) ⟨Nat.le_of_ble_eq_true rfl, Nat.le_of_ble_eq_true rfl⟩, hts _ q108, trivial⟩ (preS hPc hKK) rfl rfl hl.1 rfl (lv_room (Nat.le_of_ble_eq_true rfl)) dX1_depthFor_41 ⟨Nat.zero_le _, Nat.zero_le _⟩) (fun r_3 h => ?_)
        refine lv_if_ne (tgt := 50) hx hb dX1_depthFor_44 (by decide) (fun hc => ?_) (fun hc => ?_)
        · have h := h.1 hc
          refine lv_lload hx hb dX1_depthFor_50 (lv_at hl 0 rfl) ?_
          refine lv_lload hx hb dX1_depthFor_52 (lv_at hl 4 rfl) ?_
          refine W.lcmp hx hb dX1_depthFor_54 ?_
          refine lv_if_ne (tgt := 61) hx hb dX1_depthFor_55 (by decide) (fun hc => ?_) (fun hc => ?_)
          · have h := h.1 hc
            refine lv_lload hx hb dX1_depthFor_61 (lv_at hl 0 rfl) ?_
            refine lv_lstore hx hb dX1_depthFor_63 hl (Nat.le_of_ble_eq_true rfl) rfl (fun ls hl => ?_)
            have hl : lv_has ls 9 [(4, .long r_2), (7, .long r_2), (0, .ref s0), (1, .int p1), (2, .long p2), (6, .int i6)] := hl
            refine lv_iinc (v := (i6 + 1)) hx hb dX1_depthFor_65 hl (k := 5) rfl (by rw [show Int32.ofInt 1 = 1 from by decide]) (Nat.le_of_ble_eq_true rfl) rfl (fun ls hl => ?_)
            have hl : lv_has ls 9 [(6, .int (i6 + 1)), (4, .long r_2), (7, .long r_2), (0, .ref s0), (1, .int p1), (2, .long p2)] := hl
            refine lv_goto (tgt := 19) hx hb dX1_depthFor_68 (by decide) ?_
            have hl := lv_sub (l' := [(0, .ref s0), (1, .int p1), (2, .long p2), (4, .long r_2), (6, .int (i6 + 1))]) hl [3, 4, 5, 1, 0] rfl
            exact ih _ _ ls hl h
          · have h := h.2 hc
            refine lv_bipush (v := 99) hx hb dX1_depthFor_58 (by decide) ?_
            exact W.iret (v := (99 : Int32)) hx hb hr (fun t ht _ => ⟨_, rfl, h, ht⟩) (fun _ hq => absurd hq List.not_mem_nil) dX1_depthFor_60
        · have h := h.2 hc
          refine lv_iload hx hb dX1_depthFor_47 (lv_at hl 5 rfl) ?_
          exact W.iret (v := i6) hx hb hr (fun t ht _ => ⟨_, rfl, h, ht⟩) (fun _ hq => absurd hq List.not_mem_nil) dX1_depthFor_49
  refine lv_lload_n hx hb dX1_depthFor_0 rfl (lv_at hl 2 rfl) ?_
  refine lv_aload_n hx hb dX1_depthFor_1 rfl (lv_at hl 0 rfl) ?_
  refine va_get (D := G.1) (ci := 4) (v := .int re) (C := RX1) (T := TX1) (N := 5) hx hb hts igX1 hown hK hP 0 rfl rfl 4 (by decide) (hts _ q78) (fun _ h9 => h9) rfl dX1_depthFor_2 ?_
  have hPc := va_P.sub (ws' := []) hP [] rfl
  refine rdI (va_runSN (As := [.long p2, .int re]) (rest := []) ⟨hx, hb, hml, hown, hts⟩ (kX2_has l G p2 re h) ⟨va_cnB 2 hts (gdC q109) rfl rfl rfl (hN _ n107) (hts _ q1) (by decide +kernel) ⟨Nat.le_of_ble_eq_true rfl, Nat.le_of_ble_eq_true rfl⟩, hts _ q108, trivial⟩ (preS hPc hKK) rfl rfl hl.1 rfl (lv_room (Nat.le_of_ble_eq_true rfl)) dX1_depthFor_5 ⟨Nat.zero_le _, Nat.zero_le _⟩) (fun r_1 h => ?_)
  refine lv_if_ne (tgt := 13) hx hb dX1_depthFor_8 (by decide) (fun hc => ?_) (fun hc => ?_)
  · have h := h.1 hc
    refine lv_lload_n hx hb dX1_depthFor_13 rfl (lv_at hl 2 rfl) ?_
    refine lv_lstore hx hb dX1_depthFor_14 hl (Nat.le_of_ble_eq_true rfl) rfl (fun ls hl => ?_)
    have hl : lv_has ls 9 [(4, .long p2), (0, .ref s0), (1, .int p1), (2, .long p2)] := hl
    refine lv_iconst (v := 0) hx hb dX1_depthFor_16 (by decide) ?_
    refine lv_istore hx hb dX1_depthFor_17 hl (Nat.le_of_ble_eq_true rfl) rfl (fun ls hl => ?_)
    have hl : lv_has ls 9 [(6, .int (0 : Int32)), (4, .long p2), (0, .ref s0), (1, .int p1), (2, .long p2)] := hl
    have hl := lv_sub (l' := [(0, .ref s0), (1, .int p1), (2, .long p2), (4, .long p2), (6, .int (0 : Int32))]) hl [2, 3, 4, 1, 0] rfl
    obtain ⟨nF, h⟩ := h
    refine loop19 _ trivial ?_ nF p2 (0 : Int32) _ hl h
    · intro i4 i6 ls hl h
      refine lv_bipush (v := 99) hx hb dX1_depthFor_71 (by decide) ?_
      exact W.iret (v := (99 : Int32)) hx hb hr (fun t ht _ => ⟨_, rfl, h, ht⟩) (fun _ hq => absurd hq List.not_mem_nil) dX1_depthFor_73
  · have h := h.2 hc
    refine lv_iconst (v := (-1)) hx hb dX1_depthFor_11 (by decide) ?_
    exact W.iret (v := (-1 : Int32)) hx hb hr (fun t ht _ => ⟨_, rfl, h, ht⟩) (fun _ hq => absurd hq List.not_mem_nil) dX1_depthFor_12
theorem dX1_countTrueInAllOf_0 : decode cX1_countTrueInAllOf 0 = .ok (.iconst 0, 1) := by decide +kernel
theorem dX1_countTrueInAllOf_1 : decode cX1_countTrueInAllOf 1 = .ok (.istore_n 3, 1) := by decide +kernel
theorem dX1_countTrueInAllOf_2 : decode cX1_countTrueInAllOf 2 = .ok (.iconst 0, 1) := by decide +kernel
theorem dX1_countTrueInAllOf_3 : decode cX1_countTrueInAllOf 3 = .ok (.istore 4, 2) := by decide +kernel
theorem dX1_countTrueInAllOf_5 : decode cX1_countTrueInAllOf 5 = .ok (.iload 4, 2) := by decide +kernel
theorem dX1_countTrueInAllOf_7 : decode cX1_countTrueInAllOf 7 = .ok (.aload_n 0, 1) := by decide +kernel
theorem dX1_countTrueInAllOf_8 : decode cX1_countTrueInAllOf 8 = .ok (.getfield 18, 3) := by decide +kernel
theorem dX1_countTrueInAllOf_11 : decode cX1_countTrueInAllOf 11 = .ok (.invokevirtual 126, 3) := by decide +kernel
theorem dX1_countTrueInAllOf_14 : decode cX1_countTrueInAllOf 14 = .ok (.if_icmp .ge 25, 3) := by decide +kernel
theorem dX1_countTrueInAllOf_17 : decode cX1_countTrueInAllOf 17 = .ok (.lload_n 1, 1) := by decide +kernel
theorem dX1_countTrueInAllOf_18 : decode cX1_countTrueInAllOf 18 = .ok (.aload_n 0, 1) := by decide +kernel
theorem dX1_countTrueInAllOf_19 : decode cX1_countTrueInAllOf 19 = .ok (.iload 4, 2) := by decide +kernel
theorem dX1_countTrueInAllOf_21 : decode cX1_countTrueInAllOf 21 = .ok (.invokevirtual 77, 3) := by decide +kernel
theorem dX1_countTrueInAllOf_24 : decode cX1_countTrueInAllOf 24 = .ok (.invokestatic 110, 3) := by decide +kernel
theorem dX1_countTrueInAllOf_27 : decode cX1_countTrueInAllOf 27 = .ok (.ifCond .eq 6, 3) := by decide +kernel
theorem dX1_countTrueInAllOf_30 : decode cX1_countTrueInAllOf 30 = .ok (.iinc 3 1, 3) := by decide +kernel
theorem dX1_countTrueInAllOf_33 : decode cX1_countTrueInAllOf 33 = .ok (.iinc 4 1, 3) := by decide +kernel
theorem dX1_countTrueInAllOf_36 : decode cX1_countTrueInAllOf 36 = .ok (.goto (-31), 3) := by decide +kernel
theorem dX1_countTrueInAllOf_39 : decode cX1_countTrueInAllOf 39 = .ok (.iload_n 3, 1) := by decide +kernel
theorem dX1_countTrueInAllOf_40 : decode cX1_countTrueInAllOf 40 = .ok (.ireturn, 1) := by decide +kernel
def wX1_countTrueInAllOf_L5 (post : Int32 → Prop) (K39 : Int32 → Int32 → Prop) (wg : Nat → Int64) (bn : Int32) (p1 : Int64) : Nat → Int32 → Int32 → Prop
  | 0, _, _ => False
  | n+1, i3, i4 =>
    wX0_count (fun r_1 : Int32 =>
      ((r_1 ≤ i4) →
        K39 i3 i4
      ) ∧ (¬ (r_1 ≤ i4) →
        wX1_worldsOf (fun r_2 : Int64 =>
          wX2_isWithin (fun r_3 : Int32 =>
            ((r_3 = 0) →
              wX1_countTrueInAllOf_L5 post K39 wg bn p1 n i3 (i4 + 1)
            ) ∧ (¬ (r_3 = 0) →
              wX1_countTrueInAllOf_L5 post K39 wg bn p1 n (i3 + 1) (i4 + 1)
            )
            ) p1 r_2
          ) wg bn i4
      )
      ) bn
def wX1_countTrueInAllOf (post : Int32 → Prop) (wg : Nat → Int64) (bn : Int32) (p1 : Int64) : Prop :=
  ∃ nF, wX1_countTrueInAllOf_L5 post
    (fun i3 i4 =>
      post i3
    )
    wg bn p1 nF (0 : Int32) (0 : Int32)
abbrev wl_X1_countTrueInAllOf : List Cond := .code yX1_countTrueInAllOf cX1_countTrueInAllOf 5 (some .int) :: lwg
abbrev rm_X1_countTrueInAllOf : Room := { frames := 2, cells := 0, slots := 0, locals := 42 }
set_option maxHeartbeats 4000000 in
set_option maxRecDepth 100000 in
theorem kX1_countTrueInAllOf {post : Int32 → Prop} (l : Launch) (G : GT) (s0 : Nat) (s1 : Nat) (s2 : Nat) (b0 : Nat) (b1 : Nat) (b2 : Nat) (b3 : Nat) (b4 : Nat) (b5 : Nat) (b6 : Nat) (dk : Nat → Int64) (wg : Nat → Int64) (op : Int64) (re : Int32) (kf : Nat → Int32) (ff : Nat → Int32) (sf : Nat → Int32) (df : Nat → Int32) (pf : Nat → Int64) (gf : Nat → Int64) (bn : Int32) (p1 : Int64) (h : wX1_countTrueInAllOf post wg bn p1) : Met l yX1_countTrueInAllOf wl_X1_countTrueInAllOf rm_X1_countTrueInAllOf (va_Pc [.ref s0, .long p1] (fun U => PP G [(s0, .inr (4, [.ref b0, .ref s1, .ref s2, .long op, .int re])), (s1, .inl (G.2 1, 384, .inr (.inl dk))), (s2, .inl (G.2 1, 40, .inr (.inl wg))), (b0, .inr (3, [.ref b1, .ref b2, .ref b3, .ref b4, .ref b5, .ref b6, .int bn])), (b1, .inl (G.2 0, 40, .inl kf)), (b2, .inl (G.2 0, 40, .inl ff)), (b3, .inl (G.2 0, 40, .inl sf)), (b4, .inl (G.2 0, 40, .inl df)), (b5, .inl (G.2 1, 40, .inr (.inl pf))), (b6, .inl (G.2 1, 6, .inr (.inl gf)))] U.heap ∧ KK G U)) (vp_Si post) 0 0 (fun _ => False) := by
  refine Met.ofW (cc := cX1_countTrueInAllOf) (maxL := 5) (ret := (some .int)) (by decide) rfl ?_
  intro p e s m args below meth c s₁ B hml hv
  obtain ⟨rfl, hP, hKK⟩ := hv
  obtain ⟨hK, hN, hR, hFW, hNC⟩ := id hKK
  have hx := B.exec
  have hb := B.bytes
  have hr := B.returns
  have hts0 := atoms_spec (ws := wl_X1_countTrueInAllOf) B.pre
  have hts : ∀ w ∈ lwg, w.before ([.ref s0, .long p1] : List Value).toArray s = true := fun w hw => hts0 w (List.mem_cons_of_mem _ hw)
  have hown : s.vm.findClass RX1 = some m.cls := findClass_of_methodNamed B.named
  have hlocks := B.notSynchronized
  have hP : PP G [(s0, .inr (4, [.ref b0, .ref s1, .ref s2, .long op, .int re])), (s1, .inl (G.2 1, 384, .inr (.inl dk))), (s2, .inl (G.2 1, 40, .inr (.inl wg))), (b0, .inr (3, [.ref b1, .ref b2, .ref b3, .ref b4, .ref b5, .ref b6, .int bn])), (b1, .inl (G.2 0, 40, .inl kf)), (b2, .inl (G.2 0, 40, .inl ff)), (b3, .inl (G.2 0, 40, .inl sf)), (b4, .inl (G.2 0, 40, .inl df)), (b5, .inl (G.2 1, 40, .inr (.inl pf))), (b6, .inl (G.2 1, 6, .inr (.inl gf)))] s.heap := hP
  have hl := lv_entry ([.ref s0, .long p1]) (n := 5) (Nat.le_of_ble_eq_true rfl)
  rw [lg_entry_eq]
  generalize (lg_sl ([.ref s0, .long p1]) ++ List.replicate (5 - (lg_sl ([.ref s0, .long p1])).length) Slot.unset).toArray = ls at hl ⊢
  have hl : lv_has ls 5 [(0, .ref s0), (1, .long p1)] := hl
  have loop5 : ∀ (K39 : Int32 → Int32 → Prop), True → (∀ (i3 : Int32) (i4 : Int32) (ls : Array Slot), lv_has ls 5 [(0, .ref s0), (1, .long p1), (3, .int i3), (4, .int i4)] → K39 i3 i4 → W p l e (headSpec (wl_X1_countTrueInAllOf) rm_X1_countTrueInAllOf).room s m ([.ref s0, .long p1] : List Value).toArray below meth c s.heap [] 0 0 (MQ below (vp_Si post) ([.ref s0, .long p1] : List Value).toArray s 0 0 (fun _ => False)) (F0 m 39 ls [])) → ∀ (n : Nat) (i3 : Int32) (i4 : Int32) (ls : Array Slot), lv_has ls 5 [(0, .ref s0), (1, .long p1), (3, .int i3), (4, .int i4)] → wX1_countTrueInAllOf_L5 post K39 wg bn p1 n i3 i4 → W p l e (headSpec (wl_X1_countTrueInAllOf) rm_X1_countTrueInAllOf).room s m ([.ref s0, .long p1] : List Value).toArray below meth c s.heap [] 0 0 (MQ below (vp_Si post) ([.ref s0, .long p1] : List Value).toArray s 0 0 (fun _ => False)) (F0 m 5 ls []) := by
    intro K39 _ hexit39 n
    induction n with
    | zero => intro i3 i4 ls hl h; exact False.elim h
    | succ n ih =>
      intro i3 i4 ls hl h
      refine lv_iload hx hb dX1_countTrueInAllOf_5 (lv_at hl 3 rfl) ?_
      refine lv_aload_n hx hb dX1_countTrueInAllOf_7 rfl (lv_at hl 0 rfl) ?_
      refine va_get (D := G.1) (ci := 4) (v := .ref b0) (C := RX1) (T := TX1) (N := 5) hx hb hts igX1 hown hK hP 0 rfl rfl 0 (by decide) (hts _ q73) (fun _ h9 => h9) rfl dX1_countTrueInAllOf_8 ?_
      have hPc := va_P.sub (ws' := [(b0, .inr (3, [.ref b1, .ref b2, .ref b3, .ref b4, .ref b5, .ref b6, .int bn])), (b1, .inl (G.2 0, 40, .inl kf)), (b2, .inl (G.2 0, 40, .inl ff)), (b3, .inl (G.2 0, 40, .inl sf)), (b4, .inl (G.2 0, 40, .inl df)), (b5, .inl (G.2 1, 40, .inr (.inl pf))), (b6, .inl (G.2 1, 6, .inr (.inl gf)))]) hP [3, 4, 5, 6, 7, 8, 9] rfl
      refine rdI (va_runV (C := RX0) (As := []) (rest := [.int i4]) ⟨hx, hb, hml, hown, hts⟩ (kX0_count l G b0 b1 b2 b3 b4 b5 b6 kf ff sf df pf gf bn h) (cwV 0 hts (gdV q262 q224 q225 q2 q226) rfl rfl rfl (by decide +kernel) ⟨Nat.le_of_ble_eq_true rfl, Nat.le_of_ble_eq_true rfl⟩) (preV hPc hKK (va_recv hK hPc (ci := 3) (q0 := 0) rfl rfl)) rfl rfl hl.1 rfl (lv_room (Nat.le_of_ble_eq_true rfl)) dX1_countTrueInAllOf_11 ⟨Nat.zero_le _, Nat.zero_le _⟩) (fun r_1 h => ?_)
      refine lv_icmp_ge (tgt := 39) hx hb dX1_countTrueInAllOf_14 (by decide) (fun hc => ?_) (fun hc => ?_)
      · have h := h.1 hc
        have hl := lv_sub (l' := [(0, .ref s0), (1, .long p1), (3, .int i3), (4, .int i4)]) hl [0, 1, 2, 3] rfl
        exact hexit39 _ _ ls hl h
      · have h := h.2 hc
        refine lv_lload_n hx hb dX1_countTrueInAllOf_17 rfl (lv_at hl 1 rfl) ?_
        refine lv_aload_n hx hb dX1_countTrueInAllOf_18 rfl (lv_at hl 0 rfl) ?_
        refine lv_iload hx hb dX1_countTrueInAllOf_19 (lv_at hl 3 rfl) ?_
        have hPc := hP
        refine rdL (va_runV (C := RX1) (As := [.int i4]) (rest := [.long p1]) ⟨hx, hb, hml, hown, hts⟩ (kX1_worldsOf l G s0 s1 s2 b0 b1 b2 b3 b4 b5 b6 dk wg op re kf ff sf df pf gf bn i4 h) (cwV 1 hts (gdV q134 q135 q136 q3 q137) rfl rfl rfl (by decide +kernel) ⟨Nat.le_of_ble_eq_true rfl, Nat.le_of_ble_eq_true rfl⟩) (preV hPc hKK (va_recv hK hPc (ci := 4) (q0 := 0) rfl rfl)) rfl rfl hl.1 rfl (lv_room (Nat.le_of_ble_eq_true rfl)) dX1_countTrueInAllOf_21 ⟨Nat.zero_le _, Nat.zero_le _⟩) (fun r_2 h => ?_)
        have hPc := va_P.sub (ws' := []) hP [] rfl
        refine rdI (va_runSN (As := [.long p1, .long r_2]) (rest := []) ⟨hx, hb, hml, hown, hts⟩ (kX2_isWithin l G p1 r_2 h) ⟨va_cnB 2 hts (gdC q174) rfl rfl rfl (hN _ n172) (hts _ q1) (by decide +kernel) ⟨Nat.le_of_ble_eq_true rfl, Nat.le_of_ble_eq_true rfl⟩, hts _ q173, trivial⟩ (preS hPc hKK) rfl rfl hl.1 rfl (lv_room (Nat.le_of_ble_eq_true rfl)) dX1_countTrueInAllOf_24 ⟨Nat.zero_le _, Nat.zero_le _⟩) (fun r_3 h => ?_)
        refine lv_if_eq (tgt := 33) hx hb dX1_countTrueInAllOf_27 (by decide) (fun hc => ?_) (fun hc => ?_)
        · have h := h.1 hc
          refine lv_iinc (v := (i4 + 1)) hx hb dX1_countTrueInAllOf_33 hl (k := 3) rfl (by rw [show Int32.ofInt 1 = 1 from by decide]) (Nat.le_of_ble_eq_true rfl) rfl (fun ls hl => ?_)
          have hl : lv_has ls 5 [(4, .int (i4 + 1)), (0, .ref s0), (1, .long p1), (3, .int i3)] := hl
          refine lv_goto (tgt := 5) hx hb dX1_countTrueInAllOf_36 (by decide) ?_
          have hl := lv_sub (l' := [(0, .ref s0), (1, .long p1), (3, .int i3), (4, .int (i4 + 1))]) hl [1, 2, 3, 0] rfl
          exact ih _ _ ls hl h
        · have h := h.2 hc
          refine lv_iinc (v := (i3 + 1)) hx hb dX1_countTrueInAllOf_30 hl (k := 2) rfl (by rw [show Int32.ofInt 1 = 1 from by decide]) (Nat.le_of_ble_eq_true rfl) rfl (fun ls hl => ?_)
          have hl : lv_has ls 5 [(3, .int (i3 + 1)), (0, .ref s0), (1, .long p1), (4, .int i4)] := hl
          refine lv_iinc (v := (i4 + 1)) hx hb dX1_countTrueInAllOf_33 hl (k := 3) rfl (by rw [show Int32.ofInt 1 = 1 from by decide]) (Nat.le_of_ble_eq_true rfl) rfl (fun ls hl => ?_)
          have hl : lv_has ls 5 [(4, .int (i4 + 1)), (3, .int (i3 + 1)), (0, .ref s0), (1, .long p1)] := hl
          refine lv_goto (tgt := 5) hx hb dX1_countTrueInAllOf_36 (by decide) ?_
          have hl := lv_sub (l' := [(0, .ref s0), (1, .long p1), (3, .int (i3 + 1)), (4, .int (i4 + 1))]) hl [2, 3, 1, 0] rfl
          exact ih _ _ ls hl h
  refine lv_iconst (v := 0) hx hb dX1_countTrueInAllOf_0 (by decide) ?_
  refine lv_istore_n hx hb dX1_countTrueInAllOf_1 rfl hl (Nat.le_of_ble_eq_true rfl) rfl (fun ls hl => ?_)
  have hl : lv_has ls 5 [(3, .int (0 : Int32)), (0, .ref s0), (1, .long p1)] := hl
  refine lv_iconst (v := 0) hx hb dX1_countTrueInAllOf_2 (by decide) ?_
  refine lv_istore hx hb dX1_countTrueInAllOf_3 hl (Nat.le_of_ble_eq_true rfl) rfl (fun ls hl => ?_)
  have hl : lv_has ls 5 [(4, .int (0 : Int32)), (3, .int (0 : Int32)), (0, .ref s0), (1, .long p1)] := hl
  have hl := lv_sub (l' := [(0, .ref s0), (1, .long p1), (3, .int (0 : Int32)), (4, .int (0 : Int32))]) hl [2, 3, 1, 0] rfl
  obtain ⟨nF, h⟩ := h
  refine loop5 _ trivial ?_ nF (0 : Int32) (0 : Int32) _ hl h
  · intro i3 i4 ls hl h
    refine lv_iload_n hx hb dX1_countTrueInAllOf_39 rfl (lv_at hl 2 rfl) ?_
    exact W.iret (v := i3) hx hb hr (fun t ht _ => ⟨_, rfl, h, ht⟩) (fun _ hq => absurd hq List.not_mem_nil) dX1_countTrueInAllOf_40
theorem dX1_countTrueInReal_0 : decode cX1_countTrueInReal 0 = .ok (.aload_n 0, 1) := by decide +kernel
theorem dX1_countTrueInReal_1 : decode cX1_countTrueInReal 1 = .ok (.aload_n 0, 1) := by decide +kernel
theorem dX1_countTrueInReal_2 : decode cX1_countTrueInReal 2 = .ok (.getfield 22, 3) := by decide +kernel
theorem dX1_countTrueInReal_5 : decode cX1_countTrueInReal 5 = .ok (.invokestatic 104, 3) := by decide +kernel
theorem dX1_countTrueInReal_8 : decode cX1_countTrueInReal 8 = .ok (.invokevirtual 123, 3) := by decide +kernel
theorem dX1_countTrueInReal_11 : decode cX1_countTrueInReal 11 = .ok (.ireturn, 1) := by decide +kernel
def wX1_countTrueInReal (post : Int32 → Prop) (wg : Nat → Int64) (re : Int32) (bn : Int32) : Prop :=
  wX2_setOf (fun r_1 : Int64 =>
    wX1_countTrueInAllOf (fun r_2 : Int32 =>
      post r_2
      ) wg bn r_1
    ) re
abbrev wl_X1_countTrueInReal : List Cond := .code yX1_countTrueInReal cX1_countTrueInReal 1 (some .int) :: lwg
abbrev rm_X1_countTrueInReal : Room := { frames := 3, cells := 0, slots := 0, locals := 66 }
set_option maxHeartbeats 4000000 in
set_option maxRecDepth 100000 in
theorem kX1_countTrueInReal {post : Int32 → Prop} (l : Launch) (G : GT) (s0 : Nat) (s1 : Nat) (s2 : Nat) (b0 : Nat) (b1 : Nat) (b2 : Nat) (b3 : Nat) (b4 : Nat) (b5 : Nat) (b6 : Nat) (dk : Nat → Int64) (wg : Nat → Int64) (op : Int64) (re : Int32) (kf : Nat → Int32) (ff : Nat → Int32) (sf : Nat → Int32) (df : Nat → Int32) (pf : Nat → Int64) (gf : Nat → Int64) (bn : Int32) (h : wX1_countTrueInReal post wg re bn) : Met l yX1_countTrueInReal wl_X1_countTrueInReal rm_X1_countTrueInReal (va_Pc [.ref s0] (fun U => PP G [(s0, .inr (4, [.ref b0, .ref s1, .ref s2, .long op, .int re])), (s1, .inl (G.2 1, 384, .inr (.inl dk))), (s2, .inl (G.2 1, 40, .inr (.inl wg))), (b0, .inr (3, [.ref b1, .ref b2, .ref b3, .ref b4, .ref b5, .ref b6, .int bn])), (b1, .inl (G.2 0, 40, .inl kf)), (b2, .inl (G.2 0, 40, .inl ff)), (b3, .inl (G.2 0, 40, .inl sf)), (b4, .inl (G.2 0, 40, .inl df)), (b5, .inl (G.2 1, 40, .inr (.inl pf))), (b6, .inl (G.2 1, 6, .inr (.inl gf)))] U.heap ∧ KK G U)) (vp_Si post) 0 0 (fun _ => False) := by
  refine Met.ofW (cc := cX1_countTrueInReal) (maxL := 1) (ret := (some .int)) (by decide) rfl ?_
  intro p e s m args below meth c s₁ B hml hv
  obtain ⟨rfl, hP, hKK⟩ := hv
  obtain ⟨hK, hN, hR, hFW, hNC⟩ := id hKK
  have hx := B.exec
  have hb := B.bytes
  have hr := B.returns
  have hts0 := atoms_spec (ws := wl_X1_countTrueInReal) B.pre
  have hts : ∀ w ∈ lwg, w.before ([.ref s0] : List Value).toArray s = true := fun w hw => hts0 w (List.mem_cons_of_mem _ hw)
  have hown : s.vm.findClass RX1 = some m.cls := findClass_of_methodNamed B.named
  have hlocks := B.notSynchronized
  have hP : PP G [(s0, .inr (4, [.ref b0, .ref s1, .ref s2, .long op, .int re])), (s1, .inl (G.2 1, 384, .inr (.inl dk))), (s2, .inl (G.2 1, 40, .inr (.inl wg))), (b0, .inr (3, [.ref b1, .ref b2, .ref b3, .ref b4, .ref b5, .ref b6, .int bn])), (b1, .inl (G.2 0, 40, .inl kf)), (b2, .inl (G.2 0, 40, .inl ff)), (b3, .inl (G.2 0, 40, .inl sf)), (b4, .inl (G.2 0, 40, .inl df)), (b5, .inl (G.2 1, 40, .inr (.inl pf))), (b6, .inl (G.2 1, 6, .inr (.inl gf)))] s.heap := hP
  have hl := lv_entry ([.ref s0]) (n := 1) (Nat.le_of_ble_eq_true rfl)
  rw [lg_entry_eq]
  generalize (lg_sl ([.ref s0]) ++ List.replicate (1 - (lg_sl ([.ref s0])).length) Slot.unset).toArray = ls at hl ⊢
  have hl : lv_has ls 1 [(0, .ref s0)] := hl
  refine lv_aload_n hx hb dX1_countTrueInReal_0 rfl (lv_at hl 0 rfl) ?_
  refine lv_aload_n hx hb dX1_countTrueInReal_1 rfl (lv_at hl 0 rfl) ?_
  refine va_get (D := G.1) (ci := 4) (v := .int re) (C := RX1) (T := TX1) (N := 5) hx hb hts igX1 hown hK hP 0 rfl rfl 4 (by decide) (hts _ q78) (fun _ h9 => h9) rfl dX1_countTrueInReal_2 ?_
  have hPc := va_P.sub (ws' := []) hP [] rfl
  refine rdL (va_runSN (As := [.int re]) (rest := [.ref s0]) ⟨hx, hb, hml, hown, hts⟩ (kX2_setOf l G re h) ⟨va_cnB 1 hts (gdC q102) rfl rfl rfl (hN _ n257) (hts _ q1) (by decide +kernel) ⟨Nat.le_of_ble_eq_true rfl, Nat.le_of_ble_eq_true rfl⟩, hts _ q101, trivial⟩ (preS hPc hKK) rfl rfl hl.1 rfl (lv_room (Nat.le_of_ble_eq_true rfl)) dX1_countTrueInReal_5 ⟨Nat.zero_le _, Nat.zero_le _⟩) (fun r_1 h => ?_)
  have hPc := hP
  refine rdI (va_runV (C := RX1) (As := [.long r_1]) (rest := []) ⟨hx, hb, hml, hown, hts⟩ (kX1_countTrueInAllOf l G s0 s1 s2 b0 b1 b2 b3 b4 b5 b6 dk wg op re kf ff sf df pf gf bn r_1 h) (cwV 1 hts (gdV q258 q259 q260 q3 q261) rfl rfl rfl (by decide +kernel) ⟨Nat.le_of_ble_eq_true rfl, Nat.le_of_ble_eq_true rfl⟩) (preV hPc hKK (va_recv hK hPc (ci := 4) (q0 := 0) rfl rfl)) rfl rfl hl.1 rfl (lv_room (Nat.le_of_ble_eq_true rfl)) dX1_countTrueInReal_8 ⟨Nat.zero_le _, Nat.zero_le _⟩) (fun r_2 h => ?_)
  exact W.iret (v := r_2) hx hb hr (fun t ht _ => ⟨_, rfl, h, ht⟩) (fun _ hq => absurd hq List.not_mem_nil) dX1_countTrueInReal_11
theorem dX1_countKnownBy_0 : decode cX1_countKnownBy 0 = .ok (.aload_n 0, 1) := by decide +kernel
theorem dX1_countKnownBy_1 : decode cX1_countKnownBy 1 = .ok (.aload_n 0, 1) := by decide +kernel
theorem dX1_countKnownBy_2 : decode cX1_countKnownBy 2 = .ok (.iload_n 1, 1) := by decide +kernel
theorem dX1_countKnownBy_3 : decode cX1_countKnownBy 3 = .ok (.aload_n 0, 1) := by decide +kernel
theorem dX1_countKnownBy_4 : decode cX1_countKnownBy 4 = .ok (.getfield 22, 3) := by decide +kernel
theorem dX1_countKnownBy_7 : decode cX1_countKnownBy 7 = .ok (.invokevirtual 93, 3) := by decide +kernel
theorem dX1_countKnownBy_10 : decode cX1_countKnownBy 10 = .ok (.invokevirtual 123, 3) := by decide +kernel
theorem dX1_countKnownBy_13 : decode cX1_countKnownBy 13 = .ok (.ireturn, 1) := by decide +kernel
def wX1_countKnownBy (post : Int32 → Prop) (dk : Nat → Int64) (wg : Nat → Int64) (op : Int64) (re : Int32) (bn : Int32) (p1 : Int32) : Prop :=
  wX1_cell (fun r_1 : Int64 =>
    wX1_countTrueInAllOf (fun r_2 : Int32 =>
      post r_2
      ) wg bn r_1
    ) dk op p1 re
abbrev wl_X1_countKnownBy : List Cond := .code yX1_countKnownBy cX1_countKnownBy 2 (some .int) :: lwg
abbrev rm_X1_countKnownBy : Room := { frames := 3, cells := 0, slots := 0, locals := 66 }
set_option maxHeartbeats 4000000 in
set_option maxRecDepth 100000 in
theorem kX1_countKnownBy {post : Int32 → Prop} (l : Launch) (G : GT) (s0 : Nat) (s1 : Nat) (s2 : Nat) (b0 : Nat) (b1 : Nat) (b2 : Nat) (b3 : Nat) (b4 : Nat) (b5 : Nat) (b6 : Nat) (dk : Nat → Int64) (wg : Nat → Int64) (op : Int64) (re : Int32) (kf : Nat → Int32) (ff : Nat → Int32) (sf : Nat → Int32) (df : Nat → Int32) (pf : Nat → Int64) (gf : Nat → Int64) (bn : Int32) (p1 : Int32) (h : wX1_countKnownBy post dk wg op re bn p1) : Met l yX1_countKnownBy wl_X1_countKnownBy rm_X1_countKnownBy (va_Pc [.ref s0, .int p1] (fun U => PP G [(s0, .inr (4, [.ref b0, .ref s1, .ref s2, .long op, .int re])), (s1, .inl (G.2 1, 384, .inr (.inl dk))), (s2, .inl (G.2 1, 40, .inr (.inl wg))), (b0, .inr (3, [.ref b1, .ref b2, .ref b3, .ref b4, .ref b5, .ref b6, .int bn])), (b1, .inl (G.2 0, 40, .inl kf)), (b2, .inl (G.2 0, 40, .inl ff)), (b3, .inl (G.2 0, 40, .inl sf)), (b4, .inl (G.2 0, 40, .inl df)), (b5, .inl (G.2 1, 40, .inr (.inl pf))), (b6, .inl (G.2 1, 6, .inr (.inl gf)))] U.heap ∧ KK G U)) (vp_Si post) 0 0 (fun _ => False) := by
  refine Met.ofW (cc := cX1_countKnownBy) (maxL := 2) (ret := (some .int)) (by decide) rfl ?_
  intro p e s m args below meth c s₁ B hml hv
  obtain ⟨rfl, hP, hKK⟩ := hv
  obtain ⟨hK, hN, hR, hFW, hNC⟩ := id hKK
  have hx := B.exec
  have hb := B.bytes
  have hr := B.returns
  have hts0 := atoms_spec (ws := wl_X1_countKnownBy) B.pre
  have hts : ∀ w ∈ lwg, w.before ([.ref s0, .int p1] : List Value).toArray s = true := fun w hw => hts0 w (List.mem_cons_of_mem _ hw)
  have hown : s.vm.findClass RX1 = some m.cls := findClass_of_methodNamed B.named
  have hlocks := B.notSynchronized
  have hP : PP G [(s0, .inr (4, [.ref b0, .ref s1, .ref s2, .long op, .int re])), (s1, .inl (G.2 1, 384, .inr (.inl dk))), (s2, .inl (G.2 1, 40, .inr (.inl wg))), (b0, .inr (3, [.ref b1, .ref b2, .ref b3, .ref b4, .ref b5, .ref b6, .int bn])), (b1, .inl (G.2 0, 40, .inl kf)), (b2, .inl (G.2 0, 40, .inl ff)), (b3, .inl (G.2 0, 40, .inl sf)), (b4, .inl (G.2 0, 40, .inl df)), (b5, .inl (G.2 1, 40, .inr (.inl pf))), (b6, .inl (G.2 1, 6, .inr (.inl gf)))] s.heap := hP
  have hl := lv_entry ([.ref s0, .int p1]) (n := 2) (Nat.le_of_ble_eq_true rfl)
  rw [lg_entry_eq]
  generalize (lg_sl ([.ref s0, .int p1]) ++ List.replicate (2 - (lg_sl ([.ref s0, .int p1])).length) Slot.unset).toArray = ls at hl ⊢
  have hl : lv_has ls 2 [(0, .ref s0), (1, .int p1)] := hl
  refine lv_aload_n hx hb dX1_countKnownBy_0 rfl (lv_at hl 0 rfl) ?_
  refine lv_aload_n hx hb dX1_countKnownBy_1 rfl (lv_at hl 0 rfl) ?_
  refine lv_iload_n hx hb dX1_countKnownBy_2 rfl (lv_at hl 1 rfl) ?_
  refine lv_aload_n hx hb dX1_countKnownBy_3 rfl (lv_at hl 0 rfl) ?_
  refine va_get (D := G.1) (ci := 4) (v := .int re) (C := RX1) (T := TX1) (N := 5) hx hb hts igX1 hown hK hP 0 rfl rfl 4 (by decide) (hts _ q78) (fun _ h9 => h9) rfl dX1_countKnownBy_4 ?_
  have hPc := hP
  refine rdL (va_runV (C := RX1) (As := [.int p1, .int re]) (rest := [.ref s0]) ⟨hx, hb, hml, hown, hts⟩ (kX1_cell l G s0 s1 s2 b0 b1 b2 b3 b4 b5 b6 dk wg op re kf ff sf df pf gf bn p1 re h) (cwV 2 hts (gdV q156 q157 q158 q3 q159) rfl rfl rfl (by decide +kernel) ⟨Nat.le_of_ble_eq_true rfl, Nat.le_of_ble_eq_true rfl⟩) (preV hPc hKK (va_recv hK hPc (ci := 4) (q0 := 0) rfl rfl)) rfl rfl hl.1 rfl (lv_room (Nat.le_of_ble_eq_true rfl)) dX1_countKnownBy_7 ⟨Nat.zero_le _, Nat.zero_le _⟩) (fun r_1 h => ?_)
  have hPc := hP
  refine rdI (va_runV (C := RX1) (As := [.long r_1]) (rest := []) ⟨hx, hb, hml, hown, hts⟩ (kX1_countTrueInAllOf l G s0 s1 s2 b0 b1 b2 b3 b4 b5 b6 dk wg op re kf ff sf df pf gf bn r_1 h) (cwV 1 hts (gdV q258 q259 q260 q3 q261) rfl rfl rfl (by decide +kernel) ⟨Nat.le_of_ble_eq_true rfl, Nat.le_of_ble_eq_true rfl⟩) (preV hPc hKK (va_recv hK hPc (ci := 4) (q0 := 0) rfl rfl)) rfl rfl hl.1 rfl (lv_room (Nat.le_of_ble_eq_true rfl)) dX1_countKnownBy_10 ⟨Nat.zero_le _, Nat.zero_le _⟩) (fun r_2 h => ?_)
  exact W.iret (v := r_2) hx hb hr (fun t ht _ => ⟨_, rfl, h, ht⟩) (fun _ hq => absurd hq List.not_mem_nil) dX1_countKnownBy_13
theorem dX1_countCells_0 : decode cX1_countCells 0 = .ok (.iconst 0, 1) := by decide +kernel
theorem dX1_countCells_1 : decode cX1_countCells 1 = .ok (.istore_n 2, 1) := by decide +kernel
theorem dX1_countCells_2 : decode cX1_countCells 2 = .ok (.aload_n 0, 1) := by decide +kernel
theorem dX1_countCells_3 : decode cX1_countCells 3 = .ok (.getfield 28, 3) := by decide +kernel
theorem dX1_countCells_6 : decode cX1_countCells 6 = .ok (.lstore_n 3, 1) := by decide +kernel
theorem dX1_countCells_7 : decode cX1_countCells 7 = .ok (.iconst 0, 1) := by decide +kernel
theorem dX1_countCells_8 : decode cX1_countCells 8 = .ok (.istore 5, 2) := by decide +kernel
theorem dX1_countCells_10 : decode cX1_countCells 10 = .ok (.iload 5, 2) := by decide +kernel
theorem dX1_countCells_12 : decode cX1_countCells 12 = .ok (.bipush 64, 2) := by decide +kernel
theorem dX1_countCells_14 : decode cX1_countCells 14 = .ok (.if_icmp .ge 34, 3) := by decide +kernel
theorem dX1_countCells_17 : decode cX1_countCells 17 = .ok (.lload_n 3, 1) := by decide +kernel
theorem dX1_countCells_18 : decode cX1_countCells 18 = .ok (.lconst 0, 1) := by decide +kernel
theorem dX1_countCells_19 : decode cX1_countCells 19 = .ok (.lcmp, 1) := by decide +kernel
theorem dX1_countCells_20 : decode cX1_countCells 20 = .ok (.ifCond .eq 28, 3) := by decide +kernel
theorem dX1_countCells_23 : decode cX1_countCells 23 = .ok (.lload_n 3, 1) := by decide +kernel
theorem dX1_countCells_24 : decode cX1_countCells 24 = .ok (.aload_n 0, 1) := by decide +kernel
theorem dX1_countCells_25 : decode cX1_countCells 25 = .ok (.iload_n 1, 1) := by decide +kernel
theorem dX1_countCells_26 : decode cX1_countCells 26 = .ok (.lload_n 3, 1) := by decide +kernel
theorem dX1_countCells_27 : decode cX1_countCells 27 = .ok (.invokestatic 97, 3) := by decide +kernel
theorem dX1_countCells_30 : decode cX1_countCells 30 = .ok (.invokevirtual 93, 3) := by decide +kernel
theorem dX1_countCells_33 : decode cX1_countCells 33 = .ok (.ldc2_w 26, 3) := by decide +kernel
theorem dX1_countCells_36 : decode cX1_countCells 36 = .ok (.lxor, 1) := by decide +kernel
theorem dX1_countCells_37 : decode cX1_countCells 37 = .ok (.land, 1) := by decide +kernel
theorem dX1_countCells_38 : decode cX1_countCells 38 = .ok (.lstore_n 3, 1) := by decide +kernel
theorem dX1_countCells_39 : decode cX1_countCells 39 = .ok (.iinc 2 1, 3) := by decide +kernel
theorem dX1_countCells_42 : decode cX1_countCells 42 = .ok (.iinc 5 1, 3) := by decide +kernel
theorem dX1_countCells_45 : decode cX1_countCells 45 = .ok (.goto (-35), 3) := by decide +kernel
theorem dX1_countCells_48 : decode cX1_countCells 48 = .ok (.iload_n 2, 1) := by decide +kernel
theorem dX1_countCells_49 : decode cX1_countCells 49 = .ok (.ireturn, 1) := by decide +kernel
def wX1_countCells_L10 (post : Int32 → Prop) (K48 : Int32 → Int64 → Int32 → Prop) (dk : Nat → Int64) (op : Int64) (p1 : Int32) : Nat → Int32 → Int64 → Int32 → Prop
  | 0, _, _, _ => False
  | n+1, i2, i3, i5 =>
    (((64 : Int32) ≤ i5) →
      K48 i2 i3 i5
    ) ∧ (¬ ((64 : Int32) ≤ i5) →
      (((lg_cmp i3 (0 : Int64)) = 0) →
        K48 i2 i3 i5
      ) ∧ (¬ ((lg_cmp i3 (0 : Int64)) = 0) →
        wX2_smallestOf (fun r_1 : Int32 =>
          wX1_cell (fun r_2 : Int64 =>
            wX1_countCells_L10 post K48 dk op p1 n (i2 + 1) (i3 &&& (r_2 ^^^ (-1 : Int64))) (i5 + 1)
            ) dk op p1 r_1
          ) i3
      )
    )
def wX1_countCells (post : Int32 → Prop) (dk : Nat → Int64) (op : Int64) (p1 : Int32) : Prop :=
  ∃ nF, wX1_countCells_L10 post
    (fun i2 i3 i5 =>
      post i2
    )
    dk op p1 nF (0 : Int32) op (0 : Int32)
abbrev wl_X1_countCells : List Cond := .code yX1_countCells cX1_countCells 6 (some .int) :: lwg
abbrev rm_X1_countCells : Room := { frames := 2, cells := 0, slots := 0, locals := 42 }
set_option maxHeartbeats 4000000 in
set_option maxRecDepth 100000 in
theorem kX1_countCells {post : Int32 → Prop} (l : Launch) (G : GT) (s0 : Nat) (s1 : Nat) (s2 : Nat) (b0 : Nat) (b1 : Nat) (b2 : Nat) (b3 : Nat) (b4 : Nat) (b5 : Nat) (b6 : Nat) (dk : Nat → Int64) (wg : Nat → Int64) (op : Int64) (re : Int32) (kf : Nat → Int32) (ff : Nat → Int32) (sf : Nat → Int32) (df : Nat → Int32) (pf : Nat → Int64) (gf : Nat → Int64) (bn : Int32) (p1 : Int32) (h : wX1_countCells post dk op p1) : Met l yX1_countCells wl_X1_countCells rm_X1_countCells (va_Pc [.ref s0, .int p1] (fun U => PP G [(s0, .inr (4, [.ref b0, .ref s1, .ref s2, .long op, .int re])), (s1, .inl (G.2 1, 384, .inr (.inl dk))), (s2, .inl (G.2 1, 40, .inr (.inl wg))), (b0, .inr (3, [.ref b1, .ref b2, .ref b3, .ref b4, .ref b5, .ref b6, .int bn])), (b1, .inl (G.2 0, 40, .inl kf)), (b2, .inl (G.2 0, 40, .inl ff)), (b3, .inl (G.2 0, 40, .inl sf)), (b4, .inl (G.2 0, 40, .inl df)), (b5, .inl (G.2 1, 40, .inr (.inl pf))), (b6, .inl (G.2 1, 6, .inr (.inl gf)))] U.heap ∧ KK G U)) (vp_Si post) 0 0 (fun _ => False) := by
  refine Met.ofW (cc := cX1_countCells) (maxL := 6) (ret := (some .int)) (by decide) rfl ?_
  intro p e s m args below meth c s₁ B hml hv
  obtain ⟨rfl, hP, hKK⟩ := hv
  obtain ⟨hK, hN, hR, hFW, hNC⟩ := id hKK
  have hx := B.exec
  have hb := B.bytes
  have hr := B.returns
  have hts0 := atoms_spec (ws := wl_X1_countCells) B.pre
  have hts : ∀ w ∈ lwg, w.before ([.ref s0, .int p1] : List Value).toArray s = true := fun w hw => hts0 w (List.mem_cons_of_mem _ hw)
  have hown : s.vm.findClass RX1 = some m.cls := findClass_of_methodNamed B.named
  have hlocks := B.notSynchronized
  have hP : PP G [(s0, .inr (4, [.ref b0, .ref s1, .ref s2, .long op, .int re])), (s1, .inl (G.2 1, 384, .inr (.inl dk))), (s2, .inl (G.2 1, 40, .inr (.inl wg))), (b0, .inr (3, [.ref b1, .ref b2, .ref b3, .ref b4, .ref b5, .ref b6, .int bn])), (b1, .inl (G.2 0, 40, .inl kf)), (b2, .inl (G.2 0, 40, .inl ff)), (b3, .inl (G.2 0, 40, .inl sf)), (b4, .inl (G.2 0, 40, .inl df)), (b5, .inl (G.2 1, 40, .inr (.inl pf))), (b6, .inl (G.2 1, 6, .inr (.inl gf)))] s.heap := hP
  have hl := lv_entry ([.ref s0, .int p1]) (n := 6) (Nat.le_of_ble_eq_true rfl)
  rw [lg_entry_eq]
  generalize (lg_sl ([.ref s0, .int p1]) ++ List.replicate (6 - (lg_sl ([.ref s0, .int p1])).length) Slot.unset).toArray = ls at hl ⊢
  have hl : lv_has ls 6 [(0, .ref s0), (1, .int p1)] := hl
  have loop10 : ∀ (K48 : Int32 → Int64 → Int32 → Prop), True → (∀ (i2 : Int32) (i3 : Int64) (i5 : Int32) (ls : Array Slot), lv_has ls 6 [(0, .ref s0), (1, .int p1), (2, .int i2), (3, .long i3), (5, .int i5)] → K48 i2 i3 i5 → W p l e (headSpec (wl_X1_countCells) rm_X1_countCells).room s m ([.ref s0, .int p1] : List Value).toArray below meth c s.heap [] 0 0 (MQ below (vp_Si post) ([.ref s0, .int p1] : List Value).toArray s 0 0 (fun _ => False)) (F0 m 48 ls [])) → ∀ (n : Nat) (i2 : Int32) (i3 : Int64) (i5 : Int32) (ls : Array Slot), lv_has ls 6 [(0, .ref s0), (1, .int p1), (2, .int i2), (3, .long i3), (5, .int i5)] → wX1_countCells_L10 post K48 dk op p1 n i2 i3 i5 → W p l e (headSpec (wl_X1_countCells) rm_X1_countCells).room s m ([.ref s0, .int p1] : List Value).toArray below meth c s.heap [] 0 0 (MQ below (vp_Si post) ([.ref s0, .int p1] : List Value).toArray s 0 0 (fun _ => False)) (F0 m 10 ls []) := by
    intro K48 _ hexit48 n
    induction n with
    | zero => intro i2 i3 i5 ls hl h; exact False.elim h
    | succ n ih =>
      intro i2 i3 i5 ls hl h
      refine lv_iload hx hb dX1_countCells_10 (lv_at hl 4 rfl) ?_
      refine lv_bipush (v := 64) hx hb dX1_countCells_12 (by decide) ?_
      refine lv_icmp_ge (tgt := 48) hx hb dX1_countCells_14 (by decide) (fun hc => ?_) (fun hc => ?_)
      · have h := h.1 hc
        have hl := lv_sub (l' := [(0, .ref s0), (1, .int p1), (2, .int i2), (3, .long i3), (5, .int i5)]) hl [0, 1, 2, 3, 4] rfl
        exact hexit48 _ _ _ ls hl h
      · have h := h.2 hc
        refine lv_lload_n hx hb dX1_countCells_17 rfl (lv_at hl 3 rfl) ?_
        refine lv_lconst (v := 0) hx hb dX1_countCells_18 (by decide) ?_
        refine W.lcmp hx hb dX1_countCells_19 ?_
        refine lv_if_eq (tgt := 48) hx hb dX1_countCells_20 (by decide) (fun hc => ?_) (fun hc => ?_)
        · have h := h.1 hc
          have hl := lv_sub (l' := [(0, .ref s0), (1, .int p1), (2, .int i2), (3, .long i3), (5, .int i5)]) hl [0, 1, 2, 3, 4] rfl
          exact hexit48 _ _ _ ls hl h
        · have h := h.2 hc
          refine lv_lload_n hx hb dX1_countCells_23 rfl (lv_at hl 3 rfl) ?_
          refine lv_aload_n hx hb dX1_countCells_24 rfl (lv_at hl 0 rfl) ?_
          refine lv_iload_n hx hb dX1_countCells_25 rfl (lv_at hl 1 rfl) ?_
          refine lv_lload_n hx hb dX1_countCells_26 rfl (lv_at hl 3 rfl) ?_
          have hPc := va_P.sub (ws' := []) hP [] rfl
          refine rdI (va_runSN (As := [.long i3]) (rest := [.int p1, .ref s0, .long i3]) ⟨hx, hb, hml, hown, hts⟩ (kX2_smallestOf l G i3 h) ⟨va_cnB 1 hts (gdC q149) rfl rfl rfl (hN _ n147) (hts _ q1) (by decide +kernel) ⟨Nat.le_of_ble_eq_true rfl, Nat.le_of_ble_eq_true rfl⟩, hts _ q148, trivial⟩ (preS hPc hKK) rfl rfl hl.1 rfl (lv_room (Nat.le_of_ble_eq_true rfl)) dX1_countCells_27 ⟨Nat.zero_le _, Nat.zero_le _⟩) (fun r_1 h => ?_)
          have hPc := hP
          refine rdL (va_runV (C := RX1) (As := [.int p1, .int r_1]) (rest := [.long i3]) ⟨hx, hb, hml, hown, hts⟩ (kX1_cell l G s0 s1 s2 b0 b1 b2 b3 b4 b5 b6 dk wg op re kf ff sf df pf gf bn p1 r_1 h) (cwV 2 hts (gdV q156 q157 q158 q3 q159) rfl rfl rfl (by decide +kernel) ⟨Nat.le_of_ble_eq_true rfl, Nat.le_of_ble_eq_true rfl⟩) (preV hPc hKK (va_recv hK hPc (ci := 4) (q0 := 0) rfl rfl)) rfl rfl hl.1 rfl (lv_room (Nat.le_of_ble_eq_true rfl)) dX1_countCells_30 ⟨Nat.zero_le _, Nat.zero_le _⟩) (fun r_2 h => ?_)
          refine lv_ldc2 hx hb hown (hts _ q95) dX1_countCells_33 ?_
          refine lv_lxor hx hb dX1_countCells_36 ?_
          refine lv_land hx hb dX1_countCells_37 ?_
          refine lv_lstore_n hx hb dX1_countCells_38 rfl hl (Nat.le_of_ble_eq_true rfl) rfl (fun ls hl => ?_)
          have hl : lv_has ls 6 [(3, .long (i3 &&& (r_2 ^^^ (-1 : Int64)))), (0, .ref s0), (1, .int p1), (2, .int i2), (5, .int i5)] := hl
          refine lv_iinc (v := (i2 + 1)) hx hb dX1_countCells_39 hl (k := 3) rfl (by rw [show Int32.ofInt 1 = 1 from by decide]) (Nat.le_of_ble_eq_true rfl) rfl (fun ls hl => ?_)
          have hl : lv_has ls 6 [(2, .int (i2 + 1)), (3, .long (i3 &&& (r_2 ^^^ (-1 : Int64)))), (0, .ref s0), (1, .int p1), (5, .int i5)] := hl
          refine lv_iinc (v := (i5 + 1)) hx hb dX1_countCells_42 hl (k := 4) rfl (by rw [show Int32.ofInt 1 = 1 from by decide]) (Nat.le_of_ble_eq_true rfl) rfl (fun ls hl => ?_)
          have hl : lv_has ls 6 [(5, .int (i5 + 1)), (2, .int (i2 + 1)), (3, .long (i3 &&& (r_2 ^^^ (-1 : Int64)))), (0, .ref s0), (1, .int p1)] := hl
          refine lv_goto (tgt := 10) hx hb dX1_countCells_45 (by decide) ?_
          have hl := lv_sub (l' := [(0, .ref s0), (1, .int p1), (2, .int (i2 + 1)), (3, .long (i3 &&& (r_2 ^^^ (-1 : Int64)))), (5, .int (i5 + 1))]) hl [3, 4, 1, 2, 0] rfl
          exact ih _ _ _ ls hl h
  refine lv_iconst (v := 0) hx hb dX1_countCells_0 (by decide) ?_
  refine lv_istore_n hx hb dX1_countCells_1 rfl hl (Nat.le_of_ble_eq_true rfl) rfl (fun ls hl => ?_)
  have hl : lv_has ls 6 [(2, .int (0 : Int32)), (0, .ref s0), (1, .int p1)] := hl
  refine lv_aload_n hx hb dX1_countCells_2 rfl (lv_at hl 1 rfl) ?_
  refine va_get (D := G.1) (ci := 4) (v := .long op) (C := RX1) (T := TX1) (N := 5) hx hb hts igX1 hown hK hP 0 rfl rfl 3 (by decide) (hts _ q76) (fun _ h9 => h9) rfl dX1_countCells_3 ?_
  refine lv_lstore_n hx hb dX1_countCells_6 rfl hl (Nat.le_of_ble_eq_true rfl) rfl (fun ls hl => ?_)
  have hl : lv_has ls 6 [(3, .long op), (2, .int (0 : Int32)), (0, .ref s0), (1, .int p1)] := hl
  refine lv_iconst (v := 0) hx hb dX1_countCells_7 (by decide) ?_
  refine lv_istore hx hb dX1_countCells_8 hl (Nat.le_of_ble_eq_true rfl) rfl (fun ls hl => ?_)
  have hl : lv_has ls 6 [(5, .int (0 : Int32)), (3, .long op), (2, .int (0 : Int32)), (0, .ref s0), (1, .int p1)] := hl
  have hl := lv_sub (l' := [(0, .ref s0), (1, .int p1), (2, .int (0 : Int32)), (3, .long op), (5, .int (0 : Int32))]) hl [3, 4, 2, 1, 0] rfl
  obtain ⟨nF, h⟩ := h
  refine loop10 _ trivial ?_ nF (0 : Int32) op (0 : Int32) _ hl h
  · intro i2 i3 i5 ls hl h
    refine lv_iload_n hx hb dX1_countCells_48 rfl (lv_at hl 2 rfl) ?_
    exact W.iret (v := i2) hx hb hr (fun t ht _ => ⟨_, rfl, h, ht⟩) (fun _ hq => absurd hq List.not_mem_nil) dX1_countCells_49
theorem dX1_isAsSharpAs_0 : decode cX1_isAsSharpAs 0 = .ok (.iconst 0, 1) := by decide +kernel
theorem dX1_isAsSharpAs_1 : decode cX1_isAsSharpAs 1 = .ok (.istore_n 3, 1) := by decide +kernel
theorem dX1_isAsSharpAs_2 : decode cX1_isAsSharpAs 2 = .ok (.iload_n 3, 1) := by decide +kernel
theorem dX1_isAsSharpAs_3 : decode cX1_isAsSharpAs 3 = .ok (.bipush 64, 2) := by decide +kernel
theorem dX1_isAsSharpAs_5 : decode cX1_isAsSharpAs 5 = .ok (.if_icmp .ge 40, 3) := by decide +kernel
theorem dX1_isAsSharpAs_8 : decode cX1_isAsSharpAs 8 = .ok (.aload_n 0, 1) := by decide +kernel
theorem dX1_isAsSharpAs_9 : decode cX1_isAsSharpAs 9 = .ok (.getfield 28, 3) := by decide +kernel
theorem dX1_isAsSharpAs_12 : decode cX1_isAsSharpAs 12 = .ok (.iload_n 3, 1) := by decide +kernel
theorem dX1_isAsSharpAs_13 : decode cX1_isAsSharpAs 13 = .ok (.invokestatic 52, 3) := by decide +kernel
theorem dX1_isAsSharpAs_16 : decode cX1_isAsSharpAs 16 = .ok (.ifCond .eq 23, 3) := by decide +kernel
theorem dX1_isAsSharpAs_19 : decode cX1_isAsSharpAs 19 = .ok (.aload_n 0, 1) := by decide +kernel
theorem dX1_isAsSharpAs_20 : decode cX1_isAsSharpAs 20 = .ok (.iload_n 1, 1) := by decide +kernel
theorem dX1_isAsSharpAs_21 : decode cX1_isAsSharpAs 21 = .ok (.iload_n 3, 1) := by decide +kernel
theorem dX1_isAsSharpAs_22 : decode cX1_isAsSharpAs 22 = .ok (.invokevirtual 93, 3) := by decide +kernel
theorem dX1_isAsSharpAs_25 : decode cX1_isAsSharpAs 25 = .ok (.aload_n 0, 1) := by decide +kernel
theorem dX1_isAsSharpAs_26 : decode cX1_isAsSharpAs 26 = .ok (.iload_n 2, 1) := by decide +kernel
theorem dX1_isAsSharpAs_27 : decode cX1_isAsSharpAs 27 = .ok (.iload_n 3, 1) := by decide +kernel
theorem dX1_isAsSharpAs_28 : decode cX1_isAsSharpAs 28 = .ok (.invokevirtual 93, 3) := by decide +kernel
theorem dX1_isAsSharpAs_31 : decode cX1_isAsSharpAs 31 = .ok (.invokestatic 110, 3) := by decide +kernel
theorem dX1_isAsSharpAs_34 : decode cX1_isAsSharpAs 34 = .ok (.ifCond .ne 5, 3) := by decide +kernel
theorem dX1_isAsSharpAs_37 : decode cX1_isAsSharpAs 37 = .ok (.iconst 0, 1) := by decide +kernel
theorem dX1_isAsSharpAs_38 : decode cX1_isAsSharpAs 38 = .ok (.ireturn, 1) := by decide +kernel
theorem dX1_isAsSharpAs_39 : decode cX1_isAsSharpAs 39 = .ok (.iinc 3 1, 3) := by decide +kernel
theorem dX1_isAsSharpAs_42 : decode cX1_isAsSharpAs 42 = .ok (.goto (-40), 3) := by decide +kernel
theorem dX1_isAsSharpAs_45 : decode cX1_isAsSharpAs 45 = .ok (.iconst 1, 1) := by decide +kernel
theorem dX1_isAsSharpAs_46 : decode cX1_isAsSharpAs 46 = .ok (.ireturn, 1) := by decide +kernel
def wX1_isAsSharpAs_L2 (post : Int32 → Prop) (K45 : Int32 → Prop) (dk : Nat → Int64) (op : Int64) (p1 : Int32) (p2 : Int32) : Nat → Int32 → Prop
  | 0, _ => False
  | n+1, i3 =>
    (((64 : Int32) ≤ i3) →
      K45 i3
    ) ∧ (¬ ((64 : Int32) ≤ i3) →
      wX2_has (fun r_1 : Int32 =>
        ((r_1 = 0) →
          wX1_isAsSharpAs_L2 post K45 dk op p1 p2 n (i3 + 1)
        ) ∧ (¬ (r_1 = 0) →
          wX1_cell (fun r_2 : Int64 =>
            wX1_cell (fun r_3 : Int64 =>
              wX2_isWithin (fun r_4 : Int32 =>
                ((¬ r_4 = 0) →
                  wX1_isAsSharpAs_L2 post K45 dk op p1 p2 n (i3 + 1)
                ) ∧ ((r_4 = 0) →
                  post (0 : Int32)
                )
                ) r_2 r_3
              ) dk op p2 i3
            ) dk op p1 i3
        )
        ) op i3
    )
def wX1_isAsSharpAs (post : Int32 → Prop) (dk : Nat → Int64) (op : Int64) (p1 : Int32) (p2 : Int32) : Prop :=
  ∃ nF, wX1_isAsSharpAs_L2 post
    (fun i3 =>
      post (1 : Int32)
    )
    dk op p1 p2 nF (0 : Int32)
abbrev wl_X1_isAsSharpAs : List Cond := .code yX1_isAsSharpAs cX1_isAsSharpAs 4 (some .boolean) :: lwg
abbrev rm_X1_isAsSharpAs : Room := { frames := 1, cells := 0, slots := 0, locals := 23 }
set_option maxHeartbeats 4000000 in
set_option maxRecDepth 100000 in
theorem kX1_isAsSharpAs {post : Int32 → Prop} (l : Launch) (G : GT) (s0 : Nat) (s1 : Nat) (s2 : Nat) (b0 : Nat) (b1 : Nat) (b2 : Nat) (b3 : Nat) (b4 : Nat) (b5 : Nat) (b6 : Nat) (dk : Nat → Int64) (wg : Nat → Int64) (op : Int64) (re : Int32) (kf : Nat → Int32) (ff : Nat → Int32) (sf : Nat → Int32) (df : Nat → Int32) (pf : Nat → Int64) (gf : Nat → Int64) (bn : Int32) (p1 : Int32) (p2 : Int32) (h : wX1_isAsSharpAs post dk op p1 p2) : Met l yX1_isAsSharpAs wl_X1_isAsSharpAs rm_X1_isAsSharpAs (va_Pc [.ref s0, .int p1, .int p2] (fun U => PP G [(s0, .inr (4, [.ref b0, .ref s1, .ref s2, .long op, .int re])), (s1, .inl (G.2 1, 384, .inr (.inl dk))), (s2, .inl (G.2 1, 40, .inr (.inl wg))), (b0, .inr (3, [.ref b1, .ref b2, .ref b3, .ref b4, .ref b5, .ref b6, .int bn])), (b1, .inl (G.2 0, 40, .inl kf)), (b2, .inl (G.2 0, 40, .inl ff)), (b3, .inl (G.2 0, 40, .inl sf)), (b4, .inl (G.2 0, 40, .inl df)), (b5, .inl (G.2 1, 40, .inr (.inl pf))), (b6, .inl (G.2 1, 6, .inr (.inl gf)))] U.heap ∧ KK G U)) (vp_Si post) 0 0 (fun _ => False) := by
  refine Met.ofW (cc := cX1_isAsSharpAs) (maxL := 4) (ret := (some .boolean)) (by decide) rfl ?_
  intro p e s m args below meth c s₁ B hml hv
  obtain ⟨rfl, hP, hKK⟩ := hv
  obtain ⟨hK, hN, hR, hFW, hNC⟩ := id hKK
  have hx := B.exec
  have hb := B.bytes
  have hr := B.returns
  have hts0 := atoms_spec (ws := wl_X1_isAsSharpAs) B.pre
  have hts : ∀ w ∈ lwg, w.before ([.ref s0, .int p1, .int p2] : List Value).toArray s = true := fun w hw => hts0 w (List.mem_cons_of_mem _ hw)
  have hown : s.vm.findClass RX1 = some m.cls := findClass_of_methodNamed B.named
  have hlocks := B.notSynchronized
  have hP : PP G [(s0, .inr (4, [.ref b0, .ref s1, .ref s2, .long op, .int re])), (s1, .inl (G.2 1, 384, .inr (.inl dk))), (s2, .inl (G.2 1, 40, .inr (.inl wg))), (b0, .inr (3, [.ref b1, .ref b2, .ref b3, .ref b4, .ref b5, .ref b6, .int bn])), (b1, .inl (G.2 0, 40, .inl kf)), (b2, .inl (G.2 0, 40, .inl ff)), (b3, .inl (G.2 0, 40, .inl sf)), (b4, .inl (G.2 0, 40, .inl df)), (b5, .inl (G.2 1, 40, .inr (.inl pf))), (b6, .inl (G.2 1, 6, .inr (.inl gf)))] s.heap := hP
  have hl := lv_entry ([.ref s0, .int p1, .int p2]) (n := 4) (Nat.le_of_ble_eq_true rfl)
  rw [lg_entry_eq]
  generalize (lg_sl ([.ref s0, .int p1, .int p2]) ++ List.replicate (4 - (lg_sl ([.ref s0, .int p1, .int p2])).length) Slot.unset).toArray = ls at hl ⊢
  have hl : lv_has ls 4 [(0, .ref s0), (1, .int p1), (2, .int p2)] := hl
  have loop2 : ∀ (K45 : Int32 → Prop), True → (∀ (i3 : Int32) (ls : Array Slot), lv_has ls 4 [(0, .ref s0), (1, .int p1), (2, .int p2), (3, .int i3)] → K45 i3 → W p l e (headSpec (wl_X1_isAsSharpAs) rm_X1_isAsSharpAs).room s m ([.ref s0, .int p1, .int p2] : List Value).toArray below meth c s.heap [] 0 0 (MQ below (vp_Si post) ([.ref s0, .int p1, .int p2] : List Value).toArray s 0 0 (fun _ => False)) (F0 m 45 ls [])) → ∀ (n : Nat) (i3 : Int32) (ls : Array Slot), lv_has ls 4 [(0, .ref s0), (1, .int p1), (2, .int p2), (3, .int i3)] → wX1_isAsSharpAs_L2 post K45 dk op p1 p2 n i3 → W p l e (headSpec (wl_X1_isAsSharpAs) rm_X1_isAsSharpAs).room s m ([.ref s0, .int p1, .int p2] : List Value).toArray below meth c s.heap [] 0 0 (MQ below (vp_Si post) ([.ref s0, .int p1, .int p2] : List Value).toArray s 0 0 (fun _ => False)) (F0 m 2 ls []) := by
    intro K45 _ hexit45 n
    induction n with
    | zero => intro i3 ls hl h; exact False.elim h
    | succ n ih =>
      intro i3 ls hl h
      refine lv_iload_n hx hb dX1_isAsSharpAs_2 rfl (lv_at hl 3 rfl) ?_
      refine lv_bipush (v := 64) hx hb dX1_isAsSharpAs_3 (by decide) ?_
      refine lv_icmp_ge (tgt := 45) hx hb dX1_isAsSharpAs_5 (by decide) (fun hc => ?_) (fun hc => ?_)
      · have h := h.1 hc
        have hl := lv_sub (l' := [(0, .ref s0), (1, .int p1), (2, .int p2), (3, .int i3)]) hl [0, 1, 2, 3] rfl
        exact hexit45 _ ls hl h
      · have h := h.2 hc
        refine lv_aload_n hx hb dX1_isAsSharpAs_8 rfl (lv_at hl 0 rfl) ?_
        refine va_get (D := G.1) (ci := 4) (v := .long op) (C := RX1) (T := TX1) (N := 5) hx hb hts igX1 hown hK hP 0 rfl rfl 3 (by decide) (hts _ q76) (fun _ h9 => h9) rfl dX1_isAsSharpAs_9 ?_
        refine lv_iload_n hx hb dX1_isAsSharpAs_12 rfl (lv_at hl 3 rfl) ?_
        have hPc := va_P.sub (ws' := []) hP [] rfl
        refine rdI (va_runSN (As := [.long op, .int i3]) (rest := []) ⟨hx, hb, hml, hown, hts⟩ (kX2_has l G op i3 h) ⟨va_cnB 2 hts (gdC q109) rfl rfl rfl (hN _ n107) (hts _ q1) (by decide +kernel) ⟨Nat.le_of_ble_eq_true rfl, Nat.le_of_ble_eq_true rfl⟩, hts _ q108, trivial⟩ (preS hPc hKK) rfl rfl hl.1 rfl (lv_room (Nat.le_of_ble_eq_true rfl)) dX1_isAsSharpAs_13 ⟨Nat.zero_le _, Nat.zero_le _⟩) (fun r_1 h => ?_)
        refine lv_if_eq (tgt := 39) hx hb dX1_isAsSharpAs_16 (by decide) (fun hc => ?_) (fun hc => ?_)
        · have h := h.1 hc
          refine lv_iinc (v := (i3 + 1)) hx hb dX1_isAsSharpAs_39 hl (k := 3) rfl (by rw [show Int32.ofInt 1 = 1 from by decide]) (Nat.le_of_ble_eq_true rfl) rfl (fun ls hl => ?_)
          have hl : lv_has ls 4 [(3, .int (i3 + 1)), (0, .ref s0), (1, .int p1), (2, .int p2)] := hl
          refine lv_goto (tgt := 2) hx hb dX1_isAsSharpAs_42 (by decide) ?_
          have hl := lv_sub (l' := [(0, .ref s0), (1, .int p1), (2, .int p2), (3, .int (i3 + 1))]) hl [1, 2, 3, 0] rfl
          exact ih _ ls hl h
        · have h := h.2 hc
          refine lv_aload_n hx hb dX1_isAsSharpAs_19 rfl (lv_at hl 0 rfl) ?_
          refine lv_iload_n hx hb dX1_isAsSharpAs_20 rfl (lv_at hl 1 rfl) ?_
          refine lv_iload_n hx hb dX1_isAsSharpAs_21 rfl (lv_at hl 3 rfl) ?_
          have hPc := hP
          refine rdL (va_runV (C := RX1) (As := [.int p1, .int i3]) (rest := []) ⟨hx, hb, hml, hown, hts⟩ (kX1_cell l G s0 s1 s2 b0 b1 b2 b3 b4 b5 b6 dk wg op re kf ff sf df pf gf bn p1 i3 h) (cwV 2 hts (gdV q156 q157 q158 q3 q159) rfl rfl rfl (by decide +kernel) ⟨Nat.le_of_ble_eq_true rfl, Nat.le_of_ble_eq_true rfl⟩) (preV hPc hKK (va_recv hK hPc (ci := 4) (q0 := 0) rfl rfl)) rfl rfl hl.1 rfl (lv_room (Nat.le_of_ble_eq_true rfl)) dX1_isAsSharpAs_22 ⟨Nat.zero_le _, Nat.zero_le _⟩) (fun r_2 h => ?_)
          refine lv_aload_n hx hb dX1_isAsSharpAs_25 rfl (lv_at hl 0 rfl) ?_
          refine lv_iload_n hx hb dX1_isAsSharpAs_26 rfl (lv_at hl 2 rfl) ?_
          refine lv_iload_n hx hb dX1_isAsSharpAs_27 rfl (lv_at hl 3 rfl) ?_
          have hPc := hP
          refine rdL (va_runV (C := RX1) (As := [.int p2, .int i3]) (rest := [.long r_2]) ⟨hx, hb, hml, hown, hts⟩ (kX1_cell l G s0 s1 s2 b0 b1 b2 b3 b4 b5 b6 dk wg op re kf ff sf df pf gf bn p2 i3 h) (cwV 2 hts (gdV q156 q157 q158 q3 q159) rfl rfl rfl (by decide +kernel) ⟨Nat.le_of_ble_eq_true rfl, Nat.le_of_ble_eq_true rfl⟩) (preV hPc hKK (va_recv hK hPc (ci := 4) (q0 := 0) rfl rfl)) rfl rfl hl.1 rfl (lv_room (Nat.le_of_ble_eq_true rfl)) dX1_isAsSharpAs_28 ⟨Nat.zero_le _, Nat.zero_le _⟩) (fun r_3 h => ?_)
          have hPc := va_P.sub (ws' := []) hP [] rfl
          refine rdI (va_runSN (As := [.long r_2, .long r_3]) (rest := []) ⟨hx, hb, hml, hown, hts⟩ (kX2_isWithin l G r_2 r_3 h) ⟨va_cnB 2 hts (gdC q174) rfl rfl rfl (hN _ n172) (hts _ q1) (by decide +kernel) ⟨Nat.le_of_ble_eq_true rfl, Nat.le_of_ble_eq_true rfl⟩, hts _ q173, trivial⟩ (preS hPc hKK) rfl rfl hl.1 rfl (lv_room (Nat.le_of_ble_eq_true rfl)) dX1_isAsSharpAs_31 ⟨Nat.zero_le _, Nat.zero_le _⟩) (fun r_4 h => ?_)
          refine lv_if_ne (tgt := 39) hx hb dX1_isAsSharpAs_34 (by decide) (fun hc => ?_) (fun hc => ?_)
          · have h := h.1 hc
            refine lv_iinc (v := (i3 + 1)) hx hb dX1_isAsSharpAs_39 hl (k := 3) rfl (by rw [show Int32.ofInt 1 = 1 from by decide]) (Nat.le_of_ble_eq_true rfl) rfl (fun ls hl => ?_)
            have hl : lv_has ls 4 [(3, .int (i3 + 1)), (0, .ref s0), (1, .int p1), (2, .int p2)] := hl
            refine lv_goto (tgt := 2) hx hb dX1_isAsSharpAs_42 (by decide) ?_
            have hl := lv_sub (l' := [(0, .ref s0), (1, .int p1), (2, .int p2), (3, .int (i3 + 1))]) hl [1, 2, 3, 0] rfl
            exact ih _ ls hl h
          · have h := h.2 hc
            refine lv_iconst (v := 0) hx hb dX1_isAsSharpAs_37 (by decide) ?_
            exact W.zret (v := (0 : Int32)) hx hb hr (by decide) (fun t ht _ => ⟨_, rfl, h, ht⟩) (fun _ hq => absurd hq List.not_mem_nil) dX1_isAsSharpAs_38
  refine lv_iconst (v := 0) hx hb dX1_isAsSharpAs_0 (by decide) ?_
  refine lv_istore_n hx hb dX1_isAsSharpAs_1 rfl hl (Nat.le_of_ble_eq_true rfl) rfl (fun ls hl => ?_)
  have hl : lv_has ls 4 [(3, .int (0 : Int32)), (0, .ref s0), (1, .int p1), (2, .int p2)] := hl
  have hl := lv_sub (l' := [(0, .ref s0), (1, .int p1), (2, .int p2), (3, .int (0 : Int32))]) hl [1, 2, 3, 0] rfl
  obtain ⟨nF, h⟩ := h
  refine loop2 _ trivial ?_ nF (0 : Int32) _ hl h
  · intro i3 ls hl h
    refine lv_iconst (v := 1) hx hb dX1_isAsSharpAs_45 (by decide) ?_
    exact W.zret (v := (1 : Int32)) hx hb hr (by decide) (fun t ht _ => ⟨_, rfl, h, ht⟩) (fun _ hq => absurd hq List.not_mem_nil) dX1_isAsSharpAs_46
theorem dX1_asSharpAs_0 : decode cX1_asSharpAs 0 = .ok (.iconst 0, 1) := by decide +kernel
theorem dX1_asSharpAs_1 : decode cX1_asSharpAs 1 = .ok (.istore_n 2, 1) := by decide +kernel
theorem dX1_asSharpAs_2 : decode cX1_asSharpAs 2 = .ok (.iconst 0, 1) := by decide +kernel
theorem dX1_asSharpAs_3 : decode cX1_asSharpAs 3 = .ok (.istore_n 3, 1) := by decide +kernel
theorem dX1_asSharpAs_4 : decode cX1_asSharpAs 4 = .ok (.iload_n 3, 1) := by decide +kernel
theorem dX1_asSharpAs_5 : decode cX1_asSharpAs 5 = .ok (.bipush 6, 2) := by decide +kernel
theorem dX1_asSharpAs_7 : decode cX1_asSharpAs 7 = .ok (.if_icmp .ge 24, 3) := by decide +kernel
theorem dX1_asSharpAs_10 : decode cX1_asSharpAs 10 = .ok (.aload_n 0, 1) := by decide +kernel
theorem dX1_asSharpAs_11 : decode cX1_asSharpAs 11 = .ok (.iload_n 3, 1) := by decide +kernel
theorem dX1_asSharpAs_12 : decode cX1_asSharpAs 12 = .ok (.iload_n 1, 1) := by decide +kernel
theorem dX1_asSharpAs_13 : decode cX1_asSharpAs 13 = .ok (.invokevirtual 130, 3) := by decide +kernel
theorem dX1_asSharpAs_16 : decode cX1_asSharpAs 16 = .ok (.ifCond .eq 9, 3) := by decide +kernel
theorem dX1_asSharpAs_19 : decode cX1_asSharpAs 19 = .ok (.iload_n 2, 1) := by decide +kernel
theorem dX1_asSharpAs_20 : decode cX1_asSharpAs 20 = .ok (.iconst 1, 1) := by decide +kernel
theorem dX1_asSharpAs_21 : decode cX1_asSharpAs 21 = .ok (.iload_n 3, 1) := by decide +kernel
theorem dX1_asSharpAs_22 : decode cX1_asSharpAs 22 = .ok (.ishl, 1) := by decide +kernel
theorem dX1_asSharpAs_23 : decode cX1_asSharpAs 23 = .ok (.ior, 1) := by decide +kernel
theorem dX1_asSharpAs_24 : decode cX1_asSharpAs 24 = .ok (.istore_n 2, 1) := by decide +kernel
theorem dX1_asSharpAs_25 : decode cX1_asSharpAs 25 = .ok (.iinc 3 1, 3) := by decide +kernel
theorem dX1_asSharpAs_28 : decode cX1_asSharpAs 28 = .ok (.goto (-24), 3) := by decide +kernel
theorem dX1_asSharpAs_31 : decode cX1_asSharpAs 31 = .ok (.iload_n 2, 1) := by decide +kernel
theorem dX1_asSharpAs_32 : decode cX1_asSharpAs 32 = .ok (.ireturn, 1) := by decide +kernel
def wX1_asSharpAs_L4 (post : Int32 → Prop) (K31 : Int32 → Int32 → Prop) (dk : Nat → Int64) (op : Int64) (p1 : Int32) : Nat → Int32 → Int32 → Prop
  | 0, _, _ => False
  | n+1, i2, i3 =>
    (((6 : Int32) ≤ i3) →
      K31 i2 i3
    ) ∧ (¬ ((6 : Int32) ≤ i3) →
      wX1_isAsSharpAs (fun r_1 : Int32 =>
        ((r_1 = 0) →
          wX1_asSharpAs_L4 post K31 dk op p1 n i2 (i3 + 1)
        ) ∧ (¬ (r_1 = 0) →
          wX1_asSharpAs_L4 post K31 dk op p1 n (i2 ||| ((1 : Int32) <<< (i3 &&& 31))) (i3 + 1)
        )
        ) dk op i3 p1
    )
def wX1_asSharpAs (post : Int32 → Prop) (dk : Nat → Int64) (op : Int64) (p1 : Int32) : Prop :=
  ∃ nF, wX1_asSharpAs_L4 post
    (fun i2 i3 =>
      post i2
    )
    dk op p1 nF (0 : Int32) (0 : Int32)
abbrev wl_X1_asSharpAs : List Cond := .code yX1_asSharpAs cX1_asSharpAs 4 (some .int) :: lwg
abbrev rm_X1_asSharpAs : Room := { frames := 2, cells := 0, slots := 0, locals := 46 }
set_option maxHeartbeats 4000000 in
set_option maxRecDepth 100000 in
theorem kX1_asSharpAs {post : Int32 → Prop} (l : Launch) (G : GT) (s0 : Nat) (s1 : Nat) (s2 : Nat) (b0 : Nat) (b1 : Nat) (b2 : Nat) (b3 : Nat) (b4 : Nat) (b5 : Nat) (b6 : Nat) (dk : Nat → Int64) (wg : Nat → Int64) (op : Int64) (re : Int32) (kf : Nat → Int32) (ff : Nat → Int32) (sf : Nat → Int32) (df : Nat → Int32) (pf : Nat → Int64) (gf : Nat → Int64) (bn : Int32) (p1 : Int32) (h : wX1_asSharpAs post dk op p1) : Met l yX1_asSharpAs wl_X1_asSharpAs rm_X1_asSharpAs (va_Pc [.ref s0, .int p1] (fun U => PP G [(s0, .inr (4, [.ref b0, .ref s1, .ref s2, .long op, .int re])), (s1, .inl (G.2 1, 384, .inr (.inl dk))), (s2, .inl (G.2 1, 40, .inr (.inl wg))), (b0, .inr (3, [.ref b1, .ref b2, .ref b3, .ref b4, .ref b5, .ref b6, .int bn])), (b1, .inl (G.2 0, 40, .inl kf)), (b2, .inl (G.2 0, 40, .inl ff)), (b3, .inl (G.2 0, 40, .inl sf)), (b4, .inl (G.2 0, 40, .inl df)), (b5, .inl (G.2 1, 40, .inr (.inl pf))), (b6, .inl (G.2 1, 6, .inr (.inl gf)))] U.heap ∧ KK G U)) (vp_Si post) 0 0 (fun _ => False) := by
  refine Met.ofW (cc := cX1_asSharpAs) (maxL := 4) (ret := (some .int)) (by decide) rfl ?_
  intro p e s m args below meth c s₁ B hml hv
  obtain ⟨rfl, hP, hKK⟩ := hv
  obtain ⟨hK, hN, hR, hFW, hNC⟩ := id hKK
  have hx := B.exec
  have hb := B.bytes
  have hr := B.returns
  have hts0 := atoms_spec (ws := wl_X1_asSharpAs) B.pre
  have hts : ∀ w ∈ lwg, w.before ([.ref s0, .int p1] : List Value).toArray s = true := fun w hw => hts0 w (List.mem_cons_of_mem _ hw)
  have hown : s.vm.findClass RX1 = some m.cls := findClass_of_methodNamed B.named
  have hlocks := B.notSynchronized
  have hP : PP G [(s0, .inr (4, [.ref b0, .ref s1, .ref s2, .long op, .int re])), (s1, .inl (G.2 1, 384, .inr (.inl dk))), (s2, .inl (G.2 1, 40, .inr (.inl wg))), (b0, .inr (3, [.ref b1, .ref b2, .ref b3, .ref b4, .ref b5, .ref b6, .int bn])), (b1, .inl (G.2 0, 40, .inl kf)), (b2, .inl (G.2 0, 40, .inl ff)), (b3, .inl (G.2 0, 40, .inl sf)), (b4, .inl (G.2 0, 40, .inl df)), (b5, .inl (G.2 1, 40, .inr (.inl pf))), (b6, .inl (G.2 1, 6, .inr (.inl gf)))] s.heap := hP
  have hl := lv_entry ([.ref s0, .int p1]) (n := 4) (Nat.le_of_ble_eq_true rfl)
  rw [lg_entry_eq]
  generalize (lg_sl ([.ref s0, .int p1]) ++ List.replicate (4 - (lg_sl ([.ref s0, .int p1])).length) Slot.unset).toArray = ls at hl ⊢
  have hl : lv_has ls 4 [(0, .ref s0), (1, .int p1)] := hl
  have loop4 : ∀ (K31 : Int32 → Int32 → Prop), True → (∀ (i2 : Int32) (i3 : Int32) (ls : Array Slot), lv_has ls 4 [(0, .ref s0), (1, .int p1), (2, .int i2), (3, .int i3)] → K31 i2 i3 → W p l e (headSpec (wl_X1_asSharpAs) rm_X1_asSharpAs).room s m ([.ref s0, .int p1] : List Value).toArray below meth c s.heap [] 0 0 (MQ below (vp_Si post) ([.ref s0, .int p1] : List Value).toArray s 0 0 (fun _ => False)) (F0 m 31 ls [])) → ∀ (n : Nat) (i2 : Int32) (i3 : Int32) (ls : Array Slot), lv_has ls 4 [(0, .ref s0), (1, .int p1), (2, .int i2), (3, .int i3)] → wX1_asSharpAs_L4 post K31 dk op p1 n i2 i3 → W p l e (headSpec (wl_X1_asSharpAs) rm_X1_asSharpAs).room s m ([.ref s0, .int p1] : List Value).toArray below meth c s.heap [] 0 0 (MQ below (vp_Si post) ([.ref s0, .int p1] : List Value).toArray s 0 0 (fun _ => False)) (F0 m 4 ls []) := by
    intro K31 _ hexit31 n
    induction n with
    | zero => intro i2 i3 ls hl h; exact False.elim h
    | succ n ih =>
      intro i2 i3 ls hl h
      refine lv_iload_n hx hb dX1_asSharpAs_4 rfl (lv_at hl 3 rfl) ?_
      refine lv_bipush (v := 6) hx hb dX1_asSharpAs_5 (by decide) ?_
      refine lv_icmp_ge (tgt := 31) hx hb dX1_asSharpAs_7 (by decide) (fun hc => ?_) (fun hc => ?_)
      · have h := h.1 hc
        have hl := lv_sub (l' := [(0, .ref s0), (1, .int p1), (2, .int i2), (3, .int i3)]) hl [0, 1, 2, 3] rfl
        exact hexit31 _ _ ls hl h
      · have h := h.2 hc
        refine lv_aload_n hx hb dX1_asSharpAs_10 rfl (lv_at hl 0 rfl) ?_
        refine lv_iload_n hx hb dX1_asSharpAs_11 rfl (lv_at hl 3 rfl) ?_
        refine lv_iload_n hx hb dX1_asSharpAs_12 rfl (lv_at hl 1 rfl) ?_
        have hPc := hP
        refine rdI (va_runV (C := RX1) (As := [.int i3, .int p1]) (rest := []) ⟨hx, hb, hml, hown, hts⟩ (kX1_isAsSharpAs l G s0 s1 s2 b0 b1 b2 b3 b4 b5 b6 dk wg op re kf ff sf df pf gf bn i3 p1 h) (cwV 2 hts (gdV q382 q384 qs6 q3 q385) rfl rfl rfl (by decide +kernel) ⟨Nat.le_of_ble_eq_true rfl, Nat.le_of_ble_eq_true rfl⟩) (preV hPc hKK (va_recv hK hPc (ci := 4) (q0 := 0) rfl rfl)) rfl rfl hl.1 rfl (lv_room (Nat.le_of_ble_eq_true rfl)) dX1_asSharpAs_13 ⟨Nat.zero_le _, Nat.zero_le _⟩) (fun r_1 h => ?_)
        refine lv_if_eq (tgt := 25) hx hb dX1_asSharpAs_16 (by decide) (fun hc => ?_) (fun hc => ?_)
        · have h := h.1 hc
          refine lv_iinc (v := (i3 + 1)) hx hb dX1_asSharpAs_25 hl (k := 3) rfl (by rw [show Int32.ofInt 1 = 1 from by decide]) (Nat.le_of_ble_eq_true rfl) rfl (fun ls hl => ?_)
          have hl : lv_has ls 4 [(3, .int (i3 + 1)), (0, .ref s0), (1, .int p1), (2, .int i2)] := hl
          refine lv_goto (tgt := 4) hx hb dX1_asSharpAs_28 (by decide) ?_
          have hl := lv_sub (l' := [(0, .ref s0), (1, .int p1), (2, .int i2), (3, .int (i3 + 1))]) hl [1, 2, 3, 0] rfl
          exact ih _ _ ls hl h
        · have h := h.2 hc
          refine lv_iload_n hx hb dX1_asSharpAs_19 rfl (lv_at hl 2 rfl) ?_
          refine lv_iconst (v := 1) hx hb dX1_asSharpAs_20 (by decide) ?_
          refine lv_iload_n hx hb dX1_asSharpAs_21 rfl (lv_at hl 3 rfl) ?_
          refine lv_ishl hx hb dX1_asSharpAs_22 ?_
          refine lv_ior hx hb dX1_asSharpAs_23 ?_
          refine lv_istore_n hx hb dX1_asSharpAs_24 rfl hl (Nat.le_of_ble_eq_true rfl) rfl (fun ls hl => ?_)
          have hl : lv_has ls 4 [(2, .int (i2 ||| ((1 : Int32) <<< (i3 &&& 31)))), (0, .ref s0), (1, .int p1), (3, .int i3)] := hl
          refine lv_iinc (v := (i3 + 1)) hx hb dX1_asSharpAs_25 hl (k := 3) rfl (by rw [show Int32.ofInt 1 = 1 from by decide]) (Nat.le_of_ble_eq_true rfl) rfl (fun ls hl => ?_)
          have hl : lv_has ls 4 [(3, .int (i3 + 1)), (2, .int (i2 ||| ((1 : Int32) <<< (i3 &&& 31)))), (0, .ref s0), (1, .int p1)] := hl
          refine lv_goto (tgt := 4) hx hb dX1_asSharpAs_28 (by decide) ?_
          have hl := lv_sub (l' := [(0, .ref s0), (1, .int p1), (2, .int (i2 ||| ((1 : Int32) <<< (i3 &&& 31)))), (3, .int (i3 + 1))]) hl [2, 3, 1, 0] rfl
          exact ih _ _ ls hl h
  refine lv_iconst (v := 0) hx hb dX1_asSharpAs_0 (by decide) ?_
  refine lv_istore_n hx hb dX1_asSharpAs_1 rfl hl (Nat.le_of_ble_eq_true rfl) rfl (fun ls hl => ?_)
  have hl : lv_has ls 4 [(2, .int (0 : Int32)), (0, .ref s0), (1, .int p1)] := hl
  refine lv_iconst (v := 0) hx hb dX1_asSharpAs_2 (by decide) ?_
  refine lv_istore_n hx hb dX1_asSharpAs_3 rfl hl (Nat.le_of_ble_eq_true rfl) rfl (fun ls hl => ?_)
  have hl : lv_has ls 4 [(3, .int (0 : Int32)), (2, .int (0 : Int32)), (0, .ref s0), (1, .int p1)] := hl
  have hl := lv_sub (l' := [(0, .ref s0), (1, .int p1), (2, .int (0 : Int32)), (3, .int (0 : Int32))]) hl [2, 3, 1, 0] rfl
  obtain ⟨nF, h⟩ := h
  refine loop4 _ trivial ?_ nF (0 : Int32) (0 : Int32) _ hl h
  · intro i2 i3 ls hl h
    refine lv_iload_n hx hb dX1_asSharpAs_31 rfl (lv_at hl 2 rfl) ?_
    exact W.iret (v := i2) hx hb hr (fun t ht _ => ⟨_, rfl, h, ht⟩) (fun _ hq => absurd hq List.not_mem_nil) dX1_asSharpAs_32
theorem dX1_nearestToReal_0 : decode cX1_nearestToReal 0 = .ok (.iconst 0, 1) := by decide +kernel
theorem dX1_nearestToReal_1 : decode cX1_nearestToReal 1 = .ok (.istore_n 1, 1) := by decide +kernel
theorem dX1_nearestToReal_2 : decode cX1_nearestToReal 2 = .ok (.iconst 1, 1) := by decide +kernel
theorem dX1_nearestToReal_3 : decode cX1_nearestToReal 3 = .ok (.istore_n 2, 1) := by decide +kernel
theorem dX1_nearestToReal_4 : decode cX1_nearestToReal 4 = .ok (.iload_n 2, 1) := by decide +kernel
theorem dX1_nearestToReal_5 : decode cX1_nearestToReal 5 = .ok (.bipush 6, 2) := by decide +kernel
theorem dX1_nearestToReal_7 : decode cX1_nearestToReal 7 = .ok (.if_icmp .ge 38, 3) := by decide +kernel
theorem dX1_nearestToReal_10 : decode cX1_nearestToReal 10 = .ok (.aload_n 0, 1) := by decide +kernel
theorem dX1_nearestToReal_11 : decode cX1_nearestToReal 11 = .ok (.iload_n 2, 1) := by decide +kernel
theorem dX1_nearestToReal_12 : decode cX1_nearestToReal 12 = .ok (.aload_n 0, 1) := by decide +kernel
theorem dX1_nearestToReal_13 : decode cX1_nearestToReal 13 = .ok (.getfield 22, 3) := by decide +kernel
theorem dX1_nearestToReal_16 : decode cX1_nearestToReal 16 = .ok (.invokevirtual 93, 3) := by decide +kernel
theorem dX1_nearestToReal_19 : decode cX1_nearestToReal 19 = .ok (.invokestatic 133, 3) := by decide +kernel
theorem dX1_nearestToReal_22 : decode cX1_nearestToReal 22 = .ok (.aload_n 0, 1) := by decide +kernel
theorem dX1_nearestToReal_23 : decode cX1_nearestToReal 23 = .ok (.iload_n 1, 1) := by decide +kernel
theorem dX1_nearestToReal_24 : decode cX1_nearestToReal 24 = .ok (.aload_n 0, 1) := by decide +kernel
theorem dX1_nearestToReal_25 : decode cX1_nearestToReal 25 = .ok (.getfield 22, 3) := by decide +kernel
theorem dX1_nearestToReal_28 : decode cX1_nearestToReal 28 = .ok (.invokevirtual 93, 3) := by decide +kernel
theorem dX1_nearestToReal_31 : decode cX1_nearestToReal 31 = .ok (.invokestatic 133, 3) := by decide +kernel
theorem dX1_nearestToReal_34 : decode cX1_nearestToReal 34 = .ok (.if_icmp .ge 5, 3) := by decide +kernel
theorem dX1_nearestToReal_37 : decode cX1_nearestToReal 37 = .ok (.iload_n 2, 1) := by decide +kernel
theorem dX1_nearestToReal_38 : decode cX1_nearestToReal 38 = .ok (.istore_n 1, 1) := by decide +kernel
theorem dX1_nearestToReal_39 : decode cX1_nearestToReal 39 = .ok (.iinc 2 1, 3) := by decide +kernel
theorem dX1_nearestToReal_42 : decode cX1_nearestToReal 42 = .ok (.goto (-38), 3) := by decide +kernel
theorem dX1_nearestToReal_45 : decode cX1_nearestToReal 45 = .ok (.iload_n 1, 1) := by decide +kernel
theorem dX1_nearestToReal_46 : decode cX1_nearestToReal 46 = .ok (.ireturn, 1) := by decide +kernel
def wX1_nearestToReal_L4 (post : Int32 → Prop) (K45 : Int32 → Int32 → Prop) (dk : Nat → Int64) (op : Int64) (re : Int32) : Nat → Int32 → Int32 → Prop
  | 0, _, _ => False
  | n+1, i1, i2 =>
    (((6 : Int32) ≤ i2) →
      K45 i1 i2
    ) ∧ (¬ ((6 : Int32) ≤ i2) →
      wX1_cell (fun r_1 : Int64 =>
        wJ13_bitCount_95d88 (fun r_2 : Int32 =>
          wX1_cell (fun r_3 : Int64 =>
            wJ13_bitCount_95d88 (fun r_4 : Int32 =>
              ((r_4 ≤ r_2) →
                wX1_nearestToReal_L4 post K45 dk op re n i1 (i2 + 1)
              ) ∧ (¬ (r_4 ≤ r_2) →
                wX1_nearestToReal_L4 post K45 dk op re n i2 (i2 + 1)
              )
              ) r_3
            ) dk op i1 re
          ) r_1
        ) dk op i2 re
    )
def wX1_nearestToReal (post : Int32 → Prop) (dk : Nat → Int64) (op : Int64) (re : Int32) : Prop :=
  ∃ nF, wX1_nearestToReal_L4 post
    (fun i1 i2 =>
      post i1
    )
    dk op re nF (0 : Int32) (1 : Int32)
abbrev wl_X1_nearestToReal : List Cond := .code yX1_nearestToReal cX1_nearestToReal 3 (some .int) :: lwg
abbrev rm_X1_nearestToReal : Room := { frames := 1, cells := 0, slots := 0, locals := 23 }
set_option maxHeartbeats 4000000 in
set_option maxRecDepth 100000 in
theorem kX1_nearestToReal {post : Int32 → Prop} (l : Launch) (G : GT) (s0 : Nat) (s1 : Nat) (s2 : Nat) (b0 : Nat) (b1 : Nat) (b2 : Nat) (b3 : Nat) (b4 : Nat) (b5 : Nat) (b6 : Nat) (dk : Nat → Int64) (wg : Nat → Int64) (op : Int64) (re : Int32) (kf : Nat → Int32) (ff : Nat → Int32) (sf : Nat → Int32) (df : Nat → Int32) (pf : Nat → Int64) (gf : Nat → Int64) (bn : Int32) (h : wX1_nearestToReal post dk op re) : Met l yX1_nearestToReal wl_X1_nearestToReal rm_X1_nearestToReal (va_Pc [.ref s0] (fun U => PP G [(s0, .inr (4, [.ref b0, .ref s1, .ref s2, .long op, .int re])), (s1, .inl (G.2 1, 384, .inr (.inl dk))), (s2, .inl (G.2 1, 40, .inr (.inl wg))), (b0, .inr (3, [.ref b1, .ref b2, .ref b3, .ref b4, .ref b5, .ref b6, .int bn])), (b1, .inl (G.2 0, 40, .inl kf)), (b2, .inl (G.2 0, 40, .inl ff)), (b3, .inl (G.2 0, 40, .inl sf)), (b4, .inl (G.2 0, 40, .inl df)), (b5, .inl (G.2 1, 40, .inr (.inl pf))), (b6, .inl (G.2 1, 6, .inr (.inl gf)))] U.heap ∧ KK G U)) (vp_Si post) 0 0 (fun _ => False) := by
  refine Met.ofW (cc := cX1_nearestToReal) (maxL := 3) (ret := (some .int)) (by decide) rfl ?_
  intro p e s m args below meth c s₁ B hml hv
  obtain ⟨rfl, hP, hKK⟩ := hv
  obtain ⟨hK, hN, hR, hFW, hNC⟩ := id hKK
  have hx := B.exec
  have hb := B.bytes
  have hr := B.returns
  have hts0 := atoms_spec (ws := wl_X1_nearestToReal) B.pre
  have hts : ∀ w ∈ lwg, w.before ([.ref s0] : List Value).toArray s = true := fun w hw => hts0 w (List.mem_cons_of_mem _ hw)
  have hown : s.vm.findClass RX1 = some m.cls := findClass_of_methodNamed B.named
  have hlocks := B.notSynchronized
  have hP : PP G [(s0, .inr (4, [.ref b0, .ref s1, .ref s2, .long op, .int re])), (s1, .inl (G.2 1, 384, .inr (.inl dk))), (s2, .inl (G.2 1, 40, .inr (.inl wg))), (b0, .inr (3, [.ref b1, .ref b2, .ref b3, .ref b4, .ref b5, .ref b6, .int bn])), (b1, .inl (G.2 0, 40, .inl kf)), (b2, .inl (G.2 0, 40, .inl ff)), (b3, .inl (G.2 0, 40, .inl sf)), (b4, .inl (G.2 0, 40, .inl df)), (b5, .inl (G.2 1, 40, .inr (.inl pf))), (b6, .inl (G.2 1, 6, .inr (.inl gf)))] s.heap := hP
  have hl := lv_entry ([.ref s0]) (n := 3) (Nat.le_of_ble_eq_true rfl)
  rw [lg_entry_eq]
  generalize (lg_sl ([.ref s0]) ++ List.replicate (3 - (lg_sl ([.ref s0])).length) Slot.unset).toArray = ls at hl ⊢
  have hl : lv_has ls 3 [(0, .ref s0)] := hl
  have loop4 : ∀ (K45 : Int32 → Int32 → Prop), True → (∀ (i1 : Int32) (i2 : Int32) (ls : Array Slot), lv_has ls 3 [(0, .ref s0), (1, .int i1), (2, .int i2)] → K45 i1 i2 → W p l e (headSpec (wl_X1_nearestToReal) rm_X1_nearestToReal).room s m ([.ref s0] : List Value).toArray below meth c s.heap [] 0 0 (MQ below (vp_Si post) ([.ref s0] : List Value).toArray s 0 0 (fun _ => False)) (F0 m 45 ls [])) → ∀ (n : Nat) (i1 : Int32) (i2 : Int32) (ls : Array Slot), lv_has ls 3 [(0, .ref s0), (1, .int i1), (2, .int i2)] → wX1_nearestToReal_L4 post K45 dk op re n i1 i2 → W p l e (headSpec (wl_X1_nearestToReal) rm_X1_nearestToReal).room s m ([.ref s0] : List Value).toArray below meth c s.heap [] 0 0 (MQ below (vp_Si post) ([.ref s0] : List Value).toArray s 0 0 (fun _ => False)) (F0 m 4 ls []) := by
    intro K45 _ hexit45 n
    induction n with
    | zero => intro i1 i2 ls hl h; exact False.elim h
    | succ n ih =>
      intro i1 i2 ls hl h
      refine lv_iload_n hx hb dX1_nearestToReal_4 rfl (lv_at hl 2 rfl) ?_
      refine lv_bipush (v := 6) hx hb dX1_nearestToReal_5 (by decide) ?_
      refine lv_icmp_ge (tgt := 45) hx hb dX1_nearestToReal_7 (by decide) (fun hc => ?_) (fun hc => ?_)
      · have h := h.1 hc
        have hl := lv_sub (l' := [(0, .ref s0), (1, .int i1), (2, .int i2)]) hl [0, 1, 2] rfl
        exact hexit45 _ _ ls hl h
      · have h := h.2 hc
        refine lv_aload_n hx hb dX1_nearestToReal_10 rfl (lv_at hl 0 rfl) ?_
        refine lv_iload_n hx hb dX1_nearestToReal_11 rfl (lv_at hl 2 rfl) ?_
        refine lv_aload_n hx hb dX1_nearestToReal_12 rfl (lv_at hl 0 rfl) ?_
        refine va_get (D := G.1) (ci := 4) (v := .int re) (C := RX1) (T := TX1) (N := 5) hx hb hts igX1 hown hK hP 0 rfl rfl 4 (by decide) (hts _ q78) (fun _ h9 => h9) rfl dX1_nearestToReal_13 ?_
        have hPc := hP
        refine rdL (va_runV (C := RX1) (As := [.int i2, .int re]) (rest := []) ⟨hx, hb, hml, hown, hts⟩ (kX1_cell l G s0 s1 s2 b0 b1 b2 b3 b4 b5 b6 dk wg op re kf ff sf df pf gf bn i2 re h) (cwV 2 hts (gdV q156 q157 q158 q3 q159) rfl rfl rfl (by decide +kernel) ⟨Nat.le_of_ble_eq_true rfl, Nat.le_of_ble_eq_true rfl⟩) (preV hPc hKK (va_recv hK hPc (ci := 4) (q0 := 0) rfl rfl)) rfl rfl hl.1 rfl (lv_room (Nat.le_of_ble_eq_true rfl)) dX1_nearestToReal_16 ⟨Nat.zero_le _, Nat.zero_le _⟩) (fun r_1 h => ?_)
        have hPc := va_P.sub (ws' := []) hP [] rfl
        refine rdI (va_runS (As := [.long r_1]) (rest := []) ⟨hx, hb, hml, hown, hts⟩ (kJ13_bitCount_95d88 l G r_1 h) (va_cwS 1 hts (gdS q272 q151 q5 q152) rfl rfl rfl (by decide +kernel) ⟨Nat.le_of_ble_eq_true rfl, Nat.le_of_ble_eq_true rfl⟩) (preS hPc hKK) rfl rfl hl.1 rfl (lv_room (Nat.le_of_ble_eq_true rfl)) dX1_nearestToReal_19 ⟨Nat.zero_le _, Nat.zero_le _⟩) (fun r_2 h => ?_)
        refine lv_aload_n hx hb dX1_nearestToReal_22 rfl (lv_at hl 0 rfl) ?_
        refine lv_iload_n hx hb dX1_nearestToReal_23 rfl (lv_at hl 1 rfl) ?_
        refine lv_aload_n hx hb dX1_nearestToReal_24 rfl (lv_at hl 0 rfl) ?_
        refine va_get (D := G.1) (ci := 4) (v := .int re) (C := RX1) (T := TX1) (N := 5) hx hb hts igX1 hown hK hP 0 rfl rfl 4 (by decide) (hts _ q78) (fun _ h9 => h9) rfl dX1_nearestToReal_25 ?_
        have hPc := hP
        refine rdL (va_runV (C := RX1) (As := [.int i1, .int re]) (rest := [.int r_2]) ⟨hx, hb, hml, hown, hts⟩ (kX1_cell l G s0 s1 s2 b0 b1 b2 b3 b4 b5 b6 dk wg op re kf ff sf df pf gf bn i1 re h) (cwV 2 hts (gdV q156 q157 q158 q3 q159) rfl rfl rfl (by decide +kernel) ⟨Nat.le_of_ble_eq_true rfl, Nat.le_of_ble_eq_true rfl⟩) (preV hPc hKK (va_recv hK hPc (ci := 4) (q0 := 0) rfl rfl)) rfl rfl hl.1 rfl (lv_room (Nat.le_of_ble_eq_true rfl)) dX1_nearestToReal_28 ⟨Nat.zero_le _, Nat.zero_le _⟩) (fun r_3 h => ?_)
        have hPc := va_P.sub (ws' := []) hP [] rfl
        refine rdI (va_runS (As := [.long r_3]) (rest := [.int r_2]) ⟨hx, hb, hml, hown, hts⟩ (kJ13_bitCount_95d88 l G r_3 h) (va_cwS 1 hts (gdS q272 q151 q5 q152) rfl rfl rfl (by decide +kernel) ⟨Nat.le_of_ble_eq_true rfl, Nat.le_of_ble_eq_true rfl⟩) (preS hPc hKK) rfl rfl hl.1 rfl (lv_room (Nat.le_of_ble_eq_true rfl)) dX1_nearestToReal_31 ⟨Nat.zero_le _, Nat.zero_le _⟩) (fun r_4 h => ?_)
        refine lv_icmp_ge (tgt := 39) hx hb dX1_nearestToReal_34 (by decide) (fun hc => ?_) (fun hc => ?_)
        · have h := h.1 hc
          refine lv_iinc (v := (i2 + 1)) hx hb dX1_nearestToReal_39 hl (k := 2) rfl (by rw [show Int32.ofInt 1 = 1 from by decide]) (Nat.le_of_ble_eq_true rfl) rfl (fun ls hl => ?_)
          have hl : lv_has ls 3 [(2, .int (i2 + 1)), (0, .ref s0), (1, .int i1)] := hl
          refine lv_goto (tgt := 4) hx hb dX1_nearestToReal_42 (by decide) ?_
          have hl := lv_sub (l' := [(0, .ref s0), (1, .int i1), (2, .int (i2 + 1))]) hl [1, 2, 0] rfl
          exact ih _ _ ls hl h
        · have h := h.2 hc
          refine lv_iload_n hx hb dX1_nearestToReal_37 rfl (lv_at hl 2 rfl) ?_
          refine lv_istore_n hx hb dX1_nearestToReal_38 rfl hl (Nat.le_of_ble_eq_true rfl) rfl (fun ls hl => ?_)
          have hl : lv_has ls 3 [(1, .int i2), (0, .ref s0), (2, .int i2)] := hl
          refine lv_iinc (v := (i2 + 1)) hx hb dX1_nearestToReal_39 hl (k := 2) rfl (by rw [show Int32.ofInt 1 = 1 from by decide]) (Nat.le_of_ble_eq_true rfl) rfl (fun ls hl => ?_)
          have hl : lv_has ls 3 [(2, .int (i2 + 1)), (1, .int i2), (0, .ref s0)] := hl
          refine lv_goto (tgt := 4) hx hb dX1_nearestToReal_42 (by decide) ?_
          have hl := lv_sub (l' := [(0, .ref s0), (1, .int i2), (2, .int (i2 + 1))]) hl [2, 1, 0] rfl
          exact ih _ _ ls hl h
  refine lv_iconst (v := 0) hx hb dX1_nearestToReal_0 (by decide) ?_
  refine lv_istore_n hx hb dX1_nearestToReal_1 rfl hl (Nat.le_of_ble_eq_true rfl) rfl (fun ls hl => ?_)
  have hl : lv_has ls 3 [(1, .int (0 : Int32)), (0, .ref s0)] := hl
  refine lv_iconst (v := 1) hx hb dX1_nearestToReal_2 (by decide) ?_
  refine lv_istore_n hx hb dX1_nearestToReal_3 rfl hl (Nat.le_of_ble_eq_true rfl) rfl (fun ls hl => ?_)
  have hl : lv_has ls 3 [(2, .int (1 : Int32)), (1, .int (0 : Int32)), (0, .ref s0)] := hl
  have hl := lv_sub (l' := [(0, .ref s0), (1, .int (0 : Int32)), (2, .int (1 : Int32))]) hl [2, 1, 0] rfl
  obtain ⟨nF, h⟩ := h
  refine loop4 _ trivial ?_ nF (0 : Int32) (1 : Int32) _ hl h
  · intro i1 i2 ls hl h
    refine lv_iload_n hx hb dX1_nearestToReal_45 rfl (lv_at hl 1 rfl) ?_
    exact W.iret (v := i1) hx hb hr (fun t ht _ => ⟨_, rfl, h, ht⟩) (fun _ hq => absurd hq List.not_mem_nil) dX1_nearestToReal_46
theorem dX1_isSoundOf_0 : decode cX1_isSoundOf 0 = .ok (.aload_n 0, 1) := by decide +kernel
theorem dX1_isSoundOf_1 : decode cX1_isSoundOf 1 = .ok (.iload_n 1, 1) := by decide +kernel
theorem dX1_isSoundOf_2 : decode cX1_isSoundOf 2 = .ok (.invokevirtual 137, 3) := by decide +kernel
theorem dX1_isSoundOf_5 : decode cX1_isSoundOf 5 = .ok (.istore_n 2, 1) := by decide +kernel
theorem dX1_isSoundOf_6 : decode cX1_isSoundOf 6 = .ok (.iload_n 2, 1) := by decide +kernel
theorem dX1_isSoundOf_7 : decode cX1_isSoundOf 7 = .ok (.ifCond .eq 13, 3) := by decide +kernel
theorem dX1_isSoundOf_10 : decode cX1_isSoundOf 10 = .ok (.aload_n 0, 1) := by decide +kernel
theorem dX1_isSoundOf_11 : decode cX1_isSoundOf 11 = .ok (.iload_n 1, 1) := by decide +kernel
theorem dX1_isSoundOf_12 : decode cX1_isSoundOf 12 = .ok (.invokevirtual 140, 3) := by decide +kernel
theorem dX1_isSoundOf_15 : decode cX1_isSoundOf 15 = .ok (.ifCond .ne 5, 3) := by decide +kernel
theorem dX1_isSoundOf_18 : decode cX1_isSoundOf 18 = .ok (.iconst 0, 1) := by decide +kernel
theorem dX1_isSoundOf_19 : decode cX1_isSoundOf 19 = .ok (.ireturn, 1) := by decide +kernel
theorem dX1_isSoundOf_20 : decode cX1_isSoundOf 20 = .ok (.aload_n 0, 1) := by decide +kernel
theorem dX1_isSoundOf_21 : decode cX1_isSoundOf 21 = .ok (.getfield 18, 3) := by decide +kernel
theorem dX1_isSoundOf_24 : decode cX1_isSoundOf 24 = .ok (.iload_n 1, 1) := by decide +kernel
theorem dX1_isSoundOf_25 : decode cX1_isSoundOf 25 = .ok (.invokevirtual 70, 3) := by decide +kernel
theorem dX1_isSoundOf_28 : decode cX1_isSoundOf 28 = .ok (.istore_n 3, 1) := by decide +kernel
theorem dX1_isSoundOf_29 : decode cX1_isSoundOf 29 = .ok (.iload_n 3, 1) := by decide +kernel
theorem dX1_isSoundOf_30 : decode cX1_isSoundOf 30 = .ok (.iconst 5, 1) := by decide +kernel
theorem dX1_isSoundOf_31 : decode cX1_isSoundOf 31 = .ok (.if_icmp .eq 9, 3) := by decide +kernel
theorem dX1_isSoundOf_34 : decode cX1_isSoundOf 34 = .ok (.iload_n 3, 1) := by decide +kernel
theorem dX1_isSoundOf_35 : decode cX1_isSoundOf 35 = .ok (.bipush 6, 2) := by decide +kernel
theorem dX1_isSoundOf_37 : decode cX1_isSoundOf 37 = .ok (.if_icmp .ne 15, 3) := by decide +kernel
theorem dX1_isSoundOf_40 : decode cX1_isSoundOf 40 = .ok (.aload_n 0, 1) := by decide +kernel
theorem dX1_isSoundOf_41 : decode cX1_isSoundOf 41 = .ok (.iload_n 1, 1) := by decide +kernel
theorem dX1_isSoundOf_42 : decode cX1_isSoundOf 42 = .ok (.invokevirtual 140, 3) := by decide +kernel
theorem dX1_isSoundOf_45 : decode cX1_isSoundOf 45 = .ok (.ifCond .eq 7, 3) := by decide +kernel
theorem dX1_isSoundOf_48 : decode cX1_isSoundOf 48 = .ok (.iconst 1, 1) := by decide +kernel
theorem dX1_isSoundOf_49 : decode cX1_isSoundOf 49 = .ok (.goto 4, 3) := by decide +kernel
theorem dX1_isSoundOf_52 : decode cX1_isSoundOf 52 = .ok (.iconst 0, 1) := by decide +kernel
theorem dX1_isSoundOf_53 : decode cX1_isSoundOf 53 = .ok (.istore 4, 2) := by decide +kernel
theorem dX1_isSoundOf_55 : decode cX1_isSoundOf 55 = .ok (.iload 4, 2) := by decide +kernel
theorem dX1_isSoundOf_57 : decode cX1_isSoundOf 57 = .ok (.ifCond .eq 33, 3) := by decide +kernel
theorem dX1_isSoundOf_60 : decode cX1_isSoundOf 60 = .ok (.aload_n 0, 1) := by decide +kernel
theorem dX1_isSoundOf_61 : decode cX1_isSoundOf 61 = .ok (.getfield 18, 3) := by decide +kernel
theorem dX1_isSoundOf_64 : decode cX1_isSoundOf 64 = .ok (.iload_n 1, 1) := by decide +kernel
theorem dX1_isSoundOf_65 : decode cX1_isSoundOf 65 = .ok (.invokevirtual 63, 3) := by decide +kernel
theorem dX1_isSoundOf_68 : decode cX1_isSoundOf 68 = .ok (.i2l, 1) := by decide +kernel
theorem dX1_isSoundOf_69 : decode cX1_isSoundOf 69 = .ok (.aload_n 0, 1) := by decide +kernel
theorem dX1_isSoundOf_70 : decode cX1_isSoundOf 70 = .ok (.aload_n 0, 1) := by decide +kernel
theorem dX1_isSoundOf_71 : decode cX1_isSoundOf 71 = .ok (.getfield 18, 3) := by decide +kernel
theorem dX1_isSoundOf_74 : decode cX1_isSoundOf 74 = .ok (.iload_n 1, 1) := by decide +kernel
theorem dX1_isSoundOf_75 : decode cX1_isSoundOf 75 = .ok (.invokevirtual 67, 3) := by decide +kernel
theorem dX1_isSoundOf_78 : decode cX1_isSoundOf 78 = .ok (.invokevirtual 137, 3) := by decide +kernel
theorem dX1_isSoundOf_81 : decode cX1_isSoundOf 81 = .ok (.i2l, 1) := by decide +kernel
theorem dX1_isSoundOf_82 : decode cX1_isSoundOf 82 = .ok (.invokestatic 110, 3) := by decide +kernel
theorem dX1_isSoundOf_85 : decode cX1_isSoundOf 85 = .ok (.ifCond .ne 5, 3) := by decide +kernel
theorem dX1_isSoundOf_88 : decode cX1_isSoundOf 88 = .ok (.iconst 0, 1) := by decide +kernel
theorem dX1_isSoundOf_89 : decode cX1_isSoundOf 89 = .ok (.ireturn, 1) := by decide +kernel
theorem dX1_isSoundOf_90 : decode cX1_isSoundOf 90 = .ok (.iconst 1, 1) := by decide +kernel
theorem dX1_isSoundOf_91 : decode cX1_isSoundOf 91 = .ok (.istore 5, 2) := by decide +kernel
theorem dX1_isSoundOf_93 : decode cX1_isSoundOf 93 = .ok (.iload 5, 2) := by decide +kernel
theorem dX1_isSoundOf_95 : decode cX1_isSoundOf 95 = .ok (.bipush 63, 2) := by decide +kernel
theorem dX1_isSoundOf_97 : decode cX1_isSoundOf 97 = .ok (.if_icmp .gt 39, 3) := by decide +kernel
theorem dX1_isSoundOf_100 : decode cX1_isSoundOf 100 = .ok (.iload 5, 2) := by decide +kernel
theorem dX1_isSoundOf_102 : decode cX1_isSoundOf 102 = .ok (.iload_n 2, 1) := by decide +kernel
theorem dX1_isSoundOf_103 : decode cX1_isSoundOf 103 = .ok (.iand, 1) := by decide +kernel
theorem dX1_isSoundOf_104 : decode cX1_isSoundOf 104 = .ok (.ifCond .eq 26, 3) := by decide +kernel
theorem dX1_isSoundOf_107 : decode cX1_isSoundOf 107 = .ok (.aload_n 0, 1) := by decide +kernel
theorem dX1_isSoundOf_108 : decode cX1_isSoundOf 108 = .ok (.iload 5, 2) := by decide +kernel
theorem dX1_isSoundOf_110 : decode cX1_isSoundOf 110 = .ok (.aload_n 0, 1) := by decide +kernel
theorem dX1_isSoundOf_111 : decode cX1_isSoundOf 111 = .ok (.getfield 22, 3) := by decide +kernel
theorem dX1_isSoundOf_114 : decode cX1_isSoundOf 114 = .ok (.invokevirtual 107, 3) := by decide +kernel
theorem dX1_isSoundOf_117 : decode cX1_isSoundOf 117 = .ok (.aload_n 0, 1) := by decide +kernel
theorem dX1_isSoundOf_118 : decode cX1_isSoundOf 118 = .ok (.iload_n 1, 1) := by decide +kernel
theorem dX1_isSoundOf_119 : decode cX1_isSoundOf 119 = .ok (.invokevirtual 77, 3) := by decide +kernel
theorem dX1_isSoundOf_122 : decode cX1_isSoundOf 122 = .ok (.invokestatic 110, 3) := by decide +kernel
theorem dX1_isSoundOf_125 : decode cX1_isSoundOf 125 = .ok (.ifCond .ne 5, 3) := by decide +kernel
theorem dX1_isSoundOf_128 : decode cX1_isSoundOf 128 = .ok (.iconst 0, 1) := by decide +kernel
theorem dX1_isSoundOf_129 : decode cX1_isSoundOf 129 = .ok (.ireturn, 1) := by decide +kernel
theorem dX1_isSoundOf_130 : decode cX1_isSoundOf 130 = .ok (.iinc 5 1, 3) := by decide +kernel
theorem dX1_isSoundOf_133 : decode cX1_isSoundOf 133 = .ok (.goto (-40), 3) := by decide +kernel
theorem dX1_isSoundOf_136 : decode cX1_isSoundOf 136 = .ok (.iconst 1, 1) := by decide +kernel
theorem dX1_isSoundOf_137 : decode cX1_isSoundOf 137 = .ok (.ireturn, 1) := by decide +kernel
def wX1_isSoundOf_L93 (post : Int32 → Prop) (K136 : Int32 → Prop) (dk : Nat → Int64) (wg : Nat → Int64) (op : Int64) (re : Int32) (bn : Int32) (p1 : Int32) (r_1 : Int32) : Nat → Int32 → Prop
  | 0, _ => False
  | n+1, i5 =>
    (((63 : Int32) < i5) →
      K136 i5
    ) ∧ (¬ ((63 : Int32) < i5) →
      (((i5 &&& r_1) = 0) →
        wX1_isSoundOf_L93 post K136 dk wg op re bn p1 r_1 n (i5 + 1)
      ) ∧ (¬ ((i5 &&& r_1) = 0) →
        wX1_cellTogether (fun r_4 : Int64 =>
          wX1_worldsOf (fun r_5 : Int64 =>
            wX2_isWithin (fun r_6 : Int32 =>
              ((¬ r_6 = 0) →
                wX1_isSoundOf_L93 post K136 dk wg op re bn p1 r_1 n (i5 + 1)
              ) ∧ ((r_6 = 0) →
                post (0 : Int32)
              )
              ) r_4 r_5
            ) wg bn p1
          ) dk op i5 re
      )
    )
def wX1_isSoundOf_C90 (post : Int32 → Prop) (dk : Nat → Int64) (wg : Nat → Int64) (op : Int64) (re : Int32) (bn : Int32) (p1 : Int32) (r_1 : Int32) : Prop :=
  ∃ nF, wX1_isSoundOf_L93 post
    (fun i5 =>
      post (1 : Int32)
    )
    dk wg op re bn p1 r_1 nF (1 : Int32)
def wX1_isSoundOf_C55 (post : Int32 → Prop) (dk : Nat → Int64) (wg : Nat → Int64) (op : Int64) (re : Int32) (ff : Nat → Int32) (sf : Nat → Int32) (bn : Int32) (p1 : Int32) (r_1 : Int32) (i4 : Int32) : Prop :=
  ((i4 = 0) →
    wX1_isSoundOf_C90 post dk wg op re bn p1 r_1
  ) ∧ (¬ (i4 = 0) →
    wX0_firstOf (fun r_7 : Int32 =>
      wX0_secondOf (fun r_8 : Int32 =>
        wX1_knowersOf (fun r_9 : Int32 =>
          wX2_isWithin (fun r_10 : Int32 =>
            ((¬ r_10 = 0) →
              wX1_isSoundOf_C90 post dk wg op re bn p1 r_1
            ) ∧ ((r_10 = 0) →
              post (0 : Int32)
            )
            ) (r_7.toInt64) (r_9.toInt64)
          ) dk wg op re bn r_8
        ) sf bn p1
      ) ff bn p1
  )
def wX1_isSoundOf_L93_5 (post : Int32 → Prop) (K136 : Int32 → Prop) (dk : Nat → Int64) (wg : Nat → Int64) (op : Int64) (re : Int32) (bn : Int32) (p1 : Int32) (r_1 : Int32) : Nat → Int32 → Prop
  | 0, _ => False
  | n+1, i5 =>
    (((63 : Int32) < i5) →
      K136 i5
    ) ∧ (¬ ((63 : Int32) < i5) →
      (((i5 &&& r_1) = 0) →
        wX1_isSoundOf_L93_5 post K136 dk wg op re bn p1 r_1 n (i5 + 1)
      ) ∧ (¬ ((i5 &&& r_1) = 0) →
        wX1_cellTogether (fun r_15 : Int64 =>
          wX1_worldsOf (fun r_16 : Int64 =>
            wX2_isWithin (fun r_17 : Int32 =>
              ((¬ r_17 = 0) →
                wX1_isSoundOf_L93_5 post K136 dk wg op re bn p1 r_1 n (i5 + 1)
              ) ∧ ((r_17 = 0) →
                post (0 : Int32)
              )
              ) r_15 r_16
            ) wg bn p1
          ) dk op i5 re
      )
    )
def wX1_isSoundOf_C90x (post : Int32 → Prop) (dk : Nat → Int64) (wg : Nat → Int64) (op : Int64) (re : Int32) (bn : Int32) (p1 : Int32) (r_1 : Int32) : Prop :=
  ∃ nF, wX1_isSoundOf_L93_5 post
    (fun i5 =>
      post (1 : Int32)
    )
    dk wg op re bn p1 r_1 nF (1 : Int32)
def wX1_isSoundOf_C55x (post : Int32 → Prop) (dk : Nat → Int64) (wg : Nat → Int64) (op : Int64) (re : Int32) (ff : Nat → Int32) (sf : Nat → Int32) (bn : Int32) (p1 : Int32) (r_1 : Int32) (i4 : Int32) : Prop :=
  ((i4 = 0) →
    wX1_isSoundOf_C90x post dk wg op re bn p1 r_1
  ) ∧ (¬ (i4 = 0) →
    wX0_firstOf (fun r_18 : Int32 =>
      wX0_secondOf (fun r_19 : Int32 =>
        wX1_knowersOf (fun r_20 : Int32 =>
          wX2_isWithin (fun r_21 : Int32 =>
            ((¬ r_21 = 0) →
              wX1_isSoundOf_C90x post dk wg op re bn p1 r_1
            ) ∧ ((r_21 = 0) →
              post (0 : Int32)
            )
            ) (r_18.toInt64) (r_20.toInt64)
          ) dk wg op re bn r_19
        ) sf bn p1
      ) ff bn p1
  )
def wX1_isSoundOf (post : Int32 → Prop) (dk : Nat → Int64) (wg : Nat → Int64) (op : Int64) (re : Int32) (kf : Nat → Int32) (ff : Nat → Int32) (sf : Nat → Int32) (bn : Int32) (p1 : Int32) : Prop :=
  wX1_knowersOf (fun r_1 : Int32 =>
    ((r_1 = 0) →
      wX0_kindOf (fun r_2 : Int32 =>
        ((r_2 = (5 : Int32)) →
          wX1_isTrueInReal (fun r_3 : Int32 =>
            ((r_3 = 0) →
              wX1_isSoundOf_C55 post dk wg op re ff sf bn p1 r_1 (0 : Int32)
            ) ∧ (¬ (r_3 = 0) →
              wX1_isSoundOf_C55 post dk wg op re ff sf bn p1 r_1 (1 : Int32)
            )
            ) wg re bn p1
        ) ∧ (¬ (r_2 = (5 : Int32)) →
          ((¬ r_2 = (6 : Int32)) →
            wX1_isSoundOf_C55 post dk wg op re ff sf bn p1 r_1 (0 : Int32)
          ) ∧ ((r_2 = (6 : Int32)) →
            wX1_isTrueInReal (fun r_11 : Int32 =>
              ((r_11 = 0) →
                wX1_isSoundOf_C55 post dk wg op re ff sf bn p1 r_1 (0 : Int32)
              ) ∧ (¬ (r_11 = 0) →
                wX1_isSoundOf_C55 post dk wg op re ff sf bn p1 r_1 (1 : Int32)
              )
              ) wg re bn p1
          )
        )
        ) kf bn p1
    ) ∧ (¬ (r_1 = 0) →
      wX1_isTrueInReal (fun r_12 : Int32 =>
        ((¬ r_12 = 0) →
          wX0_kindOf (fun r_13 : Int32 =>
            ((r_13 = (5 : Int32)) →
              wX1_isTrueInReal (fun r_14 : Int32 =>
                ((r_14 = 0) →
                  wX1_isSoundOf_C55x post dk wg op re ff sf bn p1 r_1 (0 : Int32)
                ) ∧ (¬ (r_14 = 0) →
                  wX1_isSoundOf_C55x post dk wg op re ff sf bn p1 r_1 (1 : Int32)
                )
                ) wg re bn p1
            ) ∧ (¬ (r_13 = (5 : Int32)) →
              ((¬ r_13 = (6 : Int32)) →
                wX1_isSoundOf_C55x post dk wg op re ff sf bn p1 r_1 (0 : Int32)
              ) ∧ ((r_13 = (6 : Int32)) →
                wX1_isTrueInReal (fun r_22 : Int32 =>
                  ((r_22 = 0) →
                    wX1_isSoundOf_C55x post dk wg op re ff sf bn p1 r_1 (0 : Int32)
                  ) ∧ (¬ (r_22 = 0) →
                    wX1_isSoundOf_C55x post dk wg op re ff sf bn p1 r_1 (1 : Int32)
                  )
                  ) wg re bn p1
              )
            )
            ) kf bn p1
        ) ∧ ((r_12 = 0) →
          post (0 : Int32)
        )
        ) wg re bn p1
    )
    ) dk wg op re bn p1
abbrev wl_X1_isSoundOf : List Cond := .code yX1_isSoundOf cX1_isSoundOf 6 (some .boolean) :: lwg
abbrev rm_X1_isSoundOf : Room := { frames := 4, cells := 0, slots := 0, locals := 87 }
set_option maxHeartbeats 4000000 in
set_option maxRecDepth 100000 in
theorem kX1_isSoundOf {post : Int32 → Prop} (l : Launch) (G : GT) (s0 : Nat) (s1 : Nat) (s2 : Nat) (b0 : Nat) (b1 : Nat) (b2 : Nat) (b3 : Nat) (b4 : Nat) (b5 : Nat) (b6 : Nat) (dk : Nat → Int64) (wg : Nat → Int64) (op : Int64) (re : Int32) (kf : Nat → Int32) (ff : Nat → Int32) (sf : Nat → Int32) (df : Nat → Int32) (pf : Nat → Int64) (gf : Nat → Int64) (bn : Int32) (p1 : Int32) (h : wX1_isSoundOf post dk wg op re kf ff sf bn p1) : Met l yX1_isSoundOf wl_X1_isSoundOf rm_X1_isSoundOf (va_Pc [.ref s0, .int p1] (fun U => PP G [(s0, .inr (4, [.ref b0, .ref s1, .ref s2, .long op, .int re])), (s1, .inl (G.2 1, 384, .inr (.inl dk))), (s2, .inl (G.2 1, 40, .inr (.inl wg))), (b0, .inr (3, [.ref b1, .ref b2, .ref b3, .ref b4, .ref b5, .ref b6, .int bn])), (b1, .inl (G.2 0, 40, .inl kf)), (b2, .inl (G.2 0, 40, .inl ff)), (b3, .inl (G.2 0, 40, .inl sf)), (b4, .inl (G.2 0, 40, .inl df)), (b5, .inl (G.2 1, 40, .inr (.inl pf))), (b6, .inl (G.2 1, 6, .inr (.inl gf)))] U.heap ∧ KK G U)) (vp_Si post) 0 0 (fun _ => False) := by
  refine Met.ofW (cc := cX1_isSoundOf) (maxL := 6) (ret := (some .boolean)) (by decide) rfl ?_
  intro p e s m args below meth c s₁ B hml hv
  obtain ⟨rfl, hP, hKK⟩ := hv
  obtain ⟨hK, hN, hR, hFW, hNC⟩ := id hKK
  have hx := B.exec
  have hb := B.bytes
  have hr := B.returns
  have hts0 := atoms_spec (ws := wl_X1_isSoundOf) B.pre
  have hts : ∀ w ∈ lwg, w.before ([.ref s0, .int p1] : List Value).toArray s = true := fun w hw => hts0 w (List.mem_cons_of_mem _ hw)
  have hown : s.vm.findClass RX1 = some m.cls := findClass_of_methodNamed B.named
  have hlocks := B.notSynchronized
  have hP : PP G [(s0, .inr (4, [.ref b0, .ref s1, .ref s2, .long op, .int re])), (s1, .inl (G.2 1, 384, .inr (.inl dk))), (s2, .inl (G.2 1, 40, .inr (.inl wg))), (b0, .inr (3, [.ref b1, .ref b2, .ref b3, .ref b4, .ref b5, .ref b6, .int bn])), (b1, .inl (G.2 0, 40, .inl kf)), (b2, .inl (G.2 0, 40, .inl ff)), (b3, .inl (G.2 0, 40, .inl sf)), (b4, .inl (G.2 0, 40, .inl df)), (b5, .inl (G.2 1, 40, .inr (.inl pf))), (b6, .inl (G.2 1, 6, .inr (.inl gf)))] s.heap := hP
  have hl := lv_entry ([.ref s0, .int p1]) (n := 6) (Nat.le_of_ble_eq_true rfl)
  rw [lg_entry_eq]
  generalize (lg_sl ([.ref s0, .int p1]) ++ List.replicate (6 - (lg_sl ([.ref s0, .int p1])).length) Slot.unset).toArray = ls at hl ⊢
  have hl : lv_has ls 6 [(0, .ref s0), (1, .int p1)] := hl
  have loop93 : ∀ (K136 : Int32 → Prop) (r_1 : Int32) (r_2 : Int32) (i4 : Int32), True → (∀ (i5 : Int32) (ls : Array Slot), lv_has ls 6 [(0, .ref s0), (1, .int p1), (2, .int r_1), (3, .int r_2), (4, .int i4), (5, .int i5)] → K136 i5 → W p l e (headSpec (wl_X1_isSoundOf) rm_X1_isSoundOf).room s m ([.ref s0, .int p1] : List Value).toArray below meth c s.heap [] 0 0 (MQ below (vp_Si post) ([.ref s0, .int p1] : List Value).toArray s 0 0 (fun _ => False)) (F0 m 136 ls [])) → ∀ (n : Nat) (i5 : Int32) (ls : Array Slot), lv_has ls 6 [(0, .ref s0), (1, .int p1), (2, .int r_1), (3, .int r_2), (4, .int i4), (5, .int i5)] → wX1_isSoundOf_L93 post K136 dk wg op re bn p1 r_1 n i5 → W p l e (headSpec (wl_X1_isSoundOf) rm_X1_isSoundOf).room s m ([.ref s0, .int p1] : List Value).toArray below meth c s.heap [] 0 0 (MQ below (vp_Si post) ([.ref s0, .int p1] : List Value).toArray s 0 0 (fun _ => False)) (F0 m 93 ls []) := by
    intro K136 r_1 r_2 i4 _ hexit136 n
    induction n with
    | zero => intro i5 ls hl h; exact False.elim h
    | succ n ih =>
      intro i5 ls hl h
      refine lv_iload hx hb dX1_isSoundOf_93 (lv_at hl 5 rfl) ?_
      refine lv_bipush (v := 63) hx hb dX1_isSoundOf_95 (by decide) ?_
      refine lv_icmp_gt (tgt := 136) hx hb dX1_isSoundOf_97 (by decide) (fun hc => ?_) (fun hc => ?_)
      · have h := h.1 hc
        have hl := lv_sub (l' := [(0, .ref s0), (1, .int p1), (2, .int r_1), (3, .int r_2), (4, .int i4), (5, .int i5)]) hl [0, 1, 2, 3, 4, 5] rfl
        exact hexit136 _ ls hl h
      · have h := h.2 hc
        refine lv_iload hx hb dX1_isSoundOf_100 (lv_at hl 5 rfl) ?_
        refine lv_iload_n hx hb dX1_isSoundOf_102 rfl (lv_at hl 2 rfl) ?_
        refine lv_iand hx hb dX1_isSoundOf_103 ?_
        refine lv_if_eq (tgt := 130) hx hb dX1_isSoundOf_104 (by decide) (fun hc => ?_) (fun hc => ?_)
        · have h := h.1 hc
          refine lv_iinc (v := (i5 + 1)) hx hb dX1_isSoundOf_130 hl (k := 5) rfl (by rw [show Int32.ofInt 1 = 1 from by decide]) (Nat.le_of_ble_eq_true rfl) rfl (fun ls hl => ?_)
          have hl : lv_has ls 6 [(5, .int (i5 + 1)), (0, .ref s0), (1, .int p1), (2, .int r_1), (3, .int r_2), (4, .int i4)] := hl
          refine lv_goto (tgt := 93) hx hb dX1_isSoundOf_133 (by decide) ?_
          have hl := lv_sub (l' := [(0, .ref s0), (1, .int p1), (2, .int r_1), (3, .int r_2), (4, .int i4), (5, .int (i5 + 1))]) hl [1, 2, 3, 4, 5, 0] rfl
          exact ih _ ls hl h
        · have h := h.2 hc
          refine lv_aload_n hx hb dX1_isSoundOf_107 rfl (lv_at hl 0 rfl) ?_
          refine lv_iload hx hb dX1_isSoundOf_108 (lv_at hl 5 rfl) ?_
          refine lv_aload_n hx hb dX1_isSoundOf_110 rfl (lv_at hl 0 rfl) ?_
          refine va_get (D := G.1) (ci := 4) (v := .int re) (C := RX1) (T := TX1) (N := 5) hx hb hts igX1 hown hK hP 0 rfl rfl 4 (by decide) (hts _ q78) (fun _ h9 => h9) rfl dX1_isSoundOf_111 ?_
          have hPc := hP
          refine rdL (va_runV (C := RX1) (As := [.int i5, .int re]) (rest := []) ⟨hx, hb, hml, hown, hts⟩ (kX1_cellTogether l G s0 s1 s2 b0 b1 b2 b3 b4 b5 b6 dk wg op re kf ff sf df pf gf bn i5 re h) (cwV 2 hts (gdV q168 q170 qs4 q3 q171) rfl rfl rfl (by decide +kernel) ⟨Nat.le_of_ble_eq_true rfl, Nat.le_of_ble_eq_true rfl⟩) (preV hPc hKK (va_recv hK hPc (ci := 4) (q0 := 0) rfl rfl)) rfl rfl hl.1 rfl (lv_room (Nat.le_of_ble_eq_true rfl)) dX1_isSoundOf_114 ⟨Nat.zero_le _, Nat.zero_le _⟩) (fun r_4 h => ?_)
          refine lv_aload_n hx hb dX1_isSoundOf_117 rfl (lv_at hl 0 rfl) ?_
          refine lv_iload_n hx hb dX1_isSoundOf_118 rfl (lv_at hl 1 rfl) ?_
          have hPc := hP
          refine rdL (va_runV (C := RX1) (As := [.int p1]) (rest := [.long r_4]) ⟨hx, hb, hml, hown, hts⟩ (kX1_worldsOf l G s0 s1 s2 b0 b1 b2 b3 b4 b5 b6 dk wg op re kf ff sf df pf gf bn p1 h) (cwV 1 hts (gdV q134 q135 q136 q3 q137) rfl rfl rfl (by decide +kernel) ⟨Nat.le_of_ble_eq_true rfl, Nat.le_of_ble_eq_true rfl⟩) (preV hPc hKK (va_recv hK hPc (ci := 4) (q0 := 0) rfl rfl)) rfl rfl hl.1 rfl (lv_room (Nat.le_of_ble_eq_true rfl)) dX1_isSoundOf_119 ⟨Nat.zero_le _, Nat.zero_le _⟩) (fun r_5 h => ?_)
          have hPc := va_P.sub (ws' := []) hP [] rfl
          refine rdI (va_runSN (As := [.long r_4, .long r_5]) (rest := []) ⟨hx, hb, hml, hown, hts⟩ (kX2_isWithin l G r_4 r_5 h) ⟨va_cnB 2 hts (gdC q174) rfl rfl rfl (hN _ n172) (hts _ q1) (by decide +kernel) ⟨Nat.le_of_ble_eq_true rfl, Nat.le_of_ble_eq_true rfl⟩, hts _ q173, trivial⟩ (preS hPc hKK) rfl rfl hl.1 rfl (lv_room (Nat.le_of_ble_eq_true rfl)) dX1_isSoundOf_122 ⟨Nat.zero_le _, Nat.zero_le _⟩) (fun r_6 h => ?_)
          refine lv_if_ne (tgt := 130) hx hb dX1_isSoundOf_125 (by decide) (fun hc => ?_) (fun hc => ?_)
          · have h := h.1 hc
            refine lv_iinc (v := (i5 + 1)) hx hb dX1_isSoundOf_130 hl (k := 5) rfl (by rw [show Int32.ofInt 1 = 1 from by decide]) (Nat.le_of_ble_eq_true rfl) rfl (fun ls hl => ?_)
            have hl : lv_has ls 6 [(5, .int (i5 + 1)), (0, .ref s0), (1, .int p1), (2, .int r_1), (3, .int r_2), (4, .int i4)] := hl
            refine lv_goto (tgt := 93) hx hb dX1_isSoundOf_133 (by decide) ?_
            have hl := lv_sub (l' := [(0, .ref s0), (1, .int p1), (2, .int r_1), (3, .int r_2), (4, .int i4), (5, .int (i5 + 1))]) hl [1, 2, 3, 4, 5, 0] rfl
            exact ih _ ls hl h
          · have h := h.2 hc
            refine lv_iconst (v := 0) hx hb dX1_isSoundOf_128 (by decide) ?_
            exact W.zret (v := (0 : Int32)) hx hb hr (by decide) (fun t ht _ => ⟨_, rfl, h, ht⟩) (fun _ hq => absurd hq List.not_mem_nil) dX1_isSoundOf_129
  have cut90 : ∀ (r_1 : Int32) (r_2 : Int32) (i4 : Int32) (ls : Array Slot), lv_has ls 6 [(0, .ref s0), (1, .int p1), (2, .int r_1), (3, .int r_2), (4, .int i4)] → wX1_isSoundOf_C90 post dk wg op re bn p1 r_1 → W p l e (headSpec (wl_X1_isSoundOf) rm_X1_isSoundOf).room s m ([.ref s0, .int p1] : List Value).toArray below meth c s.heap [] 0 0 (MQ below (vp_Si post) ([.ref s0, .int p1] : List Value).toArray s 0 0 (fun _ => False)) (F0 m 90 ls []) := by
    intro r_1 r_2 i4 ls hl h
    refine lv_iconst (v := 1) hx hb dX1_isSoundOf_90 (by decide) ?_
    refine lv_istore hx hb dX1_isSoundOf_91 hl (Nat.le_of_ble_eq_true rfl) rfl (fun ls hl => ?_)
    have hl : lv_has ls 6 [(5, .int (1 : Int32)), (0, .ref s0), (1, .int p1), (2, .int r_1), (3, .int r_2), (4, .int i4)] := hl
    have hl := lv_sub (l' := [(0, .ref s0), (1, .int p1), (2, .int r_1), (3, .int r_2), (4, .int i4), (5, .int (1 : Int32))]) hl [1, 2, 3, 4, 5, 0] rfl
    obtain ⟨nF, h⟩ := h
    refine loop93 _ r_1 r_2 i4 trivial ?_ nF (1 : Int32) _ hl h
    · intro i5 ls hl h
      refine lv_iconst (v := 1) hx hb dX1_isSoundOf_136 (by decide) ?_
      exact W.zret (v := (1 : Int32)) hx hb hr (by decide) (fun t ht _ => ⟨_, rfl, h, ht⟩) (fun _ hq => absurd hq List.not_mem_nil) dX1_isSoundOf_137
  have cut55 : ∀ (r_1 : Int32) (r_2 : Int32) (i4 : Int32) (ls : Array Slot), lv_has ls 6 [(0, .ref s0), (1, .int p1), (2, .int r_1), (3, .int r_2), (4, .int i4)] → wX1_isSoundOf_C55 post dk wg op re ff sf bn p1 r_1 i4 → W p l e (headSpec (wl_X1_isSoundOf) rm_X1_isSoundOf).room s m ([.ref s0, .int p1] : List Value).toArray below meth c s.heap [] 0 0 (MQ below (vp_Si post) ([.ref s0, .int p1] : List Value).toArray s 0 0 (fun _ => False)) (F0 m 55 ls []) := by
    intro r_1 r_2 i4 ls hl h
    refine lv_iload hx hb dX1_isSoundOf_55 (lv_at hl 4 rfl) ?_
    refine lv_if_eq (tgt := 90) hx hb dX1_isSoundOf_57 (by decide) (fun hc => ?_) (fun hc => ?_)
    · have h := h.1 hc
      have hl := lv_sub (l' := [(0, .ref s0), (1, .int p1), (2, .int r_1), (3, .int r_2), (4, .int i4)]) hl [0, 1, 2, 3, 4] rfl
      exact cut90 r_1 r_2 i4 _ hl h
    · have h := h.2 hc
      refine lv_aload_n hx hb dX1_isSoundOf_60 rfl (lv_at hl 0 rfl) ?_
      refine va_get (D := G.1) (ci := 4) (v := .ref b0) (C := RX1) (T := TX1) (N := 5) hx hb hts igX1 hown hK hP 0 rfl rfl 0 (by decide) (hts _ q73) (fun _ h9 => h9) rfl dX1_isSoundOf_61 ?_
      refine lv_iload_n hx hb dX1_isSoundOf_64 rfl (lv_at hl 1 rfl) ?_
      have hPc := va_P.sub (ws' := [(b0, .inr (3, [.ref b1, .ref b2, .ref b3, .ref b4, .ref b5, .ref b6, .int bn])), (b1, .inl (G.2 0, 40, .inl kf)), (b2, .inl (G.2 0, 40, .inl ff)), (b3, .inl (G.2 0, 40, .inl sf)), (b4, .inl (G.2 0, 40, .inl df)), (b5, .inl (G.2 1, 40, .inr (.inl pf))), (b6, .inl (G.2 1, 6, .inr (.inl gf)))]) hP [3, 4, 5, 6, 7, 8, 9] rfl
      refine rdI (va_runV (C := RX0) (As := [.int p1]) (rest := []) ⟨hx, hb, hml, hown, hts⟩ (kX0_firstOf l G b0 b1 b2 b3 b4 b5 b6 kf ff sf df pf gf bn p1 h) (cwV 1 hts (gdV q110 q111 q112 q2 q113) rfl rfl rfl (by decide +kernel) ⟨Nat.le_of_ble_eq_true rfl, Nat.le_of_ble_eq_true rfl⟩) (preV hPc hKK (va_recv hK hPc (ci := 3) (q0 := 0) rfl rfl)) rfl rfl hl.1 rfl (lv_room (Nat.le_of_ble_eq_true rfl)) dX1_isSoundOf_65 ⟨Nat.zero_le _, Nat.zero_le _⟩) (fun r_7 h => ?_)
      refine lv_i2l (v := (r_7.toInt64)) hx hb dX1_isSoundOf_68 rfl ?_
      refine lv_aload_n hx hb dX1_isSoundOf_69 rfl (lv_at hl 0 rfl) ?_
      refine lv_aload_n hx hb dX1_isSoundOf_70 rfl (lv_at hl 0 rfl) ?_
      refine va_get (D := G.1) (ci := 4) (v := .ref b0) (C := RX1) (T := TX1) (N := 5) hx hb hts igX1 hown hK hP 0 rfl rfl 0 (by decide) (hts _ q73) (fun _ h9 => h9) rfl dX1_isSoundOf_71 ?_
      refine lv_iload_n hx hb dX1_isSoundOf_74 rfl (lv_at hl 1 rfl) ?_
      have hPc := va_P.sub (ws' := [(b0, .inr (3, [.ref b1, .ref b2, .ref b3, .ref b4, .ref b5, .ref b6, .int bn])), (b1, .inl (G.2 0, 40, .inl kf)), (b2, .inl (G.2 0, 40, .inl ff)), (b3, .inl (G.2 0, 40, .inl sf)), (b4, .inl (G.2 0, 40, .inl df)), (b5, .inl (G.2 1, 40, .inr (.inl pf))), (b6, .inl (G.2 1, 6, .inr (.inl gf)))]) hP [3, 4, 5, 6, 7, 8, 9] rfl
      refine rdI (va_runV (C := RX0) (As := [.int p1]) (rest := [.ref s0, .long (r_7.toInt64)]) ⟨hx, hb, hml, hown, hts⟩ (kX0_secondOf l G b0 b1 b2 b3 b4 b5 b6 kf ff sf df pf gf bn p1 h) (cwV 1 hts (gdV q118 q119 q120 q2 q121) rfl rfl rfl (by decide +kernel) ⟨Nat.le_of_ble_eq_true rfl, Nat.le_of_ble_eq_true rfl⟩) (preV hPc hKK (va_recv hK hPc (ci := 3) (q0 := 0) rfl rfl)) rfl rfl hl.1 rfl (lv_room (Nat.le_of_ble_eq_true rfl)) dX1_isSoundOf_75 ⟨Nat.zero_le _, Nat.zero_le _⟩) (fun r_8 h => ?_)
      have hPc := hP
      refine rdI (va_runV (C := RX1) (As := [.int r_8]) (rest := [.long (r_7.toInt64)]) ⟨hx, hb, hml, hown, hts⟩ (kX1_knowersOf l G s0 s1 s2 b0 b1 b2 b3 b4 b5 b6 dk wg op re kf ff sf df pf gf bn r_8 h) (cwV 1 hts (gdV q231 q232 q233 q3 q234) rfl rfl rfl (by decide +kernel) ⟨Nat.le_of_ble_eq_true rfl, Nat.le_of_ble_eq_true rfl⟩) (preV hPc hKK (va_recv hK hPc (ci := 4) (q0 := 0) rfl rfl)) rfl rfl hl.1 rfl (lv_room (Nat.le_of_ble_eq_true rfl)) dX1_isSoundOf_78 ⟨Nat.zero_le _, Nat.zero_le _⟩) (fun r_9 h => ?_)
      refine lv_i2l (v := (r_9.toInt64)) hx hb dX1_isSoundOf_81 rfl ?_
      have hPc := va_P.sub (ws' := []) hP [] rfl
      refine rdI (va_runSN (As := [.long (r_7.toInt64), .long (r_9.toInt64)]) (rest := []) ⟨hx, hb, hml, hown, hts⟩ (kX2_isWithin l G (r_7.toInt64) (r_9.toInt64) h) ⟨va_cnB 2 hts (gdC q174) rfl rfl rfl (hN _ n172) (hts _ q1) (by decide +kernel) ⟨Nat.le_of_ble_eq_true rfl, Nat.le_of_ble_eq_true rfl⟩, hts _ q173, trivial⟩ (preS hPc hKK) rfl rfl hl.1 rfl (lv_room (Nat.le_of_ble_eq_true rfl)) dX1_isSoundOf_82 ⟨Nat.zero_le _, Nat.zero_le _⟩) (fun r_10 h => ?_)
      refine lv_if_ne (tgt := 90) hx hb dX1_isSoundOf_85 (by decide) (fun hc => ?_) (fun hc => ?_)
      · have h := h.1 hc
        have hl := lv_sub (l' := [(0, .ref s0), (1, .int p1), (2, .int r_1), (3, .int r_2), (4, .int i4)]) hl [0, 1, 2, 3, 4] rfl
        exact cut90 r_1 r_2 i4 _ hl h
      · have h := h.2 hc
        refine lv_iconst (v := 0) hx hb dX1_isSoundOf_88 (by decide) ?_
        exact W.zret (v := (0 : Int32)) hx hb hr (by decide) (fun t ht _ => ⟨_, rfl, h, ht⟩) (fun _ hq => absurd hq List.not_mem_nil) dX1_isSoundOf_89
  have loop93_5 : ∀ (K136 : Int32 → Prop) (r_1 : Int32) (i4 : Int32) (r_13 : Int32), True → (∀ (i5 : Int32) (ls : Array Slot), lv_has ls 6 [(0, .ref s0), (1, .int p1), (2, .int r_1), (3, .int r_13), (4, .int i4), (5, .int i5)] → K136 i5 → W p l e (headSpec (wl_X1_isSoundOf) rm_X1_isSoundOf).room s m ([.ref s0, .int p1] : List Value).toArray below meth c s.heap [] 0 0 (MQ below (vp_Si post) ([.ref s0, .int p1] : List Value).toArray s 0 0 (fun _ => False)) (F0 m 136 ls [])) → ∀ (n : Nat) (i5 : Int32) (ls : Array Slot), lv_has ls 6 [(0, .ref s0), (1, .int p1), (2, .int r_1), (3, .int r_13), (4, .int i4), (5, .int i5)] → wX1_isSoundOf_L93_5 post K136 dk wg op re bn p1 r_1 n i5 → W p l e (headSpec (wl_X1_isSoundOf) rm_X1_isSoundOf).room s m ([.ref s0, .int p1] : List Value).toArray below meth c s.heap [] 0 0 (MQ below (vp_Si post) ([.ref s0, .int p1] : List Value).toArray s 0 0 (fun _ => False)) (F0 m 93 ls []) := by
    intro K136 r_1 i4 r_13 _ hexit136 n
    induction n with
    | zero => intro i5 ls hl h; exact False.elim h
    | succ n ih =>
      intro i5 ls hl h
      refine lv_iload hx hb dX1_isSoundOf_93 (lv_at hl 5 rfl) ?_
      refine lv_bipush (v := 63) hx hb dX1_isSoundOf_95 (by decide) ?_
      refine lv_icmp_gt (tgt := 136) hx hb dX1_isSoundOf_97 (by decide) (fun hc => ?_) (fun hc => ?_)
      · have h := h.1 hc
        have hl := lv_sub (l' := [(0, .ref s0), (1, .int p1), (2, .int r_1), (3, .int r_13), (4, .int i4), (5, .int i5)]) hl [0, 1, 2, 3, 4, 5] rfl
        exact hexit136 _ ls hl h
      · have h := h.2 hc
        refine lv_iload hx hb dX1_isSoundOf_100 (lv_at hl 5 rfl) ?_
        refine lv_iload_n hx hb dX1_isSoundOf_102 rfl (lv_at hl 2 rfl) ?_
        refine lv_iand hx hb dX1_isSoundOf_103 ?_
        refine lv_if_eq (tgt := 130) hx hb dX1_isSoundOf_104 (by decide) (fun hc => ?_) (fun hc => ?_)
        · have h := h.1 hc
          refine lv_iinc (v := (i5 + 1)) hx hb dX1_isSoundOf_130 hl (k := 5) rfl (by rw [show Int32.ofInt 1 = 1 from by decide]) (Nat.le_of_ble_eq_true rfl) rfl (fun ls hl => ?_)
          have hl : lv_has ls 6 [(5, .int (i5 + 1)), (0, .ref s0), (1, .int p1), (2, .int r_1), (3, .int r_13), (4, .int i4)] := hl
          refine lv_goto (tgt := 93) hx hb dX1_isSoundOf_133 (by decide) ?_
          have hl := lv_sub (l' := [(0, .ref s0), (1, .int p1), (2, .int r_1), (3, .int r_13), (4, .int i4), (5, .int (i5 + 1))]) hl [1, 2, 3, 4, 5, 0] rfl
          exact ih _ ls hl h
        · have h := h.2 hc
          refine lv_aload_n hx hb dX1_isSoundOf_107 rfl (lv_at hl 0 rfl) ?_
          refine lv_iload hx hb dX1_isSoundOf_108 (lv_at hl 5 rfl) ?_
          refine lv_aload_n hx hb dX1_isSoundOf_110 rfl (lv_at hl 0 rfl) ?_
          refine va_get (D := G.1) (ci := 4) (v := .int re) (C := RX1) (T := TX1) (N := 5) hx hb hts igX1 hown hK hP 0 rfl rfl 4 (by decide) (hts _ q78) (fun _ h9 => h9) rfl dX1_isSoundOf_111 ?_
          have hPc := hP
          refine rdL (va_runV (C := RX1) (As := [.int i5, .int re]) (rest := []) ⟨hx, hb, hml, hown, hts⟩ (kX1_cellTogether l G s0 s1 s2 b0 b1 b2 b3 b4 b5 b6 dk wg op re kf ff sf df pf gf bn i5 re h) (cwV 2 hts (gdV q168 q170 qs4 q3 q171) rfl rfl rfl (by decide +kernel) ⟨Nat.le_of_ble_eq_true rfl, Nat.le_of_ble_eq_true rfl⟩) (preV hPc hKK (va_recv hK hPc (ci := 4) (q0 := 0) rfl rfl)) rfl rfl hl.1 rfl (lv_room (Nat.le_of_ble_eq_true rfl)) dX1_isSoundOf_114 ⟨Nat.zero_le _, Nat.zero_le _⟩) (fun r_15 h => ?_)
          refine lv_aload_n hx hb dX1_isSoundOf_117 rfl (lv_at hl 0 rfl) ?_
          refine lv_iload_n hx hb dX1_isSoundOf_118 rfl (lv_at hl 1 rfl) ?_
          have hPc := hP
          refine rdL (va_runV (C := RX1) (As := [.int p1]) (rest := [.long r_15]) ⟨hx, hb, hml, hown, hts⟩ (kX1_worldsOf l G s0 s1 s2 b0 b1 b2 b3 b4 b5 b6 dk wg op re kf ff sf df pf gf bn p1 h) (cwV 1 hts (gdV q134 q135 q136 q3 q137) rfl rfl rfl (by decide +kernel) ⟨Nat.le_of_ble_eq_true rfl, Nat.le_of_ble_eq_true rfl⟩) (preV hPc hKK (va_recv hK hPc (ci := 4) (q0 := 0) rfl rfl)) rfl rfl hl.1 rfl (lv_room (Nat.le_of_ble_eq_true rfl)) dX1_isSoundOf_119 ⟨Nat.zero_le _, Nat.zero_le _⟩) (fun r_16 h => ?_)
          have hPc := va_P.sub (ws' := []) hP [] rfl
          refine rdI (va_runSN (As := [.long r_15, .long r_16]) (rest := []) ⟨hx, hb, hml, hown, hts⟩ (kX2_isWithin l G r_15 r_16 h) ⟨va_cnB 2 hts (gdC q174) rfl rfl rfl (hN _ n172) (hts _ q1) (by decide +kernel) ⟨Nat.le_of_ble_eq_true rfl, Nat.le_of_ble_eq_true rfl⟩, hts _ q173, trivial⟩ (preS hPc hKK) rfl rfl hl.1 rfl (lv_room (Nat.le_of_ble_eq_true rfl)) dX1_isSoundOf_122 ⟨Nat.zero_le _, Nat.zero_le _⟩) (fun r_17 h => ?_)
          refine lv_if_ne (tgt := 130) hx hb dX1_isSoundOf_125 (by decide) (fun hc => ?_) (fun hc => ?_)
          · have h := h.1 hc
            refine lv_iinc (v := (i5 + 1)) hx hb dX1_isSoundOf_130 hl (k := 5) rfl (by rw [show Int32.ofInt 1 = 1 from by decide]) (Nat.le_of_ble_eq_true rfl) rfl (fun ls hl => ?_)
            have hl : lv_has ls 6 [(5, .int (i5 + 1)), (0, .ref s0), (1, .int p1), (2, .int r_1), (3, .int r_13), (4, .int i4)] := hl
            refine lv_goto (tgt := 93) hx hb dX1_isSoundOf_133 (by decide) ?_
            have hl := lv_sub (l' := [(0, .ref s0), (1, .int p1), (2, .int r_1), (3, .int r_13), (4, .int i4), (5, .int (i5 + 1))]) hl [1, 2, 3, 4, 5, 0] rfl
            exact ih _ ls hl h
          · have h := h.2 hc
            refine lv_iconst (v := 0) hx hb dX1_isSoundOf_128 (by decide) ?_
            exact W.zret (v := (0 : Int32)) hx hb hr (by decide) (fun t ht _ => ⟨_, rfl, h, ht⟩) (fun _ hq => absurd hq List.not_mem_nil) dX1_isSoundOf_129
  have cut90x : ∀ (r_1 : Int32) (i4 : Int32) (r_13 : Int32) (ls : Array Slot), lv_has ls 6 [(0, .ref s0), (1, .int p1), (2, .int r_1), (3, .int r_13), (4, .int i4)] → wX1_isSoundOf_C90x post dk wg op re bn p1 r_1 → W p l e (headSpec (wl_X1_isSoundOf) rm_X1_isSoundOf).room s m ([.ref s0, .int p1] : List Value).toArray below meth c s.heap [] 0 0 (MQ below (vp_Si post) ([.ref s0, .int p1] : List Value).toArray s 0 0 (fun _ => False)) (F0 m 90 ls []) := by
    intro r_1 i4 r_13 ls hl h
    refine lv_iconst (v := 1) hx hb dX1_isSoundOf_90 (by decide) ?_
    refine lv_istore hx hb dX1_isSoundOf_91 hl (Nat.le_of_ble_eq_true rfl) rfl (fun ls hl => ?_)
    have hl : lv_has ls 6 [(5, .int (1 : Int32)), (0, .ref s0), (1, .int p1), (2, .int r_1), (3, .int r_13), (4, .int i4)] := hl
    have hl := lv_sub (l' := [(0, .ref s0), (1, .int p1), (2, .int r_1), (3, .int r_13), (4, .int i4), (5, .int (1 : Int32))]) hl [1, 2, 3, 4, 5, 0] rfl
    obtain ⟨nF, h⟩ := h
    refine loop93_5 _ r_1 i4 r_13 trivial ?_ nF (1 : Int32) _ hl h
    · intro i5 ls hl h
      refine lv_iconst (v := 1) hx hb dX1_isSoundOf_136 (by decide) ?_
      exact W.zret (v := (1 : Int32)) hx hb hr (by decide) (fun t ht _ => ⟨_, rfl, h, ht⟩) (fun _ hq => absurd hq List.not_mem_nil) dX1_isSoundOf_137
  have cut55x : ∀ (r_1 : Int32) (r_13 : Int32) (i4 : Int32) (ls : Array Slot), lv_has ls 6 [(0, .ref s0), (1, .int p1), (2, .int r_1), (3, .int r_13), (4, .int i4)] → wX1_isSoundOf_C55x post dk wg op re ff sf bn p1 r_1 i4 → W p l e (headSpec (wl_X1_isSoundOf) rm_X1_isSoundOf).room s m ([.ref s0, .int p1] : List Value).toArray below meth c s.heap [] 0 0 (MQ below (vp_Si post) ([.ref s0, .int p1] : List Value).toArray s 0 0 (fun _ => False)) (F0 m 55 ls []) := by
    intro r_1 r_13 i4 ls hl h
    refine lv_iload hx hb dX1_isSoundOf_55 (lv_at hl 4 rfl) ?_
    refine lv_if_eq (tgt := 90) hx hb dX1_isSoundOf_57 (by decide) (fun hc => ?_) (fun hc => ?_)
    · have h := h.1 hc
      have hl := lv_sub (l' := [(0, .ref s0), (1, .int p1), (2, .int r_1), (3, .int r_13), (4, .int i4)]) hl [0, 1, 2, 3, 4] rfl
      exact cut90x r_1 i4 r_13 _ hl h
    · have h := h.2 hc
      refine lv_aload_n hx hb dX1_isSoundOf_60 rfl (lv_at hl 0 rfl) ?_
      refine va_get (D := G.1) (ci := 4) (v := .ref b0) (C := RX1) (T := TX1) (N := 5) hx hb hts igX1 hown hK hP 0 rfl rfl 0 (by decide) (hts _ q73) (fun _ h9 => h9) rfl dX1_isSoundOf_61 ?_
      refine lv_iload_n hx hb dX1_isSoundOf_64 rfl (lv_at hl 1 rfl) ?_
      have hPc := va_P.sub (ws' := [(b0, .inr (3, [.ref b1, .ref b2, .ref b3, .ref b4, .ref b5, .ref b6, .int bn])), (b1, .inl (G.2 0, 40, .inl kf)), (b2, .inl (G.2 0, 40, .inl ff)), (b3, .inl (G.2 0, 40, .inl sf)), (b4, .inl (G.2 0, 40, .inl df)), (b5, .inl (G.2 1, 40, .inr (.inl pf))), (b6, .inl (G.2 1, 6, .inr (.inl gf)))]) hP [3, 4, 5, 6, 7, 8, 9] rfl
      refine rdI (va_runV (C := RX0) (As := [.int p1]) (rest := []) ⟨hx, hb, hml, hown, hts⟩ (kX0_firstOf l G b0 b1 b2 b3 b4 b5 b6 kf ff sf df pf gf bn p1 h) (cwV 1 hts (gdV q110 q111 q112 q2 q113) rfl rfl rfl (by decide +kernel) ⟨Nat.le_of_ble_eq_true rfl, Nat.le_of_ble_eq_true rfl⟩) (preV hPc hKK (va_recv hK hPc (ci := 3) (q0 := 0) rfl rfl)) rfl rfl hl.1 rfl (lv_room (Nat.le_of_ble_eq_true rfl)) dX1_isSoundOf_65 ⟨Nat.zero_le _, Nat.zero_le _⟩) (fun r_18 h => ?_)
      refine lv_i2l (v := (r_18.toInt64)) hx hb dX1_isSoundOf_68 rfl ?_
      refine lv_aload_n hx hb dX1_isSoundOf_69 rfl (lv_at hl 0 rfl) ?_
      refine lv_aload_n hx hb dX1_isSoundOf_70 rfl (lv_at hl 0 rfl) ?_
      refine va_get (D := G.1) (ci := 4) (v := .ref b0) (C := RX1) (T := TX1) (N := 5) hx hb hts igX1 hown hK hP 0 rfl rfl 0 (by decide) (hts _ q73) (fun _ h9 => h9) rfl dX1_isSoundOf_71 ?_
      refine lv_iload_n hx hb dX1_isSoundOf_74 rfl (lv_at hl 1 rfl) ?_
      have hPc := va_P.sub (ws' := [(b0, .inr (3, [.ref b1, .ref b2, .ref b3, .ref b4, .ref b5, .ref b6, .int bn])), (b1, .inl (G.2 0, 40, .inl kf)), (b2, .inl (G.2 0, 40, .inl ff)), (b3, .inl (G.2 0, 40, .inl sf)), (b4, .inl (G.2 0, 40, .inl df)), (b5, .inl (G.2 1, 40, .inr (.inl pf))), (b6, .inl (G.2 1, 6, .inr (.inl gf)))]) hP [3, 4, 5, 6, 7, 8, 9] rfl
      refine rdI (va_runV (C := RX0) (As := [.int p1]) (rest := [.ref s0, .long (r_18.toInt64)]) ⟨hx, hb, hml, hown, hts⟩ (kX0_secondOf l G b0 b1 b2 b3 b4 b5 b6 kf ff sf df pf gf bn p1 h) (cwV 1 hts (gdV q118 q119 q120 q2 q121) rfl rfl rfl (by decide +kernel) ⟨Nat.le_of_ble_eq_true rfl, Nat.le_of_ble_eq_true rfl⟩) (preV hPc hKK (va_recv hK hPc (ci := 3) (q0 := 0) rfl rfl)) rfl rfl hl.1 rfl (lv_room (Nat.le_of_ble_eq_true rfl)) dX1_isSoundOf_75 ⟨Nat.zero_le _, Nat.zero_le _⟩) (fun r_19 h => ?_)
      have hPc := hP
      refine rdI (va_runV (C := RX1) (As := [.int r_19]) (rest := [.long (r_18.toInt64)]) ⟨hx, hb, hml, hown, hts⟩ (kX1_knowersOf l G s0 s1 s2 b0 b1 b2 b3 b4 b5 b6 dk wg op re kf ff sf df pf gf bn r_19 h) (cwV 1 hts (gdV q231 q232 q233 q3 q234) rfl rfl rfl (by decide +kernel) ⟨Nat.le_of_ble_eq_true rfl, Nat.le_of_ble_eq_true rfl⟩) (preV hPc hKK (va_recv hK hPc (ci := 4) (q0 := 0) rfl rfl)) rfl rfl hl.1 rfl (lv_room (Nat.le_of_ble_eq_true rfl)) dX1_isSoundOf_78 ⟨Nat.zero_le _, Nat.zero_le _⟩) (fun r_20 h => ?_)
      refine lv_i2l (v := (r_20.toInt64)) hx hb dX1_isSoundOf_81 rfl ?_
      have hPc := va_P.sub (ws' := []) hP [] rfl
      refine rdI (va_runSN (As := [.long (r_18.toInt64), .long (r_20.toInt64)]) (rest := []) ⟨hx, hb, hml, hown, hts⟩ (kX2_isWithin l G (r_18.toInt64) (r_20.toInt64) h) ⟨va_cnB 2 hts (gdC q174) rfl rfl rfl (hN _ n172) (hts _ q1) (by decide +kernel) ⟨Nat.le_of_ble_eq_true rfl, Nat.le_of_ble_eq_true rfl⟩, hts _ q173, trivial⟩ (preS hPc hKK) rfl rfl hl.1 rfl (lv_room (Nat.le_of_ble_eq_true rfl)) dX1_isSoundOf_82 ⟨Nat.zero_le _, Nat.zero_le _⟩) (fun r_21 h => ?_)
      refine lv_if_ne (tgt := 90) hx hb dX1_isSoundOf_85 (by decide) (fun hc => ?_) (fun hc => ?_)
      · have h := h.1 hc
        have hl := lv_sub (l' := [(0, .ref s0), (1, .int p1), (2, .int r_1), (3, .int r_13), (4, .int i4)]) hl [0, 1, 2, 3, 4] rfl
        exact cut90x r_1 i4 r_13 _ hl h
      · have h := h.2 hc
        refine lv_iconst (v := 0) hx hb dX1_isSoundOf_88 (by decide) ?_
        exact W.zret (v := (0 : Int32)) hx hb hr (by decide) (fun t ht _ => ⟨_, rfl, h, ht⟩) (fun _ hq => absurd hq List.not_mem_nil) dX1_isSoundOf_89
  refine lv_aload_n hx hb dX1_isSoundOf_0 rfl (lv_at hl 0 rfl) ?_
  refine lv_iload_n hx hb dX1_isSoundOf_1 rfl (lv_at hl 1 rfl) ?_
  have hPc := hP
  refine rdI (va_runV (C := RX1) (As := [.int p1]) (rest := []) ⟨hx, hb, hml, hown, hts⟩ (kX1_knowersOf l G s0 s1 s2 b0 b1 b2 b3 b4 b5 b6 dk wg op re kf ff sf df pf gf bn p1 h) (cwV 1 hts (gdV q231 q232 q233 q3 q234) rfl rfl rfl (by decide +kernel) ⟨Nat.le_of_ble_eq_true rfl, Nat.le_of_ble_eq_true rfl⟩) (preV hPc hKK (va_recv hK hPc (ci := 4) (q0 := 0) rfl rfl)) rfl rfl hl.1 rfl (lv_room (Nat.le_of_ble_eq_true rfl)) dX1_isSoundOf_2 ⟨Nat.zero_le _, Nat.zero_le _⟩) (fun r_1 h => ?_)
  refine lv_istore_n hx hb dX1_isSoundOf_5 rfl hl (Nat.le_of_ble_eq_true rfl) rfl (fun ls hl => ?_)
  have hl : lv_has ls 6 [(2, .int r_1), (0, .ref s0), (1, .int p1)] := hl
  refine lv_iload_n hx hb dX1_isSoundOf_6 rfl (lv_at hl 0 rfl) ?_
  refine lv_if_eq (tgt := 20) hx hb dX1_isSoundOf_7 (by decide) (fun hc => ?_) (fun hc => ?_)
  · have h := h.1 hc
    refine lv_aload_n hx hb dX1_isSoundOf_20 rfl (lv_at hl 1 rfl) ?_
    refine va_get (D := G.1) (ci := 4) (v := .ref b0) (C := RX1) (T := TX1) (N := 5) hx hb hts igX1 hown hK hP 0 rfl rfl 0 (by decide) (hts _ q73) (fun _ h9 => h9) rfl dX1_isSoundOf_21 ?_
    refine lv_iload_n hx hb dX1_isSoundOf_24 rfl (lv_at hl 2 rfl) ?_
    have hPc := va_P.sub (ws' := [(b0, .inr (3, [.ref b1, .ref b2, .ref b3, .ref b4, .ref b5, .ref b6, .int bn])), (b1, .inl (G.2 0, 40, .inl kf)), (b2, .inl (G.2 0, 40, .inl ff)), (b3, .inl (G.2 0, 40, .inl sf)), (b4, .inl (G.2 0, 40, .inl df)), (b5, .inl (G.2 1, 40, .inr (.inl pf))), (b6, .inl (G.2 1, 6, .inr (.inl gf)))]) hP [3, 4, 5, 6, 7, 8, 9] rfl
    refine rdI (va_runV (C := RX0) (As := [.int p1]) (rest := []) ⟨hx, hb, hml, hown, hts⟩ (kX0_kindOf l G b0 b1 b2 b3 b4 b5 b6 kf ff sf df pf gf bn p1 h) (cwV 1 hts (gdV q122 q123 q124 q2 q125) rfl rfl rfl (by decide +kernel) ⟨Nat.le_of_ble_eq_true rfl, Nat.le_of_ble_eq_true rfl⟩) (preV hPc hKK (va_recv hK hPc (ci := 3) (q0 := 0) rfl rfl)) rfl rfl hl.1 rfl (lv_room (Nat.le_of_ble_eq_true rfl)) dX1_isSoundOf_25 ⟨Nat.zero_le _, Nat.zero_le _⟩) (fun r_2 h => ?_)
    refine lv_istore_n hx hb dX1_isSoundOf_28 rfl hl (Nat.le_of_ble_eq_true rfl) rfl (fun ls hl => ?_)
    have hl : lv_has ls 6 [(3, .int r_2), (2, .int r_1), (0, .ref s0), (1, .int p1)] := hl
    refine lv_iload_n hx hb dX1_isSoundOf_29 rfl (lv_at hl 0 rfl) ?_
    refine lv_iconst (v := 5) hx hb dX1_isSoundOf_30 (by decide) ?_
    refine lv_icmp_eq (tgt := 40) hx hb dX1_isSoundOf_31 (by decide) (fun hc => ?_) (fun hc => ?_)
    · have h := h.1 hc
      refine lv_aload_n hx hb dX1_isSoundOf_40 rfl (lv_at hl 2 rfl) ?_
      refine lv_iload_n hx hb dX1_isSoundOf_41 rfl (lv_at hl 3 rfl) ?_
      have hPc := hP
      refine rdI (va_runV (C := RX1) (As := [.int p1]) (rest := []) ⟨hx, hb, hml, hown, hts⟩ (kX1_isTrueInReal l G s0 s1 s2 b0 b1 b2 b3 b4 b5 b6 dk wg op re kf ff sf df pf gf bn p1 h) (cwV 1 hts (gdV q239 q240 q241 q3 q242) rfl rfl rfl (by decide +kernel) ⟨Nat.le_of_ble_eq_true rfl, Nat.le_of_ble_eq_true rfl⟩) (preV hPc hKK (va_recv hK hPc (ci := 4) (q0 := 0) rfl rfl)) rfl rfl hl.1 rfl (lv_room (Nat.le_of_ble_eq_true rfl)) dX1_isSoundOf_42 ⟨Nat.zero_le _, Nat.zero_le _⟩) (fun r_3 h => ?_)
      refine lv_if_eq (tgt := 52) hx hb dX1_isSoundOf_45 (by decide) (fun hc => ?_) (fun hc => ?_)
      · have h := h.1 hc
        refine lv_iconst (v := 0) hx hb dX1_isSoundOf_52 (by decide) ?_
        refine lv_istore hx hb dX1_isSoundOf_53 hl (Nat.le_of_ble_eq_true rfl) rfl (fun ls hl => ?_)
        have hl : lv_has ls 6 [(4, .int (0 : Int32)), (3, .int r_2), (2, .int r_1), (0, .ref s0), (1, .int p1)] := hl
        have hl := lv_sub (l' := [(0, .ref s0), (1, .int p1), (2, .int r_1), (3, .int r_2), (4, .int (0 : Int32))]) hl [3, 4, 2, 1, 0] rfl
        exact cut55 r_1 r_2 (0 : Int32) _ hl h
      · have h := h.2 hc
        refine lv_iconst (v := 1) hx hb dX1_isSoundOf_48 (by decide) ?_
        refine lv_goto (tgt := 53) hx hb dX1_isSoundOf_49 (by decide) ?_
        refine lv_istore hx hb dX1_isSoundOf_53 hl (Nat.le_of_ble_eq_true rfl) rfl (fun ls hl => ?_)
        have hl : lv_has ls 6 [(4, .int (1 : Int32)), (3, .int r_2), (2, .int r_1), (0, .ref s0), (1, .int p1)] := hl
        have hl := lv_sub (l' := [(0, .ref s0), (1, .int p1), (2, .int r_1), (3, .int r_2), (4, .int (1 : Int32))]) hl [3, 4, 2, 1, 0] rfl
        exact cut55 r_1 r_2 (1 : Int32) _ hl h
    · have h := h.2 hc
      refine lv_iload_n hx hb dX1_isSoundOf_34 rfl (lv_at hl 0 rfl) ?_
      refine lv_bipush (v := 6) hx hb dX1_isSoundOf_35 (by decide) ?_
      refine lv_icmp_ne (tgt := 52) hx hb dX1_isSoundOf_37 (by decide) (fun hc => ?_) (fun hc => ?_)
      · have h := h.1 hc
        refine lv_iconst (v := 0) hx hb dX1_isSoundOf_52 (by decide) ?_
        refine lv_istore hx hb dX1_isSoundOf_53 hl (Nat.le_of_ble_eq_true rfl) rfl (fun ls hl => ?_)
        have hl : lv_has ls 6 [(4, .int (0 : Int32)), (3, .int r_2), (2, .int r_1), (0, .ref s0), (1, .int p1)] := hl
        have hl := lv_sub (l' := [(0, .ref s0), (1, .int p1), (2, .int r_1), (3, .int r_2), (4, .int (0 : Int32))]) hl [3, 4, 2, 1, 0] rfl
        exact cut55 r_1 r_2 (0 : Int32) _ hl h
      · have h := h.2 hc
        refine lv_aload_n hx hb dX1_isSoundOf_40 rfl (lv_at hl 2 rfl) ?_
        refine lv_iload_n hx hb dX1_isSoundOf_41 rfl (lv_at hl 3 rfl) ?_
        have hPc := hP
        refine rdI (va_runV (C := RX1) (As := [.int p1]) (rest := []) ⟨hx, hb, hml, hown, hts⟩ (kX1_isTrueInReal l G s0 s1 s2 b0 b1 b2 b3 b4 b5 b6 dk wg op re kf ff sf df pf gf bn p1 h) (cwV 1 hts (gdV q239 q240 q241 q3 q242) rfl rfl rfl (by decide +kernel) ⟨Nat.le_of_ble_eq_true rfl, Nat.le_of_ble_eq_true rfl⟩) (preV hPc hKK (va_recv hK hPc (ci := 4) (q0 := 0) rfl rfl)) rfl rfl hl.1 rfl (lv_room (Nat.le_of_ble_eq_true rfl)) dX1_isSoundOf_42 ⟨Nat.zero_le _, Nat.zero_le _⟩) (fun r_11 h => ?_)
        refine lv_if_eq (tgt := 52) hx hb dX1_isSoundOf_45 (by decide) (fun hc => ?_) (fun hc => ?_)
        · have h := h.1 hc
          refine lv_iconst (v := 0) hx hb dX1_isSoundOf_52 (by decide) ?_
          refine lv_istore hx hb dX1_isSoundOf_53 hl (Nat.le_of_ble_eq_true rfl) rfl (fun ls hl => ?_)
          have hl : lv_has ls 6 [(4, .int (0 : Int32)), (3, .int r_2), (2, .int r_1), (0, .ref s0), (1, .int p1)] := hl
          have hl := lv_sub (l' := [(0, .ref s0), (1, .int p1), (2, .int r_1), (3, .int r_2), (4, .int (0 : Int32))]) hl [3, 4, 2, 1, 0] rfl
          exact cut55 r_1 r_2 (0 : Int32) _ hl h
        · have h := h.2 hc
          refine lv_iconst (v := 1) hx hb dX1_isSoundOf_48 (by decide) ?_
          refine lv_goto (tgt := 53) hx hb dX1_isSoundOf_49 (by decide) ?_
          refine lv_istore hx hb dX1_isSoundOf_53 hl (Nat.le_of_ble_eq_true rfl) rfl (fun ls hl => ?_)
          have hl : lv_has ls 6 [(4, .int (1 : Int32)), (3, .int r_2), (2, .int r_1), (0, .ref s0), (1, .int p1)] := hl
          have hl := lv_sub (l' := [(0, .ref s0), (1, .int p1), (2, .int r_1), (3, .int r_2), (4, .int (1 : Int32))]) hl [3, 4, 2, 1, 0] rfl
          exact cut55 r_1 r_2 (1 : Int32) _ hl h
  · have h := h.2 hc
    refine lv_aload_n hx hb dX1_isSoundOf_10 rfl (lv_at hl 1 rfl) ?_
    refine lv_iload_n hx hb dX1_isSoundOf_11 rfl (lv_at hl 2 rfl) ?_
    have hPc := hP
    refine rdI (va_runV (C := RX1) (As := [.int p1]) (rest := []) ⟨hx, hb, hml, hown, hts⟩ (kX1_isTrueInReal l G s0 s1 s2 b0 b1 b2 b3 b4 b5 b6 dk wg op re kf ff sf df pf gf bn p1 h) (cwV 1 hts (gdV q239 q240 q241 q3 q242) rfl rfl rfl (by decide +kernel) ⟨Nat.le_of_ble_eq_true rfl, Nat.le_of_ble_eq_true rfl⟩) (preV hPc hKK (va_recv hK hPc (ci := 4) (q0 := 0) rfl rfl)) rfl rfl hl.1 rfl (lv_room (Nat.le_of_ble_eq_true rfl)) dX1_isSoundOf_12 ⟨Nat.zero_le _, Nat.zero_le _⟩) (fun r_12 h => ?_)
    refine lv_if_ne (tgt := 20) hx hb dX1_isSoundOf_15 (by decide) (fun hc => ?_) (fun hc => ?_)
    · have h := h.1 hc
      refine lv_aload_n hx hb dX1_isSoundOf_20 rfl (lv_at hl 1 rfl) ?_
      refine va_get (D := G.1) (ci := 4) (v := .ref b0) (C := RX1) (T := TX1) (N := 5) hx hb hts igX1 hown hK hP 0 rfl rfl 0 (by decide) (hts _ q73) (fun _ h9 => h9) rfl dX1_isSoundOf_21 ?_
      refine lv_iload_n hx hb dX1_isSoundOf_24 rfl (lv_at hl 2 rfl) ?_
      have hPc := va_P.sub (ws' := [(b0, .inr (3, [.ref b1, .ref b2, .ref b3, .ref b4, .ref b5, .ref b6, .int bn])), (b1, .inl (G.2 0, 40, .inl kf)), (b2, .inl (G.2 0, 40, .inl ff)), (b3, .inl (G.2 0, 40, .inl sf)), (b4, .inl (G.2 0, 40, .inl df)), (b5, .inl (G.2 1, 40, .inr (.inl pf))), (b6, .inl (G.2 1, 6, .inr (.inl gf)))]) hP [3, 4, 5, 6, 7, 8, 9] rfl
      refine rdI (va_runV (C := RX0) (As := [.int p1]) (rest := []) ⟨hx, hb, hml, hown, hts⟩ (kX0_kindOf l G b0 b1 b2 b3 b4 b5 b6 kf ff sf df pf gf bn p1 h) (cwV 1 hts (gdV q122 q123 q124 q2 q125) rfl rfl rfl (by decide +kernel) ⟨Nat.le_of_ble_eq_true rfl, Nat.le_of_ble_eq_true rfl⟩) (preV hPc hKK (va_recv hK hPc (ci := 3) (q0 := 0) rfl rfl)) rfl rfl hl.1 rfl (lv_room (Nat.le_of_ble_eq_true rfl)) dX1_isSoundOf_25 ⟨Nat.zero_le _, Nat.zero_le _⟩) (fun r_13 h => ?_)
      refine lv_istore_n hx hb dX1_isSoundOf_28 rfl hl (Nat.le_of_ble_eq_true rfl) rfl (fun ls hl => ?_)
      have hl : lv_has ls 6 [(3, .int r_13), (2, .int r_1), (0, .ref s0), (1, .int p1)] := hl
      refine lv_iload_n hx hb dX1_isSoundOf_29 rfl (lv_at hl 0 rfl) ?_
      refine lv_iconst (v := 5) hx hb dX1_isSoundOf_30 (by decide) ?_
      refine lv_icmp_eq (tgt := 40) hx hb dX1_isSoundOf_31 (by decide) (fun hc => ?_) (fun hc => ?_)
      · have h := h.1 hc
        refine lv_aload_n hx hb dX1_isSoundOf_40 rfl (lv_at hl 2 rfl) ?_
        refine lv_iload_n hx hb dX1_isSoundOf_41 rfl (lv_at hl 3 rfl) ?_
        have hPc := hP
        refine rdI (va_runV (C := RX1) (As := [.int p1]) (rest := []) ⟨hx, hb, hml, hown, hts⟩ (kX1_isTrueInReal l G s0 s1 s2 b0 b1 b2 b3 b4 b5 b6 dk wg op re kf ff sf df pf gf bn p1 h) (cwV 1 hts (gdV q239 q240 q241 q3 q242) rfl rfl rfl (by decide +kernel) ⟨Nat.le_of_ble_eq_true rfl, Nat.le_of_ble_eq_true rfl⟩) (preV hPc hKK (va_recv hK hPc (ci := 4) (q0 := 0) rfl rfl)) rfl rfl hl.1 rfl (lv_room (Nat.le_of_ble_eq_true rfl)) dX1_isSoundOf_42 ⟨Nat.zero_le _, Nat.zero_le _⟩) (fun r_14 h => ?_)
        refine lv_if_eq (tgt := 52) hx hb dX1_isSoundOf_45 (by decide) (fun hc => ?_) (fun hc => ?_)
        · have h := h.1 hc
          refine lv_iconst (v := 0) hx hb dX1_isSoundOf_52 (by decide) ?_
          refine lv_istore hx hb dX1_isSoundOf_53 hl (Nat.le_of_ble_eq_true rfl) rfl (fun ls hl => ?_)
          have hl : lv_has ls 6 [(4, .int (0 : Int32)), (3, .int r_13), (2, .int r_1), (0, .ref s0), (1, .int p1)] := hl
          have hl := lv_sub (l' := [(0, .ref s0), (1, .int p1), (2, .int r_1), (3, .int r_13), (4, .int (0 : Int32))]) hl [3, 4, 2, 1, 0] rfl
          exact cut55x r_1 r_13 (0 : Int32) _ hl h
        · have h := h.2 hc
          refine lv_iconst (v := 1) hx hb dX1_isSoundOf_48 (by decide) ?_
          refine lv_goto (tgt := 53) hx hb dX1_isSoundOf_49 (by decide) ?_
          refine lv_istore hx hb dX1_isSoundOf_53 hl (Nat.le_of_ble_eq_true rfl) rfl (fun ls hl => ?_)
          have hl : lv_has ls 6 [(4, .int (1 : Int32)), (3, .int r_13), (2, .int r_1), (0, .ref s0), (1, .int p1)] := hl
          have hl := lv_sub (l' := [(0, .ref s0), (1, .int p1), (2, .int r_1), (3, .int r_13), (4, .int (1 : Int32))]) hl [3, 4, 2, 1, 0] rfl
          exact cut55x r_1 r_13 (1 : Int32) _ hl h
      · have h := h.2 hc
        refine lv_iload_n hx hb dX1_isSoundOf_34 rfl (lv_at hl 0 rfl) ?_
        refine lv_bipush (v := 6) hx hb dX1_isSoundOf_35 (by decide) ?_
        refine lv_icmp_ne (tgt := 52) hx hb dX1_isSoundOf_37 (by decide) (fun hc => ?_) (fun hc => ?_)
        · have h := h.1 hc
          refine lv_iconst (v := 0) hx hb dX1_isSoundOf_52 (by decide) ?_
          refine lv_istore hx hb dX1_isSoundOf_53 hl (Nat.le_of_ble_eq_true rfl) rfl (fun ls hl => ?_)
          have hl : lv_has ls 6 [(4, .int (0 : Int32)), (3, .int r_13), (2, .int r_1), (0, .ref s0), (1, .int p1)] := hl
          have hl := lv_sub (l' := [(0, .ref s0), (1, .int p1), (2, .int r_1), (3, .int r_13), (4, .int (0 : Int32))]) hl [3, 4, 2, 1, 0] rfl
          exact cut55x r_1 r_13 (0 : Int32) _ hl h
        · have h := h.2 hc
          refine lv_aload_n hx hb dX1_isSoundOf_40 rfl (lv_at hl 2 rfl) ?_
          refine lv_iload_n hx hb dX1_isSoundOf_41 rfl (lv_at hl 3 rfl) ?_
          have hPc := hP
          refine rdI (va_runV (C := RX1) (As := [.int p1]) (rest := []) ⟨hx, hb, hml, hown, hts⟩ (kX1_isTrueInReal l G s0 s1 s2 b0 b1 b2 b3 b4 b5 b6 dk wg op re kf ff sf df pf gf bn p1 h) (cwV 1 hts (gdV q239 q240 q241 q3 q242) rfl rfl rfl (by decide +kernel) ⟨Nat.le_of_ble_eq_true rfl, Nat.le_of_ble_eq_true rfl⟩) (preV hPc hKK (va_recv hK hPc (ci := 4) (q0 := 0) rfl rfl)) rfl rfl hl.1 rfl (lv_room (Nat.le_of_ble_eq_true rfl)) dX1_isSoundOf_42 ⟨Nat.zero_le _, Nat.zero_le _⟩) (fun r_22 h => ?_)
          refine lv_if_eq (tgt := 52) hx hb dX1_isSoundOf_45 (by decide) (fun hc => ?_) (fun hc => ?_)
          · have h := h.1 hc
            refine lv_iconst (v := 0) hx hb dX1_isSoundOf_52 (by decide) ?_
            refine lv_istore hx hb dX1_isSoundOf_53 hl (Nat.le_of_ble_eq_true rfl) rfl (fun ls hl => ?_)
            have hl : lv_has ls 6 [(4, .int (0 : Int32)), (3, .int r_13), (2, .int r_1), (0, .ref s0), (1, .int p1)] := hl
            have hl := lv_sub (l' := [(0, .ref s0), (1, .int p1), (2, .int r_1), (3, .int r_13), (4, .int (0 : Int32))]) hl [3, 4, 2, 1, 0] rfl
            exact cut55x r_1 r_13 (0 : Int32) _ hl h
          · have h := h.2 hc
            refine lv_iconst (v := 1) hx hb dX1_isSoundOf_48 (by decide) ?_
            refine lv_goto (tgt := 53) hx hb dX1_isSoundOf_49 (by decide) ?_
            refine lv_istore hx hb dX1_isSoundOf_53 hl (Nat.le_of_ble_eq_true rfl) rfl (fun ls hl => ?_)
            have hl : lv_has ls 6 [(4, .int (1 : Int32)), (3, .int r_13), (2, .int r_1), (0, .ref s0), (1, .int p1)] := hl
            have hl := lv_sub (l' := [(0, .ref s0), (1, .int p1), (2, .int r_1), (3, .int r_13), (4, .int (1 : Int32))]) hl [3, 4, 2, 1, 0] rfl
            exact cut55x r_1 r_13 (1 : Int32) _ hl h
    · have h := h.2 hc
      refine lv_iconst (v := 0) hx hb dX1_isSoundOf_18 (by decide) ?_
      exact W.zret (v := (0 : Int32)) hx hb hr (by decide) (fun t ht _ => ⟨_, rfl, h, ht⟩) (fun _ hq => absurd hq List.not_mem_nil) dX1_isSoundOf_19
