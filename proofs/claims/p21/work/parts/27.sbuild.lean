theorem q1443 : (Cond.sameMethod RJ5 RJ5 "append" "(C)Ljava/lang/AbstractStringBuilder;") ∈ lwg := lwgR 1443 (by decide +kernel) (by decide +kernel)
theorem q1444 : (Cond.sameMethod RJ5 RJ5 "ensureCapacityInternal" "(I)V") ∈ lwg := lwgR 1444 (by decide +kernel) (by decide +kernel)
theorem q1445 : (Cond.sameMethod RJ5 RJ5 "newCapacity" "(I)I") ∈ lwg := lwgR 1445 (by decide +kernel) (by decide +kernel)
theorem q1447 : (Cond.sameMethod RJ5 RJ5 "append" "(I)Ljava/lang/AbstractStringBuilder;") ∈ lwg := lwgR 1447 (by decide +kernel) (by decide +kernel)
theorem q1448 : (Cond.sameMethod RJ5 RJ5 "append" "(Ljava/lang/String;)Ljava/lang/AbstractStringBuilder;") ∈ lwg := lwgR 1448 (by decide +kernel) (by decide +kernel)
theorem q1450 : (Cond.sameMethod RJ5 RJ5 "putStringAt" "(ILjava/lang/String;)V") ∈ lwg := lwgR 1450 (by decide +kernel) (by decide +kernel)
theorem q1451 : (Cond.sameMethod RJ5 RJ5 "inflateIfNeededFor" "(Ljava/lang/String;)V") ∈ lwg := lwgR 1451 (by decide +kernel) (by decide +kernel)
theorem q19 : (Cond.initialized RJ8) ∈ lwg := lwgR 19 (by decide +kernel) (by decide +kernel)
theorem q20 : (Cond.initialized RJ7) ∈ lwg := lwgR 20 (by decide +kernel) (by decide +kernel)
theorem q24 : (Cond.initialized RJ5) ∈ lwg := lwgR 24 (by decide +kernel) (by decide +kernel)
theorem q26 : (Cond.initialized RJ0) ∈ lwg := lwgR 26 (by decide +kernel) (by decide +kernel)
theorem q28 : (Cond.initialized RJ1) ∈ lwg := lwgR 28 (by decide +kernel) (by decide +kernel)
theorem q340 : (Cond.arrayClass .byte) ∈ lwg := lwgR 340 (by decide +kernel) (by decide +kernel)
theorem q683 : (Cond.fieldLink RJ5 18 "java/lang/String" "COMPACT_STRINGS" "Z") ∈ lwg := lwgR 683 (by decide +kernel) (by decide +kernel)
theorem q692 : (Cond.fieldLink RJ5 15 "java/lang/AbstractStringBuilder" "value" "[B") ∈ lwg := lwgR 692 (by decide +kernel) (by decide +kernel)
theorem q693 : (Cond.fieldLink RJ5 22 "java/lang/AbstractStringBuilder" "coder" "B") ∈ lwg := lwgR 693 (by decide +kernel) (by decide +kernel)
theorem q695 : (Cond.fieldLink RJ5 79 "java/lang/AbstractStringBuilder" "count" "I") ∈ lwg := lwgR 695 (by decide +kernel) (by decide +kernel)
theorem q704 : (Cond.superclass RJ4 RJ5) ∈ lwg := lwgR 704 (by decide +kernel) (by decide +kernel)
theorem q715 : (Cond.methodLink RJ4 50 yJ5_append_3fe6f) ∈ lwg := lwgR 715 (by decide +kernel) (by decide +kernel)
theorem q716 : (Cond.instanceMethod yJ5_append_3fe6f) ∈ lwg := lwgR 716 (by decide +kernel) (by decide +kernel)
theorem q717 : (Cond.code yJ5_append_3fe6f cJ5_append_3fe6f 2 (some (.object "java/lang/AbstractStringBuilder"))) ∈ lwg := lwgR 717 (by decide +kernel) (by decide +kernel)
theorem q718 : (Cond.methodLink RJ5 100 yJ5_ensureCapacityInternal_d00df) ∈ lwg := lwgR 718 (by decide +kernel) (by decide +kernel)
theorem q720 : (Cond.instanceMethod yJ5_ensureCapacityInternal_d00df) ∈ lwg := lwgR 720 (by decide +kernel) (by decide +kernel)
theorem q721 : (Cond.code yJ5_ensureCapacityInternal_d00df cJ5_ensureCapacityInternal_d00df 3 none) ∈ lwg := lwgR 721 (by decide +kernel) (by decide +kernel)
theorem q722 : (Cond.methodLink RJ5 104 yJ5_newCapacity_0f7a4) ∈ lwg := lwgR 722 (by decide +kernel) (by decide +kernel)
theorem q724 : (Cond.instanceMethod yJ5_newCapacity_0f7a4) ∈ lwg := lwgR 724 (by decide +kernel) (by decide +kernel)
theorem q725 : (Cond.code yJ5_newCapacity_0f7a4 cJ5_newCapacity_0f7a4 6 (some .int)) ∈ lwg := lwgR 725 (by decide +kernel) (by decide +kernel)
theorem q726 : (Cond.methodLink RJ5 114 yJ8_newLength_cabcc) ∈ lwg := lwgR 726 (by decide +kernel) (by decide +kernel)
theorem q727 : (Cond.static yJ8_newLength_cabcc) ∈ lwg := lwgR 727 (by decide +kernel) (by decide +kernel)
theorem q728 : (Cond.code yJ8_newLength_cabcc cJ8_newLength_cabcc 4 (some .int)) ∈ lwg := lwgR 728 (by decide +kernel) (by decide +kernel)
theorem q729 : (Cond.methodLink RJ8 194 Lib.Math.max.name) ∈ lwg := lwgR 729 (by decide +kernel) (by decide +kernel)
theorem q730 : (Cond.constant RJ8 200 (2147483639)) ∈ lwg := lwgR 730 (by decide +kernel) (by decide +kernel)
theorem q734 : (Cond.constant RJ5 39 (2147483647)) ∈ lwg := lwgR 734 (by decide +kernel) (by decide +kernel)
theorem q735 : (Cond.methodLink RJ5 108 yJ7_copyOf_9075b) ∈ lwg := lwgR 735 (by decide +kernel) (by decide +kernel)
theorem q736 : (Cond.static yJ7_copyOf_9075b) ∈ lwg := lwgR 736 (by decide +kernel) (by decide +kernel)
theorem q737 : (Cond.code yJ7_copyOf_9075b cJ7_copyOf_9075b 3 (some (.array .byte))) ∈ lwg := lwgR 737 (by decide +kernel) (by decide +kernel)
theorem q738 : (Cond.methodLink RJ7 310 ⟨"[B","clone","()Ljava/lang/Object;"⟩) ∈ lwg := lwgR 738 (by decide +kernel) (by decide +kernel)
theorem q739 : (Cond.sameMethod "[B" "java/lang/Object" "clone" "()Ljava/lang/Object;") ∈ lwg := lwgR 739 (by decide +kernel) (by decide +kernel)
theorem q740 : (Cond.native ⟨"java/lang/Object","clone","()Ljava/lang/Object;"⟩) ∈ lwg := lwgR 740 (by decide +kernel) (by decide +kernel)
theorem q741 : (Cond.instanceMethod ⟨"java/lang/Object","clone","()Ljava/lang/Object;"⟩) ∈ lwg := lwgR 741 (by decide +kernel) (by decide +kernel)
theorem q742 : (Cond.selects "[B" ⟨"[B","clone","()Ljava/lang/Object;"⟩ ⟨"java/lang/Object","clone","()Ljava/lang/Object;"⟩) ∈ lwg := lwgR 742 (by decide +kernel) (by decide +kernel)
theorem q744 : (Cond.classLink RJ7 311 "[B") ∈ lwg := lwgR 744 (by decide +kernel) (by decide +kernel)
theorem q745 : (Cond.methodLink RJ7 304 Lib.Math.min.name) ∈ lwg := lwgR 745 (by decide +kernel) (by decide +kernel)
theorem q746 : (Cond.static Lib.Math.min.name) ∈ lwg := lwgR 746 (by decide +kernel) (by decide +kernel)
theorem q747 : (Cond.code Lib.Math.min.name Lib.Math.min.code 2 (some .int)) ∈ lwg := lwgR 747 (by decide +kernel) (by decide +kernel)
theorem q748 : (Cond.methodLink RJ7 150 arraycopyName) ∈ lwg := lwgR 748 (by decide +kernel) (by decide +kernel)
theorem q749 : (Cond.methodLink RJ5 83 yJ5_isLatin1_aae02) ∈ lwg := lwgR 749 (by decide +kernel) (by decide +kernel)
theorem q750 : (Cond.instanceMethod yJ5_isLatin1_aae02) ∈ lwg := lwgR 750 (by decide +kernel) (by decide +kernel)
theorem q751 : (Cond.sameMethod RJ5 RJ5 "isLatin1" "()Z") ∈ lwg := lwgR 751 (by decide +kernel) (by decide +kernel)
theorem q752 : (Cond.selects RJ4 yJ5_isLatin1_aae02 yJ5_isLatin1_aae02) ∈ lwg := lwgR 752 (by decide +kernel) (by decide +kernel)
theorem q753 : (Cond.code yJ5_isLatin1_aae02 cJ5_isLatin1_aae02 1 (some .boolean)) ∈ lwg := lwgR 753 (by decide +kernel) (by decide +kernel)
theorem q754 : (Cond.methodLink RJ5 191 yJ1_canEncode_fc78d) ∈ lwg := lwgR 754 (by decide +kernel) (by decide +kernel)
theorem q755 : (Cond.static yJ1_canEncode_fc78d) ∈ lwg := lwgR 755 (by decide +kernel) (by decide +kernel)
theorem q756 : (Cond.code yJ1_canEncode_fc78d cJ1_canEncode_fc78d 1 (some .boolean)) ∈ lwg := lwgR 756 (by decide +kernel) (by decide +kernel)
theorem q806 : (Cond.methodLink RJ4 53 yJ5_append_c97b9) ∈ lwg := lwgR 806 (by decide +kernel) (by decide +kernel)
theorem q807 : (Cond.instanceMethod yJ5_append_c97b9) ∈ lwg := lwgR 807 (by decide +kernel) (by decide +kernel)
theorem q808 : (Cond.code yJ5_append_c97b9 cJ5_append_c97b9 4 (some (.object "java/lang/AbstractStringBuilder"))) ∈ lwg := lwgR 808 (by decide +kernel) (by decide +kernel)
theorem q809 : (Cond.methodLink RJ5 245 yJ6_stringSize_0f7a4) ∈ lwg := lwgR 809 (by decide +kernel) (by decide +kernel)
theorem q810 : (Cond.static yJ6_stringSize_0f7a4) ∈ lwg := lwgR 810 (by decide +kernel) (by decide +kernel)
theorem q811 : (Cond.code yJ6_stringSize_0f7a4 cJ6_stringSize_0f7a4 4 (some .int)) ∈ lwg := lwgR 811 (by decide +kernel) (by decide +kernel)
theorem q812 : (Cond.methodLink RJ5 248 yJ6_getChars_ba4f3) ∈ lwg := lwgR 812 (by decide +kernel) (by decide +kernel)
theorem q813 : (Cond.static yJ6_getChars_ba4f3) ∈ lwg := lwgR 813 (by decide +kernel) (by decide +kernel)
theorem q814 : (Cond.code yJ6_getChars_ba4f3 cJ6_getChars_ba4f3 7 (some .int)) ∈ lwg := lwgR 814 (by decide +kernel) (by decide +kernel)
theorem q815 : (Cond.fieldLink RJ6 83 "java/lang/Integer" "DigitOnes" "[B") ∈ lwg := lwgR 815 (by decide +kernel) (by decide +kernel)
theorem q817 : (Cond.fieldLink RJ6 87 "java/lang/Integer" "DigitTens" "[B") ∈ lwg := lwgR 817 (by decide +kernel) (by decide +kernel)
theorem q884 : (Cond.methodLink RJ4 29 yJ5_append_cf1ce) ∈ lwg := lwgR 884 (by decide +kernel) (by decide +kernel)
theorem q885 : (Cond.instanceMethod yJ5_append_cf1ce) ∈ lwg := lwgR 885 (by decide +kernel) (by decide +kernel)
theorem q886 : (Cond.code yJ5_append_cf1ce cJ5_append_cf1ce 3 (some (.object "java/lang/AbstractStringBuilder"))) ∈ lwg := lwgR 886 (by decide +kernel) (by decide +kernel)
theorem q894 : (Cond.methodLink RJ5 32 yJ0_length_8abf5) ∈ lwg := lwgR 894 (by decide +kernel) (by decide +kernel)
theorem q895 : (Cond.instanceMethod yJ0_length_8abf5) ∈ lwg := lwgR 895 (by decide +kernel) (by decide +kernel)
theorem q896 : (Cond.selects RJ0 yJ0_length_8abf5 yJ0_length_8abf5) ∈ lwg := lwgR 896 (by decide +kernel) (by decide +kernel)
theorem q897 : (Cond.code yJ0_length_8abf5 cJ0_length_8abf5 1 (some .int)) ∈ lwg := lwgR 897 (by decide +kernel) (by decide +kernel)
theorem q898 : (Cond.methodLink RJ0 335 yJ0_coder_7d493) ∈ lwg := lwgR 898 (by decide +kernel) (by decide +kernel)
theorem q899 : (Cond.instanceMethod yJ0_coder_7d493) ∈ lwg := lwgR 899 (by decide +kernel) (by decide +kernel)
theorem q900 : (Cond.selects RJ0 yJ0_coder_7d493 yJ0_coder_7d493) ∈ lwg := lwgR 900 (by decide +kernel) (by decide +kernel)
theorem q901 : (Cond.code yJ0_coder_7d493 cJ0_coder_7d493 1 (some .byte)) ∈ lwg := lwgR 901 (by decide +kernel) (by decide +kernel)
theorem q902 : (Cond.fieldLink RJ0 38 "java/lang/String" "COMPACT_STRINGS" "Z") ∈ lwg := lwgR 902 (by decide +kernel) (by decide +kernel)
theorem q903 : (Cond.methodLink RJ5 208 yJ5_putStringAt_47b60) ∈ lwg := lwgR 903 (by decide +kernel) (by decide +kernel)
theorem q905 : (Cond.instanceMethod yJ5_putStringAt_47b60) ∈ lwg := lwgR 905 (by decide +kernel) (by decide +kernel)
theorem q906 : (Cond.code yJ5_putStringAt_47b60 cJ5_putStringAt_47b60 3 none) ∈ lwg := lwgR 906 (by decide +kernel) (by decide +kernel)
theorem q907 : (Cond.methodLink RJ5 397 yJ5_inflateIfNeededFor_a7421) ∈ lwg := lwgR 907 (by decide +kernel) (by decide +kernel)
theorem q909 : (Cond.instanceMethod yJ5_inflateIfNeededFor_a7421) ∈ lwg := lwgR 909 (by decide +kernel) (by decide +kernel)
theorem q910 : (Cond.code yJ5_inflateIfNeededFor_a7421 cJ5_inflateIfNeededFor_a7421 2 none) ∈ lwg := lwgR 910 (by decide +kernel) (by decide +kernel)
theorem q911 : (Cond.methodLink RJ5 40 yJ0_coder_7d493) ∈ lwg := lwgR 911 (by decide +kernel) (by decide +kernel)
theorem q912 : (Cond.methodLink RJ5 399 yJ0_getBytes_840e7) ∈ lwg := lwgR 912 (by decide +kernel) (by decide +kernel)
theorem q913 : (Cond.instanceMethod yJ0_getBytes_840e7) ∈ lwg := lwgR 913 (by decide +kernel) (by decide +kernel)
theorem q914 : (Cond.selects RJ0 yJ0_getBytes_840e7 yJ0_getBytes_840e7) ∈ lwg := lwgR 914 (by decide +kernel) (by decide +kernel)
theorem q915 : (Cond.code yJ0_getBytes_840e7 cJ0_getBytes_840e7 4 none) ∈ lwg := lwgR 915 (by decide +kernel) (by decide +kernel)
theorem q916 : (Cond.methodLink RJ0 212 arraycopyName) ∈ lwg := lwgR 916 (by decide +kernel) (by decide +kernel)
theorem q933 : (Cond.fieldLink RJ0 9 "java/lang/String" "value" "[B") ∈ lwg := lwgR 933 (by decide +kernel) (by decide +kernel)
theorem q934 : (Cond.fieldLink RJ0 15 "java/lang/String" "coder" "B") ∈ lwg := lwgR 934 (by decide +kernel) (by decide +kernel)
theorem n743 : (Cond.castable "[B" "java/lang/Cloneable") ∈ lwn := lwnR 743 (by decide +kernel) rfl
theorem qu0 : (Cond.selects RJ4 yJ5_ensureCapacityInternal_d00df yJ5_ensureCapacityInternal_d00df) ∈ lwg := lwgU 0 rfl (by decide +kernel)
theorem qu1 : (Cond.selects RJ4 yJ5_newCapacity_0f7a4 yJ5_newCapacity_0f7a4) ∈ lwg := lwgU 1 rfl (by decide +kernel)
theorem qu2 : (Cond.selects RJ4 yJ5_putStringAt_47b60 yJ5_putStringAt_47b60) ∈ lwg := lwgU 2 rfl (by decide +kernel)
theorem qu3 : (Cond.selects RJ4 yJ5_inflateIfNeededFor_a7421 yJ5_inflateIfNeededFor_a7421) ∈ lwg := lwgU 3 rfl (by decide +kernel)
theorem llit0 : llit[0]? = some ("NightdeskRotaModel", 224, "p", [112]) := rfl
theorem llit1 : llit[1]? = some ("NightdeskRotaModel", 237, "-", [45]) := rfl
theorem llit2 : llit[2]? = some ("NightdeskRotaModel", 243, "(", [40]) := rfl
theorem llit3 : llit[3]? = some ("NightdeskRotaModel", 245, "&", [38]) := rfl
theorem llit4 : llit[4]? = some ("NightdeskRotaModel", 247, ")", [41]) := rfl
theorem llit5 : llit[5]? = some ("NightdeskRotaModel", 249, "|", [124]) := rfl
theorem llit6 : llit[6]? = some ("NightdeskRotaModel", 251, "", []) := rfl
theorem llit7 : llit[7]? = some ("NightdeskRotaModel", 253, "KECD", [75, 69, 67, 68]) := rfl
theorem llit8 : llit[8]? = some ("NightdeskRotaModel", 264, ":", [58]) := rfl
theorem llit9 : llit[9]? = some ("NightdeskRotaModel", 266, "...", [46, 46, 46]) := rfl
theorem llit10 : llit[10]? = some ("NightdeskRota$Book", 77, "...", [46, 46, 46]) := rfl
theorem litR0 {G : GT} {s : State} (h : SR G s) : vk_R "NightdeskRotaModel" 224 "p" (G.2 100) s := h.2.1 0 ("NightdeskRotaModel", 224, "p", [112]) llit0
theorem litJ0 {G : GT} {A : Nat → Prop} {s : State} {H : Heap} (h : JJ G A s H) : ∃ d, ST (G.2 100) d 1 (fun j => ([112] : List Int32).getD j 0) A s H := h.2.2.2.2.2 0 ("NightdeskRotaModel", 224, "p", [112]) llit0
theorem litR1 {G : GT} {s : State} (h : SR G s) : vk_R "NightdeskRotaModel" 237 "-" (G.2 101) s := h.2.1 1 ("NightdeskRotaModel", 237, "-", [45]) llit1
theorem litJ1 {G : GT} {A : Nat → Prop} {s : State} {H : Heap} (h : JJ G A s H) : ∃ d, ST (G.2 101) d 1 (fun j => ([45] : List Int32).getD j 0) A s H := h.2.2.2.2.2 1 ("NightdeskRotaModel", 237, "-", [45]) llit1
theorem litR2 {G : GT} {s : State} (h : SR G s) : vk_R "NightdeskRotaModel" 243 "(" (G.2 102) s := h.2.1 2 ("NightdeskRotaModel", 243, "(", [40]) llit2
theorem litJ2 {G : GT} {A : Nat → Prop} {s : State} {H : Heap} (h : JJ G A s H) : ∃ d, ST (G.2 102) d 1 (fun j => ([40] : List Int32).getD j 0) A s H := h.2.2.2.2.2 2 ("NightdeskRotaModel", 243, "(", [40]) llit2
theorem litR3 {G : GT} {s : State} (h : SR G s) : vk_R "NightdeskRotaModel" 245 "&" (G.2 103) s := h.2.1 3 ("NightdeskRotaModel", 245, "&", [38]) llit3
theorem litJ3 {G : GT} {A : Nat → Prop} {s : State} {H : Heap} (h : JJ G A s H) : ∃ d, ST (G.2 103) d 1 (fun j => ([38] : List Int32).getD j 0) A s H := h.2.2.2.2.2 3 ("NightdeskRotaModel", 245, "&", [38]) llit3
theorem litR4 {G : GT} {s : State} (h : SR G s) : vk_R "NightdeskRotaModel" 247 ")" (G.2 104) s := h.2.1 4 ("NightdeskRotaModel", 247, ")", [41]) llit4
theorem litJ4 {G : GT} {A : Nat → Prop} {s : State} {H : Heap} (h : JJ G A s H) : ∃ d, ST (G.2 104) d 1 (fun j => ([41] : List Int32).getD j 0) A s H := h.2.2.2.2.2 4 ("NightdeskRotaModel", 247, ")", [41]) llit4
theorem litR5 {G : GT} {s : State} (h : SR G s) : vk_R "NightdeskRotaModel" 249 "|" (G.2 105) s := h.2.1 5 ("NightdeskRotaModel", 249, "|", [124]) llit5
theorem litJ5 {G : GT} {A : Nat → Prop} {s : State} {H : Heap} (h : JJ G A s H) : ∃ d, ST (G.2 105) d 1 (fun j => ([124] : List Int32).getD j 0) A s H := h.2.2.2.2.2 5 ("NightdeskRotaModel", 249, "|", [124]) llit5
theorem litR6 {G : GT} {s : State} (h : SR G s) : vk_R "NightdeskRotaModel" 251 "" (G.2 106) s := h.2.1 6 ("NightdeskRotaModel", 251, "", []) llit6
theorem litJ6 {G : GT} {A : Nat → Prop} {s : State} {H : Heap} (h : JJ G A s H) : ∃ d, ST (G.2 106) d 0 (fun j => ([] : List Int32).getD j 0) A s H := h.2.2.2.2.2 6 ("NightdeskRotaModel", 251, "", []) llit6
theorem litR7 {G : GT} {s : State} (h : SR G s) : vk_R "NightdeskRotaModel" 253 "KECD" (G.2 107) s := h.2.1 7 ("NightdeskRotaModel", 253, "KECD", [75, 69, 67, 68]) llit7
theorem litJ7 {G : GT} {A : Nat → Prop} {s : State} {H : Heap} (h : JJ G A s H) : ∃ d, ST (G.2 107) d 4 (fun j => ([75, 69, 67, 68] : List Int32).getD j 0) A s H := h.2.2.2.2.2 7 ("NightdeskRotaModel", 253, "KECD", [75, 69, 67, 68]) llit7
theorem litR8 {G : GT} {s : State} (h : SR G s) : vk_R "NightdeskRotaModel" 264 ":" (G.2 108) s := h.2.1 8 ("NightdeskRotaModel", 264, ":", [58]) llit8
theorem litJ8 {G : GT} {A : Nat → Prop} {s : State} {H : Heap} (h : JJ G A s H) : ∃ d, ST (G.2 108) d 1 (fun j => ([58] : List Int32).getD j 0) A s H := h.2.2.2.2.2 8 ("NightdeskRotaModel", 264, ":", [58]) llit8
theorem litR9 {G : GT} {s : State} (h : SR G s) : vk_R "NightdeskRotaModel" 266 "..." (G.2 109) s := h.2.1 9 ("NightdeskRotaModel", 266, "...", [46, 46, 46]) llit9
theorem litJ9 {G : GT} {A : Nat → Prop} {s : State} {H : Heap} (h : JJ G A s H) : ∃ d, ST (G.2 109) d 3 (fun j => ([46, 46, 46] : List Int32).getD j 0) A s H := h.2.2.2.2.2 9 ("NightdeskRotaModel", 266, "...", [46, 46, 46]) llit9
theorem litR10 {G : GT} {s : State} (h : SR G s) : vk_R "NightdeskRota$Book" 77 "..." (G.2 110) s := h.2.1 10 ("NightdeskRota$Book", 77, "...", [46, 46, 46]) llit10
theorem litJ10 {G : GT} {A : Nat → Prop} {s : State} {H : Heap} (h : JJ G A s H) : ∃ d, ST (G.2 110) d 3 (fun j => ([46, 46, 46] : List Int32).getD j 0) A s H := h.2.2.2.2.2 10 ("NightdeskRota$Book", 77, "...", [46, 46, 46]) llit10
def FB (x : Int32) : Prop := fits .byte (.int x) = true
theorem igJ0 : ∀ w ∈ wsJ00, w ∈ lwg := lwgI inJ0 (by decide +kernel)
theorem igJ4 : ∀ w ∈ wsJ40, w ∈ lwg := lwgI inJ4 (by decide +kernel)
theorem gdU {own C owner : String} {idx : Nat} {x y : MethodName} {c : Cond} (h1 : Cond.methodLink own idx x ∈ lwg) (h2 : Cond.sameMethod x.cls owner x.name x.desc ∈ lwg) (h3 : Cond.selects C x y ∈ lwg) (h4 : Cond.instanceMethod y ∈ lwg) (h5 : Cond.initialized y.cls ∈ lwg) (h6 : c ∈ lwg) : GoodIn lwg (va_wsU own idx C owner x y (c :: lwg)) := gdI (fun w hw => by
  rcases List.mem_append.mp hw with h | h
  · simp only [List.mem_cons, List.not_mem_nil, or_false] at h
    rcases h with rfl | rfl | rfl | rfl | rfl
    · exact h1
    · exact h2
    · exact h3
    · exact h4
    · exact h5
  · exact (List.mem_cons.mp h).elim (fun e => e ▸ h6) id)
theorem gdO {own C owner : String} {idx : Nat} {x y : MethodName} {c : Cond} (h1 : Cond.methodLink own idx x ∈ lwg) (h2 : Cond.sameMethod x.cls owner x.name x.desc ∈ lwg) (h7 : Cond.instanceMethod ⟨owner, x.name, x.desc⟩ ∈ lwg) (h3 : Cond.selects C x y ∈ lwg) (h4 : Cond.instanceMethod y ∈ lwg) (h5 : Cond.initialized y.cls ∈ lwg) (h6 : c ∈ lwg) : GoodIn lwg (va_wsO own idx C owner x y (c :: lwg)) := gdI (fun w hw => by
  rcases List.mem_append.mp hw with h | h
  · simp only [List.mem_cons, List.not_mem_nil, or_false] at h
    rcases h with rfl | rfl | rfl | rfl | rfl | rfl
    · exact h1
    · exact h2
    · exact h7
    · exact h3
    · exact h4
    · exact h5
  · exact (List.mem_cons.mp h).elim (fun e => e ▸ h6) id)
theorem gdSU {own : String} {idx : Nat} {y : MethodName} {c : Cond} (h1 : Cond.methodLink own idx y ∈ lwg) (h2 : Cond.sameMethod y.cls y.cls y.name y.desc ∈ lwg) (h3 : Cond.superclass own y.cls ∈ lwg) (h4 : Cond.instanceMethod y ∈ lwg) (h5 : Cond.initialized y.cls ∈ lwg) (h6 : c ∈ lwg) : GoodIn lwg (va_wsSU own idx y (c :: lwg)) := gdI (fun w hw => by
  rcases List.mem_append.mp hw with h | h
  · simp only [List.mem_cons, List.not_mem_nil, or_false] at h
    rcases h with rfl | rfl | rfl | rfl | rfl
    · exact h1
    · exact h2
    · exact h3
    · exact h4
    · exact h5
  · exact (List.mem_cons.mp h).elim (fun e => e ▸ h6) id)
theorem ST.recv {a d n : Nat} {f : Nat → Int32} {A : Nat → Prop} {U : State} {H : Heap} (h : ST a d n f A U H) : ∃ cell : Cell, H[a]? = some cell ∧ cell.vm.isStatics = false ∧ U.vm.findClass "java/lang/String" = some cell.cls := by
  obtain ⟨cell, h1, h2, h3, -⟩ := h.1
  exact ⟨cell, h1, h2, h3⟩
theorem subOut {A : Nat → Prop} {ws wc : va_W} {D : va_G} {H : Heap} (hP : va_P D vwCl ws H) (hD : va_D A ws) (pl : List Nat) (hC : pl.map (fun i => ws[i]?) = wc.map some) {i : Nat} {q : Nat × va_E} (hq : ws[i]? = some q) (hi : i ∉ pl) : ¬ va_A wc H.size q.1 := by
  rintro (⟨k, e, hk⟩ | h)
  · have h1 : (wc.map some)[k]? = some (some (q.1, e)) := by rw [List.getElem?_map, hk]; rfl
    rw [← hC, List.getElem?_map] at h1
    cases hp : pl[k]? with
    | none => rw [hp] at h1; cases h1
    | some j =>
      rw [hp] at h1
      have h2 : ws[j]? = some (q.1, e) := Option.some.inj h1
      have h3 : j = i := hD.1 j i _ _ h2 hq rfl
      exact hi (h3 ▸ List.mem_of_getElem? hp)
  · exact Nat.not_lt.mpr h (vx_lt hP hq)
theorem stField {args : Array Value} {G : GT} {s : State} {A : Nat → Prop} {ws : va_W} {H : Heap} {a : Nat} {fs : List Value} {k : Nat} {v : Value} {i : Nat} (hts : ∀ w ∈ lwg, w.before args s = true) (hK : va_K G.1 vwCl (TY G) s) (hP : PP G ws H) (he : ws[i]? = some (a, .inr (0, fs))) (hk : k < 4) (hv : fs[k]? = some v) (ha : ¬ A a) : va_OF (TJ0 k).1 (TJ0 k).2.1 (TJ0 k).2.2.1 v a A s H := by
  obtain ⟨r, h1, cell, q1, q2, q3, q4⟩ := hP i _ he
  have hr : r = (RJ0, TJ0, 4) := Option.some.inj (h1.symm.trans rfl)
  subst hr
  obtain ⟨hS, hfc, kC, hkC, hkind⟩ := hK.1 0 _ rfl
  obtain ⟨cf, kf, fi, f, hi, hsl⟩ := hS k hk
  refine ⟨cf, kf, fi, f, cell, hi, (u_facts hfc hkC (u_lays hts igJ0 hk) hi).1, q1, (by rw [q3]; exact fun h => by cases h), ?_, ha⟩
  rw [hsl, q4 k hk]
  simp [vp_V, hv]
theorem stOf {args : Array Value} {G : GT} {s : State} {A : Nat → Prop} {ws wc : va_W} {H : Heap} {a d n : Nat} {f : Nat → Int32} {x y : Int32} (hts : ∀ w ∈ lwg, w.before args s = true) (hK : va_K G.1 vwCl (TY G) s) (hP : PP G ws H) (hD : va_D A ws) (pl : List Nat) (i j : Nat) (h0 : ws[i]? = some (a, .inr (0, [.ref d, .int 0, .int x, .int y]))) (h1 : ws[j]? = some (d, .inl (G.2 2, n, .inl f))) (hi : i ∉ pl) (hj : j ∉ pl) (hC : pl.map (fun i => ws[i]?) = wc.map some) : ST a d n f (va_A wc H.size) s H := by
  have ha : ¬ va_A wc H.size a := subOut hP hD pl hC h0 hi
  have hd : ¬ va_A wc H.size d := subOut hP hD pl hC h1 hj
  refine ⟨?_, stField (k := 1) hts hK hP h0 (by decide) rfl ha, stField (k := 0) hts hK hP h0 (by decide) rfl ha, ?_⟩
  · obtain ⟨cell, g1, g2, g3⟩ := va_recv hK hP (ci := 0) rfl h0
    exact ⟨cell, g1, g2, g3, ha⟩
  · refine ⟨_, hP j _ h1, (hK.2 2 _ rfl).1 n (fun j => .int (f j)), (fun q => by cases q), Nat.le_of_eq (arrV_size _ _ _).symm, ?_, (fun k hk => arrV_read _ _ hk), hd⟩
    show (arrV _ n _).slots.size.toInt32 = _
    rw [arrV_size]
section TXR
variable {p : Program} {l : Launch} {e : Env} {R : Room} {s : State} {m : MethodId} {args : Array Value} {below : List Frame} {meth : Method} {c : Code} {H : Heap} {locs : List Loc} {cells slots : Nat} {Q : State → Prop} {cc : ByteArray} {pc : Nat} {ls : Array Slot} {rest st0 : List Value} {mc ms : Nat} {a : Array Value} {free : Addr → Prop} {A0 A1 : Nat → Prop} {H0 : Heap}
theorem va_ldcwS (hexec : p.tables.exec = Jvm.exec) (hb : c.code = cc) {own tx : String} {index q : Nat} (hown : s.vm.findClass own = some m.cls) (hZ : vk_R own index tx q s) (hdg : decode cc pc = .ok (.ldc_w index, 3))
    (k : W p l e R s m args below meth c H locs cells slots Q (F0 m (pc + 3) ls (.ref q :: rest))) : W p l e R s m args below meth c H locs cells slots Q (F0 m pc ls rest) := by
  intro T hT X
  obtain ⟨t, a1, b1⟩ := k T hT X
  refine ⟨t, ?_, b1⟩
  obtain ⟨k0, cf, i, a', hk, hcf, hcp, -, hr, hev'⟩ := Cond.stringRef_spec hown hZ.1
  cases hZ.2.symm.trans hev'
  obtain ⟨k', hk', he⟩ := X.warmed.alike.2.2 _ _ hk
  have hr' : k'.resolved[index]? = some (some (.string q)) := by
    rcases X.warmed.entry hk hk' index with h | ⟨h, -⟩
    · rw [h]; exact hr
    · rw [hr] at h; cases h
  jvm_step X.here [hexec, hb, hdg, ldc_w.wp_string (s := T) (f := F0 m pc ls rest) X.here.top hk' (by rw [he]; exact hcf) hcp hr']
  exact a1
theorem vx_callr {S SX : Type} {post : S → Prop} {px : SX → Prop} {B : S → Nat → State → Prop} {BX : String → SX → State → Prop} {AX : Nat → Prop} (hr : vx_Run p l e R s m args below meth c H locs cells slots mc ms (F0 m pc ls st0) rest (va_Qr post B A1 a) (vx_X px BX AX) free) (hS : va_S A0 H0 H locs) (hA : ∀ q, q < H.size → A1 q → A0 q) (hf : ∀ q, free q → A0 q) (hAX : ∀ q, q < H.size → AX q → A0 q)
    (kx : ∀ (E : String) (ce : Cell) (q9 : Addr) (u : SX) (t : State) (H1 : Heap) (locs1 : List Loc), t.heap = H1 → s.vm.Alike t.vm → px u → BX E u t → H.size ≤ H1.size → (∀ q : Nat, q < H.size → ¬ AX q → H1[q]? = H[q]?) → va_S A0 H0 H1 locs1 → H1[q9]? = some ce → ce.vm = .none → s.vm.findClass E = some ce.cls → vx_W p l e R s m args below meth c H1 locs1 (cells + mc) (slots + ms) Q (F0 m pc ls rest) q9)
    (kk : ∀ (u : S) (ra : Nat) (t : State) (H1 : Heap) (locs1 : List Loc), t.heap = H1 → s.vm.Alike t.vm → post u → B u ra t → H.size ≤ H1.size → (∀ q : Nat, q < H.size → ¬ A1 q → H1[q]? = H[q]?) → va_S A0 H0 H1 locs1 → W p l e R s m args below meth c H1 locs1 (cells + mc) (slots + ms) Q (F0 m (pc + 3) ls (.ref ra :: rest))) : W p l e R s m args below meth c H locs cells slots Q (F0 m pc ls st0) := by
  intro T hT X
  rcases hr T hT X with ⟨v, st₀, t, T', L, h0, X', hL, e1, e2, ⟨⟨u, ra, hv, hp, hb⟩, hF⟩, st⟩ | ⟨q, st₀, t, T', L, E, ce, h0, X', hL, e1, e2, ⟨u, hp, hb, hF⟩, hce, hcv, hcl, st⟩
  · cases hv
    obtain ⟨k1, k2, k3⟩ := vx_keep h0 e1 hS hA hf hL hF
    obtain ⟨t2, a1, b1⟩ := kk u ra t T'.heap (locs ++ L) e1.symm (by rw [← e2]; exact X'.warmed.alike) hp hb k1 k2 k3 T' rfl X'
    exact ⟨t2, st t2 a1, b1⟩
  · obtain ⟨k1, k2, k3⟩ := vx_keep h0 e1 hS hAX hf hL hF
    obtain ⟨t2, a1, b1⟩ := kx E ce q u t T'.heap (locs ++ L) e1.symm (by rw [← e2]; exact X'.warmed.alike) hp hb k1 k2 k3 (by rw [e1]; exact hce) hcv hcl T' rfl X'
    exact ⟨t2, st.trans a1, b1⟩
end TXR
theorem fitsB {cA : ClassId} {n : Nat} {f : Nat → Int32} (h : ∀ i : Nat, i < n → FB (f i)) : ∀ (i : Nat) (v : Value), (vp_cell cA (n, .inl f)).slots[i]? = some v → fits .byte v = true := by
  intro i v hv
  have hi : i < n := by
    have h1 := (Array.getElem?_eq_some_iff.mp hv).1
    rwa [show (vp_cell cA (n, .inl f)).slots.size = n from arrV_size _ _ _] at h1
  have h2 : (vp_cell cA (n, .inl f)).slots[i]? = some (.int (f i)) := arrV_read _ _ hi
  rw [h2] at hv
  cases hv
  exact h i hi
theorem dJ1_canEncode_fc78d_0 : decode cJ1_canEncode_fc78d 0 = .ok (.iload_n 0, 1) := by decide +kernel
theorem dJ1_canEncode_fc78d_1 : decode cJ1_canEncode_fc78d 1 = .ok (.sipush 255, 3) := by decide +kernel
theorem dJ1_canEncode_fc78d_4 : decode cJ1_canEncode_fc78d 4 = .ok (.if_icmp .gt 7, 3) := by decide +kernel
theorem dJ1_canEncode_fc78d_7 : decode cJ1_canEncode_fc78d 7 = .ok (.iconst 1, 1) := by decide +kernel
theorem dJ1_canEncode_fc78d_8 : decode cJ1_canEncode_fc78d 8 = .ok (.goto 4, 3) := by decide +kernel
theorem dJ1_canEncode_fc78d_11 : decode cJ1_canEncode_fc78d 11 = .ok (.iconst 0, 1) := by decide +kernel
theorem dJ1_canEncode_fc78d_12 : decode cJ1_canEncode_fc78d 12 = .ok (.ireturn, 1) := by decide +kernel
def wJ1_canEncode_fc78d (post : Int32 → Prop) (p1 : Int32) : Prop :=
  (((255 : Int32) < p1) →
    post (0 : Int32)
  ) ∧ (¬ ((255 : Int32) < p1) →
    post (1 : Int32)
  )
abbrev wl_J1_canEncode_fc78d : List Cond := .code yJ1_canEncode_fc78d cJ1_canEncode_fc78d 1 (some .boolean) :: lwg
abbrev rm_J1_canEncode_fc78d : Room := { frames := 0, cells := 0, slots := 0, locals := 0 }
set_option maxHeartbeats 4000000 in
set_option maxRecDepth 100000 in
theorem kJ1_canEncode_fc78d {post : Int32 → Prop} (l : Launch) (G : GT) (p1 : Int32) (h : wJ1_canEncode_fc78d post p1) : Met l yJ1_canEncode_fc78d wl_J1_canEncode_fc78d rm_J1_canEncode_fc78d (va_Pc [.int p1] (fun U => PP G [] U.heap ∧ KK G U)) (vp_Si post) 0 0 (fun _ => False) := by
  refine Met.ofW (cc := cJ1_canEncode_fc78d) (maxL := 1) (ret := (some .boolean)) (by decide) rfl ?_
  intro p e s m args below meth c s₁ B hml hv
  obtain ⟨rfl, hP, hKK⟩ := hv
  obtain ⟨hK, hN, hR, hFW, hNC⟩ := id hKK
  have hx := B.exec
  have hb := B.bytes
  have hr := B.returns
  have hts0 := atoms_spec (ws := wl_J1_canEncode_fc78d) B.pre
  have hts : ∀ w ∈ lwg, w.before ([.int p1] : List Value).toArray s = true := fun w hw => hts0 w (List.mem_cons_of_mem _ hw)
  have hown : s.vm.findClass RJ1 = some m.cls := findClass_of_methodNamed B.named
  have hlocks := B.notSynchronized
  have hP : PP G [] s.heap := hP
  have hl := lv_entry ([.int p1]) (n := 1) (Nat.le_of_ble_eq_true rfl)
  rw [lg_entry_eq]
  generalize (lg_sl ([.int p1]) ++ List.replicate (1 - (lg_sl ([.int p1])).length) Slot.unset).toArray = ls at hl ⊢
  have hl : lv_has ls 1 [(0, .int p1)] := hl
  refine lv_iload_n hx hb dJ1_canEncode_fc78d_0 rfl (lv_at hl 0 rfl) ?_
  refine lv_sipush (v := 255) hx hb dJ1_canEncode_fc78d_1 (by decide) ?_
  refine lv_icmp_gt (tgt := 11) hx hb dJ1_canEncode_fc78d_4 (by decide) (fun hc => ?_) (fun hc => ?_)
  · have h := h.1 hc
    refine lv_iconst (v := 0) hx hb dJ1_canEncode_fc78d_11 (by decide) ?_
    exact W.zret (v := (0 : Int32)) hx hb hr (by decide) (fun t ht _ => ⟨_, rfl, h, ht⟩) (fun _ hq => absurd hq List.not_mem_nil) dJ1_canEncode_fc78d_12
  · have h := h.2 hc
    refine lv_iconst (v := 1) hx hb dJ1_canEncode_fc78d_7 (by decide) ?_
    refine lv_goto (tgt := 12) hx hb dJ1_canEncode_fc78d_8 (by decide) ?_
    exact W.zret (v := (1 : Int32)) hx hb hr (by decide) (fun t ht _ => ⟨_, rfl, h, ht⟩) (fun _ hq => absurd hq List.not_mem_nil) dJ1_canEncode_fc78d_12
theorem dJ6_stringSize_0f7a4_0 : decode cJ6_stringSize_0f7a4 0 = .ok (.iconst 1, 1) := by decide +kernel
theorem dJ6_stringSize_0f7a4_1 : decode cJ6_stringSize_0f7a4 1 = .ok (.istore_n 1, 1) := by decide +kernel
theorem dJ6_stringSize_0f7a4_2 : decode cJ6_stringSize_0f7a4 2 = .ok (.iload_n 0, 1) := by decide +kernel
theorem dJ6_stringSize_0f7a4_3 : decode cJ6_stringSize_0f7a4 3 = .ok (.ifCond .lt 8, 3) := by decide +kernel
theorem dJ6_stringSize_0f7a4_6 : decode cJ6_stringSize_0f7a4 6 = .ok (.iconst 0, 1) := by decide +kernel
theorem dJ6_stringSize_0f7a4_7 : decode cJ6_stringSize_0f7a4 7 = .ok (.istore_n 1, 1) := by decide +kernel
theorem dJ6_stringSize_0f7a4_8 : decode cJ6_stringSize_0f7a4 8 = .ok (.iload_n 0, 1) := by decide +kernel
theorem dJ6_stringSize_0f7a4_9 : decode cJ6_stringSize_0f7a4 9 = .ok (.ineg, 1) := by decide +kernel
theorem dJ6_stringSize_0f7a4_10 : decode cJ6_stringSize_0f7a4 10 = .ok (.istore_n 0, 1) := by decide +kernel
theorem dJ6_stringSize_0f7a4_11 : decode cJ6_stringSize_0f7a4 11 = .ok (.bipush (-10), 2) := by decide +kernel
theorem dJ6_stringSize_0f7a4_13 : decode cJ6_stringSize_0f7a4 13 = .ok (.istore_n 2, 1) := by decide +kernel
theorem dJ6_stringSize_0f7a4_14 : decode cJ6_stringSize_0f7a4 14 = .ok (.iconst 1, 1) := by decide +kernel
theorem dJ6_stringSize_0f7a4_15 : decode cJ6_stringSize_0f7a4 15 = .ok (.istore_n 3, 1) := by decide +kernel
theorem dJ6_stringSize_0f7a4_16 : decode cJ6_stringSize_0f7a4 16 = .ok (.iload_n 3, 1) := by decide +kernel
theorem dJ6_stringSize_0f7a4_17 : decode cJ6_stringSize_0f7a4 17 = .ok (.bipush 10, 2) := by decide +kernel
theorem dJ6_stringSize_0f7a4_19 : decode cJ6_stringSize_0f7a4 19 = .ok (.if_icmp .ge 23, 3) := by decide +kernel
theorem dJ6_stringSize_0f7a4_22 : decode cJ6_stringSize_0f7a4 22 = .ok (.iload_n 0, 1) := by decide +kernel
theorem dJ6_stringSize_0f7a4_23 : decode cJ6_stringSize_0f7a4 23 = .ok (.iload_n 2, 1) := by decide +kernel
theorem dJ6_stringSize_0f7a4_24 : decode cJ6_stringSize_0f7a4 24 = .ok (.if_icmp .le 7, 3) := by decide +kernel
theorem dJ6_stringSize_0f7a4_27 : decode cJ6_stringSize_0f7a4 27 = .ok (.iload_n 3, 1) := by decide +kernel
theorem dJ6_stringSize_0f7a4_28 : decode cJ6_stringSize_0f7a4 28 = .ok (.iload_n 1, 1) := by decide +kernel
theorem dJ6_stringSize_0f7a4_29 : decode cJ6_stringSize_0f7a4 29 = .ok (.iadd, 1) := by decide +kernel
theorem dJ6_stringSize_0f7a4_30 : decode cJ6_stringSize_0f7a4 30 = .ok (.ireturn, 1) := by decide +kernel
theorem dJ6_stringSize_0f7a4_31 : decode cJ6_stringSize_0f7a4 31 = .ok (.bipush 10, 2) := by decide +kernel
theorem dJ6_stringSize_0f7a4_33 : decode cJ6_stringSize_0f7a4 33 = .ok (.iload_n 2, 1) := by decide +kernel
theorem dJ6_stringSize_0f7a4_34 : decode cJ6_stringSize_0f7a4 34 = .ok (.imul, 1) := by decide +kernel
theorem dJ6_stringSize_0f7a4_35 : decode cJ6_stringSize_0f7a4 35 = .ok (.istore_n 2, 1) := by decide +kernel
theorem dJ6_stringSize_0f7a4_36 : decode cJ6_stringSize_0f7a4 36 = .ok (.iinc 3 1, 3) := by decide +kernel
theorem dJ6_stringSize_0f7a4_39 : decode cJ6_stringSize_0f7a4 39 = .ok (.goto (-23), 3) := by decide +kernel
theorem dJ6_stringSize_0f7a4_42 : decode cJ6_stringSize_0f7a4 42 = .ok (.bipush 10, 2) := by decide +kernel
theorem dJ6_stringSize_0f7a4_44 : decode cJ6_stringSize_0f7a4 44 = .ok (.iload_n 1, 1) := by decide +kernel
theorem dJ6_stringSize_0f7a4_45 : decode cJ6_stringSize_0f7a4 45 = .ok (.iadd, 1) := by decide +kernel
theorem dJ6_stringSize_0f7a4_46 : decode cJ6_stringSize_0f7a4 46 = .ok (.ireturn, 1) := by decide +kernel
def wJ6_stringSize_0f7a4_L16 (post : Int32 → Prop) (K42 : Int32 → Int32 → Prop) (p1 : Int32) : Nat → Int32 → Int32 → Prop
  | 0, _, _ => False
  | n+1, i2, i3 =>
    (((10 : Int32) ≤ i3) →
      K42 i2 i3
    ) ∧ (¬ ((10 : Int32) ≤ i3) →
      ((p1 ≤ i2) →
        wJ6_stringSize_0f7a4_L16 post K42 p1 n ((10 : Int32) * i2) (i3 + 1)
      ) ∧ (¬ (p1 ≤ i2) →
        post (i3 + (1 : Int32))
      )
    )
def wJ6_stringSize_0f7a4_L16_1 (post : Int32 → Prop) (K42 : Int32 → Int32 → Prop) (p1 : Int32) : Nat → Int32 → Int32 → Prop
  | 0, _, _ => False
  | n+1, i2, i3 =>
    (((10 : Int32) ≤ i3) →
      K42 i2 i3
    ) ∧ (¬ ((10 : Int32) ≤ i3) →
      (((-p1) ≤ i2) →
        wJ6_stringSize_0f7a4_L16_1 post K42 p1 n ((10 : Int32) * i2) (i3 + 1)
      ) ∧ (¬ ((-p1) ≤ i2) →
        post (i3 + (0 : Int32))
      )
    )
def wJ6_stringSize_0f7a4 (post : Int32 → Prop) (p1 : Int32) : Prop :=
  ((p1 < 0) →
    ∃ nF, wJ6_stringSize_0f7a4_L16 post
      (fun i2 i3 =>
        post (11 : Int32)
      )
      p1 nF (-10 : Int32) (1 : Int32)
  ) ∧ (¬ (p1 < 0) →
    ∃ nF, wJ6_stringSize_0f7a4_L16_1 post
      (fun i2 i3 =>
        post (10 : Int32)
      )
      p1 nF (-10 : Int32) (1 : Int32)
  )
abbrev wl_J6_stringSize_0f7a4 : List Cond := .code yJ6_stringSize_0f7a4 cJ6_stringSize_0f7a4 4 (some .int) :: lwg
abbrev rm_J6_stringSize_0f7a4 : Room := { frames := 0, cells := 0, slots := 0, locals := 0 }
set_option maxHeartbeats 4000000 in
set_option maxRecDepth 100000 in
theorem kJ6_stringSize_0f7a4 {post : Int32 → Prop} (l : Launch) (G : GT) (p1 : Int32) (h : wJ6_stringSize_0f7a4 post p1) : Met l yJ6_stringSize_0f7a4 wl_J6_stringSize_0f7a4 rm_J6_stringSize_0f7a4 (va_Pc [.int p1] (fun U => PP G [] U.heap ∧ KK G U)) (vp_Si post) 0 0 (fun _ => False) := by
  refine Met.ofW (cc := cJ6_stringSize_0f7a4) (maxL := 4) (ret := (some .int)) (by decide) rfl ?_
  intro p e s m args below meth c s₁ B hml hv
  obtain ⟨rfl, hP, hKK⟩ := hv
  obtain ⟨hK, hN, hR, hFW, hNC⟩ := id hKK
  have hx := B.exec
  have hb := B.bytes
  have hr := B.returns
  have hts0 := atoms_spec (ws := wl_J6_stringSize_0f7a4) B.pre
  have hts : ∀ w ∈ lwg, w.before ([.int p1] : List Value).toArray s = true := fun w hw => hts0 w (List.mem_cons_of_mem _ hw)
  have hown : s.vm.findClass RJ6 = some m.cls := findClass_of_methodNamed B.named
  have hlocks := B.notSynchronized
  have hP : PP G [] s.heap := hP
  have hl := lv_entry ([.int p1]) (n := 4) (Nat.le_of_ble_eq_true rfl)
  rw [lg_entry_eq]
  generalize (lg_sl ([.int p1]) ++ List.replicate (4 - (lg_sl ([.int p1])).length) Slot.unset).toArray = ls at hl ⊢
  have hl : lv_has ls 4 [(0, .int p1)] := hl
  have loop16 : ∀ (K42 : Int32 → Int32 → Prop), True → (∀ (i2 : Int32) (i3 : Int32) (ls : Array Slot), lv_has ls 4 [(0, .int p1), (1, .int (1 : Int32)), (2, .int i2), (3, .int i3)] → K42 i2 i3 → W p l e (headSpec (wl_J6_stringSize_0f7a4) rm_J6_stringSize_0f7a4).room s m ([.int p1] : List Value).toArray below meth c s.heap [] 0 0 (MQ below (vp_Si post) ([.int p1] : List Value).toArray s 0 0 (fun _ => False)) (F0 m 42 ls [])) → ∀ (n : Nat) (i2 : Int32) (i3 : Int32) (ls : Array Slot), lv_has ls 4 [(0, .int p1), (1, .int (1 : Int32)), (2, .int i2), (3, .int i3)] → wJ6_stringSize_0f7a4_L16 post K42 p1 n i2 i3 → W p l e (headSpec (wl_J6_stringSize_0f7a4) rm_J6_stringSize_0f7a4).room s m ([.int p1] : List Value).toArray below meth c s.heap [] 0 0 (MQ below (vp_Si post) ([.int p1] : List Value).toArray s 0 0 (fun _ => False)) (F0 m 16 ls []) := by
    intro K42 _ hexit42 n
    induction n with
    | zero => intro i2 i3 ls hl h; exact False.elim h
    | succ n ih =>
      intro i2 i3 ls hl h
      refine lv_iload_n hx hb dJ6_stringSize_0f7a4_16 rfl (lv_at hl 3 rfl) ?_
      refine lv_bipush (v := 10) hx hb dJ6_stringSize_0f7a4_17 (by decide) ?_
      refine lv_icmp_ge (tgt := 42) hx hb dJ6_stringSize_0f7a4_19 (by decide) (fun hc => ?_) (fun hc => ?_)
      · have h := h.1 hc
        have hl := lv_sub (l' := [(0, .int p1), (1, .int (1 : Int32)), (2, .int i2), (3, .int i3)]) hl [0, 1, 2, 3] rfl
        exact hexit42 _ _ ls hl h
      · have h := h.2 hc
        refine lv_iload_n hx hb dJ6_stringSize_0f7a4_22 rfl (lv_at hl 0 rfl) ?_
        refine lv_iload_n hx hb dJ6_stringSize_0f7a4_23 rfl (lv_at hl 2 rfl) ?_
        refine lv_icmp_le (tgt := 31) hx hb dJ6_stringSize_0f7a4_24 (by decide) (fun hc => ?_) (fun hc => ?_)
        · have h := h.1 hc
          refine lv_bipush (v := 10) hx hb dJ6_stringSize_0f7a4_31 (by decide) ?_
          refine lv_iload_n hx hb dJ6_stringSize_0f7a4_33 rfl (lv_at hl 2 rfl) ?_
          refine lv_imul hx hb dJ6_stringSize_0f7a4_34 ?_
          refine lv_istore_n hx hb dJ6_stringSize_0f7a4_35 rfl hl (Nat.le_of_ble_eq_true rfl) rfl (fun ls hl => ?_)
          have hl : lv_has ls 4 [(2, .int ((10 : Int32) * i2)), (0, .int p1), (1, .int (1 : Int32)), (3, .int i3)] := hl
          refine lv_iinc (v := (i3 + 1)) hx hb dJ6_stringSize_0f7a4_36 hl (k := 3) rfl (by rw [show Int32.ofInt 1 = 1 from by decide]) (Nat.le_of_ble_eq_true rfl) rfl (fun ls hl => ?_)
          have hl : lv_has ls 4 [(3, .int (i3 + 1)), (2, .int ((10 : Int32) * i2)), (0, .int p1), (1, .int (1 : Int32))] := hl
          refine lv_goto (tgt := 16) hx hb dJ6_stringSize_0f7a4_39 (by decide) ?_
          have hl := lv_sub (l' := [(0, .int p1), (1, .int (1 : Int32)), (2, .int ((10 : Int32) * i2)), (3, .int (i3 + 1))]) hl [2, 3, 1, 0] rfl
          exact ih _ _ ls hl h
        · have h := h.2 hc
          refine lv_iload_n hx hb dJ6_stringSize_0f7a4_27 rfl (lv_at hl 3 rfl) ?_
          refine lv_iload_n hx hb dJ6_stringSize_0f7a4_28 rfl (lv_at hl 1 rfl) ?_
          refine lv_iadd hx hb dJ6_stringSize_0f7a4_29 ?_
          exact W.iret (v := (i3 + (1 : Int32))) hx hb hr (fun t ht _ => ⟨_, rfl, h, ht⟩) (fun _ hq => absurd hq List.not_mem_nil) dJ6_stringSize_0f7a4_30
  have loop16_1 : ∀ (K42 : Int32 → Int32 → Prop), True → (∀ (i2 : Int32) (i3 : Int32) (ls : Array Slot), lv_has ls 4 [(0, .int (-p1)), (1, .int (0 : Int32)), (2, .int i2), (3, .int i3)] → K42 i2 i3 → W p l e (headSpec (wl_J6_stringSize_0f7a4) rm_J6_stringSize_0f7a4).room s m ([.int p1] : List Value).toArray below meth c s.heap [] 0 0 (MQ below (vp_Si post) ([.int p1] : List Value).toArray s 0 0 (fun _ => False)) (F0 m 42 ls [])) → ∀ (n : Nat) (i2 : Int32) (i3 : Int32) (ls : Array Slot), lv_has ls 4 [(0, .int (-p1)), (1, .int (0 : Int32)), (2, .int i2), (3, .int i3)] → wJ6_stringSize_0f7a4_L16_1 post K42 p1 n i2 i3 → W p l e (headSpec (wl_J6_stringSize_0f7a4) rm_J6_stringSize_0f7a4).room s m ([.int p1] : List Value).toArray below meth c s.heap [] 0 0 (MQ below (vp_Si post) ([.int p1] : List Value).toArray s 0 0 (fun _ => False)) (F0 m 16 ls []) := by
    intro K42 _ hexit42 n
    induction n with
    | zero => intro i2 i3 ls hl h; exact False.elim h
    | succ n ih =>
      intro i2 i3 ls hl h
      refine lv_iload_n hx hb dJ6_stringSize_0f7a4_16 rfl (lv_at hl 3 rfl) ?_
      refine lv_bipush (v := 10) hx hb dJ6_stringSize_0f7a4_17 (by decide) ?_
      refine lv_icmp_ge (tgt := 42) hx hb dJ6_stringSize_0f7a4_19 (by decide) (fun hc => ?_) (fun hc => ?_)
      · have h := h.1 hc
        have hl := lv_sub (l' := [(0, .int (-p1)), (1, .int (0 : Int32)), (2, .int i2), (3, .int i3)]) hl [0, 1, 2, 3] rfl
        exact hexit42 _ _ ls hl h
      · have h := h.2 hc
        refine lv_iload_n hx hb dJ6_stringSize_0f7a4_22 rfl (lv_at hl 0 rfl) ?_
        refine lv_iload_n hx hb dJ6_stringSize_0f7a4_23 rfl (lv_at hl 2 rfl) ?_
        refine lv_icmp_le (tgt := 31) hx hb dJ6_stringSize_0f7a4_24 (by decide) (fun hc => ?_) (fun hc => ?_)
        · have h := h.1 hc
          refine lv_bipush (v := 10) hx hb dJ6_stringSize_0f7a4_31 (by decide) ?_
          refine lv_iload_n hx hb dJ6_stringSize_0f7a4_33 rfl (lv_at hl 2 rfl) ?_
          refine lv_imul hx hb dJ6_stringSize_0f7a4_34 ?_
          refine lv_istore_n hx hb dJ6_stringSize_0f7a4_35 rfl hl (Nat.le_of_ble_eq_true rfl) rfl (fun ls hl => ?_)
          have hl : lv_has ls 4 [(2, .int ((10 : Int32) * i2)), (0, .int (-p1)), (1, .int (0 : Int32)), (3, .int i3)] := hl
          refine lv_iinc (v := (i3 + 1)) hx hb dJ6_stringSize_0f7a4_36 hl (k := 3) rfl (by rw [show Int32.ofInt 1 = 1 from by decide]) (Nat.le_of_ble_eq_true rfl) rfl (fun ls hl => ?_)
          have hl : lv_has ls 4 [(3, .int (i3 + 1)), (2, .int ((10 : Int32) * i2)), (0, .int (-p1)), (1, .int (0 : Int32))] := hl
          refine lv_goto (tgt := 16) hx hb dJ6_stringSize_0f7a4_39 (by decide) ?_
          have hl := lv_sub (l' := [(0, .int (-p1)), (1, .int (0 : Int32)), (2, .int ((10 : Int32) * i2)), (3, .int (i3 + 1))]) hl [2, 3, 1, 0] rfl
          exact ih _ _ ls hl h
        · have h := h.2 hc
          refine lv_iload_n hx hb dJ6_stringSize_0f7a4_27 rfl (lv_at hl 3 rfl) ?_
          refine lv_iload_n hx hb dJ6_stringSize_0f7a4_28 rfl (lv_at hl 1 rfl) ?_
          refine lv_iadd hx hb dJ6_stringSize_0f7a4_29 ?_
          exact W.iret (v := (i3 + (0 : Int32))) hx hb hr (fun t ht _ => ⟨_, rfl, h, ht⟩) (fun _ hq => absurd hq List.not_mem_nil) dJ6_stringSize_0f7a4_30
  refine lv_iconst (v := 1) hx hb dJ6_stringSize_0f7a4_0 (by decide) ?_
  refine lv_istore_n hx hb dJ6_stringSize_0f7a4_1 rfl hl (Nat.le_of_ble_eq_true rfl) rfl (fun ls hl => ?_)
  have hl : lv_has ls 4 [(1, .int (1 : Int32)), (0, .int p1)] := hl
  refine lv_iload_n hx hb dJ6_stringSize_0f7a4_2 rfl (lv_at hl 1 rfl) ?_
  refine lv_if_lt (tgt := 11) hx hb dJ6_stringSize_0f7a4_3 (by decide) (fun hc => ?_) (fun hc => ?_)
  · have h := h.1 hc
    refine lv_bipush (v := (-10)) hx hb dJ6_stringSize_0f7a4_11 (by decide) ?_
    refine lv_istore_n hx hb dJ6_stringSize_0f7a4_13 rfl hl (Nat.le_of_ble_eq_true rfl) rfl (fun ls hl => ?_)
    have hl : lv_has ls 4 [(2, .int (-10 : Int32)), (1, .int (1 : Int32)), (0, .int p1)] := hl
    refine lv_iconst (v := 1) hx hb dJ6_stringSize_0f7a4_14 (by decide) ?_
    refine lv_istore_n hx hb dJ6_stringSize_0f7a4_15 rfl hl (Nat.le_of_ble_eq_true rfl) rfl (fun ls hl => ?_)
    have hl : lv_has ls 4 [(3, .int (1 : Int32)), (2, .int (-10 : Int32)), (1, .int (1 : Int32)), (0, .int p1)] := hl
    have hl := lv_sub (l' := [(0, .int p1), (1, .int (1 : Int32)), (2, .int (-10 : Int32)), (3, .int (1 : Int32))]) hl [3, 2, 1, 0] rfl
    obtain ⟨nF, h⟩ := h
    refine loop16 _ trivial ?_ nF (-10 : Int32) (1 : Int32) _ hl h
    · intro i2 i3 ls hl h
      refine lv_bipush (v := 10) hx hb dJ6_stringSize_0f7a4_42 (by decide) ?_
      refine lv_iload_n hx hb dJ6_stringSize_0f7a4_44 rfl (lv_at hl 1 rfl) ?_
      refine lv_iadd hx hb dJ6_stringSize_0f7a4_45 ?_
      refine lv_topi (fun c_1 ec_1 => ?_)
      obtain rfl : c_1 = 11 := ec_1.trans (by decide)
      exact W.iret (v := (11 : Int32)) hx hb hr (fun t ht _ => ⟨_, rfl, h, ht⟩) (fun _ hq => absurd hq List.not_mem_nil) dJ6_stringSize_0f7a4_46
  · have h := h.2 hc
    refine lv_iconst (v := 0) hx hb dJ6_stringSize_0f7a4_6 (by decide) ?_
    refine lv_istore_n hx hb dJ6_stringSize_0f7a4_7 rfl hl (Nat.le_of_ble_eq_true rfl) rfl (fun ls hl => ?_)
    have hl : lv_has ls 4 [(1, .int (0 : Int32)), (0, .int p1)] := hl
    refine lv_iload_n hx hb dJ6_stringSize_0f7a4_8 rfl (lv_at hl 1 rfl) ?_
    refine lv_ineg hx hb dJ6_stringSize_0f7a4_9 ?_
    refine lv_istore_n hx hb dJ6_stringSize_0f7a4_10 rfl hl (Nat.le_of_ble_eq_true rfl) rfl (fun ls hl => ?_)
    have hl : lv_has ls 4 [(0, .int (-p1)), (1, .int (0 : Int32))] := hl
    refine lv_bipush (v := (-10)) hx hb dJ6_stringSize_0f7a4_11 (by decide) ?_
    refine lv_istore_n hx hb dJ6_stringSize_0f7a4_13 rfl hl (Nat.le_of_ble_eq_true rfl) rfl (fun ls hl => ?_)
    have hl : lv_has ls 4 [(2, .int (-10 : Int32)), (0, .int (-p1)), (1, .int (0 : Int32))] := hl
    refine lv_iconst (v := 1) hx hb dJ6_stringSize_0f7a4_14 (by decide) ?_
    refine lv_istore_n hx hb dJ6_stringSize_0f7a4_15 rfl hl (Nat.le_of_ble_eq_true rfl) rfl (fun ls hl => ?_)
    have hl : lv_has ls 4 [(3, .int (1 : Int32)), (2, .int (-10 : Int32)), (0, .int (-p1)), (1, .int (0 : Int32))] := hl
    have hl := lv_sub (l' := [(0, .int (-p1)), (1, .int (0 : Int32)), (2, .int (-10 : Int32)), (3, .int (1 : Int32))]) hl [2, 3, 1, 0] rfl
    obtain ⟨nF, h⟩ := h
    refine loop16_1 _ trivial ?_ nF (-10 : Int32) (1 : Int32) _ hl h
    · intro i2 i3 ls hl h
      refine lv_bipush (v := 10) hx hb dJ6_stringSize_0f7a4_42 (by decide) ?_
      refine lv_iload_n hx hb dJ6_stringSize_0f7a4_44 rfl (lv_at hl 1 rfl) ?_
      refine lv_iadd hx hb dJ6_stringSize_0f7a4_45 ?_
      refine lv_topi (fun c_2 ec_2 => ?_)
      obtain rfl : c_2 = 10 := ec_2.trans (by decide)
      exact W.iret (v := (10 : Int32)) hx hb hr (fun t ht _ => ⟨_, rfl, h, ht⟩) (fun _ hq => absurd hq List.not_mem_nil) dJ6_stringSize_0f7a4_46
theorem dJ8_newLength_cabcc_0 : decode cJ8_newLength_cabcc 0 = .ok (.iload_n 0, 1) := by decide +kernel
theorem dJ8_newLength_cabcc_1 : decode cJ8_newLength_cabcc 1 = .ok (.iload_n 1, 1) := by decide +kernel
theorem dJ8_newLength_cabcc_2 : decode cJ8_newLength_cabcc 2 = .ok (.iload_n 2, 1) := by decide +kernel
theorem dJ8_newLength_cabcc_3 : decode cJ8_newLength_cabcc 3 = .ok (.invokestatic 194, 3) := by decide +kernel
theorem dJ8_newLength_cabcc_6 : decode cJ8_newLength_cabcc 6 = .ok (.iadd, 1) := by decide +kernel
theorem dJ8_newLength_cabcc_7 : decode cJ8_newLength_cabcc 7 = .ok (.istore_n 3, 1) := by decide +kernel
theorem dJ8_newLength_cabcc_8 : decode cJ8_newLength_cabcc 8 = .ok (.iconst 0, 1) := by decide +kernel
theorem dJ8_newLength_cabcc_9 : decode cJ8_newLength_cabcc 9 = .ok (.iload_n 3, 1) := by decide +kernel
theorem dJ8_newLength_cabcc_10 : decode cJ8_newLength_cabcc 10 = .ok (.if_icmp .ge 11, 3) := by decide +kernel
theorem dJ8_newLength_cabcc_13 : decode cJ8_newLength_cabcc 13 = .ok (.iload_n 3, 1) := by decide +kernel
theorem dJ8_newLength_cabcc_14 : decode cJ8_newLength_cabcc 14 = .ok (.ldc 200, 2) := by decide +kernel
theorem dJ8_newLength_cabcc_16 : decode cJ8_newLength_cabcc 16 = .ok (.if_icmp .gt 5, 3) := by decide +kernel
theorem dJ8_newLength_cabcc_19 : decode cJ8_newLength_cabcc 19 = .ok (.iload_n 3, 1) := by decide +kernel
theorem dJ8_newLength_cabcc_20 : decode cJ8_newLength_cabcc 20 = .ok (.ireturn, 1) := by decide +kernel
theorem dJ8_newLength_cabcc_21 : decode cJ8_newLength_cabcc 21 = .ok (.iload_n 0, 1) := by decide +kernel
theorem dJ8_newLength_cabcc_22 : decode cJ8_newLength_cabcc 22 = .ok (.iload_n 1, 1) := by decide +kernel
theorem dJ8_newLength_cabcc_23 : decode cJ8_newLength_cabcc 23 = .ok (.invokestatic 201, 3) := by decide +kernel
theorem dJ8_newLength_cabcc_26 : decode cJ8_newLength_cabcc 26 = .ok (.ireturn, 1) := by decide +kernel
def wnJ8_newLength_cabcc (post : Int32 → Prop) (p1 : Int32) (p2 : Int32) (p3 : Int32) : Prop :=
  (((p1 + (if p2 < p3 then p3 else p2)) ≤ (0 : Int32)) →
    False
  ) ∧ (¬ ((p1 + (if p2 < p3 then p3 else p2)) ≤ (0 : Int32)) →
    (((2147483639 : Int32) < (p1 + (if p2 < p3 then p3 else p2))) →
      False
    ) ∧ (¬ ((2147483639 : Int32) < (p1 + (if p2 < p3 then p3 else p2))) →
      post (p1 + (if p2 < p3 then p3 else p2))
    )
  )
abbrev wl_nJ8_newLength_cabcc : List Cond := .code yJ8_newLength_cabcc cJ8_newLength_cabcc 4 (some .int) :: lwg
abbrev rm_nJ8_newLength_cabcc : Room := { frames := 1, cells := 0, slots := 0, locals := 24 }
set_option maxHeartbeats 4000000 in
set_option maxRecDepth 100000 in
theorem knJ8_newLength_cabcc {post : Int32 → Prop} (l : Launch) (G : GT) (p1 : Int32) (p2 : Int32) (p3 : Int32) (h : wnJ8_newLength_cabcc post p1 p2 p3) : Met l yJ8_newLength_cabcc wl_nJ8_newLength_cabcc rm_nJ8_newLength_cabcc (va_Pc [.int p1, .int p2, .int p3] (fun U => PP G [] U.heap ∧ KK G U)) (vp_Si post) 0 0 (fun _ => False) := by
  refine Met.ofW (cc := cJ8_newLength_cabcc) (maxL := 4) (ret := (some .int)) (by decide) rfl ?_
  intro p e s m args below meth c s₁ B hml hv
  obtain ⟨rfl, hP, hKK⟩ := hv
  obtain ⟨hK, hN, hR, hFW, hNC⟩ := id hKK
  have hx := B.exec
  have hb := B.bytes
  have hr := B.returns
  have hts0 := atoms_spec (ws := wl_nJ8_newLength_cabcc) B.pre
  have hts : ∀ w ∈ lwg, w.before ([.int p1, .int p2, .int p3] : List Value).toArray s = true := fun w hw => hts0 w (List.mem_cons_of_mem _ hw)
  have hown : s.vm.findClass RJ8 = some m.cls := findClass_of_methodNamed B.named
  have hlocks := B.notSynchronized
  have hP : PP G [] s.heap := hP
  have hl := lv_entry ([.int p1, .int p2, .int p3]) (n := 4) (Nat.le_of_ble_eq_true rfl)
  rw [lg_entry_eq]
  generalize (lg_sl ([.int p1, .int p2, .int p3]) ++ List.replicate (4 - (lg_sl ([.int p1, .int p2, .int p3])).length) Slot.unset).toArray = ls at hl ⊢
  have hl : lv_has ls 4 [(0, .int p1), (1, .int p2), (2, .int p3)] := hl
  refine lv_iload_n hx hb dJ8_newLength_cabcc_0 rfl (lv_at hl 0 rfl) ?_
  refine lv_iload_n hx hb dJ8_newLength_cabcc_1 rfl (lv_at hl 1 rfl) ?_
  refine lv_iload_n hx hb dJ8_newLength_cabcc_2 rfl (lv_at hl 2 rfl) ?_
  refine va_mmax hx hb (by rw [hml]; exact hl.1.symm) hown (hts _ q729) (hts _ q562) (hts _ q18) (hts _ q563) (Nat.le_of_ble_eq_true rfl) (Nat.le_of_ble_eq_true rfl) (Nat.zero_le _) (Nat.zero_le _) dJ8_newLength_cabcc_3 ?_
  refine lv_iadd hx hb dJ8_newLength_cabcc_6 ?_
  refine lv_istore_n hx hb dJ8_newLength_cabcc_7 rfl hl (Nat.le_of_ble_eq_true rfl) rfl (fun ls hl => ?_)
  have hl : lv_has ls 4 [(3, .int (p1 + (if p2 < p3 then p3 else p2))), (0, .int p1), (1, .int p2), (2, .int p3)] := hl
  refine lv_iconst (v := 0) hx hb dJ8_newLength_cabcc_8 (by decide) ?_
  refine lv_iload_n hx hb dJ8_newLength_cabcc_9 rfl (lv_at hl 0 rfl) ?_
  refine lv_icmp_ge (tgt := 21) hx hb dJ8_newLength_cabcc_10 (by decide) (fun hc => ?_) (fun hc => ?_)
  · have h := h.1 hc
    refine lv_iload_n hx hb dJ8_newLength_cabcc_21 rfl (lv_at hl 1 rfl) ?_
    refine lv_iload_n hx hb dJ8_newLength_cabcc_22 rfl (lv_at hl 2 rfl) ?_
    exact False.elim h
  · have h := h.2 hc
    refine lv_iload_n hx hb dJ8_newLength_cabcc_13 rfl (lv_at hl 0 rfl) ?_
    refine lv_ldc hx hb hown (hts _ q730) dJ8_newLength_cabcc_14 ?_
    refine lv_icmp_gt (tgt := 21) hx hb dJ8_newLength_cabcc_16 (by decide) (fun hc => ?_) (fun hc => ?_)
    · have h := h.1 hc
      refine lv_iload_n hx hb dJ8_newLength_cabcc_21 rfl (lv_at hl 1 rfl) ?_
      refine lv_iload_n hx hb dJ8_newLength_cabcc_22 rfl (lv_at hl 2 rfl) ?_
      exact False.elim h
    · have h := h.2 hc
      refine lv_iload_n hx hb dJ8_newLength_cabcc_19 rfl (lv_at hl 0 rfl) ?_
      exact W.iret (v := (p1 + (if p2 < p3 then p3 else p2))) hx hb hr (fun t ht _ => ⟨_, rfl, h, ht⟩) (fun _ hq => absurd hq List.not_mem_nil) dJ8_newLength_cabcc_20
theorem dJ5_isLatin1_aae02_0 : decode cJ5_isLatin1_aae02 0 = .ok (.getstatic 18, 3) := by decide +kernel
theorem dJ5_isLatin1_aae02_3 : decode cJ5_isLatin1_aae02 3 = .ok (.ifCond .eq 14, 3) := by decide +kernel
theorem dJ5_isLatin1_aae02_6 : decode cJ5_isLatin1_aae02 6 = .ok (.aload_n 0, 1) := by decide +kernel
theorem dJ5_isLatin1_aae02_7 : decode cJ5_isLatin1_aae02 7 = .ok (.getfield 22, 3) := by decide +kernel
theorem dJ5_isLatin1_aae02_10 : decode cJ5_isLatin1_aae02 10 = .ok (.ifCond .ne 7, 3) := by decide +kernel
theorem dJ5_isLatin1_aae02_13 : decode cJ5_isLatin1_aae02 13 = .ok (.iconst 1, 1) := by decide +kernel
theorem dJ5_isLatin1_aae02_14 : decode cJ5_isLatin1_aae02 14 = .ok (.goto 4, 3) := by decide +kernel
theorem dJ5_isLatin1_aae02_17 : decode cJ5_isLatin1_aae02 17 = .ok (.iconst 0, 1) := by decide +kernel
theorem dJ5_isLatin1_aae02_18 : decode cJ5_isLatin1_aae02 18 = .ok (.ireturn, 1) := by decide +kernel
def wJ5_isLatin1_aae02 (post : Int32 → Prop) : Prop :=
  post (1 : Int32)
abbrev wl_J5_isLatin1_aae02 : List Cond := .code yJ5_isLatin1_aae02 cJ5_isLatin1_aae02 1 (some .boolean) :: lwg
abbrev rm_J5_isLatin1_aae02 : Room := { frames := 0, cells := 0, slots := 0, locals := 0 }
set_option maxHeartbeats 4000000 in
set_option maxRecDepth 100000 in
theorem kJ5_isLatin1_aae02 {post : Int32 → Prop} (l : Launch) (G : GT) (wb : Nat) (wv : Nat) (wc : Int32) (h : wJ5_isLatin1_aae02 post ) : Met l yJ5_isLatin1_aae02 wl_J5_isLatin1_aae02 rm_J5_isLatin1_aae02 (va_Pc [.ref wb] (fun U => PP G [(wb, .inr (1, [.ref wv, .int (0 : Int32), .int (0 : Int32), .int wc]))] U.heap ∧ KK G U ∧ JJ G (fun _ => False) U U.heap)) (vp_Si post) 0 0 (fun _ => False) := by
  refine Met.ofW (cc := cJ5_isLatin1_aae02) (maxL := 1) (ret := (some .boolean)) (by decide) rfl ?_
  intro p e s m args below meth c s₁ B hml hv
  obtain ⟨rfl, hP, hKK, hJ⟩ := hv
  obtain ⟨hK, hN, hR, hFW, hNC⟩ := id hKK
  have hx := B.exec
  have hb := B.bytes
  have hr := B.returns
  have hts0 := atoms_spec (ws := wl_J5_isLatin1_aae02) B.pre
  have hts : ∀ w ∈ lwg, w.before ([.ref wb] : List Value).toArray s = true := fun w hw => hts0 w (List.mem_cons_of_mem _ hw)
  have hown : s.vm.findClass RJ5 = some m.cls := findClass_of_methodNamed B.named
  have hlocks := B.notSynchronized
  obtain ⟨jE, hjE⟩ := hJ.2.1
  obtain ⟨jT, hjT1, hjT2⟩ := hJ.2.2.1
  obtain ⟨jO, hjO1, hjO2⟩ := hJ.2.2.2.1
  obtain ⟨jS, hjS⟩ := hJ.2.2.2.2.1
  have hS : va_S (fun _ => False) s.heap s.heap [] := va_S.rf
  have hP : PP G [(wb, .inr (1, [.ref wv, .int (0 : Int32), .int (0 : Int32), .int wc]))] s.heap := hP
  have hl := lv_entry ([.ref wb]) (n := 1) (Nat.le_of_ble_eq_true rfl)
  rw [lg_entry_eq]
  generalize (lg_sl ([.ref wb]) ++ List.replicate (1 - (lg_sl ([.ref wb])).length) Slot.unset).toArray = ls at hl ⊢
  have hl : lv_has ls 1 [(0, .ref wb)] := hl
  refine va_gets hx hb hJ.1 hS hown (hts _ q683) (fun _ h9 => h9) dJ5_isLatin1_aae02_0 ?_
  refine lv_if_eq (tgt := 17) hx hb dJ5_isLatin1_aae02_3 (by decide) (fun hc => absurd hc (by decide)) (fun _ => ?_)
  refine lv_aload_n hx hb dJ5_isLatin1_aae02_6 rfl (lv_at hl 0 rfl) ?_
  refine va_get (D := G.1) (ci := 1) (v := .int (0 : Int32)) (C := RJ4) (T := TJ4) (N := 4) hx hb hts igJ4 hown hK hP 0 rfl rfl 1 (by decide) (hts _ q693) (fun _ h9 => h9) rfl dJ5_isLatin1_aae02_7 ?_
  refine lv_if_ne (tgt := 17) hx hb dJ5_isLatin1_aae02_10 (by decide) (fun hc => absurd hc (by decide)) (fun _ => ?_)
  refine lv_iconst (v := 1) hx hb dJ5_isLatin1_aae02_13 (by decide) ?_
  refine lv_goto (tgt := 18) hx hb dJ5_isLatin1_aae02_14 (by decide) ?_
  exact W.zret (v := (1 : Int32)) hx hb hr (by decide) (fun t ht _ => ⟨_, rfl, h, ht⟩) (fun _ hq => absurd hq List.not_mem_nil) dJ5_isLatin1_aae02_18
theorem dJ5_newCapacity_0f7a4_0 : decode cJ5_newCapacity_0f7a4 0 = .ok (.aload_n 0, 1) := by decide +kernel
theorem dJ5_newCapacity_0f7a4_1 : decode cJ5_newCapacity_0f7a4 1 = .ok (.getfield 15, 3) := by decide +kernel
theorem dJ5_newCapacity_0f7a4_4 : decode cJ5_newCapacity_0f7a4 4 = .ok (.arraylength, 1) := by decide +kernel
theorem dJ5_newCapacity_0f7a4_5 : decode cJ5_newCapacity_0f7a4 5 = .ok (.istore_n 2, 1) := by decide +kernel
theorem dJ5_newCapacity_0f7a4_6 : decode cJ5_newCapacity_0f7a4 6 = .ok (.iload_n 1, 1) := by decide +kernel
theorem dJ5_newCapacity_0f7a4_7 : decode cJ5_newCapacity_0f7a4 7 = .ok (.aload_n 0, 1) := by decide +kernel
theorem dJ5_newCapacity_0f7a4_8 : decode cJ5_newCapacity_0f7a4 8 = .ok (.getfield 22, 3) := by decide +kernel
theorem dJ5_newCapacity_0f7a4_11 : decode cJ5_newCapacity_0f7a4 11 = .ok (.ishl, 1) := by decide +kernel
theorem dJ5_newCapacity_0f7a4_12 : decode cJ5_newCapacity_0f7a4 12 = .ok (.istore_n 3, 1) := by decide +kernel
theorem dJ5_newCapacity_0f7a4_13 : decode cJ5_newCapacity_0f7a4 13 = .ok (.iload_n 3, 1) := by decide +kernel
theorem dJ5_newCapacity_0f7a4_14 : decode cJ5_newCapacity_0f7a4 14 = .ok (.iload_n 2, 1) := by decide +kernel
theorem dJ5_newCapacity_0f7a4_15 : decode cJ5_newCapacity_0f7a4 15 = .ok (.isub, 1) := by decide +kernel
theorem dJ5_newCapacity_0f7a4_16 : decode cJ5_newCapacity_0f7a4 16 = .ok (.istore 4, 2) := by decide +kernel
theorem dJ5_newCapacity_0f7a4_18 : decode cJ5_newCapacity_0f7a4 18 = .ok (.iload_n 2, 1) := by decide +kernel
theorem dJ5_newCapacity_0f7a4_19 : decode cJ5_newCapacity_0f7a4 19 = .ok (.iload 4, 2) := by decide +kernel
theorem dJ5_newCapacity_0f7a4_21 : decode cJ5_newCapacity_0f7a4 21 = .ok (.iload_n 2, 1) := by decide +kernel
theorem dJ5_newCapacity_0f7a4_22 : decode cJ5_newCapacity_0f7a4 22 = .ok (.iconst 2, 1) := by decide +kernel
theorem dJ5_newCapacity_0f7a4_23 : decode cJ5_newCapacity_0f7a4 23 = .ok (.aload_n 0, 1) := by decide +kernel
theorem dJ5_newCapacity_0f7a4_24 : decode cJ5_newCapacity_0f7a4 24 = .ok (.getfield 22, 3) := by decide +kernel
theorem dJ5_newCapacity_0f7a4_27 : decode cJ5_newCapacity_0f7a4 27 = .ok (.ishl, 1) := by decide +kernel
theorem dJ5_newCapacity_0f7a4_28 : decode cJ5_newCapacity_0f7a4 28 = .ok (.iadd, 1) := by decide +kernel
theorem dJ5_newCapacity_0f7a4_29 : decode cJ5_newCapacity_0f7a4 29 = .ok (.invokestatic 114, 3) := by decide +kernel
theorem dJ5_newCapacity_0f7a4_32 : decode cJ5_newCapacity_0f7a4 32 = .ok (.istore 5, 2) := by decide +kernel
theorem dJ5_newCapacity_0f7a4_34 : decode cJ5_newCapacity_0f7a4 34 = .ok (.iload 5, 2) := by decide +kernel
theorem dJ5_newCapacity_0f7a4_36 : decode cJ5_newCapacity_0f7a4 36 = .ok (.ldc 39, 2) := by decide +kernel
theorem dJ5_newCapacity_0f7a4_38 : decode cJ5_newCapacity_0f7a4 38 = .ok (.if_icmp .ne 13, 3) := by decide +kernel
theorem dJ5_newCapacity_0f7a4_41 : decode cJ5_newCapacity_0f7a4 41 = .ok (.new 120, 3) := by decide +kernel
theorem dJ5_newCapacity_0f7a4_44 : decode cJ5_newCapacity_0f7a4 44 = .ok (.dup, 1) := by decide +kernel
theorem dJ5_newCapacity_0f7a4_45 : decode cJ5_newCapacity_0f7a4 45 = .ok (.ldc 122, 2) := by decide +kernel
theorem dJ5_newCapacity_0f7a4_47 : decode cJ5_newCapacity_0f7a4 47 = .ok (.invokespecial 124, 3) := by decide +kernel
theorem dJ5_newCapacity_0f7a4_50 : decode cJ5_newCapacity_0f7a4 50 = .ok (.athrow, 1) := by decide +kernel
theorem dJ5_newCapacity_0f7a4_51 : decode cJ5_newCapacity_0f7a4 51 = .ok (.iload 5, 2) := by decide +kernel
theorem dJ5_newCapacity_0f7a4_53 : decode cJ5_newCapacity_0f7a4 53 = .ok (.aload_n 0, 1) := by decide +kernel
theorem dJ5_newCapacity_0f7a4_54 : decode cJ5_newCapacity_0f7a4 54 = .ok (.getfield 22, 3) := by decide +kernel
theorem dJ5_newCapacity_0f7a4_57 : decode cJ5_newCapacity_0f7a4 57 = .ok (.ishr, 1) := by decide +kernel
theorem dJ5_newCapacity_0f7a4_58 : decode cJ5_newCapacity_0f7a4 58 = .ok (.ireturn, 1) := by decide +kernel
def wnJ5_newCapacity_0f7a4 (post : Int32 → Prop) (wn : Nat) (p1 : Int32) : Prop :=
  ∀ x_1 : Int32, x_1 = ((p1 <<< ((0 : Int32) &&& 31)) - (nI wn)) →
  wnJ8_newLength_cabcc (fun r_1 : Int32 =>
    ((¬ r_1 = (2147483647 : Int32)) →
      post (r_1 >>> ((0 : Int32) &&& 31))
    ) ∧ ((r_1 = (2147483647 : Int32)) →
      False
    )
    ) (nI wn) x_1 ((nI wn) + ((2 : Int32) <<< ((0 : Int32) &&& 31)))
abbrev wl_nJ5_newCapacity_0f7a4 : List Cond := .code yJ5_newCapacity_0f7a4 cJ5_newCapacity_0f7a4 6 (some .int) :: lwg
abbrev rm_nJ5_newCapacity_0f7a4 : Room := { frames := 2, cells := 0, slots := 0, locals := 47 }
set_option maxHeartbeats 4000000 in
set_option maxRecDepth 100000 in
theorem knJ5_newCapacity_0f7a4 {post : Int32 → Prop} (l : Launch) (G : GT) (wb : Nat) (wv : Nat) (wc : Int32) (wn : Nat) (wf : Nat → Int32) (p1 : Int32) (h : wnJ5_newCapacity_0f7a4 post wn p1) : Met l yJ5_newCapacity_0f7a4 wl_nJ5_newCapacity_0f7a4 rm_nJ5_newCapacity_0f7a4 (va_Pc [.ref wb, .int p1] (fun U => PP G [(wb, .inr (1, [.ref wv, .int (0 : Int32), .int (0 : Int32), .int wc])), (wv, .inl (G.2 2, wn, .inl wf))] U.heap ∧ KK G U)) (vp_Si post) 0 0 (fun _ => False) := by
  refine Met.ofW (cc := cJ5_newCapacity_0f7a4) (maxL := 6) (ret := (some .int)) (by decide) rfl ?_
  intro p e s m args below meth c s₁ B hml hv
  obtain ⟨rfl, hP, hKK⟩ := hv
  obtain ⟨hK, hN, hR, hFW, hNC⟩ := id hKK
  have hx := B.exec
  have hb := B.bytes
  have hr := B.returns
  have hts0 := atoms_spec (ws := wl_nJ5_newCapacity_0f7a4) B.pre
  have hts : ∀ w ∈ lwg, w.before ([.ref wb, .int p1] : List Value).toArray s = true := fun w hw => hts0 w (List.mem_cons_of_mem _ hw)
  have hown : s.vm.findClass RJ5 = some m.cls := findClass_of_methodNamed B.named
  have hlocks := B.notSynchronized
  have hP : PP G [(wb, .inr (1, [.ref wv, .int (0 : Int32), .int (0 : Int32), .int wc])), (wv, .inl (G.2 2, wn, .inl wf))] s.heap := hP
  have hl := lv_entry ([.ref wb, .int p1]) (n := 6) (Nat.le_of_ble_eq_true rfl)
  rw [lg_entry_eq]
  generalize (lg_sl ([.ref wb, .int p1]) ++ List.replicate (6 - (lg_sl ([.ref wb, .int p1])).length) Slot.unset).toArray = ls at hl ⊢
  have hl : lv_has ls 6 [(0, .ref wb), (1, .int p1)] := hl
  refine lv_aload_n hx hb dJ5_newCapacity_0f7a4_0 rfl (lv_at hl 0 rfl) ?_
  refine va_get (D := G.1) (ci := 1) (v := .ref wv) (C := RJ4) (T := TJ4) (N := 4) hx hb hts igJ4 hown hK hP 0 rfl rfl 0 (by decide) (hts _ q692) (fun _ h9 => h9) rfl dJ5_newCapacity_0f7a4_1 ?_
  refine va_alen (D := G.1) (v := (nI wn)) hx hb hK hP 1 2 rfl rfl rfl dJ5_newCapacity_0f7a4_4 ?_
  refine lv_istore_n hx hb dJ5_newCapacity_0f7a4_5 rfl hl (Nat.le_of_ble_eq_true rfl) rfl (fun ls hl => ?_)
  have hl : lv_has ls 6 [(2, .int (nI wn)), (0, .ref wb), (1, .int p1)] := hl
  refine lv_iload_n hx hb dJ5_newCapacity_0f7a4_6 rfl (lv_at hl 2 rfl) ?_
  refine lv_aload_n hx hb dJ5_newCapacity_0f7a4_7 rfl (lv_at hl 1 rfl) ?_
  refine va_get (D := G.1) (ci := 1) (v := .int (0 : Int32)) (C := RJ4) (T := TJ4) (N := 4) hx hb hts igJ4 hown hK hP 0 rfl rfl 1 (by decide) (hts _ q693) (fun _ h9 => h9) rfl dJ5_newCapacity_0f7a4_8 ?_
  refine lv_ishl hx hb dJ5_newCapacity_0f7a4_11 ?_
  refine lv_istore_n hx hb dJ5_newCapacity_0f7a4_12 rfl hl (Nat.le_of_ble_eq_true rfl) rfl (fun ls hl => ?_)
  have hl : lv_has ls 6 [(3, .int (p1 <<< ((0 : Int32) &&& 31))), (2, .int (nI wn)), (0, .ref wb), (1, .int p1)] := hl
  refine lv_iload_n hx hb dJ5_newCapacity_0f7a4_13 rfl (lv_at hl 0 rfl) ?_
  refine lv_iload_n hx hb dJ5_newCapacity_0f7a4_14 rfl (lv_at hl 1 rfl) ?_
  refine lv_isub hx hb dJ5_newCapacity_0f7a4_15 ?_
  refine lv_topi (fun x_1 ex_1 => ?_)
  have h := h x_1 ex_1
  refine lv_istore hx hb dJ5_newCapacity_0f7a4_16 hl (Nat.le_of_ble_eq_true rfl) rfl (fun ls hl => ?_)
  have hl : lv_has ls 6 [(4, .int x_1), (3, .int (p1 <<< ((0 : Int32) &&& 31))), (2, .int (nI wn)), (0, .ref wb), (1, .int p1)] := hl
  refine lv_iload_n hx hb dJ5_newCapacity_0f7a4_18 rfl (lv_at hl 2 rfl) ?_
  refine lv_iload hx hb dJ5_newCapacity_0f7a4_19 (lv_at hl 0 rfl) ?_
  refine lv_iload_n hx hb dJ5_newCapacity_0f7a4_21 rfl (lv_at hl 2 rfl) ?_
  refine lv_iconst (v := 2) hx hb dJ5_newCapacity_0f7a4_22 (by decide) ?_
  refine lv_aload_n hx hb dJ5_newCapacity_0f7a4_23 rfl (lv_at hl 3 rfl) ?_
  refine va_get (D := G.1) (ci := 1) (v := .int (0 : Int32)) (C := RJ4) (T := TJ4) (N := 4) hx hb hts igJ4 hown hK hP 0 rfl rfl 1 (by decide) (hts _ q693) (fun _ h9 => h9) rfl dJ5_newCapacity_0f7a4_24 ?_
  refine lv_ishl hx hb dJ5_newCapacity_0f7a4_27 ?_
  refine lv_iadd hx hb dJ5_newCapacity_0f7a4_28 ?_
  have hPc := va_P.sub (ws' := []) hP [] rfl
  refine rdI (va_runS (As := [.int (nI wn), .int x_1, .int ((nI wn) + ((2 : Int32) <<< ((0 : Int32) &&& 31)))]) (rest := []) ⟨hx, hb, hml, hown, hts⟩ (knJ8_newLength_cabcc l G (nI wn) x_1 ((nI wn) + ((2 : Int32) <<< ((0 : Int32) &&& 31))) h) (va_cwS 3 hts (gdS q726 q727 q19 q728) rfl rfl rfl (by decide +kernel) ⟨Nat.le_of_ble_eq_true rfl, Nat.le_of_ble_eq_true rfl⟩) (preS hPc hKK) rfl rfl hl.1 rfl (lv_room (Nat.le_of_ble_eq_true rfl)) dJ5_newCapacity_0f7a4_29 ⟨Nat.zero_le _, Nat.zero_le _⟩) (fun r_1 h => ?_)
  refine lv_istore hx hb dJ5_newCapacity_0f7a4_32 hl (Nat.le_of_ble_eq_true rfl) rfl (fun ls hl => ?_)
  have hl : lv_has ls 6 [(5, .int r_1), (4, .int x_1), (3, .int (p1 <<< ((0 : Int32) &&& 31))), (2, .int (nI wn)), (0, .ref wb), (1, .int p1)] := hl
  refine lv_iload hx hb dJ5_newCapacity_0f7a4_34 (lv_at hl 0 rfl) ?_
  refine lv_ldc hx hb hown (hts _ q734) dJ5_newCapacity_0f7a4_36 ?_
  refine lv_icmp_ne (tgt := 51) hx hb dJ5_newCapacity_0f7a4_38 (by decide) (fun hc => ?_) (fun hc => ?_)
  · have h := h.1 hc
    refine lv_iload hx hb dJ5_newCapacity_0f7a4_51 (lv_at hl 0 rfl) ?_
    refine lv_aload_n hx hb dJ5_newCapacity_0f7a4_53 rfl (lv_at hl 4 rfl) ?_
    refine va_get (D := G.1) (ci := 1) (v := .int (0 : Int32)) (C := RJ4) (T := TJ4) (N := 4) hx hb hts igJ4 hown hK hP 0 rfl rfl 1 (by decide) (hts _ q693) (fun _ h9 => h9) rfl dJ5_newCapacity_0f7a4_54 ?_
    refine lv_ishr hx hb dJ5_newCapacity_0f7a4_57 ?_
    exact W.iret (v := (r_1 >>> ((0 : Int32) &&& 31))) hx hb hr (fun t ht _ => ⟨_, rfl, h, ht⟩) (fun _ hq => absurd hq List.not_mem_nil) dJ5_newCapacity_0f7a4_58
  · have h := h.2 hc
    exact False.elim h
theorem dJ7_copyOf_9075b_0 : decode cJ7_copyOf_9075b 0 = .ok (.iload_n 1, 1) := by decide +kernel
theorem dJ7_copyOf_9075b_1 : decode cJ7_copyOf_9075b 1 = .ok (.aload_n 0, 1) := by decide +kernel
theorem dJ7_copyOf_9075b_2 : decode cJ7_copyOf_9075b 2 = .ok (.arraylength, 1) := by decide +kernel
theorem dJ7_copyOf_9075b_3 : decode cJ7_copyOf_9075b 3 = .ok (.if_icmp .ne 11, 3) := by decide +kernel
theorem dJ7_copyOf_9075b_6 : decode cJ7_copyOf_9075b 6 = .ok (.aload_n 0, 1) := by decide +kernel
theorem dJ7_copyOf_9075b_7 : decode cJ7_copyOf_9075b 7 = .ok (.invokevirtual 310, 3) := by decide +kernel
theorem dJ7_copyOf_9075b_10 : decode cJ7_copyOf_9075b 10 = .ok (.checkcast 311, 3) := by decide +kernel
theorem dJ7_copyOf_9075b_13 : decode cJ7_copyOf_9075b 13 = .ok (.areturn, 1) := by decide +kernel
theorem dJ7_copyOf_9075b_14 : decode cJ7_copyOf_9075b 14 = .ok (.iload_n 1, 1) := by decide +kernel
theorem dJ7_copyOf_9075b_15 : decode cJ7_copyOf_9075b 15 = .ok (.newarray .byte, 2) := by decide +kernel
theorem dJ7_copyOf_9075b_17 : decode cJ7_copyOf_9075b 17 = .ok (.astore_n 2, 1) := by decide +kernel
theorem dJ7_copyOf_9075b_18 : decode cJ7_copyOf_9075b 18 = .ok (.aload_n 0, 1) := by decide +kernel
theorem dJ7_copyOf_9075b_19 : decode cJ7_copyOf_9075b 19 = .ok (.iconst 0, 1) := by decide +kernel
theorem dJ7_copyOf_9075b_20 : decode cJ7_copyOf_9075b 20 = .ok (.aload_n 2, 1) := by decide +kernel
theorem dJ7_copyOf_9075b_21 : decode cJ7_copyOf_9075b 21 = .ok (.iconst 0, 1) := by decide +kernel
theorem dJ7_copyOf_9075b_22 : decode cJ7_copyOf_9075b 22 = .ok (.aload_n 0, 1) := by decide +kernel
theorem dJ7_copyOf_9075b_23 : decode cJ7_copyOf_9075b 23 = .ok (.arraylength, 1) := by decide +kernel
theorem dJ7_copyOf_9075b_24 : decode cJ7_copyOf_9075b 24 = .ok (.iload_n 1, 1) := by decide +kernel
theorem dJ7_copyOf_9075b_25 : decode cJ7_copyOf_9075b 25 = .ok (.invokestatic 304, 3) := by decide +kernel
theorem dJ7_copyOf_9075b_28 : decode cJ7_copyOf_9075b 28 = .ok (.invokestatic 150, 3) := by decide +kernel
theorem dJ7_copyOf_9075b_31 : decode cJ7_copyOf_9075b 31 = .ok (.aload_n 2, 1) := by decide +kernel
theorem dJ7_copyOf_9075b_32 : decode cJ7_copyOf_9075b 32 = .ok (.areturn, 1) := by decide +kernel
def wnJ7_copyOf_9075b (post : Nat × (Nat → Int32) → Prop) (yn : Nat) (yf : Nat → Int32) (mcb : Nat) (msb : Nat) (p2 : Int32) : Prop :=
  ((¬ p2 = (nI yn)) →
    (¬ p2 < 0 ∧ p2.toNatClampNeg ≤ 65536) ∧
    ((0 + 1) ≤ mcb ∧ (0 + p2.toNatClampNeg) ≤ msb) ∧
    (¬ (0 : Int32) < 0 ∧ ¬ (0 : Int32) < 0 ∧ ¬ (if p2 < (nI yn) then p2 else (nI yn)) < 0 ∧ (0 : Int32).toNatClampNeg + (if p2 < (nI yn) then p2 else (nI yn)).toNatClampNeg ≤ yn ∧ (0 : Int32).toNatClampNeg + (if p2 < (nI yn) then p2 else (nI yn)).toNatClampNeg ≤ p2.toNatClampNeg ∧ ∀ i : Nat, i < (if p2 < (nI yn) then p2 else (nI yn)).toNatClampNeg → FB (yf ((0 : Int32).toNatClampNeg + i))) ∧
    ((0 + 1) ≤ mcb ∧ (0 + p2.toNatClampNeg) ≤ msb) ∧
    post (p2.toNatClampNeg, (va_cpy yf (fun _ => (0 : Int32)) (0 : Int32).toNatClampNeg (0 : Int32).toNatClampNeg (if p2 < (nI yn) then p2 else (nI yn)).toNatClampNeg))
  ) ∧ ((p2 = (nI yn)) →
    (∀ i : Nat, i < yn → FB (yf i)) ∧
    ((0 + 1) ≤ mcb ∧ (0 + yn) ≤ msb) ∧
    ((0 + 1) ≤ mcb ∧ (0 + yn) ≤ msb) ∧
    post (yn, yf)
  )
abbrev wl_nJ7_copyOf_9075b : List Cond := .code yJ7_copyOf_9075b cJ7_copyOf_9075b 3 (some (.array .byte)) :: lwg
abbrev rm_nJ7_copyOf_9075b (mcb msb : Nat) : Room := { frames := 1, cells := mcb, slots := msb, locals := 64 }
set_option maxHeartbeats 4000000 in
set_option maxRecDepth 100000 in
theorem knJ7_copyOf_9075b {post : Nat × (Nat → Int32) → Prop} (l : Launch) (G : GT) (y0 : Nat) (yn : Nat) (yf : Nat → Int32) (mcb : Nat) (msb : Nat) (p2 : Int32) (sz : Nat) (h : wnJ7_copyOf_9075b post yn yf mcb msb p2) : Met l yJ7_copyOf_9075b wl_nJ7_copyOf_9075b (rm_nJ7_copyOf_9075b mcb msb) (va_Pc [.ref y0, .int p2] (fun U => U.heap.size = sz ∧ PP G [(y0, .inl (G.2 2, yn, .inl yf))] U.heap ∧ KK G U ∧ va_D (fun _ => True) [(y0, .inl (G.2 2, yn, .inl yf))])) (va_Qr post (fun u ra t => PP G [(y0, .inl (G.2 2, yn, .inl yf)), (ra, .inl (G.2 2, u.1, .inl (u.2)))] t.heap ∧ va_D (va_A [(y0, .inl (G.2 2, yn, .inl yf))] sz) [(y0, .inl (G.2 2, yn, .inl yf)), (ra, .inl (G.2 2, u.1, .inl (u.2)))]) (va_A [(y0, .inl (G.2 2, yn, .inl yf))] sz)) mcb msb (va_A [(y0, .inl (G.2 2, yn, .inl yf))] sz) := by
  refine Met.ofW (cc := cJ7_copyOf_9075b) (maxL := 3) (ret := (some (.array .byte))) (by decide) rfl ?_
  intro p e s m args below meth c s₁ B hml hv
  obtain ⟨rfl, hsz, hP, hKK, hD0⟩ := hv
  obtain ⟨hK, hN, hR, hFW, hNC⟩ := id hKK
  have hx := B.exec
  have hb := B.bytes
  have hr := B.returns
  have hts0 := atoms_spec (ws := wl_nJ7_copyOf_9075b) B.pre
  have hts : ∀ w ∈ lwg, w.before ([.ref y0, .int p2] : List Value).toArray s = true := fun w hw => hts0 w (List.mem_cons_of_mem _ hw)
  have hown : s.vm.findClass RJ7 = some m.cls := findClass_of_methodNamed B.named
  have hlocks := B.notSynchronized
  subst hsz
  have hD := hD0.self (sz := s.heap.size)
  generalize hAe : va_A [(y0, .inl (G.2 2, yn, .inl yf))] s.heap.size = A at hD ⊢
  have hA : ∀ q : Nat, s.heap.size ≤ q → A q := fun q h => by rw [← hAe]; exact Or.inr h
  have hS : va_S A s.heap s.heap [] := va_S.rf
  obtain ⟨QC, hQC⟩ : ∃ Z, Z = (va_Qr post (fun u ra t => PP G [(y0, .inl (G.2 2, yn, .inl yf)), (ra, .inl (G.2 2, u.1, .inl (u.2)))] t.heap ∧ va_D A [(y0, .inl (G.2 2, yn, .inl yf)), (ra, .inl (G.2 2, u.1, .inl (u.2)))]) A) := ⟨_, rfl⟩
  rw [← hQC]
  have hP : PP G [(y0, .inl (G.2 2, yn, .inl yf))] s.heap := hP
  have hl := lv_entry ([.ref y0, .int p2]) (n := 3) (Nat.le_of_ble_eq_true rfl)
  rw [lg_entry_eq]
  generalize (lg_sl ([.ref y0, .int p2]) ++ List.replicate (3 - (lg_sl ([.ref y0, .int p2])).length) Slot.unset).toArray = ls at hl ⊢
  have hl : lv_has ls 3 [(0, .ref y0), (1, .int p2)] := hl
  refine lv_iload_n hx hb dJ7_copyOf_9075b_0 rfl (lv_at hl 1 rfl) ?_
  refine lv_aload_n hx hb dJ7_copyOf_9075b_1 rfl (lv_at hl 0 rfl) ?_
  refine va_alen (D := G.1) (v := (nI yn)) hx hb hK hP 0 2 rfl rfl rfl dJ7_copyOf_9075b_2 ?_
  refine lv_icmp_ne (tgt := 14) hx hb dJ7_copyOf_9075b_3 (by decide) (fun hc => ?_) (fun hc => ?_)
  · have h := h.1 hc
    refine lv_iload_n hx hb dJ7_copyOf_9075b_14 rfl (lv_at hl 1 rfl) ?_
    obtain ⟨⟨hn0, hn40⟩, h⟩ := h
    obtain ⟨⟨hq_1, hq_2⟩, h⟩ := h
    refine va_newa (D := G.1) (atype := .byte) (N' := p2.toNatClampNeg) (a0 := (p2.toNatClampNeg, .inl (fun _ => 0))) hx hb (hts _ q340) rfl hK hP hD hS hA (fun _ => rfl) hn0 rfl (Nat.le_trans (Nat.mul_le_mul_right _ hn40) (by decide)) hq_1 hq_2 dJ7_copyOf_9075b_15 (fun q_1 cA H hK2 hP hD hS => ?_)
    obtain rfl : cA = G.2 2 := Option.some.inj ((hK2.2 6 _ rfl).2.symm.trans (hK.2 2 _ rfl).2)
    have hP : PP G [(y0, .inl (G.2 2, yn, .inl yf)), (q_1, .inl (G.2 2, p2.toNatClampNeg, .inl (fun _ => (0 : Int32))))] H := hP
    have hD : va_D A [(y0, .inl (G.2 2, yn, .inl yf)), (q_1, .inl (G.2 2, p2.toNatClampNeg, .inl (fun _ => (0 : Int32))))] := hD
    refine lv_astore_n hx hb dJ7_copyOf_9075b_17 rfl hl (Nat.le_of_ble_eq_true rfl) rfl (fun ls hl => ?_)
    have hl : lv_has ls 3 [(2, .ref q_1), (0, .ref y0), (1, .int p2)] := hl
    refine lv_aload_n hx hb dJ7_copyOf_9075b_18 rfl (lv_at hl 1 rfl) ?_
    refine lv_iconst (v := 0) hx hb dJ7_copyOf_9075b_19 (by decide) ?_
    refine lv_aload_n hx hb dJ7_copyOf_9075b_20 rfl (lv_at hl 0 rfl) ?_
    refine lv_iconst (v := 0) hx hb dJ7_copyOf_9075b_21 (by decide) ?_
    refine lv_aload_n hx hb dJ7_copyOf_9075b_22 rfl (lv_at hl 1 rfl) ?_
    refine va_alen (D := G.1) (v := (nI yn)) hx hb hK hP 0 2 rfl rfl rfl dJ7_copyOf_9075b_23 ?_
    refine lv_iload_n hx hb dJ7_copyOf_9075b_24 rfl (lv_at hl 2 rfl) ?_
    refine va_mmin hx hb (by rw [hml]; exact hl.1.symm) hown (hts _ q745) (hts _ q746) (hts _ q18) (hts _ q747) (Nat.le_of_ble_eq_true rfl) (Nat.le_of_ble_eq_true rfl) hq_1 hq_2 dJ7_copyOf_9075b_25 ?_
    obtain ⟨⟨ha1, ha2, ha3, ha4, ha5, ha6⟩, h⟩ := h
    refine va_copyi (D := G.1) hx hb (by rw [hml]; exact hl.1.symm) hown (hts _ q748) (hts _ q469) (hts _ q468) (hts _ q21) hK hP hD hS 0 1 2 2 rfl rfl rfl rfl (by decide) ha1 ha2 ha3 ha4 ha5 (fun i hi => ha6 i hi) (Nat.le_of_ble_eq_true rfl) (Nat.le_of_ble_eq_true rfl) dJ7_copyOf_9075b_28 (fun H locs hP hD hS => ?_)
    have hP : PP G [(y0, .inl (G.2 2, yn, .inl yf)), (q_1, .inl (G.2 2, p2.toNatClampNeg, .inl (va_cpy yf (fun _ => (0 : Int32)) (0 : Int32).toNatClampNeg (0 : Int32).toNatClampNeg (if p2 < (nI yn) then p2 else (nI yn)).toNatClampNeg)))] H := hP
    have hD : va_D A [(y0, .inl (G.2 2, yn, .inl yf)), (q_1, .inl (G.2 2, p2.toNatClampNeg, .inl (va_cpy yf (fun _ => (0 : Int32)) (0 : Int32).toNatClampNeg (0 : Int32).toNatClampNeg (if p2 < (nI yn) then p2 else (nI yn)).toNatClampNeg)))] := hD
    refine lv_aload_n hx hb dJ7_copyOf_9075b_31 rfl (lv_at hl 0 rfl) ?_
    obtain ⟨⟨hw1, hw2⟩, h⟩ := h
    refine W.widen (k := mcb) (n := msb) hw1 hw2 ?_
    subst hQC; exact W.aret (v := .ref q_1) hx hb hr (by first | exact Or.inl ⟨_, rfl⟩ | exact Or.inr ⟨_, rfl⟩) (Or.inr ⟨_, rfl⟩) (fun t ht hW => ⟨⟨(p2.toNatClampNeg, (va_cpy yf (fun _ => (0 : Int32)) (0 : Int32).toNatClampNeg (0 : Int32).toNatClampNeg (if p2 < (nI yn) then p2 else (nI yn)).toNatClampNeg)), q_1, rfl, h, by rw [ht]; exact hP, hD⟩, hS.F ht⟩) hS.2.2 dJ7_copyOf_9075b_32
  · have h := h.2 hc
    refine lv_aload_n hx hb dJ7_copyOf_9075b_6 rfl (lv_at hl 0 rfl) ?_
    obtain ⟨hfb, h⟩ := h
    obtain ⟨⟨hq_3, hq_4⟩, h⟩ := h
    refine va_clone (D := G.1) hx hb (by rw [hml]; exact hl.1.symm) hown (hts _ q738) (hts _ q739) (hts _ q740) (hts _ q741) (hts _ q742) (hN _ n743) hK hP hD hS hA 0 2 rfl rfl (hK.2 2 _ rfl).2 (fitsB hfb) (Nat.le_of_ble_eq_true rfl) (Nat.le_of_ble_eq_true rfl) hq_3 hq_4 dJ7_copyOf_9075b_7 (fun q_2 H hK2 hP hD hS => ?_)
    have hP : PP G [(y0, .inl (G.2 2, yn, .inl yf)), (q_2, .inl (G.2 2, yn, .inl yf))] H := hP
    have hD : va_D A [(y0, .inl (G.2 2, yn, .inl yf)), (q_2, .inl (G.2 2, yn, .inl yf))] := hD
    refine va_castA (D := G.1) (cl := vwCl) hx hb hown (hts _ q744) hP 1 rfl (hK.2 2 _ rfl).2 dJ7_copyOf_9075b_10 ?_
    obtain ⟨⟨hw1, hw2⟩, h⟩ := h
    refine W.widen (k := mcb) (n := msb) hw1 hw2 ?_
    subst hQC; exact W.aret (v := .ref q_2) hx hb hr (by first | exact Or.inl ⟨_, rfl⟩ | exact Or.inr ⟨_, rfl⟩) (Or.inr ⟨_, rfl⟩) (fun t ht hW => ⟨⟨(yn, yf), q_2, rfl, h, by rw [ht]; exact hP, hD⟩, hS.F ht⟩) hS.2.2 dJ7_copyOf_9075b_13
theorem dJ5_ensureCapacityInternal_d00df_0 : decode cJ5_ensureCapacityInternal_d00df 0 = .ok (.aload_n 0, 1) := by decide +kernel
theorem dJ5_ensureCapacityInternal_d00df_1 : decode cJ5_ensureCapacityInternal_d00df 1 = .ok (.getfield 15, 3) := by decide +kernel
theorem dJ5_ensureCapacityInternal_d00df_4 : decode cJ5_ensureCapacityInternal_d00df 4 = .ok (.arraylength, 1) := by decide +kernel
theorem dJ5_ensureCapacityInternal_d00df_5 : decode cJ5_ensureCapacityInternal_d00df 5 = .ok (.aload_n 0, 1) := by decide +kernel
theorem dJ5_ensureCapacityInternal_d00df_6 : decode cJ5_ensureCapacityInternal_d00df 6 = .ok (.getfield 22, 3) := by decide +kernel
theorem dJ5_ensureCapacityInternal_d00df_9 : decode cJ5_ensureCapacityInternal_d00df 9 = .ok (.ishr, 1) := by decide +kernel
theorem dJ5_ensureCapacityInternal_d00df_10 : decode cJ5_ensureCapacityInternal_d00df 10 = .ok (.istore_n 2, 1) := by decide +kernel
theorem dJ5_ensureCapacityInternal_d00df_11 : decode cJ5_ensureCapacityInternal_d00df 11 = .ok (.iload_n 1, 1) := by decide +kernel
theorem dJ5_ensureCapacityInternal_d00df_12 : decode cJ5_ensureCapacityInternal_d00df 12 = .ok (.iload_n 2, 1) := by decide +kernel
theorem dJ5_ensureCapacityInternal_d00df_13 : decode cJ5_ensureCapacityInternal_d00df 13 = .ok (.isub, 1) := by decide +kernel
theorem dJ5_ensureCapacityInternal_d00df_14 : decode cJ5_ensureCapacityInternal_d00df 14 = .ok (.ifCond .le 24, 3) := by decide +kernel
theorem dJ5_ensureCapacityInternal_d00df_17 : decode cJ5_ensureCapacityInternal_d00df 17 = .ok (.aload_n 0, 1) := by decide +kernel
theorem dJ5_ensureCapacityInternal_d00df_18 : decode cJ5_ensureCapacityInternal_d00df 18 = .ok (.aload_n 0, 1) := by decide +kernel
theorem dJ5_ensureCapacityInternal_d00df_19 : decode cJ5_ensureCapacityInternal_d00df 19 = .ok (.getfield 15, 3) := by decide +kernel
theorem dJ5_ensureCapacityInternal_d00df_22 : decode cJ5_ensureCapacityInternal_d00df 22 = .ok (.aload_n 0, 1) := by decide +kernel
theorem dJ5_ensureCapacityInternal_d00df_23 : decode cJ5_ensureCapacityInternal_d00df 23 = .ok (.iload_n 1, 1) := by decide +kernel
theorem dJ5_ensureCapacityInternal_d00df_24 : decode cJ5_ensureCapacityInternal_d00df 24 = .ok (.invokevirtual 104, 3) := by decide +kernel
theorem dJ5_ensureCapacityInternal_d00df_27 : decode cJ5_ensureCapacityInternal_d00df 27 = .ok (.aload_n 0, 1) := by decide +kernel
theorem dJ5_ensureCapacityInternal_d00df_28 : decode cJ5_ensureCapacityInternal_d00df 28 = .ok (.getfield 22, 3) := by decide +kernel
theorem dJ5_ensureCapacityInternal_d00df_31 : decode cJ5_ensureCapacityInternal_d00df 31 = .ok (.ishl, 1) := by decide +kernel
theorem dJ5_ensureCapacityInternal_d00df_32 : decode cJ5_ensureCapacityInternal_d00df 32 = .ok (.invokestatic 108, 3) := by decide +kernel
theorem dJ5_ensureCapacityInternal_d00df_35 : decode cJ5_ensureCapacityInternal_d00df 35 = .ok (.putfield 15, 3) := by decide +kernel
theorem dJ5_ensureCapacityInternal_d00df_38 : decode cJ5_ensureCapacityInternal_d00df 38 = .ok (.return_, 1) := by decide +kernel
def wnJ5_ensureCapacityInternal_d00df (post : Nat × (Nat → Int32) → Prop) (wn : Nat) (wf : Nat → Int32) (mcb : Nat) (msb : Nat) (p1 : Int32) : Prop :=
  (((p1 - ((nI wn) >>> ((0 : Int32) &&& 31))) ≤ 0) →
    post (wn, wf)
  ) ∧ (¬ ((p1 - ((nI wn) >>> ((0 : Int32) &&& 31))) ≤ 0) →
    wnJ5_newCapacity_0f7a4 (fun r_1 : Int32 =>
      ∃ b_1 b_2 : Nat,
      ((0 + b_1) ≤ mcb ∧ (0 + b_2) ≤ msb) ∧
      wnJ7_copyOf_9075b (fun (z_1 : Nat × (Nat → Int32)) =>
        ((0 + b_1) ≤ mcb ∧ (0 + b_2) ≤ msb) ∧
        post (z_1.1, z_1.2)
        ) wn wf b_1 b_2 (r_1 <<< ((0 : Int32) &&& 31))
      ) wn p1
  )
abbrev wl_nJ5_ensureCapacityInternal_d00df : List Cond := .code yJ5_ensureCapacityInternal_d00df cJ5_ensureCapacityInternal_d00df 3 none :: lwg
abbrev rm_nJ5_ensureCapacityInternal_d00df (mcb msb : Nat) : Room := { frames := 3, cells := mcb, slots := msb, locals := 86 }
set_option maxHeartbeats 4000000 in
set_option maxRecDepth 100000 in
theorem knJ5_ensureCapacityInternal_d00df {post : Nat × (Nat → Int32) → Prop} (l : Launch) (G : GT) (wb : Nat) (wv : Nat) (wc : Int32) (wn : Nat) (wf : Nat → Int32) (mcb : Nat) (msb : Nat) (p1 : Int32) (sz : Nat) (h : wnJ5_ensureCapacityInternal_d00df post wn wf mcb msb p1) : Met l yJ5_ensureCapacityInternal_d00df wl_nJ5_ensureCapacityInternal_d00df (rm_nJ5_ensureCapacityInternal_d00df mcb msb) (va_Pc [.ref wb, .int p1] (fun U => U.heap.size = sz ∧ PP G [(wb, .inr (1, [.ref wv, .int (0 : Int32), .int (0 : Int32), .int wc])), (wv, .inl (G.2 2, wn, .inl wf))] U.heap ∧ KK G U ∧ va_D (fun _ => True) [(wb, .inr (1, [.ref wv, .int (0 : Int32), .int (0 : Int32), .int wc])), (wv, .inl (G.2 2, wn, .inl wf))])) (va_Qv post (fun u t => ∃ wvE : Nat, PP G [(wb, .inr (1, [.ref wvE, .int (0 : Int32), .int (0 : Int32), .int wc])), (wvE, .inl (G.2 2, u.1, .inl (u.2)))] t.heap ∧ va_D (va_A [(wb, .inr (1, [.ref wv, .int (0 : Int32), .int (0 : Int32), .int wc])), (wv, .inl (G.2 2, wn, .inl wf))] sz) [(wb, .inr (1, [.ref wvE, .int (0 : Int32), .int (0 : Int32), .int wc])), (wvE, .inl (G.2 2, u.1, .inl (u.2)))]) (va_A [(wb, .inr (1, [.ref wv, .int (0 : Int32), .int (0 : Int32), .int wc])), (wv, .inl (G.2 2, wn, .inl wf))] sz)) mcb msb (va_A [(wb, .inr (1, [.ref wv, .int (0 : Int32), .int (0 : Int32), .int wc])), (wv, .inl (G.2 2, wn, .inl wf))] sz) := by
  refine Met.ofW (cc := cJ5_ensureCapacityInternal_d00df) (maxL := 3) (ret := none) (by decide) rfl ?_
  intro p e s m args below meth c s₁ B hml hv
  obtain ⟨rfl, hsz, hP, hKK, hD0⟩ := hv
  obtain ⟨hK, hN, hR, hFW, hNC⟩ := id hKK
  have hx := B.exec
  have hb := B.bytes
  have hr := B.returns
  have hts0 := atoms_spec (ws := wl_nJ5_ensureCapacityInternal_d00df) B.pre
  have hts : ∀ w ∈ lwg, w.before ([.ref wb, .int p1] : List Value).toArray s = true := fun w hw => hts0 w (List.mem_cons_of_mem _ hw)
  have hown : s.vm.findClass RJ5 = some m.cls := findClass_of_methodNamed B.named
  have hlocks := B.notSynchronized
  subst hsz
  have hD := hD0.self (sz := s.heap.size)
  generalize hAe : va_A [(wb, .inr (1, [.ref wv, .int (0 : Int32), .int (0 : Int32), .int wc])), (wv, .inl (G.2 2, wn, .inl wf))] s.heap.size = A at hD ⊢
  have hA : ∀ q : Nat, s.heap.size ≤ q → A q := fun q h => by rw [← hAe]; exact Or.inr h
  have hS : va_S A s.heap s.heap [] := va_S.rf
  obtain ⟨QC, hQC⟩ : ∃ Z, Z = (va_Qv post (fun u t => ∃ wvE : Nat, PP G [(wb, .inr (1, [.ref wvE, .int (0 : Int32), .int (0 : Int32), .int wc])), (wvE, .inl (G.2 2, u.1, .inl (u.2)))] t.heap ∧ va_D A [(wb, .inr (1, [.ref wvE, .int (0 : Int32), .int (0 : Int32), .int wc])), (wvE, .inl (G.2 2, u.1, .inl (u.2)))]) A) := ⟨_, rfl⟩
  rw [← hQC]
  have hP : PP G [(wb, .inr (1, [.ref wv, .int (0 : Int32), .int (0 : Int32), .int wc])), (wv, .inl (G.2 2, wn, .inl wf))] s.heap := hP
  have hl := lv_entry ([.ref wb, .int p1]) (n := 3) (Nat.le_of_ble_eq_true rfl)
  rw [lg_entry_eq]
  generalize (lg_sl ([.ref wb, .int p1]) ++ List.replicate (3 - (lg_sl ([.ref wb, .int p1])).length) Slot.unset).toArray = ls at hl ⊢
  have hl : lv_has ls 3 [(0, .ref wb), (1, .int p1)] := hl
  refine lv_aload_n hx hb dJ5_ensureCapacityInternal_d00df_0 rfl (lv_at hl 0 rfl) ?_
  refine va_get (D := G.1) (ci := 1) (v := .ref wv) (C := RJ4) (T := TJ4) (N := 4) hx hb hts igJ4 hown hK hP 0 rfl rfl 0 (by decide) (hts _ q692) (fun _ h9 => h9) rfl dJ5_ensureCapacityInternal_d00df_1 ?_
  refine va_alen (D := G.1) (v := (nI wn)) hx hb hK hP 1 2 rfl rfl rfl dJ5_ensureCapacityInternal_d00df_4 ?_
  refine lv_aload_n hx hb dJ5_ensureCapacityInternal_d00df_5 rfl (lv_at hl 0 rfl) ?_
  refine va_get (D := G.1) (ci := 1) (v := .int (0 : Int32)) (C := RJ4) (T := TJ4) (N := 4) hx hb hts igJ4 hown hK hP 0 rfl rfl 1 (by decide) (hts _ q693) (fun _ h9 => h9) rfl dJ5_ensureCapacityInternal_d00df_6 ?_
  refine lv_ishr hx hb dJ5_ensureCapacityInternal_d00df_9 ?_
  refine lv_istore_n hx hb dJ5_ensureCapacityInternal_d00df_10 rfl hl (Nat.le_of_ble_eq_true rfl) rfl (fun ls hl => ?_)
  have hl : lv_has ls 3 [(2, .int ((nI wn) >>> ((0 : Int32) &&& 31))), (0, .ref wb), (1, .int p1)] := hl
  refine lv_iload_n hx hb dJ5_ensureCapacityInternal_d00df_11 rfl (lv_at hl 2 rfl) ?_
  refine lv_iload_n hx hb dJ5_ensureCapacityInternal_d00df_12 rfl (lv_at hl 0 rfl) ?_
  refine lv_isub hx hb dJ5_ensureCapacityInternal_d00df_13 ?_
  refine lv_if_le (tgt := 38) hx hb dJ5_ensureCapacityInternal_d00df_14 (by decide) (fun hc => ?_) (fun hc => ?_)
  · have h := h.1 hc
    refine W.widen (k := mcb) (n := msb) (Nat.zero_le _) (Nat.zero_le _) ?_
    subst hQC; exact W.vret hx hb hr (fun t ht hW => ⟨⟨(wn, wf), rfl, h, wv, by rw [ht]; exact hP, hD⟩, hS.F ht⟩) hS.2.2 dJ5_ensureCapacityInternal_d00df_38
  · have h := h.2 hc
    refine lv_aload_n hx hb dJ5_ensureCapacityInternal_d00df_17 rfl (lv_at hl 1 rfl) ?_
    refine lv_aload_n hx hb dJ5_ensureCapacityInternal_d00df_18 rfl (lv_at hl 1 rfl) ?_
    refine va_get (D := G.1) (ci := 1) (v := .ref wv) (C := RJ4) (T := TJ4) (N := 4) hx hb hts igJ4 hown hK hP 0 rfl rfl 0 (by decide) (hts _ q692) (fun _ h9 => h9) rfl dJ5_ensureCapacityInternal_d00df_19 ?_
    refine lv_aload_n hx hb dJ5_ensureCapacityInternal_d00df_22 rfl (lv_at hl 1 rfl) ?_
    refine lv_iload_n hx hb dJ5_ensureCapacityInternal_d00df_23 rfl (lv_at hl 2 rfl) ?_
    have hPc := hP
    refine rdI (va_runU (C := RJ4) (As := [.int p1]) (rest := [.ref wv, .ref wb]) ⟨hx, hb, hml, hown, hts⟩ (knJ5_newCapacity_0f7a4 l G wb wv wc wn wf p1 h) (va_cwU 1 hts (gdU q722 q1445 qu1 q724 q24 q725) rfl rfl rfl rfl (by decide +kernel) ⟨Nat.le_of_ble_eq_true rfl, Nat.le_of_ble_eq_true rfl⟩) (preV hPc hKK (va_recv hK hPc (ci := 1) (q0 := 0) rfl rfl)) rfl rfl hl.1 rfl (lv_room (Nat.le_of_ble_eq_true rfl)) dJ5_ensureCapacityInternal_d00df_24 ⟨Nat.zero_le _, Nat.zero_le _⟩) (fun r_1 h => ?_)
    refine lv_aload_n hx hb dJ5_ensureCapacityInternal_d00df_27 rfl (lv_at hl 1 rfl) ?_
    refine va_get (D := G.1) (ci := 1) (v := .int (0 : Int32)) (C := RJ4) (T := TJ4) (N := 4) hx hb hts igJ4 hown hK hP 0 rfl rfl 1 (by decide) (hts _ q693) (fun _ h9 => h9) rfl dJ5_ensureCapacityInternal_d00df_28 ?_
    refine lv_ishl hx hb dJ5_ensureCapacityInternal_d00df_31 ?_
    obtain ⟨b_1, b_2, h⟩ := h
    obtain ⟨⟨hq_1, hq_2⟩, h⟩ := h
    have hPc := va_P.sub (ws' := [(wv, .inl (G.2 2, wn, .inl wf))]) hP [1] rfl
    have hDc := hD.sub (ws' := [(wv, .inl (G.2 2, wn, .inl wf))]) [1] (by decide) rfl
    have hFc := va_free (wc := [(wv, .inl (G.2 2, wn, .inl wf))]) hD hS hA [1] rfl
    refine va_callr (va_runS (As := [.ref wv, .int (r_1 <<< ((0 : Int32) &&& 31))]) (rest := [.ref wb]) ⟨hx, hb, hml, hown, hts⟩ (knJ7_copyOf_9075b l G wv wn wf b_1 b_2 (r_1 <<< ((0 : Int32) &&& 31)) _ h) (va_cwS 2 hts (gdS q735 q736 q20 q737) rfl rfl rfl (by decide +kernel) ⟨Nat.le_of_ble_eq_true rfl, Nat.le_of_ble_eq_true rfl⟩) (preSw hPc hKK hDc) rfl rfl hl.1 rfl (lv_room (Nat.le_of_ble_eq_true rfl)) dJ5_ensureCapacityInternal_d00df_32 ⟨hq_1, hq_2⟩) hS (fun q _ h => hFc q h) hFc (fun u ra t H1 locs ht hvm h hB hz1 hk1 hS => ?_)
    obtain ⟨c_1, c_2⟩ := u
    obtain ⟨na_1, rfl⟩ : ∃ z, z = ra := ⟨_, rfl⟩
    obtain ⟨hP1, hD1⟩ := hB
    rw [ht] at hP1
    obtain ⟨hP, hD⟩ := va_join (wr := [(wb, .inr (1, [.ref wv, .int (0 : Int32), .int (0 : Int32), .int wc]))]) (w1 := [(wv, .inl (G.2 2, wn, .inl wf)), (na_1, .inl (G.2 2, c_1, .inl c_2))]) hP hD [1] [0] rfl rfl (by decide) (by decide) hk1 hFc hP1 hD1
    generalize H1 = H at hP hS ⊢
    have hP : PP G [(wb, .inr (1, [.ref wv, .int (0 : Int32), .int (0 : Int32), .int wc])), (wv, .inl (G.2 2, wn, .inl wf)), (na_1, .inl (G.2 2, c_1, .inl c_2))] H := va_P.sub hP [0, 1, 2] rfl
    have hD : va_D A [(wb, .inr (1, [.ref wv, .int (0 : Int32), .int (0 : Int32), .int wc])), (wv, .inl (G.2 2, wn, .inl wf)), (na_1, .inl (G.2 2, c_1, .inl c_2))] := hD.sub [0, 1, 2] (by decide) rfl
    refine va_put (D := G.1) (ci := 1) (v := .ref na_1) (ty := .array .byte) (C := RJ4) (T := TJ4) (N := 4) hx hb hts igJ4 tyJ4 tyJ4_ok nmJ4 hown hK hP hD hS 0 rfl rfl 0 (by decide) (hts _ q692) (fun _ h9 => h9) rfl (by decide +kernel) rfl rfl (Nat.le_of_ble_eq_true rfl) dJ5_ensureCapacityInternal_d00df_35 (fun H locs hP hD hS => ?_)
    have hP : PP G [(wb, .inr (1, [.ref na_1, .int (0 : Int32), .int (0 : Int32), .int wc])), (wv, .inl (G.2 2, wn, .inl wf)), (na_1, .inl (G.2 2, c_1, .inl c_2))] H := hP
    have hD : va_D A [(wb, .inr (1, [.ref na_1, .int (0 : Int32), .int (0 : Int32), .int wc])), (wv, .inl (G.2 2, wn, .inl wf)), (na_1, .inl (G.2 2, c_1, .inl c_2))] := hD
    obtain ⟨⟨hw1, hw2⟩, h⟩ := h
    refine W.widen (k := mcb) (n := msb) hw1 hw2 ?_
    have hP : PP G [(wb, .inr (1, [.ref na_1, .int (0 : Int32), .int (0 : Int32), .int wc])), (na_1, .inl (G.2 2, c_1, .inl c_2))] _ := hP.sub [0, 2] rfl
    have hD : va_D A [(wb, .inr (1, [.ref na_1, .int (0 : Int32), .int (0 : Int32), .int wc])), (na_1, .inl (G.2 2, c_1, .inl c_2))] := hD.sub [0, 2] (by decide) rfl
    subst hQC; exact W.vret hx hb hr (fun t ht hW => ⟨⟨(c_1, c_2), rfl, h, na_1, by rw [ht]; exact hP, hD⟩, hS.F ht⟩) hS.2.2 dJ5_ensureCapacityInternal_d00df_38
theorem dJ5_append_3fe6f_0 : decode cJ5_append_3fe6f 0 = .ok (.aload_n 0, 1) := by decide +kernel
theorem dJ5_append_3fe6f_1 : decode cJ5_append_3fe6f 1 = .ok (.aload_n 0, 1) := by decide +kernel
theorem dJ5_append_3fe6f_2 : decode cJ5_append_3fe6f 2 = .ok (.getfield 79, 3) := by decide +kernel
theorem dJ5_append_3fe6f_5 : decode cJ5_append_3fe6f 5 = .ok (.iconst 1, 1) := by decide +kernel
theorem dJ5_append_3fe6f_6 : decode cJ5_append_3fe6f 6 = .ok (.iadd, 1) := by decide +kernel
theorem dJ5_append_3fe6f_7 : decode cJ5_append_3fe6f 7 = .ok (.invokevirtual 100, 3) := by decide +kernel
theorem dJ5_append_3fe6f_10 : decode cJ5_append_3fe6f 10 = .ok (.aload_n 0, 1) := by decide +kernel
theorem dJ5_append_3fe6f_11 : decode cJ5_append_3fe6f 11 = .ok (.invokevirtual 83, 3) := by decide +kernel
theorem dJ5_append_3fe6f_14 : decode cJ5_append_3fe6f 14 = .ok (.ifCond .eq 31, 3) := by decide +kernel
theorem dJ5_append_3fe6f_17 : decode cJ5_append_3fe6f 17 = .ok (.iload_n 1, 1) := by decide +kernel
theorem dJ5_append_3fe6f_18 : decode cJ5_append_3fe6f 18 = .ok (.invokestatic 191, 3) := by decide +kernel
theorem dJ5_append_3fe6f_21 : decode cJ5_append_3fe6f 21 = .ok (.ifCond .eq 24, 3) := by decide +kernel
theorem dJ5_append_3fe6f_24 : decode cJ5_append_3fe6f 24 = .ok (.aload_n 0, 1) := by decide +kernel
theorem dJ5_append_3fe6f_25 : decode cJ5_append_3fe6f 25 = .ok (.getfield 15, 3) := by decide +kernel
theorem dJ5_append_3fe6f_28 : decode cJ5_append_3fe6f 28 = .ok (.aload_n 0, 1) := by decide +kernel
theorem dJ5_append_3fe6f_29 : decode cJ5_append_3fe6f 29 = .ok (.dup, 1) := by decide +kernel
theorem dJ5_append_3fe6f_30 : decode cJ5_append_3fe6f 30 = .ok (.getfield 79, 3) := by decide +kernel
theorem dJ5_append_3fe6f_33 : decode cJ5_append_3fe6f 33 = .ok (.dup_x1, 1) := by decide +kernel
theorem dJ5_append_3fe6f_34 : decode cJ5_append_3fe6f 34 = .ok (.iconst 1, 1) := by decide +kernel
theorem dJ5_append_3fe6f_35 : decode cJ5_append_3fe6f 35 = .ok (.iadd, 1) := by decide +kernel
theorem dJ5_append_3fe6f_36 : decode cJ5_append_3fe6f 36 = .ok (.putfield 79, 3) := by decide +kernel
theorem dJ5_append_3fe6f_39 : decode cJ5_append_3fe6f 39 = .ok (.iload_n 1, 1) := by decide +kernel
theorem dJ5_append_3fe6f_40 : decode cJ5_append_3fe6f 40 = .ok (.i2b, 1) := by decide +kernel
theorem dJ5_append_3fe6f_41 : decode cJ5_append_3fe6f 41 = .ok (.bastore, 1) := by decide +kernel
theorem dJ5_append_3fe6f_42 : decode cJ5_append_3fe6f 42 = .ok (.goto 33, 3) := by decide +kernel
theorem dJ5_append_3fe6f_45 : decode cJ5_append_3fe6f 45 = .ok (.aload_n 0, 1) := by decide +kernel
theorem dJ5_append_3fe6f_46 : decode cJ5_append_3fe6f 46 = .ok (.invokevirtual 83, 3) := by decide +kernel
theorem dJ5_append_3fe6f_49 : decode cJ5_append_3fe6f 49 = .ok (.ifCond .eq 7, 3) := by decide +kernel
theorem dJ5_append_3fe6f_52 : decode cJ5_append_3fe6f 52 = .ok (.aload_n 0, 1) := by decide +kernel
theorem dJ5_append_3fe6f_53 : decode cJ5_append_3fe6f 53 = .ok (.invokevirtual 195, 3) := by decide +kernel
theorem dJ5_append_3fe6f_56 : decode cJ5_append_3fe6f 56 = .ok (.aload_n 0, 1) := by decide +kernel
theorem dJ5_append_3fe6f_57 : decode cJ5_append_3fe6f 57 = .ok (.getfield 15, 3) := by decide +kernel
theorem dJ5_append_3fe6f_60 : decode cJ5_append_3fe6f 60 = .ok (.aload_n 0, 1) := by decide +kernel
theorem dJ5_append_3fe6f_61 : decode cJ5_append_3fe6f 61 = .ok (.dup, 1) := by decide +kernel
theorem dJ5_append_3fe6f_62 : decode cJ5_append_3fe6f 62 = .ok (.getfield 79, 3) := by decide +kernel
theorem dJ5_append_3fe6f_65 : decode cJ5_append_3fe6f 65 = .ok (.dup_x1, 1) := by decide +kernel
theorem dJ5_append_3fe6f_66 : decode cJ5_append_3fe6f 66 = .ok (.iconst 1, 1) := by decide +kernel
theorem dJ5_append_3fe6f_67 : decode cJ5_append_3fe6f 67 = .ok (.iadd, 1) := by decide +kernel
theorem dJ5_append_3fe6f_68 : decode cJ5_append_3fe6f 68 = .ok (.putfield 79, 3) := by decide +kernel
theorem dJ5_append_3fe6f_71 : decode cJ5_append_3fe6f 71 = .ok (.iload_n 1, 1) := by decide +kernel
theorem dJ5_append_3fe6f_72 : decode cJ5_append_3fe6f 72 = .ok (.invokestatic 197, 3) := by decide +kernel
theorem dJ5_append_3fe6f_75 : decode cJ5_append_3fe6f 75 = .ok (.aload_n 0, 1) := by decide +kernel
theorem dJ5_append_3fe6f_76 : decode cJ5_append_3fe6f 76 = .ok (.areturn, 1) := by decide +kernel
def wnJ5_append_3fe6f (post : Int32 × Nat × (Nat → Int32) → Prop) (wc : Int32) (wn : Nat) (wf : Nat → Int32) (mcb : Nat) (msb : Nat) (p1 : Int32) : Prop :=
  ∃ b_1 b_2 : Nat,
  ((0 + b_1) ≤ mcb ∧ (0 + b_2) ≤ msb) ∧
  wnJ5_ensureCapacityInternal_d00df (fun (z_1 : Nat × (Nat → Int32)) =>
    wJ1_canEncode_fc78d (fun r_3 : Int32 =>
      ((r_3 = 0) →
        False
      ) ∧ (¬ (r_3 = 0) →
        vp_in wc z_1.1 ∧
        ((0 + b_1) ≤ mcb ∧ (0 + b_2) ≤ msb) ∧
        post ((wc + (1 : Int32)), z_1.1, (upd z_1.2 wc.toNatClampNeg (vp_nar .byte (p1.toInt8.toInt32))))
      )
      ) p1
    ) wn wf b_1 b_2 (wc + (1 : Int32))
abbrev wl_nJ5_append_3fe6f : List Cond := .code yJ5_append_3fe6f cJ5_append_3fe6f 2 (some (.object "java/lang/AbstractStringBuilder")) :: lwg
abbrev rm_nJ5_append_3fe6f (mcb msb : Nat) : Room := { frames := 4, cells := mcb, slots := msb, locals := 108 }
set_option maxHeartbeats 4000000 in
set_option maxRecDepth 100000 in
theorem knJ5_append_3fe6f {post : Int32 × Nat × (Nat → Int32) → Prop} (l : Launch) (G : GT) (wb : Nat) (wv : Nat) (wc : Int32) (wn : Nat) (wf : Nat → Int32) (mcb : Nat) (msb : Nat) (p1 : Int32) (sz : Nat) (h : wnJ5_append_3fe6f post wc wn wf mcb msb p1) : Met l yJ5_append_3fe6f wl_nJ5_append_3fe6f (rm_nJ5_append_3fe6f mcb msb) (va_Pc [.ref wb, .int p1] (fun U => U.heap.size = sz ∧ PP G [(wb, .inr (1, [.ref wv, .int (0 : Int32), .int (0 : Int32), .int wc])), (wv, .inl (G.2 2, wn, .inl wf))] U.heap ∧ KK G U ∧ va_D (fun _ => True) [(wb, .inr (1, [.ref wv, .int (0 : Int32), .int (0 : Int32), .int wc])), (wv, .inl (G.2 2, wn, .inl wf))] ∧ JJ G (va_A [(wb, .inr (1, [.ref wv, .int (0 : Int32), .int (0 : Int32), .int wc])), (wv, .inl (G.2 2, wn, .inl wf))] sz) U U.heap)) (va_Qr post (fun u ra t => ra = wb ∧ ∃ wvE : Nat, PP G [(wb, .inr (1, [.ref wvE, .int (0 : Int32), .int (0 : Int32), .int (u.1)])), (wvE, .inl (G.2 2, u.2.1, .inl (u.2.2)))] t.heap ∧ va_D (va_A [(wb, .inr (1, [.ref wv, .int (0 : Int32), .int (0 : Int32), .int wc])), (wv, .inl (G.2 2, wn, .inl wf))] sz) [(wb, .inr (1, [.ref wvE, .int (0 : Int32), .int (0 : Int32), .int (u.1)])), (wvE, .inl (G.2 2, u.2.1, .inl (u.2.2)))]) (va_A [(wb, .inr (1, [.ref wv, .int (0 : Int32), .int (0 : Int32), .int wc])), (wv, .inl (G.2 2, wn, .inl wf))] sz)) mcb msb (va_A [(wb, .inr (1, [.ref wv, .int (0 : Int32), .int (0 : Int32), .int wc])), (wv, .inl (G.2 2, wn, .inl wf))] sz) := by
  refine Met.ofW (cc := cJ5_append_3fe6f) (maxL := 2) (ret := (some (.object "java/lang/AbstractStringBuilder"))) (by decide) rfl ?_
  intro p e s m args below meth c s₁ B hml hv
  obtain ⟨rfl, hsz, hP, hKK, hD0, hJ⟩ := hv
  obtain ⟨hK, hN, hR, hFW, hNC⟩ := id hKK
  have hx := B.exec
  have hb := B.bytes
  have hr := B.returns
  have hts0 := atoms_spec (ws := wl_nJ5_append_3fe6f) B.pre
  have hts : ∀ w ∈ lwg, w.before ([.ref wb, .int p1] : List Value).toArray s = true := fun w hw => hts0 w (List.mem_cons_of_mem _ hw)
  have hown : s.vm.findClass RJ5 = some m.cls := findClass_of_methodNamed B.named
  have hlocks := B.notSynchronized
  subst hsz
  have hD := hD0.self (sz := s.heap.size)
  generalize hAe : va_A [(wb, .inr (1, [.ref wv, .int (0 : Int32), .int (0 : Int32), .int wc])), (wv, .inl (G.2 2, wn, .inl wf))] s.heap.size = A at hD hJ ⊢
  have hA : ∀ q : Nat, s.heap.size ≤ q → A q := fun q h => by rw [← hAe]; exact Or.inr h
  have hS : va_S A s.heap s.heap [] := va_S.rf
  obtain ⟨QC, hQC⟩ : ∃ Z, Z = (va_Qr post (fun u ra t => ra = wb ∧ ∃ wvE : Nat, PP G [(wb, .inr (1, [.ref wvE, .int (0 : Int32), .int (0 : Int32), .int (u.1)])), (wvE, .inl (G.2 2, u.2.1, .inl (u.2.2)))] t.heap ∧ va_D A [(wb, .inr (1, [.ref wvE, .int (0 : Int32), .int (0 : Int32), .int (u.1)])), (wvE, .inl (G.2 2, u.2.1, .inl (u.2.2)))]) A) := ⟨_, rfl⟩
  rw [← hQC]
  obtain ⟨jE, hjE⟩ := hJ.2.1
  obtain ⟨jT, hjT1, hjT2⟩ := hJ.2.2.1
  obtain ⟨jO, hjO1, hjO2⟩ := hJ.2.2.2.1
  obtain ⟨jS, hjS⟩ := hJ.2.2.2.2.1
  have hP : PP G [(wb, .inr (1, [.ref wv, .int (0 : Int32), .int (0 : Int32), .int wc])), (wv, .inl (G.2 2, wn, .inl wf))] s.heap := hP
  have hl := lv_entry ([.ref wb, .int p1]) (n := 2) (Nat.le_of_ble_eq_true rfl)
  rw [lg_entry_eq]
  generalize (lg_sl ([.ref wb, .int p1]) ++ List.replicate (2 - (lg_sl ([.ref wb, .int p1])).length) Slot.unset).toArray = ls at hl ⊢
  have hl : lv_has ls 2 [(0, .ref wb), (1, .int p1)] := hl
  refine lv_aload_n hx hb dJ5_append_3fe6f_0 rfl (lv_at hl 0 rfl) ?_
  refine lv_aload_n hx hb dJ5_append_3fe6f_1 rfl (lv_at hl 0 rfl) ?_
  refine va_get (D := G.1) (ci := 1) (v := .int wc) (C := RJ4) (T := TJ4) (N := 4) hx hb hts igJ4 hown hK hP 0 rfl rfl 3 (by decide) (hts _ q695) (fun _ h9 => h9) rfl dJ5_append_3fe6f_2 ?_
  refine lv_iconst (v := 1) hx hb dJ5_append_3fe6f_5 (by decide) ?_
  refine lv_iadd hx hb dJ5_append_3fe6f_6 ?_
  obtain ⟨b_1, b_2, h⟩ := h
  obtain ⟨⟨hq_1, hq_2⟩, h⟩ := h
  have hPc := hP
  have hDc := hD.sub (ws' := [(wb, .inr (1, [.ref wv, .int (0 : Int32), .int (0 : Int32), .int wc])), (wv, .inl (G.2 2, wn, .inl wf))]) [0, 1] (by decide) rfl
  have hFc := va_free (wc := [(wb, .inr (1, [.ref wv, .int (0 : Int32), .int (0 : Int32), .int wc])), (wv, .inl (G.2 2, wn, .inl wf))]) hD hS hA [0, 1] rfl
  refine va_callv (va_runU (C := RJ4) (As := [.int (wc + (1 : Int32))]) (rest := []) ⟨hx, hb, hml, hown, hts⟩ (knJ5_ensureCapacityInternal_d00df l G wb wv wc wn wf b_1 b_2 (wc + (1 : Int32)) _ h) (va_cwU 1 hts (gdU q718 q1444 qu0 q720 q24 q721) rfl rfl rfl rfl (by decide +kernel) ⟨Nat.le_of_ble_eq_true rfl, Nat.le_of_ble_eq_true rfl⟩) (preVw hPc hKK hDc (va_recv hK hPc (ci := 1) (q0 := 0) rfl rfl)) rfl rfl hl.1 rfl (lv_room (Nat.le_of_ble_eq_true rfl)) dJ5_append_3fe6f_7 ⟨hq_1, hq_2⟩) hS (fun q _ h => hFc q h) hFc (fun u t H1 locs ht hvm h hB hz1 hk1 hS => ?_)
  obtain ⟨wn_1, wf_1⟩ := u
  obtain ⟨wv_1, hB⟩ := hB
  obtain ⟨hP1, hD1⟩ := hB
  rw [ht] at hP1
  have hP := hP1
  have hD : va_D A [(wb, .inr (1, [.ref wv_1, .int (0 : Int32), .int (0 : Int32), .int wc])), (wv_1, .inl (G.2 2, wn_1, .inl wf_1))] := hD1.weaken (fun _ _ _ h => hFc _ h)
  generalize H1 = H at hP hS ⊢
  have hP : PP G [(wb, .inr (1, [.ref wv_1, .int (0 : Int32), .int (0 : Int32), .int wc])), (wv_1, .inl (G.2 2, wn_1, .inl wf_1))] H := hP
  refine lv_aload_n hx hb dJ5_append_3fe6f_10 rfl (lv_at hl 0 rfl) ?_
  have hPc := va_P.sub (ws' := [(wb, .inr (1, [.ref wv_1, .int (0 : Int32), .int (0 : Int32), .int wc]))]) hP [0] rfl
  have hJc : JJ G (fun _ => False) s _ := (hJ.kept hS.2.1).narrow (fun _ h => False.elim h)
  refine rdI (va_runU (C := RJ4) (As := []) (rest := []) ⟨hx, hb, hml, hown, hts⟩ (kJ5_isLatin1_aae02 (post := fun r => r = (1 : Int32)) l G wb wv_1 wc rfl) (va_cwU 0 hts (gdU q749 q751 q752 q750 q24 q753) rfl rfl rfl rfl (by decide +kernel) ⟨Nat.le_of_ble_eq_true rfl, Nat.le_of_ble_eq_true rfl⟩) (preVj hPc hKK hJc (va_recv hK hPc (ci := 1) (q0 := 0) rfl rfl)) rfl rfl hl.1 rfl (lv_room (Nat.le_of_ble_eq_true rfl)) dJ5_append_3fe6f_11 ⟨(by exact Nat.le_trans (Nat.le_of_eq (Nat.add_zero _)) hq_1), (by exact Nat.le_trans (Nat.le_of_eq (Nat.add_zero _)) hq_2)⟩) (fun r_2 er => ?_)
  subst er
  refine lv_if_eq (tgt := 45) hx hb dJ5_append_3fe6f_14 (by decide) (fun hc => absurd hc (by decide)) (fun _ => ?_)
  refine lv_iload_n hx hb dJ5_append_3fe6f_17 rfl (lv_at hl 1 rfl) ?_
  have hPc := va_P.sub (ws' := []) hP [] rfl
  refine rdI (va_runS (As := [.int p1]) (rest := []) ⟨hx, hb, hml, hown, hts⟩ (kJ1_canEncode_fc78d l G p1 h) (va_cwS 1 hts (gdS q754 q755 q28 q756) rfl rfl rfl (by decide +kernel) ⟨Nat.le_of_ble_eq_true rfl, Nat.le_of_ble_eq_true rfl⟩) (preS hPc hKK) rfl rfl hl.1 rfl (lv_room (Nat.le_of_ble_eq_true rfl)) dJ5_append_3fe6f_18 ⟨(by exact Nat.le_trans (Nat.le_of_eq (Nat.add_zero _)) hq_1), (by exact Nat.le_trans (Nat.le_of_eq (Nat.add_zero _)) hq_2)⟩) (fun r_3 h => ?_)
  refine lv_if_eq (tgt := 45) hx hb dJ5_append_3fe6f_21 (by decide) (fun hc => ?_) (fun hc => ?_)
  · have h := h.1 hc
    refine lv_aload_n hx hb dJ5_append_3fe6f_45 rfl (lv_at hl 0 rfl) ?_
    have hPc := va_P.sub (ws' := [(wb, .inr (1, [.ref wv_1, .int (0 : Int32), .int (0 : Int32), .int wc]))]) hP [0] rfl
    have hJc : JJ G (fun _ => False) s _ := (hJ.kept hS.2.1).narrow (fun _ h => False.elim h)
    refine rdI (va_runU (C := RJ4) (As := []) (rest := []) ⟨hx, hb, hml, hown, hts⟩ (kJ5_isLatin1_aae02 (post := fun r => r = (1 : Int32)) l G wb wv_1 wc rfl) (va_cwU 0 hts (gdU q749 q751 q752 q750 q24 q753) rfl rfl rfl rfl (by decide +kernel) ⟨Nat.le_of_ble_eq_true rfl, Nat.le_of_ble_eq_true rfl⟩) (preVj hPc hKK hJc (va_recv hK hPc (ci := 1) (q0 := 0) rfl rfl)) rfl rfl hl.1 rfl (lv_room (Nat.le_of_ble_eq_true rfl)) dJ5_append_3fe6f_46 ⟨(by exact Nat.le_trans (Nat.le_of_eq (Nat.add_zero _)) hq_1), (by exact Nat.le_trans (Nat.le_of_eq (Nat.add_zero _)) hq_2)⟩) (fun r_4 er => ?_)
    subst er
    refine lv_if_eq (tgt := 56) hx hb dJ5_append_3fe6f_49 (by decide) (fun hc => absurd hc (by decide)) (fun _ => ?_)
    refine lv_aload_n hx hb dJ5_append_3fe6f_52 rfl (lv_at hl 0 rfl) ?_
    exact False.elim h
  · have h := h.2 hc
    refine lv_aload_n hx hb dJ5_append_3fe6f_24 rfl (lv_at hl 0 rfl) ?_
    refine va_get (D := G.1) (ci := 1) (v := .ref wv_1) (C := RJ4) (T := TJ4) (N := 4) hx hb hts igJ4 hown hK hP 0 rfl rfl 0 (by decide) (hts _ q692) (fun _ h9 => h9) rfl dJ5_append_3fe6f_25 ?_
    refine lv_aload_n hx hb dJ5_append_3fe6f_28 rfl (lv_at hl 0 rfl) ?_
    refine lv_dup hx hb dJ5_append_3fe6f_29 rfl ?_
    refine va_get (D := G.1) (ci := 1) (v := .int wc) (C := RJ4) (T := TJ4) (N := 4) hx hb hts igJ4 hown hK hP 0 rfl rfl 3 (by decide) (hts _ q695) (fun _ h9 => h9) rfl dJ5_append_3fe6f_30 ?_
    refine lv_dup_x1 hx hb dJ5_append_3fe6f_33 rfl rfl ?_
    refine lv_iconst (v := 1) hx hb dJ5_append_3fe6f_34 (by decide) ?_
    refine lv_iadd hx hb dJ5_append_3fe6f_35 ?_
    refine va_put (D := G.1) (ci := 1) (v := .int (wc + (1 : Int32))) (ty := .int) (C := RJ4) (T := TJ4) (N := 4) hx hb hts igJ4 tyJ4 tyJ4_ok nmJ4 hown hK hP hD hS 0 rfl rfl 3 (by decide) (hts _ q695) (fun _ h9 => h9) rfl (by decide +kernel) rfl rfl (Nat.le_of_ble_eq_true rfl) dJ5_append_3fe6f_36 (fun H locs hP hD hS => ?_)
    have hP : PP G [(wb, .inr (1, [.ref wv_1, .int (0 : Int32), .int (0 : Int32), .int (wc + (1 : Int32))])), (wv_1, .inl (G.2 2, wn_1, .inl wf_1))] H := hP
    have hD : va_D A [(wb, .inr (1, [.ref wv_1, .int (0 : Int32), .int (0 : Int32), .int (wc + (1 : Int32))])), (wv_1, .inl (G.2 2, wn_1, .inl wf_1))] := hD
    refine lv_iload_n hx hb dJ5_append_3fe6f_39 rfl (lv_at hl 1 rfl) ?_
    refine lv_i2b (v := (p1.toInt8.toInt32)) hx hb dJ5_append_3fe6f_40 rfl ?_
    obtain ⟨hin, h⟩ := h
    refine va_bast (D := G.1) hx hb hK hP hD hS 1 2 rfl rfl hin dJ5_append_3fe6f_41 (fun H locs hP hD hS => ?_)
    have hP : PP G [(wb, .inr (1, [.ref wv_1, .int (0 : Int32), .int (0 : Int32), .int (wc + (1 : Int32))])), (wv_1, .inl (G.2 2, wn_1, .inl (upd wf_1 wc.toNatClampNeg (vp_nar .byte (p1.toInt8.toInt32)))))] H := hP
    have hD : va_D A [(wb, .inr (1, [.ref wv_1, .int (0 : Int32), .int (0 : Int32), .int (wc + (1 : Int32))])), (wv_1, .inl (G.2 2, wn_1, .inl (upd wf_1 wc.toNatClampNeg (vp_nar .byte (p1.toInt8.toInt32)))))] := hD
    refine lv_goto (tgt := 75) hx hb dJ5_append_3fe6f_42 (by decide) ?_
    refine lv_aload_n hx hb dJ5_append_3fe6f_75 rfl (lv_at hl 0 rfl) ?_
    obtain ⟨⟨hw1, hw2⟩, h⟩ := h
    refine W.widen (k := mcb) (n := msb) hw1 hw2 ?_
    subst hQC; exact W.aret (v := .ref wb) hx hb hr (by first | exact Or.inl ⟨_, rfl⟩ | exact Or.inr ⟨_, rfl⟩) (Or.inr ⟨_, rfl⟩) (fun t ht hW => ⟨⟨((wc + (1 : Int32)), wn_1, (upd wf_1 wc.toNatClampNeg (vp_nar .byte (p1.toInt8.toInt32)))), wb, rfl, h, rfl, wv_1, by rw [ht]; exact hP, hD⟩, hS.F ht⟩) hS.2.2 dJ5_append_3fe6f_76
theorem dJ4_append_cf468_0 : decode cJ4_append_cf468 0 = .ok (.aload_n 0, 1) := by decide +kernel
theorem dJ4_append_cf468_1 : decode cJ4_append_cf468 1 = .ok (.iload_n 1, 1) := by decide +kernel
theorem dJ4_append_cf468_2 : decode cJ4_append_cf468 2 = .ok (.invokespecial 50, 3) := by decide +kernel
theorem dJ4_append_cf468_5 : decode cJ4_append_cf468 5 = .ok (.pop, 1) := by decide +kernel
theorem dJ4_append_cf468_6 : decode cJ4_append_cf468 6 = .ok (.aload_n 0, 1) := by decide +kernel
theorem dJ4_append_cf468_7 : decode cJ4_append_cf468 7 = .ok (.areturn, 1) := by decide +kernel
def wnJ4_append_cf468 (post : Int32 × Nat × (Nat → Int32) → Prop) (wc : Int32) (wn : Nat) (wf : Nat → Int32) (mcb : Nat) (msb : Nat) (p1 : Int32) : Prop :=
  ∃ b_1 b_2 : Nat,
  ((0 + b_1) ≤ mcb ∧ (0 + b_2) ≤ msb) ∧
  wnJ5_append_3fe6f (fun (z_1 : Int32 × Nat × (Nat → Int32)) =>
    ((0 + b_1) ≤ mcb ∧ (0 + b_2) ≤ msb) ∧
    post (z_1.1, z_1.2.1, z_1.2.2)
    ) wc wn wf b_1 b_2 p1
abbrev wl_nJ4_append_cf468 : List Cond := .code yJ4_append_cf468 cJ4_append_cf468 2 (some (.object "java/lang/StringBuilder")) :: lwg
abbrev rm_nJ4_append_cf468 (mcb msb : Nat) : Room := { frames := 5, cells := mcb, slots := msb, locals := 129 }
set_option maxHeartbeats 4000000 in
set_option maxRecDepth 100000 in
theorem knJ4_append_cf468 {post : Int32 × Nat × (Nat → Int32) → Prop} (l : Launch) (G : GT) (wb : Nat) (wv : Nat) (wc : Int32) (wn : Nat) (wf : Nat → Int32) (mcb : Nat) (msb : Nat) (p1 : Int32) (sz : Nat) (h : wnJ4_append_cf468 post wc wn wf mcb msb p1) : Met l yJ4_append_cf468 wl_nJ4_append_cf468 (rm_nJ4_append_cf468 mcb msb) (va_Pc [.ref wb, .int p1] (fun U => U.heap.size = sz ∧ PP G [(wb, .inr (1, [.ref wv, .int (0 : Int32), .int (0 : Int32), .int wc])), (wv, .inl (G.2 2, wn, .inl wf))] U.heap ∧ KK G U ∧ va_D (fun _ => True) [(wb, .inr (1, [.ref wv, .int (0 : Int32), .int (0 : Int32), .int wc])), (wv, .inl (G.2 2, wn, .inl wf))] ∧ JJ G (va_A [(wb, .inr (1, [.ref wv, .int (0 : Int32), .int (0 : Int32), .int wc])), (wv, .inl (G.2 2, wn, .inl wf))] sz) U U.heap)) (va_Qr post (fun u ra t => ra = wb ∧ ∃ wvE : Nat, PP G [(wb, .inr (1, [.ref wvE, .int (0 : Int32), .int (0 : Int32), .int (u.1)])), (wvE, .inl (G.2 2, u.2.1, .inl (u.2.2)))] t.heap ∧ va_D (va_A [(wb, .inr (1, [.ref wv, .int (0 : Int32), .int (0 : Int32), .int wc])), (wv, .inl (G.2 2, wn, .inl wf))] sz) [(wb, .inr (1, [.ref wvE, .int (0 : Int32), .int (0 : Int32), .int (u.1)])), (wvE, .inl (G.2 2, u.2.1, .inl (u.2.2)))]) (va_A [(wb, .inr (1, [.ref wv, .int (0 : Int32), .int (0 : Int32), .int wc])), (wv, .inl (G.2 2, wn, .inl wf))] sz)) mcb msb (va_A [(wb, .inr (1, [.ref wv, .int (0 : Int32), .int (0 : Int32), .int wc])), (wv, .inl (G.2 2, wn, .inl wf))] sz) := by
  refine Met.ofW (cc := cJ4_append_cf468) (maxL := 2) (ret := (some (.object "java/lang/StringBuilder"))) (by decide) rfl ?_
  intro p e s m args below meth c s₁ B hml hv
  obtain ⟨rfl, hsz, hP, hKK, hD0, hJ⟩ := hv
  obtain ⟨hK, hN, hR, hFW, hNC⟩ := id hKK
  have hx := B.exec
  have hb := B.bytes
  have hr := B.returns
  have hts0 := atoms_spec (ws := wl_nJ4_append_cf468) B.pre
  have hts : ∀ w ∈ lwg, w.before ([.ref wb, .int p1] : List Value).toArray s = true := fun w hw => hts0 w (List.mem_cons_of_mem _ hw)
  have hown : s.vm.findClass RJ4 = some m.cls := findClass_of_methodNamed B.named
  have hlocks := B.notSynchronized
  subst hsz
  have hD := hD0.self (sz := s.heap.size)
  generalize hAe : va_A [(wb, .inr (1, [.ref wv, .int (0 : Int32), .int (0 : Int32), .int wc])), (wv, .inl (G.2 2, wn, .inl wf))] s.heap.size = A at hD hJ ⊢
  have hA : ∀ q : Nat, s.heap.size ≤ q → A q := fun q h => by rw [← hAe]; exact Or.inr h
  have hS : va_S A s.heap s.heap [] := va_S.rf
  obtain ⟨QC, hQC⟩ : ∃ Z, Z = (va_Qr post (fun u ra t => ra = wb ∧ ∃ wvE : Nat, PP G [(wb, .inr (1, [.ref wvE, .int (0 : Int32), .int (0 : Int32), .int (u.1)])), (wvE, .inl (G.2 2, u.2.1, .inl (u.2.2)))] t.heap ∧ va_D A [(wb, .inr (1, [.ref wvE, .int (0 : Int32), .int (0 : Int32), .int (u.1)])), (wvE, .inl (G.2 2, u.2.1, .inl (u.2.2)))]) A) := ⟨_, rfl⟩
  rw [← hQC]
  obtain ⟨jE, hjE⟩ := hJ.2.1
  obtain ⟨jT, hjT1, hjT2⟩ := hJ.2.2.1
  obtain ⟨jO, hjO1, hjO2⟩ := hJ.2.2.2.1
  obtain ⟨jS, hjS⟩ := hJ.2.2.2.2.1
  have hP : PP G [(wb, .inr (1, [.ref wv, .int (0 : Int32), .int (0 : Int32), .int wc])), (wv, .inl (G.2 2, wn, .inl wf))] s.heap := hP
  have hl := lv_entry ([.ref wb, .int p1]) (n := 2) (Nat.le_of_ble_eq_true rfl)
  rw [lg_entry_eq]
  generalize (lg_sl ([.ref wb, .int p1]) ++ List.replicate (2 - (lg_sl ([.ref wb, .int p1])).length) Slot.unset).toArray = ls at hl ⊢
  have hl : lv_has ls 2 [(0, .ref wb), (1, .int p1)] := hl
  refine lv_aload_n hx hb dJ4_append_cf468_0 rfl (lv_at hl 0 rfl) ?_
  refine lv_iload_n hx hb dJ4_append_cf468_1 rfl (lv_at hl 1 rfl) ?_
  obtain ⟨b_1, b_2, h⟩ := h
  obtain ⟨⟨hq_1, hq_2⟩, h⟩ := h
  have hPc := hP
  have hDc := hD.sub (ws' := [(wb, .inr (1, [.ref wv, .int (0 : Int32), .int (0 : Int32), .int wc])), (wv, .inl (G.2 2, wn, .inl wf))]) [0, 1] (by decide) rfl
  have hFc := va_free (wc := [(wb, .inr (1, [.ref wv, .int (0 : Int32), .int (0 : Int32), .int wc])), (wv, .inl (G.2 2, wn, .inl wf))]) hD hS hA [0, 1] rfl
  have hJc := (hJ.kept hS.2.1).narrow hFc
  refine va_callr (va_runSU (C := RJ4) (As := [.int p1]) (rest := []) (hK.1 1 _ rfl).2 ⟨hx, hb, hml, hown, hts⟩ (knJ5_append_3fe6f l G wb wv wc wn wf b_1 b_2 p1 _ h) (va_cwSU 1 hts (gdSU q715 q1443 q704 q716 q24 q717) rfl rfl rfl (by decide +kernel) ⟨Nat.le_of_ble_eq_true rfl, Nat.le_of_ble_eq_true rfl⟩) (preVwj hPc hKK hDc hJc (va_recv hK hPc (ci := 1) (q0 := 0) rfl rfl)) rfl rfl hl.1 rfl (lv_room (Nat.le_of_ble_eq_true rfl)) dJ4_append_cf468_2 ⟨hq_1, hq_2⟩) hS (fun q _ h => hFc q h) hFc (fun u ra t H1 locs ht hvm h hB hz1 hk1 hS => ?_)
  obtain ⟨wc_1, wn_1, wf_1⟩ := u
  obtain ⟨era, hB⟩ := hB
  rw [era]
  obtain ⟨wv_1, hB⟩ := hB
  obtain ⟨hP1, hD1⟩ := hB
  rw [ht] at hP1
  have hP := hP1
  have hD : va_D A [(wb, .inr (1, [.ref wv_1, .int (0 : Int32), .int (0 : Int32), .int wc_1])), (wv_1, .inl (G.2 2, wn_1, .inl wf_1))] := hD1.weaken (fun _ _ _ h => hFc _ h)
  generalize H1 = H at hP hS ⊢
  have hP : PP G [(wb, .inr (1, [.ref wv_1, .int (0 : Int32), .int (0 : Int32), .int wc_1])), (wv_1, .inl (G.2 2, wn_1, .inl wf_1))] H := hP
  refine lv_pop hx hb dJ4_append_cf468_5 rfl ?_
  refine lv_aload_n hx hb dJ4_append_cf468_6 rfl (lv_at hl 0 rfl) ?_
  obtain ⟨⟨hw1, hw2⟩, h⟩ := h
  refine W.widen (k := mcb) (n := msb) hw1 hw2 ?_
  subst hQC; exact W.aret (v := .ref wb) hx hb hr (by first | exact Or.inl ⟨_, rfl⟩ | exact Or.inr ⟨_, rfl⟩) (Or.inr ⟨_, rfl⟩) (fun t ht hW => ⟨⟨(wc_1, wn_1, wf_1), wb, rfl, h, rfl, wv_1, by rw [ht]; exact hP, hD⟩, hS.F ht⟩) hS.2.2 dJ4_append_cf468_7
theorem dJ6_getChars_ba4f3_0 : decode cJ6_getChars_ba4f3 0 = .ok (.iload_n 1, 1) := by decide +kernel
theorem dJ6_getChars_ba4f3_1 : decode cJ6_getChars_ba4f3 1 = .ok (.istore 5, 2) := by decide +kernel
theorem dJ6_getChars_ba4f3_3 : decode cJ6_getChars_ba4f3 3 = .ok (.iload_n 0, 1) := by decide +kernel
theorem dJ6_getChars_ba4f3_4 : decode cJ6_getChars_ba4f3 4 = .ok (.ifCond .ge 7, 3) := by decide +kernel
theorem dJ6_getChars_ba4f3_7 : decode cJ6_getChars_ba4f3 7 = .ok (.iconst 1, 1) := by decide +kernel
theorem dJ6_getChars_ba4f3_8 : decode cJ6_getChars_ba4f3 8 = .ok (.goto 4, 3) := by decide +kernel
theorem dJ6_getChars_ba4f3_11 : decode cJ6_getChars_ba4f3 11 = .ok (.iconst 0, 1) := by decide +kernel
theorem dJ6_getChars_ba4f3_12 : decode cJ6_getChars_ba4f3 12 = .ok (.istore 6, 2) := by decide +kernel
theorem dJ6_getChars_ba4f3_14 : decode cJ6_getChars_ba4f3 14 = .ok (.iload 6, 2) := by decide +kernel
theorem dJ6_getChars_ba4f3_16 : decode cJ6_getChars_ba4f3 16 = .ok (.ifCond .ne 6, 3) := by decide +kernel
theorem dJ6_getChars_ba4f3_19 : decode cJ6_getChars_ba4f3 19 = .ok (.iload_n 0, 1) := by decide +kernel
theorem dJ6_getChars_ba4f3_20 : decode cJ6_getChars_ba4f3 20 = .ok (.ineg, 1) := by decide +kernel
theorem dJ6_getChars_ba4f3_21 : decode cJ6_getChars_ba4f3 21 = .ok (.istore_n 0, 1) := by decide +kernel
theorem dJ6_getChars_ba4f3_22 : decode cJ6_getChars_ba4f3 22 = .ok (.iload_n 0, 1) := by decide +kernel
theorem dJ6_getChars_ba4f3_23 : decode cJ6_getChars_ba4f3 23 = .ok (.bipush (-100), 2) := by decide +kernel
theorem dJ6_getChars_ba4f3_25 : decode cJ6_getChars_ba4f3 25 = .ok (.if_icmp .gt 47, 3) := by decide +kernel
theorem dJ6_getChars_ba4f3_28 : decode cJ6_getChars_ba4f3 28 = .ok (.iload_n 0, 1) := by decide +kernel
theorem dJ6_getChars_ba4f3_29 : decode cJ6_getChars_ba4f3 29 = .ok (.bipush 100, 2) := by decide +kernel
theorem dJ6_getChars_ba4f3_31 : decode cJ6_getChars_ba4f3 31 = .ok (.idiv, 1) := by decide +kernel
theorem dJ6_getChars_ba4f3_32 : decode cJ6_getChars_ba4f3 32 = .ok (.istore_n 3, 1) := by decide +kernel
theorem dJ6_getChars_ba4f3_33 : decode cJ6_getChars_ba4f3 33 = .ok (.iload_n 3, 1) := by decide +kernel
theorem dJ6_getChars_ba4f3_34 : decode cJ6_getChars_ba4f3 34 = .ok (.bipush 100, 2) := by decide +kernel
theorem dJ6_getChars_ba4f3_36 : decode cJ6_getChars_ba4f3 36 = .ok (.imul, 1) := by decide +kernel
theorem dJ6_getChars_ba4f3_37 : decode cJ6_getChars_ba4f3 37 = .ok (.iload_n 0, 1) := by decide +kernel
theorem dJ6_getChars_ba4f3_38 : decode cJ6_getChars_ba4f3 38 = .ok (.isub, 1) := by decide +kernel
theorem dJ6_getChars_ba4f3_39 : decode cJ6_getChars_ba4f3 39 = .ok (.istore 4, 2) := by decide +kernel
theorem dJ6_getChars_ba4f3_41 : decode cJ6_getChars_ba4f3 41 = .ok (.iload_n 3, 1) := by decide +kernel
theorem dJ6_getChars_ba4f3_42 : decode cJ6_getChars_ba4f3 42 = .ok (.istore_n 0, 1) := by decide +kernel
theorem dJ6_getChars_ba4f3_43 : decode cJ6_getChars_ba4f3 43 = .ok (.aload_n 2, 1) := by decide +kernel
theorem dJ6_getChars_ba4f3_44 : decode cJ6_getChars_ba4f3 44 = .ok (.iinc 5 (-1), 3) := by decide +kernel
theorem dJ6_getChars_ba4f3_47 : decode cJ6_getChars_ba4f3 47 = .ok (.iload 5, 2) := by decide +kernel
theorem dJ6_getChars_ba4f3_49 : decode cJ6_getChars_ba4f3 49 = .ok (.getstatic 83, 3) := by decide +kernel
theorem dJ6_getChars_ba4f3_52 : decode cJ6_getChars_ba4f3 52 = .ok (.iload 4, 2) := by decide +kernel
theorem dJ6_getChars_ba4f3_54 : decode cJ6_getChars_ba4f3 54 = .ok (.baload, 1) := by decide +kernel
theorem dJ6_getChars_ba4f3_55 : decode cJ6_getChars_ba4f3 55 = .ok (.bastore, 1) := by decide +kernel
theorem dJ6_getChars_ba4f3_56 : decode cJ6_getChars_ba4f3 56 = .ok (.aload_n 2, 1) := by decide +kernel
theorem dJ6_getChars_ba4f3_57 : decode cJ6_getChars_ba4f3 57 = .ok (.iinc 5 (-1), 3) := by decide +kernel
theorem dJ6_getChars_ba4f3_60 : decode cJ6_getChars_ba4f3 60 = .ok (.iload 5, 2) := by decide +kernel
theorem dJ6_getChars_ba4f3_62 : decode cJ6_getChars_ba4f3 62 = .ok (.getstatic 87, 3) := by decide +kernel
theorem dJ6_getChars_ba4f3_65 : decode cJ6_getChars_ba4f3 65 = .ok (.iload 4, 2) := by decide +kernel
theorem dJ6_getChars_ba4f3_67 : decode cJ6_getChars_ba4f3 67 = .ok (.baload, 1) := by decide +kernel
theorem dJ6_getChars_ba4f3_68 : decode cJ6_getChars_ba4f3 68 = .ok (.bastore, 1) := by decide +kernel
theorem dJ6_getChars_ba4f3_69 : decode cJ6_getChars_ba4f3 69 = .ok (.goto (-47), 3) := by decide +kernel
theorem dJ6_getChars_ba4f3_72 : decode cJ6_getChars_ba4f3 72 = .ok (.aload_n 2, 1) := by decide +kernel
theorem dJ6_getChars_ba4f3_73 : decode cJ6_getChars_ba4f3 73 = .ok (.iinc 5 (-1), 3) := by decide +kernel
theorem dJ6_getChars_ba4f3_76 : decode cJ6_getChars_ba4f3 76 = .ok (.iload 5, 2) := by decide +kernel
theorem dJ6_getChars_ba4f3_78 : decode cJ6_getChars_ba4f3 78 = .ok (.getstatic 83, 3) := by decide +kernel
theorem dJ6_getChars_ba4f3_81 : decode cJ6_getChars_ba4f3 81 = .ok (.iload_n 0, 1) := by decide +kernel
theorem dJ6_getChars_ba4f3_82 : decode cJ6_getChars_ba4f3 82 = .ok (.ineg, 1) := by decide +kernel
theorem dJ6_getChars_ba4f3_83 : decode cJ6_getChars_ba4f3 83 = .ok (.baload, 1) := by decide +kernel
theorem dJ6_getChars_ba4f3_84 : decode cJ6_getChars_ba4f3 84 = .ok (.bastore, 1) := by decide +kernel
theorem dJ6_getChars_ba4f3_85 : decode cJ6_getChars_ba4f3 85 = .ok (.iload_n 0, 1) := by decide +kernel
theorem dJ6_getChars_ba4f3_86 : decode cJ6_getChars_ba4f3 86 = .ok (.bipush (-9), 2) := by decide +kernel
theorem dJ6_getChars_ba4f3_88 : decode cJ6_getChars_ba4f3 88 = .ok (.if_icmp .ge 16, 3) := by decide +kernel
theorem dJ6_getChars_ba4f3_91 : decode cJ6_getChars_ba4f3 91 = .ok (.aload_n 2, 1) := by decide +kernel
theorem dJ6_getChars_ba4f3_92 : decode cJ6_getChars_ba4f3 92 = .ok (.iinc 5 (-1), 3) := by decide +kernel
theorem dJ6_getChars_ba4f3_95 : decode cJ6_getChars_ba4f3 95 = .ok (.iload 5, 2) := by decide +kernel
theorem dJ6_getChars_ba4f3_97 : decode cJ6_getChars_ba4f3 97 = .ok (.getstatic 87, 3) := by decide +kernel
theorem dJ6_getChars_ba4f3_100 : decode cJ6_getChars_ba4f3 100 = .ok (.iload_n 0, 1) := by decide +kernel
theorem dJ6_getChars_ba4f3_101 : decode cJ6_getChars_ba4f3 101 = .ok (.ineg, 1) := by decide +kernel
theorem dJ6_getChars_ba4f3_102 : decode cJ6_getChars_ba4f3 102 = .ok (.baload, 1) := by decide +kernel
theorem dJ6_getChars_ba4f3_103 : decode cJ6_getChars_ba4f3 103 = .ok (.bastore, 1) := by decide +kernel
theorem dJ6_getChars_ba4f3_104 : decode cJ6_getChars_ba4f3 104 = .ok (.iload 6, 2) := by decide +kernel
theorem dJ6_getChars_ba4f3_106 : decode cJ6_getChars_ba4f3 106 = .ok (.ifCond .eq 12, 3) := by decide +kernel
theorem dJ6_getChars_ba4f3_109 : decode cJ6_getChars_ba4f3 109 = .ok (.aload_n 2, 1) := by decide +kernel
theorem dJ6_getChars_ba4f3_110 : decode cJ6_getChars_ba4f3 110 = .ok (.iinc 5 (-1), 3) := by decide +kernel
theorem dJ6_getChars_ba4f3_113 : decode cJ6_getChars_ba4f3 113 = .ok (.iload 5, 2) := by decide +kernel
theorem dJ6_getChars_ba4f3_115 : decode cJ6_getChars_ba4f3 115 = .ok (.bipush 45, 2) := by decide +kernel
theorem dJ6_getChars_ba4f3_117 : decode cJ6_getChars_ba4f3 117 = .ok (.bastore, 1) := by decide +kernel
theorem dJ6_getChars_ba4f3_118 : decode cJ6_getChars_ba4f3 118 = .ok (.iload 5, 2) := by decide +kernel
theorem dJ6_getChars_ba4f3_120 : decode cJ6_getChars_ba4f3 120 = .ok (.ireturn, 1) := by decide +kernel
def wnJ6_getChars_ba4f3_L22 (post : Int32 → (Nat → Int32) → Prop) (K72 : Int32 → Int32 → (Nat → Int32) → Prop) (yn : Nat) : Nat → Int32 → Int32 → (Nat → Int32) → Prop
  | 0, _, _, _ => False
  | n+1, i0, i5, yf' =>
    (((-100 : Int32) < i0) →
      K72 i0 i5 yf'
    ) ∧ (¬ ((-100 : Int32) < i0) →
      ∀ x_1 : Int32, x_1 = (((i0 / (100 : Int32)) * (100 : Int32)) - i0) →
      vp_in x_1 100 ∧
      vp_in (i5 + (-1)) yn ∧
      vp_in x_1 100 ∧
      vp_in ((i5 + (-1)) + (-1)) yn ∧
      wnJ6_getChars_ba4f3_L22 post K72 yn n (i0 / (100 : Int32)) ((i5 + (-1)) + (-1)) (upd (upd yf' (i5 + (-1)).toNatClampNeg (vp_nar .byte (dOnes x_1.toNatClampNeg))) ((i5 + (-1)) + (-1)).toNatClampNeg (vp_nar .byte (dTens x_1.toNatClampNeg)))
    )
def wnJ6_getChars_ba4f3_L22_1 (post : Int32 → (Nat → Int32) → Prop) (K72 : Int32 → Int32 → (Nat → Int32) → Prop) (yn : Nat) : Nat → Int32 → Int32 → (Nat → Int32) → Prop
  | 0, _, _, _ => False
  | n+1, i0, i5, yf' =>
    (((-100 : Int32) < i0) →
      K72 i0 i5 yf'
    ) ∧ (¬ ((-100 : Int32) < i0) →
      ∀ x_2 : Int32, x_2 = (((i0 / (100 : Int32)) * (100 : Int32)) - i0) →
      vp_in x_2 100 ∧
      vp_in (i5 + (-1)) yn ∧
      vp_in x_2 100 ∧
      vp_in ((i5 + (-1)) + (-1)) yn ∧
      wnJ6_getChars_ba4f3_L22_1 post K72 yn n (i0 / (100 : Int32)) ((i5 + (-1)) + (-1)) (upd (upd yf' (i5 + (-1)).toNatClampNeg (vp_nar .byte (dOnes x_2.toNatClampNeg))) ((i5 + (-1)) + (-1)).toNatClampNeg (vp_nar .byte (dTens x_2.toNatClampNeg)))
    )
def wnJ6_getChars_ba4f3 (post : Int32 → (Nat → Int32) → Prop) (yn : Nat) (yf : Nat → Int32) (p1 : Int32) (p2 : Int32) : Prop :=
  ((0 ≤ p1) →
    ∃ nF, wnJ6_getChars_ba4f3_L22 post
      (fun i0 i5 yf' =>
        vp_in (-i0) 100 ∧
        vp_in (i5 + (-1)) yn ∧
        (((-9 : Int32) ≤ i0) →
          post (i5 + (-1)) (upd yf' (i5 + (-1)).toNatClampNeg (vp_nar .byte (dOnes (-i0).toNatClampNeg)))
        ) ∧ (¬ ((-9 : Int32) ≤ i0) →
          vp_in (-i0) 100 ∧
          vp_in ((i5 + (-1)) + (-1)) yn ∧
          post ((i5 + (-1)) + (-1)) (upd (upd yf' (i5 + (-1)).toNatClampNeg (vp_nar .byte (dOnes (-i0).toNatClampNeg))) ((i5 + (-1)) + (-1)).toNatClampNeg (vp_nar .byte (dTens (-i0).toNatClampNeg)))
        )
      )
      yn nF (-p1) p2 yf
  ) ∧ (¬ (0 ≤ p1) →
    ∃ nF, wnJ6_getChars_ba4f3_L22_1 post
      (fun i0 i5 yf' =>
        vp_in (-i0) 100 ∧
        vp_in (i5 + (-1)) yn ∧
        (((-9 : Int32) ≤ i0) →
          vp_in ((i5 + (-1)) + (-1)) yn ∧
          post ((i5 + (-1)) + (-1)) (upd (upd yf' (i5 + (-1)).toNatClampNeg (vp_nar .byte (dOnes (-i0).toNatClampNeg))) ((i5 + (-1)) + (-1)).toNatClampNeg (vp_nar .byte (45 : Int32)))
        ) ∧ (¬ ((-9 : Int32) ≤ i0) →
          vp_in (-i0) 100 ∧
          vp_in ((i5 + (-1)) + (-1)) yn ∧
          vp_in (((i5 + (-1)) + (-1)) + (-1)) yn ∧
          post (((i5 + (-1)) + (-1)) + (-1)) (upd (upd (upd yf' (i5 + (-1)).toNatClampNeg (vp_nar .byte (dOnes (-i0).toNatClampNeg))) ((i5 + (-1)) + (-1)).toNatClampNeg (vp_nar .byte (dTens (-i0).toNatClampNeg))) (((i5 + (-1)) + (-1)) + (-1)).toNatClampNeg (vp_nar .byte (45 : Int32)))
        )
      )
      yn nF p1 p2 yf
  )
abbrev wl_nJ6_getChars_ba4f3 : List Cond := .code yJ6_getChars_ba4f3 cJ6_getChars_ba4f3 7 (some .int) :: lwg
abbrev rm_nJ6_getChars_ba4f3 : Room := { frames := 0, cells := 0, slots := 0, locals := 0 }
set_option maxHeartbeats 4000000 in
set_option maxRecDepth 100000 in
theorem knJ6_getChars_ba4f3 {post : Int32 → (Nat → Int32) → Prop} (l : Launch) (G : GT) (y0 : Nat) (yn : Nat) (yf : Nat → Int32) (p1 : Int32) (p2 : Int32) (sz : Nat) (h : wnJ6_getChars_ba4f3 post yn yf p1 p2) : Met l yJ6_getChars_ba4f3 wl_nJ6_getChars_ba4f3 rm_nJ6_getChars_ba4f3 (va_Pc [.int p1, .int p2, .ref y0] (fun U => U.heap.size = sz ∧ PP G [(y0, .inl (G.2 2, yn, .inl yf))] U.heap ∧ KK G U ∧ va_D (fun _ => True) [(y0, .inl (G.2 2, yn, .inl yf))] ∧ JJ G (va_A [(y0, .inl (G.2 2, yn, .inl yf))] sz) U U.heap)) (va_Qi post (fun u t => PP G [(y0, .inl (G.2 2, yn, .inl u))] t.heap ∧ va_D (va_A [(y0, .inl (G.2 2, yn, .inl yf))] sz) [(y0, .inl (G.2 2, yn, .inl u))]) (va_A [(y0, .inl (G.2 2, yn, .inl yf))] sz)) 0 0 (va_A [(y0, .inl (G.2 2, yn, .inl yf))] sz) := by
  refine Met.ofW (cc := cJ6_getChars_ba4f3) (maxL := 7) (ret := (some .int)) (by decide) rfl ?_
  intro p e s m args below meth c s₁ B hml hv
  obtain ⟨rfl, hsz, hP, hKK, hD0, hJ⟩ := hv
  obtain ⟨hK, hN, hR, hFW, hNC⟩ := id hKK
  have hx := B.exec
  have hb := B.bytes
  have hr := B.returns
  have hts0 := atoms_spec (ws := wl_nJ6_getChars_ba4f3) B.pre
  have hts : ∀ w ∈ lwg, w.before ([.int p1, .int p2, .ref y0] : List Value).toArray s = true := fun w hw => hts0 w (List.mem_cons_of_mem _ hw)
  have hown : s.vm.findClass RJ6 = some m.cls := findClass_of_methodNamed B.named
  have hlocks := B.notSynchronized
  subst hsz
  have hD := hD0.self (sz := s.heap.size)
  generalize hAe : va_A [(y0, .inl (G.2 2, yn, .inl yf))] s.heap.size = A at hD hJ ⊢
  have hA : ∀ q : Nat, s.heap.size ≤ q → A q := fun q h => by rw [← hAe]; exact Or.inr h
  have hS : va_S A s.heap s.heap [] := va_S.rf
  obtain ⟨QC, hQC⟩ : ∃ Z, Z = (va_Qi post (fun u t => PP G [(y0, .inl (G.2 2, yn, .inl u))] t.heap ∧ va_D A [(y0, .inl (G.2 2, yn, .inl u))]) A) := ⟨_, rfl⟩
  rw [← hQC]
  obtain ⟨jE, hjE⟩ := hJ.2.1
  obtain ⟨jT, hjT1, hjT2⟩ := hJ.2.2.1
  obtain ⟨jO, hjO1, hjO2⟩ := hJ.2.2.2.1
  obtain ⟨jS, hjS⟩ := hJ.2.2.2.2.1
  have hP : PP G [(y0, .inl (G.2 2, yn, .inl yf))] s.heap := hP
  have hl := lv_entry ([.int p1, .int p2, .ref y0]) (n := 7) (Nat.le_of_ble_eq_true rfl)
  rw [lg_entry_eq]
  generalize (lg_sl ([.int p1, .int p2, .ref y0]) ++ List.replicate (7 - (lg_sl ([.int p1, .int p2, .ref y0])).length) Slot.unset).toArray = ls at hl ⊢
  have hl : lv_has ls 7 [(0, .int p1), (1, .int p2), (2, .ref y0)] := hl
  have loop22 : ∀ (K72 : Int32 → Int32 → (Nat → Int32) → Prop), True → (∀ (i0 : Int32) (i5 : Int32) (yf' : Nat → Int32) (ls : Array Slot) (H : Heap) (locs : List Loc), lv_has ls 7 [(0, .int i0), (1, .int p2), (2, .ref y0), (5, .int i5), (6, .int (0 : Int32))] → PP G [(y0, .inl (G.2 2, yn, .inl yf'))] H → va_D A [(y0, .inl (G.2 2, yn, .inl yf'))] → va_S A s.heap H locs → K72 i0 i5 yf' → W p l e (headSpec (wl_nJ6_getChars_ba4f3) rm_nJ6_getChars_ba4f3).room s m ([.int p1, .int p2, .ref y0] : List Value).toArray below meth c H locs 0 0 (MQ below QC ([.int p1, .int p2, .ref y0] : List Value).toArray s 0 0 A) (F0 m 72 ls [])) → ∀ (n : Nat) (i0 : Int32) (i5 : Int32) (yf' : Nat → Int32) (ls : Array Slot) (H : Heap) (locs : List Loc), lv_has ls 7 [(0, .int i0), (1, .int p2), (2, .ref y0), (5, .int i5), (6, .int (0 : Int32))] → PP G [(y0, .inl (G.2 2, yn, .inl yf'))] H → va_D A [(y0, .inl (G.2 2, yn, .inl yf'))] → va_S A s.heap H locs → wnJ6_getChars_ba4f3_L22 post K72 yn n i0 i5 yf' → W p l e (headSpec (wl_nJ6_getChars_ba4f3) rm_nJ6_getChars_ba4f3).room s m ([.int p1, .int p2, .ref y0] : List Value).toArray below meth c H locs 0 0 (MQ below QC ([.int p1, .int p2, .ref y0] : List Value).toArray s 0 0 A) (F0 m 22 ls []) := by
    intro K72 _ hexit72 n
    induction n with
    | zero => intro i0 i5 yf' ls H locs hl hP hD hS h; exact False.elim h
    | succ n ih =>
      intro i0 i5 yf' ls H locs hl hP hD hS h
      refine lv_iload_n hx hb dJ6_getChars_ba4f3_22 rfl (lv_at hl 0 rfl) ?_
      refine lv_bipush (v := (-100)) hx hb dJ6_getChars_ba4f3_23 (by decide) ?_
      refine lv_icmp_gt (tgt := 72) hx hb dJ6_getChars_ba4f3_25 (by decide) (fun hc => ?_) (fun hc => ?_)
      · have h := h.1 hc
        have hl := lv_sub (l' := [(0, .int i0), (1, .int p2), (2, .ref y0), (5, .int i5), (6, .int (0 : Int32))]) hl [0, 1, 2, 3, 4] rfl
        exact hexit72 _ _ _ ls H locs hl hP hD hS h
      · have h := h.2 hc
        refine lv_iload_n hx hb dJ6_getChars_ba4f3_28 rfl (lv_at hl 0 rfl) ?_
        refine lv_bipush (v := 100) hx hb dJ6_getChars_ba4f3_29 (by decide) ?_
        refine lv_idiv hx hb dJ6_getChars_ba4f3_31 (by decide) ?_
        refine lv_istore_n hx hb dJ6_getChars_ba4f3_32 rfl hl (Nat.le_of_ble_eq_true rfl) rfl (fun ls hl => ?_)
        have hl : lv_has ls 7 [(3, .int (i0 / (100 : Int32))), (0, .int i0), (1, .int p2), (2, .ref y0), (5, .int i5), (6, .int (0 : Int32))] := hl
        refine lv_iload_n hx hb dJ6_getChars_ba4f3_33 rfl (lv_at hl 0 rfl) ?_
        refine lv_bipush (v := 100) hx hb dJ6_getChars_ba4f3_34 (by decide) ?_
        refine lv_imul hx hb dJ6_getChars_ba4f3_36 ?_
        refine lv_iload_n hx hb dJ6_getChars_ba4f3_37 rfl (lv_at hl 1 rfl) ?_
        refine lv_isub hx hb dJ6_getChars_ba4f3_38 ?_
        refine lv_topi (fun x_1 ex_1 => ?_)
        have h := h x_1 ex_1
        refine lv_istore hx hb dJ6_getChars_ba4f3_39 hl (Nat.le_of_ble_eq_true rfl) rfl (fun ls hl => ?_)
        have hl : lv_has ls 7 [(4, .int x_1), (3, .int (i0 / (100 : Int32))), (0, .int i0), (1, .int p2), (2, .ref y0), (5, .int i5), (6, .int (0 : Int32))] := hl
        refine lv_iload_n hx hb dJ6_getChars_ba4f3_41 rfl (lv_at hl 1 rfl) ?_
        refine lv_istore_n hx hb dJ6_getChars_ba4f3_42 rfl hl (Nat.le_of_ble_eq_true rfl) rfl (fun ls hl => ?_)
        have hl : lv_has ls 7 [(0, .int (i0 / (100 : Int32))), (4, .int x_1), (3, .int (i0 / (100 : Int32))), (1, .int p2), (2, .ref y0), (5, .int i5), (6, .int (0 : Int32))] := hl
        refine lv_aload_n hx hb dJ6_getChars_ba4f3_43 rfl (lv_at hl 4 rfl) ?_
        refine lv_iinc (v := (i5 + (-1))) hx hb dJ6_getChars_ba4f3_44 hl (k := 5) rfl (by rw [show Int32.ofInt (-1) = (-1) from by decide]) (Nat.le_of_ble_eq_true rfl) rfl (fun ls hl => ?_)
        have hl : lv_has ls 7 [(5, .int (i5 + (-1))), (0, .int (i0 / (100 : Int32))), (4, .int x_1), (3, .int (i0 / (100 : Int32))), (1, .int p2), (2, .ref y0), (6, .int (0 : Int32))] := hl
        refine lv_iload hx hb dJ6_getChars_ba4f3_47 (lv_at hl 0 rfl) ?_
        refine va_gets hx hb hjO1 hS hown (hts _ q815) (fun _ h9 => h9) dJ6_getChars_ba4f3_49 ?_
        refine lv_iload hx hb dJ6_getChars_ba4f3_52 (lv_at hl 2 rfl) ?_
        obtain ⟨hin, h⟩ := h
        refine va_tb hx hb hjO2 hS hin (v := .int (dOnes x_1.toNatClampNeg)) rfl dJ6_getChars_ba4f3_54 ?_
        obtain ⟨hin, h⟩ := h
        refine va_bast (D := G.1) hx hb hK hP hD hS 0 2 rfl rfl hin dJ6_getChars_ba4f3_55 (fun H locs hP hD hS => ?_)
        have hP : PP G [(y0, .inl (G.2 2, yn, .inl (upd yf' (i5 + (-1)).toNatClampNeg (vp_nar .byte (dOnes x_1.toNatClampNeg)))))] H := hP
        have hD : va_D A [(y0, .inl (G.2 2, yn, .inl (upd yf' (i5 + (-1)).toNatClampNeg (vp_nar .byte (dOnes x_1.toNatClampNeg)))))] := hD
        refine lv_aload_n hx hb dJ6_getChars_ba4f3_56 rfl (lv_at hl 5 rfl) ?_
        refine lv_iinc (v := ((i5 + (-1)) + (-1))) hx hb dJ6_getChars_ba4f3_57 hl (k := 0) rfl (by rw [show Int32.ofInt (-1) = (-1) from by decide]) (Nat.le_of_ble_eq_true rfl) rfl (fun ls hl => ?_)
        have hl : lv_has ls 7 [(5, .int ((i5 + (-1)) + (-1))), (0, .int (i0 / (100 : Int32))), (4, .int x_1), (3, .int (i0 / (100 : Int32))), (1, .int p2), (2, .ref y0), (6, .int (0 : Int32))] := hl
        refine lv_iload hx hb dJ6_getChars_ba4f3_60 (lv_at hl 0 rfl) ?_
        refine va_gets hx hb hjT1 hS hown (hts _ q817) (fun _ h9 => h9) dJ6_getChars_ba4f3_62 ?_
        refine lv_iload hx hb dJ6_getChars_ba4f3_65 (lv_at hl 2 rfl) ?_
        obtain ⟨hin, h⟩ := h
        refine va_tb hx hb hjT2 hS hin (v := .int (dTens x_1.toNatClampNeg)) rfl dJ6_getChars_ba4f3_67 ?_
        obtain ⟨hin, h⟩ := h
        refine va_bast (D := G.1) hx hb hK hP hD hS 0 2 rfl rfl hin dJ6_getChars_ba4f3_68 (fun H locs hP hD hS => ?_)
        have hP : PP G [(y0, .inl (G.2 2, yn, .inl (upd (upd yf' (i5 + (-1)).toNatClampNeg (vp_nar .byte (dOnes x_1.toNatClampNeg))) ((i5 + (-1)) + (-1)).toNatClampNeg (vp_nar .byte (dTens x_1.toNatClampNeg)))))] H := hP
        have hD : va_D A [(y0, .inl (G.2 2, yn, .inl (upd (upd yf' (i5 + (-1)).toNatClampNeg (vp_nar .byte (dOnes x_1.toNatClampNeg))) ((i5 + (-1)) + (-1)).toNatClampNeg (vp_nar .byte (dTens x_1.toNatClampNeg)))))] := hD
        refine lv_goto (tgt := 22) hx hb dJ6_getChars_ba4f3_69 (by decide) ?_
        have hl := lv_sub (l' := [(0, .int (i0 / (100 : Int32))), (1, .int p2), (2, .ref y0), (5, .int ((i5 + (-1)) + (-1))), (6, .int (0 : Int32))]) hl [1, 4, 5, 0, 6] rfl
        exact ih _ _ _ ls H locs hl hP hD hS h
  have loop22_1 : ∀ (K72 : Int32 → Int32 → (Nat → Int32) → Prop), True → (∀ (i0 : Int32) (i5 : Int32) (yf' : Nat → Int32) (ls : Array Slot) (H : Heap) (locs : List Loc), lv_has ls 7 [(0, .int i0), (1, .int p2), (2, .ref y0), (5, .int i5), (6, .int (1 : Int32))] → PP G [(y0, .inl (G.2 2, yn, .inl yf'))] H → va_D A [(y0, .inl (G.2 2, yn, .inl yf'))] → va_S A s.heap H locs → K72 i0 i5 yf' → W p l e (headSpec (wl_nJ6_getChars_ba4f3) rm_nJ6_getChars_ba4f3).room s m ([.int p1, .int p2, .ref y0] : List Value).toArray below meth c H locs 0 0 (MQ below QC ([.int p1, .int p2, .ref y0] : List Value).toArray s 0 0 A) (F0 m 72 ls [])) → ∀ (n : Nat) (i0 : Int32) (i5 : Int32) (yf' : Nat → Int32) (ls : Array Slot) (H : Heap) (locs : List Loc), lv_has ls 7 [(0, .int i0), (1, .int p2), (2, .ref y0), (5, .int i5), (6, .int (1 : Int32))] → PP G [(y0, .inl (G.2 2, yn, .inl yf'))] H → va_D A [(y0, .inl (G.2 2, yn, .inl yf'))] → va_S A s.heap H locs → wnJ6_getChars_ba4f3_L22_1 post K72 yn n i0 i5 yf' → W p l e (headSpec (wl_nJ6_getChars_ba4f3) rm_nJ6_getChars_ba4f3).room s m ([.int p1, .int p2, .ref y0] : List Value).toArray below meth c H locs 0 0 (MQ below QC ([.int p1, .int p2, .ref y0] : List Value).toArray s 0 0 A) (F0 m 22 ls []) := by
    intro K72 _ hexit72 n
    induction n with
    | zero => intro i0 i5 yf' ls H locs hl hP hD hS h; exact False.elim h
    | succ n ih =>
      intro i0 i5 yf' ls H locs hl hP hD hS h
      refine lv_iload_n hx hb dJ6_getChars_ba4f3_22 rfl (lv_at hl 0 rfl) ?_
      refine lv_bipush (v := (-100)) hx hb dJ6_getChars_ba4f3_23 (by decide) ?_
      refine lv_icmp_gt (tgt := 72) hx hb dJ6_getChars_ba4f3_25 (by decide) (fun hc => ?_) (fun hc => ?_)
      · have h := h.1 hc
        have hl := lv_sub (l' := [(0, .int i0), (1, .int p2), (2, .ref y0), (5, .int i5), (6, .int (1 : Int32))]) hl [0, 1, 2, 3, 4] rfl
        exact hexit72 _ _ _ ls H locs hl hP hD hS h
      · have h := h.2 hc
        refine lv_iload_n hx hb dJ6_getChars_ba4f3_28 rfl (lv_at hl 0 rfl) ?_
        refine lv_bipush (v := 100) hx hb dJ6_getChars_ba4f3_29 (by decide) ?_
        refine lv_idiv hx hb dJ6_getChars_ba4f3_31 (by decide) ?_
        refine lv_istore_n hx hb dJ6_getChars_ba4f3_32 rfl hl (Nat.le_of_ble_eq_true rfl) rfl (fun ls hl => ?_)
        have hl : lv_has ls 7 [(3, .int (i0 / (100 : Int32))), (0, .int i0), (1, .int p2), (2, .ref y0), (5, .int i5), (6, .int (1 : Int32))] := hl
        refine lv_iload_n hx hb dJ6_getChars_ba4f3_33 rfl (lv_at hl 0 rfl) ?_
        refine lv_bipush (v := 100) hx hb dJ6_getChars_ba4f3_34 (by decide) ?_
        refine lv_imul hx hb dJ6_getChars_ba4f3_36 ?_
        refine lv_iload_n hx hb dJ6_getChars_ba4f3_37 rfl (lv_at hl 1 rfl) ?_
        refine lv_isub hx hb dJ6_getChars_ba4f3_38 ?_
        refine lv_topi (fun x_2 ex_2 => ?_)
        have h := h x_2 ex_2
        refine lv_istore hx hb dJ6_getChars_ba4f3_39 hl (Nat.le_of_ble_eq_true rfl) rfl (fun ls hl => ?_)
        have hl : lv_has ls 7 [(4, .int x_2), (3, .int (i0 / (100 : Int32))), (0, .int i0), (1, .int p2), (2, .ref y0), (5, .int i5), (6, .int (1 : Int32))] := hl
        refine lv_iload_n hx hb dJ6_getChars_ba4f3_41 rfl (lv_at hl 1 rfl) ?_
        refine lv_istore_n hx hb dJ6_getChars_ba4f3_42 rfl hl (Nat.le_of_ble_eq_true rfl) rfl (fun ls hl => ?_)
        have hl : lv_has ls 7 [(0, .int (i0 / (100 : Int32))), (4, .int x_2), (3, .int (i0 / (100 : Int32))), (1, .int p2), (2, .ref y0), (5, .int i5), (6, .int (1 : Int32))] := hl
        refine lv_aload_n hx hb dJ6_getChars_ba4f3_43 rfl (lv_at hl 4 rfl) ?_
        refine lv_iinc (v := (i5 + (-1))) hx hb dJ6_getChars_ba4f3_44 hl (k := 5) rfl (by rw [show Int32.ofInt (-1) = (-1) from by decide]) (Nat.le_of_ble_eq_true rfl) rfl (fun ls hl => ?_)
        have hl : lv_has ls 7 [(5, .int (i5 + (-1))), (0, .int (i0 / (100 : Int32))), (4, .int x_2), (3, .int (i0 / (100 : Int32))), (1, .int p2), (2, .ref y0), (6, .int (1 : Int32))] := hl
        refine lv_iload hx hb dJ6_getChars_ba4f3_47 (lv_at hl 0 rfl) ?_
        refine va_gets hx hb hjO1 hS hown (hts _ q815) (fun _ h9 => h9) dJ6_getChars_ba4f3_49 ?_
        refine lv_iload hx hb dJ6_getChars_ba4f3_52 (lv_at hl 2 rfl) ?_
        obtain ⟨hin, h⟩ := h
        refine va_tb hx hb hjO2 hS hin (v := .int (dOnes x_2.toNatClampNeg)) rfl dJ6_getChars_ba4f3_54 ?_
        obtain ⟨hin, h⟩ := h
        refine va_bast (D := G.1) hx hb hK hP hD hS 0 2 rfl rfl hin dJ6_getChars_ba4f3_55 (fun H locs hP hD hS => ?_)
        have hP : PP G [(y0, .inl (G.2 2, yn, .inl (upd yf' (i5 + (-1)).toNatClampNeg (vp_nar .byte (dOnes x_2.toNatClampNeg)))))] H := hP
        have hD : va_D A [(y0, .inl (G.2 2, yn, .inl (upd yf' (i5 + (-1)).toNatClampNeg (vp_nar .byte (dOnes x_2.toNatClampNeg)))))] := hD
        refine lv_aload_n hx hb dJ6_getChars_ba4f3_56 rfl (lv_at hl 5 rfl) ?_
        refine lv_iinc (v := ((i5 + (-1)) + (-1))) hx hb dJ6_getChars_ba4f3_57 hl (k := 0) rfl (by rw [show Int32.ofInt (-1) = (-1) from by decide]) (Nat.le_of_ble_eq_true rfl) rfl (fun ls hl => ?_)
        have hl : lv_has ls 7 [(5, .int ((i5 + (-1)) + (-1))), (0, .int (i0 / (100 : Int32))), (4, .int x_2), (3, .int (i0 / (100 : Int32))), (1, .int p2), (2, .ref y0), (6, .int (1 : Int32))] := hl
        refine lv_iload hx hb dJ6_getChars_ba4f3_60 (lv_at hl 0 rfl) ?_
        refine va_gets hx hb hjT1 hS hown (hts _ q817) (fun _ h9 => h9) dJ6_getChars_ba4f3_62 ?_
        refine lv_iload hx hb dJ6_getChars_ba4f3_65 (lv_at hl 2 rfl) ?_
        obtain ⟨hin, h⟩ := h
        refine va_tb hx hb hjT2 hS hin (v := .int (dTens x_2.toNatClampNeg)) rfl dJ6_getChars_ba4f3_67 ?_
        obtain ⟨hin, h⟩ := h
        refine va_bast (D := G.1) hx hb hK hP hD hS 0 2 rfl rfl hin dJ6_getChars_ba4f3_68 (fun H locs hP hD hS => ?_)
        have hP : PP G [(y0, .inl (G.2 2, yn, .inl (upd (upd yf' (i5 + (-1)).toNatClampNeg (vp_nar .byte (dOnes x_2.toNatClampNeg))) ((i5 + (-1)) + (-1)).toNatClampNeg (vp_nar .byte (dTens x_2.toNatClampNeg)))))] H := hP
        have hD : va_D A [(y0, .inl (G.2 2, yn, .inl (upd (upd yf' (i5 + (-1)).toNatClampNeg (vp_nar .byte (dOnes x_2.toNatClampNeg))) ((i5 + (-1)) + (-1)).toNatClampNeg (vp_nar .byte (dTens x_2.toNatClampNeg)))))] := hD
        refine lv_goto (tgt := 22) hx hb dJ6_getChars_ba4f3_69 (by decide) ?_
        have hl := lv_sub (l' := [(0, .int (i0 / (100 : Int32))), (1, .int p2), (2, .ref y0), (5, .int ((i5 + (-1)) + (-1))), (6, .int (1 : Int32))]) hl [1, 4, 5, 0, 6] rfl
        exact ih _ _ _ ls H locs hl hP hD hS h
  refine lv_iload_n hx hb dJ6_getChars_ba4f3_0 rfl (lv_at hl 1 rfl) ?_
  refine lv_istore hx hb dJ6_getChars_ba4f3_1 hl (Nat.le_of_ble_eq_true rfl) rfl (fun ls hl => ?_)
  have hl : lv_has ls 7 [(5, .int p2), (0, .int p1), (1, .int p2), (2, .ref y0)] := hl
  refine lv_iload_n hx hb dJ6_getChars_ba4f3_3 rfl (lv_at hl 1 rfl) ?_
  refine lv_if_ge (tgt := 11) hx hb dJ6_getChars_ba4f3_4 (by decide) (fun hc => ?_) (fun hc => ?_)
  · have h := h.1 hc
    refine lv_iconst (v := 0) hx hb dJ6_getChars_ba4f3_11 (by decide) ?_
    refine lv_istore hx hb dJ6_getChars_ba4f3_12 hl (Nat.le_of_ble_eq_true rfl) rfl (fun ls hl => ?_)
    have hl : lv_has ls 7 [(6, .int (0 : Int32)), (5, .int p2), (0, .int p1), (1, .int p2), (2, .ref y0)] := hl
    refine lv_iload hx hb dJ6_getChars_ba4f3_14 (lv_at hl 0 rfl) ?_
    refine lv_if_ne (tgt := 22) hx hb dJ6_getChars_ba4f3_16 (by decide) (fun hc => absurd hc (by decide)) (fun _ => ?_)
    refine lv_iload_n hx hb dJ6_getChars_ba4f3_19 rfl (lv_at hl 2 rfl) ?_
    refine lv_ineg hx hb dJ6_getChars_ba4f3_20 ?_
    refine lv_istore_n hx hb dJ6_getChars_ba4f3_21 rfl hl (Nat.le_of_ble_eq_true rfl) rfl (fun ls hl => ?_)
    have hl : lv_has ls 7 [(0, .int (-p1)), (6, .int (0 : Int32)), (5, .int p2), (1, .int p2), (2, .ref y0)] := hl
    have hl := lv_sub (l' := [(0, .int (-p1)), (1, .int p2), (2, .ref y0), (5, .int p2), (6, .int (0 : Int32))]) hl [0, 3, 4, 2, 1] rfl
    obtain ⟨nF, h⟩ := h
    refine loop22 _ trivial ?_ nF (-p1) p2 yf _ _ _ hl hP hD hS h
    · intro i0 i5 yf' ls H locs hl hP hD hS h
      refine lv_aload_n hx hb dJ6_getChars_ba4f3_72 rfl (lv_at hl 2 rfl) ?_
      refine lv_iinc (v := (i5 + (-1))) hx hb dJ6_getChars_ba4f3_73 hl (k := 3) rfl (by rw [show Int32.ofInt (-1) = (-1) from by decide]) (Nat.le_of_ble_eq_true rfl) rfl (fun ls hl => ?_)
      have hl : lv_has ls 7 [(5, .int (i5 + (-1))), (0, .int i0), (1, .int p2), (2, .ref y0), (6, .int (0 : Int32))] := hl
      refine lv_iload hx hb dJ6_getChars_ba4f3_76 (lv_at hl 0 rfl) ?_
      refine va_gets hx hb hjO1 hS hown (hts _ q815) (fun _ h9 => h9) dJ6_getChars_ba4f3_78 ?_
      refine lv_iload_n hx hb dJ6_getChars_ba4f3_81 rfl (lv_at hl 1 rfl) ?_
      refine lv_ineg hx hb dJ6_getChars_ba4f3_82 ?_
      obtain ⟨hin, h⟩ := h
      refine va_tb hx hb hjO2 hS hin (v := .int (dOnes (-i0).toNatClampNeg)) rfl dJ6_getChars_ba4f3_83 ?_
      obtain ⟨hin, h⟩ := h
      refine va_bast (D := G.1) hx hb hK hP hD hS 0 2 rfl rfl hin dJ6_getChars_ba4f3_84 (fun H locs hP hD hS => ?_)
      have hP : PP G [(y0, .inl (G.2 2, yn, .inl (upd yf' (i5 + (-1)).toNatClampNeg (vp_nar .byte (dOnes (-i0).toNatClampNeg)))))] H := hP
      have hD : va_D A [(y0, .inl (G.2 2, yn, .inl (upd yf' (i5 + (-1)).toNatClampNeg (vp_nar .byte (dOnes (-i0).toNatClampNeg)))))] := hD
      refine lv_iload_n hx hb dJ6_getChars_ba4f3_85 rfl (lv_at hl 1 rfl) ?_
      refine lv_bipush (v := (-9)) hx hb dJ6_getChars_ba4f3_86 (by decide) ?_
      refine lv_icmp_ge (tgt := 104) hx hb dJ6_getChars_ba4f3_88 (by decide) (fun hc => ?_) (fun hc => ?_)
      · have h := h.1 hc
        refine lv_iload hx hb dJ6_getChars_ba4f3_104 (lv_at hl 4 rfl) ?_
        refine lv_if_eq (tgt := 118) hx hb dJ6_getChars_ba4f3_106 (by decide) (fun _ => ?_) (fun hc => absurd (by decide) hc)
        refine lv_iload hx hb dJ6_getChars_ba4f3_118 (lv_at hl 0 rfl) ?_
        subst hQC; exact W.iret (v := (i5 + (-1))) hx hb hr (fun t ht hW => ⟨⟨_, (upd yf' (i5 + (-1)).toNatClampNeg (vp_nar .byte (dOnes (-i0).toNatClampNeg))), rfl, h, by rw [ht]; exact hP, hD⟩, hS.F ht⟩) hS.2.2 dJ6_getChars_ba4f3_120
      · have h := h.2 hc
        refine lv_aload_n hx hb dJ6_getChars_ba4f3_91 rfl (lv_at hl 3 rfl) ?_
        refine lv_iinc (v := ((i5 + (-1)) + (-1))) hx hb dJ6_getChars_ba4f3_92 hl (k := 0) rfl (by rw [show Int32.ofInt (-1) = (-1) from by decide]) (Nat.le_of_ble_eq_true rfl) rfl (fun ls hl => ?_)
        have hl : lv_has ls 7 [(5, .int ((i5 + (-1)) + (-1))), (0, .int i0), (1, .int p2), (2, .ref y0), (6, .int (0 : Int32))] := hl
        refine lv_iload hx hb dJ6_getChars_ba4f3_95 (lv_at hl 0 rfl) ?_
        refine va_gets hx hb hjT1 hS hown (hts _ q817) (fun _ h9 => h9) dJ6_getChars_ba4f3_97 ?_
        refine lv_iload_n hx hb dJ6_getChars_ba4f3_100 rfl (lv_at hl 1 rfl) ?_
        refine lv_ineg hx hb dJ6_getChars_ba4f3_101 ?_
        obtain ⟨hin, h⟩ := h
        refine va_tb hx hb hjT2 hS hin (v := .int (dTens (-i0).toNatClampNeg)) rfl dJ6_getChars_ba4f3_102 ?_
        obtain ⟨hin, h⟩ := h
        refine va_bast (D := G.1) hx hb hK hP hD hS 0 2 rfl rfl hin dJ6_getChars_ba4f3_103 (fun H locs hP hD hS => ?_)
        have hP : PP G [(y0, .inl (G.2 2, yn, .inl (upd (upd yf' (i5 + (-1)).toNatClampNeg (vp_nar .byte (dOnes (-i0).toNatClampNeg))) ((i5 + (-1)) + (-1)).toNatClampNeg (vp_nar .byte (dTens (-i0).toNatClampNeg)))))] H := hP
        have hD : va_D A [(y0, .inl (G.2 2, yn, .inl (upd (upd yf' (i5 + (-1)).toNatClampNeg (vp_nar .byte (dOnes (-i0).toNatClampNeg))) ((i5 + (-1)) + (-1)).toNatClampNeg (vp_nar .byte (dTens (-i0).toNatClampNeg)))))] := hD
        refine lv_iload hx hb dJ6_getChars_ba4f3_104 (lv_at hl 4 rfl) ?_
        refine lv_if_eq (tgt := 118) hx hb dJ6_getChars_ba4f3_106 (by decide) (fun _ => ?_) (fun hc => absurd (by decide) hc)
        refine lv_iload hx hb dJ6_getChars_ba4f3_118 (lv_at hl 0 rfl) ?_
        subst hQC; exact W.iret (v := ((i5 + (-1)) + (-1))) hx hb hr (fun t ht hW => ⟨⟨_, (upd (upd yf' (i5 + (-1)).toNatClampNeg (vp_nar .byte (dOnes (-i0).toNatClampNeg))) ((i5 + (-1)) + (-1)).toNatClampNeg (vp_nar .byte (dTens (-i0).toNatClampNeg))), rfl, h, by rw [ht]; exact hP, hD⟩, hS.F ht⟩) hS.2.2 dJ6_getChars_ba4f3_120
  · have h := h.2 hc
    refine lv_iconst (v := 1) hx hb dJ6_getChars_ba4f3_7 (by decide) ?_
    refine lv_goto (tgt := 12) hx hb dJ6_getChars_ba4f3_8 (by decide) ?_
    refine lv_istore hx hb dJ6_getChars_ba4f3_12 hl (Nat.le_of_ble_eq_true rfl) rfl (fun ls hl => ?_)
    have hl : lv_has ls 7 [(6, .int (1 : Int32)), (5, .int p2), (0, .int p1), (1, .int p2), (2, .ref y0)] := hl
    refine lv_iload hx hb dJ6_getChars_ba4f3_14 (lv_at hl 0 rfl) ?_
    refine lv_if_ne (tgt := 22) hx hb dJ6_getChars_ba4f3_16 (by decide) (fun _ => ?_) (fun hc => absurd hc (by decide))
    have hl := lv_sub (l' := [(0, .int p1), (1, .int p2), (2, .ref y0), (5, .int p2), (6, .int (1 : Int32))]) hl [2, 3, 4, 1, 0] rfl
    obtain ⟨nF, h⟩ := h
    refine loop22_1 _ trivial ?_ nF p1 p2 yf _ _ _ hl hP hD hS h
    · intro i0 i5 yf' ls H locs hl hP hD hS h
      refine lv_aload_n hx hb dJ6_getChars_ba4f3_72 rfl (lv_at hl 2 rfl) ?_
      refine lv_iinc (v := (i5 + (-1))) hx hb dJ6_getChars_ba4f3_73 hl (k := 3) rfl (by rw [show Int32.ofInt (-1) = (-1) from by decide]) (Nat.le_of_ble_eq_true rfl) rfl (fun ls hl => ?_)
      have hl : lv_has ls 7 [(5, .int (i5 + (-1))), (0, .int i0), (1, .int p2), (2, .ref y0), (6, .int (1 : Int32))] := hl
      refine lv_iload hx hb dJ6_getChars_ba4f3_76 (lv_at hl 0 rfl) ?_
      refine va_gets hx hb hjO1 hS hown (hts _ q815) (fun _ h9 => h9) dJ6_getChars_ba4f3_78 ?_
      refine lv_iload_n hx hb dJ6_getChars_ba4f3_81 rfl (lv_at hl 1 rfl) ?_
      refine lv_ineg hx hb dJ6_getChars_ba4f3_82 ?_
      obtain ⟨hin, h⟩ := h
      refine va_tb hx hb hjO2 hS hin (v := .int (dOnes (-i0).toNatClampNeg)) rfl dJ6_getChars_ba4f3_83 ?_
      obtain ⟨hin, h⟩ := h
      refine va_bast (D := G.1) hx hb hK hP hD hS 0 2 rfl rfl hin dJ6_getChars_ba4f3_84 (fun H locs hP hD hS => ?_)
      have hP : PP G [(y0, .inl (G.2 2, yn, .inl (upd yf' (i5 + (-1)).toNatClampNeg (vp_nar .byte (dOnes (-i0).toNatClampNeg)))))] H := hP
      have hD : va_D A [(y0, .inl (G.2 2, yn, .inl (upd yf' (i5 + (-1)).toNatClampNeg (vp_nar .byte (dOnes (-i0).toNatClampNeg)))))] := hD
      refine lv_iload_n hx hb dJ6_getChars_ba4f3_85 rfl (lv_at hl 1 rfl) ?_
      refine lv_bipush (v := (-9)) hx hb dJ6_getChars_ba4f3_86 (by decide) ?_
      refine lv_icmp_ge (tgt := 104) hx hb dJ6_getChars_ba4f3_88 (by decide) (fun hc => ?_) (fun hc => ?_)
      · have h := h.1 hc
        refine lv_iload hx hb dJ6_getChars_ba4f3_104 (lv_at hl 4 rfl) ?_
        refine lv_if_eq (tgt := 118) hx hb dJ6_getChars_ba4f3_106 (by decide) (fun hc => absurd hc (by decide)) (fun _ => ?_)
        refine lv_aload_n hx hb dJ6_getChars_ba4f3_109 rfl (lv_at hl 3 rfl) ?_
        refine lv_iinc (v := ((i5 + (-1)) + (-1))) hx hb dJ6_getChars_ba4f3_110 hl (k := 0) rfl (by rw [show Int32.ofInt (-1) = (-1) from by decide]) (Nat.le_of_ble_eq_true rfl) rfl (fun ls hl => ?_)
        have hl : lv_has ls 7 [(5, .int ((i5 + (-1)) + (-1))), (0, .int i0), (1, .int p2), (2, .ref y0), (6, .int (1 : Int32))] := hl
        refine lv_iload hx hb dJ6_getChars_ba4f3_113 (lv_at hl 0 rfl) ?_
        refine lv_bipush (v := 45) hx hb dJ6_getChars_ba4f3_115 (by decide) ?_
        obtain ⟨hin, h⟩ := h
        refine va_bast (D := G.1) hx hb hK hP hD hS 0 2 rfl rfl hin dJ6_getChars_ba4f3_117 (fun H locs hP hD hS => ?_)
        have hP : PP G [(y0, .inl (G.2 2, yn, .inl (upd (upd yf' (i5 + (-1)).toNatClampNeg (vp_nar .byte (dOnes (-i0).toNatClampNeg))) ((i5 + (-1)) + (-1)).toNatClampNeg (vp_nar .byte (45 : Int32)))))] H := hP
        have hD : va_D A [(y0, .inl (G.2 2, yn, .inl (upd (upd yf' (i5 + (-1)).toNatClampNeg (vp_nar .byte (dOnes (-i0).toNatClampNeg))) ((i5 + (-1)) + (-1)).toNatClampNeg (vp_nar .byte (45 : Int32)))))] := hD
        refine lv_iload hx hb dJ6_getChars_ba4f3_118 (lv_at hl 0 rfl) ?_
        subst hQC; exact W.iret (v := ((i5 + (-1)) + (-1))) hx hb hr (fun t ht hW => ⟨⟨_, (upd (upd yf' (i5 + (-1)).toNatClampNeg (vp_nar .byte (dOnes (-i0).toNatClampNeg))) ((i5 + (-1)) + (-1)).toNatClampNeg (vp_nar .byte (45 : Int32))), rfl, h, by rw [ht]; exact hP, hD⟩, hS.F ht⟩) hS.2.2 dJ6_getChars_ba4f3_120
      · have h := h.2 hc
        refine lv_aload_n hx hb dJ6_getChars_ba4f3_91 rfl (lv_at hl 3 rfl) ?_
        refine lv_iinc (v := ((i5 + (-1)) + (-1))) hx hb dJ6_getChars_ba4f3_92 hl (k := 0) rfl (by rw [show Int32.ofInt (-1) = (-1) from by decide]) (Nat.le_of_ble_eq_true rfl) rfl (fun ls hl => ?_)
        have hl : lv_has ls 7 [(5, .int ((i5 + (-1)) + (-1))), (0, .int i0), (1, .int p2), (2, .ref y0), (6, .int (1 : Int32))] := hl
        refine lv_iload hx hb dJ6_getChars_ba4f3_95 (lv_at hl 0 rfl) ?_
        refine va_gets hx hb hjT1 hS hown (hts _ q817) (fun _ h9 => h9) dJ6_getChars_ba4f3_97 ?_
        refine lv_iload_n hx hb dJ6_getChars_ba4f3_100 rfl (lv_at hl 1 rfl) ?_
        refine lv_ineg hx hb dJ6_getChars_ba4f3_101 ?_
        obtain ⟨hin, h⟩ := h
        refine va_tb hx hb hjT2 hS hin (v := .int (dTens (-i0).toNatClampNeg)) rfl dJ6_getChars_ba4f3_102 ?_
        obtain ⟨hin, h⟩ := h
        refine va_bast (D := G.1) hx hb hK hP hD hS 0 2 rfl rfl hin dJ6_getChars_ba4f3_103 (fun H locs hP hD hS => ?_)
        have hP : PP G [(y0, .inl (G.2 2, yn, .inl (upd (upd yf' (i5 + (-1)).toNatClampNeg (vp_nar .byte (dOnes (-i0).toNatClampNeg))) ((i5 + (-1)) + (-1)).toNatClampNeg (vp_nar .byte (dTens (-i0).toNatClampNeg)))))] H := hP
        have hD : va_D A [(y0, .inl (G.2 2, yn, .inl (upd (upd yf' (i5 + (-1)).toNatClampNeg (vp_nar .byte (dOnes (-i0).toNatClampNeg))) ((i5 + (-1)) + (-1)).toNatClampNeg (vp_nar .byte (dTens (-i0).toNatClampNeg)))))] := hD
        refine lv_iload hx hb dJ6_getChars_ba4f3_104 (lv_at hl 4 rfl) ?_
        refine lv_if_eq (tgt := 118) hx hb dJ6_getChars_ba4f3_106 (by decide) (fun hc => absurd hc (by decide)) (fun _ => ?_)
        refine lv_aload_n hx hb dJ6_getChars_ba4f3_109 rfl (lv_at hl 3 rfl) ?_
        refine lv_iinc (v := (((i5 + (-1)) + (-1)) + (-1))) hx hb dJ6_getChars_ba4f3_110 hl (k := 0) rfl (by rw [show Int32.ofInt (-1) = (-1) from by decide]) (Nat.le_of_ble_eq_true rfl) rfl (fun ls hl => ?_)
        have hl : lv_has ls 7 [(5, .int (((i5 + (-1)) + (-1)) + (-1))), (0, .int i0), (1, .int p2), (2, .ref y0), (6, .int (1 : Int32))] := hl
        refine lv_iload hx hb dJ6_getChars_ba4f3_113 (lv_at hl 0 rfl) ?_
        refine lv_bipush (v := 45) hx hb dJ6_getChars_ba4f3_115 (by decide) ?_
        obtain ⟨hin, h⟩ := h
        refine va_bast (D := G.1) hx hb hK hP hD hS 0 2 rfl rfl hin dJ6_getChars_ba4f3_117 (fun H locs hP hD hS => ?_)
        have hP : PP G [(y0, .inl (G.2 2, yn, .inl (upd (upd (upd yf' (i5 + (-1)).toNatClampNeg (vp_nar .byte (dOnes (-i0).toNatClampNeg))) ((i5 + (-1)) + (-1)).toNatClampNeg (vp_nar .byte (dTens (-i0).toNatClampNeg))) (((i5 + (-1)) + (-1)) + (-1)).toNatClampNeg (vp_nar .byte (45 : Int32)))))] H := hP
        have hD : va_D A [(y0, .inl (G.2 2, yn, .inl (upd (upd (upd yf' (i5 + (-1)).toNatClampNeg (vp_nar .byte (dOnes (-i0).toNatClampNeg))) ((i5 + (-1)) + (-1)).toNatClampNeg (vp_nar .byte (dTens (-i0).toNatClampNeg))) (((i5 + (-1)) + (-1)) + (-1)).toNatClampNeg (vp_nar .byte (45 : Int32)))))] := hD
        refine lv_iload hx hb dJ6_getChars_ba4f3_118 (lv_at hl 0 rfl) ?_
        subst hQC; exact W.iret (v := (((i5 + (-1)) + (-1)) + (-1))) hx hb hr (fun t ht hW => ⟨⟨_, (upd (upd (upd yf' (i5 + (-1)).toNatClampNeg (vp_nar .byte (dOnes (-i0).toNatClampNeg))) ((i5 + (-1)) + (-1)).toNatClampNeg (vp_nar .byte (dTens (-i0).toNatClampNeg))) (((i5 + (-1)) + (-1)) + (-1)).toNatClampNeg (vp_nar .byte (45 : Int32))), rfl, h, by rw [ht]; exact hP, hD⟩, hS.F ht⟩) hS.2.2 dJ6_getChars_ba4f3_120
theorem dJ5_append_c97b9_0 : decode cJ5_append_c97b9 0 = .ok (.aload_n 0, 1) := by decide +kernel
theorem dJ5_append_c97b9_1 : decode cJ5_append_c97b9 1 = .ok (.getfield 79, 3) := by decide +kernel
theorem dJ5_append_c97b9_4 : decode cJ5_append_c97b9 4 = .ok (.istore_n 2, 1) := by decide +kernel
theorem dJ5_append_c97b9_5 : decode cJ5_append_c97b9 5 = .ok (.iload_n 2, 1) := by decide +kernel
theorem dJ5_append_c97b9_6 : decode cJ5_append_c97b9 6 = .ok (.iload_n 1, 1) := by decide +kernel
theorem dJ5_append_c97b9_7 : decode cJ5_append_c97b9 7 = .ok (.invokestatic 245, 3) := by decide +kernel
theorem dJ5_append_c97b9_10 : decode cJ5_append_c97b9 10 = .ok (.iadd, 1) := by decide +kernel
theorem dJ5_append_c97b9_11 : decode cJ5_append_c97b9 11 = .ok (.istore_n 3, 1) := by decide +kernel
theorem dJ5_append_c97b9_12 : decode cJ5_append_c97b9 12 = .ok (.aload_n 0, 1) := by decide +kernel
theorem dJ5_append_c97b9_13 : decode cJ5_append_c97b9 13 = .ok (.iload_n 3, 1) := by decide +kernel
theorem dJ5_append_c97b9_14 : decode cJ5_append_c97b9 14 = .ok (.invokevirtual 100, 3) := by decide +kernel
theorem dJ5_append_c97b9_17 : decode cJ5_append_c97b9 17 = .ok (.aload_n 0, 1) := by decide +kernel
theorem dJ5_append_c97b9_18 : decode cJ5_append_c97b9 18 = .ok (.invokevirtual 83, 3) := by decide +kernel
theorem dJ5_append_c97b9_21 : decode cJ5_append_c97b9 21 = .ok (.ifCond .eq 16, 3) := by decide +kernel
theorem dJ5_append_c97b9_24 : decode cJ5_append_c97b9 24 = .ok (.iload_n 1, 1) := by decide +kernel
theorem dJ5_append_c97b9_25 : decode cJ5_append_c97b9 25 = .ok (.iload_n 3, 1) := by decide +kernel
theorem dJ5_append_c97b9_26 : decode cJ5_append_c97b9 26 = .ok (.aload_n 0, 1) := by decide +kernel
theorem dJ5_append_c97b9_27 : decode cJ5_append_c97b9 27 = .ok (.getfield 15, 3) := by decide +kernel
theorem dJ5_append_c97b9_30 : decode cJ5_append_c97b9 30 = .ok (.invokestatic 248, 3) := by decide +kernel
theorem dJ5_append_c97b9_33 : decode cJ5_append_c97b9 33 = .ok (.pop, 1) := by decide +kernel
theorem dJ5_append_c97b9_34 : decode cJ5_append_c97b9 34 = .ok (.goto 14, 3) := by decide +kernel
theorem dJ5_append_c97b9_37 : decode cJ5_append_c97b9 37 = .ok (.iload_n 1, 1) := by decide +kernel
theorem dJ5_append_c97b9_38 : decode cJ5_append_c97b9 38 = .ok (.iload_n 2, 1) := by decide +kernel
theorem dJ5_append_c97b9_39 : decode cJ5_append_c97b9 39 = .ok (.iload_n 3, 1) := by decide +kernel
theorem dJ5_append_c97b9_40 : decode cJ5_append_c97b9 40 = .ok (.aload_n 0, 1) := by decide +kernel
theorem dJ5_append_c97b9_41 : decode cJ5_append_c97b9 41 = .ok (.getfield 15, 3) := by decide +kernel
theorem dJ5_append_c97b9_44 : decode cJ5_append_c97b9 44 = .ok (.invokestatic 251, 3) := by decide +kernel
theorem dJ5_append_c97b9_47 : decode cJ5_append_c97b9 47 = .ok (.pop, 1) := by decide +kernel
theorem dJ5_append_c97b9_48 : decode cJ5_append_c97b9 48 = .ok (.aload_n 0, 1) := by decide +kernel
theorem dJ5_append_c97b9_49 : decode cJ5_append_c97b9 49 = .ok (.iload_n 3, 1) := by decide +kernel
theorem dJ5_append_c97b9_50 : decode cJ5_append_c97b9 50 = .ok (.putfield 79, 3) := by decide +kernel
theorem dJ5_append_c97b9_53 : decode cJ5_append_c97b9 53 = .ok (.aload_n 0, 1) := by decide +kernel
theorem dJ5_append_c97b9_54 : decode cJ5_append_c97b9 54 = .ok (.areturn, 1) := by decide +kernel
def wnJ5_append_c97b9 (post : Int32 × Nat × (Nat → Int32) → Prop) (wc : Int32) (wn : Nat) (wf : Nat → Int32) (mcb : Nat) (msb : Nat) (p1 : Int32) : Prop :=
  wJ6_stringSize_0f7a4 (fun r_1 : Int32 =>
    ∃ b_1 b_2 : Nat,
    ((0 + b_1) ≤ mcb ∧ (0 + b_2) ≤ msb) ∧
    wnJ5_ensureCapacityInternal_d00df (fun (z_1 : Nat × (Nat → Int32)) =>
      wnJ6_getChars_ba4f3 (fun (r_4 : Int32) (yf_1 : Nat → Int32) =>
        ((0 + b_1) ≤ mcb ∧ (0 + b_2) ≤ msb) ∧
        post ((wc + r_1), z_1.1, yf_1)
        ) z_1.1 z_1.2 p1 (wc + r_1)
      ) wn wf b_1 b_2 (wc + r_1)
    ) p1
abbrev wl_nJ5_append_c97b9 : List Cond := .code yJ5_append_c97b9 cJ5_append_c97b9 4 (some (.object "java/lang/AbstractStringBuilder")) :: lwg
abbrev rm_nJ5_append_c97b9 (mcb msb : Nat) : Room := { frames := 4, cells := mcb, slots := msb, locals := 108 }
set_option maxHeartbeats 4000000 in
set_option maxRecDepth 100000 in
theorem knJ5_append_c97b9 {post : Int32 × Nat × (Nat → Int32) → Prop} (l : Launch) (G : GT) (wb : Nat) (wv : Nat) (wc : Int32) (wn : Nat) (wf : Nat → Int32) (mcb : Nat) (msb : Nat) (p1 : Int32) (sz : Nat) (h : wnJ5_append_c97b9 post wc wn wf mcb msb p1) : Met l yJ5_append_c97b9 wl_nJ5_append_c97b9 (rm_nJ5_append_c97b9 mcb msb) (va_Pc [.ref wb, .int p1] (fun U => U.heap.size = sz ∧ PP G [(wb, .inr (1, [.ref wv, .int (0 : Int32), .int (0 : Int32), .int wc])), (wv, .inl (G.2 2, wn, .inl wf))] U.heap ∧ KK G U ∧ va_D (fun _ => True) [(wb, .inr (1, [.ref wv, .int (0 : Int32), .int (0 : Int32), .int wc])), (wv, .inl (G.2 2, wn, .inl wf))] ∧ JJ G (va_A [(wb, .inr (1, [.ref wv, .int (0 : Int32), .int (0 : Int32), .int wc])), (wv, .inl (G.2 2, wn, .inl wf))] sz) U U.heap)) (va_Qr post (fun u ra t => ra = wb ∧ ∃ wvE : Nat, PP G [(wb, .inr (1, [.ref wvE, .int (0 : Int32), .int (0 : Int32), .int (u.1)])), (wvE, .inl (G.2 2, u.2.1, .inl (u.2.2)))] t.heap ∧ va_D (va_A [(wb, .inr (1, [.ref wv, .int (0 : Int32), .int (0 : Int32), .int wc])), (wv, .inl (G.2 2, wn, .inl wf))] sz) [(wb, .inr (1, [.ref wvE, .int (0 : Int32), .int (0 : Int32), .int (u.1)])), (wvE, .inl (G.2 2, u.2.1, .inl (u.2.2)))]) (va_A [(wb, .inr (1, [.ref wv, .int (0 : Int32), .int (0 : Int32), .int wc])), (wv, .inl (G.2 2, wn, .inl wf))] sz)) mcb msb (va_A [(wb, .inr (1, [.ref wv, .int (0 : Int32), .int (0 : Int32), .int wc])), (wv, .inl (G.2 2, wn, .inl wf))] sz) := by
  refine Met.ofW (cc := cJ5_append_c97b9) (maxL := 4) (ret := (some (.object "java/lang/AbstractStringBuilder"))) (by decide) rfl ?_
  intro p e s m args below meth c s₁ B hml hv
  obtain ⟨rfl, hsz, hP, hKK, hD0, hJ⟩ := hv
  obtain ⟨hK, hN, hR, hFW, hNC⟩ := id hKK
  have hx := B.exec
  have hb := B.bytes
  have hr := B.returns
  have hts0 := atoms_spec (ws := wl_nJ5_append_c97b9) B.pre
  have hts : ∀ w ∈ lwg, w.before ([.ref wb, .int p1] : List Value).toArray s = true := fun w hw => hts0 w (List.mem_cons_of_mem _ hw)
  have hown : s.vm.findClass RJ5 = some m.cls := findClass_of_methodNamed B.named
  have hlocks := B.notSynchronized
  subst hsz
  have hD := hD0.self (sz := s.heap.size)
  generalize hAe : va_A [(wb, .inr (1, [.ref wv, .int (0 : Int32), .int (0 : Int32), .int wc])), (wv, .inl (G.2 2, wn, .inl wf))] s.heap.size = A at hD hJ ⊢
  have hA : ∀ q : Nat, s.heap.size ≤ q → A q := fun q h => by rw [← hAe]; exact Or.inr h
  have hS : va_S A s.heap s.heap [] := va_S.rf
  obtain ⟨QC, hQC⟩ : ∃ Z, Z = (va_Qr post (fun u ra t => ra = wb ∧ ∃ wvE : Nat, PP G [(wb, .inr (1, [.ref wvE, .int (0 : Int32), .int (0 : Int32), .int (u.1)])), (wvE, .inl (G.2 2, u.2.1, .inl (u.2.2)))] t.heap ∧ va_D A [(wb, .inr (1, [.ref wvE, .int (0 : Int32), .int (0 : Int32), .int (u.1)])), (wvE, .inl (G.2 2, u.2.1, .inl (u.2.2)))]) A) := ⟨_, rfl⟩
  rw [← hQC]
  obtain ⟨jE, hjE⟩ := hJ.2.1
  obtain ⟨jT, hjT1, hjT2⟩ := hJ.2.2.1
  obtain ⟨jO, hjO1, hjO2⟩ := hJ.2.2.2.1
  obtain ⟨jS, hjS⟩ := hJ.2.2.2.2.1
  have hP : PP G [(wb, .inr (1, [.ref wv, .int (0 : Int32), .int (0 : Int32), .int wc])), (wv, .inl (G.2 2, wn, .inl wf))] s.heap := hP
  have hl := lv_entry ([.ref wb, .int p1]) (n := 4) (Nat.le_of_ble_eq_true rfl)
  rw [lg_entry_eq]
  generalize (lg_sl ([.ref wb, .int p1]) ++ List.replicate (4 - (lg_sl ([.ref wb, .int p1])).length) Slot.unset).toArray = ls at hl ⊢
  have hl : lv_has ls 4 [(0, .ref wb), (1, .int p1)] := hl
  refine lv_aload_n hx hb dJ5_append_c97b9_0 rfl (lv_at hl 0 rfl) ?_
  refine va_get (D := G.1) (ci := 1) (v := .int wc) (C := RJ4) (T := TJ4) (N := 4) hx hb hts igJ4 hown hK hP 0 rfl rfl 3 (by decide) (hts _ q695) (fun _ h9 => h9) rfl dJ5_append_c97b9_1 ?_
  refine lv_istore_n hx hb dJ5_append_c97b9_4 rfl hl (Nat.le_of_ble_eq_true rfl) rfl (fun ls hl => ?_)
  have hl : lv_has ls 4 [(2, .int wc), (0, .ref wb), (1, .int p1)] := hl
  refine lv_iload_n hx hb dJ5_append_c97b9_5 rfl (lv_at hl 0 rfl) ?_
  refine lv_iload_n hx hb dJ5_append_c97b9_6 rfl (lv_at hl 2 rfl) ?_
  have hPc := va_P.sub (ws' := []) hP [] rfl
  refine rdI (va_runS (As := [.int p1]) (rest := [.int wc]) ⟨hx, hb, hml, hown, hts⟩ (kJ6_stringSize_0f7a4 l G p1 h) (va_cwS 1 hts (gdS q809 q810 q23 q811) rfl rfl rfl (by decide +kernel) ⟨Nat.le_of_ble_eq_true rfl, Nat.le_of_ble_eq_true rfl⟩) (preS hPc hKK) rfl rfl hl.1 rfl (lv_room (Nat.le_of_ble_eq_true rfl)) dJ5_append_c97b9_7 ⟨Nat.zero_le _, Nat.zero_le _⟩) (fun r_1 h => ?_)
  refine lv_iadd hx hb dJ5_append_c97b9_10 ?_
  refine lv_istore_n hx hb dJ5_append_c97b9_11 rfl hl (Nat.le_of_ble_eq_true rfl) rfl (fun ls hl => ?_)
  have hl : lv_has ls 4 [(3, .int (wc + r_1)), (2, .int wc), (0, .ref wb), (1, .int p1)] := hl
  refine lv_aload_n hx hb dJ5_append_c97b9_12 rfl (lv_at hl 2 rfl) ?_
  refine lv_iload_n hx hb dJ5_append_c97b9_13 rfl (lv_at hl 0 rfl) ?_
  obtain ⟨b_1, b_2, h⟩ := h
  obtain ⟨⟨hq_1, hq_2⟩, h⟩ := h
  have hPc := hP
  have hDc := hD.sub (ws' := [(wb, .inr (1, [.ref wv, .int (0 : Int32), .int (0 : Int32), .int wc])), (wv, .inl (G.2 2, wn, .inl wf))]) [0, 1] (by decide) rfl
  have hFc := va_free (wc := [(wb, .inr (1, [.ref wv, .int (0 : Int32), .int (0 : Int32), .int wc])), (wv, .inl (G.2 2, wn, .inl wf))]) hD hS hA [0, 1] rfl
  refine va_callv (va_runU (C := RJ4) (As := [.int (wc + r_1)]) (rest := []) ⟨hx, hb, hml, hown, hts⟩ (knJ5_ensureCapacityInternal_d00df l G wb wv wc wn wf b_1 b_2 (wc + r_1) _ h) (va_cwU 1 hts (gdU q718 q1444 qu0 q720 q24 q721) rfl rfl rfl rfl (by decide +kernel) ⟨Nat.le_of_ble_eq_true rfl, Nat.le_of_ble_eq_true rfl⟩) (preVw hPc hKK hDc (va_recv hK hPc (ci := 1) (q0 := 0) rfl rfl)) rfl rfl hl.1 rfl (lv_room (Nat.le_of_ble_eq_true rfl)) dJ5_append_c97b9_14 ⟨hq_1, hq_2⟩) hS (fun q _ h => hFc q h) hFc (fun u t H1 locs ht hvm h hB hz1 hk1 hS => ?_)
  obtain ⟨wn_1, wf_1⟩ := u
  obtain ⟨wv_1, hB⟩ := hB
  obtain ⟨hP1, hD1⟩ := hB
  rw [ht] at hP1
  have hP := hP1
  have hD : va_D A [(wb, .inr (1, [.ref wv_1, .int (0 : Int32), .int (0 : Int32), .int wc])), (wv_1, .inl (G.2 2, wn_1, .inl wf_1))] := hD1.weaken (fun _ _ _ h => hFc _ h)
  generalize H1 = H at hP hS ⊢
  have hP : PP G [(wb, .inr (1, [.ref wv_1, .int (0 : Int32), .int (0 : Int32), .int wc])), (wv_1, .inl (G.2 2, wn_1, .inl wf_1))] H := hP
  refine lv_aload_n hx hb dJ5_append_c97b9_17 rfl (lv_at hl 2 rfl) ?_
  have hPc := va_P.sub (ws' := [(wb, .inr (1, [.ref wv_1, .int (0 : Int32), .int (0 : Int32), .int wc]))]) hP [0] rfl
  have hJc : JJ G (fun _ => False) s _ := (hJ.kept hS.2.1).narrow (fun _ h => False.elim h)
  refine rdI (va_runU (C := RJ4) (As := []) (rest := []) ⟨hx, hb, hml, hown, hts⟩ (kJ5_isLatin1_aae02 (post := fun r => r = (1 : Int32)) l G wb wv_1 wc rfl) (va_cwU 0 hts (gdU q749 q751 q752 q750 q24 q753) rfl rfl rfl rfl (by decide +kernel) ⟨Nat.le_of_ble_eq_true rfl, Nat.le_of_ble_eq_true rfl⟩) (preVj hPc hKK hJc (va_recv hK hPc (ci := 1) (q0 := 0) rfl rfl)) rfl rfl hl.1 rfl (lv_room (Nat.le_of_ble_eq_true rfl)) dJ5_append_c97b9_18 ⟨(by exact Nat.le_trans (Nat.le_of_eq (Nat.add_zero _)) hq_1), (by exact Nat.le_trans (Nat.le_of_eq (Nat.add_zero _)) hq_2)⟩) (fun r_3 er => ?_)
  subst er
  refine lv_if_eq (tgt := 37) hx hb dJ5_append_c97b9_21 (by decide) (fun hc => absurd hc (by decide)) (fun _ => ?_)
  refine lv_iload_n hx hb dJ5_append_c97b9_24 rfl (lv_at hl 3 rfl) ?_
  refine lv_iload_n hx hb dJ5_append_c97b9_25 rfl (lv_at hl 0 rfl) ?_
  refine lv_aload_n hx hb dJ5_append_c97b9_26 rfl (lv_at hl 2 rfl) ?_
  refine va_get (D := G.1) (ci := 1) (v := .ref wv_1) (C := RJ4) (T := TJ4) (N := 4) hx hb hts igJ4 hown hK hP 0 rfl rfl 0 (by decide) (hts _ q692) (fun _ h9 => h9) rfl dJ5_append_c97b9_27 ?_
  have hPc := va_P.sub (ws' := [(wv_1, .inl (G.2 2, wn_1, .inl wf_1))]) hP [1] rfl
  have hDc := hD.sub (ws' := [(wv_1, .inl (G.2 2, wn_1, .inl wf_1))]) [1] (by decide) rfl
  have hFc := va_free (wc := [(wv_1, .inl (G.2 2, wn_1, .inl wf_1))]) hD hS hA [1] rfl
  have hJc := (hJ.kept hS.2.1).narrow hFc
  refine va_calli (va_runS (As := [.int p1, .int (wc + r_1), .ref wv_1]) (rest := []) ⟨hx, hb, hml, hown, hts⟩ (knJ6_getChars_ba4f3 l G wv_1 wn_1 wf_1 p1 (wc + r_1) _ h) (va_cwS 3 hts (gdS q812 q813 q23 q814) rfl rfl rfl (by decide +kernel) ⟨Nat.le_of_ble_eq_true rfl, Nat.le_of_ble_eq_true rfl⟩) (preSwj hPc hKK hDc hJc) rfl rfl hl.1 rfl (lv_room (Nat.le_of_ble_eq_true rfl)) dJ5_append_c97b9_30 ⟨(by exact Nat.le_trans (Nat.le_of_eq (Nat.add_zero _)) hq_1), (by exact Nat.le_trans (Nat.le_of_eq (Nat.add_zero _)) hq_2)⟩) hS (fun q _ h => hFc q h) hFc (fun r_4 u t H1 locs ht hvm h hB hz1 hk1 hS => ?_)
  obtain ⟨yf_1, rfl⟩ : ∃ z, z = u := ⟨_, rfl⟩
  obtain ⟨hP1, hD1⟩ := hB
  rw [ht] at hP1
  obtain ⟨hP, hD⟩ := va_join (wr := [(wb, .inr (1, [.ref wv_1, .int (0 : Int32), .int (0 : Int32), .int wc]))]) (w1 := [(wv_1, .inl (G.2 2, wn_1, .inl yf_1))]) hP hD [1] [0] rfl rfl (by decide) (by decide) hk1 hFc hP1 hD1
  generalize H1 = H at hP hS ⊢
  have hP : PP G [(wb, .inr (1, [.ref wv_1, .int (0 : Int32), .int (0 : Int32), .int wc])), (wv_1, .inl (G.2 2, wn_1, .inl yf_1))] H := va_P.sub hP [0, 1] rfl
  have hD : va_D A [(wb, .inr (1, [.ref wv_1, .int (0 : Int32), .int (0 : Int32), .int wc])), (wv_1, .inl (G.2 2, wn_1, .inl yf_1))] := hD.sub [0, 1] (by decide) rfl
  refine lv_pop hx hb dJ5_append_c97b9_33 rfl ?_
  refine lv_goto (tgt := 48) hx hb dJ5_append_c97b9_34 (by decide) ?_
  refine lv_aload_n hx hb dJ5_append_c97b9_48 rfl (lv_at hl 2 rfl) ?_
  refine lv_iload_n hx hb dJ5_append_c97b9_49 rfl (lv_at hl 0 rfl) ?_
  refine va_put (D := G.1) (ci := 1) (v := .int (wc + r_1)) (ty := .int) (C := RJ4) (T := TJ4) (N := 4) hx hb hts igJ4 tyJ4 tyJ4_ok nmJ4 hown hK hP hD hS 0 rfl rfl 3 (by decide) (hts _ q695) (fun _ h9 => h9) rfl (by decide +kernel) rfl rfl (Nat.le_of_ble_eq_true rfl) dJ5_append_c97b9_50 (fun H locs hP hD hS => ?_)
  have hP : PP G [(wb, .inr (1, [.ref wv_1, .int (0 : Int32), .int (0 : Int32), .int (wc + r_1)])), (wv_1, .inl (G.2 2, wn_1, .inl yf_1))] H := hP
  have hD : va_D A [(wb, .inr (1, [.ref wv_1, .int (0 : Int32), .int (0 : Int32), .int (wc + r_1)])), (wv_1, .inl (G.2 2, wn_1, .inl yf_1))] := hD
  refine lv_aload_n hx hb dJ5_append_c97b9_53 rfl (lv_at hl 2 rfl) ?_
  obtain ⟨⟨hw1, hw2⟩, h⟩ := h
  refine W.widen (k := mcb) (n := msb) hw1 hw2 ?_
  subst hQC; exact W.aret (v := .ref wb) hx hb hr (by first | exact Or.inl ⟨_, rfl⟩ | exact Or.inr ⟨_, rfl⟩) (Or.inr ⟨_, rfl⟩) (fun t ht hW => ⟨⟨((wc + r_1), wn_1, yf_1), wb, rfl, h, rfl, wv_1, by rw [ht]; exact hP, hD⟩, hS.F ht⟩) hS.2.2 dJ5_append_c97b9_54
theorem dJ4_append_bf812_0 : decode cJ4_append_bf812 0 = .ok (.aload_n 0, 1) := by decide +kernel
theorem dJ4_append_bf812_1 : decode cJ4_append_bf812 1 = .ok (.iload_n 1, 1) := by decide +kernel
theorem dJ4_append_bf812_2 : decode cJ4_append_bf812 2 = .ok (.invokespecial 53, 3) := by decide +kernel
theorem dJ4_append_bf812_5 : decode cJ4_append_bf812 5 = .ok (.pop, 1) := by decide +kernel
theorem dJ4_append_bf812_6 : decode cJ4_append_bf812 6 = .ok (.aload_n 0, 1) := by decide +kernel
theorem dJ4_append_bf812_7 : decode cJ4_append_bf812 7 = .ok (.areturn, 1) := by decide +kernel
def wnJ4_append_bf812 (post : Int32 × Nat × (Nat → Int32) → Prop) (wc : Int32) (wn : Nat) (wf : Nat → Int32) (mcb : Nat) (msb : Nat) (p1 : Int32) : Prop :=
  ∃ b_1 b_2 : Nat,
  ((0 + b_1) ≤ mcb ∧ (0 + b_2) ≤ msb) ∧
  wnJ5_append_c97b9 (fun (z_1 : Int32 × Nat × (Nat → Int32)) =>
    ((0 + b_1) ≤ mcb ∧ (0 + b_2) ≤ msb) ∧
    post (z_1.1, z_1.2.1, z_1.2.2)
    ) wc wn wf b_1 b_2 p1
abbrev wl_nJ4_append_bf812 : List Cond := .code yJ4_append_bf812 cJ4_append_bf812 2 (some (.object "java/lang/StringBuilder")) :: lwg
abbrev rm_nJ4_append_bf812 (mcb msb : Nat) : Room := { frames := 5, cells := mcb, slots := msb, locals := 131 }
set_option maxHeartbeats 4000000 in
set_option maxRecDepth 100000 in
theorem knJ4_append_bf812 {post : Int32 × Nat × (Nat → Int32) → Prop} (l : Launch) (G : GT) (wb : Nat) (wv : Nat) (wc : Int32) (wn : Nat) (wf : Nat → Int32) (mcb : Nat) (msb : Nat) (p1 : Int32) (sz : Nat) (h : wnJ4_append_bf812 post wc wn wf mcb msb p1) : Met l yJ4_append_bf812 wl_nJ4_append_bf812 (rm_nJ4_append_bf812 mcb msb) (va_Pc [.ref wb, .int p1] (fun U => U.heap.size = sz ∧ PP G [(wb, .inr (1, [.ref wv, .int (0 : Int32), .int (0 : Int32), .int wc])), (wv, .inl (G.2 2, wn, .inl wf))] U.heap ∧ KK G U ∧ va_D (fun _ => True) [(wb, .inr (1, [.ref wv, .int (0 : Int32), .int (0 : Int32), .int wc])), (wv, .inl (G.2 2, wn, .inl wf))] ∧ JJ G (va_A [(wb, .inr (1, [.ref wv, .int (0 : Int32), .int (0 : Int32), .int wc])), (wv, .inl (G.2 2, wn, .inl wf))] sz) U U.heap)) (va_Qr post (fun u ra t => ra = wb ∧ ∃ wvE : Nat, PP G [(wb, .inr (1, [.ref wvE, .int (0 : Int32), .int (0 : Int32), .int (u.1)])), (wvE, .inl (G.2 2, u.2.1, .inl (u.2.2)))] t.heap ∧ va_D (va_A [(wb, .inr (1, [.ref wv, .int (0 : Int32), .int (0 : Int32), .int wc])), (wv, .inl (G.2 2, wn, .inl wf))] sz) [(wb, .inr (1, [.ref wvE, .int (0 : Int32), .int (0 : Int32), .int (u.1)])), (wvE, .inl (G.2 2, u.2.1, .inl (u.2.2)))]) (va_A [(wb, .inr (1, [.ref wv, .int (0 : Int32), .int (0 : Int32), .int wc])), (wv, .inl (G.2 2, wn, .inl wf))] sz)) mcb msb (va_A [(wb, .inr (1, [.ref wv, .int (0 : Int32), .int (0 : Int32), .int wc])), (wv, .inl (G.2 2, wn, .inl wf))] sz) := by
  refine Met.ofW (cc := cJ4_append_bf812) (maxL := 2) (ret := (some (.object "java/lang/StringBuilder"))) (by decide) rfl ?_
  intro p e s m args below meth c s₁ B hml hv
  obtain ⟨rfl, hsz, hP, hKK, hD0, hJ⟩ := hv
  obtain ⟨hK, hN, hR, hFW, hNC⟩ := id hKK
  have hx := B.exec
  have hb := B.bytes
  have hr := B.returns
  have hts0 := atoms_spec (ws := wl_nJ4_append_bf812) B.pre
  have hts : ∀ w ∈ lwg, w.before ([.ref wb, .int p1] : List Value).toArray s = true := fun w hw => hts0 w (List.mem_cons_of_mem _ hw)
  have hown : s.vm.findClass RJ4 = some m.cls := findClass_of_methodNamed B.named
  have hlocks := B.notSynchronized
  subst hsz
  have hD := hD0.self (sz := s.heap.size)
  generalize hAe : va_A [(wb, .inr (1, [.ref wv, .int (0 : Int32), .int (0 : Int32), .int wc])), (wv, .inl (G.2 2, wn, .inl wf))] s.heap.size = A at hD hJ ⊢
  have hA : ∀ q : Nat, s.heap.size ≤ q → A q := fun q h => by rw [← hAe]; exact Or.inr h
  have hS : va_S A s.heap s.heap [] := va_S.rf
  obtain ⟨QC, hQC⟩ : ∃ Z, Z = (va_Qr post (fun u ra t => ra = wb ∧ ∃ wvE : Nat, PP G [(wb, .inr (1, [.ref wvE, .int (0 : Int32), .int (0 : Int32), .int (u.1)])), (wvE, .inl (G.2 2, u.2.1, .inl (u.2.2)))] t.heap ∧ va_D A [(wb, .inr (1, [.ref wvE, .int (0 : Int32), .int (0 : Int32), .int (u.1)])), (wvE, .inl (G.2 2, u.2.1, .inl (u.2.2)))]) A) := ⟨_, rfl⟩
  rw [← hQC]
  obtain ⟨jE, hjE⟩ := hJ.2.1
  obtain ⟨jT, hjT1, hjT2⟩ := hJ.2.2.1
  obtain ⟨jO, hjO1, hjO2⟩ := hJ.2.2.2.1
  obtain ⟨jS, hjS⟩ := hJ.2.2.2.2.1
  have hP : PP G [(wb, .inr (1, [.ref wv, .int (0 : Int32), .int (0 : Int32), .int wc])), (wv, .inl (G.2 2, wn, .inl wf))] s.heap := hP
  have hl := lv_entry ([.ref wb, .int p1]) (n := 2) (Nat.le_of_ble_eq_true rfl)
  rw [lg_entry_eq]
  generalize (lg_sl ([.ref wb, .int p1]) ++ List.replicate (2 - (lg_sl ([.ref wb, .int p1])).length) Slot.unset).toArray = ls at hl ⊢
  have hl : lv_has ls 2 [(0, .ref wb), (1, .int p1)] := hl
  refine lv_aload_n hx hb dJ4_append_bf812_0 rfl (lv_at hl 0 rfl) ?_
  refine lv_iload_n hx hb dJ4_append_bf812_1 rfl (lv_at hl 1 rfl) ?_
  obtain ⟨b_1, b_2, h⟩ := h
  obtain ⟨⟨hq_1, hq_2⟩, h⟩ := h
  have hPc := hP
  have hDc := hD.sub (ws' := [(wb, .inr (1, [.ref wv, .int (0 : Int32), .int (0 : Int32), .int wc])), (wv, .inl (G.2 2, wn, .inl wf))]) [0, 1] (by decide) rfl
  have hFc := va_free (wc := [(wb, .inr (1, [.ref wv, .int (0 : Int32), .int (0 : Int32), .int wc])), (wv, .inl (G.2 2, wn, .inl wf))]) hD hS hA [0, 1] rfl
  have hJc := (hJ.kept hS.2.1).narrow hFc
  refine va_callr (va_runSU (C := RJ4) (As := [.int p1]) (rest := []) (hK.1 1 _ rfl).2 ⟨hx, hb, hml, hown, hts⟩ (knJ5_append_c97b9 l G wb wv wc wn wf b_1 b_2 p1 _ h) (va_cwSU 1 hts (gdSU q806 q1447 q704 q807 q24 q808) rfl rfl rfl (by decide +kernel) ⟨Nat.le_of_ble_eq_true rfl, Nat.le_of_ble_eq_true rfl⟩) (preVwj hPc hKK hDc hJc (va_recv hK hPc (ci := 1) (q0 := 0) rfl rfl)) rfl rfl hl.1 rfl (lv_room (Nat.le_of_ble_eq_true rfl)) dJ4_append_bf812_2 ⟨hq_1, hq_2⟩) hS (fun q _ h => hFc q h) hFc (fun u ra t H1 locs ht hvm h hB hz1 hk1 hS => ?_)
  obtain ⟨wc_1, wn_1, wf_1⟩ := u
  obtain ⟨era, hB⟩ := hB
  rw [era]
  obtain ⟨wv_1, hB⟩ := hB
  obtain ⟨hP1, hD1⟩ := hB
  rw [ht] at hP1
  have hP := hP1
  have hD : va_D A [(wb, .inr (1, [.ref wv_1, .int (0 : Int32), .int (0 : Int32), .int wc_1])), (wv_1, .inl (G.2 2, wn_1, .inl wf_1))] := hD1.weaken (fun _ _ _ h => hFc _ h)
  generalize H1 = H at hP hS ⊢
  have hP : PP G [(wb, .inr (1, [.ref wv_1, .int (0 : Int32), .int (0 : Int32), .int wc_1])), (wv_1, .inl (G.2 2, wn_1, .inl wf_1))] H := hP
  refine lv_pop hx hb dJ4_append_bf812_5 rfl ?_
  refine lv_aload_n hx hb dJ4_append_bf812_6 rfl (lv_at hl 0 rfl) ?_
  obtain ⟨⟨hw1, hw2⟩, h⟩ := h
  refine W.widen (k := mcb) (n := msb) hw1 hw2 ?_
  subst hQC; exact W.aret (v := .ref wb) hx hb hr (by first | exact Or.inl ⟨_, rfl⟩ | exact Or.inr ⟨_, rfl⟩) (Or.inr ⟨_, rfl⟩) (fun t ht hW => ⟨⟨(wc_1, wn_1, wf_1), wb, rfl, h, rfl, wv_1, by rw [ht]; exact hP, hD⟩, hS.F ht⟩) hS.2.2 dJ4_append_bf812_7
theorem dJ0_coder_7d493_0 : decode cJ0_coder_7d493 0 = .ok (.getstatic 38, 3) := by decide +kernel
theorem dJ0_coder_7d493_3 : decode cJ0_coder_7d493 3 = .ok (.ifCond .eq 10, 3) := by decide +kernel
theorem dJ0_coder_7d493_6 : decode cJ0_coder_7d493 6 = .ok (.aload_n 0, 1) := by decide +kernel
theorem dJ0_coder_7d493_7 : decode cJ0_coder_7d493 7 = .ok (.getfield 15, 3) := by decide +kernel
theorem dJ0_coder_7d493_10 : decode cJ0_coder_7d493 10 = .ok (.goto 4, 3) := by decide +kernel
theorem dJ0_coder_7d493_13 : decode cJ0_coder_7d493 13 = .ok (.iconst 1, 1) := by decide +kernel
theorem dJ0_coder_7d493_14 : decode cJ0_coder_7d493 14 = .ok (.ireturn, 1) := by decide +kernel
def wJ0_coder_7d493 (post : Int32 → Prop) : Prop :=
  post (0 : Int32)
abbrev wl_J0_coder_7d493 : List Cond := .code yJ0_coder_7d493 cJ0_coder_7d493 1 (some .byte) :: lwg
abbrev rm_J0_coder_7d493 : Room := { frames := 0, cells := 0, slots := 0, locals := 0 }
set_option maxHeartbeats 4000000 in
set_option maxRecDepth 100000 in
theorem kJ0_coder_7d493 {post : Int32 → Prop} (l : Launch) (G : GT) (ta : Nat) (td : Nat) (tn : Nat) (tf : Nat → Int32) (h : wJ0_coder_7d493 post ) : Met l yJ0_coder_7d493 wl_J0_coder_7d493 rm_J0_coder_7d493 (va_Pc [.ref ta] (fun U => PP G [] U.heap ∧ KK G U ∧ JJ G (fun _ => False) U U.heap ∧ ST ta td tn tf (fun _ => False) U U.heap)) (vp_Si post) 0 0 (fun _ => False) := by
  refine Met.ofW (cc := cJ0_coder_7d493) (maxL := 1) (ret := (some .byte)) (by decide) rfl ?_
  intro p e s m args below meth c s₁ B hml hv
  obtain ⟨rfl, hP, hKK, hJ, hTt⟩ := hv
  obtain ⟨hK, hN, hR, hFW, hNC⟩ := id hKK
  have hx := B.exec
  have hb := B.bytes
  have hr := B.returns
  have hts0 := atoms_spec (ws := wl_J0_coder_7d493) B.pre
  have hts : ∀ w ∈ lwg, w.before ([.ref ta] : List Value).toArray s = true := fun w hw => hts0 w (List.mem_cons_of_mem _ hw)
  have hown : s.vm.findClass RJ0 = some m.cls := findClass_of_methodNamed B.named
  have hlocks := B.notSynchronized
  obtain ⟨jE, hjE⟩ := hJ.2.1
  obtain ⟨jT, hjT1, hjT2⟩ := hJ.2.2.1
  obtain ⟨jO, hjO1, hjO2⟩ := hJ.2.2.2.1
  obtain ⟨jS, hjS⟩ := hJ.2.2.2.2.1
  have hS : va_S (fun _ => False) s.heap s.heap [] := va_S.rf
  have hP : PP G [] s.heap := hP
  have hl := lv_entry ([.ref ta]) (n := 1) (Nat.le_of_ble_eq_true rfl)
  rw [lg_entry_eq]
  generalize (lg_sl ([.ref ta]) ++ List.replicate (1 - (lg_sl ([.ref ta])).length) Slot.unset).toArray = ls at hl ⊢
  have hl : lv_has ls 1 [(0, .ref ta)] := hl
  refine va_gets hx hb hJ.1 hS hown (hts _ q902) (fun _ h9 => h9) dJ0_coder_7d493_0 ?_
  refine lv_if_eq (tgt := 13) hx hb dJ0_coder_7d493_3 (by decide) (fun hc => absurd hc (by decide)) (fun _ => ?_)
  refine lv_aload_n hx hb dJ0_coder_7d493_6 rfl (lv_at hl 0 rfl) ?_
  refine vk_getf hx hb hTt.2.1 hS hown (hts _ q934) (fun _ h9 => h9) dJ0_coder_7d493_7 ?_
  refine lv_goto (tgt := 14) hx hb dJ0_coder_7d493_10 (by decide) ?_
  exact W.zret (v := (0 : Int32)) hx hb hr (by decide) (fun t ht _ => ⟨_, rfl, h, ht⟩) (fun _ hq => absurd hq List.not_mem_nil) dJ0_coder_7d493_14
theorem dJ0_length_8abf5_0 : decode cJ0_length_8abf5 0 = .ok (.aload_n 0, 1) := by decide +kernel
theorem dJ0_length_8abf5_1 : decode cJ0_length_8abf5 1 = .ok (.getfield 9, 3) := by decide +kernel
theorem dJ0_length_8abf5_4 : decode cJ0_length_8abf5 4 = .ok (.arraylength, 1) := by decide +kernel
theorem dJ0_length_8abf5_5 : decode cJ0_length_8abf5 5 = .ok (.aload_n 0, 1) := by decide +kernel
theorem dJ0_length_8abf5_6 : decode cJ0_length_8abf5 6 = .ok (.invokevirtual 335, 3) := by decide +kernel
theorem dJ0_length_8abf5_9 : decode cJ0_length_8abf5 9 = .ok (.ishr, 1) := by decide +kernel
theorem dJ0_length_8abf5_10 : decode cJ0_length_8abf5 10 = .ok (.ireturn, 1) := by decide +kernel
def wJ0_length_8abf5 (post : Int32 → Prop) (tn : Nat) : Prop :=
  post ((nI tn) >>> ((0 : Int32) &&& 31))
abbrev wl_J0_length_8abf5 : List Cond := .code yJ0_length_8abf5 cJ0_length_8abf5 1 (some .int) :: lwg
abbrev rm_J0_length_8abf5 : Room := { frames := 1, cells := 0, slots := 0, locals := 20 }
set_option maxHeartbeats 4000000 in
set_option maxRecDepth 100000 in
theorem kJ0_length_8abf5 {post : Int32 → Prop} (l : Launch) (G : GT) (ta : Nat) (td : Nat) (tn : Nat) (tf : Nat → Int32) (h : wJ0_length_8abf5 post tn) : Met l yJ0_length_8abf5 wl_J0_length_8abf5 rm_J0_length_8abf5 (va_Pc [.ref ta] (fun U => PP G [] U.heap ∧ KK G U ∧ JJ G (fun _ => False) U U.heap ∧ ST ta td tn tf (fun _ => False) U U.heap)) (vp_Si post) 0 0 (fun _ => False) := by
  refine Met.ofW (cc := cJ0_length_8abf5) (maxL := 1) (ret := (some .int)) (by decide) rfl ?_
  intro p e s m args below meth c s₁ B hml hv
  obtain ⟨rfl, hP, hKK, hJ, hTt⟩ := hv
  obtain ⟨hK, hN, hR, hFW, hNC⟩ := id hKK
  have hx := B.exec
  have hb := B.bytes
  have hr := B.returns
  have hts0 := atoms_spec (ws := wl_J0_length_8abf5) B.pre
  have hts : ∀ w ∈ lwg, w.before ([.ref ta] : List Value).toArray s = true := fun w hw => hts0 w (List.mem_cons_of_mem _ hw)
  have hown : s.vm.findClass RJ0 = some m.cls := findClass_of_methodNamed B.named
  have hlocks := B.notSynchronized
  obtain ⟨jE, hjE⟩ := hJ.2.1
  obtain ⟨jT, hjT1, hjT2⟩ := hJ.2.2.1
  obtain ⟨jO, hjO1, hjO2⟩ := hJ.2.2.2.1
  obtain ⟨jS, hjS⟩ := hJ.2.2.2.2.1
  have hS : va_S (fun _ => False) s.heap s.heap [] := va_S.rf
  have hP : PP G [] s.heap := hP
  have hl := lv_entry ([.ref ta]) (n := 1) (Nat.le_of_ble_eq_true rfl)
  rw [lg_entry_eq]
  generalize (lg_sl ([.ref ta]) ++ List.replicate (1 - (lg_sl ([.ref ta])).length) Slot.unset).toArray = ls at hl ⊢
  have hl : lv_has ls 1 [(0, .ref ta)] := hl
  refine lv_aload_n hx hb dJ0_length_8abf5_0 rfl (lv_at hl 0 rfl) ?_
  refine vk_getf hx hb hTt.2.2.1 hS hown (hts _ q933) (fun _ h9 => h9) dJ0_length_8abf5_1 ?_
  refine va_tlen hx hb hTt.2.2.2 hS (v := nI tn) rfl dJ0_length_8abf5_4 ?_
  refine lv_aload_n hx hb dJ0_length_8abf5_5 rfl (lv_at hl 0 rfl) ?_
  have hPc := hP
  have hJc : JJ G (fun _ => False) s _ := (hJ.kept hS.2.1).narrow (fun _ h => False.elim h)
  have hTc := (hTt.kept hS.2.1).narrow (fun _ (h : False) => False.elim h)
  refine rdI (va_runV (C := RJ0) (As := []) (rest := [.int (nI tn)]) ⟨hx, hb, hml, hown, hts⟩ (kJ0_coder_7d493 (post := fun r => r = (0 : Int32)) l G ta td tn tf rfl) (cwV 0 hts (gdV q898 q899 q900 q26 q901) rfl rfl rfl (by decide +kernel) ⟨Nat.le_of_ble_eq_true rfl, Nat.le_of_ble_eq_true rfl⟩) (preVjt hPc hKK hJc hTc hTc.recv) rfl rfl hl.1 rfl (lv_room (Nat.le_of_ble_eq_true rfl)) dJ0_length_8abf5_6 ⟨Nat.zero_le _, Nat.zero_le _⟩) (fun r_1 er => ?_)
  subst er
  refine lv_ishr hx hb dJ0_length_8abf5_9 ?_
  exact W.iret (v := ((nI tn) >>> ((0 : Int32) &&& 31))) hx hb hr (fun t ht _ => ⟨_, rfl, h, ht⟩) (fun _ hq => absurd hq List.not_mem_nil) dJ0_length_8abf5_10
theorem dJ0_isLatin1_aae02_0 : decode cJ0_isLatin1_aae02 0 = .ok (.getstatic 38, 3) := by decide +kernel
theorem dJ0_isLatin1_aae02_3 : decode cJ0_isLatin1_aae02 3 = .ok (.ifCond .eq 14, 3) := by decide +kernel
theorem dJ0_isLatin1_aae02_6 : decode cJ0_isLatin1_aae02 6 = .ok (.aload_n 0, 1) := by decide +kernel
theorem dJ0_isLatin1_aae02_7 : decode cJ0_isLatin1_aae02 7 = .ok (.getfield 15, 3) := by decide +kernel
theorem dJ0_isLatin1_aae02_10 : decode cJ0_isLatin1_aae02 10 = .ok (.ifCond .ne 7, 3) := by decide +kernel
theorem dJ0_isLatin1_aae02_13 : decode cJ0_isLatin1_aae02 13 = .ok (.iconst 1, 1) := by decide +kernel
theorem dJ0_isLatin1_aae02_14 : decode cJ0_isLatin1_aae02 14 = .ok (.goto 4, 3) := by decide +kernel
theorem dJ0_isLatin1_aae02_17 : decode cJ0_isLatin1_aae02 17 = .ok (.iconst 0, 1) := by decide +kernel
theorem dJ0_isLatin1_aae02_18 : decode cJ0_isLatin1_aae02 18 = .ok (.ireturn, 1) := by decide +kernel
def wJ0_isLatin1_aae02 (post : Int32 → Prop) : Prop :=
  post (1 : Int32)
abbrev wl_J0_isLatin1_aae02 : List Cond := .code yJ0_isLatin1_aae02 cJ0_isLatin1_aae02 1 (some .boolean) :: lwg
abbrev rm_J0_isLatin1_aae02 : Room := { frames := 0, cells := 0, slots := 0, locals := 0 }
set_option maxHeartbeats 4000000 in
set_option maxRecDepth 100000 in
theorem kJ0_isLatin1_aae02 {post : Int32 → Prop} (l : Launch) (G : GT) (ta : Nat) (td : Nat) (tn : Nat) (tf : Nat → Int32) (h : wJ0_isLatin1_aae02 post ) : Met l yJ0_isLatin1_aae02 wl_J0_isLatin1_aae02 rm_J0_isLatin1_aae02 (va_Pc [.ref ta] (fun U => PP G [] U.heap ∧ KK G U ∧ JJ G (fun _ => False) U U.heap ∧ ST ta td tn tf (fun _ => False) U U.heap)) (vp_Si post) 0 0 (fun _ => False) := by
  refine Met.ofW (cc := cJ0_isLatin1_aae02) (maxL := 1) (ret := (some .boolean)) (by decide) rfl ?_
  intro p e s m args below meth c s₁ B hml hv
  obtain ⟨rfl, hP, hKK, hJ, hTt⟩ := hv
  obtain ⟨hK, hN, hR, hFW, hNC⟩ := id hKK
  have hx := B.exec
  have hb := B.bytes
  have hr := B.returns
  have hts0 := atoms_spec (ws := wl_J0_isLatin1_aae02) B.pre
  have hts : ∀ w ∈ lwg, w.before ([.ref ta] : List Value).toArray s = true := fun w hw => hts0 w (List.mem_cons_of_mem _ hw)
  have hown : s.vm.findClass RJ0 = some m.cls := findClass_of_methodNamed B.named
  have hlocks := B.notSynchronized
  obtain ⟨jE, hjE⟩ := hJ.2.1
  obtain ⟨jT, hjT1, hjT2⟩ := hJ.2.2.1
  obtain ⟨jO, hjO1, hjO2⟩ := hJ.2.2.2.1
  obtain ⟨jS, hjS⟩ := hJ.2.2.2.2.1
  have hS : va_S (fun _ => False) s.heap s.heap [] := va_S.rf
  have hP : PP G [] s.heap := hP
  have hl := lv_entry ([.ref ta]) (n := 1) (Nat.le_of_ble_eq_true rfl)
  rw [lg_entry_eq]
  generalize (lg_sl ([.ref ta]) ++ List.replicate (1 - (lg_sl ([.ref ta])).length) Slot.unset).toArray = ls at hl ⊢
  have hl : lv_has ls 1 [(0, .ref ta)] := hl
  refine va_gets hx hb hJ.1 hS hown (hts _ q902) (fun _ h9 => h9) dJ0_isLatin1_aae02_0 ?_
  refine lv_if_eq (tgt := 17) hx hb dJ0_isLatin1_aae02_3 (by decide) (fun hc => absurd hc (by decide)) (fun _ => ?_)
  refine lv_aload_n hx hb dJ0_isLatin1_aae02_6 rfl (lv_at hl 0 rfl) ?_
  refine vk_getf hx hb hTt.2.1 hS hown (hts _ q934) (fun _ h9 => h9) dJ0_isLatin1_aae02_7 ?_
  refine lv_if_ne (tgt := 17) hx hb dJ0_isLatin1_aae02_10 (by decide) (fun hc => absurd hc (by decide)) (fun _ => ?_)
  refine lv_iconst (v := 1) hx hb dJ0_isLatin1_aae02_13 (by decide) ?_
  refine lv_goto (tgt := 18) hx hb dJ0_isLatin1_aae02_14 (by decide) ?_
  exact W.zret (v := (1 : Int32)) hx hb hr (by decide) (fun t ht _ => ⟨_, rfl, h, ht⟩) (fun _ hq => absurd hq List.not_mem_nil) dJ0_isLatin1_aae02_18
theorem dJ0_getBytes_840e7_0 : decode cJ0_getBytes_840e7 0 = .ok (.aload_n 0, 1) := by decide +kernel
theorem dJ0_getBytes_840e7_1 : decode cJ0_getBytes_840e7 1 = .ok (.invokevirtual 335, 3) := by decide +kernel
theorem dJ0_getBytes_840e7_4 : decode cJ0_getBytes_840e7 4 = .ok (.iload_n 3, 1) := by decide +kernel
theorem dJ0_getBytes_840e7_5 : decode cJ0_getBytes_840e7 5 = .ok (.if_icmp .ne 23, 3) := by decide +kernel
theorem dJ0_getBytes_840e7_8 : decode cJ0_getBytes_840e7 8 = .ok (.aload_n 0, 1) := by decide +kernel
theorem dJ0_getBytes_840e7_9 : decode cJ0_getBytes_840e7 9 = .ok (.getfield 9, 3) := by decide +kernel
theorem dJ0_getBytes_840e7_12 : decode cJ0_getBytes_840e7 12 = .ok (.iconst 0, 1) := by decide +kernel
theorem dJ0_getBytes_840e7_13 : decode cJ0_getBytes_840e7 13 = .ok (.aload_n 1, 1) := by decide +kernel
theorem dJ0_getBytes_840e7_14 : decode cJ0_getBytes_840e7 14 = .ok (.iload_n 2, 1) := by decide +kernel
theorem dJ0_getBytes_840e7_15 : decode cJ0_getBytes_840e7 15 = .ok (.iload_n 3, 1) := by decide +kernel
theorem dJ0_getBytes_840e7_16 : decode cJ0_getBytes_840e7 16 = .ok (.ishl, 1) := by decide +kernel
theorem dJ0_getBytes_840e7_17 : decode cJ0_getBytes_840e7 17 = .ok (.aload_n 0, 1) := by decide +kernel
theorem dJ0_getBytes_840e7_18 : decode cJ0_getBytes_840e7 18 = .ok (.getfield 9, 3) := by decide +kernel
theorem dJ0_getBytes_840e7_21 : decode cJ0_getBytes_840e7 21 = .ok (.arraylength, 1) := by decide +kernel
theorem dJ0_getBytes_840e7_22 : decode cJ0_getBytes_840e7 22 = .ok (.invokestatic 212, 3) := by decide +kernel
theorem dJ0_getBytes_840e7_25 : decode cJ0_getBytes_840e7 25 = .ok (.goto 18, 3) := by decide +kernel
theorem dJ0_getBytes_840e7_28 : decode cJ0_getBytes_840e7 28 = .ok (.aload_n 0, 1) := by decide +kernel
theorem dJ0_getBytes_840e7_29 : decode cJ0_getBytes_840e7 29 = .ok (.getfield 9, 3) := by decide +kernel
theorem dJ0_getBytes_840e7_32 : decode cJ0_getBytes_840e7 32 = .ok (.iconst 0, 1) := by decide +kernel
theorem dJ0_getBytes_840e7_33 : decode cJ0_getBytes_840e7 33 = .ok (.aload_n 1, 1) := by decide +kernel
theorem dJ0_getBytes_840e7_34 : decode cJ0_getBytes_840e7 34 = .ok (.iload_n 2, 1) := by decide +kernel
theorem dJ0_getBytes_840e7_35 : decode cJ0_getBytes_840e7 35 = .ok (.aload_n 0, 1) := by decide +kernel
theorem dJ0_getBytes_840e7_36 : decode cJ0_getBytes_840e7 36 = .ok (.getfield 9, 3) := by decide +kernel
theorem dJ0_getBytes_840e7_39 : decode cJ0_getBytes_840e7 39 = .ok (.arraylength, 1) := by decide +kernel
theorem dJ0_getBytes_840e7_40 : decode cJ0_getBytes_840e7 40 = .ok (.invokestatic 106, 3) := by decide +kernel
theorem dJ0_getBytes_840e7_43 : decode cJ0_getBytes_840e7 43 = .ok (.return_, 1) := by decide +kernel
def wnJ0_getBytes_840e7 (post : (Nat → Int32) → Prop) (yn : Nat) (yf : Nat → Int32) (tn : Nat) (tf : Nat → Int32) (p2 : Int32) : Prop :=
  (¬ (0 : Int32) < 0 ∧ ¬ (p2 <<< ((0 : Int32) &&& 31)) < 0 ∧ ¬ (nI tn) < 0 ∧ (0 : Int32).toNatClampNeg + (nI tn).toNatClampNeg ≤ tn ∧ (p2 <<< ((0 : Int32) &&& 31)).toNatClampNeg + (nI tn).toNatClampNeg ≤ yn ∧ ∀ i : Nat, i < (nI tn).toNatClampNeg → FB (tf ((0 : Int32).toNatClampNeg + i))) ∧
  post (va_cpy tf yf (0 : Int32).toNatClampNeg (p2 <<< ((0 : Int32) &&& 31)).toNatClampNeg (nI tn).toNatClampNeg)
abbrev wl_nJ0_getBytes_840e7 : List Cond := .code yJ0_getBytes_840e7 cJ0_getBytes_840e7 4 none :: lwg
abbrev rm_nJ0_getBytes_840e7 : Room := { frames := 1, cells := 0, slots := 0, locals := 64 }
set_option maxHeartbeats 4000000 in
set_option maxRecDepth 100000 in
theorem knJ0_getBytes_840e7 {post : (Nat → Int32) → Prop} (l : Launch) (G : GT) (y0 : Nat) (ta : Nat) (td : Nat) (yn : Nat) (yf : Nat → Int32) (tn : Nat) (tf : Nat → Int32) (p2 : Int32) (sz : Nat) (h : wnJ0_getBytes_840e7 post yn yf tn tf p2) : Met l yJ0_getBytes_840e7 wl_nJ0_getBytes_840e7 rm_nJ0_getBytes_840e7 (va_Pc [.ref ta, .ref y0, .int p2, .int (0 : Int32)] (fun U => U.heap.size = sz ∧ PP G [(y0, .inl (G.2 2, yn, .inl yf))] U.heap ∧ KK G U ∧ va_D (fun _ => True) [(y0, .inl (G.2 2, yn, .inl yf))] ∧ JJ G (va_A [(y0, .inl (G.2 2, yn, .inl yf))] sz) U U.heap ∧ ST ta td tn tf (va_A [(y0, .inl (G.2 2, yn, .inl yf))] sz) U U.heap)) (va_Qv post (fun u t => PP G [(y0, .inl (G.2 2, yn, .inl u))] t.heap ∧ va_D (va_A [(y0, .inl (G.2 2, yn, .inl yf))] sz) [(y0, .inl (G.2 2, yn, .inl u))]) (va_A [(y0, .inl (G.2 2, yn, .inl yf))] sz)) 0 0 (va_A [(y0, .inl (G.2 2, yn, .inl yf))] sz) := by
  refine Met.ofW (cc := cJ0_getBytes_840e7) (maxL := 4) (ret := none) (by decide) rfl ?_
  intro p e s m args below meth c s₁ B hml hv
  obtain ⟨rfl, hsz, hP, hKK, hD0, hJ, hTt⟩ := hv
  obtain ⟨hK, hN, hR, hFW, hNC⟩ := id hKK
  have hx := B.exec
  have hb := B.bytes
  have hr := B.returns
  have hts0 := atoms_spec (ws := wl_nJ0_getBytes_840e7) B.pre
  have hts : ∀ w ∈ lwg, w.before ([.ref ta, .ref y0, .int p2, .int (0 : Int32)] : List Value).toArray s = true := fun w hw => hts0 w (List.mem_cons_of_mem _ hw)
  have hown : s.vm.findClass RJ0 = some m.cls := findClass_of_methodNamed B.named
  have hlocks := B.notSynchronized
  subst hsz
  have hD := hD0.self (sz := s.heap.size)
  generalize hAe : va_A [(y0, .inl (G.2 2, yn, .inl yf))] s.heap.size = A at hD hJ hTt ⊢
  have hA : ∀ q : Nat, s.heap.size ≤ q → A q := fun q h => by rw [← hAe]; exact Or.inr h
  have hS : va_S A s.heap s.heap [] := va_S.rf
  obtain ⟨QC, hQC⟩ : ∃ Z, Z = (va_Qv post (fun u t => PP G [(y0, .inl (G.2 2, yn, .inl u))] t.heap ∧ va_D A [(y0, .inl (G.2 2, yn, .inl u))]) A) := ⟨_, rfl⟩
  rw [← hQC]
  obtain ⟨jE, hjE⟩ := hJ.2.1
  obtain ⟨jT, hjT1, hjT2⟩ := hJ.2.2.1
  obtain ⟨jO, hjO1, hjO2⟩ := hJ.2.2.2.1
  obtain ⟨jS, hjS⟩ := hJ.2.2.2.2.1
  have hP : PP G [(y0, .inl (G.2 2, yn, .inl yf))] s.heap := hP
  have hl := lv_entry ([.ref ta, .ref y0, .int p2, .int (0 : Int32)]) (n := 4) (Nat.le_of_ble_eq_true rfl)
  rw [lg_entry_eq]
  generalize (lg_sl ([.ref ta, .ref y0, .int p2, .int (0 : Int32)]) ++ List.replicate (4 - (lg_sl ([.ref ta, .ref y0, .int p2, .int (0 : Int32)])).length) Slot.unset).toArray = ls at hl ⊢
  have hl : lv_has ls 4 [(0, .ref ta), (1, .ref y0), (2, .int p2), (3, .int (0 : Int32))] := hl
  refine lv_aload_n hx hb dJ0_getBytes_840e7_0 rfl (lv_at hl 0 rfl) ?_
  have hPc := va_P.sub (ws' := []) hP [] rfl
  have hJc : JJ G (fun _ => False) s _ := (hJ.kept hS.2.1).narrow (fun _ h => False.elim h)
  have hTc := (hTt.kept hS.2.1).narrow (fun _ (h : False) => False.elim h)
  refine rdI (va_runV (C := RJ0) (As := []) (rest := []) ⟨hx, hb, hml, hown, hts⟩ (kJ0_coder_7d493 (post := fun r => r = (0 : Int32)) l G ta td tn tf rfl) (cwV 0 hts (gdV q898 q899 q900 q26 q901) rfl rfl rfl (by decide +kernel) ⟨Nat.le_of_ble_eq_true rfl, Nat.le_of_ble_eq_true rfl⟩) (preVjt hPc hKK hJc hTc hTc.recv) rfl rfl hl.1 rfl (lv_room (Nat.le_of_ble_eq_true rfl)) dJ0_getBytes_840e7_1 ⟨Nat.zero_le _, Nat.zero_le _⟩) (fun r_1 er => ?_)
  subst er
  refine lv_iload_n hx hb dJ0_getBytes_840e7_4 rfl (lv_at hl 3 rfl) ?_
  refine lv_icmp_ne (tgt := 28) hx hb dJ0_getBytes_840e7_5 (by decide) (fun hc => absurd hc (by decide)) (fun _ => ?_)
  refine lv_aload_n hx hb dJ0_getBytes_840e7_8 rfl (lv_at hl 0 rfl) ?_
  refine vk_getf hx hb hTt.2.2.1 hS hown (hts _ q933) (fun _ h9 => h9) dJ0_getBytes_840e7_9 ?_
  refine lv_iconst (v := 0) hx hb dJ0_getBytes_840e7_12 (by decide) ?_
  refine lv_aload_n hx hb dJ0_getBytes_840e7_13 rfl (lv_at hl 1 rfl) ?_
  refine lv_iload_n hx hb dJ0_getBytes_840e7_14 rfl (lv_at hl 2 rfl) ?_
  refine lv_iload_n hx hb dJ0_getBytes_840e7_15 rfl (lv_at hl 3 rfl) ?_
  refine lv_ishl hx hb dJ0_getBytes_840e7_16 ?_
  refine lv_aload_n hx hb dJ0_getBytes_840e7_17 rfl (lv_at hl 0 rfl) ?_
  refine vk_getf hx hb hTt.2.2.1 hS hown (hts _ q933) (fun _ h9 => h9) dJ0_getBytes_840e7_18 ?_
  refine va_tlen hx hb hTt.2.2.2 hS (v := nI tn) rfl dJ0_getBytes_840e7_21 ?_
  obtain ⟨⟨ha1, ha2, ha3, ha4, ha5, ha6⟩, h⟩ := h
  refine vk_copyt (D := G.1) hx hb (by rw [hml]; exact hl.1.symm) hown (hts _ q916) (hts _ q469) (hts _ q468) (hts _ q21) hK hP hD hS hTt.2.2.2 0 2 rfl rfl ha1 ha2 ha3 ha4 ha5 (fun i hi => ha6 i hi) (Nat.le_of_ble_eq_true rfl) (Nat.le_of_ble_eq_true rfl) dJ0_getBytes_840e7_22 (fun H locs hP hD hS => ?_)
  have hP : PP G [(y0, .inl (G.2 2, yn, .inl (va_cpy tf yf (0 : Int32).toNatClampNeg (p2 <<< ((0 : Int32) &&& 31)).toNatClampNeg (nI tn).toNatClampNeg)))] H := hP
  have hD : va_D A [(y0, .inl (G.2 2, yn, .inl (va_cpy tf yf (0 : Int32).toNatClampNeg (p2 <<< ((0 : Int32) &&& 31)).toNatClampNeg (nI tn).toNatClampNeg)))] := hD
  refine lv_goto (tgt := 43) hx hb dJ0_getBytes_840e7_25 (by decide) ?_
  subst hQC; exact W.vret hx hb hr (fun t ht hW => ⟨⟨(va_cpy tf yf (0 : Int32).toNatClampNeg (p2 <<< ((0 : Int32) &&& 31)).toNatClampNeg (nI tn).toNatClampNeg), rfl, h, by rw [ht]; exact hP, hD⟩, hS.F ht⟩) hS.2.2 dJ0_getBytes_840e7_43
theorem dJ5_inflateIfNeededFor_a7421_0 : decode cJ5_inflateIfNeededFor_a7421 0 = .ok (.getstatic 18, 3) := by decide +kernel
theorem dJ5_inflateIfNeededFor_a7421_3 : decode cJ5_inflateIfNeededFor_a7421 3 = .ok (.ifCond .eq 18, 3) := by decide +kernel
theorem dJ5_inflateIfNeededFor_a7421_6 : decode cJ5_inflateIfNeededFor_a7421 6 = .ok (.aload_n 0, 1) := by decide +kernel
theorem dJ5_inflateIfNeededFor_a7421_7 : decode cJ5_inflateIfNeededFor_a7421 7 = .ok (.getfield 22, 3) := by decide +kernel
theorem dJ5_inflateIfNeededFor_a7421_10 : decode cJ5_inflateIfNeededFor_a7421 10 = .ok (.aload_n 1, 1) := by decide +kernel
theorem dJ5_inflateIfNeededFor_a7421_11 : decode cJ5_inflateIfNeededFor_a7421 11 = .ok (.invokevirtual 40, 3) := by decide +kernel
theorem dJ5_inflateIfNeededFor_a7421_14 : decode cJ5_inflateIfNeededFor_a7421 14 = .ok (.if_icmp .eq 7, 3) := by decide +kernel
theorem dJ5_inflateIfNeededFor_a7421_17 : decode cJ5_inflateIfNeededFor_a7421 17 = .ok (.aload_n 0, 1) := by decide +kernel
theorem dJ5_inflateIfNeededFor_a7421_18 : decode cJ5_inflateIfNeededFor_a7421 18 = .ok (.invokevirtual 195, 3) := by decide +kernel
theorem dJ5_inflateIfNeededFor_a7421_21 : decode cJ5_inflateIfNeededFor_a7421 21 = .ok (.return_, 1) := by decide +kernel
def wnJ5_inflateIfNeededFor_a7421 (post : Unit → Prop) : Prop :=
  post ()
abbrev wl_nJ5_inflateIfNeededFor_a7421 : List Cond := .code yJ5_inflateIfNeededFor_a7421 cJ5_inflateIfNeededFor_a7421 2 none :: lwg
abbrev rm_nJ5_inflateIfNeededFor_a7421 : Room := { frames := 1, cells := 0, slots := 0, locals := 20 }
set_option maxHeartbeats 4000000 in
set_option maxRecDepth 100000 in
theorem knJ5_inflateIfNeededFor_a7421 {post : Unit → Prop} (l : Launch) (G : GT) (wb : Nat) (wv : Nat) (ta : Nat) (td : Nat) (wc : Int32) (tn : Nat) (tf : Nat → Int32) (h : wnJ5_inflateIfNeededFor_a7421 post ) : Met l yJ5_inflateIfNeededFor_a7421 wl_nJ5_inflateIfNeededFor_a7421 rm_nJ5_inflateIfNeededFor_a7421 (va_Pc [.ref wb, .ref ta] (fun U => PP G [(wb, .inr (1, [.ref wv, .int (0 : Int32), .int (0 : Int32), .int wc]))] U.heap ∧ KK G U ∧ JJ G (fun _ => False) U U.heap ∧ ST ta td tn tf (fun _ => False) U U.heap)) (va_Sv post) 0 0 (fun _ => False) := by
  refine Met.ofW (cc := cJ5_inflateIfNeededFor_a7421) (maxL := 2) (ret := none) (by decide) rfl ?_
  intro p e s m args below meth c s₁ B hml hv
  obtain ⟨rfl, hP, hKK, hJ, hTt⟩ := hv
  obtain ⟨hK, hN, hR, hFW, hNC⟩ := id hKK
  have hx := B.exec
  have hb := B.bytes
  have hr := B.returns
  have hts0 := atoms_spec (ws := wl_nJ5_inflateIfNeededFor_a7421) B.pre
  have hts : ∀ w ∈ lwg, w.before ([.ref wb, .ref ta] : List Value).toArray s = true := fun w hw => hts0 w (List.mem_cons_of_mem _ hw)
  have hown : s.vm.findClass RJ5 = some m.cls := findClass_of_methodNamed B.named
  have hlocks := B.notSynchronized
  obtain ⟨jE, hjE⟩ := hJ.2.1
  obtain ⟨jT, hjT1, hjT2⟩ := hJ.2.2.1
  obtain ⟨jO, hjO1, hjO2⟩ := hJ.2.2.2.1
  obtain ⟨jS, hjS⟩ := hJ.2.2.2.2.1
  have hS : va_S (fun _ => False) s.heap s.heap [] := va_S.rf
  have hP : PP G [(wb, .inr (1, [.ref wv, .int (0 : Int32), .int (0 : Int32), .int wc]))] s.heap := hP
  have hl := lv_entry ([.ref wb, .ref ta]) (n := 2) (Nat.le_of_ble_eq_true rfl)
  rw [lg_entry_eq]
  generalize (lg_sl ([.ref wb, .ref ta]) ++ List.replicate (2 - (lg_sl ([.ref wb, .ref ta])).length) Slot.unset).toArray = ls at hl ⊢
  have hl : lv_has ls 2 [(0, .ref wb), (1, .ref ta)] := hl
  refine va_gets hx hb hJ.1 hS hown (hts _ q683) (fun _ h9 => h9) dJ5_inflateIfNeededFor_a7421_0 ?_
  refine lv_if_eq (tgt := 21) hx hb dJ5_inflateIfNeededFor_a7421_3 (by decide) (fun hc => absurd hc (by decide)) (fun _ => ?_)
  refine lv_aload_n hx hb dJ5_inflateIfNeededFor_a7421_6 rfl (lv_at hl 0 rfl) ?_
  refine va_get (D := G.1) (ci := 1) (v := .int (0 : Int32)) (C := RJ4) (T := TJ4) (N := 4) hx hb hts igJ4 hown hK hP 0 rfl rfl 1 (by decide) (hts _ q693) (fun _ h9 => h9) rfl dJ5_inflateIfNeededFor_a7421_7 ?_
  refine lv_aload_n hx hb dJ5_inflateIfNeededFor_a7421_10 rfl (lv_at hl 1 rfl) ?_
  have hPc := va_P.sub (ws' := []) hP [] rfl
  have hJc : JJ G (fun _ => False) s _ := (hJ.kept hS.2.1).narrow (fun _ h => False.elim h)
  have hTc := (hTt.kept hS.2.1).narrow (fun _ (h : False) => False.elim h)
  refine rdI (va_runV (C := RJ0) (As := []) (rest := [.int (0 : Int32)]) ⟨hx, hb, hml, hown, hts⟩ (kJ0_coder_7d493 (post := fun r => r = (0 : Int32)) l G ta td tn tf rfl) (cwV 0 hts (gdV q911 q899 q900 q26 q901) rfl rfl rfl (by decide +kernel) ⟨Nat.le_of_ble_eq_true rfl, Nat.le_of_ble_eq_true rfl⟩) (preVjt hPc hKK hJc hTc hTc.recv) rfl rfl hl.1 rfl (lv_room (Nat.le_of_ble_eq_true rfl)) dJ5_inflateIfNeededFor_a7421_11 ⟨Nat.zero_le _, Nat.zero_le _⟩) (fun r_1 er => ?_)
  subst er
  refine lv_icmp_eq (tgt := 21) hx hb dJ5_inflateIfNeededFor_a7421_14 (by decide) (fun _ => ?_) (fun hc => absurd (by decide) hc)
  exact W.vret hx hb hr (fun t ht _ => ⟨rfl, h, ht⟩) (fun _ hq => absurd hq List.not_mem_nil) dJ5_inflateIfNeededFor_a7421_21
theorem dJ5_putStringAt_47b60_0 : decode cJ5_putStringAt_47b60 0 = .ok (.aload_n 0, 1) := by decide +kernel
theorem dJ5_putStringAt_47b60_1 : decode cJ5_putStringAt_47b60 1 = .ok (.aload_n 2, 1) := by decide +kernel
theorem dJ5_putStringAt_47b60_2 : decode cJ5_putStringAt_47b60 2 = .ok (.invokevirtual 397, 3) := by decide +kernel
theorem dJ5_putStringAt_47b60_5 : decode cJ5_putStringAt_47b60 5 = .ok (.aload_n 2, 1) := by decide +kernel
theorem dJ5_putStringAt_47b60_6 : decode cJ5_putStringAt_47b60 6 = .ok (.aload_n 0, 1) := by decide +kernel
theorem dJ5_putStringAt_47b60_7 : decode cJ5_putStringAt_47b60 7 = .ok (.getfield 15, 3) := by decide +kernel
theorem dJ5_putStringAt_47b60_10 : decode cJ5_putStringAt_47b60 10 = .ok (.iload_n 1, 1) := by decide +kernel
theorem dJ5_putStringAt_47b60_11 : decode cJ5_putStringAt_47b60 11 = .ok (.aload_n 0, 1) := by decide +kernel
theorem dJ5_putStringAt_47b60_12 : decode cJ5_putStringAt_47b60 12 = .ok (.getfield 22, 3) := by decide +kernel
theorem dJ5_putStringAt_47b60_15 : decode cJ5_putStringAt_47b60 15 = .ok (.invokevirtual 399, 3) := by decide +kernel
theorem dJ5_putStringAt_47b60_18 : decode cJ5_putStringAt_47b60 18 = .ok (.return_, 1) := by decide +kernel
def wnJ5_putStringAt_47b60 (post : (Nat → Int32) → Prop) (wn : Nat) (wf : Nat → Int32) (tn : Nat) (tf : Nat → Int32) (p1 : Int32) : Prop :=
  wnJ5_inflateIfNeededFor_a7421 (fun _ =>
    wnJ0_getBytes_840e7 (fun (yf_1 : Nat → Int32) =>
      post yf_1
      ) wn wf tn tf p1
    ) 
abbrev wl_nJ5_putStringAt_47b60 : List Cond := .code yJ5_putStringAt_47b60 cJ5_putStringAt_47b60 3 none :: lwg
abbrev rm_nJ5_putStringAt_47b60 : Room := { frames := 2, cells := 0, slots := 0, locals := 87 }
set_option maxHeartbeats 4000000 in
set_option maxRecDepth 100000 in
theorem knJ5_putStringAt_47b60 {post : (Nat → Int32) → Prop} (l : Launch) (G : GT) (wb : Nat) (wv : Nat) (ta : Nat) (td : Nat) (wc : Int32) (wn : Nat) (wf : Nat → Int32) (tn : Nat) (tf : Nat → Int32) (p1 : Int32) (sz : Nat) (h : wnJ5_putStringAt_47b60 post wn wf tn tf p1) : Met l yJ5_putStringAt_47b60 wl_nJ5_putStringAt_47b60 rm_nJ5_putStringAt_47b60 (va_Pc [.ref wb, .int p1, .ref ta] (fun U => U.heap.size = sz ∧ PP G [(wb, .inr (1, [.ref wv, .int (0 : Int32), .int (0 : Int32), .int wc])), (wv, .inl (G.2 2, wn, .inl wf))] U.heap ∧ KK G U ∧ va_D (fun _ => True) [(wb, .inr (1, [.ref wv, .int (0 : Int32), .int (0 : Int32), .int wc])), (wv, .inl (G.2 2, wn, .inl wf))] ∧ JJ G (va_A [(wb, .inr (1, [.ref wv, .int (0 : Int32), .int (0 : Int32), .int wc])), (wv, .inl (G.2 2, wn, .inl wf))] sz) U U.heap ∧ ST ta td tn tf (va_A [(wb, .inr (1, [.ref wv, .int (0 : Int32), .int (0 : Int32), .int wc])), (wv, .inl (G.2 2, wn, .inl wf))] sz) U U.heap)) (va_Qv post (fun u t => PP G [(wb, .inr (1, [.ref wv, .int (0 : Int32), .int (0 : Int32), .int wc])), (wv, .inl (G.2 2, wn, .inl u))] t.heap ∧ va_D (va_A [(wb, .inr (1, [.ref wv, .int (0 : Int32), .int (0 : Int32), .int wc])), (wv, .inl (G.2 2, wn, .inl wf))] sz) [(wb, .inr (1, [.ref wv, .int (0 : Int32), .int (0 : Int32), .int wc])), (wv, .inl (G.2 2, wn, .inl u))]) (va_A [(wb, .inr (1, [.ref wv, .int (0 : Int32), .int (0 : Int32), .int wc])), (wv, .inl (G.2 2, wn, .inl wf))] sz)) 0 0 (va_A [(wb, .inr (1, [.ref wv, .int (0 : Int32), .int (0 : Int32), .int wc])), (wv, .inl (G.2 2, wn, .inl wf))] sz) := by
  refine Met.ofW (cc := cJ5_putStringAt_47b60) (maxL := 3) (ret := none) (by decide) rfl ?_
  intro p e s m args below meth c s₁ B hml hv
  obtain ⟨rfl, hsz, hP, hKK, hD0, hJ, hTt⟩ := hv
  obtain ⟨hK, hN, hR, hFW, hNC⟩ := id hKK
  have hx := B.exec
  have hb := B.bytes
  have hr := B.returns
  have hts0 := atoms_spec (ws := wl_nJ5_putStringAt_47b60) B.pre
  have hts : ∀ w ∈ lwg, w.before ([.ref wb, .int p1, .ref ta] : List Value).toArray s = true := fun w hw => hts0 w (List.mem_cons_of_mem _ hw)
  have hown : s.vm.findClass RJ5 = some m.cls := findClass_of_methodNamed B.named
  have hlocks := B.notSynchronized
  subst hsz
  have hD := hD0.self (sz := s.heap.size)
  generalize hAe : va_A [(wb, .inr (1, [.ref wv, .int (0 : Int32), .int (0 : Int32), .int wc])), (wv, .inl (G.2 2, wn, .inl wf))] s.heap.size = A at hD hJ hTt ⊢
  have hA : ∀ q : Nat, s.heap.size ≤ q → A q := fun q h => by rw [← hAe]; exact Or.inr h
  have hS : va_S A s.heap s.heap [] := va_S.rf
  obtain ⟨QC, hQC⟩ : ∃ Z, Z = (va_Qv post (fun u t => PP G [(wb, .inr (1, [.ref wv, .int (0 : Int32), .int (0 : Int32), .int wc])), (wv, .inl (G.2 2, wn, .inl u))] t.heap ∧ va_D A [(wb, .inr (1, [.ref wv, .int (0 : Int32), .int (0 : Int32), .int wc])), (wv, .inl (G.2 2, wn, .inl u))]) A) := ⟨_, rfl⟩
  rw [← hQC]
  obtain ⟨jE, hjE⟩ := hJ.2.1
  obtain ⟨jT, hjT1, hjT2⟩ := hJ.2.2.1
  obtain ⟨jO, hjO1, hjO2⟩ := hJ.2.2.2.1
  obtain ⟨jS, hjS⟩ := hJ.2.2.2.2.1
  have hP : PP G [(wb, .inr (1, [.ref wv, .int (0 : Int32), .int (0 : Int32), .int wc])), (wv, .inl (G.2 2, wn, .inl wf))] s.heap := hP
  have hl := lv_entry ([.ref wb, .int p1, .ref ta]) (n := 3) (Nat.le_of_ble_eq_true rfl)
  rw [lg_entry_eq]
  generalize (lg_sl ([.ref wb, .int p1, .ref ta]) ++ List.replicate (3 - (lg_sl ([.ref wb, .int p1, .ref ta])).length) Slot.unset).toArray = ls at hl ⊢
  have hl : lv_has ls 3 [(0, .ref wb), (1, .int p1), (2, .ref ta)] := hl
  refine lv_aload_n hx hb dJ5_putStringAt_47b60_0 rfl (lv_at hl 0 rfl) ?_
  refine lv_aload_n hx hb dJ5_putStringAt_47b60_1 rfl (lv_at hl 2 rfl) ?_
  have hPc := va_P.sub (ws' := [(wb, .inr (1, [.ref wv, .int (0 : Int32), .int (0 : Int32), .int wc]))]) hP [0] rfl
  have hJc : JJ G (fun _ => False) s _ := (hJ.kept hS.2.1).narrow (fun _ h => False.elim h)
  have hTc := (hTt.kept hS.2.1).narrow (fun _ (h : False) => False.elim h)
  refine rdV (va_runU (C := RJ4) (As := [.ref ta]) (rest := []) ⟨hx, hb, hml, hown, hts⟩ (knJ5_inflateIfNeededFor_a7421 l G wb wv ta td wc tn tf h) (va_cwU 1 hts (gdU q907 q1451 qu3 q909 q24 q910) rfl rfl rfl rfl (by decide +kernel) ⟨Nat.le_of_ble_eq_true rfl, Nat.le_of_ble_eq_true rfl⟩) (preVjt hPc hKK hJc hTc (va_recv hK hPc (ci := 1) (q0 := 0) rfl rfl)) rfl rfl hl.1 rfl (lv_room (Nat.le_of_ble_eq_true rfl)) dJ5_putStringAt_47b60_2 ⟨Nat.zero_le _, Nat.zero_le _⟩) (fun  h => ?_)
  refine lv_aload_n hx hb dJ5_putStringAt_47b60_5 rfl (lv_at hl 2 rfl) ?_
  refine lv_aload_n hx hb dJ5_putStringAt_47b60_6 rfl (lv_at hl 0 rfl) ?_
  refine va_get (D := G.1) (ci := 1) (v := .ref wv) (C := RJ4) (T := TJ4) (N := 4) hx hb hts igJ4 hown hK hP 0 rfl rfl 0 (by decide) (hts _ q692) (fun _ h9 => h9) rfl dJ5_putStringAt_47b60_7 ?_
  refine lv_iload_n hx hb dJ5_putStringAt_47b60_10 rfl (lv_at hl 1 rfl) ?_
  refine lv_aload_n hx hb dJ5_putStringAt_47b60_11 rfl (lv_at hl 0 rfl) ?_
  refine va_get (D := G.1) (ci := 1) (v := .int (0 : Int32)) (C := RJ4) (T := TJ4) (N := 4) hx hb hts igJ4 hown hK hP 0 rfl rfl 1 (by decide) (hts _ q693) (fun _ h9 => h9) rfl dJ5_putStringAt_47b60_12 ?_
  have hPc := va_P.sub (ws' := [(wv, .inl (G.2 2, wn, .inl wf))]) hP [1] rfl
  have hDc := hD.sub (ws' := [(wv, .inl (G.2 2, wn, .inl wf))]) [1] (by decide) rfl
  have hFc := va_free (wc := [(wv, .inl (G.2 2, wn, .inl wf))]) hD hS hA [1] rfl
  have hJc := (hJ.kept hS.2.1).narrow hFc
  have hTc := (hTt.kept hS.2.1).narrow hFc
  refine va_callv (va_runV (C := RJ0) (As := [.ref wv, .int p1, .int (0 : Int32)]) (rest := []) ⟨hx, hb, hml, hown, hts⟩ (knJ0_getBytes_840e7 l G wv ta td wn wf tn tf p1 _ h) (cwV 3 hts (gdV q912 q913 q914 q26 q915) rfl rfl rfl (by decide +kernel) ⟨Nat.le_of_ble_eq_true rfl, Nat.le_of_ble_eq_true rfl⟩) (preVwjt hPc hKK hDc hJc hTc hTc.recv) rfl rfl hl.1 rfl (lv_room (Nat.le_of_ble_eq_true rfl)) dJ5_putStringAt_47b60_15 ⟨Nat.zero_le _, Nat.zero_le _⟩) hS (fun q _ h => hFc q h) hFc (fun u t H1 locs ht hvm h hB hz1 hk1 hS => ?_)
  obtain ⟨yf_1, rfl⟩ : ∃ z, z = u := ⟨_, rfl⟩
  obtain ⟨hP1, hD1⟩ := hB
  rw [ht] at hP1
  obtain ⟨hP, hD⟩ := va_join (wr := [(wb, .inr (1, [.ref wv, .int (0 : Int32), .int (0 : Int32), .int wc]))]) (w1 := [(wv, .inl (G.2 2, wn, .inl yf_1))]) hP hD [1] [0] rfl rfl (by decide) (by decide) hk1 hFc hP1 hD1
  generalize H1 = H at hP hS ⊢
  have hP : PP G [(wb, .inr (1, [.ref wv, .int (0 : Int32), .int (0 : Int32), .int wc])), (wv, .inl (G.2 2, wn, .inl yf_1))] H := va_P.sub hP [0, 1] rfl
  have hD : va_D A [(wb, .inr (1, [.ref wv, .int (0 : Int32), .int (0 : Int32), .int wc])), (wv, .inl (G.2 2, wn, .inl yf_1))] := hD.sub [0, 1] (by decide) rfl
  subst hQC; exact W.vret hx hb hr (fun t ht hW => ⟨⟨yf_1, rfl, h, by rw [ht]; exact hP, hD⟩, hS.F ht⟩) hS.2.2 dJ5_putStringAt_47b60_18
theorem dJ5_append_cf1ce_0 : decode cJ5_append_cf1ce 0 = .ok (.aload_n 1, 1) := by decide +kernel
theorem dJ5_append_cf1ce_1 : decode cJ5_append_cf1ce 1 = .ok (.ifnonnull 8, 3) := by decide +kernel
theorem dJ5_append_cf1ce_4 : decode cJ5_append_cf1ce 4 = .ok (.aload_n 0, 1) := by decide +kernel
theorem dJ5_append_cf1ce_5 : decode cJ5_append_cf1ce 5 = .ok (.invokevirtual 204, 3) := by decide +kernel
theorem dJ5_append_cf1ce_8 : decode cJ5_append_cf1ce 8 = .ok (.areturn, 1) := by decide +kernel
theorem dJ5_append_cf1ce_9 : decode cJ5_append_cf1ce 9 = .ok (.aload_n 1, 1) := by decide +kernel
theorem dJ5_append_cf1ce_10 : decode cJ5_append_cf1ce 10 = .ok (.invokevirtual 32, 3) := by decide +kernel
theorem dJ5_append_cf1ce_13 : decode cJ5_append_cf1ce 13 = .ok (.istore_n 2, 1) := by decide +kernel
theorem dJ5_append_cf1ce_14 : decode cJ5_append_cf1ce 14 = .ok (.aload_n 0, 1) := by decide +kernel
theorem dJ5_append_cf1ce_15 : decode cJ5_append_cf1ce 15 = .ok (.aload_n 0, 1) := by decide +kernel
theorem dJ5_append_cf1ce_16 : decode cJ5_append_cf1ce 16 = .ok (.getfield 79, 3) := by decide +kernel
theorem dJ5_append_cf1ce_19 : decode cJ5_append_cf1ce 19 = .ok (.iload_n 2, 1) := by decide +kernel
theorem dJ5_append_cf1ce_20 : decode cJ5_append_cf1ce 20 = .ok (.iadd, 1) := by decide +kernel
theorem dJ5_append_cf1ce_21 : decode cJ5_append_cf1ce 21 = .ok (.invokevirtual 100, 3) := by decide +kernel
theorem dJ5_append_cf1ce_24 : decode cJ5_append_cf1ce 24 = .ok (.aload_n 0, 1) := by decide +kernel
theorem dJ5_append_cf1ce_25 : decode cJ5_append_cf1ce 25 = .ok (.aload_n 0, 1) := by decide +kernel
theorem dJ5_append_cf1ce_26 : decode cJ5_append_cf1ce 26 = .ok (.getfield 79, 3) := by decide +kernel
theorem dJ5_append_cf1ce_29 : decode cJ5_append_cf1ce 29 = .ok (.aload_n 1, 1) := by decide +kernel
theorem dJ5_append_cf1ce_30 : decode cJ5_append_cf1ce 30 = .ok (.invokevirtual 208, 3) := by decide +kernel
theorem dJ5_append_cf1ce_33 : decode cJ5_append_cf1ce 33 = .ok (.aload_n 0, 1) := by decide +kernel
theorem dJ5_append_cf1ce_34 : decode cJ5_append_cf1ce 34 = .ok (.dup, 1) := by decide +kernel
theorem dJ5_append_cf1ce_35 : decode cJ5_append_cf1ce 35 = .ok (.getfield 79, 3) := by decide +kernel
theorem dJ5_append_cf1ce_38 : decode cJ5_append_cf1ce 38 = .ok (.iload_n 2, 1) := by decide +kernel
theorem dJ5_append_cf1ce_39 : decode cJ5_append_cf1ce 39 = .ok (.iadd, 1) := by decide +kernel
theorem dJ5_append_cf1ce_40 : decode cJ5_append_cf1ce 40 = .ok (.putfield 79, 3) := by decide +kernel
theorem dJ5_append_cf1ce_43 : decode cJ5_append_cf1ce 43 = .ok (.aload_n 0, 1) := by decide +kernel
theorem dJ5_append_cf1ce_44 : decode cJ5_append_cf1ce 44 = .ok (.areturn, 1) := by decide +kernel
def wnJ5_append_cf1ce (post : Int32 × Nat × (Nat → Int32) → Prop) (wc : Int32) (wn : Nat) (wf : Nat → Int32) (tn : Nat) (tf : Nat → Int32) (mcb : Nat) (msb : Nat) : Prop :=
  wJ0_length_8abf5 (fun r_1 : Int32 =>
    ∃ b_1 b_2 : Nat,
    ((0 + b_1) ≤ mcb ∧ (0 + b_2) ≤ msb) ∧
    wnJ5_ensureCapacityInternal_d00df (fun (z_1 : Nat × (Nat → Int32)) =>
      wnJ5_putStringAt_47b60 (fun (wf_2 : Nat → Int32) =>
        ((0 + b_1) ≤ mcb ∧ (0 + b_2) ≤ msb) ∧
        post ((wc + r_1), z_1.1, wf_2)
        ) z_1.1 z_1.2 tn tf wc
      ) wn wf b_1 b_2 (wc + r_1)
    ) tn
abbrev wl_nJ5_append_cf1ce : List Cond := .code yJ5_append_cf1ce cJ5_append_cf1ce 3 (some (.object "java/lang/AbstractStringBuilder")) :: lwg
abbrev rm_nJ5_append_cf1ce (mcb msb : Nat) : Room := { frames := 4, cells := mcb, slots := msb, locals := 109 }
set_option maxHeartbeats 4000000 in
set_option maxRecDepth 100000 in
theorem knJ5_append_cf1ce {post : Int32 × Nat × (Nat → Int32) → Prop} (l : Launch) (G : GT) (wb : Nat) (wv : Nat) (ta : Nat) (td : Nat) (wc : Int32) (wn : Nat) (wf : Nat → Int32) (tn : Nat) (tf : Nat → Int32) (mcb : Nat) (msb : Nat) (sz : Nat) (h : wnJ5_append_cf1ce post wc wn wf tn tf mcb msb) : Met l yJ5_append_cf1ce wl_nJ5_append_cf1ce (rm_nJ5_append_cf1ce mcb msb) (va_Pc [.ref wb, .ref ta] (fun U => U.heap.size = sz ∧ PP G [(wb, .inr (1, [.ref wv, .int (0 : Int32), .int (0 : Int32), .int wc])), (wv, .inl (G.2 2, wn, .inl wf))] U.heap ∧ KK G U ∧ va_D (fun _ => True) [(wb, .inr (1, [.ref wv, .int (0 : Int32), .int (0 : Int32), .int wc])), (wv, .inl (G.2 2, wn, .inl wf))] ∧ JJ G (va_A [(wb, .inr (1, [.ref wv, .int (0 : Int32), .int (0 : Int32), .int wc])), (wv, .inl (G.2 2, wn, .inl wf))] sz) U U.heap ∧ ST ta td tn tf (va_A [(wb, .inr (1, [.ref wv, .int (0 : Int32), .int (0 : Int32), .int wc])), (wv, .inl (G.2 2, wn, .inl wf))] sz) U U.heap)) (va_Qr post (fun u ra t => ra = wb ∧ ∃ wvE : Nat, PP G [(wb, .inr (1, [.ref wvE, .int (0 : Int32), .int (0 : Int32), .int (u.1)])), (wvE, .inl (G.2 2, u.2.1, .inl (u.2.2)))] t.heap ∧ va_D (va_A [(wb, .inr (1, [.ref wv, .int (0 : Int32), .int (0 : Int32), .int wc])), (wv, .inl (G.2 2, wn, .inl wf))] sz) [(wb, .inr (1, [.ref wvE, .int (0 : Int32), .int (0 : Int32), .int (u.1)])), (wvE, .inl (G.2 2, u.2.1, .inl (u.2.2)))]) (va_A [(wb, .inr (1, [.ref wv, .int (0 : Int32), .int (0 : Int32), .int wc])), (wv, .inl (G.2 2, wn, .inl wf))] sz)) mcb msb (va_A [(wb, .inr (1, [.ref wv, .int (0 : Int32), .int (0 : Int32), .int wc])), (wv, .inl (G.2 2, wn, .inl wf))] sz) := by
  refine Met.ofW (cc := cJ5_append_cf1ce) (maxL := 3) (ret := (some (.object "java/lang/AbstractStringBuilder"))) (by decide) rfl ?_
  intro p e s m args below meth c s₁ B hml hv
  obtain ⟨rfl, hsz, hP, hKK, hD0, hJ, hTt⟩ := hv
  obtain ⟨hK, hN, hR, hFW, hNC⟩ := id hKK
  have hx := B.exec
  have hb := B.bytes
  have hr := B.returns
  have hts0 := atoms_spec (ws := wl_nJ5_append_cf1ce) B.pre
  have hts : ∀ w ∈ lwg, w.before ([.ref wb, .ref ta] : List Value).toArray s = true := fun w hw => hts0 w (List.mem_cons_of_mem _ hw)
  have hown : s.vm.findClass RJ5 = some m.cls := findClass_of_methodNamed B.named
  have hlocks := B.notSynchronized
  subst hsz
  have hD := hD0.self (sz := s.heap.size)
  generalize hAe : va_A [(wb, .inr (1, [.ref wv, .int (0 : Int32), .int (0 : Int32), .int wc])), (wv, .inl (G.2 2, wn, .inl wf))] s.heap.size = A at hD hJ hTt ⊢
  have hA : ∀ q : Nat, s.heap.size ≤ q → A q := fun q h => by rw [← hAe]; exact Or.inr h
  have hS : va_S A s.heap s.heap [] := va_S.rf
  obtain ⟨QC, hQC⟩ : ∃ Z, Z = (va_Qr post (fun u ra t => ra = wb ∧ ∃ wvE : Nat, PP G [(wb, .inr (1, [.ref wvE, .int (0 : Int32), .int (0 : Int32), .int (u.1)])), (wvE, .inl (G.2 2, u.2.1, .inl (u.2.2)))] t.heap ∧ va_D A [(wb, .inr (1, [.ref wvE, .int (0 : Int32), .int (0 : Int32), .int (u.1)])), (wvE, .inl (G.2 2, u.2.1, .inl (u.2.2)))]) A) := ⟨_, rfl⟩
  rw [← hQC]
  obtain ⟨jE, hjE⟩ := hJ.2.1
  obtain ⟨jT, hjT1, hjT2⟩ := hJ.2.2.1
  obtain ⟨jO, hjO1, hjO2⟩ := hJ.2.2.2.1
  obtain ⟨jS, hjS⟩ := hJ.2.2.2.2.1
  have hP : PP G [(wb, .inr (1, [.ref wv, .int (0 : Int32), .int (0 : Int32), .int wc])), (wv, .inl (G.2 2, wn, .inl wf))] s.heap := hP
  have hl := lv_entry ([.ref wb, .ref ta]) (n := 3) (Nat.le_of_ble_eq_true rfl)
  rw [lg_entry_eq]
  generalize (lg_sl ([.ref wb, .ref ta]) ++ List.replicate (3 - (lg_sl ([.ref wb, .ref ta])).length) Slot.unset).toArray = ls at hl ⊢
  have hl : lv_has ls 3 [(0, .ref wb), (1, .ref ta)] := hl
  refine lv_aload_n hx hb dJ5_append_cf1ce_0 rfl (lv_at hl 1 rfl) ?_
  refine lv_ifnonnull (tgt := 9) hx hb dJ5_append_cf1ce_1 (by decide) ?_
  refine lv_aload_n hx hb dJ5_append_cf1ce_9 rfl (lv_at hl 1 rfl) ?_
  have hPc := va_P.sub (ws' := []) hP [] rfl
  have hJc : JJ G (fun _ => False) s _ := (hJ.kept hS.2.1).narrow (fun _ h => False.elim h)
  have hTc := (hTt.kept hS.2.1).narrow (fun _ (h : False) => False.elim h)
  refine rdI (va_runV (C := RJ0) (As := []) (rest := []) ⟨hx, hb, hml, hown, hts⟩ (kJ0_length_8abf5 l G ta td tn tf h) (cwV 0 hts (gdV q894 q895 q896 q26 q897) rfl rfl rfl (by decide +kernel) ⟨Nat.le_of_ble_eq_true rfl, Nat.le_of_ble_eq_true rfl⟩) (preVjt hPc hKK hJc hTc hTc.recv) rfl rfl hl.1 rfl (lv_room (Nat.le_of_ble_eq_true rfl)) dJ5_append_cf1ce_10 ⟨Nat.zero_le _, Nat.zero_le _⟩) (fun r_1 h => ?_)
  refine lv_istore_n hx hb dJ5_append_cf1ce_13 rfl hl (Nat.le_of_ble_eq_true rfl) rfl (fun ls hl => ?_)
  have hl : lv_has ls 3 [(2, .int r_1), (0, .ref wb), (1, .ref ta)] := hl
  refine lv_aload_n hx hb dJ5_append_cf1ce_14 rfl (lv_at hl 1 rfl) ?_
  refine lv_aload_n hx hb dJ5_append_cf1ce_15 rfl (lv_at hl 1 rfl) ?_
  refine va_get (D := G.1) (ci := 1) (v := .int wc) (C := RJ4) (T := TJ4) (N := 4) hx hb hts igJ4 hown hK hP 0 rfl rfl 3 (by decide) (hts _ q695) (fun _ h9 => h9) rfl dJ5_append_cf1ce_16 ?_
  refine lv_iload_n hx hb dJ5_append_cf1ce_19 rfl (lv_at hl 0 rfl) ?_
  refine lv_iadd hx hb dJ5_append_cf1ce_20 ?_
  obtain ⟨b_1, b_2, h⟩ := h
  obtain ⟨⟨hq_1, hq_2⟩, h⟩ := h
  have hPc := hP
  have hDc := hD.sub (ws' := [(wb, .inr (1, [.ref wv, .int (0 : Int32), .int (0 : Int32), .int wc])), (wv, .inl (G.2 2, wn, .inl wf))]) [0, 1] (by decide) rfl
  have hFc := va_free (wc := [(wb, .inr (1, [.ref wv, .int (0 : Int32), .int (0 : Int32), .int wc])), (wv, .inl (G.2 2, wn, .inl wf))]) hD hS hA [0, 1] rfl
  refine va_callv (va_runU (C := RJ4) (As := [.int (wc + r_1)]) (rest := []) ⟨hx, hb, hml, hown, hts⟩ (knJ5_ensureCapacityInternal_d00df l G wb wv wc wn wf b_1 b_2 (wc + r_1) _ h) (va_cwU 1 hts (gdU q718 q1444 qu0 q720 q24 q721) rfl rfl rfl rfl (by decide +kernel) ⟨Nat.le_of_ble_eq_true rfl, Nat.le_of_ble_eq_true rfl⟩) (preVw hPc hKK hDc (va_recv hK hPc (ci := 1) (q0 := 0) rfl rfl)) rfl rfl hl.1 rfl (lv_room (Nat.le_of_ble_eq_true rfl)) dJ5_append_cf1ce_21 ⟨hq_1, hq_2⟩) hS (fun q _ h => hFc q h) hFc (fun u t H1 locs ht hvm h hB hz1 hk1 hS => ?_)
  obtain ⟨wn_1, wf_1⟩ := u
  obtain ⟨wv_1, hB⟩ := hB
  obtain ⟨hP1, hD1⟩ := hB
  rw [ht] at hP1
  have hP := hP1
  have hD : va_D A [(wb, .inr (1, [.ref wv_1, .int (0 : Int32), .int (0 : Int32), .int wc])), (wv_1, .inl (G.2 2, wn_1, .inl wf_1))] := hD1.weaken (fun _ _ _ h => hFc _ h)
  generalize H1 = H at hP hS ⊢
  have hP : PP G [(wb, .inr (1, [.ref wv_1, .int (0 : Int32), .int (0 : Int32), .int wc])), (wv_1, .inl (G.2 2, wn_1, .inl wf_1))] H := hP
  refine lv_aload_n hx hb dJ5_append_cf1ce_24 rfl (lv_at hl 1 rfl) ?_
  refine lv_aload_n hx hb dJ5_append_cf1ce_25 rfl (lv_at hl 1 rfl) ?_
  refine va_get (D := G.1) (ci := 1) (v := .int wc) (C := RJ4) (T := TJ4) (N := 4) hx hb hts igJ4 hown hK hP 0 rfl rfl 3 (by decide) (hts _ q695) (fun _ h9 => h9) rfl dJ5_append_cf1ce_26 ?_
  refine lv_aload_n hx hb dJ5_append_cf1ce_29 rfl (lv_at hl 2 rfl) ?_
  have hPc := hP
  have hDc := hD.sub (ws' := [(wb, .inr (1, [.ref wv_1, .int (0 : Int32), .int (0 : Int32), .int wc])), (wv_1, .inl (G.2 2, wn_1, .inl wf_1))]) [0, 1] (by decide) rfl
  have hFc := va_free (wc := [(wb, .inr (1, [.ref wv_1, .int (0 : Int32), .int (0 : Int32), .int wc])), (wv_1, .inl (G.2 2, wn_1, .inl wf_1))]) hD hS hA [0, 1] rfl
  have hJc := (hJ.kept hS.2.1).narrow hFc
  have hTc := (hTt.kept hS.2.1).narrow hFc
  refine va_callv (va_runU (C := RJ4) (As := [.int wc, .ref ta]) (rest := []) ⟨hx, hb, hml, hown, hts⟩ (knJ5_putStringAt_47b60 l G wb wv_1 ta td wc wn_1 wf_1 tn tf wc _ h) (va_cwU 2 hts (gdU q903 q1450 qu2 q905 q24 q906) rfl rfl rfl rfl (by decide +kernel) ⟨Nat.le_of_ble_eq_true rfl, Nat.le_of_ble_eq_true rfl⟩) (preVwjt hPc hKK hDc hJc hTc (va_recv hK hPc (ci := 1) (q0 := 0) rfl rfl)) rfl rfl hl.1 rfl (lv_room (Nat.le_of_ble_eq_true rfl)) dJ5_append_cf1ce_30 ⟨(by exact Nat.le_trans (Nat.le_of_eq (Nat.add_zero _)) hq_1), (by exact Nat.le_trans (Nat.le_of_eq (Nat.add_zero _)) hq_2)⟩) hS (fun q _ h => hFc q h) hFc (fun u t H1 locs ht hvm h hB hz1 hk1 hS => ?_)
  obtain ⟨wf_2, rfl⟩ : ∃ z, z = u := ⟨_, rfl⟩
  obtain ⟨hP1, hD1⟩ := hB
  rw [ht] at hP1
  have hP := hP1
  have hD : va_D A [(wb, .inr (1, [.ref wv_1, .int (0 : Int32), .int (0 : Int32), .int wc])), (wv_1, .inl (G.2 2, wn_1, .inl wf_2))] := hD1.weaken (fun _ _ _ h => hFc _ h)
  generalize H1 = H at hP hS ⊢
  have hP : PP G [(wb, .inr (1, [.ref wv_1, .int (0 : Int32), .int (0 : Int32), .int wc])), (wv_1, .inl (G.2 2, wn_1, .inl wf_2))] H := hP
  refine lv_aload_n hx hb dJ5_append_cf1ce_33 rfl (lv_at hl 1 rfl) ?_
  refine lv_dup hx hb dJ5_append_cf1ce_34 rfl ?_
  refine va_get (D := G.1) (ci := 1) (v := .int wc) (C := RJ4) (T := TJ4) (N := 4) hx hb hts igJ4 hown hK hP 0 rfl rfl 3 (by decide) (hts _ q695) (fun _ h9 => h9) rfl dJ5_append_cf1ce_35 ?_
  refine lv_iload_n hx hb dJ5_append_cf1ce_38 rfl (lv_at hl 0 rfl) ?_
  refine lv_iadd hx hb dJ5_append_cf1ce_39 ?_
  refine va_put (D := G.1) (ci := 1) (v := .int (wc + r_1)) (ty := .int) (C := RJ4) (T := TJ4) (N := 4) hx hb hts igJ4 tyJ4 tyJ4_ok nmJ4 hown hK hP hD hS 0 rfl rfl 3 (by decide) (hts _ q695) (fun _ h9 => h9) rfl (by decide +kernel) rfl rfl (Nat.le_of_ble_eq_true rfl) dJ5_append_cf1ce_40 (fun H locs hP hD hS => ?_)
  have hP : PP G [(wb, .inr (1, [.ref wv_1, .int (0 : Int32), .int (0 : Int32), .int (wc + r_1)])), (wv_1, .inl (G.2 2, wn_1, .inl wf_2))] H := hP
  have hD : va_D A [(wb, .inr (1, [.ref wv_1, .int (0 : Int32), .int (0 : Int32), .int (wc + r_1)])), (wv_1, .inl (G.2 2, wn_1, .inl wf_2))] := hD
  refine lv_aload_n hx hb dJ5_append_cf1ce_43 rfl (lv_at hl 1 rfl) ?_
  obtain ⟨⟨hw1, hw2⟩, h⟩ := h
  refine W.widen (k := mcb) (n := msb) hw1 hw2 ?_
  subst hQC; exact W.aret (v := .ref wb) hx hb hr (by first | exact Or.inl ⟨_, rfl⟩ | exact Or.inr ⟨_, rfl⟩) (Or.inr ⟨_, rfl⟩) (fun t ht hW => ⟨⟨((wc + r_1), wn_1, wf_2), wb, rfl, h, rfl, wv_1, by rw [ht]; exact hP, hD⟩, hS.F ht⟩) hS.2.2 dJ5_append_cf1ce_44
theorem dJ4_append_15ec4_0 : decode cJ4_append_15ec4 0 = .ok (.aload_n 0, 1) := by decide +kernel
theorem dJ4_append_15ec4_1 : decode cJ4_append_15ec4 1 = .ok (.aload_n 1, 1) := by decide +kernel
theorem dJ4_append_15ec4_2 : decode cJ4_append_15ec4 2 = .ok (.invokespecial 29, 3) := by decide +kernel
theorem dJ4_append_15ec4_5 : decode cJ4_append_15ec4 5 = .ok (.pop, 1) := by decide +kernel
theorem dJ4_append_15ec4_6 : decode cJ4_append_15ec4 6 = .ok (.aload_n 0, 1) := by decide +kernel
theorem dJ4_append_15ec4_7 : decode cJ4_append_15ec4 7 = .ok (.areturn, 1) := by decide +kernel
def wnJ4_append_15ec4 (post : Int32 × Nat × (Nat → Int32) → Prop) (wc : Int32) (wn : Nat) (wf : Nat → Int32) (tn : Nat) (tf : Nat → Int32) (mcb : Nat) (msb : Nat) : Prop :=
  ∃ b_1 b_2 : Nat,
  ((0 + b_1) ≤ mcb ∧ (0 + b_2) ≤ msb) ∧
  wnJ5_append_cf1ce (fun (z_1 : Int32 × Nat × (Nat → Int32)) =>
    ((0 + b_1) ≤ mcb ∧ (0 + b_2) ≤ msb) ∧
    post (z_1.1, z_1.2.1, z_1.2.2)
    ) wc wn wf tn tf b_1 b_2
abbrev wl_nJ4_append_15ec4 : List Cond := .code yJ4_append_15ec4 cJ4_append_15ec4 2 (some (.object "java/lang/StringBuilder")) :: lwg
abbrev rm_nJ4_append_15ec4 (mcb msb : Nat) : Room := { frames := 5, cells := mcb, slots := msb, locals := 131 }
set_option maxHeartbeats 4000000 in
set_option maxRecDepth 100000 in
theorem knJ4_append_15ec4 {post : Int32 × Nat × (Nat → Int32) → Prop} (l : Launch) (G : GT) (wb : Nat) (wv : Nat) (ta : Nat) (td : Nat) (wc : Int32) (wn : Nat) (wf : Nat → Int32) (tn : Nat) (tf : Nat → Int32) (mcb : Nat) (msb : Nat) (sz : Nat) (h : wnJ4_append_15ec4 post wc wn wf tn tf mcb msb) : Met l yJ4_append_15ec4 wl_nJ4_append_15ec4 (rm_nJ4_append_15ec4 mcb msb) (va_Pc [.ref wb, .ref ta] (fun U => U.heap.size = sz ∧ PP G [(wb, .inr (1, [.ref wv, .int (0 : Int32), .int (0 : Int32), .int wc])), (wv, .inl (G.2 2, wn, .inl wf))] U.heap ∧ KK G U ∧ va_D (fun _ => True) [(wb, .inr (1, [.ref wv, .int (0 : Int32), .int (0 : Int32), .int wc])), (wv, .inl (G.2 2, wn, .inl wf))] ∧ JJ G (va_A [(wb, .inr (1, [.ref wv, .int (0 : Int32), .int (0 : Int32), .int wc])), (wv, .inl (G.2 2, wn, .inl wf))] sz) U U.heap ∧ ST ta td tn tf (va_A [(wb, .inr (1, [.ref wv, .int (0 : Int32), .int (0 : Int32), .int wc])), (wv, .inl (G.2 2, wn, .inl wf))] sz) U U.heap)) (va_Qr post (fun u ra t => ra = wb ∧ ∃ wvE : Nat, PP G [(wb, .inr (1, [.ref wvE, .int (0 : Int32), .int (0 : Int32), .int (u.1)])), (wvE, .inl (G.2 2, u.2.1, .inl (u.2.2)))] t.heap ∧ va_D (va_A [(wb, .inr (1, [.ref wv, .int (0 : Int32), .int (0 : Int32), .int wc])), (wv, .inl (G.2 2, wn, .inl wf))] sz) [(wb, .inr (1, [.ref wvE, .int (0 : Int32), .int (0 : Int32), .int (u.1)])), (wvE, .inl (G.2 2, u.2.1, .inl (u.2.2)))]) (va_A [(wb, .inr (1, [.ref wv, .int (0 : Int32), .int (0 : Int32), .int wc])), (wv, .inl (G.2 2, wn, .inl wf))] sz)) mcb msb (va_A [(wb, .inr (1, [.ref wv, .int (0 : Int32), .int (0 : Int32), .int wc])), (wv, .inl (G.2 2, wn, .inl wf))] sz) := by
  refine Met.ofW (cc := cJ4_append_15ec4) (maxL := 2) (ret := (some (.object "java/lang/StringBuilder"))) (by decide) rfl ?_
  intro p e s m args below meth c s₁ B hml hv
  obtain ⟨rfl, hsz, hP, hKK, hD0, hJ, hTt⟩ := hv
  obtain ⟨hK, hN, hR, hFW, hNC⟩ := id hKK
  have hx := B.exec
  have hb := B.bytes
  have hr := B.returns
  have hts0 := atoms_spec (ws := wl_nJ4_append_15ec4) B.pre
  have hts : ∀ w ∈ lwg, w.before ([.ref wb, .ref ta] : List Value).toArray s = true := fun w hw => hts0 w (List.mem_cons_of_mem _ hw)
  have hown : s.vm.findClass RJ4 = some m.cls := findClass_of_methodNamed B.named
  have hlocks := B.notSynchronized
  subst hsz
  have hD := hD0.self (sz := s.heap.size)
  generalize hAe : va_A [(wb, .inr (1, [.ref wv, .int (0 : Int32), .int (0 : Int32), .int wc])), (wv, .inl (G.2 2, wn, .inl wf))] s.heap.size = A at hD hJ hTt ⊢
  have hA : ∀ q : Nat, s.heap.size ≤ q → A q := fun q h => by rw [← hAe]; exact Or.inr h
  have hS : va_S A s.heap s.heap [] := va_S.rf
  obtain ⟨QC, hQC⟩ : ∃ Z, Z = (va_Qr post (fun u ra t => ra = wb ∧ ∃ wvE : Nat, PP G [(wb, .inr (1, [.ref wvE, .int (0 : Int32), .int (0 : Int32), .int (u.1)])), (wvE, .inl (G.2 2, u.2.1, .inl (u.2.2)))] t.heap ∧ va_D A [(wb, .inr (1, [.ref wvE, .int (0 : Int32), .int (0 : Int32), .int (u.1)])), (wvE, .inl (G.2 2, u.2.1, .inl (u.2.2)))]) A) := ⟨_, rfl⟩
  rw [← hQC]
  obtain ⟨jE, hjE⟩ := hJ.2.1
  obtain ⟨jT, hjT1, hjT2⟩ := hJ.2.2.1
  obtain ⟨jO, hjO1, hjO2⟩ := hJ.2.2.2.1
  obtain ⟨jS, hjS⟩ := hJ.2.2.2.2.1
  have hP : PP G [(wb, .inr (1, [.ref wv, .int (0 : Int32), .int (0 : Int32), .int wc])), (wv, .inl (G.2 2, wn, .inl wf))] s.heap := hP
  have hl := lv_entry ([.ref wb, .ref ta]) (n := 2) (Nat.le_of_ble_eq_true rfl)
  rw [lg_entry_eq]
  generalize (lg_sl ([.ref wb, .ref ta]) ++ List.replicate (2 - (lg_sl ([.ref wb, .ref ta])).length) Slot.unset).toArray = ls at hl ⊢
  have hl : lv_has ls 2 [(0, .ref wb), (1, .ref ta)] := hl
  refine lv_aload_n hx hb dJ4_append_15ec4_0 rfl (lv_at hl 0 rfl) ?_
  refine lv_aload_n hx hb dJ4_append_15ec4_1 rfl (lv_at hl 1 rfl) ?_
  obtain ⟨b_1, b_2, h⟩ := h
  obtain ⟨⟨hq_1, hq_2⟩, h⟩ := h
  have hPc := hP
  have hDc := hD.sub (ws' := [(wb, .inr (1, [.ref wv, .int (0 : Int32), .int (0 : Int32), .int wc])), (wv, .inl (G.2 2, wn, .inl wf))]) [0, 1] (by decide) rfl
  have hFc := va_free (wc := [(wb, .inr (1, [.ref wv, .int (0 : Int32), .int (0 : Int32), .int wc])), (wv, .inl (G.2 2, wn, .inl wf))]) hD hS hA [0, 1] rfl
  have hJc := (hJ.kept hS.2.1).narrow hFc
  have hTc := (hTt.kept hS.2.1).narrow hFc
  refine va_callr (va_runSU (C := RJ4) (As := [.ref ta]) (rest := []) (hK.1 1 _ rfl).2 ⟨hx, hb, hml, hown, hts⟩ (knJ5_append_cf1ce l G wb wv ta td wc wn wf tn tf b_1 b_2 _ h) (va_cwSU 1 hts (gdSU q884 q1448 q704 q885 q24 q886) rfl rfl rfl (by decide +kernel) ⟨Nat.le_of_ble_eq_true rfl, Nat.le_of_ble_eq_true rfl⟩) (preVwjt hPc hKK hDc hJc hTc (va_recv hK hPc (ci := 1) (q0 := 0) rfl rfl)) rfl rfl hl.1 rfl (lv_room (Nat.le_of_ble_eq_true rfl)) dJ4_append_15ec4_2 ⟨hq_1, hq_2⟩) hS (fun q _ h => hFc q h) hFc (fun u ra t H1 locs ht hvm h hB hz1 hk1 hS => ?_)
  obtain ⟨wc_1, wn_1, wf_1⟩ := u
  obtain ⟨era, hB⟩ := hB
  rw [era]
  obtain ⟨wv_1, hB⟩ := hB
  obtain ⟨hP1, hD1⟩ := hB
  rw [ht] at hP1
  have hP := hP1
  have hD : va_D A [(wb, .inr (1, [.ref wv_1, .int (0 : Int32), .int (0 : Int32), .int wc_1])), (wv_1, .inl (G.2 2, wn_1, .inl wf_1))] := hD1.weaken (fun _ _ _ h => hFc _ h)
  generalize H1 = H at hP hS ⊢
  have hP : PP G [(wb, .inr (1, [.ref wv_1, .int (0 : Int32), .int (0 : Int32), .int wc_1])), (wv_1, .inl (G.2 2, wn_1, .inl wf_1))] H := hP
  refine lv_pop hx hb dJ4_append_15ec4_5 rfl ?_
  refine lv_aload_n hx hb dJ4_append_15ec4_6 rfl (lv_at hl 0 rfl) ?_
  obtain ⟨⟨hw1, hw2⟩, h⟩ := h
  refine W.widen (k := mcb) (n := msb) hw1 hw2 ?_
  subst hQC; exact W.aret (v := .ref wb) hx hb hr (by first | exact Or.inl ⟨_, rfl⟩ | exact Or.inr ⟨_, rfl⟩) (Or.inr ⟨_, rfl⟩) (fun t ht hW => ⟨⟨(wc_1, wn_1, wf_1), wb, rfl, h, rfl, wv_1, by rw [ht]; exact hP, hD⟩, hS.F ht⟩) hS.2.2 dJ4_append_15ec4_7
