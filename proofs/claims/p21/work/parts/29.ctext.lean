theorem q665 : (Cond.methodLink RL 72 yX2_text) ∈ lwg := lwgR 665 (by decide +kernel) (by decide +kernel)
theorem q666 : (Cond.instanceMethod yX2_text) ∈ lwg := lwgR 666 (by decide +kernel) (by decide +kernel)
theorem q667 : (Cond.selects RX2 yX2_text yX2_text) ∈ lwg := lwgR 667 (by decide +kernel) (by decide +kernel)
theorem q668 : (Cond.code yX2_text cX2_text 2 (some (.object "java/lang/String"))) ∈ lwg := lwgR 668 (by decide +kernel) (by decide +kernel)
theorem q669 : (Cond.methodLink RX2 246 yX0_signsOf) ∈ lwg := lwgR 669 (by decide +kernel) (by decide +kernel)
theorem q670 : (Cond.instanceMethod yX0_signsOf) ∈ lwg := lwgR 670 (by decide +kernel) (by decide +kernel)
theorem q671 : (Cond.selects RX0 yX0_signsOf yX0_signsOf) ∈ lwg := lwgR 671 (by decide +kernel) (by decide +kernel)
theorem q672 : (Cond.code yX0_signsOf cX0_signsOf 3 (some (.object "java/lang/String"))) ∈ lwg := lwgR 672 (by decide +kernel) (by decide +kernel)
theorem q674 : (Cond.classLink RX0 79 "java/lang/StringBuilder") ∈ lwg := lwgR 674 (by decide +kernel) (by decide +kernel)
theorem q675 : (Cond.instantiable "java/lang/StringBuilder" 4) ∈ lwg := lwgR 675 (by decide +kernel) (by decide +kernel)
theorem q676 : (Cond.methodLink RX0 81 yJ4_init_da8c8) ∈ lwg := lwgR 676 (by decide +kernel) (by decide +kernel)
theorem q677 : (Cond.instanceMethod yJ4_init_da8c8) ∈ lwg := lwgR 677 (by decide +kernel) (by decide +kernel)
theorem q678 : (Cond.code yJ4_init_da8c8 cJ4_init_da8c8 1 none) ∈ lwg := lwgR 678 (by decide +kernel) (by decide +kernel)
theorem q705 : (Cond.methodLink RX0 82 yX0_write) ∈ lwg := lwgR 705 (by decide +kernel) (by decide +kernel)
theorem q706 : (Cond.static yX0_write) ∈ lwg := lwgR 706 (by decide +kernel) (by decide +kernel)
theorem q707 : (Cond.code yX0_write cX0_write 7 none) ∈ lwg := lwgR 707 (by decide +kernel) (by decide +kernel)
theorem q708 : (Cond.methodLink RX0 90 yX0_kindOf) ∈ lwg := lwgR 708 (by decide +kernel) (by decide +kernel)
theorem q709 : (Cond.methodLink RX0 93 yX0_firstOf) ∈ lwg := lwgR 709 (by decide +kernel) (by decide +kernel)
theorem q710 : (Cond.methodLink RX0 96 yX0_secondOf) ∈ lwg := lwgR 710 (by decide +kernel) (by decide +kernel)
theorem q711 : (Cond.methodLink RX0 99 yJ4_append_cf468) ∈ lwg := lwgR 711 (by decide +kernel) (by decide +kernel)
theorem q712 : (Cond.instanceMethod yJ4_append_cf468) ∈ lwg := lwgR 712 (by decide +kernel) (by decide +kernel)
theorem q713 : (Cond.selects RJ4 yJ4_append_cf468 yJ4_append_cf468) ∈ lwg := lwgR 713 (by decide +kernel) (by decide +kernel)
theorem q714 : (Cond.code yJ4_append_cf468 cJ4_append_cf468 2 (some (.object "java/lang/StringBuilder"))) ∈ lwg := lwgR 714 (by decide +kernel) (by decide +kernel)
theorem q802 : (Cond.methodLink RX0 103 yJ4_append_bf812) ∈ lwg := lwgR 802 (by decide +kernel) (by decide +kernel)
theorem q803 : (Cond.instanceMethod yJ4_append_bf812) ∈ lwg := lwgR 803 (by decide +kernel) (by decide +kernel)
theorem q804 : (Cond.selects RJ4 yJ4_append_bf812 yJ4_append_bf812) ∈ lwg := lwgR 804 (by decide +kernel) (by decide +kernel)
theorem q805 : (Cond.code yJ4_append_bf812 cJ4_append_bf812 2 (some (.object "java/lang/StringBuilder"))) ∈ lwg := lwgR 805 (by decide +kernel) (by decide +kernel)
theorem q836 : (Cond.methodLink RX0 106 yX0_letterOf) ∈ lwg := lwgR 836 (by decide +kernel) (by decide +kernel)
theorem q837 : (Cond.static yX0_letterOf) ∈ lwg := lwgR 837 (by decide +kernel) (by decide +kernel)
theorem q838 : (Cond.code yX0_letterOf cX0_letterOf 1 (some .char)) ∈ lwg := lwgR 838 (by decide +kernel) (by decide +kernel)
theorem q839 : (Cond.methodLink RX0 86 yJ4_toString_0e30d) ∈ lwg := lwgR 839 (by decide +kernel) (by decide +kernel)
theorem q840 : (Cond.instanceMethod yJ4_toString_0e30d) ∈ lwg := lwgR 840 (by decide +kernel) (by decide +kernel)
theorem q841 : (Cond.selects RJ4 yJ4_toString_0e30d yJ4_toString_0e30d) ∈ lwg := lwgR 841 (by decide +kernel) (by decide +kernel)
theorem q842 : (Cond.code yJ4_toString_0e30d cJ4_toString_0e30d 1 (some (.object "java/lang/String"))) ∈ lwg := lwgR 842 (by decide +kernel) (by decide +kernel)
theorem n503 : (Cond.fieldLinkNest RL 76 "NightdeskRotaLaw$Out" "s" "Ljava/lang/String;" "NightdeskRotaLaw") ∈ lwn := lwnR 503 (by decide +kernel) rfl
theorem dX0_write_0 : decode cX0_write 0 = .ok (.iload_n 3, 1) := by decide +kernel
theorem dX0_write_1 : decode cX0_write 1 = .ok (.bipush 6, 2) := by decide +kernel
theorem dX0_write_3 : decode cX0_write 3 = .ok (.if_icmp .gt 11, 3) := by decide +kernel
theorem dX0_write_6 : decode cX0_write 6 = .ok (.aload_n 0, 1) := by decide +kernel
theorem dX0_write_7 : decode cX0_write 7 = .ok (.iload_n 1, 1) := by decide +kernel
theorem dX0_write_8 : decode cX0_write 8 = .ok (.invokevirtual 39, 3) := by decide +kernel
theorem dX0_write_11 : decode cX0_write 11 = .ok (.ifCond .ne 4, 3) := by decide +kernel
theorem dX0_write_14 : decode cX0_write 14 = .ok (.return_, 1) := by decide +kernel
theorem dX0_write_15 : decode cX0_write 15 = .ok (.aload_n 0, 1) := by decide +kernel
theorem dX0_write_16 : decode cX0_write 16 = .ok (.iload_n 1, 1) := by decide +kernel
theorem dX0_write_17 : decode cX0_write 17 = .ok (.invokevirtual 90, 3) := by decide +kernel
theorem dX0_write_20 : decode cX0_write 20 = .ok (.istore 4, 2) := by decide +kernel
theorem dX0_write_22 : decode cX0_write 22 = .ok (.aload_n 0, 1) := by decide +kernel
theorem dX0_write_23 : decode cX0_write 23 = .ok (.iload_n 1, 1) := by decide +kernel
theorem dX0_write_24 : decode cX0_write 24 = .ok (.invokevirtual 93, 3) := by decide +kernel
theorem dX0_write_27 : decode cX0_write 27 = .ok (.istore 5, 2) := by decide +kernel
theorem dX0_write_29 : decode cX0_write 29 = .ok (.aload_n 0, 1) := by decide +kernel
theorem dX0_write_30 : decode cX0_write 30 = .ok (.iload_n 1, 1) := by decide +kernel
theorem dX0_write_31 : decode cX0_write 31 = .ok (.invokevirtual 96, 3) := by decide +kernel
theorem dX0_write_34 : decode cX0_write 34 = .ok (.istore 6, 2) := by decide +kernel
theorem dX0_write_36 : decode cX0_write 36 = .ok (.iload 4, 2) := by decide +kernel
theorem dX0_write_38 : decode cX0_write 38 = .ok (.ifCond .ne 18, 3) := by decide +kernel
theorem dX0_write_41 : decode cX0_write 41 = .ok (.aload_n 2, 1) := by decide +kernel
theorem dX0_write_42 : decode cX0_write 42 = .ok (.bipush 112, 2) := by decide +kernel
theorem dX0_write_44 : decode cX0_write 44 = .ok (.invokevirtual 99, 3) := by decide +kernel
theorem dX0_write_47 : decode cX0_write 47 = .ok (.iload 5, 2) := by decide +kernel
theorem dX0_write_49 : decode cX0_write 49 = .ok (.invokevirtual 103, 3) := by decide +kernel
theorem dX0_write_52 : decode cX0_write 52 = .ok (.pop, 1) := by decide +kernel
theorem dX0_write_53 : decode cX0_write 53 = .ok (.goto 126, 3) := by decide +kernel
theorem dX0_write_56 : decode cX0_write 56 = .ok (.iload 4, 2) := by decide +kernel
theorem dX0_write_58 : decode cX0_write 58 = .ok (.iconst 1, 1) := by decide +kernel
theorem dX0_write_59 : decode cX0_write 59 = .ok (.if_icmp .ne 23, 3) := by decide +kernel
theorem dX0_write_62 : decode cX0_write 62 = .ok (.aload_n 2, 1) := by decide +kernel
theorem dX0_write_63 : decode cX0_write 63 = .ok (.bipush 45, 2) := by decide +kernel
theorem dX0_write_65 : decode cX0_write 65 = .ok (.invokevirtual 99, 3) := by decide +kernel
theorem dX0_write_68 : decode cX0_write 68 = .ok (.pop, 1) := by decide +kernel
theorem dX0_write_69 : decode cX0_write 69 = .ok (.aload_n 0, 1) := by decide +kernel
theorem dX0_write_70 : decode cX0_write 70 = .ok (.iload 5, 2) := by decide +kernel
theorem dX0_write_72 : decode cX0_write 72 = .ok (.aload_n 2, 1) := by decide +kernel
theorem dX0_write_73 : decode cX0_write 73 = .ok (.iload_n 3, 1) := by decide +kernel
theorem dX0_write_74 : decode cX0_write 74 = .ok (.iconst 1, 1) := by decide +kernel
theorem dX0_write_75 : decode cX0_write 75 = .ok (.iadd, 1) := by decide +kernel
theorem dX0_write_76 : decode cX0_write 76 = .ok (.invokestatic 82, 3) := by decide +kernel
theorem dX0_write_79 : decode cX0_write 79 = .ok (.goto 100, 3) := by decide +kernel
theorem dX0_write_82 : decode cX0_write 82 = .ok (.iload 4, 2) := by decide +kernel
theorem dX0_write_84 : decode cX0_write 84 = .ok (.iconst 2, 1) := by decide +kernel
theorem dX0_write_85 : decode cX0_write 85 = .ok (.if_icmp .eq 9, 3) := by decide +kernel
theorem dX0_write_88 : decode cX0_write 88 = .ok (.iload 4, 2) := by decide +kernel
theorem dX0_write_90 : decode cX0_write 90 = .ok (.iconst 3, 1) := by decide +kernel
theorem dX0_write_91 : decode cX0_write 91 = .ok (.if_icmp .ne 58, 3) := by decide +kernel
theorem dX0_write_94 : decode cX0_write 94 = .ok (.aload_n 2, 1) := by decide +kernel
theorem dX0_write_95 : decode cX0_write 95 = .ok (.bipush 40, 2) := by decide +kernel
theorem dX0_write_97 : decode cX0_write 97 = .ok (.invokevirtual 99, 3) := by decide +kernel
theorem dX0_write_100 : decode cX0_write 100 = .ok (.pop, 1) := by decide +kernel
theorem dX0_write_101 : decode cX0_write 101 = .ok (.aload_n 0, 1) := by decide +kernel
theorem dX0_write_102 : decode cX0_write 102 = .ok (.iload 5, 2) := by decide +kernel
theorem dX0_write_104 : decode cX0_write 104 = .ok (.aload_n 2, 1) := by decide +kernel
theorem dX0_write_105 : decode cX0_write 105 = .ok (.iload_n 3, 1) := by decide +kernel
theorem dX0_write_106 : decode cX0_write 106 = .ok (.iconst 1, 1) := by decide +kernel
theorem dX0_write_107 : decode cX0_write 107 = .ok (.iadd, 1) := by decide +kernel
theorem dX0_write_108 : decode cX0_write 108 = .ok (.invokestatic 82, 3) := by decide +kernel
theorem dX0_write_111 : decode cX0_write 111 = .ok (.aload_n 2, 1) := by decide +kernel
theorem dX0_write_112 : decode cX0_write 112 = .ok (.iload 4, 2) := by decide +kernel
theorem dX0_write_114 : decode cX0_write 114 = .ok (.iconst 2, 1) := by decide +kernel
theorem dX0_write_115 : decode cX0_write 115 = .ok (.if_icmp .ne 8, 3) := by decide +kernel
theorem dX0_write_118 : decode cX0_write 118 = .ok (.bipush 38, 2) := by decide +kernel
theorem dX0_write_120 : decode cX0_write 120 = .ok (.goto 5, 3) := by decide +kernel
theorem dX0_write_123 : decode cX0_write 123 = .ok (.bipush 124, 2) := by decide +kernel
theorem dX0_write_125 : decode cX0_write 125 = .ok (.invokevirtual 99, 3) := by decide +kernel
theorem dX0_write_128 : decode cX0_write 128 = .ok (.pop, 1) := by decide +kernel
theorem dX0_write_129 : decode cX0_write 129 = .ok (.aload_n 0, 1) := by decide +kernel
theorem dX0_write_130 : decode cX0_write 130 = .ok (.iload 6, 2) := by decide +kernel
theorem dX0_write_132 : decode cX0_write 132 = .ok (.aload_n 2, 1) := by decide +kernel
theorem dX0_write_133 : decode cX0_write 133 = .ok (.iload_n 3, 1) := by decide +kernel
theorem dX0_write_134 : decode cX0_write 134 = .ok (.iconst 1, 1) := by decide +kernel
theorem dX0_write_135 : decode cX0_write 135 = .ok (.iadd, 1) := by decide +kernel
theorem dX0_write_136 : decode cX0_write 136 = .ok (.invokestatic 82, 3) := by decide +kernel
theorem dX0_write_139 : decode cX0_write 139 = .ok (.aload_n 2, 1) := by decide +kernel
theorem dX0_write_140 : decode cX0_write 140 = .ok (.bipush 41, 2) := by decide +kernel
theorem dX0_write_142 : decode cX0_write 142 = .ok (.invokevirtual 99, 3) := by decide +kernel
theorem dX0_write_145 : decode cX0_write 145 = .ok (.pop, 1) := by decide +kernel
theorem dX0_write_146 : decode cX0_write 146 = .ok (.goto 33, 3) := by decide +kernel
theorem dX0_write_149 : decode cX0_write 149 = .ok (.aload_n 2, 1) := by decide +kernel
theorem dX0_write_150 : decode cX0_write 150 = .ok (.iload 4, 2) := by decide +kernel
theorem dX0_write_152 : decode cX0_write 152 = .ok (.invokestatic 106, 3) := by decide +kernel
theorem dX0_write_155 : decode cX0_write 155 = .ok (.invokevirtual 99, 3) := by decide +kernel
theorem dX0_write_158 : decode cX0_write 158 = .ok (.iload 5, 2) := by decide +kernel
theorem dX0_write_160 : decode cX0_write 160 = .ok (.invokevirtual 103, 3) := by decide +kernel
theorem dX0_write_163 : decode cX0_write 163 = .ok (.bipush 58, 2) := by decide +kernel
theorem dX0_write_165 : decode cX0_write 165 = .ok (.invokevirtual 99, 3) := by decide +kernel
theorem dX0_write_168 : decode cX0_write 168 = .ok (.pop, 1) := by decide +kernel
theorem dX0_write_169 : decode cX0_write 169 = .ok (.aload_n 0, 1) := by decide +kernel
theorem dX0_write_170 : decode cX0_write 170 = .ok (.iload 6, 2) := by decide +kernel
theorem dX0_write_172 : decode cX0_write 172 = .ok (.aload_n 2, 1) := by decide +kernel
theorem dX0_write_173 : decode cX0_write 173 = .ok (.iload_n 3, 1) := by decide +kernel
theorem dX0_write_174 : decode cX0_write 174 = .ok (.iconst 1, 1) := by decide +kernel
theorem dX0_write_175 : decode cX0_write 175 = .ok (.iadd, 1) := by decide +kernel
theorem dX0_write_176 : decode cX0_write 176 = .ok (.invokestatic 82, 3) := by decide +kernel
theorem dX0_write_179 : decode cX0_write 179 = .ok (.return_, 1) := by decide +kernel
def wnX0_write : Nat → (Int32 × Nat × (Nat → Int32) → Prop) → (Nat → Int32) → (Nat → Int32) → (Nat → Int32) → (Nat → Int32) → (Nat → Int64) → (Nat → Int64) → (Int32) → (Int32) → (Nat) → (Nat → Int32) → (Nat) → (Nat) → (Int32) → (Int32) → Prop
  | 0, _, _, _, _, _, _, _, _, _, _, _, _, _, _, _ => False
  | nR+1, post, kf, ff, sf, df, pf, gf, bn, wc, wn, wf, mcb, msb, p1, p3 =>
    (((6 : Int32) < p3) →
      post (wc, wn, wf)
    ) ∧ (¬ ((6 : Int32) < p3) →
      wX0_holds (fun r_1 : Int32 =>
        ((¬ r_1 = 0) →
          wX0_kindOf (fun r_2 : Int32 =>
            wX0_firstOf (fun r_3 : Int32 =>
              wX0_secondOf (fun r_4 : Int32 =>
                ((¬ r_2 = 0) →
                  ((¬ r_2 = (1 : Int32)) →
                    ((r_2 = (2 : Int32)) →
                      ∃ b_1 b_2 : Nat,
                      ((0 + b_1) ≤ mcb ∧ (0 + b_2) ≤ msb) ∧
                      wnJ4_append_cf468 (fun (z_1 : Int32 × Nat × (Nat → Int32)) =>
                        ∃ b_3 b_4 : Nat,
                        (((0 + b_1) + b_3) ≤ mcb ∧ ((0 + b_2) + b_4) ≤ msb) ∧
                        wnX0_write nR (fun (z_2 : Int32 × Nat × (Nat → Int32)) =>
                          ((¬ r_2 = (2 : Int32)) →
                            ∃ b_5 b_6 : Nat,
                            ((((0 + b_1) + b_3) + b_5) ≤ mcb ∧ (((0 + b_2) + b_4) + b_6) ≤ msb) ∧
                            wnJ4_append_cf468 (fun (z_3 : Int32 × Nat × (Nat → Int32)) =>
                              ∃ b_7 b_8 : Nat,
                              (((((0 + b_1) + b_3) + b_5) + b_7) ≤ mcb ∧ ((((0 + b_2) + b_4) + b_6) + b_8) ≤ msb) ∧
                              wnX0_write nR (fun (z_4 : Int32 × Nat × (Nat → Int32)) =>
                                ∃ b_9 b_10 : Nat,
                                ((((((0 + b_1) + b_3) + b_5) + b_7) + b_9) ≤ mcb ∧ (((((0 + b_2) + b_4) + b_6) + b_8) + b_10) ≤ msb) ∧
                                wnJ4_append_cf468 (fun (z_5 : Int32 × Nat × (Nat → Int32)) =>
                                  ((((((0 + b_1) + b_3) + b_5) + b_7) + b_9) ≤ mcb ∧ (((((0 + b_2) + b_4) + b_6) + b_8) + b_10) ≤ msb) ∧
                                  post (z_5.1, z_5.2.1, z_5.2.2)
                                  ) z_4.1 z_4.2.1 z_4.2.2 b_9 b_10 (41 : Int32)
                                ) kf ff sf df pf gf bn z_3.1 z_3.2.1 z_3.2.2 b_7 b_8 r_4 (p3 + (1 : Int32))
                              ) z_2.1 z_2.2.1 z_2.2.2 b_5 b_6 (124 : Int32)
                          ) ∧ ((r_2 = (2 : Int32)) →
                            ∃ b_11 b_12 : Nat,
                            ((((0 + b_1) + b_3) + b_11) ≤ mcb ∧ (((0 + b_2) + b_4) + b_12) ≤ msb) ∧
                            wnJ4_append_cf468 (fun (z_6 : Int32 × Nat × (Nat → Int32)) =>
                              ∃ b_13 b_14 : Nat,
                              (((((0 + b_1) + b_3) + b_11) + b_13) ≤ mcb ∧ ((((0 + b_2) + b_4) + b_12) + b_14) ≤ msb) ∧
                              wnX0_write nR (fun (z_7 : Int32 × Nat × (Nat → Int32)) =>
                                ∃ b_15 b_16 : Nat,
                                ((((((0 + b_1) + b_3) + b_11) + b_13) + b_15) ≤ mcb ∧ (((((0 + b_2) + b_4) + b_12) + b_14) + b_16) ≤ msb) ∧
                                wnJ4_append_cf468 (fun (z_8 : Int32 × Nat × (Nat → Int32)) =>
                                  ((((((0 + b_1) + b_3) + b_11) + b_13) + b_15) ≤ mcb ∧ (((((0 + b_2) + b_4) + b_12) + b_14) + b_16) ≤ msb) ∧
                                  post (z_8.1, z_8.2.1, z_8.2.2)
                                  ) z_7.1 z_7.2.1 z_7.2.2 b_15 b_16 (41 : Int32)
                                ) kf ff sf df pf gf bn z_6.1 z_6.2.1 z_6.2.2 b_13 b_14 r_4 (p3 + (1 : Int32))
                              ) z_2.1 z_2.2.1 z_2.2.2 b_11 b_12 (38 : Int32)
                          )
                          ) kf ff sf df pf gf bn z_1.1 z_1.2.1 z_1.2.2 b_3 b_4 r_3 (p3 + (1 : Int32))
                        ) wc wn wf b_1 b_2 (40 : Int32)
                    ) ∧ (¬ (r_2 = (2 : Int32)) →
                      ((¬ r_2 = (3 : Int32)) →
                        wX0_letterOf (fun r_13 : Int32 =>
                          ∃ b_17 b_18 : Nat,
                          ((0 + b_17) ≤ mcb ∧ (0 + b_18) ≤ msb) ∧
                          wnJ4_append_cf468 (fun (z_9 : Int32 × Nat × (Nat → Int32)) =>
                            ∃ b_19 b_20 : Nat,
                            (((0 + b_17) + b_19) ≤ mcb ∧ ((0 + b_18) + b_20) ≤ msb) ∧
                            wnJ4_append_bf812 (fun (z_10 : Int32 × Nat × (Nat → Int32)) =>
                              ∃ b_21 b_22 : Nat,
                              ((((0 + b_17) + b_19) + b_21) ≤ mcb ∧ (((0 + b_18) + b_20) + b_22) ≤ msb) ∧
                              wnJ4_append_cf468 (fun (z_11 : Int32 × Nat × (Nat → Int32)) =>
                                ∃ b_23 b_24 : Nat,
                                (((((0 + b_17) + b_19) + b_21) + b_23) ≤ mcb ∧ ((((0 + b_18) + b_20) + b_22) + b_24) ≤ msb) ∧
                                wnX0_write nR (fun (z_12 : Int32 × Nat × (Nat → Int32)) =>
                                  (((((0 + b_17) + b_19) + b_21) + b_23) ≤ mcb ∧ ((((0 + b_18) + b_20) + b_22) + b_24) ≤ msb) ∧
                                  post (z_12.1, z_12.2.1, z_12.2.2)
                                  ) kf ff sf df pf gf bn z_11.1 z_11.2.1 z_11.2.2 b_23 b_24 r_4 (p3 + (1 : Int32))
                                ) z_10.1 z_10.2.1 z_10.2.2 b_21 b_22 (58 : Int32)
                              ) z_9.1 z_9.2.1 z_9.2.2 b_19 b_20 r_3
                            ) wc wn wf b_17 b_18 r_13
                          ) r_2
                      ) ∧ ((r_2 = (3 : Int32)) →
                        ∃ b_25 b_26 : Nat,
                        ((0 + b_25) ≤ mcb ∧ (0 + b_26) ≤ msb) ∧
                        wnJ4_append_cf468 (fun (z_13 : Int32 × Nat × (Nat → Int32)) =>
                          ∃ b_27 b_28 : Nat,
                          (((0 + b_25) + b_27) ≤ mcb ∧ ((0 + b_26) + b_28) ≤ msb) ∧
                          wnX0_write nR (fun (z_14 : Int32 × Nat × (Nat → Int32)) =>
                            ((¬ r_2 = (2 : Int32)) →
                              ∃ b_29 b_30 : Nat,
                              ((((0 + b_25) + b_27) + b_29) ≤ mcb ∧ (((0 + b_26) + b_28) + b_30) ≤ msb) ∧
                              wnJ4_append_cf468 (fun (z_15 : Int32 × Nat × (Nat → Int32)) =>
                                ∃ b_31 b_32 : Nat,
                                (((((0 + b_25) + b_27) + b_29) + b_31) ≤ mcb ∧ ((((0 + b_26) + b_28) + b_30) + b_32) ≤ msb) ∧
                                wnX0_write nR (fun (z_16 : Int32 × Nat × (Nat → Int32)) =>
                                  ∃ b_33 b_34 : Nat,
                                  ((((((0 + b_25) + b_27) + b_29) + b_31) + b_33) ≤ mcb ∧ (((((0 + b_26) + b_28) + b_30) + b_32) + b_34) ≤ msb) ∧
                                  wnJ4_append_cf468 (fun (z_17 : Int32 × Nat × (Nat → Int32)) =>
                                    ((((((0 + b_25) + b_27) + b_29) + b_31) + b_33) ≤ mcb ∧ (((((0 + b_26) + b_28) + b_30) + b_32) + b_34) ≤ msb) ∧
                                    post (z_17.1, z_17.2.1, z_17.2.2)
                                    ) z_16.1 z_16.2.1 z_16.2.2 b_33 b_34 (41 : Int32)
                                  ) kf ff sf df pf gf bn z_15.1 z_15.2.1 z_15.2.2 b_31 b_32 r_4 (p3 + (1 : Int32))
                                ) z_14.1 z_14.2.1 z_14.2.2 b_29 b_30 (124 : Int32)
                            ) ∧ ((r_2 = (2 : Int32)) →
                              ∃ b_35 b_36 : Nat,
                              ((((0 + b_25) + b_27) + b_35) ≤ mcb ∧ (((0 + b_26) + b_28) + b_36) ≤ msb) ∧
                              wnJ4_append_cf468 (fun (z_18 : Int32 × Nat × (Nat → Int32)) =>
                                ∃ b_37 b_38 : Nat,
                                (((((0 + b_25) + b_27) + b_35) + b_37) ≤ mcb ∧ ((((0 + b_26) + b_28) + b_36) + b_38) ≤ msb) ∧
                                wnX0_write nR (fun (z_19 : Int32 × Nat × (Nat → Int32)) =>
                                  ∃ b_39 b_40 : Nat,
                                  ((((((0 + b_25) + b_27) + b_35) + b_37) + b_39) ≤ mcb ∧ (((((0 + b_26) + b_28) + b_36) + b_38) + b_40) ≤ msb) ∧
                                  wnJ4_append_cf468 (fun (z_20 : Int32 × Nat × (Nat → Int32)) =>
                                    ((((((0 + b_25) + b_27) + b_35) + b_37) + b_39) ≤ mcb ∧ (((((0 + b_26) + b_28) + b_36) + b_38) + b_40) ≤ msb) ∧
                                    post (z_20.1, z_20.2.1, z_20.2.2)
                                    ) z_19.1 z_19.2.1 z_19.2.2 b_39 b_40 (41 : Int32)
                                  ) kf ff sf df pf gf bn z_18.1 z_18.2.1 z_18.2.2 b_37 b_38 r_4 (p3 + (1 : Int32))
                                ) z_14.1 z_14.2.1 z_14.2.2 b_35 b_36 (38 : Int32)
                            )
                            ) kf ff sf df pf gf bn z_13.1 z_13.2.1 z_13.2.2 b_27 b_28 r_3 (p3 + (1 : Int32))
                          ) wc wn wf b_25 b_26 (40 : Int32)
                      )
                    )
                  ) ∧ ((r_2 = (1 : Int32)) →
                    ∃ b_41 b_42 : Nat,
                    ((0 + b_41) ≤ mcb ∧ (0 + b_42) ≤ msb) ∧
                    wnJ4_append_cf468 (fun (z_21 : Int32 × Nat × (Nat → Int32)) =>
                      ∃ b_43 b_44 : Nat,
                      (((0 + b_41) + b_43) ≤ mcb ∧ ((0 + b_42) + b_44) ≤ msb) ∧
                      wnX0_write nR (fun (z_22 : Int32 × Nat × (Nat → Int32)) =>
                        (((0 + b_41) + b_43) ≤ mcb ∧ ((0 + b_42) + b_44) ≤ msb) ∧
                        post (z_22.1, z_22.2.1, z_22.2.2)
                        ) kf ff sf df pf gf bn z_21.1 z_21.2.1 z_21.2.2 b_43 b_44 r_3 (p3 + (1 : Int32))
                      ) wc wn wf b_41 b_42 (45 : Int32)
                  )
                ) ∧ ((r_2 = 0) →
                  ∃ b_45 b_46 : Nat,
                  ((0 + b_45) ≤ mcb ∧ (0 + b_46) ≤ msb) ∧
                  wnJ4_append_cf468 (fun (z_23 : Int32 × Nat × (Nat → Int32)) =>
                    ∃ b_47 b_48 : Nat,
                    (((0 + b_45) + b_47) ≤ mcb ∧ ((0 + b_46) + b_48) ≤ msb) ∧
                    wnJ4_append_bf812 (fun (z_24 : Int32 × Nat × (Nat → Int32)) =>
                      (((0 + b_45) + b_47) ≤ mcb ∧ ((0 + b_46) + b_48) ≤ msb) ∧
                      post (z_24.1, z_24.2.1, z_24.2.2)
                      ) z_23.1 z_23.2.1 z_23.2.2 b_47 b_48 r_3
                    ) wc wn wf b_45 b_46 (112 : Int32)
                )
                ) sf bn p1
              ) ff bn p1
            ) kf bn p1
        ) ∧ ((r_1 = 0) →
          post (wc, wn, wf)
        )
        ) bn p1
    )
abbrev wl_nX0_write : List Cond := .code yX0_write cX0_write 7 none :: lwg
abbrev rm_nX0_write (n mcb msb : Nat) : Room := { frames := 6 + n, cells := mcb, slots := msb, locals := 152 + n * 26 }
set_option maxHeartbeats 4000000 in
set_option maxRecDepth 100000 in
theorem knX0_write (nR : Nat) : ∀ {post : Int32 × Nat × (Nat → Int32) → Prop} (l : Launch) (G : GT) (b0 : Nat) (b1 : Nat) (b2 : Nat) (b3 : Nat) (b4 : Nat) (b5 : Nat) (b6 : Nat) (wb : Nat) (wv : Nat) (kf : Nat → Int32) (ff : Nat → Int32) (sf : Nat → Int32) (df : Nat → Int32) (pf : Nat → Int64) (gf : Nat → Int64) (bn : Int32) (wc : Int32) (wn : Nat) (wf : Nat → Int32) (mcb : Nat) (msb : Nat) (p1 : Int32) (p3 : Int32) (sz : Nat) (h : wnX0_write nR post kf ff sf df pf gf bn wc wn wf mcb msb p1 p3), Met l yX0_write wl_nX0_write (rm_nX0_write nR mcb msb) (va_Pc [.ref b0, .int p1, .ref wb, .int p3] (fun U => U.heap.size = sz ∧ PP G [(b0, .inr (3, [.ref b1, .ref b2, .ref b3, .ref b4, .ref b5, .ref b6, .int bn])), (b1, .inl (G.2 0, 40, .inl kf)), (b2, .inl (G.2 0, 40, .inl ff)), (b3, .inl (G.2 0, 40, .inl sf)), (b4, .inl (G.2 0, 40, .inl df)), (b5, .inl (G.2 1, 40, .inr (.inl pf))), (b6, .inl (G.2 1, 6, .inr (.inl gf))), (wb, .inr (1, [.ref wv, .int (0 : Int32), .int (0 : Int32), .int wc])), (wv, .inl (G.2 2, wn, .inl wf))] U.heap ∧ KK G U ∧ va_D (fun _ => True) [(b0, .inr (3, [.ref b1, .ref b2, .ref b3, .ref b4, .ref b5, .ref b6, .int bn])), (b1, .inl (G.2 0, 40, .inl kf)), (b2, .inl (G.2 0, 40, .inl ff)), (b3, .inl (G.2 0, 40, .inl sf)), (b4, .inl (G.2 0, 40, .inl df)), (b5, .inl (G.2 1, 40, .inr (.inl pf))), (b6, .inl (G.2 1, 6, .inr (.inl gf))), (wb, .inr (1, [.ref wv, .int (0 : Int32), .int (0 : Int32), .int wc])), (wv, .inl (G.2 2, wn, .inl wf))] ∧ JJ G (va_A [(b0, .inr (3, [.ref b1, .ref b2, .ref b3, .ref b4, .ref b5, .ref b6, .int bn])), (b1, .inl (G.2 0, 40, .inl kf)), (b2, .inl (G.2 0, 40, .inl ff)), (b3, .inl (G.2 0, 40, .inl sf)), (b4, .inl (G.2 0, 40, .inl df)), (b5, .inl (G.2 1, 40, .inr (.inl pf))), (b6, .inl (G.2 1, 6, .inr (.inl gf))), (wb, .inr (1, [.ref wv, .int (0 : Int32), .int (0 : Int32), .int wc])), (wv, .inl (G.2 2, wn, .inl wf))] sz) U U.heap)) (va_Qv post (fun u t => ∃ wvE : Nat, PP G [(b0, .inr (3, [.ref b1, .ref b2, .ref b3, .ref b4, .ref b5, .ref b6, .int bn])), (b1, .inl (G.2 0, 40, .inl kf)), (b2, .inl (G.2 0, 40, .inl ff)), (b3, .inl (G.2 0, 40, .inl sf)), (b4, .inl (G.2 0, 40, .inl df)), (b5, .inl (G.2 1, 40, .inr (.inl pf))), (b6, .inl (G.2 1, 6, .inr (.inl gf))), (wb, .inr (1, [.ref wvE, .int (0 : Int32), .int (0 : Int32), .int (u.1)])), (wvE, .inl (G.2 2, u.2.1, .inl (u.2.2)))] t.heap ∧ va_D (va_A [(b0, .inr (3, [.ref b1, .ref b2, .ref b3, .ref b4, .ref b5, .ref b6, .int bn])), (b1, .inl (G.2 0, 40, .inl kf)), (b2, .inl (G.2 0, 40, .inl ff)), (b3, .inl (G.2 0, 40, .inl sf)), (b4, .inl (G.2 0, 40, .inl df)), (b5, .inl (G.2 1, 40, .inr (.inl pf))), (b6, .inl (G.2 1, 6, .inr (.inl gf))), (wb, .inr (1, [.ref wv, .int (0 : Int32), .int (0 : Int32), .int wc])), (wv, .inl (G.2 2, wn, .inl wf))] sz) [(b0, .inr (3, [.ref b1, .ref b2, .ref b3, .ref b4, .ref b5, .ref b6, .int bn])), (b1, .inl (G.2 0, 40, .inl kf)), (b2, .inl (G.2 0, 40, .inl ff)), (b3, .inl (G.2 0, 40, .inl sf)), (b4, .inl (G.2 0, 40, .inl df)), (b5, .inl (G.2 1, 40, .inr (.inl pf))), (b6, .inl (G.2 1, 6, .inr (.inl gf))), (wb, .inr (1, [.ref wvE, .int (0 : Int32), .int (0 : Int32), .int (u.1)])), (wvE, .inl (G.2 2, u.2.1, .inl (u.2.2)))]) (va_A [(b0, .inr (3, [.ref b1, .ref b2, .ref b3, .ref b4, .ref b5, .ref b6, .int bn])), (b1, .inl (G.2 0, 40, .inl kf)), (b2, .inl (G.2 0, 40, .inl ff)), (b3, .inl (G.2 0, 40, .inl sf)), (b4, .inl (G.2 0, 40, .inl df)), (b5, .inl (G.2 1, 40, .inr (.inl pf))), (b6, .inl (G.2 1, 6, .inr (.inl gf))), (wb, .inr (1, [.ref wv, .int (0 : Int32), .int (0 : Int32), .int wc])), (wv, .inl (G.2 2, wn, .inl wf))] sz)) mcb msb (va_A [(b0, .inr (3, [.ref b1, .ref b2, .ref b3, .ref b4, .ref b5, .ref b6, .int bn])), (b1, .inl (G.2 0, 40, .inl kf)), (b2, .inl (G.2 0, 40, .inl ff)), (b3, .inl (G.2 0, 40, .inl sf)), (b4, .inl (G.2 0, 40, .inl df)), (b5, .inl (G.2 1, 40, .inr (.inl pf))), (b6, .inl (G.2 1, 6, .inr (.inl gf))), (wb, .inr (1, [.ref wv, .int (0 : Int32), .int (0 : Int32), .int wc])), (wv, .inl (G.2 2, wn, .inl wf))] sz) := by
  induction nR with
  | zero => intro post l G b0 b1 b2 b3 b4 b5 b6 wb wv kf ff sf df pf gf bn wc wn wf mcb msb p1 p3 sz h; exact False.elim h
  | succ nR ih =>
  intro post l G b0 b1 b2 b3 b4 b5 b6 wb wv kf ff sf df pf gf bn wc wn wf mcb msb p1 p3 sz h
  refine Met.ofW (cc := cX0_write) (maxL := 7) (ret := none) (by decide) rfl ?_
  intro p e s m args below meth c s₁ B hml hv
  obtain ⟨rfl, hsz, hP, hKK, hD0, hJ⟩ := hv
  obtain ⟨hK, hN, hR, hFW, hNC⟩ := id hKK
  have hx := B.exec
  have hb := B.bytes
  have hr := B.returns
  have hts0 := atoms_spec (ws := wl_nX0_write) B.pre
  have hts : ∀ w ∈ lwg, w.before ([.ref b0, .int p1, .ref wb, .int p3] : List Value).toArray s = true := fun w hw => hts0 w (List.mem_cons_of_mem _ hw)
  have hown : s.vm.findClass RX0 = some m.cls := findClass_of_methodNamed B.named
  have hlocks := B.notSynchronized
  subst hsz
  have hD := hD0.self (sz := s.heap.size)
  generalize hAe : va_A [(b0, .inr (3, [.ref b1, .ref b2, .ref b3, .ref b4, .ref b5, .ref b6, .int bn])), (b1, .inl (G.2 0, 40, .inl kf)), (b2, .inl (G.2 0, 40, .inl ff)), (b3, .inl (G.2 0, 40, .inl sf)), (b4, .inl (G.2 0, 40, .inl df)), (b5, .inl (G.2 1, 40, .inr (.inl pf))), (b6, .inl (G.2 1, 6, .inr (.inl gf))), (wb, .inr (1, [.ref wv, .int (0 : Int32), .int (0 : Int32), .int wc])), (wv, .inl (G.2 2, wn, .inl wf))] s.heap.size = A at hD hJ ⊢
  have hA : ∀ q : Nat, s.heap.size ≤ q → A q := fun q h => by rw [← hAe]; exact Or.inr h
  have hS : va_S A s.heap s.heap [] := va_S.rf
  obtain ⟨QC, hQC⟩ : ∃ Z, Z = (va_Qv post (fun u t => ∃ wvE : Nat, PP G [(b0, .inr (3, [.ref b1, .ref b2, .ref b3, .ref b4, .ref b5, .ref b6, .int bn])), (b1, .inl (G.2 0, 40, .inl kf)), (b2, .inl (G.2 0, 40, .inl ff)), (b3, .inl (G.2 0, 40, .inl sf)), (b4, .inl (G.2 0, 40, .inl df)), (b5, .inl (G.2 1, 40, .inr (.inl pf))), (b6, .inl (G.2 1, 6, .inr (.inl gf))), (wb, .inr (1, [.ref wvE, .int (0 : Int32), .int (0 : Int32), .int (u.1)])), (wvE, .inl (G.2 2, u.2.1, .inl (u.2.2)))] t.heap ∧ va_D A [(b0, .inr (3, [.ref b1, .ref b2, .ref b3, .ref b4, .ref b5, .ref b6, .int bn])), (b1, .inl (G.2 0, 40, .inl kf)), (b2, .inl (G.2 0, 40, .inl ff)), (b3, .inl (G.2 0, 40, .inl sf)), (b4, .inl (G.2 0, 40, .inl df)), (b5, .inl (G.2 1, 40, .inr (.inl pf))), (b6, .inl (G.2 1, 6, .inr (.inl gf))), (wb, .inr (1, [.ref wvE, .int (0 : Int32), .int (0 : Int32), .int (u.1)])), (wvE, .inl (G.2 2, u.2.1, .inl (u.2.2)))]) A) := ⟨_, rfl⟩
  rw [← hQC]
  obtain ⟨jE, hjE⟩ := hJ.2.1
  obtain ⟨jT, hjT1, hjT2⟩ := hJ.2.2.1
  obtain ⟨jO, hjO1, hjO2⟩ := hJ.2.2.2.1
  obtain ⟨jS, hjS⟩ := hJ.2.2.2.2.1
  have hP : PP G [(b0, .inr (3, [.ref b1, .ref b2, .ref b3, .ref b4, .ref b5, .ref b6, .int bn])), (b1, .inl (G.2 0, 40, .inl kf)), (b2, .inl (G.2 0, 40, .inl ff)), (b3, .inl (G.2 0, 40, .inl sf)), (b4, .inl (G.2 0, 40, .inl df)), (b5, .inl (G.2 1, 40, .inr (.inl pf))), (b6, .inl (G.2 1, 6, .inr (.inl gf))), (wb, .inr (1, [.ref wv, .int (0 : Int32), .int (0 : Int32), .int wc])), (wv, .inl (G.2 2, wn, .inl wf))] s.heap := hP
  have hl := lv_entry ([.ref b0, .int p1, .ref wb, .int p3]) (n := 7) (Nat.le_of_ble_eq_true rfl)
  rw [lg_entry_eq]
  generalize (lg_sl ([.ref b0, .int p1, .ref wb, .int p3]) ++ List.replicate (7 - (lg_sl ([.ref b0, .int p1, .ref wb, .int p3])).length) Slot.unset).toArray = ls at hl ⊢
  have hl : lv_has ls 7 [(0, .ref b0), (1, .int p1), (2, .ref wb), (3, .int p3)] := hl
  refine lv_iload_n hx hb dX0_write_0 rfl (lv_at hl 3 rfl) ?_
  refine lv_bipush (v := 6) hx hb dX0_write_1 (by decide) ?_
  refine lv_icmp_gt (tgt := 14) hx hb dX0_write_3 (by decide) (fun hc => ?_) (fun hc => ?_)
  · have h := h.1 hc
    refine W.widen (k := mcb) (n := msb) (Nat.zero_le _) (Nat.zero_le _) ?_
    subst hQC; exact W.vret hx hb hr (fun t ht hW => ⟨⟨(wc, wn, wf), rfl, h, wv, by rw [ht]; exact hP, hD⟩, hS.F ht⟩) hS.2.2 dX0_write_14
  · have h := h.2 hc
    refine lv_aload_n hx hb dX0_write_6 rfl (lv_at hl 0 rfl) ?_
    refine lv_iload_n hx hb dX0_write_7 rfl (lv_at hl 1 rfl) ?_
    have hPc := va_P.sub (ws' := [(b0, .inr (3, [.ref b1, .ref b2, .ref b3, .ref b4, .ref b5, .ref b6, .int bn])), (b1, .inl (G.2 0, 40, .inl kf)), (b2, .inl (G.2 0, 40, .inl ff)), (b3, .inl (G.2 0, 40, .inl sf)), (b4, .inl (G.2 0, 40, .inl df)), (b5, .inl (G.2 1, 40, .inr (.inl pf))), (b6, .inl (G.2 1, 6, .inr (.inl gf)))]) hP [0, 1, 2, 3, 4, 5, 6] rfl
    refine rdI (va_runV (C := RX0) (As := [.int p1]) (rest := []) ⟨hx, hb, hml, hown, hts⟩ (kX0_holds l G b0 b1 b2 b3 b4 b5 b6 kf ff sf df pf gf bn p1 h) (cwV 1 hts (gdV q114 q115 q116 q2 q117) rfl rfl rfl (by decide +kernel) ⟨(by show 0 + 1 ≤ 6 + (nR + 1); omega), (by show 8 + (2 + 11) + 0 ≤ 152 + (nR + 1) * 26; omega)⟩) (preV hPc hKK (va_recv hK hPc (ci := 3) (q0 := 0) rfl rfl)) rfl rfl hl.1 rfl (lv_room (Nat.le_of_ble_eq_true rfl)) dX0_write_8 ⟨Nat.zero_le _, Nat.zero_le _⟩) (fun r_1 h => ?_)
    refine lv_if_ne (tgt := 15) hx hb dX0_write_11 (by decide) (fun hc => ?_) (fun hc => ?_)
    · have h := h.1 hc
      refine lv_aload_n hx hb dX0_write_15 rfl (lv_at hl 0 rfl) ?_
      refine lv_iload_n hx hb dX0_write_16 rfl (lv_at hl 1 rfl) ?_
      have hPc := va_P.sub (ws' := [(b0, .inr (3, [.ref b1, .ref b2, .ref b3, .ref b4, .ref b5, .ref b6, .int bn])), (b1, .inl (G.2 0, 40, .inl kf)), (b2, .inl (G.2 0, 40, .inl ff)), (b3, .inl (G.2 0, 40, .inl sf)), (b4, .inl (G.2 0, 40, .inl df)), (b5, .inl (G.2 1, 40, .inr (.inl pf))), (b6, .inl (G.2 1, 6, .inr (.inl gf)))]) hP [0, 1, 2, 3, 4, 5, 6] rfl
      refine rdI (va_runV (C := RX0) (As := [.int p1]) (rest := []) ⟨hx, hb, hml, hown, hts⟩ (kX0_kindOf l G b0 b1 b2 b3 b4 b5 b6 kf ff sf df pf gf bn p1 h) (cwV 1 hts (gdV q708 q123 q124 q2 q125) rfl rfl rfl (by decide +kernel) ⟨(by show 1 + 1 ≤ 6 + (nR + 1); omega), (by show 8 + (2 + 11) + 21 ≤ 152 + (nR + 1) * 26; omega)⟩) (preV hPc hKK (va_recv hK hPc (ci := 3) (q0 := 0) rfl rfl)) rfl rfl hl.1 rfl (lv_room (Nat.le_of_ble_eq_true rfl)) dX0_write_17 ⟨Nat.zero_le _, Nat.zero_le _⟩) (fun r_2 h => ?_)
      refine lv_istore hx hb dX0_write_20 hl (Nat.le_of_ble_eq_true rfl) rfl (fun ls hl => ?_)
      have hl : lv_has ls 7 [(4, .int r_2), (0, .ref b0), (1, .int p1), (2, .ref wb), (3, .int p3)] := hl
      refine lv_aload_n hx hb dX0_write_22 rfl (lv_at hl 1 rfl) ?_
      refine lv_iload_n hx hb dX0_write_23 rfl (lv_at hl 2 rfl) ?_
      have hPc := va_P.sub (ws' := [(b0, .inr (3, [.ref b1, .ref b2, .ref b3, .ref b4, .ref b5, .ref b6, .int bn])), (b1, .inl (G.2 0, 40, .inl kf)), (b2, .inl (G.2 0, 40, .inl ff)), (b3, .inl (G.2 0, 40, .inl sf)), (b4, .inl (G.2 0, 40, .inl df)), (b5, .inl (G.2 1, 40, .inr (.inl pf))), (b6, .inl (G.2 1, 6, .inr (.inl gf)))]) hP [0, 1, 2, 3, 4, 5, 6] rfl
      refine rdI (va_runV (C := RX0) (As := [.int p1]) (rest := []) ⟨hx, hb, hml, hown, hts⟩ (kX0_firstOf l G b0 b1 b2 b3 b4 b5 b6 kf ff sf df pf gf bn p1 h) (cwV 1 hts (gdV q709 q111 q112 q2 q113) rfl rfl rfl (by decide +kernel) ⟨(by show 1 + 1 ≤ 6 + (nR + 1); omega), (by show 8 + (2 + 11) + 21 ≤ 152 + (nR + 1) * 26; omega)⟩) (preV hPc hKK (va_recv hK hPc (ci := 3) (q0 := 0) rfl rfl)) rfl rfl hl.1 rfl (lv_room (Nat.le_of_ble_eq_true rfl)) dX0_write_24 ⟨Nat.zero_le _, Nat.zero_le _⟩) (fun r_3 h => ?_)
      refine lv_istore hx hb dX0_write_27 hl (Nat.le_of_ble_eq_true rfl) rfl (fun ls hl => ?_)
      have hl : lv_has ls 7 [(5, .int r_3), (4, .int r_2), (0, .ref b0), (1, .int p1), (2, .ref wb), (3, .int p3)] := hl
      refine lv_aload_n hx hb dX0_write_29 rfl (lv_at hl 2 rfl) ?_
      refine lv_iload_n hx hb dX0_write_30 rfl (lv_at hl 3 rfl) ?_
      have hPc := va_P.sub (ws' := [(b0, .inr (3, [.ref b1, .ref b2, .ref b3, .ref b4, .ref b5, .ref b6, .int bn])), (b1, .inl (G.2 0, 40, .inl kf)), (b2, .inl (G.2 0, 40, .inl ff)), (b3, .inl (G.2 0, 40, .inl sf)), (b4, .inl (G.2 0, 40, .inl df)), (b5, .inl (G.2 1, 40, .inr (.inl pf))), (b6, .inl (G.2 1, 6, .inr (.inl gf)))]) hP [0, 1, 2, 3, 4, 5, 6] rfl
      refine rdI (va_runV (C := RX0) (As := [.int p1]) (rest := []) ⟨hx, hb, hml, hown, hts⟩ (kX0_secondOf l G b0 b1 b2 b3 b4 b5 b6 kf ff sf df pf gf bn p1 h) (cwV 1 hts (gdV q710 q119 q120 q2 q121) rfl rfl rfl (by decide +kernel) ⟨(by show 1 + 1 ≤ 6 + (nR + 1); omega), (by show 8 + (2 + 11) + 21 ≤ 152 + (nR + 1) * 26; omega)⟩) (preV hPc hKK (va_recv hK hPc (ci := 3) (q0 := 0) rfl rfl)) rfl rfl hl.1 rfl (lv_room (Nat.le_of_ble_eq_true rfl)) dX0_write_31 ⟨Nat.zero_le _, Nat.zero_le _⟩) (fun r_4 h => ?_)
      refine lv_istore hx hb dX0_write_34 hl (Nat.le_of_ble_eq_true rfl) rfl (fun ls hl => ?_)
      have hl : lv_has ls 7 [(6, .int r_4), (5, .int r_3), (4, .int r_2), (0, .ref b0), (1, .int p1), (2, .ref wb), (3, .int p3)] := hl
      refine lv_iload hx hb dX0_write_36 (lv_at hl 2 rfl) ?_
      refine lv_if_ne (tgt := 56) hx hb dX0_write_38 (by decide) (fun hc => ?_) (fun hc => ?_)
      · have h := h.1 hc
        refine lv_iload hx hb dX0_write_56 (lv_at hl 2 rfl) ?_
        refine lv_iconst (v := 1) hx hb dX0_write_58 (by decide) ?_
        refine lv_icmp_ne (tgt := 82) hx hb dX0_write_59 (by decide) (fun hc => ?_) (fun hc => ?_)
        · have h := h.1 hc
          refine lv_iload hx hb dX0_write_82 (lv_at hl 2 rfl) ?_
          refine lv_iconst (v := 2) hx hb dX0_write_84 (by decide) ?_
          refine lv_icmp_eq (tgt := 94) hx hb dX0_write_85 (by decide) (fun hc => ?_) (fun hc => ?_)
          · have h := h.1 hc
            refine lv_aload_n hx hb dX0_write_94 rfl (lv_at hl 5 rfl) ?_
            refine lv_bipush (v := 40) hx hb dX0_write_95 (by decide) ?_
            obtain ⟨b_1, b_2, h⟩ := h
            obtain ⟨⟨hq_1, hq_2⟩, h⟩ := h
            have hPc := va_P.sub (ws' := [(wb, .inr (1, [.ref wv, .int (0 : Int32), .int (0 : Int32), .int wc])), (wv, .inl (G.2 2, wn, .inl wf))]) hP [7, 8] rfl
            have hDc := hD.sub (ws' := [(wb, .inr (1, [.ref wv, .int (0 : Int32), .int (0 : Int32), .int wc])), (wv, .inl (G.2 2, wn, .inl wf))]) [7, 8] (by decide) rfl
            have hFc := va_free (wc := [(wb, .inr (1, [.ref wv, .int (0 : Int32), .int (0 : Int32), .int wc])), (wv, .inl (G.2 2, wn, .inl wf))]) hD hS hA [7, 8] rfl
            have hJc := (hJ.kept hS.2.1).narrow hFc
            refine va_callr (va_runV (C := RJ4) (As := [.int (40 : Int32)]) (rest := []) ⟨hx, hb, hml, hown, hts⟩ (knJ4_append_cf468 l G wb wv wc wn wf b_1 b_2 (40 : Int32) _ h) (cwV 1 hts (gdV q711 q712 q713 q25 q714) rfl rfl rfl (by decide +kernel) ⟨(by show 5 + 1 ≤ 6 + (nR + 1); omega), (by show 8 + (2 + 11) + 129 ≤ 152 + (nR + 1) * 26; omega)⟩) (preVwj hPc hKK hDc hJc (va_recv hK hPc (ci := 1) (q0 := 0) rfl rfl)) rfl rfl hl.1 rfl (lv_room (Nat.le_of_ble_eq_true rfl)) dX0_write_97 ⟨hq_1, hq_2⟩) hS (fun q _ h => hFc q h) hFc (fun u ra t H1 locs ht hvm h hB hz1 hk1 hS => ?_)
            obtain ⟨wc_1, wn_1, wf_1⟩ := u
            obtain ⟨era, hB⟩ := hB
            rw [era]
            obtain ⟨wv_1, hB⟩ := hB
            obtain ⟨hP1, hD1⟩ := hB
            rw [ht] at hP1
            obtain ⟨hP, hD⟩ := va_join (wr := [(b0, .inr (3, [.ref b1, .ref b2, .ref b3, .ref b4, .ref b5, .ref b6, .int bn])), (b1, .inl (G.2 0, 40, .inl kf)), (b2, .inl (G.2 0, 40, .inl ff)), (b3, .inl (G.2 0, 40, .inl sf)), (b4, .inl (G.2 0, 40, .inl df)), (b5, .inl (G.2 1, 40, .inr (.inl pf))), (b6, .inl (G.2 1, 6, .inr (.inl gf)))]) (w1 := [(wb, .inr (1, [.ref wv_1, .int (0 : Int32), .int (0 : Int32), .int wc_1])), (wv_1, .inl (G.2 2, wn_1, .inl wf_1))]) hP hD [7, 8] [0, 1, 2, 3, 4, 5, 6] rfl rfl (by decide) (by decide) hk1 hFc hP1 hD1
            generalize H1 = H at hP hS ⊢
            have hP : PP G [(b0, .inr (3, [.ref b1, .ref b2, .ref b3, .ref b4, .ref b5, .ref b6, .int bn])), (b1, .inl (G.2 0, 40, .inl kf)), (b2, .inl (G.2 0, 40, .inl ff)), (b3, .inl (G.2 0, 40, .inl sf)), (b4, .inl (G.2 0, 40, .inl df)), (b5, .inl (G.2 1, 40, .inr (.inl pf))), (b6, .inl (G.2 1, 6, .inr (.inl gf))), (wb, .inr (1, [.ref wv_1, .int (0 : Int32), .int (0 : Int32), .int wc_1])), (wv_1, .inl (G.2 2, wn_1, .inl wf_1))] H := va_P.sub hP [0, 1, 2, 3, 4, 5, 6, 7, 8] rfl
            have hD : va_D A [(b0, .inr (3, [.ref b1, .ref b2, .ref b3, .ref b4, .ref b5, .ref b6, .int bn])), (b1, .inl (G.2 0, 40, .inl kf)), (b2, .inl (G.2 0, 40, .inl ff)), (b3, .inl (G.2 0, 40, .inl sf)), (b4, .inl (G.2 0, 40, .inl df)), (b5, .inl (G.2 1, 40, .inr (.inl pf))), (b6, .inl (G.2 1, 6, .inr (.inl gf))), (wb, .inr (1, [.ref wv_1, .int (0 : Int32), .int (0 : Int32), .int wc_1])), (wv_1, .inl (G.2 2, wn_1, .inl wf_1))] := hD.sub [0, 1, 2, 3, 4, 5, 6, 7, 8] (by decide) rfl
            refine lv_pop hx hb dX0_write_100 rfl ?_
            refine lv_aload_n hx hb dX0_write_101 rfl (lv_at hl 3 rfl) ?_
            refine lv_iload hx hb dX0_write_102 (lv_at hl 1 rfl) ?_
            refine lv_aload_n hx hb dX0_write_104 rfl (lv_at hl 5 rfl) ?_
            refine lv_iload_n hx hb dX0_write_105 rfl (lv_at hl 6 rfl) ?_
            refine lv_iconst (v := 1) hx hb dX0_write_106 (by decide) ?_
            refine lv_iadd hx hb dX0_write_107 ?_
            obtain ⟨b_3, b_4, h⟩ := h
            obtain ⟨⟨hq_3, hq_4⟩, h⟩ := h
            have hPc := hP
            have hDc := hD.sub (ws' := [(b0, .inr (3, [.ref b1, .ref b2, .ref b3, .ref b4, .ref b5, .ref b6, .int bn])), (b1, .inl (G.2 0, 40, .inl kf)), (b2, .inl (G.2 0, 40, .inl ff)), (b3, .inl (G.2 0, 40, .inl sf)), (b4, .inl (G.2 0, 40, .inl df)), (b5, .inl (G.2 1, 40, .inr (.inl pf))), (b6, .inl (G.2 1, 6, .inr (.inl gf))), (wb, .inr (1, [.ref wv_1, .int (0 : Int32), .int (0 : Int32), .int wc_1])), (wv_1, .inl (G.2 2, wn_1, .inl wf_1))]) [0, 1, 2, 3, 4, 5, 6, 7, 8] (by decide) rfl
            have hFc := va_free (wc := [(b0, .inr (3, [.ref b1, .ref b2, .ref b3, .ref b4, .ref b5, .ref b6, .int bn])), (b1, .inl (G.2 0, 40, .inl kf)), (b2, .inl (G.2 0, 40, .inl ff)), (b3, .inl (G.2 0, 40, .inl sf)), (b4, .inl (G.2 0, 40, .inl df)), (b5, .inl (G.2 1, 40, .inr (.inl pf))), (b6, .inl (G.2 1, 6, .inr (.inl gf))), (wb, .inr (1, [.ref wv_1, .int (0 : Int32), .int (0 : Int32), .int wc_1])), (wv_1, .inl (G.2 2, wn_1, .inl wf_1))]) hD hS hA [0, 1, 2, 3, 4, 5, 6, 7, 8] rfl
            have hJc := (hJ.kept hS.2.1).narrow hFc
            refine va_callv (va_runS (As := [.ref b0, .int r_3, .ref wb, .int (p3 + (1 : Int32))]) (rest := []) ⟨hx, hb, hml, hown, hts⟩ (ih l G b0 b1 b2 b3 b4 b5 b6 wb wv_1 kf ff sf df pf gf bn wc_1 wn_1 wf_1 b_3 b_4 r_3 (p3 + (1 : Int32)) _ h) (va_cwS 4 hts (gdS q705 q706 q2 q707) rfl rfl rfl (by decide +kernel) ⟨(by show 6 + nR + 1 ≤ 6 + (nR + 1); omega), (by show 8 + (7 + 11) + (152 + nR * 26) ≤ 152 + (nR + 1) * 26; omega)⟩) (preSwj hPc hKK hDc hJc) rfl rfl hl.1 rfl (lv_room (Nat.le_of_ble_eq_true rfl)) dX0_write_108 ⟨hq_3, hq_4⟩) hS (fun q _ h => hFc q h) hFc (fun u t H1 locs ht hvm h hB hz1 hk1 hS => ?_)
            obtain ⟨wc_2, wn_2, wf_2⟩ := u
            obtain ⟨wv_2, hB⟩ := hB
            obtain ⟨hP1, hD1⟩ := hB
            rw [ht] at hP1
            have hP := hP1
            have hD : va_D A [(b0, .inr (3, [.ref b1, .ref b2, .ref b3, .ref b4, .ref b5, .ref b6, .int bn])), (b1, .inl (G.2 0, 40, .inl kf)), (b2, .inl (G.2 0, 40, .inl ff)), (b3, .inl (G.2 0, 40, .inl sf)), (b4, .inl (G.2 0, 40, .inl df)), (b5, .inl (G.2 1, 40, .inr (.inl pf))), (b6, .inl (G.2 1, 6, .inr (.inl gf))), (wb, .inr (1, [.ref wv_2, .int (0 : Int32), .int (0 : Int32), .int wc_2])), (wv_2, .inl (G.2 2, wn_2, .inl wf_2))] := hD1.weaken (fun _ _ _ h => hFc _ h)
            generalize H1 = H at hP hS ⊢
            have hP : PP G [(b0, .inr (3, [.ref b1, .ref b2, .ref b3, .ref b4, .ref b5, .ref b6, .int bn])), (b1, .inl (G.2 0, 40, .inl kf)), (b2, .inl (G.2 0, 40, .inl ff)), (b3, .inl (G.2 0, 40, .inl sf)), (b4, .inl (G.2 0, 40, .inl df)), (b5, .inl (G.2 1, 40, .inr (.inl pf))), (b6, .inl (G.2 1, 6, .inr (.inl gf))), (wb, .inr (1, [.ref wv_2, .int (0 : Int32), .int (0 : Int32), .int wc_2])), (wv_2, .inl (G.2 2, wn_2, .inl wf_2))] H := hP
            refine lv_aload_n hx hb dX0_write_111 rfl (lv_at hl 5 rfl) ?_
            refine lv_iload hx hb dX0_write_112 (lv_at hl 2 rfl) ?_
            refine lv_iconst (v := 2) hx hb dX0_write_114 (by decide) ?_
            refine lv_icmp_ne (tgt := 123) hx hb dX0_write_115 (by decide) (fun hc => ?_) (fun hc => ?_)
            · have h := h.1 hc
              refine lv_bipush (v := 124) hx hb dX0_write_123 (by decide) ?_
              obtain ⟨b_5, b_6, h⟩ := h
              obtain ⟨⟨hq_5, hq_6⟩, h⟩ := h
              have hPc := va_P.sub (ws' := [(wb, .inr (1, [.ref wv_2, .int (0 : Int32), .int (0 : Int32), .int wc_2])), (wv_2, .inl (G.2 2, wn_2, .inl wf_2))]) hP [7, 8] rfl
              have hDc := hD.sub (ws' := [(wb, .inr (1, [.ref wv_2, .int (0 : Int32), .int (0 : Int32), .int wc_2])), (wv_2, .inl (G.2 2, wn_2, .inl wf_2))]) [7, 8] (by decide) rfl
              have hFc := va_free (wc := [(wb, .inr (1, [.ref wv_2, .int (0 : Int32), .int (0 : Int32), .int wc_2])), (wv_2, .inl (G.2 2, wn_2, .inl wf_2))]) hD hS hA [7, 8] rfl
              have hJc := (hJ.kept hS.2.1).narrow hFc
              refine va_callr (va_runV (C := RJ4) (As := [.int (124 : Int32)]) (rest := []) ⟨hx, hb, hml, hown, hts⟩ (knJ4_append_cf468 l G wb wv_2 wc_2 wn_2 wf_2 b_5 b_6 (124 : Int32) _ h) (cwV 1 hts (gdV q711 q712 q713 q25 q714) rfl rfl rfl (by decide +kernel) ⟨(by show 5 + 1 ≤ 6 + (nR + 1); omega), (by show 8 + (2 + 11) + 129 ≤ 152 + (nR + 1) * 26; omega)⟩) (preVwj hPc hKK hDc hJc (va_recv hK hPc (ci := 1) (q0 := 0) rfl rfl)) rfl rfl hl.1 rfl (lv_room (Nat.le_of_ble_eq_true rfl)) dX0_write_125 ⟨hq_5, hq_6⟩) hS (fun q _ h => hFc q h) hFc (fun u ra t H1 locs ht hvm h hB hz1 hk1 hS => ?_)
              obtain ⟨wc_3, wn_3, wf_3⟩ := u
              obtain ⟨era, hB⟩ := hB
              rw [era]
              obtain ⟨wv_3, hB⟩ := hB
              obtain ⟨hP1, hD1⟩ := hB
              rw [ht] at hP1
              obtain ⟨hP, hD⟩ := va_join (wr := [(b0, .inr (3, [.ref b1, .ref b2, .ref b3, .ref b4, .ref b5, .ref b6, .int bn])), (b1, .inl (G.2 0, 40, .inl kf)), (b2, .inl (G.2 0, 40, .inl ff)), (b3, .inl (G.2 0, 40, .inl sf)), (b4, .inl (G.2 0, 40, .inl df)), (b5, .inl (G.2 1, 40, .inr (.inl pf))), (b6, .inl (G.2 1, 6, .inr (.inl gf)))]) (w1 := [(wb, .inr (1, [.ref wv_3, .int (0 : Int32), .int (0 : Int32), .int wc_3])), (wv_3, .inl (G.2 2, wn_3, .inl wf_3))]) hP hD [7, 8] [0, 1, 2, 3, 4, 5, 6] rfl rfl (by decide) (by decide) hk1 hFc hP1 hD1
              generalize H1 = H at hP hS ⊢
              have hP : PP G [(b0, .inr (3, [.ref b1, .ref b2, .ref b3, .ref b4, .ref b5, .ref b6, .int bn])), (b1, .inl (G.2 0, 40, .inl kf)), (b2, .inl (G.2 0, 40, .inl ff)), (b3, .inl (G.2 0, 40, .inl sf)), (b4, .inl (G.2 0, 40, .inl df)), (b5, .inl (G.2 1, 40, .inr (.inl pf))), (b6, .inl (G.2 1, 6, .inr (.inl gf))), (wb, .inr (1, [.ref wv_3, .int (0 : Int32), .int (0 : Int32), .int wc_3])), (wv_3, .inl (G.2 2, wn_3, .inl wf_3))] H := va_P.sub hP [0, 1, 2, 3, 4, 5, 6, 7, 8] rfl
              have hD : va_D A [(b0, .inr (3, [.ref b1, .ref b2, .ref b3, .ref b4, .ref b5, .ref b6, .int bn])), (b1, .inl (G.2 0, 40, .inl kf)), (b2, .inl (G.2 0, 40, .inl ff)), (b3, .inl (G.2 0, 40, .inl sf)), (b4, .inl (G.2 0, 40, .inl df)), (b5, .inl (G.2 1, 40, .inr (.inl pf))), (b6, .inl (G.2 1, 6, .inr (.inl gf))), (wb, .inr (1, [.ref wv_3, .int (0 : Int32), .int (0 : Int32), .int wc_3])), (wv_3, .inl (G.2 2, wn_3, .inl wf_3))] := hD.sub [0, 1, 2, 3, 4, 5, 6, 7, 8] (by decide) rfl
              refine lv_pop hx hb dX0_write_128 rfl ?_
              refine lv_aload_n hx hb dX0_write_129 rfl (lv_at hl 3 rfl) ?_
              refine lv_iload hx hb dX0_write_130 (lv_at hl 0 rfl) ?_
              refine lv_aload_n hx hb dX0_write_132 rfl (lv_at hl 5 rfl) ?_
              refine lv_iload_n hx hb dX0_write_133 rfl (lv_at hl 6 rfl) ?_
              refine lv_iconst (v := 1) hx hb dX0_write_134 (by decide) ?_
              refine lv_iadd hx hb dX0_write_135 ?_
              obtain ⟨b_7, b_8, h⟩ := h
              obtain ⟨⟨hq_7, hq_8⟩, h⟩ := h
              have hPc := hP
              have hDc := hD.sub (ws' := [(b0, .inr (3, [.ref b1, .ref b2, .ref b3, .ref b4, .ref b5, .ref b6, .int bn])), (b1, .inl (G.2 0, 40, .inl kf)), (b2, .inl (G.2 0, 40, .inl ff)), (b3, .inl (G.2 0, 40, .inl sf)), (b4, .inl (G.2 0, 40, .inl df)), (b5, .inl (G.2 1, 40, .inr (.inl pf))), (b6, .inl (G.2 1, 6, .inr (.inl gf))), (wb, .inr (1, [.ref wv_3, .int (0 : Int32), .int (0 : Int32), .int wc_3])), (wv_3, .inl (G.2 2, wn_3, .inl wf_3))]) [0, 1, 2, 3, 4, 5, 6, 7, 8] (by decide) rfl
              have hFc := va_free (wc := [(b0, .inr (3, [.ref b1, .ref b2, .ref b3, .ref b4, .ref b5, .ref b6, .int bn])), (b1, .inl (G.2 0, 40, .inl kf)), (b2, .inl (G.2 0, 40, .inl ff)), (b3, .inl (G.2 0, 40, .inl sf)), (b4, .inl (G.2 0, 40, .inl df)), (b5, .inl (G.2 1, 40, .inr (.inl pf))), (b6, .inl (G.2 1, 6, .inr (.inl gf))), (wb, .inr (1, [.ref wv_3, .int (0 : Int32), .int (0 : Int32), .int wc_3])), (wv_3, .inl (G.2 2, wn_3, .inl wf_3))]) hD hS hA [0, 1, 2, 3, 4, 5, 6, 7, 8] rfl
              have hJc := (hJ.kept hS.2.1).narrow hFc
              refine va_callv (va_runS (As := [.ref b0, .int r_4, .ref wb, .int (p3 + (1 : Int32))]) (rest := []) ⟨hx, hb, hml, hown, hts⟩ (ih l G b0 b1 b2 b3 b4 b5 b6 wb wv_3 kf ff sf df pf gf bn wc_3 wn_3 wf_3 b_7 b_8 r_4 (p3 + (1 : Int32)) _ h) (va_cwS 4 hts (gdS q705 q706 q2 q707) rfl rfl rfl (by decide +kernel) ⟨(by show 6 + nR + 1 ≤ 6 + (nR + 1); omega), (by show 8 + (7 + 11) + (152 + nR * 26) ≤ 152 + (nR + 1) * 26; omega)⟩) (preSwj hPc hKK hDc hJc) rfl rfl hl.1 rfl (lv_room (Nat.le_of_ble_eq_true rfl)) dX0_write_136 ⟨hq_7, hq_8⟩) hS (fun q _ h => hFc q h) hFc (fun u t H1 locs ht hvm h hB hz1 hk1 hS => ?_)
              obtain ⟨wc_4, wn_4, wf_4⟩ := u
              obtain ⟨wv_4, hB⟩ := hB
              obtain ⟨hP1, hD1⟩ := hB
              rw [ht] at hP1
              have hP := hP1
              have hD : va_D A [(b0, .inr (3, [.ref b1, .ref b2, .ref b3, .ref b4, .ref b5, .ref b6, .int bn])), (b1, .inl (G.2 0, 40, .inl kf)), (b2, .inl (G.2 0, 40, .inl ff)), (b3, .inl (G.2 0, 40, .inl sf)), (b4, .inl (G.2 0, 40, .inl df)), (b5, .inl (G.2 1, 40, .inr (.inl pf))), (b6, .inl (G.2 1, 6, .inr (.inl gf))), (wb, .inr (1, [.ref wv_4, .int (0 : Int32), .int (0 : Int32), .int wc_4])), (wv_4, .inl (G.2 2, wn_4, .inl wf_4))] := hD1.weaken (fun _ _ _ h => hFc _ h)
              generalize H1 = H at hP hS ⊢
              have hP : PP G [(b0, .inr (3, [.ref b1, .ref b2, .ref b3, .ref b4, .ref b5, .ref b6, .int bn])), (b1, .inl (G.2 0, 40, .inl kf)), (b2, .inl (G.2 0, 40, .inl ff)), (b3, .inl (G.2 0, 40, .inl sf)), (b4, .inl (G.2 0, 40, .inl df)), (b5, .inl (G.2 1, 40, .inr (.inl pf))), (b6, .inl (G.2 1, 6, .inr (.inl gf))), (wb, .inr (1, [.ref wv_4, .int (0 : Int32), .int (0 : Int32), .int wc_4])), (wv_4, .inl (G.2 2, wn_4, .inl wf_4))] H := hP
              refine lv_aload_n hx hb dX0_write_139 rfl (lv_at hl 5 rfl) ?_
              refine lv_bipush (v := 41) hx hb dX0_write_140 (by decide) ?_
              obtain ⟨b_9, b_10, h⟩ := h
              obtain ⟨⟨hq_9, hq_10⟩, h⟩ := h
              have hPc := va_P.sub (ws' := [(wb, .inr (1, [.ref wv_4, .int (0 : Int32), .int (0 : Int32), .int wc_4])), (wv_4, .inl (G.2 2, wn_4, .inl wf_4))]) hP [7, 8] rfl
              have hDc := hD.sub (ws' := [(wb, .inr (1, [.ref wv_4, .int (0 : Int32), .int (0 : Int32), .int wc_4])), (wv_4, .inl (G.2 2, wn_4, .inl wf_4))]) [7, 8] (by decide) rfl
              have hFc := va_free (wc := [(wb, .inr (1, [.ref wv_4, .int (0 : Int32), .int (0 : Int32), .int wc_4])), (wv_4, .inl (G.2 2, wn_4, .inl wf_4))]) hD hS hA [7, 8] rfl
              have hJc := (hJ.kept hS.2.1).narrow hFc
              refine va_callr (va_runV (C := RJ4) (As := [.int (41 : Int32)]) (rest := []) ⟨hx, hb, hml, hown, hts⟩ (knJ4_append_cf468 l G wb wv_4 wc_4 wn_4 wf_4 b_9 b_10 (41 : Int32) _ h) (cwV 1 hts (gdV q711 q712 q713 q25 q714) rfl rfl rfl (by decide +kernel) ⟨(by show 5 + 1 ≤ 6 + (nR + 1); omega), (by show 8 + (2 + 11) + 129 ≤ 152 + (nR + 1) * 26; omega)⟩) (preVwj hPc hKK hDc hJc (va_recv hK hPc (ci := 1) (q0 := 0) rfl rfl)) rfl rfl hl.1 rfl (lv_room (Nat.le_of_ble_eq_true rfl)) dX0_write_142 ⟨hq_9, hq_10⟩) hS (fun q _ h => hFc q h) hFc (fun u ra t H1 locs ht hvm h hB hz1 hk1 hS => ?_)
              obtain ⟨wc_5, wn_5, wf_5⟩ := u
              obtain ⟨era, hB⟩ := hB
              rw [era]
              obtain ⟨wv_5, hB⟩ := hB
              obtain ⟨hP1, hD1⟩ := hB
              rw [ht] at hP1
              obtain ⟨hP, hD⟩ := va_join (wr := [(b0, .inr (3, [.ref b1, .ref b2, .ref b3, .ref b4, .ref b5, .ref b6, .int bn])), (b1, .inl (G.2 0, 40, .inl kf)), (b2, .inl (G.2 0, 40, .inl ff)), (b3, .inl (G.2 0, 40, .inl sf)), (b4, .inl (G.2 0, 40, .inl df)), (b5, .inl (G.2 1, 40, .inr (.inl pf))), (b6, .inl (G.2 1, 6, .inr (.inl gf)))]) (w1 := [(wb, .inr (1, [.ref wv_5, .int (0 : Int32), .int (0 : Int32), .int wc_5])), (wv_5, .inl (G.2 2, wn_5, .inl wf_5))]) hP hD [7, 8] [0, 1, 2, 3, 4, 5, 6] rfl rfl (by decide) (by decide) hk1 hFc hP1 hD1
              generalize H1 = H at hP hS ⊢
              have hP : PP G [(b0, .inr (3, [.ref b1, .ref b2, .ref b3, .ref b4, .ref b5, .ref b6, .int bn])), (b1, .inl (G.2 0, 40, .inl kf)), (b2, .inl (G.2 0, 40, .inl ff)), (b3, .inl (G.2 0, 40, .inl sf)), (b4, .inl (G.2 0, 40, .inl df)), (b5, .inl (G.2 1, 40, .inr (.inl pf))), (b6, .inl (G.2 1, 6, .inr (.inl gf))), (wb, .inr (1, [.ref wv_5, .int (0 : Int32), .int (0 : Int32), .int wc_5])), (wv_5, .inl (G.2 2, wn_5, .inl wf_5))] H := va_P.sub hP [0, 1, 2, 3, 4, 5, 6, 7, 8] rfl
              have hD : va_D A [(b0, .inr (3, [.ref b1, .ref b2, .ref b3, .ref b4, .ref b5, .ref b6, .int bn])), (b1, .inl (G.2 0, 40, .inl kf)), (b2, .inl (G.2 0, 40, .inl ff)), (b3, .inl (G.2 0, 40, .inl sf)), (b4, .inl (G.2 0, 40, .inl df)), (b5, .inl (G.2 1, 40, .inr (.inl pf))), (b6, .inl (G.2 1, 6, .inr (.inl gf))), (wb, .inr (1, [.ref wv_5, .int (0 : Int32), .int (0 : Int32), .int wc_5])), (wv_5, .inl (G.2 2, wn_5, .inl wf_5))] := hD.sub [0, 1, 2, 3, 4, 5, 6, 7, 8] (by decide) rfl
              refine lv_pop hx hb dX0_write_145 rfl ?_
              refine lv_goto (tgt := 179) hx hb dX0_write_146 (by decide) ?_
              obtain ⟨⟨hw1, hw2⟩, h⟩ := h
              refine W.widen (k := mcb) (n := msb) hw1 hw2 ?_
              subst hQC; exact W.vret hx hb hr (fun t ht hW => ⟨⟨(wc_5, wn_5, wf_5), rfl, h, wv_5, by rw [ht]; exact hP, hD⟩, hS.F ht⟩) hS.2.2 dX0_write_179
            · have h := h.2 hc
              refine lv_bipush (v := 38) hx hb dX0_write_118 (by decide) ?_
              refine lv_goto (tgt := 125) hx hb dX0_write_120 (by decide) ?_
              obtain ⟨b_11, b_12, h⟩ := h
              obtain ⟨⟨hq_11, hq_12⟩, h⟩ := h
              have hPc := va_P.sub (ws' := [(wb, .inr (1, [.ref wv_2, .int (0 : Int32), .int (0 : Int32), .int wc_2])), (wv_2, .inl (G.2 2, wn_2, .inl wf_2))]) hP [7, 8] rfl
              have hDc := hD.sub (ws' := [(wb, .inr (1, [.ref wv_2, .int (0 : Int32), .int (0 : Int32), .int wc_2])), (wv_2, .inl (G.2 2, wn_2, .inl wf_2))]) [7, 8] (by decide) rfl
              have hFc := va_free (wc := [(wb, .inr (1, [.ref wv_2, .int (0 : Int32), .int (0 : Int32), .int wc_2])), (wv_2, .inl (G.2 2, wn_2, .inl wf_2))]) hD hS hA [7, 8] rfl
              have hJc := (hJ.kept hS.2.1).narrow hFc
              refine va_callr (va_runV (C := RJ4) (As := [.int (38 : Int32)]) (rest := []) ⟨hx, hb, hml, hown, hts⟩ (knJ4_append_cf468 l G wb wv_2 wc_2 wn_2 wf_2 b_11 b_12 (38 : Int32) _ h) (cwV 1 hts (gdV q711 q712 q713 q25 q714) rfl rfl rfl (by decide +kernel) ⟨(by show 5 + 1 ≤ 6 + (nR + 1); omega), (by show 8 + (2 + 11) + 129 ≤ 152 + (nR + 1) * 26; omega)⟩) (preVwj hPc hKK hDc hJc (va_recv hK hPc (ci := 1) (q0 := 0) rfl rfl)) rfl rfl hl.1 rfl (lv_room (Nat.le_of_ble_eq_true rfl)) dX0_write_125 ⟨hq_11, hq_12⟩) hS (fun q _ h => hFc q h) hFc (fun u ra t H1 locs ht hvm h hB hz1 hk1 hS => ?_)
              obtain ⟨wc_6, wn_6, wf_6⟩ := u
              obtain ⟨era, hB⟩ := hB
              rw [era]
              obtain ⟨wv_6, hB⟩ := hB
              obtain ⟨hP1, hD1⟩ := hB
              rw [ht] at hP1
              obtain ⟨hP, hD⟩ := va_join (wr := [(b0, .inr (3, [.ref b1, .ref b2, .ref b3, .ref b4, .ref b5, .ref b6, .int bn])), (b1, .inl (G.2 0, 40, .inl kf)), (b2, .inl (G.2 0, 40, .inl ff)), (b3, .inl (G.2 0, 40, .inl sf)), (b4, .inl (G.2 0, 40, .inl df)), (b5, .inl (G.2 1, 40, .inr (.inl pf))), (b6, .inl (G.2 1, 6, .inr (.inl gf)))]) (w1 := [(wb, .inr (1, [.ref wv_6, .int (0 : Int32), .int (0 : Int32), .int wc_6])), (wv_6, .inl (G.2 2, wn_6, .inl wf_6))]) hP hD [7, 8] [0, 1, 2, 3, 4, 5, 6] rfl rfl (by decide) (by decide) hk1 hFc hP1 hD1
              generalize H1 = H at hP hS ⊢
              have hP : PP G [(b0, .inr (3, [.ref b1, .ref b2, .ref b3, .ref b4, .ref b5, .ref b6, .int bn])), (b1, .inl (G.2 0, 40, .inl kf)), (b2, .inl (G.2 0, 40, .inl ff)), (b3, .inl (G.2 0, 40, .inl sf)), (b4, .inl (G.2 0, 40, .inl df)), (b5, .inl (G.2 1, 40, .inr (.inl pf))), (b6, .inl (G.2 1, 6, .inr (.inl gf))), (wb, .inr (1, [.ref wv_6, .int (0 : Int32), .int (0 : Int32), .int wc_6])), (wv_6, .inl (G.2 2, wn_6, .inl wf_6))] H := va_P.sub hP [0, 1, 2, 3, 4, 5, 6, 7, 8] rfl
              have hD : va_D A [(b0, .inr (3, [.ref b1, .ref b2, .ref b3, .ref b4, .ref b5, .ref b6, .int bn])), (b1, .inl (G.2 0, 40, .inl kf)), (b2, .inl (G.2 0, 40, .inl ff)), (b3, .inl (G.2 0, 40, .inl sf)), (b4, .inl (G.2 0, 40, .inl df)), (b5, .inl (G.2 1, 40, .inr (.inl pf))), (b6, .inl (G.2 1, 6, .inr (.inl gf))), (wb, .inr (1, [.ref wv_6, .int (0 : Int32), .int (0 : Int32), .int wc_6])), (wv_6, .inl (G.2 2, wn_6, .inl wf_6))] := hD.sub [0, 1, 2, 3, 4, 5, 6, 7, 8] (by decide) rfl
              refine lv_pop hx hb dX0_write_128 rfl ?_
              refine lv_aload_n hx hb dX0_write_129 rfl (lv_at hl 3 rfl) ?_
              refine lv_iload hx hb dX0_write_130 (lv_at hl 0 rfl) ?_
              refine lv_aload_n hx hb dX0_write_132 rfl (lv_at hl 5 rfl) ?_
              refine lv_iload_n hx hb dX0_write_133 rfl (lv_at hl 6 rfl) ?_
              refine lv_iconst (v := 1) hx hb dX0_write_134 (by decide) ?_
              refine lv_iadd hx hb dX0_write_135 ?_
              obtain ⟨b_13, b_14, h⟩ := h
              obtain ⟨⟨hq_13, hq_14⟩, h⟩ := h
              have hPc := hP
              have hDc := hD.sub (ws' := [(b0, .inr (3, [.ref b1, .ref b2, .ref b3, .ref b4, .ref b5, .ref b6, .int bn])), (b1, .inl (G.2 0, 40, .inl kf)), (b2, .inl (G.2 0, 40, .inl ff)), (b3, .inl (G.2 0, 40, .inl sf)), (b4, .inl (G.2 0, 40, .inl df)), (b5, .inl (G.2 1, 40, .inr (.inl pf))), (b6, .inl (G.2 1, 6, .inr (.inl gf))), (wb, .inr (1, [.ref wv_6, .int (0 : Int32), .int (0 : Int32), .int wc_6])), (wv_6, .inl (G.2 2, wn_6, .inl wf_6))]) [0, 1, 2, 3, 4, 5, 6, 7, 8] (by decide) rfl
              have hFc := va_free (wc := [(b0, .inr (3, [.ref b1, .ref b2, .ref b3, .ref b4, .ref b5, .ref b6, .int bn])), (b1, .inl (G.2 0, 40, .inl kf)), (b2, .inl (G.2 0, 40, .inl ff)), (b3, .inl (G.2 0, 40, .inl sf)), (b4, .inl (G.2 0, 40, .inl df)), (b5, .inl (G.2 1, 40, .inr (.inl pf))), (b6, .inl (G.2 1, 6, .inr (.inl gf))), (wb, .inr (1, [.ref wv_6, .int (0 : Int32), .int (0 : Int32), .int wc_6])), (wv_6, .inl (G.2 2, wn_6, .inl wf_6))]) hD hS hA [0, 1, 2, 3, 4, 5, 6, 7, 8] rfl
              have hJc := (hJ.kept hS.2.1).narrow hFc
              refine va_callv (va_runS (As := [.ref b0, .int r_4, .ref wb, .int (p3 + (1 : Int32))]) (rest := []) ⟨hx, hb, hml, hown, hts⟩ (ih l G b0 b1 b2 b3 b4 b5 b6 wb wv_6 kf ff sf df pf gf bn wc_6 wn_6 wf_6 b_13 b_14 r_4 (p3 + (1 : Int32)) _ h) (va_cwS 4 hts (gdS q705 q706 q2 q707) rfl rfl rfl (by decide +kernel) ⟨(by show 6 + nR + 1 ≤ 6 + (nR + 1); omega), (by show 8 + (7 + 11) + (152 + nR * 26) ≤ 152 + (nR + 1) * 26; omega)⟩) (preSwj hPc hKK hDc hJc) rfl rfl hl.1 rfl (lv_room (Nat.le_of_ble_eq_true rfl)) dX0_write_136 ⟨hq_13, hq_14⟩) hS (fun q _ h => hFc q h) hFc (fun u t H1 locs ht hvm h hB hz1 hk1 hS => ?_)
              obtain ⟨wc_7, wn_7, wf_7⟩ := u
              obtain ⟨wv_7, hB⟩ := hB
              obtain ⟨hP1, hD1⟩ := hB
              rw [ht] at hP1
              have hP := hP1
              have hD : va_D A [(b0, .inr (3, [.ref b1, .ref b2, .ref b3, .ref b4, .ref b5, .ref b6, .int bn])), (b1, .inl (G.2 0, 40, .inl kf)), (b2, .inl (G.2 0, 40, .inl ff)), (b3, .inl (G.2 0, 40, .inl sf)), (b4, .inl (G.2 0, 40, .inl df)), (b5, .inl (G.2 1, 40, .inr (.inl pf))), (b6, .inl (G.2 1, 6, .inr (.inl gf))), (wb, .inr (1, [.ref wv_7, .int (0 : Int32), .int (0 : Int32), .int wc_7])), (wv_7, .inl (G.2 2, wn_7, .inl wf_7))] := hD1.weaken (fun _ _ _ h => hFc _ h)
              generalize H1 = H at hP hS ⊢
              have hP : PP G [(b0, .inr (3, [.ref b1, .ref b2, .ref b3, .ref b4, .ref b5, .ref b6, .int bn])), (b1, .inl (G.2 0, 40, .inl kf)), (b2, .inl (G.2 0, 40, .inl ff)), (b3, .inl (G.2 0, 40, .inl sf)), (b4, .inl (G.2 0, 40, .inl df)), (b5, .inl (G.2 1, 40, .inr (.inl pf))), (b6, .inl (G.2 1, 6, .inr (.inl gf))), (wb, .inr (1, [.ref wv_7, .int (0 : Int32), .int (0 : Int32), .int wc_7])), (wv_7, .inl (G.2 2, wn_7, .inl wf_7))] H := hP
              refine lv_aload_n hx hb dX0_write_139 rfl (lv_at hl 5 rfl) ?_
              refine lv_bipush (v := 41) hx hb dX0_write_140 (by decide) ?_
              obtain ⟨b_15, b_16, h⟩ := h
              obtain ⟨⟨hq_15, hq_16⟩, h⟩ := h
              have hPc := va_P.sub (ws' := [(wb, .inr (1, [.ref wv_7, .int (0 : Int32), .int (0 : Int32), .int wc_7])), (wv_7, .inl (G.2 2, wn_7, .inl wf_7))]) hP [7, 8] rfl
              have hDc := hD.sub (ws' := [(wb, .inr (1, [.ref wv_7, .int (0 : Int32), .int (0 : Int32), .int wc_7])), (wv_7, .inl (G.2 2, wn_7, .inl wf_7))]) [7, 8] (by decide) rfl
              have hFc := va_free (wc := [(wb, .inr (1, [.ref wv_7, .int (0 : Int32), .int (0 : Int32), .int wc_7])), (wv_7, .inl (G.2 2, wn_7, .inl wf_7))]) hD hS hA [7, 8] rfl
              have hJc := (hJ.kept hS.2.1).narrow hFc
              refine va_callr (va_runV (C := RJ4) (As := [.int (41 : Int32)]) (rest := []) ⟨hx, hb, hml, hown, hts⟩ (knJ4_append_cf468 l G wb wv_7 wc_7 wn_7 wf_7 b_15 b_16 (41 : Int32) _ h) (cwV 1 hts (gdV q711 q712 q713 q25 q714) rfl rfl rfl (by decide +kernel) ⟨(by show 5 + 1 ≤ 6 + (nR + 1); omega), (by show 8 + (2 + 11) + 129 ≤ 152 + (nR + 1) * 26; omega)⟩) (preVwj hPc hKK hDc hJc (va_recv hK hPc (ci := 1) (q0 := 0) rfl rfl)) rfl rfl hl.1 rfl (lv_room (Nat.le_of_ble_eq_true rfl)) dX0_write_142 ⟨hq_15, hq_16⟩) hS (fun q _ h => hFc q h) hFc (fun u ra t H1 locs ht hvm h hB hz1 hk1 hS => ?_)
              obtain ⟨wc_8, wn_8, wf_8⟩ := u
              obtain ⟨era, hB⟩ := hB
              rw [era]
              obtain ⟨wv_8, hB⟩ := hB
              obtain ⟨hP1, hD1⟩ := hB
              rw [ht] at hP1
              obtain ⟨hP, hD⟩ := va_join (wr := [(b0, .inr (3, [.ref b1, .ref b2, .ref b3, .ref b4, .ref b5, .ref b6, .int bn])), (b1, .inl (G.2 0, 40, .inl kf)), (b2, .inl (G.2 0, 40, .inl ff)), (b3, .inl (G.2 0, 40, .inl sf)), (b4, .inl (G.2 0, 40, .inl df)), (b5, .inl (G.2 1, 40, .inr (.inl pf))), (b6, .inl (G.2 1, 6, .inr (.inl gf)))]) (w1 := [(wb, .inr (1, [.ref wv_8, .int (0 : Int32), .int (0 : Int32), .int wc_8])), (wv_8, .inl (G.2 2, wn_8, .inl wf_8))]) hP hD [7, 8] [0, 1, 2, 3, 4, 5, 6] rfl rfl (by decide) (by decide) hk1 hFc hP1 hD1
              generalize H1 = H at hP hS ⊢
              have hP : PP G [(b0, .inr (3, [.ref b1, .ref b2, .ref b3, .ref b4, .ref b5, .ref b6, .int bn])), (b1, .inl (G.2 0, 40, .inl kf)), (b2, .inl (G.2 0, 40, .inl ff)), (b3, .inl (G.2 0, 40, .inl sf)), (b4, .inl (G.2 0, 40, .inl df)), (b5, .inl (G.2 1, 40, .inr (.inl pf))), (b6, .inl (G.2 1, 6, .inr (.inl gf))), (wb, .inr (1, [.ref wv_8, .int (0 : Int32), .int (0 : Int32), .int wc_8])), (wv_8, .inl (G.2 2, wn_8, .inl wf_8))] H := va_P.sub hP [0, 1, 2, 3, 4, 5, 6, 7, 8] rfl
              have hD : va_D A [(b0, .inr (3, [.ref b1, .ref b2, .ref b3, .ref b4, .ref b5, .ref b6, .int bn])), (b1, .inl (G.2 0, 40, .inl kf)), (b2, .inl (G.2 0, 40, .inl ff)), (b3, .inl (G.2 0, 40, .inl sf)), (b4, .inl (G.2 0, 40, .inl df)), (b5, .inl (G.2 1, 40, .inr (.inl pf))), (b6, .inl (G.2 1, 6, .inr (.inl gf))), (wb, .inr (1, [.ref wv_8, .int (0 : Int32), .int (0 : Int32), .int wc_8])), (wv_8, .inl (G.2 2, wn_8, .inl wf_8))] := hD.sub [0, 1, 2, 3, 4, 5, 6, 7, 8] (by decide) rfl
              refine lv_pop hx hb dX0_write_145 rfl ?_
              refine lv_goto (tgt := 179) hx hb dX0_write_146 (by decide) ?_
              obtain ⟨⟨hw1, hw2⟩, h⟩ := h
              refine W.widen (k := mcb) (n := msb) hw1 hw2 ?_
              subst hQC; exact W.vret hx hb hr (fun t ht hW => ⟨⟨(wc_8, wn_8, wf_8), rfl, h, wv_8, by rw [ht]; exact hP, hD⟩, hS.F ht⟩) hS.2.2 dX0_write_179
          · have h := h.2 hc
            refine lv_iload hx hb dX0_write_88 (lv_at hl 2 rfl) ?_
            refine lv_iconst (v := 3) hx hb dX0_write_90 (by decide) ?_
            refine lv_icmp_ne (tgt := 149) hx hb dX0_write_91 (by decide) (fun hc => ?_) (fun hc => ?_)
            · have h := h.1 hc
              refine lv_aload_n hx hb dX0_write_149 rfl (lv_at hl 5 rfl) ?_
              refine lv_iload hx hb dX0_write_150 (lv_at hl 2 rfl) ?_
              have hPc := va_P.sub (ws' := []) hP [] rfl
              refine rdI (va_runS (As := [.int r_2]) (rest := [.ref wb]) ⟨hx, hb, hml, hown, hts⟩ (kX0_letterOf l G r_2 h) (va_cwS 1 hts (gdS q836 q837 q2 q838) rfl rfl rfl (by decide +kernel) ⟨(by show 0 + 1 ≤ 6 + (nR + 1); omega), (by show 8 + (1 + 11) + 0 ≤ 152 + (nR + 1) * 26; omega)⟩) (preS hPc hKK) rfl rfl hl.1 rfl (lv_room (Nat.le_of_ble_eq_true rfl)) dX0_write_152 ⟨Nat.zero_le _, Nat.zero_le _⟩) (fun r_13 h => ?_)
              obtain ⟨b_17, b_18, h⟩ := h
              obtain ⟨⟨hq_17, hq_18⟩, h⟩ := h
              have hPc := va_P.sub (ws' := [(wb, .inr (1, [.ref wv, .int (0 : Int32), .int (0 : Int32), .int wc])), (wv, .inl (G.2 2, wn, .inl wf))]) hP [7, 8] rfl
              have hDc := hD.sub (ws' := [(wb, .inr (1, [.ref wv, .int (0 : Int32), .int (0 : Int32), .int wc])), (wv, .inl (G.2 2, wn, .inl wf))]) [7, 8] (by decide) rfl
              have hFc := va_free (wc := [(wb, .inr (1, [.ref wv, .int (0 : Int32), .int (0 : Int32), .int wc])), (wv, .inl (G.2 2, wn, .inl wf))]) hD hS hA [7, 8] rfl
              have hJc := (hJ.kept hS.2.1).narrow hFc
              refine va_callr (va_runV (C := RJ4) (As := [.int r_13]) (rest := []) ⟨hx, hb, hml, hown, hts⟩ (knJ4_append_cf468 l G wb wv wc wn wf b_17 b_18 r_13 _ h) (cwV 1 hts (gdV q711 q712 q713 q25 q714) rfl rfl rfl (by decide +kernel) ⟨(by show 5 + 1 ≤ 6 + (nR + 1); omega), (by show 8 + (2 + 11) + 129 ≤ 152 + (nR + 1) * 26; omega)⟩) (preVwj hPc hKK hDc hJc (va_recv hK hPc (ci := 1) (q0 := 0) rfl rfl)) rfl rfl hl.1 rfl (lv_room (Nat.le_of_ble_eq_true rfl)) dX0_write_155 ⟨hq_17, hq_18⟩) hS (fun q _ h => hFc q h) hFc (fun u ra t H1 locs ht hvm h hB hz1 hk1 hS => ?_)
              obtain ⟨wc_9, wn_9, wf_9⟩ := u
              obtain ⟨era, hB⟩ := hB
              rw [era]
              obtain ⟨wv_9, hB⟩ := hB
              obtain ⟨hP1, hD1⟩ := hB
              rw [ht] at hP1
              obtain ⟨hP, hD⟩ := va_join (wr := [(b0, .inr (3, [.ref b1, .ref b2, .ref b3, .ref b4, .ref b5, .ref b6, .int bn])), (b1, .inl (G.2 0, 40, .inl kf)), (b2, .inl (G.2 0, 40, .inl ff)), (b3, .inl (G.2 0, 40, .inl sf)), (b4, .inl (G.2 0, 40, .inl df)), (b5, .inl (G.2 1, 40, .inr (.inl pf))), (b6, .inl (G.2 1, 6, .inr (.inl gf)))]) (w1 := [(wb, .inr (1, [.ref wv_9, .int (0 : Int32), .int (0 : Int32), .int wc_9])), (wv_9, .inl (G.2 2, wn_9, .inl wf_9))]) hP hD [7, 8] [0, 1, 2, 3, 4, 5, 6] rfl rfl (by decide) (by decide) hk1 hFc hP1 hD1
              generalize H1 = H at hP hS ⊢
              have hP : PP G [(b0, .inr (3, [.ref b1, .ref b2, .ref b3, .ref b4, .ref b5, .ref b6, .int bn])), (b1, .inl (G.2 0, 40, .inl kf)), (b2, .inl (G.2 0, 40, .inl ff)), (b3, .inl (G.2 0, 40, .inl sf)), (b4, .inl (G.2 0, 40, .inl df)), (b5, .inl (G.2 1, 40, .inr (.inl pf))), (b6, .inl (G.2 1, 6, .inr (.inl gf))), (wb, .inr (1, [.ref wv_9, .int (0 : Int32), .int (0 : Int32), .int wc_9])), (wv_9, .inl (G.2 2, wn_9, .inl wf_9))] H := va_P.sub hP [0, 1, 2, 3, 4, 5, 6, 7, 8] rfl
              have hD : va_D A [(b0, .inr (3, [.ref b1, .ref b2, .ref b3, .ref b4, .ref b5, .ref b6, .int bn])), (b1, .inl (G.2 0, 40, .inl kf)), (b2, .inl (G.2 0, 40, .inl ff)), (b3, .inl (G.2 0, 40, .inl sf)), (b4, .inl (G.2 0, 40, .inl df)), (b5, .inl (G.2 1, 40, .inr (.inl pf))), (b6, .inl (G.2 1, 6, .inr (.inl gf))), (wb, .inr (1, [.ref wv_9, .int (0 : Int32), .int (0 : Int32), .int wc_9])), (wv_9, .inl (G.2 2, wn_9, .inl wf_9))] := hD.sub [0, 1, 2, 3, 4, 5, 6, 7, 8] (by decide) rfl
              refine lv_iload hx hb dX0_write_158 (lv_at hl 1 rfl) ?_
              obtain ⟨b_19, b_20, h⟩ := h
              obtain ⟨⟨hq_19, hq_20⟩, h⟩ := h
              have hPc := va_P.sub (ws' := [(wb, .inr (1, [.ref wv_9, .int (0 : Int32), .int (0 : Int32), .int wc_9])), (wv_9, .inl (G.2 2, wn_9, .inl wf_9))]) hP [7, 8] rfl
              have hDc := hD.sub (ws' := [(wb, .inr (1, [.ref wv_9, .int (0 : Int32), .int (0 : Int32), .int wc_9])), (wv_9, .inl (G.2 2, wn_9, .inl wf_9))]) [7, 8] (by decide) rfl
              have hFc := va_free (wc := [(wb, .inr (1, [.ref wv_9, .int (0 : Int32), .int (0 : Int32), .int wc_9])), (wv_9, .inl (G.2 2, wn_9, .inl wf_9))]) hD hS hA [7, 8] rfl
              have hJc := (hJ.kept hS.2.1).narrow hFc
              refine va_callr (va_runV (C := RJ4) (As := [.int r_3]) (rest := []) ⟨hx, hb, hml, hown, hts⟩ (knJ4_append_bf812 l G wb wv_9 wc_9 wn_9 wf_9 b_19 b_20 r_3 _ h) (cwV 1 hts (gdV q802 q803 q804 q25 q805) rfl rfl rfl (by decide +kernel) ⟨(by show 5 + 1 ≤ 6 + (nR + 1); omega), (by show 8 + (2 + 11) + 131 ≤ 152 + (nR + 1) * 26; omega)⟩) (preVwj hPc hKK hDc hJc (va_recv hK hPc (ci := 1) (q0 := 0) rfl rfl)) rfl rfl hl.1 rfl (lv_room (Nat.le_of_ble_eq_true rfl)) dX0_write_160 ⟨hq_19, hq_20⟩) hS (fun q _ h => hFc q h) hFc (fun u ra t H1 locs ht hvm h hB hz1 hk1 hS => ?_)
              obtain ⟨wc_10, wn_10, wf_10⟩ := u
              obtain ⟨era, hB⟩ := hB
              rw [era]
              obtain ⟨wv_10, hB⟩ := hB
              obtain ⟨hP1, hD1⟩ := hB
              rw [ht] at hP1
              obtain ⟨hP, hD⟩ := va_join (wr := [(b0, .inr (3, [.ref b1, .ref b2, .ref b3, .ref b4, .ref b5, .ref b6, .int bn])), (b1, .inl (G.2 0, 40, .inl kf)), (b2, .inl (G.2 0, 40, .inl ff)), (b3, .inl (G.2 0, 40, .inl sf)), (b4, .inl (G.2 0, 40, .inl df)), (b5, .inl (G.2 1, 40, .inr (.inl pf))), (b6, .inl (G.2 1, 6, .inr (.inl gf)))]) (w1 := [(wb, .inr (1, [.ref wv_10, .int (0 : Int32), .int (0 : Int32), .int wc_10])), (wv_10, .inl (G.2 2, wn_10, .inl wf_10))]) hP hD [7, 8] [0, 1, 2, 3, 4, 5, 6] rfl rfl (by decide) (by decide) hk1 hFc hP1 hD1
              generalize H1 = H at hP hS ⊢
              have hP : PP G [(b0, .inr (3, [.ref b1, .ref b2, .ref b3, .ref b4, .ref b5, .ref b6, .int bn])), (b1, .inl (G.2 0, 40, .inl kf)), (b2, .inl (G.2 0, 40, .inl ff)), (b3, .inl (G.2 0, 40, .inl sf)), (b4, .inl (G.2 0, 40, .inl df)), (b5, .inl (G.2 1, 40, .inr (.inl pf))), (b6, .inl (G.2 1, 6, .inr (.inl gf))), (wb, .inr (1, [.ref wv_10, .int (0 : Int32), .int (0 : Int32), .int wc_10])), (wv_10, .inl (G.2 2, wn_10, .inl wf_10))] H := va_P.sub hP [0, 1, 2, 3, 4, 5, 6, 7, 8] rfl
              have hD : va_D A [(b0, .inr (3, [.ref b1, .ref b2, .ref b3, .ref b4, .ref b5, .ref b6, .int bn])), (b1, .inl (G.2 0, 40, .inl kf)), (b2, .inl (G.2 0, 40, .inl ff)), (b3, .inl (G.2 0, 40, .inl sf)), (b4, .inl (G.2 0, 40, .inl df)), (b5, .inl (G.2 1, 40, .inr (.inl pf))), (b6, .inl (G.2 1, 6, .inr (.inl gf))), (wb, .inr (1, [.ref wv_10, .int (0 : Int32), .int (0 : Int32), .int wc_10])), (wv_10, .inl (G.2 2, wn_10, .inl wf_10))] := hD.sub [0, 1, 2, 3, 4, 5, 6, 7, 8] (by decide) rfl
              refine lv_bipush (v := 58) hx hb dX0_write_163 (by decide) ?_
              obtain ⟨b_21, b_22, h⟩ := h
              obtain ⟨⟨hq_21, hq_22⟩, h⟩ := h
              have hPc := va_P.sub (ws' := [(wb, .inr (1, [.ref wv_10, .int (0 : Int32), .int (0 : Int32), .int wc_10])), (wv_10, .inl (G.2 2, wn_10, .inl wf_10))]) hP [7, 8] rfl
              have hDc := hD.sub (ws' := [(wb, .inr (1, [.ref wv_10, .int (0 : Int32), .int (0 : Int32), .int wc_10])), (wv_10, .inl (G.2 2, wn_10, .inl wf_10))]) [7, 8] (by decide) rfl
              have hFc := va_free (wc := [(wb, .inr (1, [.ref wv_10, .int (0 : Int32), .int (0 : Int32), .int wc_10])), (wv_10, .inl (G.2 2, wn_10, .inl wf_10))]) hD hS hA [7, 8] rfl
              have hJc := (hJ.kept hS.2.1).narrow hFc
              refine va_callr (va_runV (C := RJ4) (As := [.int (58 : Int32)]) (rest := []) ⟨hx, hb, hml, hown, hts⟩ (knJ4_append_cf468 l G wb wv_10 wc_10 wn_10 wf_10 b_21 b_22 (58 : Int32) _ h) (cwV 1 hts (gdV q711 q712 q713 q25 q714) rfl rfl rfl (by decide +kernel) ⟨(by show 5 + 1 ≤ 6 + (nR + 1); omega), (by show 8 + (2 + 11) + 129 ≤ 152 + (nR + 1) * 26; omega)⟩) (preVwj hPc hKK hDc hJc (va_recv hK hPc (ci := 1) (q0 := 0) rfl rfl)) rfl rfl hl.1 rfl (lv_room (Nat.le_of_ble_eq_true rfl)) dX0_write_165 ⟨hq_21, hq_22⟩) hS (fun q _ h => hFc q h) hFc (fun u ra t H1 locs ht hvm h hB hz1 hk1 hS => ?_)
              obtain ⟨wc_11, wn_11, wf_11⟩ := u
              obtain ⟨era, hB⟩ := hB
              rw [era]
              obtain ⟨wv_11, hB⟩ := hB
              obtain ⟨hP1, hD1⟩ := hB
              rw [ht] at hP1
              obtain ⟨hP, hD⟩ := va_join (wr := [(b0, .inr (3, [.ref b1, .ref b2, .ref b3, .ref b4, .ref b5, .ref b6, .int bn])), (b1, .inl (G.2 0, 40, .inl kf)), (b2, .inl (G.2 0, 40, .inl ff)), (b3, .inl (G.2 0, 40, .inl sf)), (b4, .inl (G.2 0, 40, .inl df)), (b5, .inl (G.2 1, 40, .inr (.inl pf))), (b6, .inl (G.2 1, 6, .inr (.inl gf)))]) (w1 := [(wb, .inr (1, [.ref wv_11, .int (0 : Int32), .int (0 : Int32), .int wc_11])), (wv_11, .inl (G.2 2, wn_11, .inl wf_11))]) hP hD [7, 8] [0, 1, 2, 3, 4, 5, 6] rfl rfl (by decide) (by decide) hk1 hFc hP1 hD1
              generalize H1 = H at hP hS ⊢
              have hP : PP G [(b0, .inr (3, [.ref b1, .ref b2, .ref b3, .ref b4, .ref b5, .ref b6, .int bn])), (b1, .inl (G.2 0, 40, .inl kf)), (b2, .inl (G.2 0, 40, .inl ff)), (b3, .inl (G.2 0, 40, .inl sf)), (b4, .inl (G.2 0, 40, .inl df)), (b5, .inl (G.2 1, 40, .inr (.inl pf))), (b6, .inl (G.2 1, 6, .inr (.inl gf))), (wb, .inr (1, [.ref wv_11, .int (0 : Int32), .int (0 : Int32), .int wc_11])), (wv_11, .inl (G.2 2, wn_11, .inl wf_11))] H := va_P.sub hP [0, 1, 2, 3, 4, 5, 6, 7, 8] rfl
              have hD : va_D A [(b0, .inr (3, [.ref b1, .ref b2, .ref b3, .ref b4, .ref b5, .ref b6, .int bn])), (b1, .inl (G.2 0, 40, .inl kf)), (b2, .inl (G.2 0, 40, .inl ff)), (b3, .inl (G.2 0, 40, .inl sf)), (b4, .inl (G.2 0, 40, .inl df)), (b5, .inl (G.2 1, 40, .inr (.inl pf))), (b6, .inl (G.2 1, 6, .inr (.inl gf))), (wb, .inr (1, [.ref wv_11, .int (0 : Int32), .int (0 : Int32), .int wc_11])), (wv_11, .inl (G.2 2, wn_11, .inl wf_11))] := hD.sub [0, 1, 2, 3, 4, 5, 6, 7, 8] (by decide) rfl
              refine lv_pop hx hb dX0_write_168 rfl ?_
              refine lv_aload_n hx hb dX0_write_169 rfl (lv_at hl 3 rfl) ?_
              refine lv_iload hx hb dX0_write_170 (lv_at hl 0 rfl) ?_
              refine lv_aload_n hx hb dX0_write_172 rfl (lv_at hl 5 rfl) ?_
              refine lv_iload_n hx hb dX0_write_173 rfl (lv_at hl 6 rfl) ?_
              refine lv_iconst (v := 1) hx hb dX0_write_174 (by decide) ?_
              refine lv_iadd hx hb dX0_write_175 ?_
              obtain ⟨b_23, b_24, h⟩ := h
              obtain ⟨⟨hq_23, hq_24⟩, h⟩ := h
              have hPc := hP
              have hDc := hD.sub (ws' := [(b0, .inr (3, [.ref b1, .ref b2, .ref b3, .ref b4, .ref b5, .ref b6, .int bn])), (b1, .inl (G.2 0, 40, .inl kf)), (b2, .inl (G.2 0, 40, .inl ff)), (b3, .inl (G.2 0, 40, .inl sf)), (b4, .inl (G.2 0, 40, .inl df)), (b5, .inl (G.2 1, 40, .inr (.inl pf))), (b6, .inl (G.2 1, 6, .inr (.inl gf))), (wb, .inr (1, [.ref wv_11, .int (0 : Int32), .int (0 : Int32), .int wc_11])), (wv_11, .inl (G.2 2, wn_11, .inl wf_11))]) [0, 1, 2, 3, 4, 5, 6, 7, 8] (by decide) rfl
              have hFc := va_free (wc := [(b0, .inr (3, [.ref b1, .ref b2, .ref b3, .ref b4, .ref b5, .ref b6, .int bn])), (b1, .inl (G.2 0, 40, .inl kf)), (b2, .inl (G.2 0, 40, .inl ff)), (b3, .inl (G.2 0, 40, .inl sf)), (b4, .inl (G.2 0, 40, .inl df)), (b5, .inl (G.2 1, 40, .inr (.inl pf))), (b6, .inl (G.2 1, 6, .inr (.inl gf))), (wb, .inr (1, [.ref wv_11, .int (0 : Int32), .int (0 : Int32), .int wc_11])), (wv_11, .inl (G.2 2, wn_11, .inl wf_11))]) hD hS hA [0, 1, 2, 3, 4, 5, 6, 7, 8] rfl
              have hJc := (hJ.kept hS.2.1).narrow hFc
              refine va_callv (va_runS (As := [.ref b0, .int r_4, .ref wb, .int (p3 + (1 : Int32))]) (rest := []) ⟨hx, hb, hml, hown, hts⟩ (ih l G b0 b1 b2 b3 b4 b5 b6 wb wv_11 kf ff sf df pf gf bn wc_11 wn_11 wf_11 b_23 b_24 r_4 (p3 + (1 : Int32)) _ h) (va_cwS 4 hts (gdS q705 q706 q2 q707) rfl rfl rfl (by decide +kernel) ⟨(by show 6 + nR + 1 ≤ 6 + (nR + 1); omega), (by show 8 + (7 + 11) + (152 + nR * 26) ≤ 152 + (nR + 1) * 26; omega)⟩) (preSwj hPc hKK hDc hJc) rfl rfl hl.1 rfl (lv_room (Nat.le_of_ble_eq_true rfl)) dX0_write_176 ⟨hq_23, hq_24⟩) hS (fun q _ h => hFc q h) hFc (fun u t H1 locs ht hvm h hB hz1 hk1 hS => ?_)
              obtain ⟨wc_12, wn_12, wf_12⟩ := u
              obtain ⟨wv_12, hB⟩ := hB
              obtain ⟨hP1, hD1⟩ := hB
              rw [ht] at hP1
              have hP := hP1
              have hD : va_D A [(b0, .inr (3, [.ref b1, .ref b2, .ref b3, .ref b4, .ref b5, .ref b6, .int bn])), (b1, .inl (G.2 0, 40, .inl kf)), (b2, .inl (G.2 0, 40, .inl ff)), (b3, .inl (G.2 0, 40, .inl sf)), (b4, .inl (G.2 0, 40, .inl df)), (b5, .inl (G.2 1, 40, .inr (.inl pf))), (b6, .inl (G.2 1, 6, .inr (.inl gf))), (wb, .inr (1, [.ref wv_12, .int (0 : Int32), .int (0 : Int32), .int wc_12])), (wv_12, .inl (G.2 2, wn_12, .inl wf_12))] := hD1.weaken (fun _ _ _ h => hFc _ h)
              generalize H1 = H at hP hS ⊢
              have hP : PP G [(b0, .inr (3, [.ref b1, .ref b2, .ref b3, .ref b4, .ref b5, .ref b6, .int bn])), (b1, .inl (G.2 0, 40, .inl kf)), (b2, .inl (G.2 0, 40, .inl ff)), (b3, .inl (G.2 0, 40, .inl sf)), (b4, .inl (G.2 0, 40, .inl df)), (b5, .inl (G.2 1, 40, .inr (.inl pf))), (b6, .inl (G.2 1, 6, .inr (.inl gf))), (wb, .inr (1, [.ref wv_12, .int (0 : Int32), .int (0 : Int32), .int wc_12])), (wv_12, .inl (G.2 2, wn_12, .inl wf_12))] H := hP
              obtain ⟨⟨hw1, hw2⟩, h⟩ := h
              refine W.widen (k := mcb) (n := msb) hw1 hw2 ?_
              subst hQC; exact W.vret hx hb hr (fun t ht hW => ⟨⟨(wc_12, wn_12, wf_12), rfl, h, wv_12, by rw [ht]; exact hP, hD⟩, hS.F ht⟩) hS.2.2 dX0_write_179
            · have h := h.2 hc
              refine lv_aload_n hx hb dX0_write_94 rfl (lv_at hl 5 rfl) ?_
              refine lv_bipush (v := 40) hx hb dX0_write_95 (by decide) ?_
              obtain ⟨b_25, b_26, h⟩ := h
              obtain ⟨⟨hq_25, hq_26⟩, h⟩ := h
              have hPc := va_P.sub (ws' := [(wb, .inr (1, [.ref wv, .int (0 : Int32), .int (0 : Int32), .int wc])), (wv, .inl (G.2 2, wn, .inl wf))]) hP [7, 8] rfl
              have hDc := hD.sub (ws' := [(wb, .inr (1, [.ref wv, .int (0 : Int32), .int (0 : Int32), .int wc])), (wv, .inl (G.2 2, wn, .inl wf))]) [7, 8] (by decide) rfl
              have hFc := va_free (wc := [(wb, .inr (1, [.ref wv, .int (0 : Int32), .int (0 : Int32), .int wc])), (wv, .inl (G.2 2, wn, .inl wf))]) hD hS hA [7, 8] rfl
              have hJc := (hJ.kept hS.2.1).narrow hFc
              refine va_callr (va_runV (C := RJ4) (As := [.int (40 : Int32)]) (rest := []) ⟨hx, hb, hml, hown, hts⟩ (knJ4_append_cf468 l G wb wv wc wn wf b_25 b_26 (40 : Int32) _ h) (cwV 1 hts (gdV q711 q712 q713 q25 q714) rfl rfl rfl (by decide +kernel) ⟨(by show 5 + 1 ≤ 6 + (nR + 1); omega), (by show 8 + (2 + 11) + 129 ≤ 152 + (nR + 1) * 26; omega)⟩) (preVwj hPc hKK hDc hJc (va_recv hK hPc (ci := 1) (q0 := 0) rfl rfl)) rfl rfl hl.1 rfl (lv_room (Nat.le_of_ble_eq_true rfl)) dX0_write_97 ⟨hq_25, hq_26⟩) hS (fun q _ h => hFc q h) hFc (fun u ra t H1 locs ht hvm h hB hz1 hk1 hS => ?_)
              obtain ⟨wc_13, wn_13, wf_13⟩ := u
              obtain ⟨era, hB⟩ := hB
              rw [era]
              obtain ⟨wv_13, hB⟩ := hB
              obtain ⟨hP1, hD1⟩ := hB
              rw [ht] at hP1
              obtain ⟨hP, hD⟩ := va_join (wr := [(b0, .inr (3, [.ref b1, .ref b2, .ref b3, .ref b4, .ref b5, .ref b6, .int bn])), (b1, .inl (G.2 0, 40, .inl kf)), (b2, .inl (G.2 0, 40, .inl ff)), (b3, .inl (G.2 0, 40, .inl sf)), (b4, .inl (G.2 0, 40, .inl df)), (b5, .inl (G.2 1, 40, .inr (.inl pf))), (b6, .inl (G.2 1, 6, .inr (.inl gf)))]) (w1 := [(wb, .inr (1, [.ref wv_13, .int (0 : Int32), .int (0 : Int32), .int wc_13])), (wv_13, .inl (G.2 2, wn_13, .inl wf_13))]) hP hD [7, 8] [0, 1, 2, 3, 4, 5, 6] rfl rfl (by decide) (by decide) hk1 hFc hP1 hD1
              generalize H1 = H at hP hS ⊢
              have hP : PP G [(b0, .inr (3, [.ref b1, .ref b2, .ref b3, .ref b4, .ref b5, .ref b6, .int bn])), (b1, .inl (G.2 0, 40, .inl kf)), (b2, .inl (G.2 0, 40, .inl ff)), (b3, .inl (G.2 0, 40, .inl sf)), (b4, .inl (G.2 0, 40, .inl df)), (b5, .inl (G.2 1, 40, .inr (.inl pf))), (b6, .inl (G.2 1, 6, .inr (.inl gf))), (wb, .inr (1, [.ref wv_13, .int (0 : Int32), .int (0 : Int32), .int wc_13])), (wv_13, .inl (G.2 2, wn_13, .inl wf_13))] H := va_P.sub hP [0, 1, 2, 3, 4, 5, 6, 7, 8] rfl
              have hD : va_D A [(b0, .inr (3, [.ref b1, .ref b2, .ref b3, .ref b4, .ref b5, .ref b6, .int bn])), (b1, .inl (G.2 0, 40, .inl kf)), (b2, .inl (G.2 0, 40, .inl ff)), (b3, .inl (G.2 0, 40, .inl sf)), (b4, .inl (G.2 0, 40, .inl df)), (b5, .inl (G.2 1, 40, .inr (.inl pf))), (b6, .inl (G.2 1, 6, .inr (.inl gf))), (wb, .inr (1, [.ref wv_13, .int (0 : Int32), .int (0 : Int32), .int wc_13])), (wv_13, .inl (G.2 2, wn_13, .inl wf_13))] := hD.sub [0, 1, 2, 3, 4, 5, 6, 7, 8] (by decide) rfl
              refine lv_pop hx hb dX0_write_100 rfl ?_
              refine lv_aload_n hx hb dX0_write_101 rfl (lv_at hl 3 rfl) ?_
              refine lv_iload hx hb dX0_write_102 (lv_at hl 1 rfl) ?_
              refine lv_aload_n hx hb dX0_write_104 rfl (lv_at hl 5 rfl) ?_
              refine lv_iload_n hx hb dX0_write_105 rfl (lv_at hl 6 rfl) ?_
              refine lv_iconst (v := 1) hx hb dX0_write_106 (by decide) ?_
              refine lv_iadd hx hb dX0_write_107 ?_
              obtain ⟨b_27, b_28, h⟩ := h
              obtain ⟨⟨hq_27, hq_28⟩, h⟩ := h
              have hPc := hP
              have hDc := hD.sub (ws' := [(b0, .inr (3, [.ref b1, .ref b2, .ref b3, .ref b4, .ref b5, .ref b6, .int bn])), (b1, .inl (G.2 0, 40, .inl kf)), (b2, .inl (G.2 0, 40, .inl ff)), (b3, .inl (G.2 0, 40, .inl sf)), (b4, .inl (G.2 0, 40, .inl df)), (b5, .inl (G.2 1, 40, .inr (.inl pf))), (b6, .inl (G.2 1, 6, .inr (.inl gf))), (wb, .inr (1, [.ref wv_13, .int (0 : Int32), .int (0 : Int32), .int wc_13])), (wv_13, .inl (G.2 2, wn_13, .inl wf_13))]) [0, 1, 2, 3, 4, 5, 6, 7, 8] (by decide) rfl
              have hFc := va_free (wc := [(b0, .inr (3, [.ref b1, .ref b2, .ref b3, .ref b4, .ref b5, .ref b6, .int bn])), (b1, .inl (G.2 0, 40, .inl kf)), (b2, .inl (G.2 0, 40, .inl ff)), (b3, .inl (G.2 0, 40, .inl sf)), (b4, .inl (G.2 0, 40, .inl df)), (b5, .inl (G.2 1, 40, .inr (.inl pf))), (b6, .inl (G.2 1, 6, .inr (.inl gf))), (wb, .inr (1, [.ref wv_13, .int (0 : Int32), .int (0 : Int32), .int wc_13])), (wv_13, .inl (G.2 2, wn_13, .inl wf_13))]) hD hS hA [0, 1, 2, 3, 4, 5, 6, 7, 8] rfl
              have hJc := (hJ.kept hS.2.1).narrow hFc
              refine va_callv (va_runS (As := [.ref b0, .int r_3, .ref wb, .int (p3 + (1 : Int32))]) (rest := []) ⟨hx, hb, hml, hown, hts⟩ (ih l G b0 b1 b2 b3 b4 b5 b6 wb wv_13 kf ff sf df pf gf bn wc_13 wn_13 wf_13 b_27 b_28 r_3 (p3 + (1 : Int32)) _ h) (va_cwS 4 hts (gdS q705 q706 q2 q707) rfl rfl rfl (by decide +kernel) ⟨(by show 6 + nR + 1 ≤ 6 + (nR + 1); omega), (by show 8 + (7 + 11) + (152 + nR * 26) ≤ 152 + (nR + 1) * 26; omega)⟩) (preSwj hPc hKK hDc hJc) rfl rfl hl.1 rfl (lv_room (Nat.le_of_ble_eq_true rfl)) dX0_write_108 ⟨hq_27, hq_28⟩) hS (fun q _ h => hFc q h) hFc (fun u t H1 locs ht hvm h hB hz1 hk1 hS => ?_)
              obtain ⟨wc_14, wn_14, wf_14⟩ := u
              obtain ⟨wv_14, hB⟩ := hB
              obtain ⟨hP1, hD1⟩ := hB
              rw [ht] at hP1
              have hP := hP1
              have hD : va_D A [(b0, .inr (3, [.ref b1, .ref b2, .ref b3, .ref b4, .ref b5, .ref b6, .int bn])), (b1, .inl (G.2 0, 40, .inl kf)), (b2, .inl (G.2 0, 40, .inl ff)), (b3, .inl (G.2 0, 40, .inl sf)), (b4, .inl (G.2 0, 40, .inl df)), (b5, .inl (G.2 1, 40, .inr (.inl pf))), (b6, .inl (G.2 1, 6, .inr (.inl gf))), (wb, .inr (1, [.ref wv_14, .int (0 : Int32), .int (0 : Int32), .int wc_14])), (wv_14, .inl (G.2 2, wn_14, .inl wf_14))] := hD1.weaken (fun _ _ _ h => hFc _ h)
              generalize H1 = H at hP hS ⊢
              have hP : PP G [(b0, .inr (3, [.ref b1, .ref b2, .ref b3, .ref b4, .ref b5, .ref b6, .int bn])), (b1, .inl (G.2 0, 40, .inl kf)), (b2, .inl (G.2 0, 40, .inl ff)), (b3, .inl (G.2 0, 40, .inl sf)), (b4, .inl (G.2 0, 40, .inl df)), (b5, .inl (G.2 1, 40, .inr (.inl pf))), (b6, .inl (G.2 1, 6, .inr (.inl gf))), (wb, .inr (1, [.ref wv_14, .int (0 : Int32), .int (0 : Int32), .int wc_14])), (wv_14, .inl (G.2 2, wn_14, .inl wf_14))] H := hP
              refine lv_aload_n hx hb dX0_write_111 rfl (lv_at hl 5 rfl) ?_
              refine lv_iload hx hb dX0_write_112 (lv_at hl 2 rfl) ?_
              refine lv_iconst (v := 2) hx hb dX0_write_114 (by decide) ?_
              refine lv_icmp_ne (tgt := 123) hx hb dX0_write_115 (by decide) (fun hc => ?_) (fun hc => ?_)
              · have h := h.1 hc
                refine lv_bipush (v := 124) hx hb dX0_write_123 (by decide) ?_
                obtain ⟨b_29, b_30, h⟩ := h
                obtain ⟨⟨hq_29, hq_30⟩, h⟩ := h
                have hPc := va_P.sub (ws' := [(wb, .inr (1, [.ref wv_14, .int (0 : Int32), .int (0 : Int32), .int wc_14])), (wv_14, .inl (G.2 2, wn_14, .inl wf_14))]) hP [7, 8] rfl
                have hDc := hD.sub (ws' := [(wb, .inr (1, [.ref wv_14, .int (0 : Int32), .int (0 : Int32), .int wc_14])), (wv_14, .inl (G.2 2, wn_14, .inl wf_14))]) [7, 8] (by decide) rfl
                have hFc := va_free (wc := [(wb, .inr (1, [.ref wv_14, .int (0 : Int32), .int (0 : Int32), .int wc_14])), (wv_14, .inl (G.2 2, wn_14, .inl wf_14))]) hD hS hA [7, 8] rfl
                have hJc := (hJ.kept hS.2.1).narrow hFc
                refine va_callr (va_runV (C := RJ4) (As := [.int (124 : Int32)]) (rest := []) ⟨hx, hb, hml, hown, hts⟩ (knJ4_append_cf468 l G wb wv_14 wc_14 wn_14 wf_14 b_29 b_30 (124 : Int32) _ h) (cwV 1 hts (gdV q711 q712 q713 q25 q714) rfl rfl rfl (by decide +kernel) ⟨(by show 5 + 1 ≤ 6 + (nR + 1); omega), (by show 8 + (2 + 11) + 129 ≤ 152 + (nR + 1) * 26; omega)⟩) (preVwj hPc hKK hDc hJc (va_recv hK hPc (ci := 1) (q0 := 0) rfl rfl)) rfl rfl hl.1 rfl (lv_room (Nat.le_of_ble_eq_true rfl)) dX0_write_125 ⟨hq_29, hq_30⟩) hS (fun q _ h => hFc q h) hFc (fun u ra t H1 locs ht hvm h hB hz1 hk1 hS => ?_)
                obtain ⟨wc_15, wn_15, wf_15⟩ := u
                obtain ⟨era, hB⟩ := hB
                rw [era]
                obtain ⟨wv_15, hB⟩ := hB
                obtain ⟨hP1, hD1⟩ := hB
                rw [ht] at hP1
                obtain ⟨hP, hD⟩ := va_join (wr := [(b0, .inr (3, [.ref b1, .ref b2, .ref b3, .ref b4, .ref b5, .ref b6, .int bn])), (b1, .inl (G.2 0, 40, .inl kf)), (b2, .inl (G.2 0, 40, .inl ff)), (b3, .inl (G.2 0, 40, .inl sf)), (b4, .inl (G.2 0, 40, .inl df)), (b5, .inl (G.2 1, 40, .inr (.inl pf))), (b6, .inl (G.2 1, 6, .inr (.inl gf)))]) (w1 := [(wb, .inr (1, [.ref wv_15, .int (0 : Int32), .int (0 : Int32), .int wc_15])), (wv_15, .inl (G.2 2, wn_15, .inl wf_15))]) hP hD [7, 8] [0, 1, 2, 3, 4, 5, 6] rfl rfl (by decide) (by decide) hk1 hFc hP1 hD1
                generalize H1 = H at hP hS ⊢
                have hP : PP G [(b0, .inr (3, [.ref b1, .ref b2, .ref b3, .ref b4, .ref b5, .ref b6, .int bn])), (b1, .inl (G.2 0, 40, .inl kf)), (b2, .inl (G.2 0, 40, .inl ff)), (b3, .inl (G.2 0, 40, .inl sf)), (b4, .inl (G.2 0, 40, .inl df)), (b5, .inl (G.2 1, 40, .inr (.inl pf))), (b6, .inl (G.2 1, 6, .inr (.inl gf))), (wb, .inr (1, [.ref wv_15, .int (0 : Int32), .int (0 : Int32), .int wc_15])), (wv_15, .inl (G.2 2, wn_15, .inl wf_15))] H := va_P.sub hP [0, 1, 2, 3, 4, 5, 6, 7, 8] rfl
                have hD : va_D A [(b0, .inr (3, [.ref b1, .ref b2, .ref b3, .ref b4, .ref b5, .ref b6, .int bn])), (b1, .inl (G.2 0, 40, .inl kf)), (b2, .inl (G.2 0, 40, .inl ff)), (b3, .inl (G.2 0, 40, .inl sf)), (b4, .inl (G.2 0, 40, .inl df)), (b5, .inl (G.2 1, 40, .inr (.inl pf))), (b6, .inl (G.2 1, 6, .inr (.inl gf))), (wb, .inr (1, [.ref wv_15, .int (0 : Int32), .int (0 : Int32), .int wc_15])), (wv_15, .inl (G.2 2, wn_15, .inl wf_15))] := hD.sub [0, 1, 2, 3, 4, 5, 6, 7, 8] (by decide) rfl
                refine lv_pop hx hb dX0_write_128 rfl ?_
                refine lv_aload_n hx hb dX0_write_129 rfl (lv_at hl 3 rfl) ?_
                refine lv_iload hx hb dX0_write_130 (lv_at hl 0 rfl) ?_
                refine lv_aload_n hx hb dX0_write_132 rfl (lv_at hl 5 rfl) ?_
                refine lv_iload_n hx hb dX0_write_133 rfl (lv_at hl 6 rfl) ?_
                refine lv_iconst (v := 1) hx hb dX0_write_134 (by decide) ?_
                refine lv_iadd hx hb dX0_write_135 ?_
                obtain ⟨b_31, b_32, h⟩ := h
                obtain ⟨⟨hq_31, hq_32⟩, h⟩ := h
                have hPc := hP
                have hDc := hD.sub (ws' := [(b0, .inr (3, [.ref b1, .ref b2, .ref b3, .ref b4, .ref b5, .ref b6, .int bn])), (b1, .inl (G.2 0, 40, .inl kf)), (b2, .inl (G.2 0, 40, .inl ff)), (b3, .inl (G.2 0, 40, .inl sf)), (b4, .inl (G.2 0, 40, .inl df)), (b5, .inl (G.2 1, 40, .inr (.inl pf))), (b6, .inl (G.2 1, 6, .inr (.inl gf))), (wb, .inr (1, [.ref wv_15, .int (0 : Int32), .int (0 : Int32), .int wc_15])), (wv_15, .inl (G.2 2, wn_15, .inl wf_15))]) [0, 1, 2, 3, 4, 5, 6, 7, 8] (by decide) rfl
                have hFc := va_free (wc := [(b0, .inr (3, [.ref b1, .ref b2, .ref b3, .ref b4, .ref b5, .ref b6, .int bn])), (b1, .inl (G.2 0, 40, .inl kf)), (b2, .inl (G.2 0, 40, .inl ff)), (b3, .inl (G.2 0, 40, .inl sf)), (b4, .inl (G.2 0, 40, .inl df)), (b5, .inl (G.2 1, 40, .inr (.inl pf))), (b6, .inl (G.2 1, 6, .inr (.inl gf))), (wb, .inr (1, [.ref wv_15, .int (0 : Int32), .int (0 : Int32), .int wc_15])), (wv_15, .inl (G.2 2, wn_15, .inl wf_15))]) hD hS hA [0, 1, 2, 3, 4, 5, 6, 7, 8] rfl
                have hJc := (hJ.kept hS.2.1).narrow hFc
                refine va_callv (va_runS (As := [.ref b0, .int r_4, .ref wb, .int (p3 + (1 : Int32))]) (rest := []) ⟨hx, hb, hml, hown, hts⟩ (ih l G b0 b1 b2 b3 b4 b5 b6 wb wv_15 kf ff sf df pf gf bn wc_15 wn_15 wf_15 b_31 b_32 r_4 (p3 + (1 : Int32)) _ h) (va_cwS 4 hts (gdS q705 q706 q2 q707) rfl rfl rfl (by decide +kernel) ⟨(by show 6 + nR + 1 ≤ 6 + (nR + 1); omega), (by show 8 + (7 + 11) + (152 + nR * 26) ≤ 152 + (nR + 1) * 26; omega)⟩) (preSwj hPc hKK hDc hJc) rfl rfl hl.1 rfl (lv_room (Nat.le_of_ble_eq_true rfl)) dX0_write_136 ⟨hq_31, hq_32⟩) hS (fun q _ h => hFc q h) hFc (fun u t H1 locs ht hvm h hB hz1 hk1 hS => ?_)
                obtain ⟨wc_16, wn_16, wf_16⟩ := u
                obtain ⟨wv_16, hB⟩ := hB
                obtain ⟨hP1, hD1⟩ := hB
                rw [ht] at hP1
                have hP := hP1
                have hD : va_D A [(b0, .inr (3, [.ref b1, .ref b2, .ref b3, .ref b4, .ref b5, .ref b6, .int bn])), (b1, .inl (G.2 0, 40, .inl kf)), (b2, .inl (G.2 0, 40, .inl ff)), (b3, .inl (G.2 0, 40, .inl sf)), (b4, .inl (G.2 0, 40, .inl df)), (b5, .inl (G.2 1, 40, .inr (.inl pf))), (b6, .inl (G.2 1, 6, .inr (.inl gf))), (wb, .inr (1, [.ref wv_16, .int (0 : Int32), .int (0 : Int32), .int wc_16])), (wv_16, .inl (G.2 2, wn_16, .inl wf_16))] := hD1.weaken (fun _ _ _ h => hFc _ h)
                generalize H1 = H at hP hS ⊢
                have hP : PP G [(b0, .inr (3, [.ref b1, .ref b2, .ref b3, .ref b4, .ref b5, .ref b6, .int bn])), (b1, .inl (G.2 0, 40, .inl kf)), (b2, .inl (G.2 0, 40, .inl ff)), (b3, .inl (G.2 0, 40, .inl sf)), (b4, .inl (G.2 0, 40, .inl df)), (b5, .inl (G.2 1, 40, .inr (.inl pf))), (b6, .inl (G.2 1, 6, .inr (.inl gf))), (wb, .inr (1, [.ref wv_16, .int (0 : Int32), .int (0 : Int32), .int wc_16])), (wv_16, .inl (G.2 2, wn_16, .inl wf_16))] H := hP
                refine lv_aload_n hx hb dX0_write_139 rfl (lv_at hl 5 rfl) ?_
                refine lv_bipush (v := 41) hx hb dX0_write_140 (by decide) ?_
                obtain ⟨b_33, b_34, h⟩ := h
                obtain ⟨⟨hq_33, hq_34⟩, h⟩ := h
                have hPc := va_P.sub (ws' := [(wb, .inr (1, [.ref wv_16, .int (0 : Int32), .int (0 : Int32), .int wc_16])), (wv_16, .inl (G.2 2, wn_16, .inl wf_16))]) hP [7, 8] rfl
                have hDc := hD.sub (ws' := [(wb, .inr (1, [.ref wv_16, .int (0 : Int32), .int (0 : Int32), .int wc_16])), (wv_16, .inl (G.2 2, wn_16, .inl wf_16))]) [7, 8] (by decide) rfl
                have hFc := va_free (wc := [(wb, .inr (1, [.ref wv_16, .int (0 : Int32), .int (0 : Int32), .int wc_16])), (wv_16, .inl (G.2 2, wn_16, .inl wf_16))]) hD hS hA [7, 8] rfl
                have hJc := (hJ.kept hS.2.1).narrow hFc
                refine va_callr (va_runV (C := RJ4) (As := [.int (41 : Int32)]) (rest := []) ⟨hx, hb, hml, hown, hts⟩ (knJ4_append_cf468 l G wb wv_16 wc_16 wn_16 wf_16 b_33 b_34 (41 : Int32) _ h) (cwV 1 hts (gdV q711 q712 q713 q25 q714) rfl rfl rfl (by decide +kernel) ⟨(by show 5 + 1 ≤ 6 + (nR + 1); omega), (by show 8 + (2 + 11) + 129 ≤ 152 + (nR + 1) * 26; omega)⟩) (preVwj hPc hKK hDc hJc (va_recv hK hPc (ci := 1) (q0 := 0) rfl rfl)) rfl rfl hl.1 rfl (lv_room (Nat.le_of_ble_eq_true rfl)) dX0_write_142 ⟨hq_33, hq_34⟩) hS (fun q _ h => hFc q h) hFc (fun u ra t H1 locs ht hvm h hB hz1 hk1 hS => ?_)
                obtain ⟨wc_17, wn_17, wf_17⟩ := u
                obtain ⟨era, hB⟩ := hB
                rw [era]
                obtain ⟨wv_17, hB⟩ := hB
                obtain ⟨hP1, hD1⟩ := hB
                rw [ht] at hP1
                obtain ⟨hP, hD⟩ := va_join (wr := [(b0, .inr (3, [.ref b1, .ref b2, .ref b3, .ref b4, .ref b5, .ref b6, .int bn])), (b1, .inl (G.2 0, 40, .inl kf)), (b2, .inl (G.2 0, 40, .inl ff)), (b3, .inl (G.2 0, 40, .inl sf)), (b4, .inl (G.2 0, 40, .inl df)), (b5, .inl (G.2 1, 40, .inr (.inl pf))), (b6, .inl (G.2 1, 6, .inr (.inl gf)))]) (w1 := [(wb, .inr (1, [.ref wv_17, .int (0 : Int32), .int (0 : Int32), .int wc_17])), (wv_17, .inl (G.2 2, wn_17, .inl wf_17))]) hP hD [7, 8] [0, 1, 2, 3, 4, 5, 6] rfl rfl (by decide) (by decide) hk1 hFc hP1 hD1
                generalize H1 = H at hP hS ⊢
                have hP : PP G [(b0, .inr (3, [.ref b1, .ref b2, .ref b3, .ref b4, .ref b5, .ref b6, .int bn])), (b1, .inl (G.2 0, 40, .inl kf)), (b2, .inl (G.2 0, 40, .inl ff)), (b3, .inl (G.2 0, 40, .inl sf)), (b4, .inl (G.2 0, 40, .inl df)), (b5, .inl (G.2 1, 40, .inr (.inl pf))), (b6, .inl (G.2 1, 6, .inr (.inl gf))), (wb, .inr (1, [.ref wv_17, .int (0 : Int32), .int (0 : Int32), .int wc_17])), (wv_17, .inl (G.2 2, wn_17, .inl wf_17))] H := va_P.sub hP [0, 1, 2, 3, 4, 5, 6, 7, 8] rfl
                have hD : va_D A [(b0, .inr (3, [.ref b1, .ref b2, .ref b3, .ref b4, .ref b5, .ref b6, .int bn])), (b1, .inl (G.2 0, 40, .inl kf)), (b2, .inl (G.2 0, 40, .inl ff)), (b3, .inl (G.2 0, 40, .inl sf)), (b4, .inl (G.2 0, 40, .inl df)), (b5, .inl (G.2 1, 40, .inr (.inl pf))), (b6, .inl (G.2 1, 6, .inr (.inl gf))), (wb, .inr (1, [.ref wv_17, .int (0 : Int32), .int (0 : Int32), .int wc_17])), (wv_17, .inl (G.2 2, wn_17, .inl wf_17))] := hD.sub [0, 1, 2, 3, 4, 5, 6, 7, 8] (by decide) rfl
                refine lv_pop hx hb dX0_write_145 rfl ?_
                refine lv_goto (tgt := 179) hx hb dX0_write_146 (by decide) ?_
                obtain ⟨⟨hw1, hw2⟩, h⟩ := h
                refine W.widen (k := mcb) (n := msb) hw1 hw2 ?_
                subst hQC; exact W.vret hx hb hr (fun t ht hW => ⟨⟨(wc_17, wn_17, wf_17), rfl, h, wv_17, by rw [ht]; exact hP, hD⟩, hS.F ht⟩) hS.2.2 dX0_write_179
              · have h := h.2 hc
                refine lv_bipush (v := 38) hx hb dX0_write_118 (by decide) ?_
                refine lv_goto (tgt := 125) hx hb dX0_write_120 (by decide) ?_
                obtain ⟨b_35, b_36, h⟩ := h
                obtain ⟨⟨hq_35, hq_36⟩, h⟩ := h
                have hPc := va_P.sub (ws' := [(wb, .inr (1, [.ref wv_14, .int (0 : Int32), .int (0 : Int32), .int wc_14])), (wv_14, .inl (G.2 2, wn_14, .inl wf_14))]) hP [7, 8] rfl
                have hDc := hD.sub (ws' := [(wb, .inr (1, [.ref wv_14, .int (0 : Int32), .int (0 : Int32), .int wc_14])), (wv_14, .inl (G.2 2, wn_14, .inl wf_14))]) [7, 8] (by decide) rfl
                have hFc := va_free (wc := [(wb, .inr (1, [.ref wv_14, .int (0 : Int32), .int (0 : Int32), .int wc_14])), (wv_14, .inl (G.2 2, wn_14, .inl wf_14))]) hD hS hA [7, 8] rfl
                have hJc := (hJ.kept hS.2.1).narrow hFc
                refine va_callr (va_runV (C := RJ4) (As := [.int (38 : Int32)]) (rest := []) ⟨hx, hb, hml, hown, hts⟩ (knJ4_append_cf468 l G wb wv_14 wc_14 wn_14 wf_14 b_35 b_36 (38 : Int32) _ h) (cwV 1 hts (gdV q711 q712 q713 q25 q714) rfl rfl rfl (by decide +kernel) ⟨(by show 5 + 1 ≤ 6 + (nR + 1); omega), (by show 8 + (2 + 11) + 129 ≤ 152 + (nR + 1) * 26; omega)⟩) (preVwj hPc hKK hDc hJc (va_recv hK hPc (ci := 1) (q0 := 0) rfl rfl)) rfl rfl hl.1 rfl (lv_room (Nat.le_of_ble_eq_true rfl)) dX0_write_125 ⟨hq_35, hq_36⟩) hS (fun q _ h => hFc q h) hFc (fun u ra t H1 locs ht hvm h hB hz1 hk1 hS => ?_)
                obtain ⟨wc_18, wn_18, wf_18⟩ := u
                obtain ⟨era, hB⟩ := hB
                rw [era]
                obtain ⟨wv_18, hB⟩ := hB
                obtain ⟨hP1, hD1⟩ := hB
                rw [ht] at hP1
                obtain ⟨hP, hD⟩ := va_join (wr := [(b0, .inr (3, [.ref b1, .ref b2, .ref b3, .ref b4, .ref b5, .ref b6, .int bn])), (b1, .inl (G.2 0, 40, .inl kf)), (b2, .inl (G.2 0, 40, .inl ff)), (b3, .inl (G.2 0, 40, .inl sf)), (b4, .inl (G.2 0, 40, .inl df)), (b5, .inl (G.2 1, 40, .inr (.inl pf))), (b6, .inl (G.2 1, 6, .inr (.inl gf)))]) (w1 := [(wb, .inr (1, [.ref wv_18, .int (0 : Int32), .int (0 : Int32), .int wc_18])), (wv_18, .inl (G.2 2, wn_18, .inl wf_18))]) hP hD [7, 8] [0, 1, 2, 3, 4, 5, 6] rfl rfl (by decide) (by decide) hk1 hFc hP1 hD1
                generalize H1 = H at hP hS ⊢
                have hP : PP G [(b0, .inr (3, [.ref b1, .ref b2, .ref b3, .ref b4, .ref b5, .ref b6, .int bn])), (b1, .inl (G.2 0, 40, .inl kf)), (b2, .inl (G.2 0, 40, .inl ff)), (b3, .inl (G.2 0, 40, .inl sf)), (b4, .inl (G.2 0, 40, .inl df)), (b5, .inl (G.2 1, 40, .inr (.inl pf))), (b6, .inl (G.2 1, 6, .inr (.inl gf))), (wb, .inr (1, [.ref wv_18, .int (0 : Int32), .int (0 : Int32), .int wc_18])), (wv_18, .inl (G.2 2, wn_18, .inl wf_18))] H := va_P.sub hP [0, 1, 2, 3, 4, 5, 6, 7, 8] rfl
                have hD : va_D A [(b0, .inr (3, [.ref b1, .ref b2, .ref b3, .ref b4, .ref b5, .ref b6, .int bn])), (b1, .inl (G.2 0, 40, .inl kf)), (b2, .inl (G.2 0, 40, .inl ff)), (b3, .inl (G.2 0, 40, .inl sf)), (b4, .inl (G.2 0, 40, .inl df)), (b5, .inl (G.2 1, 40, .inr (.inl pf))), (b6, .inl (G.2 1, 6, .inr (.inl gf))), (wb, .inr (1, [.ref wv_18, .int (0 : Int32), .int (0 : Int32), .int wc_18])), (wv_18, .inl (G.2 2, wn_18, .inl wf_18))] := hD.sub [0, 1, 2, 3, 4, 5, 6, 7, 8] (by decide) rfl
                refine lv_pop hx hb dX0_write_128 rfl ?_
                refine lv_aload_n hx hb dX0_write_129 rfl (lv_at hl 3 rfl) ?_
                refine lv_iload hx hb dX0_write_130 (lv_at hl 0 rfl) ?_
                refine lv_aload_n hx hb dX0_write_132 rfl (lv_at hl 5 rfl) ?_
                refine lv_iload_n hx hb dX0_write_133 rfl (lv_at hl 6 rfl) ?_
                refine lv_iconst (v := 1) hx hb dX0_write_134 (by decide) ?_
                refine lv_iadd hx hb dX0_write_135 ?_
                obtain ⟨b_37, b_38, h⟩ := h
                obtain ⟨⟨hq_37, hq_38⟩, h⟩ := h
                have hPc := hP
                have hDc := hD.sub (ws' := [(b0, .inr (3, [.ref b1, .ref b2, .ref b3, .ref b4, .ref b5, .ref b6, .int bn])), (b1, .inl (G.2 0, 40, .inl kf)), (b2, .inl (G.2 0, 40, .inl ff)), (b3, .inl (G.2 0, 40, .inl sf)), (b4, .inl (G.2 0, 40, .inl df)), (b5, .inl (G.2 1, 40, .inr (.inl pf))), (b6, .inl (G.2 1, 6, .inr (.inl gf))), (wb, .inr (1, [.ref wv_18, .int (0 : Int32), .int (0 : Int32), .int wc_18])), (wv_18, .inl (G.2 2, wn_18, .inl wf_18))]) [0, 1, 2, 3, 4, 5, 6, 7, 8] (by decide) rfl
                have hFc := va_free (wc := [(b0, .inr (3, [.ref b1, .ref b2, .ref b3, .ref b4, .ref b5, .ref b6, .int bn])), (b1, .inl (G.2 0, 40, .inl kf)), (b2, .inl (G.2 0, 40, .inl ff)), (b3, .inl (G.2 0, 40, .inl sf)), (b4, .inl (G.2 0, 40, .inl df)), (b5, .inl (G.2 1, 40, .inr (.inl pf))), (b6, .inl (G.2 1, 6, .inr (.inl gf))), (wb, .inr (1, [.ref wv_18, .int (0 : Int32), .int (0 : Int32), .int wc_18])), (wv_18, .inl (G.2 2, wn_18, .inl wf_18))]) hD hS hA [0, 1, 2, 3, 4, 5, 6, 7, 8] rfl
                have hJc := (hJ.kept hS.2.1).narrow hFc
                refine va_callv (va_runS (As := [.ref b0, .int r_4, .ref wb, .int (p3 + (1 : Int32))]) (rest := []) ⟨hx, hb, hml, hown, hts⟩ (ih l G b0 b1 b2 b3 b4 b5 b6 wb wv_18 kf ff sf df pf gf bn wc_18 wn_18 wf_18 b_37 b_38 r_4 (p3 + (1 : Int32)) _ h) (va_cwS 4 hts (gdS q705 q706 q2 q707) rfl rfl rfl (by decide +kernel) ⟨(by show 6 + nR + 1 ≤ 6 + (nR + 1); omega), (by show 8 + (7 + 11) + (152 + nR * 26) ≤ 152 + (nR + 1) * 26; omega)⟩) (preSwj hPc hKK hDc hJc) rfl rfl hl.1 rfl (lv_room (Nat.le_of_ble_eq_true rfl)) dX0_write_136 ⟨hq_37, hq_38⟩) hS (fun q _ h => hFc q h) hFc (fun u t H1 locs ht hvm h hB hz1 hk1 hS => ?_)
                obtain ⟨wc_19, wn_19, wf_19⟩ := u
                obtain ⟨wv_19, hB⟩ := hB
                obtain ⟨hP1, hD1⟩ := hB
                rw [ht] at hP1
                have hP := hP1
                have hD : va_D A [(b0, .inr (3, [.ref b1, .ref b2, .ref b3, .ref b4, .ref b5, .ref b6, .int bn])), (b1, .inl (G.2 0, 40, .inl kf)), (b2, .inl (G.2 0, 40, .inl ff)), (b3, .inl (G.2 0, 40, .inl sf)), (b4, .inl (G.2 0, 40, .inl df)), (b5, .inl (G.2 1, 40, .inr (.inl pf))), (b6, .inl (G.2 1, 6, .inr (.inl gf))), (wb, .inr (1, [.ref wv_19, .int (0 : Int32), .int (0 : Int32), .int wc_19])), (wv_19, .inl (G.2 2, wn_19, .inl wf_19))] := hD1.weaken (fun _ _ _ h => hFc _ h)
                generalize H1 = H at hP hS ⊢
                have hP : PP G [(b0, .inr (3, [.ref b1, .ref b2, .ref b3, .ref b4, .ref b5, .ref b6, .int bn])), (b1, .inl (G.2 0, 40, .inl kf)), (b2, .inl (G.2 0, 40, .inl ff)), (b3, .inl (G.2 0, 40, .inl sf)), (b4, .inl (G.2 0, 40, .inl df)), (b5, .inl (G.2 1, 40, .inr (.inl pf))), (b6, .inl (G.2 1, 6, .inr (.inl gf))), (wb, .inr (1, [.ref wv_19, .int (0 : Int32), .int (0 : Int32), .int wc_19])), (wv_19, .inl (G.2 2, wn_19, .inl wf_19))] H := hP
                refine lv_aload_n hx hb dX0_write_139 rfl (lv_at hl 5 rfl) ?_
                refine lv_bipush (v := 41) hx hb dX0_write_140 (by decide) ?_
                obtain ⟨b_39, b_40, h⟩ := h
                obtain ⟨⟨hq_39, hq_40⟩, h⟩ := h
                have hPc := va_P.sub (ws' := [(wb, .inr (1, [.ref wv_19, .int (0 : Int32), .int (0 : Int32), .int wc_19])), (wv_19, .inl (G.2 2, wn_19, .inl wf_19))]) hP [7, 8] rfl
                have hDc := hD.sub (ws' := [(wb, .inr (1, [.ref wv_19, .int (0 : Int32), .int (0 : Int32), .int wc_19])), (wv_19, .inl (G.2 2, wn_19, .inl wf_19))]) [7, 8] (by decide) rfl
                have hFc := va_free (wc := [(wb, .inr (1, [.ref wv_19, .int (0 : Int32), .int (0 : Int32), .int wc_19])), (wv_19, .inl (G.2 2, wn_19, .inl wf_19))]) hD hS hA [7, 8] rfl
                have hJc := (hJ.kept hS.2.1).narrow hFc
                refine va_callr (va_runV (C := RJ4) (As := [.int (41 : Int32)]) (rest := []) ⟨hx, hb, hml, hown, hts⟩ (knJ4_append_cf468 l G wb wv_19 wc_19 wn_19 wf_19 b_39 b_40 (41 : Int32) _ h) (cwV 1 hts (gdV q711 q712 q713 q25 q714) rfl rfl rfl (by decide +kernel) ⟨(by show 5 + 1 ≤ 6 + (nR + 1); omega), (by show 8 + (2 + 11) + 129 ≤ 152 + (nR + 1) * 26; omega)⟩) (preVwj hPc hKK hDc hJc (va_recv hK hPc (ci := 1) (q0 := 0) rfl rfl)) rfl rfl hl.1 rfl (lv_room (Nat.le_of_ble_eq_true rfl)) dX0_write_142 ⟨hq_39, hq_40⟩) hS (fun q _ h => hFc q h) hFc (fun u ra t H1 locs ht hvm h hB hz1 hk1 hS => ?_)
                obtain ⟨wc_20, wn_20, wf_20⟩ := u
                obtain ⟨era, hB⟩ := hB
                rw [era]
                obtain ⟨wv_20, hB⟩ := hB
                obtain ⟨hP1, hD1⟩ := hB
                rw [ht] at hP1
                obtain ⟨hP, hD⟩ := va_join (wr := [(b0, .inr (3, [.ref b1, .ref b2, .ref b3, .ref b4, .ref b5, .ref b6, .int bn])), (b1, .inl (G.2 0, 40, .inl kf)), (b2, .inl (G.2 0, 40, .inl ff)), (b3, .inl (G.2 0, 40, .inl sf)), (b4, .inl (G.2 0, 40, .inl df)), (b5, .inl (G.2 1, 40, .inr (.inl pf))), (b6, .inl (G.2 1, 6, .inr (.inl gf)))]) (w1 := [(wb, .inr (1, [.ref wv_20, .int (0 : Int32), .int (0 : Int32), .int wc_20])), (wv_20, .inl (G.2 2, wn_20, .inl wf_20))]) hP hD [7, 8] [0, 1, 2, 3, 4, 5, 6] rfl rfl (by decide) (by decide) hk1 hFc hP1 hD1
                generalize H1 = H at hP hS ⊢
                have hP : PP G [(b0, .inr (3, [.ref b1, .ref b2, .ref b3, .ref b4, .ref b5, .ref b6, .int bn])), (b1, .inl (G.2 0, 40, .inl kf)), (b2, .inl (G.2 0, 40, .inl ff)), (b3, .inl (G.2 0, 40, .inl sf)), (b4, .inl (G.2 0, 40, .inl df)), (b5, .inl (G.2 1, 40, .inr (.inl pf))), (b6, .inl (G.2 1, 6, .inr (.inl gf))), (wb, .inr (1, [.ref wv_20, .int (0 : Int32), .int (0 : Int32), .int wc_20])), (wv_20, .inl (G.2 2, wn_20, .inl wf_20))] H := va_P.sub hP [0, 1, 2, 3, 4, 5, 6, 7, 8] rfl
                have hD : va_D A [(b0, .inr (3, [.ref b1, .ref b2, .ref b3, .ref b4, .ref b5, .ref b6, .int bn])), (b1, .inl (G.2 0, 40, .inl kf)), (b2, .inl (G.2 0, 40, .inl ff)), (b3, .inl (G.2 0, 40, .inl sf)), (b4, .inl (G.2 0, 40, .inl df)), (b5, .inl (G.2 1, 40, .inr (.inl pf))), (b6, .inl (G.2 1, 6, .inr (.inl gf))), (wb, .inr (1, [.ref wv_20, .int (0 : Int32), .int (0 : Int32), .int wc_20])), (wv_20, .inl (G.2 2, wn_20, .inl wf_20))] := hD.sub [0, 1, 2, 3, 4, 5, 6, 7, 8] (by decide) rfl
                refine lv_pop hx hb dX0_write_145 rfl ?_
                refine lv_goto (tgt := 179) hx hb dX0_write_146 (by decide) ?_
                obtain ⟨⟨hw1, hw2⟩, h⟩ := h
                refine W.widen (k := mcb) (n := msb) hw1 hw2 ?_
                subst hQC; exact W.vret hx hb hr (fun t ht hW => ⟨⟨(wc_20, wn_20, wf_20), rfl, h, wv_20, by rw [ht]; exact hP, hD⟩, hS.F ht⟩) hS.2.2 dX0_write_179
        · have h := h.2 hc
          refine lv_aload_n hx hb dX0_write_62 rfl (lv_at hl 5 rfl) ?_
          refine lv_bipush (v := 45) hx hb dX0_write_63 (by decide) ?_
          obtain ⟨b_41, b_42, h⟩ := h
          obtain ⟨⟨hq_41, hq_42⟩, h⟩ := h
          have hPc := va_P.sub (ws' := [(wb, .inr (1, [.ref wv, .int (0 : Int32), .int (0 : Int32), .int wc])), (wv, .inl (G.2 2, wn, .inl wf))]) hP [7, 8] rfl
          have hDc := hD.sub (ws' := [(wb, .inr (1, [.ref wv, .int (0 : Int32), .int (0 : Int32), .int wc])), (wv, .inl (G.2 2, wn, .inl wf))]) [7, 8] (by decide) rfl
          have hFc := va_free (wc := [(wb, .inr (1, [.ref wv, .int (0 : Int32), .int (0 : Int32), .int wc])), (wv, .inl (G.2 2, wn, .inl wf))]) hD hS hA [7, 8] rfl
          have hJc := (hJ.kept hS.2.1).narrow hFc
          refine va_callr (va_runV (C := RJ4) (As := [.int (45 : Int32)]) (rest := []) ⟨hx, hb, hml, hown, hts⟩ (knJ4_append_cf468 l G wb wv wc wn wf b_41 b_42 (45 : Int32) _ h) (cwV 1 hts (gdV q711 q712 q713 q25 q714) rfl rfl rfl (by decide +kernel) ⟨(by show 5 + 1 ≤ 6 + (nR + 1); omega), (by show 8 + (2 + 11) + 129 ≤ 152 + (nR + 1) * 26; omega)⟩) (preVwj hPc hKK hDc hJc (va_recv hK hPc (ci := 1) (q0 := 0) rfl rfl)) rfl rfl hl.1 rfl (lv_room (Nat.le_of_ble_eq_true rfl)) dX0_write_65 ⟨hq_41, hq_42⟩) hS (fun q _ h => hFc q h) hFc (fun u ra t H1 locs ht hvm h hB hz1 hk1 hS => ?_)
          obtain ⟨wc_21, wn_21, wf_21⟩ := u
          obtain ⟨era, hB⟩ := hB
          rw [era]
          obtain ⟨wv_21, hB⟩ := hB
          obtain ⟨hP1, hD1⟩ := hB
          rw [ht] at hP1
          obtain ⟨hP, hD⟩ := va_join (wr := [(b0, .inr (3, [.ref b1, .ref b2, .ref b3, .ref b4, .ref b5, .ref b6, .int bn])), (b1, .inl (G.2 0, 40, .inl kf)), (b2, .inl (G.2 0, 40, .inl ff)), (b3, .inl (G.2 0, 40, .inl sf)), (b4, .inl (G.2 0, 40, .inl df)), (b5, .inl (G.2 1, 40, .inr (.inl pf))), (b6, .inl (G.2 1, 6, .inr (.inl gf)))]) (w1 := [(wb, .inr (1, [.ref wv_21, .int (0 : Int32), .int (0 : Int32), .int wc_21])), (wv_21, .inl (G.2 2, wn_21, .inl wf_21))]) hP hD [7, 8] [0, 1, 2, 3, 4, 5, 6] rfl rfl (by decide) (by decide) hk1 hFc hP1 hD1
          generalize H1 = H at hP hS ⊢
          have hP : PP G [(b0, .inr (3, [.ref b1, .ref b2, .ref b3, .ref b4, .ref b5, .ref b6, .int bn])), (b1, .inl (G.2 0, 40, .inl kf)), (b2, .inl (G.2 0, 40, .inl ff)), (b3, .inl (G.2 0, 40, .inl sf)), (b4, .inl (G.2 0, 40, .inl df)), (b5, .inl (G.2 1, 40, .inr (.inl pf))), (b6, .inl (G.2 1, 6, .inr (.inl gf))), (wb, .inr (1, [.ref wv_21, .int (0 : Int32), .int (0 : Int32), .int wc_21])), (wv_21, .inl (G.2 2, wn_21, .inl wf_21))] H := va_P.sub hP [0, 1, 2, 3, 4, 5, 6, 7, 8] rfl
          have hD : va_D A [(b0, .inr (3, [.ref b1, .ref b2, .ref b3, .ref b4, .ref b5, .ref b6, .int bn])), (b1, .inl (G.2 0, 40, .inl kf)), (b2, .inl (G.2 0, 40, .inl ff)), (b3, .inl (G.2 0, 40, .inl sf)), (b4, .inl (G.2 0, 40, .inl df)), (b5, .inl (G.2 1, 40, .inr (.inl pf))), (b6, .inl (G.2 1, 6, .inr (.inl gf))), (wb, .inr (1, [.ref wv_21, .int (0 : Int32), .int (0 : Int32), .int wc_21])), (wv_21, .inl (G.2 2, wn_21, .inl wf_21))] := hD.sub [0, 1, 2, 3, 4, 5, 6, 7, 8] (by decide) rfl
          refine lv_pop hx hb dX0_write_68 rfl ?_
          refine lv_aload_n hx hb dX0_write_69 rfl (lv_at hl 3 rfl) ?_
          refine lv_iload hx hb dX0_write_70 (lv_at hl 1 rfl) ?_
          refine lv_aload_n hx hb dX0_write_72 rfl (lv_at hl 5 rfl) ?_
          refine lv_iload_n hx hb dX0_write_73 rfl (lv_at hl 6 rfl) ?_
          refine lv_iconst (v := 1) hx hb dX0_write_74 (by decide) ?_
          refine lv_iadd hx hb dX0_write_75 ?_
          obtain ⟨b_43, b_44, h⟩ := h
          obtain ⟨⟨hq_43, hq_44⟩, h⟩ := h
          have hPc := hP
          have hDc := hD.sub (ws' := [(b0, .inr (3, [.ref b1, .ref b2, .ref b3, .ref b4, .ref b5, .ref b6, .int bn])), (b1, .inl (G.2 0, 40, .inl kf)), (b2, .inl (G.2 0, 40, .inl ff)), (b3, .inl (G.2 0, 40, .inl sf)), (b4, .inl (G.2 0, 40, .inl df)), (b5, .inl (G.2 1, 40, .inr (.inl pf))), (b6, .inl (G.2 1, 6, .inr (.inl gf))), (wb, .inr (1, [.ref wv_21, .int (0 : Int32), .int (0 : Int32), .int wc_21])), (wv_21, .inl (G.2 2, wn_21, .inl wf_21))]) [0, 1, 2, 3, 4, 5, 6, 7, 8] (by decide) rfl
          have hFc := va_free (wc := [(b0, .inr (3, [.ref b1, .ref b2, .ref b3, .ref b4, .ref b5, .ref b6, .int bn])), (b1, .inl (G.2 0, 40, .inl kf)), (b2, .inl (G.2 0, 40, .inl ff)), (b3, .inl (G.2 0, 40, .inl sf)), (b4, .inl (G.2 0, 40, .inl df)), (b5, .inl (G.2 1, 40, .inr (.inl pf))), (b6, .inl (G.2 1, 6, .inr (.inl gf))), (wb, .inr (1, [.ref wv_21, .int (0 : Int32), .int (0 : Int32), .int wc_21])), (wv_21, .inl (G.2 2, wn_21, .inl wf_21))]) hD hS hA [0, 1, 2, 3, 4, 5, 6, 7, 8] rfl
          have hJc := (hJ.kept hS.2.1).narrow hFc
          refine va_callv (va_runS (As := [.ref b0, .int r_3, .ref wb, .int (p3 + (1 : Int32))]) (rest := []) ⟨hx, hb, hml, hown, hts⟩ (ih l G b0 b1 b2 b3 b4 b5 b6 wb wv_21 kf ff sf df pf gf bn wc_21 wn_21 wf_21 b_43 b_44 r_3 (p3 + (1 : Int32)) _ h) (va_cwS 4 hts (gdS q705 q706 q2 q707) rfl rfl rfl (by decide +kernel) ⟨(by show 6 + nR + 1 ≤ 6 + (nR + 1); omega), (by show 8 + (7 + 11) + (152 + nR * 26) ≤ 152 + (nR + 1) * 26; omega)⟩) (preSwj hPc hKK hDc hJc) rfl rfl hl.1 rfl (lv_room (Nat.le_of_ble_eq_true rfl)) dX0_write_76 ⟨hq_43, hq_44⟩) hS (fun q _ h => hFc q h) hFc (fun u t H1 locs ht hvm h hB hz1 hk1 hS => ?_)
          obtain ⟨wc_22, wn_22, wf_22⟩ := u
          obtain ⟨wv_22, hB⟩ := hB
          obtain ⟨hP1, hD1⟩ := hB
          rw [ht] at hP1
          have hP := hP1
          have hD : va_D A [(b0, .inr (3, [.ref b1, .ref b2, .ref b3, .ref b4, .ref b5, .ref b6, .int bn])), (b1, .inl (G.2 0, 40, .inl kf)), (b2, .inl (G.2 0, 40, .inl ff)), (b3, .inl (G.2 0, 40, .inl sf)), (b4, .inl (G.2 0, 40, .inl df)), (b5, .inl (G.2 1, 40, .inr (.inl pf))), (b6, .inl (G.2 1, 6, .inr (.inl gf))), (wb, .inr (1, [.ref wv_22, .int (0 : Int32), .int (0 : Int32), .int wc_22])), (wv_22, .inl (G.2 2, wn_22, .inl wf_22))] := hD1.weaken (fun _ _ _ h => hFc _ h)
          generalize H1 = H at hP hS ⊢
          have hP : PP G [(b0, .inr (3, [.ref b1, .ref b2, .ref b3, .ref b4, .ref b5, .ref b6, .int bn])), (b1, .inl (G.2 0, 40, .inl kf)), (b2, .inl (G.2 0, 40, .inl ff)), (b3, .inl (G.2 0, 40, .inl sf)), (b4, .inl (G.2 0, 40, .inl df)), (b5, .inl (G.2 1, 40, .inr (.inl pf))), (b6, .inl (G.2 1, 6, .inr (.inl gf))), (wb, .inr (1, [.ref wv_22, .int (0 : Int32), .int (0 : Int32), .int wc_22])), (wv_22, .inl (G.2 2, wn_22, .inl wf_22))] H := hP
          refine lv_goto (tgt := 179) hx hb dX0_write_79 (by decide) ?_
          obtain ⟨⟨hw1, hw2⟩, h⟩ := h
          refine W.widen (k := mcb) (n := msb) hw1 hw2 ?_
          subst hQC; exact W.vret hx hb hr (fun t ht hW => ⟨⟨(wc_22, wn_22, wf_22), rfl, h, wv_22, by rw [ht]; exact hP, hD⟩, hS.F ht⟩) hS.2.2 dX0_write_179
      · have h := h.2 hc
        refine lv_aload_n hx hb dX0_write_41 rfl (lv_at hl 5 rfl) ?_
        refine lv_bipush (v := 112) hx hb dX0_write_42 (by decide) ?_
        obtain ⟨b_45, b_46, h⟩ := h
        obtain ⟨⟨hq_45, hq_46⟩, h⟩ := h
        have hPc := va_P.sub (ws' := [(wb, .inr (1, [.ref wv, .int (0 : Int32), .int (0 : Int32), .int wc])), (wv, .inl (G.2 2, wn, .inl wf))]) hP [7, 8] rfl
        have hDc := hD.sub (ws' := [(wb, .inr (1, [.ref wv, .int (0 : Int32), .int (0 : Int32), .int wc])), (wv, .inl (G.2 2, wn, .inl wf))]) [7, 8] (by decide) rfl
        have hFc := va_free (wc := [(wb, .inr (1, [.ref wv, .int (0 : Int32), .int (0 : Int32), .int wc])), (wv, .inl (G.2 2, wn, .inl wf))]) hD hS hA [7, 8] rfl
        have hJc := (hJ.kept hS.2.1).narrow hFc
        refine va_callr (va_runV (C := RJ4) (As := [.int (112 : Int32)]) (rest := []) ⟨hx, hb, hml, hown, hts⟩ (knJ4_append_cf468 l G wb wv wc wn wf b_45 b_46 (112 : Int32) _ h) (cwV 1 hts (gdV q711 q712 q713 q25 q714) rfl rfl rfl (by decide +kernel) ⟨(by show 5 + 1 ≤ 6 + (nR + 1); omega), (by show 8 + (2 + 11) + 129 ≤ 152 + (nR + 1) * 26; omega)⟩) (preVwj hPc hKK hDc hJc (va_recv hK hPc (ci := 1) (q0 := 0) rfl rfl)) rfl rfl hl.1 rfl (lv_room (Nat.le_of_ble_eq_true rfl)) dX0_write_44 ⟨hq_45, hq_46⟩) hS (fun q _ h => hFc q h) hFc (fun u ra t H1 locs ht hvm h hB hz1 hk1 hS => ?_)
        obtain ⟨wc_23, wn_23, wf_23⟩ := u
        obtain ⟨era, hB⟩ := hB
        rw [era]
        obtain ⟨wv_23, hB⟩ := hB
        obtain ⟨hP1, hD1⟩ := hB
        rw [ht] at hP1
        obtain ⟨hP, hD⟩ := va_join (wr := [(b0, .inr (3, [.ref b1, .ref b2, .ref b3, .ref b4, .ref b5, .ref b6, .int bn])), (b1, .inl (G.2 0, 40, .inl kf)), (b2, .inl (G.2 0, 40, .inl ff)), (b3, .inl (G.2 0, 40, .inl sf)), (b4, .inl (G.2 0, 40, .inl df)), (b5, .inl (G.2 1, 40, .inr (.inl pf))), (b6, .inl (G.2 1, 6, .inr (.inl gf)))]) (w1 := [(wb, .inr (1, [.ref wv_23, .int (0 : Int32), .int (0 : Int32), .int wc_23])), (wv_23, .inl (G.2 2, wn_23, .inl wf_23))]) hP hD [7, 8] [0, 1, 2, 3, 4, 5, 6] rfl rfl (by decide) (by decide) hk1 hFc hP1 hD1
        generalize H1 = H at hP hS ⊢
        have hP : PP G [(b0, .inr (3, [.ref b1, .ref b2, .ref b3, .ref b4, .ref b5, .ref b6, .int bn])), (b1, .inl (G.2 0, 40, .inl kf)), (b2, .inl (G.2 0, 40, .inl ff)), (b3, .inl (G.2 0, 40, .inl sf)), (b4, .inl (G.2 0, 40, .inl df)), (b5, .inl (G.2 1, 40, .inr (.inl pf))), (b6, .inl (G.2 1, 6, .inr (.inl gf))), (wb, .inr (1, [.ref wv_23, .int (0 : Int32), .int (0 : Int32), .int wc_23])), (wv_23, .inl (G.2 2, wn_23, .inl wf_23))] H := va_P.sub hP [0, 1, 2, 3, 4, 5, 6, 7, 8] rfl
        have hD : va_D A [(b0, .inr (3, [.ref b1, .ref b2, .ref b3, .ref b4, .ref b5, .ref b6, .int bn])), (b1, .inl (G.2 0, 40, .inl kf)), (b2, .inl (G.2 0, 40, .inl ff)), (b3, .inl (G.2 0, 40, .inl sf)), (b4, .inl (G.2 0, 40, .inl df)), (b5, .inl (G.2 1, 40, .inr (.inl pf))), (b6, .inl (G.2 1, 6, .inr (.inl gf))), (wb, .inr (1, [.ref wv_23, .int (0 : Int32), .int (0 : Int32), .int wc_23])), (wv_23, .inl (G.2 2, wn_23, .inl wf_23))] := hD.sub [0, 1, 2, 3, 4, 5, 6, 7, 8] (by decide) rfl
        refine lv_iload hx hb dX0_write_47 (lv_at hl 1 rfl) ?_
        obtain ⟨b_47, b_48, h⟩ := h
        obtain ⟨⟨hq_47, hq_48⟩, h⟩ := h
        have hPc := va_P.sub (ws' := [(wb, .inr (1, [.ref wv_23, .int (0 : Int32), .int (0 : Int32), .int wc_23])), (wv_23, .inl (G.2 2, wn_23, .inl wf_23))]) hP [7, 8] rfl
        have hDc := hD.sub (ws' := [(wb, .inr (1, [.ref wv_23, .int (0 : Int32), .int (0 : Int32), .int wc_23])), (wv_23, .inl (G.2 2, wn_23, .inl wf_23))]) [7, 8] (by decide) rfl
        have hFc := va_free (wc := [(wb, .inr (1, [.ref wv_23, .int (0 : Int32), .int (0 : Int32), .int wc_23])), (wv_23, .inl (G.2 2, wn_23, .inl wf_23))]) hD hS hA [7, 8] rfl
        have hJc := (hJ.kept hS.2.1).narrow hFc
        refine va_callr (va_runV (C := RJ4) (As := [.int r_3]) (rest := []) ⟨hx, hb, hml, hown, hts⟩ (knJ4_append_bf812 l G wb wv_23 wc_23 wn_23 wf_23 b_47 b_48 r_3 _ h) (cwV 1 hts (gdV q802 q803 q804 q25 q805) rfl rfl rfl (by decide +kernel) ⟨(by show 5 + 1 ≤ 6 + (nR + 1); omega), (by show 8 + (2 + 11) + 131 ≤ 152 + (nR + 1) * 26; omega)⟩) (preVwj hPc hKK hDc hJc (va_recv hK hPc (ci := 1) (q0 := 0) rfl rfl)) rfl rfl hl.1 rfl (lv_room (Nat.le_of_ble_eq_true rfl)) dX0_write_49 ⟨hq_47, hq_48⟩) hS (fun q _ h => hFc q h) hFc (fun u ra t H1 locs ht hvm h hB hz1 hk1 hS => ?_)
        obtain ⟨wc_24, wn_24, wf_24⟩ := u
        obtain ⟨era, hB⟩ := hB
        rw [era]
        obtain ⟨wv_24, hB⟩ := hB
        obtain ⟨hP1, hD1⟩ := hB
        rw [ht] at hP1
        obtain ⟨hP, hD⟩ := va_join (wr := [(b0, .inr (3, [.ref b1, .ref b2, .ref b3, .ref b4, .ref b5, .ref b6, .int bn])), (b1, .inl (G.2 0, 40, .inl kf)), (b2, .inl (G.2 0, 40, .inl ff)), (b3, .inl (G.2 0, 40, .inl sf)), (b4, .inl (G.2 0, 40, .inl df)), (b5, .inl (G.2 1, 40, .inr (.inl pf))), (b6, .inl (G.2 1, 6, .inr (.inl gf)))]) (w1 := [(wb, .inr (1, [.ref wv_24, .int (0 : Int32), .int (0 : Int32), .int wc_24])), (wv_24, .inl (G.2 2, wn_24, .inl wf_24))]) hP hD [7, 8] [0, 1, 2, 3, 4, 5, 6] rfl rfl (by decide) (by decide) hk1 hFc hP1 hD1
        generalize H1 = H at hP hS ⊢
        have hP : PP G [(b0, .inr (3, [.ref b1, .ref b2, .ref b3, .ref b4, .ref b5, .ref b6, .int bn])), (b1, .inl (G.2 0, 40, .inl kf)), (b2, .inl (G.2 0, 40, .inl ff)), (b3, .inl (G.2 0, 40, .inl sf)), (b4, .inl (G.2 0, 40, .inl df)), (b5, .inl (G.2 1, 40, .inr (.inl pf))), (b6, .inl (G.2 1, 6, .inr (.inl gf))), (wb, .inr (1, [.ref wv_24, .int (0 : Int32), .int (0 : Int32), .int wc_24])), (wv_24, .inl (G.2 2, wn_24, .inl wf_24))] H := va_P.sub hP [0, 1, 2, 3, 4, 5, 6, 7, 8] rfl
        have hD : va_D A [(b0, .inr (3, [.ref b1, .ref b2, .ref b3, .ref b4, .ref b5, .ref b6, .int bn])), (b1, .inl (G.2 0, 40, .inl kf)), (b2, .inl (G.2 0, 40, .inl ff)), (b3, .inl (G.2 0, 40, .inl sf)), (b4, .inl (G.2 0, 40, .inl df)), (b5, .inl (G.2 1, 40, .inr (.inl pf))), (b6, .inl (G.2 1, 6, .inr (.inl gf))), (wb, .inr (1, [.ref wv_24, .int (0 : Int32), .int (0 : Int32), .int wc_24])), (wv_24, .inl (G.2 2, wn_24, .inl wf_24))] := hD.sub [0, 1, 2, 3, 4, 5, 6, 7, 8] (by decide) rfl
        refine lv_pop hx hb dX0_write_52 rfl ?_
        refine lv_goto (tgt := 179) hx hb dX0_write_53 (by decide) ?_
        obtain ⟨⟨hw1, hw2⟩, h⟩ := h
        refine W.widen (k := mcb) (n := msb) hw1 hw2 ?_
        subst hQC; exact W.vret hx hb hr (fun t ht hW => ⟨⟨(wc_24, wn_24, wf_24), rfl, h, wv_24, by rw [ht]; exact hP, hD⟩, hS.F ht⟩) hS.2.2 dX0_write_179
    · have h := h.2 hc
      refine W.widen (k := mcb) (n := msb) (Nat.zero_le _) (Nat.zero_le _) ?_
      subst hQC; exact W.vret hx hb hr (fun t ht hW => ⟨⟨(wc, wn, wf), rfl, h, wv, by rw [ht]; exact hP, hD⟩, hS.F ht⟩) hS.2.2 dX0_write_14
theorem dX0_signsOf_0 : decode cX0_signsOf 0 = .ok (.aload_n 0, 1) := by decide +kernel
theorem dX0_signsOf_1 : decode cX0_signsOf 1 = .ok (.iload_n 1, 1) := by decide +kernel
theorem dX0_signsOf_2 : decode cX0_signsOf 2 = .ok (.invokevirtual 59, 3) := by decide +kernel
theorem dX0_signsOf_5 : decode cX0_signsOf 5 = .ok (.bipush 6, 2) := by decide +kernel
theorem dX0_signsOf_7 : decode cX0_signsOf 7 = .ok (.if_icmp .le 6, 3) := by decide +kernel
theorem dX0_signsOf_10 : decode cX0_signsOf 10 = .ok (.ldc 77, 2) := by decide +kernel
theorem dX0_signsOf_12 : decode cX0_signsOf 12 = .ok (.areturn, 1) := by decide +kernel
theorem dX0_signsOf_13 : decode cX0_signsOf 13 = .ok (.new 79, 3) := by decide +kernel
theorem dX0_signsOf_16 : decode cX0_signsOf 16 = .ok (.dup, 1) := by decide +kernel
theorem dX0_signsOf_17 : decode cX0_signsOf 17 = .ok (.invokespecial 81, 3) := by decide +kernel
theorem dX0_signsOf_20 : decode cX0_signsOf 20 = .ok (.astore_n 2, 1) := by decide +kernel
theorem dX0_signsOf_21 : decode cX0_signsOf 21 = .ok (.aload_n 0, 1) := by decide +kernel
theorem dX0_signsOf_22 : decode cX0_signsOf 22 = .ok (.iload_n 1, 1) := by decide +kernel
theorem dX0_signsOf_23 : decode cX0_signsOf 23 = .ok (.aload_n 2, 1) := by decide +kernel
theorem dX0_signsOf_24 : decode cX0_signsOf 24 = .ok (.iconst 0, 1) := by decide +kernel
theorem dX0_signsOf_25 : decode cX0_signsOf 25 = .ok (.invokestatic 82, 3) := by decide +kernel
theorem dX0_signsOf_28 : decode cX0_signsOf 28 = .ok (.aload_n 2, 1) := by decide +kernel
theorem dX0_signsOf_29 : decode cX0_signsOf 29 = .ok (.invokevirtual 86, 3) := by decide +kernel
theorem dX0_signsOf_32 : decode cX0_signsOf 32 = .ok (.areturn, 1) := by decide +kernel
def wnX0_signsOf (post : Unit → Prop) (kf : Nat → Int32) (ff : Nat → Int32) (sf : Nat → Int32) (df : Nat → Int32) (pf : Nat → Int64) (gf : Nat → Int64) (bn : Int32) (mcb : Nat) (msb : Nat) (p1 : Int32) : Prop :=
  wX0_builtDeep (fun r_1 : Int32 =>
    ((r_1 ≤ (6 : Int32)) →
      ((0 + 1) ≤ mcb ∧ (0 + 4) ≤ msb) ∧
      (((0 + 1) + 1) ≤ mcb ∧ ((0 + 4) + 16) ≤ msb) ∧
      wnJ4_init_da8c8 (fun (a_1 : Nat) =>
        ∃ b_1 b_2 : Nat,
        ((((0 + 1) + 1) + b_1) ≤ mcb ∧ (((0 + 4) + 16) + b_2) ≤ msb) ∧
        ∃ nR, nR ≤ 41 ∧
        wnX0_write nR (fun (z_1 : Int32 × Nat × (Nat → Int32)) =>
          ∃ b_3 b_4 : Nat,
          (((((0 + 1) + 1) + b_1) + b_3) ≤ mcb ∧ ((((0 + 4) + 16) + b_2) + b_4) ≤ msb) ∧
          wnJ4_toString_0e30d (fun (z_2 : Nat × (Nat → Int32)) =>
            (((((0 + 1) + 1) + b_1) + b_3) ≤ mcb ∧ ((((0 + 4) + 16) + b_2) + b_4) ≤ msb) ∧
            post ()
            ) z_1.1 z_1.2.1 z_1.2.2 b_3 b_4
          ) kf ff sf df pf gf bn (0 : Int32) (16) (fun _ => (0 : Int32)) b_1 b_2 p1 (0 : Int32)
        ) 
    ) ∧ (¬ (r_1 ≤ (6 : Int32)) →
      post ()
    )
    ) df bn p1
abbrev wl_nX0_signsOf : List Cond := .code yX0_signsOf cX0_signsOf 3 (some (.object "java/lang/String")) :: lwg
abbrev rm_nX0_signsOf (mcb msb : Nat) : Room := { frames := 48, cells := mcb, slots := msb, locals := 1244 }
set_option maxHeartbeats 4000000 in
set_option maxRecDepth 100000 in
theorem knX0_signsOf {post : Unit → Prop} (l : Launch) (G : GT) (b0 : Nat) (b1 : Nat) (b2 : Nat) (b3 : Nat) (b4 : Nat) (b5 : Nat) (b6 : Nat) (kf : Nat → Int32) (ff : Nat → Int32) (sf : Nat → Int32) (df : Nat → Int32) (pf : Nat → Int64) (gf : Nat → Int64) (bn : Int32) (mcb : Nat) (msb : Nat) (p1 : Int32) (sz : Nat) (h : wnX0_signsOf post kf ff sf df pf gf bn mcb msb p1) : Met l yX0_signsOf wl_nX0_signsOf (rm_nX0_signsOf mcb msb) (va_Pc [.ref b0, .int p1] (fun U => U.heap.size = sz ∧ PP G [(b0, .inr (3, [.ref b1, .ref b2, .ref b3, .ref b4, .ref b5, .ref b6, .int bn])), (b1, .inl (G.2 0, 40, .inl kf)), (b2, .inl (G.2 0, 40, .inl ff)), (b3, .inl (G.2 0, 40, .inl sf)), (b4, .inl (G.2 0, 40, .inl df)), (b5, .inl (G.2 1, 40, .inr (.inl pf))), (b6, .inl (G.2 1, 6, .inr (.inl gf)))] U.heap ∧ KK G U ∧ va_D (fun _ => True) [(b0, .inr (3, [.ref b1, .ref b2, .ref b3, .ref b4, .ref b5, .ref b6, .int bn])), (b1, .inl (G.2 0, 40, .inl kf)), (b2, .inl (G.2 0, 40, .inl ff)), (b3, .inl (G.2 0, 40, .inl sf)), (b4, .inl (G.2 0, 40, .inl df)), (b5, .inl (G.2 1, 40, .inr (.inl pf))), (b6, .inl (G.2 1, 6, .inr (.inl gf)))] ∧ JJ G (va_A [(b0, .inr (3, [.ref b1, .ref b2, .ref b3, .ref b4, .ref b5, .ref b6, .int bn])), (b1, .inl (G.2 0, 40, .inl kf)), (b2, .inl (G.2 0, 40, .inl ff)), (b3, .inl (G.2 0, 40, .inl sf)), (b4, .inl (G.2 0, 40, .inl df)), (b5, .inl (G.2 1, 40, .inr (.inl pf))), (b6, .inl (G.2 1, 6, .inr (.inl gf)))] sz) U U.heap)) (va_Qr post (fun u ra t => PP G [(b0, .inr (3, [.ref b1, .ref b2, .ref b3, .ref b4, .ref b5, .ref b6, .int bn])), (b1, .inl (G.2 0, 40, .inl kf)), (b2, .inl (G.2 0, 40, .inl ff)), (b3, .inl (G.2 0, 40, .inl sf)), (b4, .inl (G.2 0, 40, .inl df)), (b5, .inl (G.2 1, 40, .inr (.inl pf))), (b6, .inl (G.2 1, 6, .inr (.inl gf)))] t.heap ∧ va_D (va_A [(b0, .inr (3, [.ref b1, .ref b2, .ref b3, .ref b4, .ref b5, .ref b6, .int bn])), (b1, .inl (G.2 0, 40, .inl kf)), (b2, .inl (G.2 0, 40, .inl ff)), (b3, .inl (G.2 0, 40, .inl sf)), (b4, .inl (G.2 0, 40, .inl df)), (b5, .inl (G.2 1, 40, .inr (.inl pf))), (b6, .inl (G.2 1, 6, .inr (.inl gf)))] sz) [(b0, .inr (3, [.ref b1, .ref b2, .ref b3, .ref b4, .ref b5, .ref b6, .int bn])), (b1, .inl (G.2 0, 40, .inl kf)), (b2, .inl (G.2 0, 40, .inl ff)), (b3, .inl (G.2 0, 40, .inl sf)), (b4, .inl (G.2 0, 40, .inl df)), (b5, .inl (G.2 1, 40, .inr (.inl pf))), (b6, .inl (G.2 1, 6, .inr (.inl gf)))]) (va_A [(b0, .inr (3, [.ref b1, .ref b2, .ref b3, .ref b4, .ref b5, .ref b6, .int bn])), (b1, .inl (G.2 0, 40, .inl kf)), (b2, .inl (G.2 0, 40, .inl ff)), (b3, .inl (G.2 0, 40, .inl sf)), (b4, .inl (G.2 0, 40, .inl df)), (b5, .inl (G.2 1, 40, .inr (.inl pf))), (b6, .inl (G.2 1, 6, .inr (.inl gf)))] sz)) mcb msb (va_A [(b0, .inr (3, [.ref b1, .ref b2, .ref b3, .ref b4, .ref b5, .ref b6, .int bn])), (b1, .inl (G.2 0, 40, .inl kf)), (b2, .inl (G.2 0, 40, .inl ff)), (b3, .inl (G.2 0, 40, .inl sf)), (b4, .inl (G.2 0, 40, .inl df)), (b5, .inl (G.2 1, 40, .inr (.inl pf))), (b6, .inl (G.2 1, 6, .inr (.inl gf)))] sz) := by
  refine Met.ofW (cc := cX0_signsOf) (maxL := 3) (ret := (some (.object "java/lang/String"))) (by decide) rfl ?_
  intro p e s m args below meth c s₁ B hml hv
  obtain ⟨rfl, hsz, hP, hKK, hD0, hJ⟩ := hv
  obtain ⟨hK, hN, hR, hFW, hNC⟩ := id hKK
  have hx := B.exec
  have hb := B.bytes
  have hr := B.returns
  have hts0 := atoms_spec (ws := wl_nX0_signsOf) B.pre
  have hts : ∀ w ∈ lwg, w.before ([.ref b0, .int p1] : List Value).toArray s = true := fun w hw => hts0 w (List.mem_cons_of_mem _ hw)
  have hown : s.vm.findClass RX0 = some m.cls := findClass_of_methodNamed B.named
  have hlocks := B.notSynchronized
  subst hsz
  have hD := hD0.self (sz := s.heap.size)
  generalize hAe : va_A [(b0, .inr (3, [.ref b1, .ref b2, .ref b3, .ref b4, .ref b5, .ref b6, .int bn])), (b1, .inl (G.2 0, 40, .inl kf)), (b2, .inl (G.2 0, 40, .inl ff)), (b3, .inl (G.2 0, 40, .inl sf)), (b4, .inl (G.2 0, 40, .inl df)), (b5, .inl (G.2 1, 40, .inr (.inl pf))), (b6, .inl (G.2 1, 6, .inr (.inl gf)))] s.heap.size = A at hD hJ ⊢
  have hA : ∀ q : Nat, s.heap.size ≤ q → A q := fun q h => by rw [← hAe]; exact Or.inr h
  have hS : va_S A s.heap s.heap [] := va_S.rf
  obtain ⟨QC, hQC⟩ : ∃ Z, Z = (va_Qr post (fun u ra t => PP G [(b0, .inr (3, [.ref b1, .ref b2, .ref b3, .ref b4, .ref b5, .ref b6, .int bn])), (b1, .inl (G.2 0, 40, .inl kf)), (b2, .inl (G.2 0, 40, .inl ff)), (b3, .inl (G.2 0, 40, .inl sf)), (b4, .inl (G.2 0, 40, .inl df)), (b5, .inl (G.2 1, 40, .inr (.inl pf))), (b6, .inl (G.2 1, 6, .inr (.inl gf)))] t.heap ∧ va_D A [(b0, .inr (3, [.ref b1, .ref b2, .ref b3, .ref b4, .ref b5, .ref b6, .int bn])), (b1, .inl (G.2 0, 40, .inl kf)), (b2, .inl (G.2 0, 40, .inl ff)), (b3, .inl (G.2 0, 40, .inl sf)), (b4, .inl (G.2 0, 40, .inl df)), (b5, .inl (G.2 1, 40, .inr (.inl pf))), (b6, .inl (G.2 1, 6, .inr (.inl gf)))]) A) := ⟨_, rfl⟩
  rw [← hQC]
  obtain ⟨jE, hjE⟩ := hJ.2.1
  obtain ⟨jT, hjT1, hjT2⟩ := hJ.2.2.1
  obtain ⟨jO, hjO1, hjO2⟩ := hJ.2.2.2.1
  obtain ⟨jS, hjS⟩ := hJ.2.2.2.2.1
  have hP : PP G [(b0, .inr (3, [.ref b1, .ref b2, .ref b3, .ref b4, .ref b5, .ref b6, .int bn])), (b1, .inl (G.2 0, 40, .inl kf)), (b2, .inl (G.2 0, 40, .inl ff)), (b3, .inl (G.2 0, 40, .inl sf)), (b4, .inl (G.2 0, 40, .inl df)), (b5, .inl (G.2 1, 40, .inr (.inl pf))), (b6, .inl (G.2 1, 6, .inr (.inl gf)))] s.heap := hP
  have hl := lv_entry ([.ref b0, .int p1]) (n := 3) (Nat.le_of_ble_eq_true rfl)
  rw [lg_entry_eq]
  generalize (lg_sl ([.ref b0, .int p1]) ++ List.replicate (3 - (lg_sl ([.ref b0, .int p1])).length) Slot.unset).toArray = ls at hl ⊢
  have hl : lv_has ls 3 [(0, .ref b0), (1, .int p1)] := hl
  refine lv_aload_n hx hb dX0_signsOf_0 rfl (lv_at hl 0 rfl) ?_
  refine lv_iload_n hx hb dX0_signsOf_1 rfl (lv_at hl 1 rfl) ?_
  have hPc := hP
  refine rdI (va_runV (C := RX0) (As := [.int p1]) (rest := []) ⟨hx, hb, hml, hown, hts⟩ (kX0_builtDeep l G b0 b1 b2 b3 b4 b5 b6 kf ff sf df pf gf bn p1 h) (cwV 1 hts (gdV q560 q428 q429 q2 q430) rfl rfl rfl (by decide +kernel) ⟨Nat.le_of_ble_eq_true rfl, Nat.le_of_ble_eq_true rfl⟩) (preV hPc hKK (va_recv hK hPc (ci := 3) (q0 := 0) rfl rfl)) rfl rfl hl.1 rfl (lv_room (Nat.le_of_ble_eq_true rfl)) dX0_signsOf_2 ⟨Nat.zero_le _, Nat.zero_le _⟩) (fun r_1 h => ?_)
  refine lv_bipush (v := 6) hx hb dX0_signsOf_5 (by decide) ?_
  refine lv_icmp_le (tgt := 13) hx hb dX0_signsOf_7 (by decide) (fun hc => ?_) (fun hc => ?_)
  · have h := h.1 hc
    obtain ⟨⟨hq_1, hq_2⟩, h⟩ := h
    refine va_new (D := G.1) (ci := 1) (fs := [.null, .int (0 : Int32), .int (0 : Int32), .int (0 : Int32)]) (C := RJ4) (T := TJ4) (N := 4) hx hb hts igJ4 tyJ4 tyJ4_ok hown (hts _ q674) (hts _ q675) (hts _ q25) hK hP hD hS hA rfl (fun j hj => by rcases (show j = 0 ∨ j = 1 ∨ j = 2 ∨ j = 3 by omega) with rfl | rfl | rfl | rfl <;> rfl) hq_1 hq_2 dX0_signsOf_13 (fun q_1 H hP hD hS => ?_)
    have hP : PP G [(b0, .inr (3, [.ref b1, .ref b2, .ref b3, .ref b4, .ref b5, .ref b6, .int bn])), (b1, .inl (G.2 0, 40, .inl kf)), (b2, .inl (G.2 0, 40, .inl ff)), (b3, .inl (G.2 0, 40, .inl sf)), (b4, .inl (G.2 0, 40, .inl df)), (b5, .inl (G.2 1, 40, .inr (.inl pf))), (b6, .inl (G.2 1, 6, .inr (.inl gf))), (q_1, .inr (1, [.null, .int (0 : Int32), .int (0 : Int32), .int (0 : Int32)]))] H := hP
    have hD : va_D A [(b0, .inr (3, [.ref b1, .ref b2, .ref b3, .ref b4, .ref b5, .ref b6, .int bn])), (b1, .inl (G.2 0, 40, .inl kf)), (b2, .inl (G.2 0, 40, .inl ff)), (b3, .inl (G.2 0, 40, .inl sf)), (b4, .inl (G.2 0, 40, .inl df)), (b5, .inl (G.2 1, 40, .inr (.inl pf))), (b6, .inl (G.2 1, 6, .inr (.inl gf))), (q_1, .inr (1, [.null, .int (0 : Int32), .int (0 : Int32), .int (0 : Int32)]))] := hD
    refine lv_dup hx hb dX0_signsOf_16 rfl ?_
    obtain ⟨⟨hq_3, hq_4⟩, h⟩ := h
    have hPc := va_P.sub (ws' := [(q_1, .inr (1, [.null, .int (0 : Int32), .int (0 : Int32), .int (0 : Int32)]))]) hP [7] rfl
    have hDc := hD.sub (ws' := [(q_1, .inr (1, [.null, .int (0 : Int32), .int (0 : Int32), .int (0 : Int32)]))]) [7] (by decide) rfl
    have hFc := va_free (wc := [(q_1, .inr (1, [.null, .int (0 : Int32), .int (0 : Int32), .int (0 : Int32)]))]) hD hS hA [7] rfl
    have hJc := (hJ.kept hS.2.1).narrow hFc
    refine va_callv (va_runI (As := []) (rest := [.ref q_1]) ⟨hx, hb, hml, hown, hts⟩ (knJ4_init_da8c8 l G q_1 _ h) (cwI 0 hts (gdC q678) rfl rfl rfl (hts _ q25) (hts _ q676) (hts _ q677) rfl (by decide +kernel) ⟨Nat.le_of_ble_eq_true rfl, Nat.le_of_ble_eq_true rfl⟩) (preSwj hPc hKK hDc hJc) rfl rfl hl.1 rfl (lv_room (Nat.le_of_ble_eq_true rfl)) dX0_signsOf_17 ⟨hq_3, hq_4⟩) hS (fun q _ h => hFc q h) hFc (fun u t H1 locs ht hvm h hB hz1 hk1 hS => ?_)
    obtain ⟨a_1, rfl⟩ : ∃ z, z = u := ⟨_, rfl⟩
    obtain ⟨hP1, hD1⟩ := hB
    rw [ht] at hP1
    obtain ⟨hP, hD⟩ := va_join (wr := [(b0, .inr (3, [.ref b1, .ref b2, .ref b3, .ref b4, .ref b5, .ref b6, .int bn])), (b1, .inl (G.2 0, 40, .inl kf)), (b2, .inl (G.2 0, 40, .inl ff)), (b3, .inl (G.2 0, 40, .inl sf)), (b4, .inl (G.2 0, 40, .inl df)), (b5, .inl (G.2 1, 40, .inr (.inl pf))), (b6, .inl (G.2 1, 6, .inr (.inl gf)))]) (w1 := [(q_1, .inr (1, [.ref a_1, .int (0 : Int32), .int (0 : Int32), .int (0 : Int32)])), (a_1, .inl (G.2 2, 16, .inl (fun _ => (0 : Int32))))]) hP hD [7] [0, 1, 2, 3, 4, 5, 6] rfl rfl (by decide) (by decide) hk1 hFc hP1 hD1
    generalize H1 = H at hP hS ⊢
    have hP : PP G [(b0, .inr (3, [.ref b1, .ref b2, .ref b3, .ref b4, .ref b5, .ref b6, .int bn])), (b1, .inl (G.2 0, 40, .inl kf)), (b2, .inl (G.2 0, 40, .inl ff)), (b3, .inl (G.2 0, 40, .inl sf)), (b4, .inl (G.2 0, 40, .inl df)), (b5, .inl (G.2 1, 40, .inr (.inl pf))), (b6, .inl (G.2 1, 6, .inr (.inl gf))), (q_1, .inr (1, [.ref a_1, .int (0 : Int32), .int (0 : Int32), .int (0 : Int32)])), (a_1, .inl (G.2 2, 16, .inl (fun _ => (0 : Int32))))] H := va_P.sub hP [0, 1, 2, 3, 4, 5, 6, 7, 8] rfl
    have hD : va_D A [(b0, .inr (3, [.ref b1, .ref b2, .ref b3, .ref b4, .ref b5, .ref b6, .int bn])), (b1, .inl (G.2 0, 40, .inl kf)), (b2, .inl (G.2 0, 40, .inl ff)), (b3, .inl (G.2 0, 40, .inl sf)), (b4, .inl (G.2 0, 40, .inl df)), (b5, .inl (G.2 1, 40, .inr (.inl pf))), (b6, .inl (G.2 1, 6, .inr (.inl gf))), (q_1, .inr (1, [.ref a_1, .int (0 : Int32), .int (0 : Int32), .int (0 : Int32)])), (a_1, .inl (G.2 2, 16, .inl (fun _ => (0 : Int32))))] := hD.sub [0, 1, 2, 3, 4, 5, 6, 7, 8] (by decide) rfl
    refine lv_astore_n hx hb dX0_signsOf_20 rfl hl (Nat.le_of_ble_eq_true rfl) rfl (fun ls hl => ?_)
    have hl : lv_has ls 3 [(2, .ref q_1), (0, .ref b0), (1, .int p1)] := hl
    refine lv_aload_n hx hb dX0_signsOf_21 rfl (lv_at hl 1 rfl) ?_
    refine lv_iload_n hx hb dX0_signsOf_22 rfl (lv_at hl 2 rfl) ?_
    refine lv_aload_n hx hb dX0_signsOf_23 rfl (lv_at hl 0 rfl) ?_
    refine lv_iconst (v := 0) hx hb dX0_signsOf_24 (by decide) ?_
    obtain ⟨b_1, b_2, h⟩ := h
    obtain ⟨⟨hq_5, hq_6⟩, h⟩ := h
    have hPc := hP
    obtain ⟨nR, hnR, h⟩ := h
    have hDc := hD.sub (ws' := [(b0, .inr (3, [.ref b1, .ref b2, .ref b3, .ref b4, .ref b5, .ref b6, .int bn])), (b1, .inl (G.2 0, 40, .inl kf)), (b2, .inl (G.2 0, 40, .inl ff)), (b3, .inl (G.2 0, 40, .inl sf)), (b4, .inl (G.2 0, 40, .inl df)), (b5, .inl (G.2 1, 40, .inr (.inl pf))), (b6, .inl (G.2 1, 6, .inr (.inl gf))), (q_1, .inr (1, [.ref a_1, .int (0 : Int32), .int (0 : Int32), .int (0 : Int32)])), (a_1, .inl (G.2 2, 16, .inl (fun _ => (0 : Int32))))]) [0, 1, 2, 3, 4, 5, 6, 7, 8] (by decide) rfl
    have hFc := va_free (wc := [(b0, .inr (3, [.ref b1, .ref b2, .ref b3, .ref b4, .ref b5, .ref b6, .int bn])), (b1, .inl (G.2 0, 40, .inl kf)), (b2, .inl (G.2 0, 40, .inl ff)), (b3, .inl (G.2 0, 40, .inl sf)), (b4, .inl (G.2 0, 40, .inl df)), (b5, .inl (G.2 1, 40, .inr (.inl pf))), (b6, .inl (G.2 1, 6, .inr (.inl gf))), (q_1, .inr (1, [.ref a_1, .int (0 : Int32), .int (0 : Int32), .int (0 : Int32)])), (a_1, .inl (G.2 2, 16, .inl (fun _ => (0 : Int32))))]) hD hS hA [0, 1, 2, 3, 4, 5, 6, 7, 8] rfl
    have hJc := (hJ.kept hS.2.1).narrow hFc
    refine va_callv (va_runS (As := [.ref b0, .int p1, .ref q_1, .int (0 : Int32)]) (rest := []) ⟨hx, hb, hml, hown, hts⟩ (knX0_write nR l G b0 b1 b2 b3 b4 b5 b6 q_1 a_1 kf ff sf df pf gf bn (0 : Int32) (16) (fun _ => (0 : Int32)) b_1 b_2 p1 (0 : Int32) _ h) (va_cwS 4 hts (gdS q705 q706 q2 q707) rfl rfl rfl (by decide +kernel) ⟨(by show 6 + nR + 1 ≤ 48; omega), (by show 8 + (7 + 11) + (152 + nR * 26) ≤ 1244; omega)⟩) (preSwj hPc hKK hDc hJc) rfl rfl hl.1 rfl (lv_room (Nat.le_of_ble_eq_true rfl)) dX0_signsOf_25 ⟨hq_5, hq_6⟩) hS (fun q _ h => hFc q h) hFc (fun u t H1 locs ht hvm h hB hz1 hk1 hS => ?_)
    obtain ⟨wc_1, wn_1, wf_1⟩ := u
    obtain ⟨wv_1, hB⟩ := hB
    obtain ⟨hP1, hD1⟩ := hB
    rw [ht] at hP1
    have hP := hP1
    have hD : va_D A [(b0, .inr (3, [.ref b1, .ref b2, .ref b3, .ref b4, .ref b5, .ref b6, .int bn])), (b1, .inl (G.2 0, 40, .inl kf)), (b2, .inl (G.2 0, 40, .inl ff)), (b3, .inl (G.2 0, 40, .inl sf)), (b4, .inl (G.2 0, 40, .inl df)), (b5, .inl (G.2 1, 40, .inr (.inl pf))), (b6, .inl (G.2 1, 6, .inr (.inl gf))), (q_1, .inr (1, [.ref wv_1, .int (0 : Int32), .int (0 : Int32), .int wc_1])), (wv_1, .inl (G.2 2, wn_1, .inl wf_1))] := hD1.weaken (fun _ _ _ h => hFc _ h)
    generalize H1 = H at hP hS ⊢
    have hP : PP G [(b0, .inr (3, [.ref b1, .ref b2, .ref b3, .ref b4, .ref b5, .ref b6, .int bn])), (b1, .inl (G.2 0, 40, .inl kf)), (b2, .inl (G.2 0, 40, .inl ff)), (b3, .inl (G.2 0, 40, .inl sf)), (b4, .inl (G.2 0, 40, .inl df)), (b5, .inl (G.2 1, 40, .inr (.inl pf))), (b6, .inl (G.2 1, 6, .inr (.inl gf))), (q_1, .inr (1, [.ref wv_1, .int (0 : Int32), .int (0 : Int32), .int wc_1])), (wv_1, .inl (G.2 2, wn_1, .inl wf_1))] H := hP
    refine lv_aload_n hx hb dX0_signsOf_28 rfl (lv_at hl 0 rfl) ?_
    obtain ⟨b_3, b_4, h⟩ := h
    obtain ⟨⟨hq_7, hq_8⟩, h⟩ := h
    have hPc := va_P.sub (ws' := [(q_1, .inr (1, [.ref wv_1, .int (0 : Int32), .int (0 : Int32), .int wc_1])), (wv_1, .inl (G.2 2, wn_1, .inl wf_1))]) hP [7, 8] rfl
    have hDc := hD.sub (ws' := [(q_1, .inr (1, [.ref wv_1, .int (0 : Int32), .int (0 : Int32), .int wc_1])), (wv_1, .inl (G.2 2, wn_1, .inl wf_1))]) [7, 8] (by decide) rfl
    have hFc := va_free (wc := [(q_1, .inr (1, [.ref wv_1, .int (0 : Int32), .int (0 : Int32), .int wc_1])), (wv_1, .inl (G.2 2, wn_1, .inl wf_1))]) hD hS hA [7, 8] rfl
    have hJc := (hJ.kept hS.2.1).narrow hFc
    refine va_callr (va_runV (C := RJ4) (As := []) (rest := []) ⟨hx, hb, hml, hown, hts⟩ (knJ4_toString_0e30d l G q_1 wv_1 wc_1 wn_1 wf_1 b_3 b_4 _ h) (cwV 0 hts (gdV q839 q840 q841 q25 q842) rfl rfl rfl (by decide +kernel) ⟨Nat.le_of_ble_eq_true rfl, Nat.le_of_ble_eq_true rfl⟩) (preVwj hPc hKK hDc hJc (va_recv hK hPc (ci := 1) (q0 := 0) rfl rfl)) rfl rfl hl.1 rfl (lv_room (Nat.le_of_ble_eq_true rfl)) dX0_signsOf_29 ⟨hq_7, hq_8⟩) hS (fun q _ h => hFc q h) hFc (fun u ra t H1 locs ht hvm h hB hz1 hk1 hS => ?_)
    obtain ⟨c_1, c_2⟩ := u
    obtain ⟨nd_1, hB⟩ := hB
    obtain ⟨na_1, rfl⟩ : ∃ z, z = ra := ⟨_, rfl⟩
    obtain ⟨hP1, hD1⟩ := hB
    rw [ht] at hP1
    obtain ⟨hP, hD⟩ := va_join (wr := [(b0, .inr (3, [.ref b1, .ref b2, .ref b3, .ref b4, .ref b5, .ref b6, .int bn])), (b1, .inl (G.2 0, 40, .inl kf)), (b2, .inl (G.2 0, 40, .inl ff)), (b3, .inl (G.2 0, 40, .inl sf)), (b4, .inl (G.2 0, 40, .inl df)), (b5, .inl (G.2 1, 40, .inr (.inl pf))), (b6, .inl (G.2 1, 6, .inr (.inl gf)))]) (w1 := [(q_1, .inr (1, [.ref wv_1, .int (0 : Int32), .int (0 : Int32), .int wc_1])), (wv_1, .inl (G.2 2, wn_1, .inl wf_1)), (na_1, .inr (0, [.ref nd_1, .int (0 : Int32), .int (0 : Int32), .int (0 : Int32)])), (nd_1, .inl (G.2 2, c_1, .inl c_2))]) hP hD [7, 8] [0, 1, 2, 3, 4, 5, 6] rfl rfl (by decide) (by decide) hk1 hFc hP1 hD1
    generalize H1 = H at hP hS ⊢
    have hP : PP G [(b0, .inr (3, [.ref b1, .ref b2, .ref b3, .ref b4, .ref b5, .ref b6, .int bn])), (b1, .inl (G.2 0, 40, .inl kf)), (b2, .inl (G.2 0, 40, .inl ff)), (b3, .inl (G.2 0, 40, .inl sf)), (b4, .inl (G.2 0, 40, .inl df)), (b5, .inl (G.2 1, 40, .inr (.inl pf))), (b6, .inl (G.2 1, 6, .inr (.inl gf))), (q_1, .inr (1, [.ref wv_1, .int (0 : Int32), .int (0 : Int32), .int wc_1])), (wv_1, .inl (G.2 2, wn_1, .inl wf_1)), (na_1, .inr (0, [.ref nd_1, .int (0 : Int32), .int (0 : Int32), .int (0 : Int32)])), (nd_1, .inl (G.2 2, c_1, .inl c_2))] H := va_P.sub hP [0, 1, 2, 3, 4, 5, 6, 7, 8, 9, 10] rfl
    have hD : va_D A [(b0, .inr (3, [.ref b1, .ref b2, .ref b3, .ref b4, .ref b5, .ref b6, .int bn])), (b1, .inl (G.2 0, 40, .inl kf)), (b2, .inl (G.2 0, 40, .inl ff)), (b3, .inl (G.2 0, 40, .inl sf)), (b4, .inl (G.2 0, 40, .inl df)), (b5, .inl (G.2 1, 40, .inr (.inl pf))), (b6, .inl (G.2 1, 6, .inr (.inl gf))), (q_1, .inr (1, [.ref wv_1, .int (0 : Int32), .int (0 : Int32), .int wc_1])), (wv_1, .inl (G.2 2, wn_1, .inl wf_1)), (na_1, .inr (0, [.ref nd_1, .int (0 : Int32), .int (0 : Int32), .int (0 : Int32)])), (nd_1, .inl (G.2 2, c_1, .inl c_2))] := hD.sub [0, 1, 2, 3, 4, 5, 6, 7, 8, 9, 10] (by decide) rfl
    obtain ⟨⟨hw1, hw2⟩, h⟩ := h
    refine W.widen (k := mcb) (n := msb) hw1 hw2 ?_
    have hP : PP G [(b0, .inr (3, [.ref b1, .ref b2, .ref b3, .ref b4, .ref b5, .ref b6, .int bn])), (b1, .inl (G.2 0, 40, .inl kf)), (b2, .inl (G.2 0, 40, .inl ff)), (b3, .inl (G.2 0, 40, .inl sf)), (b4, .inl (G.2 0, 40, .inl df)), (b5, .inl (G.2 1, 40, .inr (.inl pf))), (b6, .inl (G.2 1, 6, .inr (.inl gf)))] _ := hP.sub [0, 1, 2, 3, 4, 5, 6] rfl
    have hD : va_D A [(b0, .inr (3, [.ref b1, .ref b2, .ref b3, .ref b4, .ref b5, .ref b6, .int bn])), (b1, .inl (G.2 0, 40, .inl kf)), (b2, .inl (G.2 0, 40, .inl ff)), (b3, .inl (G.2 0, 40, .inl sf)), (b4, .inl (G.2 0, 40, .inl df)), (b5, .inl (G.2 1, 40, .inr (.inl pf))), (b6, .inl (G.2 1, 6, .inr (.inl gf)))] := hD.sub [0, 1, 2, 3, 4, 5, 6] (by decide) rfl
    subst hQC; exact W.aret (v := .ref na_1) hx hb hr (by first | exact Or.inl ⟨_, rfl⟩ | exact Or.inr ⟨_, rfl⟩) (Or.inr ⟨_, rfl⟩) (fun t ht hW => ⟨⟨(), na_1, rfl, h, by rw [ht]; exact hP, hD⟩, hS.F ht⟩) hS.2.2 dX0_signsOf_32
  · have h := h.2 hc
    refine va_ldcS hx hb hown (litR10 hR) dX0_signsOf_10 ?_
    refine W.widen (k := mcb) (n := msb) (Nat.zero_le _) (Nat.zero_le _) ?_
    subst hQC; exact W.aret (v := .ref (G.2 110)) hx hb hr (by first | exact Or.inl ⟨_, rfl⟩ | exact Or.inr ⟨_, rfl⟩) (Or.inr ⟨_, rfl⟩) (fun t ht hW => ⟨⟨(), (G.2 110), rfl, h, by rw [ht]; exact hP, hD⟩, hS.F ht⟩) hS.2.2 dX0_signsOf_12
theorem dX2_text_0 : decode cX2_text 0 = .ok (.aload_n 0, 1) := by decide +kernel
theorem dX2_text_1 : decode cX2_text 1 = .ok (.getfield 10, 3) := by decide +kernel
theorem dX2_text_4 : decode cX2_text 4 = .ok (.iload_n 1, 1) := by decide +kernel
theorem dX2_text_5 : decode cX2_text 5 = .ok (.invokevirtual 116, 3) := by decide +kernel
theorem dX2_text_8 : decode cX2_text 8 = .ok (.ifCond .ne 13, 3) := by decide +kernel
theorem dX2_text_11 : decode cX2_text 11 = .ok (.new 83, 3) := by decide +kernel
theorem dX2_text_14 : decode cX2_text 14 = .ok (.dup, 1) := by decide +kernel
theorem dX2_text_15 : decode cX2_text 15 = .ok (.ldc 119, 2) := by decide +kernel
theorem dX2_text_17 : decode cX2_text 17 = .ok (.invokespecial 87, 3) := by decide +kernel
theorem dX2_text_20 : decode cX2_text 20 = .ok (.athrow, 1) := by decide +kernel
theorem dX2_text_21 : decode cX2_text 21 = .ok (.aload_n 0, 1) := by decide +kernel
theorem dX2_text_22 : decode cX2_text 22 = .ok (.getfield 10, 3) := by decide +kernel
theorem dX2_text_25 : decode cX2_text 25 = .ok (.iload_n 1, 1) := by decide +kernel
theorem dX2_text_26 : decode cX2_text 26 = .ok (.invokevirtual 246, 3) := by decide +kernel
theorem dX2_text_29 : decode cX2_text 29 = .ok (.areturn, 1) := by decide +kernel
def wxX2_text (post : Unit → Prop) (postx : String → Prop) (kf : Nat → Int32) (ff : Nat → Int32) (sf : Nat → Int32) (df : Nat → Int32) (pf : Nat → Int64) (gf : Nat → Int64) (bn : Int32) (p1 : Int32) : Prop :=
  wX0_holds (fun r_1 : Int32 =>
    ((¬ r_1 = 0) →
      wnX0_signsOf (fun (_ : Unit) =>
        post ()
        ) kf ff sf df pf gf bn (39) (1650) p1
    ) ∧ ((r_1 = 0) →
      postx "java/lang/IndexOutOfBoundsException"
    )
    ) bn p1
abbrev wl_xX2_text : List Cond := .code yX2_text cX2_text 2 (some (.object "java/lang/String")) :: lwg
abbrev rm_xX2_text : Room := { frames := 49, cells := 40, slots := 1660, locals := 1266 }
set_option maxHeartbeats 4000000 in
set_option maxRecDepth 100000 in
theorem kxX2_text {post : Unit → Prop} {postx : String → Prop} (l : Launch) (hfl : l.stackTraces = false) (G : GT) (x0 : Nat) (s0 : Nat) (s1 : Nat) (s2 : Nat) (u0 : Nat) (u1 : Nat) (u2 : Nat) (v0 : Nat) (v1 : Nat) (v2 : Nat) (b0 : Nat) (b1 : Nat) (b2 : Nat) (b3 : Nat) (b4 : Nat) (b5 : Nat) (b6 : Nat) (tA : Int32) (wP : Int32) (nT : Int32) (aK : Int32) (lK : Int32) (sW : Int32) (rF : Int32) (dk : Nat → Int64) (wg : Nat → Int64) (op : Int64) (re : Int32) (uk : Nat → Int64) (uw : Nat → Int64) (uo : Int64) (ur : Int32) (vk : Nat → Int64) (vw : Nat → Int64) (vo : Int64) (vr : Int32) (kf : Nat → Int32) (ff : Nat → Int32) (sf : Nat → Int32) (df : Nat → Int32) (pf : Nat → Int64) (gf : Nat → Int64) (bn : Int32) (p1 : Int32) (sz : Nat) (h : wxX2_text post postx kf ff sf df pf gf bn p1) : vx_Met l yX2_text wl_xX2_text rm_xX2_text (va_Pc [.ref x0, .int p1] (fun U => U.heap.size = sz ∧ PP G [(x0, .inr (5, [.ref b0, .ref s0, .ref u0, .ref v0, .int tA, .int wP, .int nT, .int aK, .int lK, .int sW, .int rF])), (s0, .inr (4, [.ref b0, .ref s1, .ref s2, .long op, .int re])), (s1, .inl (G.2 1, 384, .inr (.inl dk))), (s2, .inl (G.2 1, 40, .inr (.inl wg))), (u0, .inr (4, [.ref b0, .ref u1, .ref u2, .long uo, .int ur])), (u1, .inl (G.2 1, 384, .inr (.inl uk))), (u2, .inl (G.2 1, 40, .inr (.inl uw))), (v0, .inr (4, [.ref b0, .ref v1, .ref v2, .long vo, .int vr])), (v1, .inl (G.2 1, 384, .inr (.inl vk))), (v2, .inl (G.2 1, 40, .inr (.inl vw))), (b0, .inr (3, [.ref b1, .ref b2, .ref b3, .ref b4, .ref b5, .ref b6, .int bn])), (b1, .inl (G.2 0, 40, .inl kf)), (b2, .inl (G.2 0, 40, .inl ff)), (b3, .inl (G.2 0, 40, .inl sf)), (b4, .inl (G.2 0, 40, .inl df)), (b5, .inl (G.2 1, 40, .inr (.inl pf))), (b6, .inl (G.2 1, 6, .inr (.inl gf)))] U.heap ∧ KK G U ∧ va_D (fun _ => True) [(x0, .inr (5, [.ref b0, .ref s0, .ref u0, .ref v0, .int tA, .int wP, .int nT, .int aK, .int lK, .int sW, .int rF])), (s0, .inr (4, [.ref b0, .ref s1, .ref s2, .long op, .int re])), (s1, .inl (G.2 1, 384, .inr (.inl dk))), (s2, .inl (G.2 1, 40, .inr (.inl wg))), (u0, .inr (4, [.ref b0, .ref u1, .ref u2, .long uo, .int ur])), (u1, .inl (G.2 1, 384, .inr (.inl uk))), (u2, .inl (G.2 1, 40, .inr (.inl uw))), (v0, .inr (4, [.ref b0, .ref v1, .ref v2, .long vo, .int vr])), (v1, .inl (G.2 1, 384, .inr (.inl vk))), (v2, .inl (G.2 1, 40, .inr (.inl vw))), (b0, .inr (3, [.ref b1, .ref b2, .ref b3, .ref b4, .ref b5, .ref b6, .int bn])), (b1, .inl (G.2 0, 40, .inl kf)), (b2, .inl (G.2 0, 40, .inl ff)), (b3, .inl (G.2 0, 40, .inl sf)), (b4, .inl (G.2 0, 40, .inl df)), (b5, .inl (G.2 1, 40, .inr (.inl pf))), (b6, .inl (G.2 1, 6, .inr (.inl gf)))] ∧ ZZ (va_A [(x0, .inr (5, [.ref b0, .ref s0, .ref u0, .ref v0, .int tA, .int wP, .int nT, .int aK, .int lK, .int sW, .int rF])), (s0, .inr (4, [.ref b0, .ref s1, .ref s2, .long op, .int re])), (s1, .inl (G.2 1, 384, .inr (.inl dk))), (s2, .inl (G.2 1, 40, .inr (.inl wg))), (u0, .inr (4, [.ref b0, .ref u1, .ref u2, .long uo, .int ur])), (u1, .inl (G.2 1, 384, .inr (.inl uk))), (u2, .inl (G.2 1, 40, .inr (.inl uw))), (v0, .inr (4, [.ref b0, .ref v1, .ref v2, .long vo, .int vr])), (v1, .inl (G.2 1, 384, .inr (.inl vk))), (v2, .inl (G.2 1, 40, .inr (.inl vw))), (b0, .inr (3, [.ref b1, .ref b2, .ref b3, .ref b4, .ref b5, .ref b6, .int bn])), (b1, .inl (G.2 0, 40, .inl kf)), (b2, .inl (G.2 0, 40, .inl ff)), (b3, .inl (G.2 0, 40, .inl sf)), (b4, .inl (G.2 0, 40, .inl df)), (b5, .inl (G.2 1, 40, .inr (.inl pf))), (b6, .inl (G.2 1, 6, .inr (.inl gf)))] sz) U U.heap ∧ JJ G (va_A [(x0, .inr (5, [.ref b0, .ref s0, .ref u0, .ref v0, .int tA, .int wP, .int nT, .int aK, .int lK, .int sW, .int rF])), (s0, .inr (4, [.ref b0, .ref s1, .ref s2, .long op, .int re])), (s1, .inl (G.2 1, 384, .inr (.inl dk))), (s2, .inl (G.2 1, 40, .inr (.inl wg))), (u0, .inr (4, [.ref b0, .ref u1, .ref u2, .long uo, .int ur])), (u1, .inl (G.2 1, 384, .inr (.inl uk))), (u2, .inl (G.2 1, 40, .inr (.inl uw))), (v0, .inr (4, [.ref b0, .ref v1, .ref v2, .long vo, .int vr])), (v1, .inl (G.2 1, 384, .inr (.inl vk))), (v2, .inl (G.2 1, 40, .inr (.inl vw))), (b0, .inr (3, [.ref b1, .ref b2, .ref b3, .ref b4, .ref b5, .ref b6, .int bn])), (b1, .inl (G.2 0, 40, .inl kf)), (b2, .inl (G.2 0, 40, .inl ff)), (b3, .inl (G.2 0, 40, .inl sf)), (b4, .inl (G.2 0, 40, .inl df)), (b5, .inl (G.2 1, 40, .inr (.inl pf))), (b6, .inl (G.2 1, 6, .inr (.inl gf)))] sz) U U.heap)) (va_Qr post (fun u ra t => PP G [(x0, .inr (5, [.ref b0, .ref s0, .ref u0, .ref v0, .int tA, .int wP, .int nT, .int aK, .int lK, .int sW, .int rF])), (s0, .inr (4, [.ref b0, .ref s1, .ref s2, .long op, .int re])), (s1, .inl (G.2 1, 384, .inr (.inl dk))), (s2, .inl (G.2 1, 40, .inr (.inl wg))), (u0, .inr (4, [.ref b0, .ref u1, .ref u2, .long uo, .int ur])), (u1, .inl (G.2 1, 384, .inr (.inl uk))), (u2, .inl (G.2 1, 40, .inr (.inl uw))), (v0, .inr (4, [.ref b0, .ref v1, .ref v2, .long vo, .int vr])), (v1, .inl (G.2 1, 384, .inr (.inl vk))), (v2, .inl (G.2 1, 40, .inr (.inl vw))), (b0, .inr (3, [.ref b1, .ref b2, .ref b3, .ref b4, .ref b5, .ref b6, .int bn])), (b1, .inl (G.2 0, 40, .inl kf)), (b2, .inl (G.2 0, 40, .inl ff)), (b3, .inl (G.2 0, 40, .inl sf)), (b4, .inl (G.2 0, 40, .inl df)), (b5, .inl (G.2 1, 40, .inr (.inl pf))), (b6, .inl (G.2 1, 6, .inr (.inl gf)))] t.heap ∧ va_D (va_A [(x0, .inr (5, [.ref b0, .ref s0, .ref u0, .ref v0, .int tA, .int wP, .int nT, .int aK, .int lK, .int sW, .int rF])), (s0, .inr (4, [.ref b0, .ref s1, .ref s2, .long op, .int re])), (s1, .inl (G.2 1, 384, .inr (.inl dk))), (s2, .inl (G.2 1, 40, .inr (.inl wg))), (u0, .inr (4, [.ref b0, .ref u1, .ref u2, .long uo, .int ur])), (u1, .inl (G.2 1, 384, .inr (.inl uk))), (u2, .inl (G.2 1, 40, .inr (.inl uw))), (v0, .inr (4, [.ref b0, .ref v1, .ref v2, .long vo, .int vr])), (v1, .inl (G.2 1, 384, .inr (.inl vk))), (v2, .inl (G.2 1, 40, .inr (.inl vw))), (b0, .inr (3, [.ref b1, .ref b2, .ref b3, .ref b4, .ref b5, .ref b6, .int bn])), (b1, .inl (G.2 0, 40, .inl kf)), (b2, .inl (G.2 0, 40, .inl ff)), (b3, .inl (G.2 0, 40, .inl sf)), (b4, .inl (G.2 0, 40, .inl df)), (b5, .inl (G.2 1, 40, .inr (.inl pf))), (b6, .inl (G.2 1, 6, .inr (.inl gf)))] sz) [(x0, .inr (5, [.ref b0, .ref s0, .ref u0, .ref v0, .int tA, .int wP, .int nT, .int aK, .int lK, .int sW, .int rF])), (s0, .inr (4, [.ref b0, .ref s1, .ref s2, .long op, .int re])), (s1, .inl (G.2 1, 384, .inr (.inl dk))), (s2, .inl (G.2 1, 40, .inr (.inl wg))), (u0, .inr (4, [.ref b0, .ref u1, .ref u2, .long uo, .int ur])), (u1, .inl (G.2 1, 384, .inr (.inl uk))), (u2, .inl (G.2 1, 40, .inr (.inl uw))), (v0, .inr (4, [.ref b0, .ref v1, .ref v2, .long vo, .int vr])), (v1, .inl (G.2 1, 384, .inr (.inl vk))), (v2, .inl (G.2 1, 40, .inr (.inl vw))), (b0, .inr (3, [.ref b1, .ref b2, .ref b3, .ref b4, .ref b5, .ref b6, .int bn])), (b1, .inl (G.2 0, 40, .inl kf)), (b2, .inl (G.2 0, 40, .inl ff)), (b3, .inl (G.2 0, 40, .inl sf)), (b4, .inl (G.2 0, 40, .inl df)), (b5, .inl (G.2 1, 40, .inr (.inl pf))), (b6, .inl (G.2 1, 6, .inr (.inl gf)))]) (va_A [(x0, .inr (5, [.ref b0, .ref s0, .ref u0, .ref v0, .int tA, .int wP, .int nT, .int aK, .int lK, .int sW, .int rF])), (s0, .inr (4, [.ref b0, .ref s1, .ref s2, .long op, .int re])), (s1, .inl (G.2 1, 384, .inr (.inl dk))), (s2, .inl (G.2 1, 40, .inr (.inl wg))), (u0, .inr (4, [.ref b0, .ref u1, .ref u2, .long uo, .int ur])), (u1, .inl (G.2 1, 384, .inr (.inl uk))), (u2, .inl (G.2 1, 40, .inr (.inl uw))), (v0, .inr (4, [.ref b0, .ref v1, .ref v2, .long vo, .int vr])), (v1, .inl (G.2 1, 384, .inr (.inl vk))), (v2, .inl (G.2 1, 40, .inr (.inl vw))), (b0, .inr (3, [.ref b1, .ref b2, .ref b3, .ref b4, .ref b5, .ref b6, .int bn])), (b1, .inl (G.2 0, 40, .inl kf)), (b2, .inl (G.2 0, 40, .inl ff)), (b3, .inl (G.2 0, 40, .inl sf)), (b4, .inl (G.2 0, 40, .inl df)), (b5, .inl (G.2 1, 40, .inr (.inl pf))), (b6, .inl (G.2 1, 6, .inr (.inl gf)))] sz)) (vx_X (fun _ : Unit => True) (fun E _ t => PP G [(x0, .inr (5, [.ref b0, .ref s0, .ref u0, .ref v0, .int tA, .int wP, .int nT, .int aK, .int lK, .int sW, .int rF])), (s0, .inr (4, [.ref b0, .ref s1, .ref s2, .long op, .int re])), (s1, .inl (G.2 1, 384, .inr (.inl dk))), (s2, .inl (G.2 1, 40, .inr (.inl wg))), (u0, .inr (4, [.ref b0, .ref u1, .ref u2, .long uo, .int ur])), (u1, .inl (G.2 1, 384, .inr (.inl uk))), (u2, .inl (G.2 1, 40, .inr (.inl uw))), (v0, .inr (4, [.ref b0, .ref v1, .ref v2, .long vo, .int vr])), (v1, .inl (G.2 1, 384, .inr (.inl vk))), (v2, .inl (G.2 1, 40, .inr (.inl vw))), (b0, .inr (3, [.ref b1, .ref b2, .ref b3, .ref b4, .ref b5, .ref b6, .int bn])), (b1, .inl (G.2 0, 40, .inl kf)), (b2, .inl (G.2 0, 40, .inl ff)), (b3, .inl (G.2 0, 40, .inl sf)), (b4, .inl (G.2 0, 40, .inl df)), (b5, .inl (G.2 1, 40, .inr (.inl pf))), (b6, .inl (G.2 1, 6, .inr (.inl gf)))] t.heap ∧ va_D (va_A [(x0, .inr (5, [.ref b0, .ref s0, .ref u0, .ref v0, .int tA, .int wP, .int nT, .int aK, .int lK, .int sW, .int rF])), (s0, .inr (4, [.ref b0, .ref s1, .ref s2, .long op, .int re])), (s1, .inl (G.2 1, 384, .inr (.inl dk))), (s2, .inl (G.2 1, 40, .inr (.inl wg))), (u0, .inr (4, [.ref b0, .ref u1, .ref u2, .long uo, .int ur])), (u1, .inl (G.2 1, 384, .inr (.inl uk))), (u2, .inl (G.2 1, 40, .inr (.inl uw))), (v0, .inr (4, [.ref b0, .ref v1, .ref v2, .long vo, .int vr])), (v1, .inl (G.2 1, 384, .inr (.inl vk))), (v2, .inl (G.2 1, 40, .inr (.inl vw))), (b0, .inr (3, [.ref b1, .ref b2, .ref b3, .ref b4, .ref b5, .ref b6, .int bn])), (b1, .inl (G.2 0, 40, .inl kf)), (b2, .inl (G.2 0, 40, .inl ff)), (b3, .inl (G.2 0, 40, .inl sf)), (b4, .inl (G.2 0, 40, .inl df)), (b5, .inl (G.2 1, 40, .inr (.inl pf))), (b6, .inl (G.2 1, 6, .inr (.inl gf)))] sz) [(x0, .inr (5, [.ref b0, .ref s0, .ref u0, .ref v0, .int tA, .int wP, .int nT, .int aK, .int lK, .int sW, .int rF])), (s0, .inr (4, [.ref b0, .ref s1, .ref s2, .long op, .int re])), (s1, .inl (G.2 1, 384, .inr (.inl dk))), (s2, .inl (G.2 1, 40, .inr (.inl wg))), (u0, .inr (4, [.ref b0, .ref u1, .ref u2, .long uo, .int ur])), (u1, .inl (G.2 1, 384, .inr (.inl uk))), (u2, .inl (G.2 1, 40, .inr (.inl uw))), (v0, .inr (4, [.ref b0, .ref v1, .ref v2, .long vo, .int vr])), (v1, .inl (G.2 1, 384, .inr (.inl vk))), (v2, .inl (G.2 1, 40, .inr (.inl vw))), (b0, .inr (3, [.ref b1, .ref b2, .ref b3, .ref b4, .ref b5, .ref b6, .int bn])), (b1, .inl (G.2 0, 40, .inl kf)), (b2, .inl (G.2 0, 40, .inl ff)), (b3, .inl (G.2 0, 40, .inl sf)), (b4, .inl (G.2 0, 40, .inl df)), (b5, .inl (G.2 1, 40, .inr (.inl pf))), (b6, .inl (G.2 1, 6, .inr (.inl gf)))] ∧ postx E) (va_A [(x0, .inr (5, [.ref b0, .ref s0, .ref u0, .ref v0, .int tA, .int wP, .int nT, .int aK, .int lK, .int sW, .int rF])), (s0, .inr (4, [.ref b0, .ref s1, .ref s2, .long op, .int re])), (s1, .inl (G.2 1, 384, .inr (.inl dk))), (s2, .inl (G.2 1, 40, .inr (.inl wg))), (u0, .inr (4, [.ref b0, .ref u1, .ref u2, .long uo, .int ur])), (u1, .inl (G.2 1, 384, .inr (.inl uk))), (u2, .inl (G.2 1, 40, .inr (.inl uw))), (v0, .inr (4, [.ref b0, .ref v1, .ref v2, .long vo, .int vr])), (v1, .inl (G.2 1, 384, .inr (.inl vk))), (v2, .inl (G.2 1, 40, .inr (.inl vw))), (b0, .inr (3, [.ref b1, .ref b2, .ref b3, .ref b4, .ref b5, .ref b6, .int bn])), (b1, .inl (G.2 0, 40, .inl kf)), (b2, .inl (G.2 0, 40, .inl ff)), (b3, .inl (G.2 0, 40, .inl sf)), (b4, .inl (G.2 0, 40, .inl df)), (b5, .inl (G.2 1, 40, .inr (.inl pf))), (b6, .inl (G.2 1, 6, .inr (.inl gf)))] sz)) 40 1660 (va_A [(x0, .inr (5, [.ref b0, .ref s0, .ref u0, .ref v0, .int tA, .int wP, .int nT, .int aK, .int lK, .int sW, .int rF])), (s0, .inr (4, [.ref b0, .ref s1, .ref s2, .long op, .int re])), (s1, .inl (G.2 1, 384, .inr (.inl dk))), (s2, .inl (G.2 1, 40, .inr (.inl wg))), (u0, .inr (4, [.ref b0, .ref u1, .ref u2, .long uo, .int ur])), (u1, .inl (G.2 1, 384, .inr (.inl uk))), (u2, .inl (G.2 1, 40, .inr (.inl uw))), (v0, .inr (4, [.ref b0, .ref v1, .ref v2, .long vo, .int vr])), (v1, .inl (G.2 1, 384, .inr (.inl vk))), (v2, .inl (G.2 1, 40, .inr (.inl vw))), (b0, .inr (3, [.ref b1, .ref b2, .ref b3, .ref b4, .ref b5, .ref b6, .int bn])), (b1, .inl (G.2 0, 40, .inl kf)), (b2, .inl (G.2 0, 40, .inl ff)), (b3, .inl (G.2 0, 40, .inl sf)), (b4, .inl (G.2 0, 40, .inl df)), (b5, .inl (G.2 1, 40, .inr (.inl pf))), (b6, .inl (G.2 1, 6, .inr (.inl gf)))] sz) := by
  refine vx_ofW (cc := cX2_text) (maxL := 2) (ret := (some (.object "java/lang/String"))) (by decide) rfl ?_
  intro p e s m args below meth c s₁ B hml hT hv
  obtain ⟨rfl, hsz, hP, hKK, hD0, hZ, hJ⟩ := hv
  obtain ⟨hK, hN, hR, hFW, hNC⟩ := id hKK
  have hx := B.exec
  have hb := B.bytes
  have hr := B.returns
  have hts0 := atoms_spec (ws := wl_xX2_text) B.pre
  have hts : ∀ w ∈ lwg, w.before ([.ref x0, .int p1] : List Value).toArray s = true := fun w hw => hts0 w (List.mem_cons_of_mem _ hw)
  have hown : s.vm.findClass RX2 = some m.cls := findClass_of_methodNamed B.named
  have hlocks := B.notSynchronized
  subst hsz
  have hD := hD0.self (sz := s.heap.size)
  generalize hAe : va_A [(x0, .inr (5, [.ref b0, .ref s0, .ref u0, .ref v0, .int tA, .int wP, .int nT, .int aK, .int lK, .int sW, .int rF])), (s0, .inr (4, [.ref b0, .ref s1, .ref s2, .long op, .int re])), (s1, .inl (G.2 1, 384, .inr (.inl dk))), (s2, .inl (G.2 1, 40, .inr (.inl wg))), (u0, .inr (4, [.ref b0, .ref u1, .ref u2, .long uo, .int ur])), (u1, .inl (G.2 1, 384, .inr (.inl uk))), (u2, .inl (G.2 1, 40, .inr (.inl uw))), (v0, .inr (4, [.ref b0, .ref v1, .ref v2, .long vo, .int vr])), (v1, .inl (G.2 1, 384, .inr (.inl vk))), (v2, .inl (G.2 1, 40, .inr (.inl vw))), (b0, .inr (3, [.ref b1, .ref b2, .ref b3, .ref b4, .ref b5, .ref b6, .int bn])), (b1, .inl (G.2 0, 40, .inl kf)), (b2, .inl (G.2 0, 40, .inl ff)), (b3, .inl (G.2 0, 40, .inl sf)), (b4, .inl (G.2 0, 40, .inl df)), (b5, .inl (G.2 1, 40, .inr (.inl pf))), (b6, .inl (G.2 1, 6, .inr (.inl gf)))] s.heap.size = A at hD hZ hJ ⊢
  have hA : ∀ q : Nat, s.heap.size ≤ q → A q := fun q h => by rw [← hAe]; exact Or.inr h
  have hS : va_S A s.heap s.heap [] := va_S.rf
  obtain ⟨QC, hQC⟩ : ∃ Z, Z = (va_Qr post (fun u ra t => PP G [(x0, .inr (5, [.ref b0, .ref s0, .ref u0, .ref v0, .int tA, .int wP, .int nT, .int aK, .int lK, .int sW, .int rF])), (s0, .inr (4, [.ref b0, .ref s1, .ref s2, .long op, .int re])), (s1, .inl (G.2 1, 384, .inr (.inl dk))), (s2, .inl (G.2 1, 40, .inr (.inl wg))), (u0, .inr (4, [.ref b0, .ref u1, .ref u2, .long uo, .int ur])), (u1, .inl (G.2 1, 384, .inr (.inl uk))), (u2, .inl (G.2 1, 40, .inr (.inl uw))), (v0, .inr (4, [.ref b0, .ref v1, .ref v2, .long vo, .int vr])), (v1, .inl (G.2 1, 384, .inr (.inl vk))), (v2, .inl (G.2 1, 40, .inr (.inl vw))), (b0, .inr (3, [.ref b1, .ref b2, .ref b3, .ref b4, .ref b5, .ref b6, .int bn])), (b1, .inl (G.2 0, 40, .inl kf)), (b2, .inl (G.2 0, 40, .inl ff)), (b3, .inl (G.2 0, 40, .inl sf)), (b4, .inl (G.2 0, 40, .inl df)), (b5, .inl (G.2 1, 40, .inr (.inl pf))), (b6, .inl (G.2 1, 6, .inr (.inl gf)))] t.heap ∧ va_D A [(x0, .inr (5, [.ref b0, .ref s0, .ref u0, .ref v0, .int tA, .int wP, .int nT, .int aK, .int lK, .int sW, .int rF])), (s0, .inr (4, [.ref b0, .ref s1, .ref s2, .long op, .int re])), (s1, .inl (G.2 1, 384, .inr (.inl dk))), (s2, .inl (G.2 1, 40, .inr (.inl wg))), (u0, .inr (4, [.ref b0, .ref u1, .ref u2, .long uo, .int ur])), (u1, .inl (G.2 1, 384, .inr (.inl uk))), (u2, .inl (G.2 1, 40, .inr (.inl uw))), (v0, .inr (4, [.ref b0, .ref v1, .ref v2, .long vo, .int vr])), (v1, .inl (G.2 1, 384, .inr (.inl vk))), (v2, .inl (G.2 1, 40, .inr (.inl vw))), (b0, .inr (3, [.ref b1, .ref b2, .ref b3, .ref b4, .ref b5, .ref b6, .int bn])), (b1, .inl (G.2 0, 40, .inl kf)), (b2, .inl (G.2 0, 40, .inl ff)), (b3, .inl (G.2 0, 40, .inl sf)), (b4, .inl (G.2 0, 40, .inl df)), (b5, .inl (G.2 1, 40, .inr (.inl pf))), (b6, .inl (G.2 1, 6, .inr (.inl gf)))]) A) := ⟨_, rfl⟩
  rw [← hQC]
  obtain ⟨XC, hXC⟩ : ∃ Z, Z = (vx_X (fun _ : Unit => True) (fun E _ t => PP G [(x0, .inr (5, [.ref b0, .ref s0, .ref u0, .ref v0, .int tA, .int wP, .int nT, .int aK, .int lK, .int sW, .int rF])), (s0, .inr (4, [.ref b0, .ref s1, .ref s2, .long op, .int re])), (s1, .inl (G.2 1, 384, .inr (.inl dk))), (s2, .inl (G.2 1, 40, .inr (.inl wg))), (u0, .inr (4, [.ref b0, .ref u1, .ref u2, .long uo, .int ur])), (u1, .inl (G.2 1, 384, .inr (.inl uk))), (u2, .inl (G.2 1, 40, .inr (.inl uw))), (v0, .inr (4, [.ref b0, .ref v1, .ref v2, .long vo, .int vr])), (v1, .inl (G.2 1, 384, .inr (.inl vk))), (v2, .inl (G.2 1, 40, .inr (.inl vw))), (b0, .inr (3, [.ref b1, .ref b2, .ref b3, .ref b4, .ref b5, .ref b6, .int bn])), (b1, .inl (G.2 0, 40, .inl kf)), (b2, .inl (G.2 0, 40, .inl ff)), (b3, .inl (G.2 0, 40, .inl sf)), (b4, .inl (G.2 0, 40, .inl df)), (b5, .inl (G.2 1, 40, .inr (.inl pf))), (b6, .inl (G.2 1, 6, .inr (.inl gf)))] t.heap ∧ va_D A [(x0, .inr (5, [.ref b0, .ref s0, .ref u0, .ref v0, .int tA, .int wP, .int nT, .int aK, .int lK, .int sW, .int rF])), (s0, .inr (4, [.ref b0, .ref s1, .ref s2, .long op, .int re])), (s1, .inl (G.2 1, 384, .inr (.inl dk))), (s2, .inl (G.2 1, 40, .inr (.inl wg))), (u0, .inr (4, [.ref b0, .ref u1, .ref u2, .long uo, .int ur])), (u1, .inl (G.2 1, 384, .inr (.inl uk))), (u2, .inl (G.2 1, 40, .inr (.inl uw))), (v0, .inr (4, [.ref b0, .ref v1, .ref v2, .long vo, .int vr])), (v1, .inl (G.2 1, 384, .inr (.inl vk))), (v2, .inl (G.2 1, 40, .inr (.inl vw))), (b0, .inr (3, [.ref b1, .ref b2, .ref b3, .ref b4, .ref b5, .ref b6, .int bn])), (b1, .inl (G.2 0, 40, .inl kf)), (b2, .inl (G.2 0, 40, .inl ff)), (b3, .inl (G.2 0, 40, .inl sf)), (b4, .inl (G.2 0, 40, .inl df)), (b5, .inl (G.2 1, 40, .inr (.inl pf))), (b6, .inl (G.2 1, 6, .inr (.inl gf)))] ∧ postx E) A) := ⟨_, rfl⟩
  rw [← hXC]
  obtain ⟨jE, hjE⟩ := hJ.2.1
  obtain ⟨jT, hjT1, hjT2⟩ := hJ.2.2.1
  obtain ⟨jO, hjO1, hjO2⟩ := hJ.2.2.2.1
  obtain ⟨jS, hjS⟩ := hJ.2.2.2.2.1
  obtain ⟨⟨zt, hZ1, hT1⟩, hZ2⟩ := id hZ
  have hP : PP G [(x0, .inr (5, [.ref b0, .ref s0, .ref u0, .ref v0, .int tA, .int wP, .int nT, .int aK, .int lK, .int sW, .int rF])), (s0, .inr (4, [.ref b0, .ref s1, .ref s2, .long op, .int re])), (s1, .inl (G.2 1, 384, .inr (.inl dk))), (s2, .inl (G.2 1, 40, .inr (.inl wg))), (u0, .inr (4, [.ref b0, .ref u1, .ref u2, .long uo, .int ur])), (u1, .inl (G.2 1, 384, .inr (.inl uk))), (u2, .inl (G.2 1, 40, .inr (.inl uw))), (v0, .inr (4, [.ref b0, .ref v1, .ref v2, .long vo, .int vr])), (v1, .inl (G.2 1, 384, .inr (.inl vk))), (v2, .inl (G.2 1, 40, .inr (.inl vw))), (b0, .inr (3, [.ref b1, .ref b2, .ref b3, .ref b4, .ref b5, .ref b6, .int bn])), (b1, .inl (G.2 0, 40, .inl kf)), (b2, .inl (G.2 0, 40, .inl ff)), (b3, .inl (G.2 0, 40, .inl sf)), (b4, .inl (G.2 0, 40, .inl df)), (b5, .inl (G.2 1, 40, .inr (.inl pf))), (b6, .inl (G.2 1, 6, .inr (.inl gf)))] s.heap := hP
  have hl := lv_entry ([.ref x0, .int p1]) (n := 2) (Nat.le_of_ble_eq_true rfl)
  rw [lg_entry_eq]
  generalize (lg_sl ([.ref x0, .int p1]) ++ List.replicate (2 - (lg_sl ([.ref x0, .int p1])).length) Slot.unset).toArray = ls at hl ⊢
  have hl : lv_has ls 2 [(0, .ref x0), (1, .int p1)] := hl
  refine lv_aload_n hx hb dX2_text_0 rfl (lv_at hl 0 rfl) ?_
  refine va_get (D := G.1) (ci := 5) (v := .ref b0) (C := RX2) (T := TX2) (N := 11) hx hb hts igX2 hown hK hP 0 rfl rfl 0 (by decide) (hts _ q176) (fun _ h9 => h9) rfl dX2_text_1 ?_
  refine lv_iload_n hx hb dX2_text_4 rfl (lv_at hl 1 rfl) ?_
  have hPc := va_P.sub (ws' := [(b0, .inr (3, [.ref b1, .ref b2, .ref b3, .ref b4, .ref b5, .ref b6, .int bn])), (b1, .inl (G.2 0, 40, .inl kf)), (b2, .inl (G.2 0, 40, .inl ff)), (b3, .inl (G.2 0, 40, .inl sf)), (b4, .inl (G.2 0, 40, .inl df)), (b5, .inl (G.2 1, 40, .inr (.inl pf))), (b6, .inl (G.2 1, 6, .inr (.inl gf)))]) hP [10, 11, 12, 13, 14, 15, 16] rfl
  refine rdI (va_runV (C := RX0) (As := [.int p1]) (rest := []) ⟨hx, hb, hml, hown, hts⟩ (kX0_holds l G b0 b1 b2 b3 b4 b5 b6 kf ff sf df pf gf bn p1 h) (cwV 1 hts (gdV q403 q115 q116 q2 q117) rfl rfl rfl (by decide +kernel) ⟨Nat.le_of_ble_eq_true rfl, Nat.le_of_ble_eq_true rfl⟩) (preV hPc hKK (va_recv hK hPc (ci := 3) (q0 := 0) rfl rfl)) rfl rfl hl.1 rfl (lv_room (Nat.le_of_ble_eq_true rfl)) dX2_text_5 ⟨Nat.zero_le _, Nat.zero_le _⟩) (fun r_1 h => ?_)
  refine lv_if_ne (tgt := 21) hx hb dX2_text_8 (by decide) (fun hc => ?_) (fun hc => ?_)
  · have h := h.1 hc
    refine lv_aload_n hx hb dX2_text_21 rfl (lv_at hl 0 rfl) ?_
    refine va_get (D := G.1) (ci := 5) (v := .ref b0) (C := RX2) (T := TX2) (N := 11) hx hb hts igX2 hown hK hP 0 rfl rfl 0 (by decide) (hts _ q176) (fun _ h9 => h9) rfl dX2_text_22 ?_
    refine lv_iload_n hx hb dX2_text_25 rfl (lv_at hl 1 rfl) ?_
    have hPc := va_P.sub (ws' := [(b0, .inr (3, [.ref b1, .ref b2, .ref b3, .ref b4, .ref b5, .ref b6, .int bn])), (b1, .inl (G.2 0, 40, .inl kf)), (b2, .inl (G.2 0, 40, .inl ff)), (b3, .inl (G.2 0, 40, .inl sf)), (b4, .inl (G.2 0, 40, .inl df)), (b5, .inl (G.2 1, 40, .inr (.inl pf))), (b6, .inl (G.2 1, 6, .inr (.inl gf)))]) hP [10, 11, 12, 13, 14, 15, 16] rfl
    have hDc := hD.sub (ws' := [(b0, .inr (3, [.ref b1, .ref b2, .ref b3, .ref b4, .ref b5, .ref b6, .int bn])), (b1, .inl (G.2 0, 40, .inl kf)), (b2, .inl (G.2 0, 40, .inl ff)), (b3, .inl (G.2 0, 40, .inl sf)), (b4, .inl (G.2 0, 40, .inl df)), (b5, .inl (G.2 1, 40, .inr (.inl pf))), (b6, .inl (G.2 1, 6, .inr (.inl gf)))]) [10, 11, 12, 13, 14, 15, 16] (by decide) rfl
    have hFc := va_free (wc := [(b0, .inr (3, [.ref b1, .ref b2, .ref b3, .ref b4, .ref b5, .ref b6, .int bn])), (b1, .inl (G.2 0, 40, .inl kf)), (b2, .inl (G.2 0, 40, .inl ff)), (b3, .inl (G.2 0, 40, .inl sf)), (b4, .inl (G.2 0, 40, .inl df)), (b5, .inl (G.2 1, 40, .inr (.inl pf))), (b6, .inl (G.2 1, 6, .inr (.inl gf)))]) hD hS hA [10, 11, 12, 13, 14, 15, 16] rfl
    have hJc := (hJ.kept hS.2.1).narrow hFc
    refine va_callr (va_runV (C := RX0) (As := [.int p1]) (rest := []) ⟨hx, hb, hml, hown, hts⟩ (knX0_signsOf l G b0 b1 b2 b3 b4 b5 b6 kf ff sf df pf gf bn (39) (1650) p1 _ h) (cwV 1 hts (gdV q669 q670 q671 q2 q672) rfl rfl rfl (by decide +kernel) ⟨Nat.le_of_ble_eq_true rfl, Nat.le_of_ble_eq_true rfl⟩) (preVwj hPc hKK hDc hJc (va_recv hK hPc (ci := 3) (q0 := 0) rfl rfl)) rfl rfl hl.1 rfl (lv_room (Nat.le_of_ble_eq_true rfl)) dX2_text_26 ⟨Nat.le_of_ble_eq_true rfl, Nat.le_of_ble_eq_true rfl⟩) hS (fun q _ h => hFc q h) hFc (fun u ra t H1 locs ht hvm h hB hz1 hk1 hS => ?_)
    obtain ⟨na_1, rfl⟩ : ∃ z, z = ra := ⟨_, rfl⟩
    obtain ⟨hP1, hD1⟩ := hB
    rw [ht] at hP1
    obtain ⟨hP, hD⟩ := va_join (wr := [(x0, .inr (5, [.ref b0, .ref s0, .ref u0, .ref v0, .int tA, .int wP, .int nT, .int aK, .int lK, .int sW, .int rF])), (s0, .inr (4, [.ref b0, .ref s1, .ref s2, .long op, .int re])), (s1, .inl (G.2 1, 384, .inr (.inl dk))), (s2, .inl (G.2 1, 40, .inr (.inl wg))), (u0, .inr (4, [.ref b0, .ref u1, .ref u2, .long uo, .int ur])), (u1, .inl (G.2 1, 384, .inr (.inl uk))), (u2, .inl (G.2 1, 40, .inr (.inl uw))), (v0, .inr (4, [.ref b0, .ref v1, .ref v2, .long vo, .int vr])), (v1, .inl (G.2 1, 384, .inr (.inl vk))), (v2, .inl (G.2 1, 40, .inr (.inl vw)))]) (w1 := [(b0, .inr (3, [.ref b1, .ref b2, .ref b3, .ref b4, .ref b5, .ref b6, .int bn])), (b1, .inl (G.2 0, 40, .inl kf)), (b2, .inl (G.2 0, 40, .inl ff)), (b3, .inl (G.2 0, 40, .inl sf)), (b4, .inl (G.2 0, 40, .inl df)), (b5, .inl (G.2 1, 40, .inr (.inl pf))), (b6, .inl (G.2 1, 6, .inr (.inl gf)))]) hP hD [10, 11, 12, 13, 14, 15, 16] [0, 1, 2, 3, 4, 5, 6, 7, 8, 9] rfl rfl (by decide) (by decide) hk1 hFc hP1 hD1
    generalize H1 = H at hP hS ⊢
    have hP : PP G [(x0, .inr (5, [.ref b0, .ref s0, .ref u0, .ref v0, .int tA, .int wP, .int nT, .int aK, .int lK, .int sW, .int rF])), (s0, .inr (4, [.ref b0, .ref s1, .ref s2, .long op, .int re])), (s1, .inl (G.2 1, 384, .inr (.inl dk))), (s2, .inl (G.2 1, 40, .inr (.inl wg))), (u0, .inr (4, [.ref b0, .ref u1, .ref u2, .long uo, .int ur])), (u1, .inl (G.2 1, 384, .inr (.inl uk))), (u2, .inl (G.2 1, 40, .inr (.inl uw))), (v0, .inr (4, [.ref b0, .ref v1, .ref v2, .long vo, .int vr])), (v1, .inl (G.2 1, 384, .inr (.inl vk))), (v2, .inl (G.2 1, 40, .inr (.inl vw))), (b0, .inr (3, [.ref b1, .ref b2, .ref b3, .ref b4, .ref b5, .ref b6, .int bn])), (b1, .inl (G.2 0, 40, .inl kf)), (b2, .inl (G.2 0, 40, .inl ff)), (b3, .inl (G.2 0, 40, .inl sf)), (b4, .inl (G.2 0, 40, .inl df)), (b5, .inl (G.2 1, 40, .inr (.inl pf))), (b6, .inl (G.2 1, 6, .inr (.inl gf)))] H := va_P.sub hP [0, 1, 2, 3, 4, 5, 6, 7, 8, 9, 10, 11, 12, 13, 14, 15, 16] rfl
    have hD : va_D A [(x0, .inr (5, [.ref b0, .ref s0, .ref u0, .ref v0, .int tA, .int wP, .int nT, .int aK, .int lK, .int sW, .int rF])), (s0, .inr (4, [.ref b0, .ref s1, .ref s2, .long op, .int re])), (s1, .inl (G.2 1, 384, .inr (.inl dk))), (s2, .inl (G.2 1, 40, .inr (.inl wg))), (u0, .inr (4, [.ref b0, .ref u1, .ref u2, .long uo, .int ur])), (u1, .inl (G.2 1, 384, .inr (.inl uk))), (u2, .inl (G.2 1, 40, .inr (.inl uw))), (v0, .inr (4, [.ref b0, .ref v1, .ref v2, .long vo, .int vr])), (v1, .inl (G.2 1, 384, .inr (.inl vk))), (v2, .inl (G.2 1, 40, .inr (.inl vw))), (b0, .inr (3, [.ref b1, .ref b2, .ref b3, .ref b4, .ref b5, .ref b6, .int bn])), (b1, .inl (G.2 0, 40, .inl kf)), (b2, .inl (G.2 0, 40, .inl ff)), (b3, .inl (G.2 0, 40, .inl sf)), (b4, .inl (G.2 0, 40, .inl df)), (b5, .inl (G.2 1, 40, .inr (.inl pf))), (b6, .inl (G.2 1, 6, .inr (.inl gf)))] := hD.sub [0, 1, 2, 3, 4, 5, 6, 7, 8, 9, 10, 11, 12, 13, 14, 15, 16] (by decide) rfl
    refine vx_ret (W.widen (k := 40) (n := 1660) (Nat.le_of_ble_eq_true rfl) (Nat.le_of_ble_eq_true rfl) ?_)
    subst hQC; exact W.aret (v := .ref na_1) hx hb hr (by first | exact Or.inl ⟨_, rfl⟩ | exact Or.inr ⟨_, rfl⟩) (Or.inr ⟨_, rfl⟩) (fun t ht hW => ⟨⟨(), na_1, rfl, h, by rw [ht]; exact hP, hD⟩, hS.F ht⟩) hS.2.2 dX2_text_29
  · have h := h.2 hc
    obtain ⟨sa, hsa⟩ := hR.1 ("NightdeskRota", 119, "no such sentence") (List.mem_of_getElem? (i := 4) rfl)
    subst hXC
    exact vx_throwS (names := rtx) (text := "no such sentence") (sa := sa) hx hb hfl hown (by decide +kernel) (by decide +kernel) (hts _ q349) (hts _ q22) hsa (hatX hat87a hat87b hts hN hZ) hgd87 hZ.2.1 hZ.2.2 hS (hl.1.trans hml.symm) dX2_text_11 dX2_text_14 dX2_text_15 dX2_text_17 dX2_text_20 (fun x hx => (hT x hx).elim) (Nat.le_of_ble_eq_true rfl) (Nat.le_of_ble_eq_true rfl) (Nat.le_of_ble_eq_true rfl) (Nat.le_of_ble_eq_true rfl) hlocks (fun t ht h1 h2 => ⟨(), trivial, ⟨keepAll hP h2, hD, h⟩, h1, fun q hq _ => h2 q hq⟩) hS.2.2 (Nat.le_of_ble_eq_true rfl) (Nat.le_of_ble_eq_true rfl)
theorem dL_text_0 : decode cL_text 0 = .ok (.aload_n 2, 1) := by decide +kernel
theorem dL_text_1 : decode cL_text 1 = .ok (.aload_n 0, 1) := by decide +kernel
theorem dL_text_2 : decode cL_text 2 = .ok (.iload_n 1, 1) := by decide +kernel
theorem dL_text_3 : decode cL_text 3 = .ok (.invokevirtual 72, 3) := by decide +kernel
theorem dL_text_6 : decode cL_text 6 = .ok (.putfield 76, 3) := by decide +kernel
theorem dL_text_9 : decode cL_text 9 = .ok (.goto 6, 3) := by decide +kernel
theorem dL_text_12 : decode cL_text 12 = .ok (.astore_n 3, 1) := by decide +kernel
theorem dL_text_13 : decode cL_text 13 = .ok (.iconst 1, 1) := by decide +kernel
theorem dL_text_14 : decode cL_text 14 = .ok (.ireturn, 1) := by decide +kernel
theorem dL_text_15 : decode cL_text 15 = .ok (.iconst 0, 1) := by decide +kernel
theorem dL_text_16 : decode cL_text 16 = .ok (.ireturn, 1) := by decide +kernel
def wxL_text (post : Int32 → Unit → Prop) (kf : Nat → Int32) (ff : Nat → Int32) (sf : Nat → Int32) (df : Nat → Int32) (pf : Nat → Int64) (gf : Nat → Int64) (bn : Int32) (p1 : Int32) : Prop :=
  wxX2_text (fun (z_1 : Unit) =>
    post (0 : Int32) ()
    ) (fun E => (E = eIO ∧ (post (1 : Int32) ()))) kf ff sf df pf gf bn p1
abbrev wl_xL_text : List Cond := .codeWith yL_text cL_text 4 (some .int) [(0, 9, 12, 31)] :: lwg
abbrev rm_xL_text : Room := { frames := 50, cells := 40, slots := 1660, locals := 1287 }
set_option maxHeartbeats 4000000 in
set_option maxRecDepth 100000 in
theorem kxL_text {post : Int32 → Unit → Prop} (l : Launch) (hfl : l.stackTraces = false) (G : GT) (x0 : Nat) (s0 : Nat) (s1 : Nat) (s2 : Nat) (u0 : Nat) (u1 : Nat) (u2 : Nat) (v0 : Nat) (v1 : Nat) (v2 : Nat) (b0 : Nat) (b1 : Nat) (b2 : Nat) (b3 : Nat) (b4 : Nat) (b5 : Nat) (b6 : Nat) (o0 : Nat) (tA : Int32) (wP : Int32) (nT : Int32) (aK : Int32) (lK : Int32) (sW : Int32) (rF : Int32) (dk : Nat → Int64) (wg : Nat → Int64) (op : Int64) (re : Int32) (uk : Nat → Int64) (uw : Nat → Int64) (uo : Int64) (ur : Int32) (vk : Nat → Int64) (vw : Nat → Int64) (vo : Int64) (vr : Int32) (kf : Nat → Int32) (ff : Nat → Int32) (sf : Nat → Int32) (df : Nat → Int32) (pf : Nat → Int64) (gf : Nat → Int64) (bn : Int32) (on : Int64) (od : UInt64) (os : Option Nat) (p1 : Int32) (sz : Nat) (h : wxL_text post kf ff sf df pf gf bn p1) : vx_Met l yL_text wl_xL_text rm_xL_text (va_Pc [.ref x0, .int p1, .ref o0] (fun U => U.heap.size = sz ∧ PP G [(x0, .inr (5, [.ref b0, .ref s0, .ref u0, .ref v0, .int tA, .int wP, .int nT, .int aK, .int lK, .int sW, .int rF])), (s0, .inr (4, [.ref b0, .ref s1, .ref s2, .long op, .int re])), (s1, .inl (G.2 1, 384, .inr (.inl dk))), (s2, .inl (G.2 1, 40, .inr (.inl wg))), (u0, .inr (4, [.ref b0, .ref u1, .ref u2, .long uo, .int ur])), (u1, .inl (G.2 1, 384, .inr (.inl uk))), (u2, .inl (G.2 1, 40, .inr (.inl uw))), (v0, .inr (4, [.ref b0, .ref v1, .ref v2, .long vo, .int vr])), (v1, .inl (G.2 1, 384, .inr (.inl vk))), (v2, .inl (G.2 1, 40, .inr (.inl vw))), (b0, .inr (3, [.ref b1, .ref b2, .ref b3, .ref b4, .ref b5, .ref b6, .int bn])), (b1, .inl (G.2 0, 40, .inl kf)), (b2, .inl (G.2 0, 40, .inl ff)), (b3, .inl (G.2 0, 40, .inl sf)), (b4, .inl (G.2 0, 40, .inl df)), (b5, .inl (G.2 1, 40, .inr (.inl pf))), (b6, .inl (G.2 1, 6, .inr (.inl gf))), (o0, .inr (6, [.long on, .double od, va_rf os]))] U.heap ∧ KK G U ∧ va_D (fun _ => True) [(x0, .inr (5, [.ref b0, .ref s0, .ref u0, .ref v0, .int tA, .int wP, .int nT, .int aK, .int lK, .int sW, .int rF])), (s0, .inr (4, [.ref b0, .ref s1, .ref s2, .long op, .int re])), (s1, .inl (G.2 1, 384, .inr (.inl dk))), (s2, .inl (G.2 1, 40, .inr (.inl wg))), (u0, .inr (4, [.ref b0, .ref u1, .ref u2, .long uo, .int ur])), (u1, .inl (G.2 1, 384, .inr (.inl uk))), (u2, .inl (G.2 1, 40, .inr (.inl uw))), (v0, .inr (4, [.ref b0, .ref v1, .ref v2, .long vo, .int vr])), (v1, .inl (G.2 1, 384, .inr (.inl vk))), (v2, .inl (G.2 1, 40, .inr (.inl vw))), (b0, .inr (3, [.ref b1, .ref b2, .ref b3, .ref b4, .ref b5, .ref b6, .int bn])), (b1, .inl (G.2 0, 40, .inl kf)), (b2, .inl (G.2 0, 40, .inl ff)), (b3, .inl (G.2 0, 40, .inl sf)), (b4, .inl (G.2 0, 40, .inl df)), (b5, .inl (G.2 1, 40, .inr (.inl pf))), (b6, .inl (G.2 1, 6, .inr (.inl gf))), (o0, .inr (6, [.long on, .double od, va_rf os]))] ∧ ZZ (va_A [(x0, .inr (5, [.ref b0, .ref s0, .ref u0, .ref v0, .int tA, .int wP, .int nT, .int aK, .int lK, .int sW, .int rF])), (s0, .inr (4, [.ref b0, .ref s1, .ref s2, .long op, .int re])), (s1, .inl (G.2 1, 384, .inr (.inl dk))), (s2, .inl (G.2 1, 40, .inr (.inl wg))), (u0, .inr (4, [.ref b0, .ref u1, .ref u2, .long uo, .int ur])), (u1, .inl (G.2 1, 384, .inr (.inl uk))), (u2, .inl (G.2 1, 40, .inr (.inl uw))), (v0, .inr (4, [.ref b0, .ref v1, .ref v2, .long vo, .int vr])), (v1, .inl (G.2 1, 384, .inr (.inl vk))), (v2, .inl (G.2 1, 40, .inr (.inl vw))), (b0, .inr (3, [.ref b1, .ref b2, .ref b3, .ref b4, .ref b5, .ref b6, .int bn])), (b1, .inl (G.2 0, 40, .inl kf)), (b2, .inl (G.2 0, 40, .inl ff)), (b3, .inl (G.2 0, 40, .inl sf)), (b4, .inl (G.2 0, 40, .inl df)), (b5, .inl (G.2 1, 40, .inr (.inl pf))), (b6, .inl (G.2 1, 6, .inr (.inl gf))), (o0, .inr (6, [.long on, .double od, va_rf os]))] sz) U U.heap ∧ JJ G (va_A [(x0, .inr (5, [.ref b0, .ref s0, .ref u0, .ref v0, .int tA, .int wP, .int nT, .int aK, .int lK, .int sW, .int rF])), (s0, .inr (4, [.ref b0, .ref s1, .ref s2, .long op, .int re])), (s1, .inl (G.2 1, 384, .inr (.inl dk))), (s2, .inl (G.2 1, 40, .inr (.inl wg))), (u0, .inr (4, [.ref b0, .ref u1, .ref u2, .long uo, .int ur])), (u1, .inl (G.2 1, 384, .inr (.inl uk))), (u2, .inl (G.2 1, 40, .inr (.inl uw))), (v0, .inr (4, [.ref b0, .ref v1, .ref v2, .long vo, .int vr])), (v1, .inl (G.2 1, 384, .inr (.inl vk))), (v2, .inl (G.2 1, 40, .inr (.inl vw))), (b0, .inr (3, [.ref b1, .ref b2, .ref b3, .ref b4, .ref b5, .ref b6, .int bn])), (b1, .inl (G.2 0, 40, .inl kf)), (b2, .inl (G.2 0, 40, .inl ff)), (b3, .inl (G.2 0, 40, .inl sf)), (b4, .inl (G.2 0, 40, .inl df)), (b5, .inl (G.2 1, 40, .inr (.inl pf))), (b6, .inl (G.2 1, 6, .inr (.inl gf))), (o0, .inr (6, [.long on, .double od, va_rf os]))] sz) U U.heap)) (va_Qi post (fun u t => ∃ osE : Option Nat, PP G [(x0, .inr (5, [.ref b0, .ref s0, .ref u0, .ref v0, .int tA, .int wP, .int nT, .int aK, .int lK, .int sW, .int rF])), (s0, .inr (4, [.ref b0, .ref s1, .ref s2, .long op, .int re])), (s1, .inl (G.2 1, 384, .inr (.inl dk))), (s2, .inl (G.2 1, 40, .inr (.inl wg))), (u0, .inr (4, [.ref b0, .ref u1, .ref u2, .long uo, .int ur])), (u1, .inl (G.2 1, 384, .inr (.inl uk))), (u2, .inl (G.2 1, 40, .inr (.inl uw))), (v0, .inr (4, [.ref b0, .ref v1, .ref v2, .long vo, .int vr])), (v1, .inl (G.2 1, 384, .inr (.inl vk))), (v2, .inl (G.2 1, 40, .inr (.inl vw))), (b0, .inr (3, [.ref b1, .ref b2, .ref b3, .ref b4, .ref b5, .ref b6, .int bn])), (b1, .inl (G.2 0, 40, .inl kf)), (b2, .inl (G.2 0, 40, .inl ff)), (b3, .inl (G.2 0, 40, .inl sf)), (b4, .inl (G.2 0, 40, .inl df)), (b5, .inl (G.2 1, 40, .inr (.inl pf))), (b6, .inl (G.2 1, 6, .inr (.inl gf))), (o0, .inr (6, [.long on, .double od, va_rf osE]))] t.heap ∧ va_D (va_A [(x0, .inr (5, [.ref b0, .ref s0, .ref u0, .ref v0, .int tA, .int wP, .int nT, .int aK, .int lK, .int sW, .int rF])), (s0, .inr (4, [.ref b0, .ref s1, .ref s2, .long op, .int re])), (s1, .inl (G.2 1, 384, .inr (.inl dk))), (s2, .inl (G.2 1, 40, .inr (.inl wg))), (u0, .inr (4, [.ref b0, .ref u1, .ref u2, .long uo, .int ur])), (u1, .inl (G.2 1, 384, .inr (.inl uk))), (u2, .inl (G.2 1, 40, .inr (.inl uw))), (v0, .inr (4, [.ref b0, .ref v1, .ref v2, .long vo, .int vr])), (v1, .inl (G.2 1, 384, .inr (.inl vk))), (v2, .inl (G.2 1, 40, .inr (.inl vw))), (b0, .inr (3, [.ref b1, .ref b2, .ref b3, .ref b4, .ref b5, .ref b6, .int bn])), (b1, .inl (G.2 0, 40, .inl kf)), (b2, .inl (G.2 0, 40, .inl ff)), (b3, .inl (G.2 0, 40, .inl sf)), (b4, .inl (G.2 0, 40, .inl df)), (b5, .inl (G.2 1, 40, .inr (.inl pf))), (b6, .inl (G.2 1, 6, .inr (.inl gf))), (o0, .inr (6, [.long on, .double od, va_rf os]))] sz) [(x0, .inr (5, [.ref b0, .ref s0, .ref u0, .ref v0, .int tA, .int wP, .int nT, .int aK, .int lK, .int sW, .int rF])), (s0, .inr (4, [.ref b0, .ref s1, .ref s2, .long op, .int re])), (s1, .inl (G.2 1, 384, .inr (.inl dk))), (s2, .inl (G.2 1, 40, .inr (.inl wg))), (u0, .inr (4, [.ref b0, .ref u1, .ref u2, .long uo, .int ur])), (u1, .inl (G.2 1, 384, .inr (.inl uk))), (u2, .inl (G.2 1, 40, .inr (.inl uw))), (v0, .inr (4, [.ref b0, .ref v1, .ref v2, .long vo, .int vr])), (v1, .inl (G.2 1, 384, .inr (.inl vk))), (v2, .inl (G.2 1, 40, .inr (.inl vw))), (b0, .inr (3, [.ref b1, .ref b2, .ref b3, .ref b4, .ref b5, .ref b6, .int bn])), (b1, .inl (G.2 0, 40, .inl kf)), (b2, .inl (G.2 0, 40, .inl ff)), (b3, .inl (G.2 0, 40, .inl sf)), (b4, .inl (G.2 0, 40, .inl df)), (b5, .inl (G.2 1, 40, .inr (.inl pf))), (b6, .inl (G.2 1, 6, .inr (.inl gf))), (o0, .inr (6, [.long on, .double od, va_rf osE]))]) (va_A [(x0, .inr (5, [.ref b0, .ref s0, .ref u0, .ref v0, .int tA, .int wP, .int nT, .int aK, .int lK, .int sW, .int rF])), (s0, .inr (4, [.ref b0, .ref s1, .ref s2, .long op, .int re])), (s1, .inl (G.2 1, 384, .inr (.inl dk))), (s2, .inl (G.2 1, 40, .inr (.inl wg))), (u0, .inr (4, [.ref b0, .ref u1, .ref u2, .long uo, .int ur])), (u1, .inl (G.2 1, 384, .inr (.inl uk))), (u2, .inl (G.2 1, 40, .inr (.inl uw))), (v0, .inr (4, [.ref b0, .ref v1, .ref v2, .long vo, .int vr])), (v1, .inl (G.2 1, 384, .inr (.inl vk))), (v2, .inl (G.2 1, 40, .inr (.inl vw))), (b0, .inr (3, [.ref b1, .ref b2, .ref b3, .ref b4, .ref b5, .ref b6, .int bn])), (b1, .inl (G.2 0, 40, .inl kf)), (b2, .inl (G.2 0, 40, .inl ff)), (b3, .inl (G.2 0, 40, .inl sf)), (b4, .inl (G.2 0, 40, .inl df)), (b5, .inl (G.2 1, 40, .inr (.inl pf))), (b6, .inl (G.2 1, 6, .inr (.inl gf))), (o0, .inr (6, [.long on, .double od, va_rf os]))] sz)) (fun _ _ _ => False) 40 1660 (va_A [(x0, .inr (5, [.ref b0, .ref s0, .ref u0, .ref v0, .int tA, .int wP, .int nT, .int aK, .int lK, .int sW, .int rF])), (s0, .inr (4, [.ref b0, .ref s1, .ref s2, .long op, .int re])), (s1, .inl (G.2 1, 384, .inr (.inl dk))), (s2, .inl (G.2 1, 40, .inr (.inl wg))), (u0, .inr (4, [.ref b0, .ref u1, .ref u2, .long uo, .int ur])), (u1, .inl (G.2 1, 384, .inr (.inl uk))), (u2, .inl (G.2 1, 40, .inr (.inl uw))), (v0, .inr (4, [.ref b0, .ref v1, .ref v2, .long vo, .int vr])), (v1, .inl (G.2 1, 384, .inr (.inl vk))), (v2, .inl (G.2 1, 40, .inr (.inl vw))), (b0, .inr (3, [.ref b1, .ref b2, .ref b3, .ref b4, .ref b5, .ref b6, .int bn])), (b1, .inl (G.2 0, 40, .inl kf)), (b2, .inl (G.2 0, 40, .inl ff)), (b3, .inl (G.2 0, 40, .inl sf)), (b4, .inl (G.2 0, 40, .inl df)), (b5, .inl (G.2 1, 40, .inr (.inl pf))), (b6, .inl (G.2 1, 6, .inr (.inl gf))), (o0, .inr (6, [.long on, .double od, va_rf os]))] sz) := by
  refine vx_ofWH (cc := cL_text) (maxL := 4) (ret := (some .int)) (by decide) rfl ?_
  intro p e s m args below meth c s₁ B hml hv
  have hTb := vx_table B (x := yL_text) (hh := [(0, 9, 12, 31)]) (atoms_spec (ws := wl_xL_text) B.pre _ List.mem_cons_self)
  obtain ⟨rfl, hsz, hP, hKK, hD0, hZ, hJ⟩ := hv
  obtain ⟨hK, hN, hR, hFW, hNC⟩ := id hKK
  have hx := B.exec
  have hb := B.bytes
  have hr := B.returns
  have hts0 := atoms_spec (ws := wl_xL_text) B.pre
  have hts : ∀ w ∈ lwg, w.before ([.ref x0, .int p1, .ref o0] : List Value).toArray s = true := fun w hw => hts0 w (List.mem_cons_of_mem _ hw)
  have hown : s.vm.findClass RL = some m.cls := findClass_of_methodNamed B.named
  have hlocks := B.notSynchronized
  subst hsz
  have hD := hD0.self (sz := s.heap.size)
  generalize hAe : va_A [(x0, .inr (5, [.ref b0, .ref s0, .ref u0, .ref v0, .int tA, .int wP, .int nT, .int aK, .int lK, .int sW, .int rF])), (s0, .inr (4, [.ref b0, .ref s1, .ref s2, .long op, .int re])), (s1, .inl (G.2 1, 384, .inr (.inl dk))), (s2, .inl (G.2 1, 40, .inr (.inl wg))), (u0, .inr (4, [.ref b0, .ref u1, .ref u2, .long uo, .int ur])), (u1, .inl (G.2 1, 384, .inr (.inl uk))), (u2, .inl (G.2 1, 40, .inr (.inl uw))), (v0, .inr (4, [.ref b0, .ref v1, .ref v2, .long vo, .int vr])), (v1, .inl (G.2 1, 384, .inr (.inl vk))), (v2, .inl (G.2 1, 40, .inr (.inl vw))), (b0, .inr (3, [.ref b1, .ref b2, .ref b3, .ref b4, .ref b5, .ref b6, .int bn])), (b1, .inl (G.2 0, 40, .inl kf)), (b2, .inl (G.2 0, 40, .inl ff)), (b3, .inl (G.2 0, 40, .inl sf)), (b4, .inl (G.2 0, 40, .inl df)), (b5, .inl (G.2 1, 40, .inr (.inl pf))), (b6, .inl (G.2 1, 6, .inr (.inl gf))), (o0, .inr (6, [.long on, .double od, va_rf os]))] s.heap.size = A at hD hZ hJ ⊢
  have hA : ∀ q : Nat, s.heap.size ≤ q → A q := fun q h => by rw [← hAe]; exact Or.inr h
  have hS : va_S A s.heap s.heap [] := va_S.rf
  obtain ⟨QC, hQC⟩ : ∃ Z, Z = (va_Qi post (fun u t => ∃ osE : Option Nat, PP G [(x0, .inr (5, [.ref b0, .ref s0, .ref u0, .ref v0, .int tA, .int wP, .int nT, .int aK, .int lK, .int sW, .int rF])), (s0, .inr (4, [.ref b0, .ref s1, .ref s2, .long op, .int re])), (s1, .inl (G.2 1, 384, .inr (.inl dk))), (s2, .inl (G.2 1, 40, .inr (.inl wg))), (u0, .inr (4, [.ref b0, .ref u1, .ref u2, .long uo, .int ur])), (u1, .inl (G.2 1, 384, .inr (.inl uk))), (u2, .inl (G.2 1, 40, .inr (.inl uw))), (v0, .inr (4, [.ref b0, .ref v1, .ref v2, .long vo, .int vr])), (v1, .inl (G.2 1, 384, .inr (.inl vk))), (v2, .inl (G.2 1, 40, .inr (.inl vw))), (b0, .inr (3, [.ref b1, .ref b2, .ref b3, .ref b4, .ref b5, .ref b6, .int bn])), (b1, .inl (G.2 0, 40, .inl kf)), (b2, .inl (G.2 0, 40, .inl ff)), (b3, .inl (G.2 0, 40, .inl sf)), (b4, .inl (G.2 0, 40, .inl df)), (b5, .inl (G.2 1, 40, .inr (.inl pf))), (b6, .inl (G.2 1, 6, .inr (.inl gf))), (o0, .inr (6, [.long on, .double od, va_rf osE]))] t.heap ∧ va_D A [(x0, .inr (5, [.ref b0, .ref s0, .ref u0, .ref v0, .int tA, .int wP, .int nT, .int aK, .int lK, .int sW, .int rF])), (s0, .inr (4, [.ref b0, .ref s1, .ref s2, .long op, .int re])), (s1, .inl (G.2 1, 384, .inr (.inl dk))), (s2, .inl (G.2 1, 40, .inr (.inl wg))), (u0, .inr (4, [.ref b0, .ref u1, .ref u2, .long uo, .int ur])), (u1, .inl (G.2 1, 384, .inr (.inl uk))), (u2, .inl (G.2 1, 40, .inr (.inl uw))), (v0, .inr (4, [.ref b0, .ref v1, .ref v2, .long vo, .int vr])), (v1, .inl (G.2 1, 384, .inr (.inl vk))), (v2, .inl (G.2 1, 40, .inr (.inl vw))), (b0, .inr (3, [.ref b1, .ref b2, .ref b3, .ref b4, .ref b5, .ref b6, .int bn])), (b1, .inl (G.2 0, 40, .inl kf)), (b2, .inl (G.2 0, 40, .inl ff)), (b3, .inl (G.2 0, 40, .inl sf)), (b4, .inl (G.2 0, 40, .inl df)), (b5, .inl (G.2 1, 40, .inr (.inl pf))), (b6, .inl (G.2 1, 6, .inr (.inl gf))), (o0, .inr (6, [.long on, .double od, va_rf osE]))]) A) := ⟨_, rfl⟩
  rw [← hQC]
  obtain ⟨XC, hXC⟩ : ∃ Z, Z = (fun _ _ _ => False) := ⟨_, rfl⟩
  rw [← hXC]
  obtain ⟨jE, hjE⟩ := hJ.2.1
  obtain ⟨jT, hjT1, hjT2⟩ := hJ.2.2.1
  obtain ⟨jO, hjO1, hjO2⟩ := hJ.2.2.2.1
  obtain ⟨jS, hjS⟩ := hJ.2.2.2.2.1
  obtain ⟨⟨zt, hZ1, hT1⟩, hZ2⟩ := id hZ
  have hP : PP G [(x0, .inr (5, [.ref b0, .ref s0, .ref u0, .ref v0, .int tA, .int wP, .int nT, .int aK, .int lK, .int sW, .int rF])), (s0, .inr (4, [.ref b0, .ref s1, .ref s2, .long op, .int re])), (s1, .inl (G.2 1, 384, .inr (.inl dk))), (s2, .inl (G.2 1, 40, .inr (.inl wg))), (u0, .inr (4, [.ref b0, .ref u1, .ref u2, .long uo, .int ur])), (u1, .inl (G.2 1, 384, .inr (.inl uk))), (u2, .inl (G.2 1, 40, .inr (.inl uw))), (v0, .inr (4, [.ref b0, .ref v1, .ref v2, .long vo, .int vr])), (v1, .inl (G.2 1, 384, .inr (.inl vk))), (v2, .inl (G.2 1, 40, .inr (.inl vw))), (b0, .inr (3, [.ref b1, .ref b2, .ref b3, .ref b4, .ref b5, .ref b6, .int bn])), (b1, .inl (G.2 0, 40, .inl kf)), (b2, .inl (G.2 0, 40, .inl ff)), (b3, .inl (G.2 0, 40, .inl sf)), (b4, .inl (G.2 0, 40, .inl df)), (b5, .inl (G.2 1, 40, .inr (.inl pf))), (b6, .inl (G.2 1, 6, .inr (.inl gf))), (o0, .inr (6, [.long on, .double od, va_rf os]))] s.heap := hP
  have hl := lv_entry ([.ref x0, .int p1, .ref o0]) (n := 4) (Nat.le_of_ble_eq_true rfl)
  rw [lg_entry_eq]
  generalize (lg_sl ([.ref x0, .int p1, .ref o0]) ++ List.replicate (4 - (lg_sl ([.ref x0, .int p1, .ref o0])).length) Slot.unset).toArray = ls at hl ⊢
  have hl : lv_has ls 4 [(0, .ref x0), (1, .int p1), (2, .ref o0)] := hl
  refine lv_aload_n hx hb dL_text_0 rfl (lv_at hl 2 rfl) ?_
  refine lv_aload_n hx hb dL_text_1 rfl (lv_at hl 0 rfl) ?_
  refine lv_iload_n hx hb dL_text_2 rfl (lv_at hl 1 rfl) ?_
  have hPc := va_P.sub (ws' := [(x0, .inr (5, [.ref b0, .ref s0, .ref u0, .ref v0, .int tA, .int wP, .int nT, .int aK, .int lK, .int sW, .int rF])), (s0, .inr (4, [.ref b0, .ref s1, .ref s2, .long op, .int re])), (s1, .inl (G.2 1, 384, .inr (.inl dk))), (s2, .inl (G.2 1, 40, .inr (.inl wg))), (u0, .inr (4, [.ref b0, .ref u1, .ref u2, .long uo, .int ur])), (u1, .inl (G.2 1, 384, .inr (.inl uk))), (u2, .inl (G.2 1, 40, .inr (.inl uw))), (v0, .inr (4, [.ref b0, .ref v1, .ref v2, .long vo, .int vr])), (v1, .inl (G.2 1, 384, .inr (.inl vk))), (v2, .inl (G.2 1, 40, .inr (.inl vw))), (b0, .inr (3, [.ref b1, .ref b2, .ref b3, .ref b4, .ref b5, .ref b6, .int bn])), (b1, .inl (G.2 0, 40, .inl kf)), (b2, .inl (G.2 0, 40, .inl ff)), (b3, .inl (G.2 0, 40, .inl sf)), (b4, .inl (G.2 0, 40, .inl df)), (b5, .inl (G.2 1, 40, .inr (.inl pf))), (b6, .inl (G.2 1, 6, .inr (.inl gf)))]) hP [0, 1, 2, 3, 4, 5, 6, 7, 8, 9, 10, 11, 12, 13, 14, 15, 16] rfl
  have hDc := hD.sub (ws' := [(x0, .inr (5, [.ref b0, .ref s0, .ref u0, .ref v0, .int tA, .int wP, .int nT, .int aK, .int lK, .int sW, .int rF])), (s0, .inr (4, [.ref b0, .ref s1, .ref s2, .long op, .int re])), (s1, .inl (G.2 1, 384, .inr (.inl dk))), (s2, .inl (G.2 1, 40, .inr (.inl wg))), (u0, .inr (4, [.ref b0, .ref u1, .ref u2, .long uo, .int ur])), (u1, .inl (G.2 1, 384, .inr (.inl uk))), (u2, .inl (G.2 1, 40, .inr (.inl uw))), (v0, .inr (4, [.ref b0, .ref v1, .ref v2, .long vo, .int vr])), (v1, .inl (G.2 1, 384, .inr (.inl vk))), (v2, .inl (G.2 1, 40, .inr (.inl vw))), (b0, .inr (3, [.ref b1, .ref b2, .ref b3, .ref b4, .ref b5, .ref b6, .int bn])), (b1, .inl (G.2 0, 40, .inl kf)), (b2, .inl (G.2 0, 40, .inl ff)), (b3, .inl (G.2 0, 40, .inl sf)), (b4, .inl (G.2 0, 40, .inl df)), (b5, .inl (G.2 1, 40, .inr (.inl pf))), (b6, .inl (G.2 1, 6, .inr (.inl gf)))]) [0, 1, 2, 3, 4, 5, 6, 7, 8, 9, 10, 11, 12, 13, 14, 15, 16] (by decide) rfl
  have hFc := va_free (wc := [(x0, .inr (5, [.ref b0, .ref s0, .ref u0, .ref v0, .int tA, .int wP, .int nT, .int aK, .int lK, .int sW, .int rF])), (s0, .inr (4, [.ref b0, .ref s1, .ref s2, .long op, .int re])), (s1, .inl (G.2 1, 384, .inr (.inl dk))), (s2, .inl (G.2 1, 40, .inr (.inl wg))), (u0, .inr (4, [.ref b0, .ref u1, .ref u2, .long uo, .int ur])), (u1, .inl (G.2 1, 384, .inr (.inl uk))), (u2, .inl (G.2 1, 40, .inr (.inl uw))), (v0, .inr (4, [.ref b0, .ref v1, .ref v2, .long vo, .int vr])), (v1, .inl (G.2 1, 384, .inr (.inl vk))), (v2, .inl (G.2 1, 40, .inr (.inl vw))), (b0, .inr (3, [.ref b1, .ref b2, .ref b3, .ref b4, .ref b5, .ref b6, .int bn])), (b1, .inl (G.2 0, 40, .inl kf)), (b2, .inl (G.2 0, 40, .inl ff)), (b3, .inl (G.2 0, 40, .inl sf)), (b4, .inl (G.2 0, 40, .inl df)), (b5, .inl (G.2 1, 40, .inr (.inl pf))), (b6, .inl (G.2 1, 6, .inr (.inl gf)))]) hD hS hA [0, 1, 2, 3, 4, 5, 6, 7, 8, 9, 10, 11, 12, 13, 14, 15, 16] rfl
  have hZc := (hZ.kept hS.2.1).narrow hFc
  have hJc := (hJ.kept hS.2.1).narrow hFc
  refine vx_callr (vx_runV (C := RX2) (As := [.int p1]) (rest := [.ref o0]) ⟨hx, hb, hml, hown, hts⟩ (kxX2_text l hfl G x0 s0 s1 s2 u0 u1 u2 v0 v1 v2 b0 b1 b2 b3 b4 b5 b6 tA wP nT aK lK sW rF dk wg op re uk uw uo ur vk vw vo vr kf ff sf df pf gf bn p1 _ h) (cwV 1 hts (gdV q665 q666 q667 q1 q668) rfl rfl rfl (by decide +kernel) ⟨Nat.le_of_ble_eq_true rfl, Nat.le_of_ble_eq_true rfl⟩) (preVwzj hPc hKK hDc hZc hJc (va_recv hK hPc (ci := 5) (q0 := 0) rfl rfl)) rfl rfl hl.1 rfl (lv_room (Nat.le_of_ble_eq_true rfl)) dL_text_3 ⟨Nat.le_of_ble_eq_true rfl, Nat.le_of_ble_eq_true rfl⟩) hS (fun q _ h => hFc q h) hFc (fun q _ h => hFc q h) (fun E ce q9 u t H1 locs ht hvm _ hB hz1 hk1 hS hc1 hc2 hc3 => ?_) (fun u na_1 t H1 locs ht hvm h hB hz1 hk1 hS => ?_)
  · obtain ⟨hP1, hD1, hpx⟩ := hB
    rw [ht] at hP1
    obtain ⟨hP, hD⟩ := va_join (wr := [(o0, .inr (6, [.long on, .double od, va_rf os]))]) (w1 := [(x0, .inr (5, [.ref b0, .ref s0, .ref u0, .ref v0, .int tA, .int wP, .int nT, .int aK, .int lK, .int sW, .int rF])), (s0, .inr (4, [.ref b0, .ref s1, .ref s2, .long op, .int re])), (s1, .inl (G.2 1, 384, .inr (.inl dk))), (s2, .inl (G.2 1, 40, .inr (.inl wg))), (u0, .inr (4, [.ref b0, .ref u1, .ref u2, .long uo, .int ur])), (u1, .inl (G.2 1, 384, .inr (.inl uk))), (u2, .inl (G.2 1, 40, .inr (.inl uw))), (v0, .inr (4, [.ref b0, .ref v1, .ref v2, .long vo, .int vr])), (v1, .inl (G.2 1, 384, .inr (.inl vk))), (v2, .inl (G.2 1, 40, .inr (.inl vw))), (b0, .inr (3, [.ref b1, .ref b2, .ref b3, .ref b4, .ref b5, .ref b6, .int bn])), (b1, .inl (G.2 0, 40, .inl kf)), (b2, .inl (G.2 0, 40, .inl ff)), (b3, .inl (G.2 0, 40, .inl sf)), (b4, .inl (G.2 0, 40, .inl df)), (b5, .inl (G.2 1, 40, .inr (.inl pf))), (b6, .inl (G.2 1, 6, .inr (.inl gf)))]) hP hD [0, 1, 2, 3, 4, 5, 6, 7, 8, 9, 10, 11, 12, 13, 14, 15, 16] [17] rfl rfl (by decide) (by decide) hk1 hFc hP1 hD1
    generalize H1 = H at hP hS hc1 ⊢
    have hP : PP G [(x0, .inr (5, [.ref b0, .ref s0, .ref u0, .ref v0, .int tA, .int wP, .int nT, .int aK, .int lK, .int sW, .int rF])), (s0, .inr (4, [.ref b0, .ref s1, .ref s2, .long op, .int re])), (s1, .inl (G.2 1, 384, .inr (.inl dk))), (s2, .inl (G.2 1, 40, .inr (.inl wg))), (u0, .inr (4, [.ref b0, .ref u1, .ref u2, .long uo, .int ur])), (u1, .inl (G.2 1, 384, .inr (.inl uk))), (u2, .inl (G.2 1, 40, .inr (.inl uw))), (v0, .inr (4, [.ref b0, .ref v1, .ref v2, .long vo, .int vr])), (v1, .inl (G.2 1, 384, .inr (.inl vk))), (v2, .inl (G.2 1, 40, .inr (.inl vw))), (b0, .inr (3, [.ref b1, .ref b2, .ref b3, .ref b4, .ref b5, .ref b6, .int bn])), (b1, .inl (G.2 0, 40, .inl kf)), (b2, .inl (G.2 0, 40, .inl ff)), (b3, .inl (G.2 0, 40, .inl sf)), (b4, .inl (G.2 0, 40, .inl df)), (b5, .inl (G.2 1, 40, .inr (.inl pf))), (b6, .inl (G.2 1, 6, .inr (.inl gf))), (o0, .inr (6, [.long on, .double od, va_rf os]))] H := va_P.sub hP [1, 2, 3, 4, 5, 6, 7, 8, 9, 10, 11, 12, 13, 14, 15, 16, 17, 0] rfl
    have hD : va_D A [(x0, .inr (5, [.ref b0, .ref s0, .ref u0, .ref v0, .int tA, .int wP, .int nT, .int aK, .int lK, .int sW, .int rF])), (s0, .inr (4, [.ref b0, .ref s1, .ref s2, .long op, .int re])), (s1, .inl (G.2 1, 384, .inr (.inl dk))), (s2, .inl (G.2 1, 40, .inr (.inl wg))), (u0, .inr (4, [.ref b0, .ref u1, .ref u2, .long uo, .int ur])), (u1, .inl (G.2 1, 384, .inr (.inl uk))), (u2, .inl (G.2 1, 40, .inr (.inl uw))), (v0, .inr (4, [.ref b0, .ref v1, .ref v2, .long vo, .int vr])), (v1, .inl (G.2 1, 384, .inr (.inl vk))), (v2, .inl (G.2 1, 40, .inr (.inl vw))), (b0, .inr (3, [.ref b1, .ref b2, .ref b3, .ref b4, .ref b5, .ref b6, .int bn])), (b1, .inl (G.2 0, 40, .inl kf)), (b2, .inl (G.2 0, 40, .inl ff)), (b3, .inl (G.2 0, 40, .inl sf)), (b4, .inl (G.2 0, 40, .inl df)), (b5, .inl (G.2 1, 40, .inr (.inl pf))), (b6, .inl (G.2 1, 6, .inr (.inl gf))), (o0, .inr (6, [.long on, .double od, va_rf os]))] := hD.sub [1, 2, 3, 4, 5, 6, 7, 8, 9, 10, 11, 12, 13, 14, 15, 16, 17, 0] (by decide) rfl
    rcases hpx with ⟨rfl, h⟩
    · refine vx_catch hown [] ⟨0, 9, 12, 31⟩ [] hTb (fun z hz => absurd hz List.not_mem_nil) (by decide) (by decide) (hts _ q572) (va_Nw.use rfl (hN _ n351)) hc1 hc2 hc3 ?_
      refine lv_astore_n hx hb dL_text_12 rfl hl (Nat.le_of_ble_eq_true rfl) rfl (fun ls hl => ?_)
      have hl : lv_has ls 4 [(3, .ref q9), (0, .ref x0), (1, .int p1), (2, .ref o0)] := hl
      refine lv_iconst (v := 1) hx hb dL_text_13 (by decide) ?_
      refine vx_ret (W.widen (k := 40) (n := 1660) (Nat.le_of_ble_eq_true rfl) (Nat.le_of_ble_eq_true rfl) ?_)
      subst hQC; exact W.iret (v := (1 : Int32)) hx hb hr (fun t ht hW => ⟨⟨_, (), rfl, h, os, by rw [ht]; exact hP, hD⟩, hS.F ht⟩) hS.2.2 dL_text_14
  · obtain ⟨hP1, hD1⟩ := hB
    rw [ht] at hP1
    obtain ⟨hP, hD⟩ := va_join (wr := [(o0, .inr (6, [.long on, .double od, va_rf os]))]) (w1 := [(x0, .inr (5, [.ref b0, .ref s0, .ref u0, .ref v0, .int tA, .int wP, .int nT, .int aK, .int lK, .int sW, .int rF])), (s0, .inr (4, [.ref b0, .ref s1, .ref s2, .long op, .int re])), (s1, .inl (G.2 1, 384, .inr (.inl dk))), (s2, .inl (G.2 1, 40, .inr (.inl wg))), (u0, .inr (4, [.ref b0, .ref u1, .ref u2, .long uo, .int ur])), (u1, .inl (G.2 1, 384, .inr (.inl uk))), (u2, .inl (G.2 1, 40, .inr (.inl uw))), (v0, .inr (4, [.ref b0, .ref v1, .ref v2, .long vo, .int vr])), (v1, .inl (G.2 1, 384, .inr (.inl vk))), (v2, .inl (G.2 1, 40, .inr (.inl vw))), (b0, .inr (3, [.ref b1, .ref b2, .ref b3, .ref b4, .ref b5, .ref b6, .int bn])), (b1, .inl (G.2 0, 40, .inl kf)), (b2, .inl (G.2 0, 40, .inl ff)), (b3, .inl (G.2 0, 40, .inl sf)), (b4, .inl (G.2 0, 40, .inl df)), (b5, .inl (G.2 1, 40, .inr (.inl pf))), (b6, .inl (G.2 1, 6, .inr (.inl gf)))]) hP hD [0, 1, 2, 3, 4, 5, 6, 7, 8, 9, 10, 11, 12, 13, 14, 15, 16] [17] rfl rfl (by decide) (by decide) hk1 hFc hP1 hD1
    generalize H1 = H at hP hS ⊢
    have hP : PP G [(x0, .inr (5, [.ref b0, .ref s0, .ref u0, .ref v0, .int tA, .int wP, .int nT, .int aK, .int lK, .int sW, .int rF])), (s0, .inr (4, [.ref b0, .ref s1, .ref s2, .long op, .int re])), (s1, .inl (G.2 1, 384, .inr (.inl dk))), (s2, .inl (G.2 1, 40, .inr (.inl wg))), (u0, .inr (4, [.ref b0, .ref u1, .ref u2, .long uo, .int ur])), (u1, .inl (G.2 1, 384, .inr (.inl uk))), (u2, .inl (G.2 1, 40, .inr (.inl uw))), (v0, .inr (4, [.ref b0, .ref v1, .ref v2, .long vo, .int vr])), (v1, .inl (G.2 1, 384, .inr (.inl vk))), (v2, .inl (G.2 1, 40, .inr (.inl vw))), (b0, .inr (3, [.ref b1, .ref b2, .ref b3, .ref b4, .ref b5, .ref b6, .int bn])), (b1, .inl (G.2 0, 40, .inl kf)), (b2, .inl (G.2 0, 40, .inl ff)), (b3, .inl (G.2 0, 40, .inl sf)), (b4, .inl (G.2 0, 40, .inl df)), (b5, .inl (G.2 1, 40, .inr (.inl pf))), (b6, .inl (G.2 1, 6, .inr (.inl gf))), (o0, .inr (6, [.long on, .double od, va_rf os]))] H := va_P.sub hP [1, 2, 3, 4, 5, 6, 7, 8, 9, 10, 11, 12, 13, 14, 15, 16, 17, 0] rfl
    have hD : va_D A [(x0, .inr (5, [.ref b0, .ref s0, .ref u0, .ref v0, .int tA, .int wP, .int nT, .int aK, .int lK, .int sW, .int rF])), (s0, .inr (4, [.ref b0, .ref s1, .ref s2, .long op, .int re])), (s1, .inl (G.2 1, 384, .inr (.inl dk))), (s2, .inl (G.2 1, 40, .inr (.inl wg))), (u0, .inr (4, [.ref b0, .ref u1, .ref u2, .long uo, .int ur])), (u1, .inl (G.2 1, 384, .inr (.inl uk))), (u2, .inl (G.2 1, 40, .inr (.inl uw))), (v0, .inr (4, [.ref b0, .ref v1, .ref v2, .long vo, .int vr])), (v1, .inl (G.2 1, 384, .inr (.inl vk))), (v2, .inl (G.2 1, 40, .inr (.inl vw))), (b0, .inr (3, [.ref b1, .ref b2, .ref b3, .ref b4, .ref b5, .ref b6, .int bn])), (b1, .inl (G.2 0, 40, .inl kf)), (b2, .inl (G.2 0, 40, .inl ff)), (b3, .inl (G.2 0, 40, .inl sf)), (b4, .inl (G.2 0, 40, .inl df)), (b5, .inl (G.2 1, 40, .inr (.inl pf))), (b6, .inl (G.2 1, 6, .inr (.inl gf))), (o0, .inr (6, [.long on, .double od, va_rf os]))] := hD.sub [1, 2, 3, 4, 5, 6, 7, 8, 9, 10, 11, 12, 13, 14, 15, 16, 17, 0] (by decide) rfl
    refine va_putN (D := G.1) (ci := 6) (v := .ref na_1) (ty := .object "java/lang/String") (C := RX3) (T := TX3) (N := 3) hx hb hts igX3 tyX3 tyX3_ok nmX3 hown hK hP hD hS 17 rfl rfl 2 (by decide) (va_Nw.use rfl (hN _ n503)) (fun _ h9 => h9) rfl (by decide +kernel) rfl rfl (Nat.le_of_ble_eq_true rfl) dL_text_6 (fun H locs hP hD hS => ?_)
    have hP : PP G [(x0, .inr (5, [.ref b0, .ref s0, .ref u0, .ref v0, .int tA, .int wP, .int nT, .int aK, .int lK, .int sW, .int rF])), (s0, .inr (4, [.ref b0, .ref s1, .ref s2, .long op, .int re])), (s1, .inl (G.2 1, 384, .inr (.inl dk))), (s2, .inl (G.2 1, 40, .inr (.inl wg))), (u0, .inr (4, [.ref b0, .ref u1, .ref u2, .long uo, .int ur])), (u1, .inl (G.2 1, 384, .inr (.inl uk))), (u2, .inl (G.2 1, 40, .inr (.inl uw))), (v0, .inr (4, [.ref b0, .ref v1, .ref v2, .long vo, .int vr])), (v1, .inl (G.2 1, 384, .inr (.inl vk))), (v2, .inl (G.2 1, 40, .inr (.inl vw))), (b0, .inr (3, [.ref b1, .ref b2, .ref b3, .ref b4, .ref b5, .ref b6, .int bn])), (b1, .inl (G.2 0, 40, .inl kf)), (b2, .inl (G.2 0, 40, .inl ff)), (b3, .inl (G.2 0, 40, .inl sf)), (b4, .inl (G.2 0, 40, .inl df)), (b5, .inl (G.2 1, 40, .inr (.inl pf))), (b6, .inl (G.2 1, 6, .inr (.inl gf))), (o0, .inr (6, [.long on, .double od, .ref na_1]))] H := hP
    have hD : va_D A [(x0, .inr (5, [.ref b0, .ref s0, .ref u0, .ref v0, .int tA, .int wP, .int nT, .int aK, .int lK, .int sW, .int rF])), (s0, .inr (4, [.ref b0, .ref s1, .ref s2, .long op, .int re])), (s1, .inl (G.2 1, 384, .inr (.inl dk))), (s2, .inl (G.2 1, 40, .inr (.inl wg))), (u0, .inr (4, [.ref b0, .ref u1, .ref u2, .long uo, .int ur])), (u1, .inl (G.2 1, 384, .inr (.inl uk))), (u2, .inl (G.2 1, 40, .inr (.inl uw))), (v0, .inr (4, [.ref b0, .ref v1, .ref v2, .long vo, .int vr])), (v1, .inl (G.2 1, 384, .inr (.inl vk))), (v2, .inl (G.2 1, 40, .inr (.inl vw))), (b0, .inr (3, [.ref b1, .ref b2, .ref b3, .ref b4, .ref b5, .ref b6, .int bn])), (b1, .inl (G.2 0, 40, .inl kf)), (b2, .inl (G.2 0, 40, .inl ff)), (b3, .inl (G.2 0, 40, .inl sf)), (b4, .inl (G.2 0, 40, .inl df)), (b5, .inl (G.2 1, 40, .inr (.inl pf))), (b6, .inl (G.2 1, 6, .inr (.inl gf))), (o0, .inr (6, [.long on, .double od, .ref na_1]))] := hD
    refine lv_goto (tgt := 15) hx hb dL_text_9 (by decide) ?_
    refine lv_iconst (v := 0) hx hb dL_text_15 (by decide) ?_
    refine vx_ret (W.widen (k := 40) (n := 1660) (Nat.le_of_ble_eq_true rfl) (Nat.le_of_ble_eq_true rfl) ?_)
    subst hQC; exact W.iret (v := (0 : Int32)) hx hb hr (fun t ht hW => ⟨⟨_, (), rfl, h, some na_1, by rw [ht]; exact hP, hD⟩, hS.F ht⟩) hS.2.2 dL_text_16
