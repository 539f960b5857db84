theorem q1350 : (Cond.methodLink RX4 239 yX4_textNow) ∈ lwg := lwgR 1350 (by decide +kernel) (by decide +kernel)
theorem q1352 : (Cond.instanceMethod yX4_textNow) ∈ lwg := lwgR 1352 (by decide +kernel) (by decide +kernel)
theorem q1353 : (Cond.code yX4_textNow cX4_textNow 3 (some (.object "java/lang/String"))) ∈ lwg := lwgR 1353 (by decide +kernel) (by decide +kernel)
theorem q1354 : (Cond.classLink RX4 221 "java/lang/StringBuilder") ∈ lwg := lwgR 1354 (by decide +kernel) (by decide +kernel)
theorem q1355 : (Cond.methodLink RX4 223 yJ4_init_da8c8) ∈ lwg := lwgR 1355 (by decide +kernel) (by decide +kernel)
theorem q1357 : (Cond.methodLink RX4 226 yJ4_append_15ec4) ∈ lwg := lwgR 1357 (by decide +kernel) (by decide +kernel)
theorem q1358 : (Cond.methodLink RX4 230 yJ4_append_bf812) ∈ lwg := lwgR 1358 (by decide +kernel) (by decide +kernel)
theorem q1359 : (Cond.methodLink RX4 233 yJ4_toString_0e30d) ∈ lwg := lwgR 1359 (by decide +kernel) (by decide +kernel)
theorem q1366 : (Cond.methodLink RX4 255 yJ0_charAt_5068e) ∈ lwg := lwgR 1366 (by decide +kernel) (by decide +kernel)
theorem q1367 : (Cond.instanceMethod yJ0_charAt_5068e) ∈ lwg := lwgR 1367 (by decide +kernel) (by decide +kernel)
theorem q1368 : (Cond.selects RJ0 yJ0_charAt_5068e yJ0_charAt_5068e) ∈ lwg := lwgR 1368 (by decide +kernel) (by decide +kernel)
theorem q1369 : (Cond.code yJ0_charAt_5068e cJ0_charAt_5068e 2 (some .char)) ∈ lwg := lwgR 1369 (by decide +kernel) (by decide +kernel)
theorem q1381 : (Cond.methodLink RX4 261 yJ4_append_cf468) ∈ lwg := lwgR 1381 (by decide +kernel) (by decide +kernel)
theorem q881 : (Cond.instanceMethod yJ4_append_15ec4) ∈ lwg := lwgR 881 (by decide +kernel) (by decide +kernel)
theorem q882 : (Cond.selects RJ4 yJ4_append_15ec4 yJ4_append_15ec4) ∈ lwg := lwgR 882 (by decide +kernel) (by decide +kernel)
theorem q883 : (Cond.code yJ4_append_15ec4 cJ4_append_15ec4 2 (some (.object "java/lang/StringBuilder"))) ∈ lwg := lwgR 883 (by decide +kernel) (by decide +kernel)
theorem qs41 : (Cond.selects RX4 yX4_textNow yX4_textNow) ∈ lwg := lwgL 41 (by decide +kernel) (by decide +kernel)
theorem dX4_textNow_0 : decode cX4_textNow 0 = .ok (.aload_n 0, 1) := by decide +kernel
theorem dX4_textNow_1 : decode cX4_textNow 1 = .ok (.getfield 23, 3) := by decide +kernel
theorem dX4_textNow_4 : decode cX4_textNow 4 = .ok (.iload_n 1, 1) := by decide +kernel
theorem dX4_textNow_5 : decode cX4_textNow 5 = .ok (.invokeinterface 96 2, 5) := by decide +kernel
theorem dX4_textNow_10 : decode cX4_textNow 10 = .ok (.checkcast 102, 3) := by decide +kernel
theorem dX4_textNow_13 : decode cX4_textNow 13 = .ok (.astore_n 2, 1) := by decide +kernel
theorem dX4_textNow_14 : decode cX4_textNow 14 = .ok (.aload_n 2, 1) := by decide +kernel
theorem dX4_textNow_15 : decode cX4_textNow 15 = .ok (.iconst 0, 1) := by decide +kernel
theorem dX4_textNow_16 : decode cX4_textNow 16 = .ok (.iaload, 1) := by decide +kernel
theorem dX4_textNow_17 : decode cX4_textNow 17 = .ok (.tableswitch 171 0 3 #[31, 53, 79, 125], 31) := by decide +kernel
theorem dX4_textNow_48 : decode cX4_textNow 48 = .ok (.new 221, 3) := by decide +kernel
theorem dX4_textNow_51 : decode cX4_textNow 51 = .ok (.dup, 1) := by decide +kernel
theorem dX4_textNow_52 : decode cX4_textNow 52 = .ok (.invokespecial 223, 3) := by decide +kernel
theorem dX4_textNow_55 : decode cX4_textNow 55 = .ok (.ldc 224, 2) := by decide +kernel
theorem dX4_textNow_57 : decode cX4_textNow 57 = .ok (.invokevirtual 226, 3) := by decide +kernel
theorem dX4_textNow_60 : decode cX4_textNow 60 = .ok (.aload_n 2, 1) := by decide +kernel
theorem dX4_textNow_61 : decode cX4_textNow 61 = .ok (.iconst 1, 1) := by decide +kernel
theorem dX4_textNow_62 : decode cX4_textNow 62 = .ok (.iaload, 1) := by decide +kernel
theorem dX4_textNow_63 : decode cX4_textNow 63 = .ok (.invokevirtual 230, 3) := by decide +kernel
theorem dX4_textNow_66 : decode cX4_textNow 66 = .ok (.invokevirtual 233, 3) := by decide +kernel
theorem dX4_textNow_69 : decode cX4_textNow 69 = .ok (.areturn, 1) := by decide +kernel
theorem dX4_textNow_70 : decode cX4_textNow 70 = .ok (.new 221, 3) := by decide +kernel
theorem dX4_textNow_73 : decode cX4_textNow 73 = .ok (.dup, 1) := by decide +kernel
theorem dX4_textNow_74 : decode cX4_textNow 74 = .ok (.invokespecial 223, 3) := by decide +kernel
theorem dX4_textNow_77 : decode cX4_textNow 77 = .ok (.ldc 237, 2) := by decide +kernel
theorem dX4_textNow_79 : decode cX4_textNow 79 = .ok (.invokevirtual 226, 3) := by decide +kernel
theorem dX4_textNow_82 : decode cX4_textNow 82 = .ok (.aload_n 0, 1) := by decide +kernel
theorem dX4_textNow_83 : decode cX4_textNow 83 = .ok (.aload_n 2, 1) := by decide +kernel
theorem dX4_textNow_84 : decode cX4_textNow 84 = .ok (.iconst 1, 1) := by decide +kernel
theorem dX4_textNow_85 : decode cX4_textNow 85 = .ok (.iaload, 1) := by decide +kernel
theorem dX4_textNow_86 : decode cX4_textNow 86 = .ok (.invokevirtual 239, 3) := by decide +kernel
theorem dX4_textNow_89 : decode cX4_textNow 89 = .ok (.invokevirtual 226, 3) := by decide +kernel
theorem dX4_textNow_92 : decode cX4_textNow 92 = .ok (.invokevirtual 233, 3) := by decide +kernel
theorem dX4_textNow_95 : decode cX4_textNow 95 = .ok (.areturn, 1) := by decide +kernel
theorem dX4_textNow_96 : decode cX4_textNow 96 = .ok (.new 221, 3) := by decide +kernel
theorem dX4_textNow_99 : decode cX4_textNow 99 = .ok (.dup, 1) := by decide +kernel
theorem dX4_textNow_100 : decode cX4_textNow 100 = .ok (.invokespecial 223, 3) := by decide +kernel
theorem dX4_textNow_103 : decode cX4_textNow 103 = .ok (.ldc 243, 2) := by decide +kernel
theorem dX4_textNow_105 : decode cX4_textNow 105 = .ok (.invokevirtual 226, 3) := by decide +kernel
theorem dX4_textNow_108 : decode cX4_textNow 108 = .ok (.aload_n 0, 1) := by decide +kernel
theorem dX4_textNow_109 : decode cX4_textNow 109 = .ok (.aload_n 2, 1) := by decide +kernel
theorem dX4_textNow_110 : decode cX4_textNow 110 = .ok (.iconst 1, 1) := by decide +kernel
theorem dX4_textNow_111 : decode cX4_textNow 111 = .ok (.iaload, 1) := by decide +kernel
theorem dX4_textNow_112 : decode cX4_textNow 112 = .ok (.invokevirtual 239, 3) := by decide +kernel
theorem dX4_textNow_115 : decode cX4_textNow 115 = .ok (.invokevirtual 226, 3) := by decide +kernel
theorem dX4_textNow_118 : decode cX4_textNow 118 = .ok (.ldc 245, 2) := by decide +kernel
theorem dX4_textNow_120 : decode cX4_textNow 120 = .ok (.invokevirtual 226, 3) := by decide +kernel
theorem dX4_textNow_123 : decode cX4_textNow 123 = .ok (.aload_n 0, 1) := by decide +kernel
theorem dX4_textNow_124 : decode cX4_textNow 124 = .ok (.aload_n 2, 1) := by decide +kernel
theorem dX4_textNow_125 : decode cX4_textNow 125 = .ok (.iconst 2, 1) := by decide +kernel
theorem dX4_textNow_126 : decode cX4_textNow 126 = .ok (.iaload, 1) := by decide +kernel
theorem dX4_textNow_127 : decode cX4_textNow 127 = .ok (.invokevirtual 239, 3) := by decide +kernel
theorem dX4_textNow_130 : decode cX4_textNow 130 = .ok (.invokevirtual 226, 3) := by decide +kernel
theorem dX4_textNow_133 : decode cX4_textNow 133 = .ok (.ldc 247, 2) := by decide +kernel
theorem dX4_textNow_135 : decode cX4_textNow 135 = .ok (.invokevirtual 226, 3) := by decide +kernel
theorem dX4_textNow_138 : decode cX4_textNow 138 = .ok (.invokevirtual 233, 3) := by decide +kernel
theorem dX4_textNow_141 : decode cX4_textNow 141 = .ok (.areturn, 1) := by decide +kernel
theorem dX4_textNow_142 : decode cX4_textNow 142 = .ok (.new 221, 3) := by decide +kernel
theorem dX4_textNow_145 : decode cX4_textNow 145 = .ok (.dup, 1) := by decide +kernel
theorem dX4_textNow_146 : decode cX4_textNow 146 = .ok (.invokespecial 223, 3) := by decide +kernel
theorem dX4_textNow_149 : decode cX4_textNow 149 = .ok (.ldc 243, 2) := by decide +kernel
theorem dX4_textNow_151 : decode cX4_textNow 151 = .ok (.invokevirtual 226, 3) := by decide +kernel
theorem dX4_textNow_154 : decode cX4_textNow 154 = .ok (.aload_n 0, 1) := by decide +kernel
theorem dX4_textNow_155 : decode cX4_textNow 155 = .ok (.aload_n 2, 1) := by decide +kernel
theorem dX4_textNow_156 : decode cX4_textNow 156 = .ok (.iconst 1, 1) := by decide +kernel
theorem dX4_textNow_157 : decode cX4_textNow 157 = .ok (.iaload, 1) := by decide +kernel
theorem dX4_textNow_158 : decode cX4_textNow 158 = .ok (.invokevirtual 239, 3) := by decide +kernel
theorem dX4_textNow_161 : decode cX4_textNow 161 = .ok (.invokevirtual 226, 3) := by decide +kernel
theorem dX4_textNow_164 : decode cX4_textNow 164 = .ok (.ldc 249, 2) := by decide +kernel
theorem dX4_textNow_166 : decode cX4_textNow 166 = .ok (.invokevirtual 226, 3) := by decide +kernel
theorem dX4_textNow_169 : decode cX4_textNow 169 = .ok (.aload_n 0, 1) := by decide +kernel
theorem dX4_textNow_170 : decode cX4_textNow 170 = .ok (.aload_n 2, 1) := by decide +kernel
theorem dX4_textNow_171 : decode cX4_textNow 171 = .ok (.iconst 2, 1) := by decide +kernel
theorem dX4_textNow_172 : decode cX4_textNow 172 = .ok (.iaload, 1) := by decide +kernel
theorem dX4_textNow_173 : decode cX4_textNow 173 = .ok (.invokevirtual 239, 3) := by decide +kernel
theorem dX4_textNow_176 : decode cX4_textNow 176 = .ok (.invokevirtual 226, 3) := by decide +kernel
theorem dX4_textNow_179 : decode cX4_textNow 179 = .ok (.ldc 247, 2) := by decide +kernel
theorem dX4_textNow_181 : decode cX4_textNow 181 = .ok (.invokevirtual 226, 3) := by decide +kernel
theorem dX4_textNow_184 : decode cX4_textNow 184 = .ok (.invokevirtual 233, 3) := by decide +kernel
theorem dX4_textNow_187 : decode cX4_textNow 187 = .ok (.areturn, 1) := by decide +kernel
theorem dX4_textNow_188 : decode cX4_textNow 188 = .ok (.new 221, 3) := by decide +kernel
theorem dX4_textNow_191 : decode cX4_textNow 191 = .ok (.dup, 1) := by decide +kernel
theorem dX4_textNow_192 : decode cX4_textNow 192 = .ok (.invokespecial 223, 3) := by decide +kernel
theorem dX4_textNow_195 : decode cX4_textNow 195 = .ok (.ldc 251, 2) := by decide +kernel
theorem dX4_textNow_197 : decode cX4_textNow 197 = .ok (.invokevirtual 226, 3) := by decide +kernel
theorem dX4_textNow_200 : decode cX4_textNow 200 = .ok (.ldc 253, 2) := by decide +kernel
theorem dX4_textNow_202 : decode cX4_textNow 202 = .ok (.aload_n 2, 1) := by decide +kernel
theorem dX4_textNow_203 : decode cX4_textNow 203 = .ok (.iconst 0, 1) := by decide +kernel
theorem dX4_textNow_204 : decode cX4_textNow 204 = .ok (.iaload, 1) := by decide +kernel
theorem dX4_textNow_205 : decode cX4_textNow 205 = .ok (.iconst 4, 1) := by decide +kernel
theorem dX4_textNow_206 : decode cX4_textNow 206 = .ok (.isub, 1) := by decide +kernel
theorem dX4_textNow_207 : decode cX4_textNow 207 = .ok (.invokevirtual 255, 3) := by decide +kernel
theorem dX4_textNow_210 : decode cX4_textNow 210 = .ok (.invokevirtual 261, 3) := by decide +kernel
theorem dX4_textNow_213 : decode cX4_textNow 213 = .ok (.aload_n 2, 1) := by decide +kernel
theorem dX4_textNow_214 : decode cX4_textNow 214 = .ok (.iconst 1, 1) := by decide +kernel
theorem dX4_textNow_215 : decode cX4_textNow 215 = .ok (.iaload, 1) := by decide +kernel
theorem dX4_textNow_216 : decode cX4_textNow 216 = .ok (.invokevirtual 230, 3) := by decide +kernel
theorem dX4_textNow_219 : decode cX4_textNow 219 = .ok (.ldc_w 264, 3) := by decide +kernel
theorem dX4_textNow_222 : decode cX4_textNow 222 = .ok (.invokevirtual 226, 3) := by decide +kernel
theorem dX4_textNow_225 : decode cX4_textNow 225 = .ok (.aload_n 0, 1) := by decide +kernel
theorem dX4_textNow_226 : decode cX4_textNow 226 = .ok (.aload_n 2, 1) := by decide +kernel
theorem dX4_textNow_227 : decode cX4_textNow 227 = .ok (.iconst 2, 1) := by decide +kernel
theorem dX4_textNow_228 : decode cX4_textNow 228 = .ok (.iaload, 1) := by decide +kernel
theorem dX4_textNow_229 : decode cX4_textNow 229 = .ok (.invokevirtual 239, 3) := by decide +kernel
theorem dX4_textNow_232 : decode cX4_textNow 232 = .ok (.invokevirtual 226, 3) := by decide +kernel
theorem dX4_textNow_235 : decode cX4_textNow 235 = .ok (.invokevirtual 233, 3) := by decide +kernel
theorem dX4_textNow_238 : decode cX4_textNow 238 = .ok (.areturn, 1) := by decide +kernel
def wnX4_textNow : Nat → (Nat × (Nat → Int32) → Prop) → (Int32) → (Int32) → (Int64) → (Int32) → (Int32) → (Nat) → (Nat → Nat → Int32) → (Nat) → (Nat) → (Int32) → Prop
  | 0, _, _, _, _, _, _, _, _, _, _, _ => False
  | nR+1, post, th, mr, po, mf, sp, sn, sq, mcb, msb, p1 =>
    vp_in p1 sn ∧
    ((sq (p1.toNatClampNeg) (0 : Int32).toNatClampNeg) = 0 →
      ((0 + 1) ≤ mcb ∧ (0 + 4) ≤ msb) ∧
      (((0 + 1) + 1) ≤ mcb ∧ ((0 + 4) + 16) ≤ msb) ∧
      wnJ4_init_da8c8 (fun (a_1 : Nat) =>
        ∃ b_1 b_2 : Nat,
        ((((0 + 1) + 1) + b_1) ≤ mcb ∧ (((0 + 4) + 16) + b_2) ≤ msb) ∧
        wnJ4_append_15ec4 (fun (z_1 : Int32 × Nat × (Nat → Int32)) =>
          ∃ b_3 b_4 : Nat,
          (((((0 + 1) + 1) + b_1) + b_3) ≤ mcb ∧ ((((0 + 4) + 16) + b_2) + b_4) ≤ msb) ∧
          wnJ4_append_bf812 (fun (z_2 : Int32 × Nat × (Nat → Int32)) =>
            ∃ b_5 b_6 : Nat,
            ((((((0 + 1) + 1) + b_1) + b_3) + b_5) ≤ mcb ∧ (((((0 + 4) + 16) + b_2) + b_4) + b_6) ≤ msb) ∧
            wnJ4_toString_0e30d (fun (z_3 : Nat × (Nat → Int32)) =>
              ((((((0 + 1) + 1) + b_1) + b_3) + b_5) ≤ mcb ∧ (((((0 + 4) + 16) + b_2) + b_4) + b_6) ≤ msb) ∧
              post (z_3.1, z_3.2)
              ) z_2.1 z_2.2.1 z_2.2.2 b_5 b_6
            ) z_1.1 z_1.2.1 z_1.2.2 b_3 b_4 (sq (p1.toNatClampNeg) (1 : Int32).toNatClampNeg)
          ) (0 : Int32) (16) (fun _ => (0 : Int32)) (1) (fun j => ([112] : List Int32).getD j 0) b_1 b_2
        ) 
    ) ∧ (¬ (sq (p1.toNatClampNeg) (0 : Int32).toNatClampNeg) = 0 →
    ((sq (p1.toNatClampNeg) (0 : Int32).toNatClampNeg) = 1 →
      ((0 + 1) ≤ mcb ∧ (0 + 4) ≤ msb) ∧
      (((0 + 1) + 1) ≤ mcb ∧ ((0 + 4) + 16) ≤ msb) ∧
      wnJ4_init_da8c8 (fun (a_2 : Nat) =>
        ∃ b_7 b_8 : Nat,
        ((((0 + 1) + 1) + b_7) ≤ mcb ∧ (((0 + 4) + 16) + b_8) ≤ msb) ∧
        wnJ4_append_15ec4 (fun (z_4 : Int32 × Nat × (Nat → Int32)) =>
          ∃ b_9 b_10 : Nat,
          (((((0 + 1) + 1) + b_7) + b_9) ≤ mcb ∧ ((((0 + 4) + 16) + b_8) + b_10) ≤ msb) ∧
          wnX4_textNow nR (fun (z_5 : Nat × (Nat → Int32)) =>
            ∃ b_11 b_12 : Nat,
            ((((((0 + 1) + 1) + b_7) + b_9) + b_11) ≤ mcb ∧ (((((0 + 4) + 16) + b_8) + b_10) + b_12) ≤ msb) ∧
            wnJ4_append_15ec4 (fun (z_6 : Int32 × Nat × (Nat → Int32)) =>
              ∃ b_13 b_14 : Nat,
              (((((((0 + 1) + 1) + b_7) + b_9) + b_11) + b_13) ≤ mcb ∧ ((((((0 + 4) + 16) + b_8) + b_10) + b_12) + b_14) ≤ msb) ∧
              wnJ4_toString_0e30d (fun (z_7 : Nat × (Nat → Int32)) =>
                (((((((0 + 1) + 1) + b_7) + b_9) + b_11) + b_13) ≤ mcb ∧ ((((((0 + 4) + 16) + b_8) + b_10) + b_12) + b_14) ≤ msb) ∧
                post (z_7.1, z_7.2)
                ) z_6.1 z_6.2.1 z_6.2.2 b_13 b_14
              ) z_4.1 z_4.2.1 z_4.2.2 z_5.1 z_5.2 b_11 b_12
            ) th mr po mf sp sn sq b_9 b_10 (sq (p1.toNatClampNeg) (1 : Int32).toNatClampNeg)
          ) (0 : Int32) (16) (fun _ => (0 : Int32)) (1) (fun j => ([45] : List Int32).getD j 0) b_7 b_8
        ) 
    ) ∧ (¬ (sq (p1.toNatClampNeg) (0 : Int32).toNatClampNeg) = 1 →
    ((sq (p1.toNatClampNeg) (0 : Int32).toNatClampNeg) = 2 →
      ((0 + 1) ≤ mcb ∧ (0 + 4) ≤ msb) ∧
      (((0 + 1) + 1) ≤ mcb ∧ ((0 + 4) + 16) ≤ msb) ∧
      wnJ4_init_da8c8 (fun (a_3 : Nat) =>
        ∃ b_15 b_16 : Nat,
        ((((0 + 1) + 1) + b_15) ≤ mcb ∧ (((0 + 4) + 16) + b_16) ≤ msb) ∧
        wnJ4_append_15ec4 (fun (z_8 : Int32 × Nat × (Nat → Int32)) =>
          ∃ b_17 b_18 : Nat,
          (((((0 + 1) + 1) + b_15) + b_17) ≤ mcb ∧ ((((0 + 4) + 16) + b_16) + b_18) ≤ msb) ∧
          wnX4_textNow nR (fun (z_9 : Nat × (Nat → Int32)) =>
            ∃ b_19 b_20 : Nat,
            ((((((0 + 1) + 1) + b_15) + b_17) + b_19) ≤ mcb ∧ (((((0 + 4) + 16) + b_16) + b_18) + b_20) ≤ msb) ∧
            wnJ4_append_15ec4 (fun (z_10 : Int32 × Nat × (Nat → Int32)) =>
              ∃ b_21 b_22 : Nat,
              (((((((0 + 1) + 1) + b_15) + b_17) + b_19) + b_21) ≤ mcb ∧ ((((((0 + 4) + 16) + b_16) + b_18) + b_20) + b_22) ≤ msb) ∧
              wnJ4_append_15ec4 (fun (z_11 : Int32 × Nat × (Nat → Int32)) =>
                ∃ b_23 b_24 : Nat,
                ((((((((0 + 1) + 1) + b_15) + b_17) + b_19) + b_21) + b_23) ≤ mcb ∧ (((((((0 + 4) + 16) + b_16) + b_18) + b_20) + b_22) + b_24) ≤ msb) ∧
                wnX4_textNow nR (fun (z_12 : Nat × (Nat → Int32)) =>
                  ∃ b_25 b_26 : Nat,
                  (((((((((0 + 1) + 1) + b_15) + b_17) + b_19) + b_21) + b_23) + b_25) ≤ mcb ∧ ((((((((0 + 4) + 16) + b_16) + b_18) + b_20) + b_22) + b_24) + b_26) ≤ msb) ∧
                  wnJ4_append_15ec4 (fun (z_13 : Int32 × Nat × (Nat → Int32)) =>
                    ∃ b_27 b_28 : Nat,
                    ((((((((((0 + 1) + 1) + b_15) + b_17) + b_19) + b_21) + b_23) + b_25) + b_27) ≤ mcb ∧ (((((((((0 + 4) + 16) + b_16) + b_18) + b_20) + b_22) + b_24) + b_26) + b_28) ≤ msb) ∧
                    wnJ4_append_15ec4 (fun (z_14 : Int32 × Nat × (Nat → Int32)) =>
                      ∃ b_29 b_30 : Nat,
                      (((((((((((0 + 1) + 1) + b_15) + b_17) + b_19) + b_21) + b_23) + b_25) + b_27) + b_29) ≤ mcb ∧ ((((((((((0 + 4) + 16) + b_16) + b_18) + b_20) + b_22) + b_24) + b_26) + b_28) + b_30) ≤ msb) ∧
                      wnJ4_toString_0e30d (fun (z_15 : Nat × (Nat → Int32)) =>
                        (((((((((((0 + 1) + 1) + b_15) + b_17) + b_19) + b_21) + b_23) + b_25) + b_27) + b_29) ≤ mcb ∧ ((((((((((0 + 4) + 16) + b_16) + b_18) + b_20) + b_22) + b_24) + b_26) + b_28) + b_30) ≤ msb) ∧
                        post (z_15.1, z_15.2)
                        ) z_14.1 z_14.2.1 z_14.2.2 b_29 b_30
                      ) z_13.1 z_13.2.1 z_13.2.2 (1) (fun j => ([41] : List Int32).getD j 0) b_27 b_28
                    ) z_11.1 z_11.2.1 z_11.2.2 z_12.1 z_12.2 b_25 b_26
                  ) th mr po mf sp sn sq b_23 b_24 (sq (p1.toNatClampNeg) (2 : Int32).toNatClampNeg)
                ) z_10.1 z_10.2.1 z_10.2.2 (1) (fun j => ([38] : List Int32).getD j 0) b_21 b_22
              ) z_8.1 z_8.2.1 z_8.2.2 z_9.1 z_9.2 b_19 b_20
            ) th mr po mf sp sn sq b_17 b_18 (sq (p1.toNatClampNeg) (1 : Int32).toNatClampNeg)
          ) (0 : Int32) (16) (fun _ => (0 : Int32)) (1) (fun j => ([40] : List Int32).getD j 0) b_15 b_16
        ) 
    ) ∧ (¬ (sq (p1.toNatClampNeg) (0 : Int32).toNatClampNeg) = 2 →
    ((sq (p1.toNatClampNeg) (0 : Int32).toNatClampNeg) = 3 →
      ((0 + 1) ≤ mcb ∧ (0 + 4) ≤ msb) ∧
      (((0 + 1) + 1) ≤ mcb ∧ ((0 + 4) + 16) ≤ msb) ∧
      wnJ4_init_da8c8 (fun (a_4 : Nat) =>
        ∃ b_31 b_32 : Nat,
        ((((0 + 1) + 1) + b_31) ≤ mcb ∧ (((0 + 4) + 16) + b_32) ≤ msb) ∧
        wnJ4_append_15ec4 (fun (z_16 : Int32 × Nat × (Nat → Int32)) =>
          ∃ b_33 b_34 : Nat,
          (((((0 + 1) + 1) + b_31) + b_33) ≤ mcb ∧ ((((0 + 4) + 16) + b_32) + b_34) ≤ msb) ∧
          wnX4_textNow nR (fun (z_17 : Nat × (Nat → Int32)) =>
            ∃ b_35 b_36 : Nat,
            ((((((0 + 1) + 1) + b_31) + b_33) + b_35) ≤ mcb ∧ (((((0 + 4) + 16) + b_32) + b_34) + b_36) ≤ msb) ∧
            wnJ4_append_15ec4 (fun (z_18 : Int32 × Nat × (Nat → Int32)) =>
              ∃ b_37 b_38 : Nat,
              (((((((0 + 1) + 1) + b_31) + b_33) + b_35) + b_37) ≤ mcb ∧ ((((((0 + 4) + 16) + b_32) + b_34) + b_36) + b_38) ≤ msb) ∧
              wnJ4_append_15ec4 (fun (z_19 : Int32 × Nat × (Nat → Int32)) =>
                ∃ b_39 b_40 : Nat,
                ((((((((0 + 1) + 1) + b_31) + b_33) + b_35) + b_37) + b_39) ≤ mcb ∧ (((((((0 + 4) + 16) + b_32) + b_34) + b_36) + b_38) + b_40) ≤ msb) ∧
                wnX4_textNow nR (fun (z_20 : Nat × (Nat → Int32)) =>
                  ∃ b_41 b_42 : Nat,
                  (((((((((0 + 1) + 1) + b_31) + b_33) + b_35) + b_37) + b_39) + b_41) ≤ mcb ∧ ((((((((0 + 4) + 16) + b_32) + b_34) + b_36) + b_38) + b_40) + b_42) ≤ msb) ∧
                  wnJ4_append_15ec4 (fun (z_21 : Int32 × Nat × (Nat → Int32)) =>
                    ∃ b_43 b_44 : Nat,
                    ((((((((((0 + 1) + 1) + b_31) + b_33) + b_35) + b_37) + b_39) + b_41) + b_43) ≤ mcb ∧ (((((((((0 + 4) + 16) + b_32) + b_34) + b_36) + b_38) + b_40) + b_42) + b_44) ≤ msb) ∧
                    wnJ4_append_15ec4 (fun (z_22 : Int32 × Nat × (Nat → Int32)) =>
                      ∃ b_45 b_46 : Nat,
                      (((((((((((0 + 1) + 1) + b_31) + b_33) + b_35) + b_37) + b_39) + b_41) + b_43) + b_45) ≤ mcb ∧ ((((((((((0 + 4) + 16) + b_32) + b_34) + b_36) + b_38) + b_40) + b_42) + b_44) + b_46) ≤ msb) ∧
                      wnJ4_toString_0e30d (fun (z_23 : Nat × (Nat → Int32)) =>
                        (((((((((((0 + 1) + 1) + b_31) + b_33) + b_35) + b_37) + b_39) + b_41) + b_43) + b_45) ≤ mcb ∧ ((((((((((0 + 4) + 16) + b_32) + b_34) + b_36) + b_38) + b_40) + b_42) + b_44) + b_46) ≤ msb) ∧
                        post (z_23.1, z_23.2)
                        ) z_22.1 z_22.2.1 z_22.2.2 b_45 b_46
                      ) z_21.1 z_21.2.1 z_21.2.2 (1) (fun j => ([41] : List Int32).getD j 0) b_43 b_44
                    ) z_19.1 z_19.2.1 z_19.2.2 z_20.1 z_20.2 b_41 b_42
                  ) th mr po mf sp sn sq b_39 b_40 (sq (p1.toNatClampNeg) (2 : Int32).toNatClampNeg)
                ) z_18.1 z_18.2.1 z_18.2.2 (1) (fun j => ([124] : List Int32).getD j 0) b_37 b_38
              ) z_16.1 z_16.2.1 z_16.2.2 z_17.1 z_17.2 b_35 b_36
            ) th mr po mf sp sn sq b_33 b_34 (sq (p1.toNatClampNeg) (1 : Int32).toNatClampNeg)
          ) (0 : Int32) (16) (fun _ => (0 : Int32)) (1) (fun j => ([40] : List Int32).getD j 0) b_31 b_32
        ) 
    ) ∧ (¬ (sq (p1.toNatClampNeg) (0 : Int32).toNatClampNeg) = 3 →
      ((0 + 1) ≤ mcb ∧ (0 + 4) ≤ msb) ∧
      (((0 + 1) + 1) ≤ mcb ∧ ((0 + 4) + 16) ≤ msb) ∧
      wnJ4_init_da8c8 (fun (a_5 : Nat) =>
        ∃ b_47 b_48 : Nat,
        ((((0 + 1) + 1) + b_47) ≤ mcb ∧ (((0 + 4) + 16) + b_48) ≤ msb) ∧
        wnJ4_append_15ec4 (fun (z_24 : Int32 × Nat × (Nat → Int32)) =>
          wnJ0_charAt_5068e (fun r_30 : Int32 =>
            ∃ b_49 b_50 : Nat,
            (((((0 + 1) + 1) + b_47) + b_49) ≤ mcb ∧ ((((0 + 4) + 16) + b_48) + b_50) ≤ msb) ∧
            wnJ4_append_cf468 (fun (z_25 : Int32 × Nat × (Nat → Int32)) =>
              ∃ b_51 b_52 : Nat,
              ((((((0 + 1) + 1) + b_47) + b_49) + b_51) ≤ mcb ∧ (((((0 + 4) + 16) + b_48) + b_50) + b_52) ≤ msb) ∧
              wnJ4_append_bf812 (fun (z_26 : Int32 × Nat × (Nat → Int32)) =>
                ∃ b_53 b_54 : Nat,
                (((((((0 + 1) + 1) + b_47) + b_49) + b_51) + b_53) ≤ mcb ∧ ((((((0 + 4) + 16) + b_48) + b_50) + b_52) + b_54) ≤ msb) ∧
                wnJ4_append_15ec4 (fun (z_27 : Int32 × Nat × (Nat → Int32)) =>
                  ∃ b_55 b_56 : Nat,
                  ((((((((0 + 1) + 1) + b_47) + b_49) + b_51) + b_53) + b_55) ≤ mcb ∧ (((((((0 + 4) + 16) + b_48) + b_50) + b_52) + b_54) + b_56) ≤ msb) ∧
                  wnX4_textNow nR (fun (z_28 : Nat × (Nat → Int32)) =>
                    ∃ b_57 b_58 : Nat,
                    (((((((((0 + 1) + 1) + b_47) + b_49) + b_51) + b_53) + b_55) + b_57) ≤ mcb ∧ ((((((((0 + 4) + 16) + b_48) + b_50) + b_52) + b_54) + b_56) + b_58) ≤ msb) ∧
                    wnJ4_append_15ec4 (fun (z_29 : Int32 × Nat × (Nat → Int32)) =>
                      ∃ b_59 b_60 : Nat,
                      ((((((((((0 + 1) + 1) + b_47) + b_49) + b_51) + b_53) + b_55) + b_57) + b_59) ≤ mcb ∧ (((((((((0 + 4) + 16) + b_48) + b_50) + b_52) + b_54) + b_56) + b_58) + b_60) ≤ msb) ∧
                      wnJ4_toString_0e30d (fun (z_30 : Nat × (Nat → Int32)) =>
                        ((((((((((0 + 1) + 1) + b_47) + b_49) + b_51) + b_53) + b_55) + b_57) + b_59) ≤ mcb ∧ (((((((((0 + 4) + 16) + b_48) + b_50) + b_52) + b_54) + b_56) + b_58) + b_60) ≤ msb) ∧
                        post (z_30.1, z_30.2)
                        ) z_29.1 z_29.2.1 z_29.2.2 b_59 b_60
                      ) z_27.1 z_27.2.1 z_27.2.2 z_28.1 z_28.2 b_57 b_58
                    ) th mr po mf sp sn sq b_55 b_56 (sq (p1.toNatClampNeg) (2 : Int32).toNatClampNeg)
                  ) z_26.1 z_26.2.1 z_26.2.2 (1) (fun j => ([58] : List Int32).getD j 0) b_53 b_54
                ) z_25.1 z_25.2.1 z_25.2.2 b_51 b_52 (sq (p1.toNatClampNeg) (1 : Int32).toNatClampNeg)
              ) z_24.1 z_24.2.1 z_24.2.2 b_49 b_50 r_30
            ) (4) (fun j => ([75, 69, 67, 68] : List Int32).getD j 0) ((sq (p1.toNatClampNeg) (0 : Int32).toNatClampNeg) - (4 : Int32))
          ) (0 : Int32) (16) (fun _ => (0 : Int32)) (0) (fun j => ([] : List Int32).getD j 0) b_47 b_48
        ) 
    ))))
abbrev wl_nX4_textNow : List Cond := .code yX4_textNow cX4_textNow 3 (some (.object "java/lang/String")) :: lwg
abbrev rm_nX4_textNow (n mcb msb : Nat) : Room := { frames := 6 + n, cells := mcb, slots := msb, locals := 175 + n * 22 }
set_option maxHeartbeats 4000000 in
set_option maxRecDepth 100000 in
theorem knX4_textNow (nR : Nat) : ∀ {post : Nat × (Nat → Int32) → Prop} (l : Launch) (G : GT) (m0 : Nat) (dO : Nat) (sl : Nat) (ct0 : Nat) (st0 : Nat) (fs0 : Nat) (jn0 : Nat) (rw0 : Nat) (fd0 : Nat) (af0 : Nat) (kO : Nat) (sa : Nat → Nat) (th : Int32) (mr : Int32) (po : Int64) (mf : Int32) (sp : Int32) (sn : Nat) (sq : Nat → Nat → Int32) (mcb : Nat) (msb : Nat) (p1 : Int32) (sz : Nat) (h : wnX4_textNow nR post th mr po mf sp sn sq mcb msb p1), Met l yX4_textNow wl_nX4_textNow (rm_nX4_textNow nR mcb msb) (va_Pc [.ref m0, .int p1] (fun U => U.heap.size = sz ∧ PP G [(m0, .inr (7, [.int th, .int mr, .long po, .ref dO, .ref sl, .ref ct0, .int mf, .int sp, .ref st0, .ref fs0, .ref jn0, .ref rw0, .ref fd0, .ref af0, .ref kO]))] U.heap ∧ KK G U ∧ va_D (fun _ => True) [(m0, .inr (7, [.int th, .int mr, .long po, .ref dO, .ref sl, .ref ct0, .int mf, .int sp, .ref st0, .ref fs0, .ref jn0, .ref rw0, .ref fd0, .ref af0, .ref kO]))] ∧ SS G sl sn sa sq (va_A [(m0, .inr (7, [.int th, .int mr, .long po, .ref dO, .ref sl, .ref ct0, .int mf, .int sp, .ref st0, .ref fs0, .ref jn0, .ref rw0, .ref fd0, .ref af0, .ref kO]))] sz) U U.heap ∧ JJ G (va_A [(m0, .inr (7, [.int th, .int mr, .long po, .ref dO, .ref sl, .ref ct0, .int mf, .int sp, .ref st0, .ref fs0, .ref jn0, .ref rw0, .ref fd0, .ref af0, .ref kO]))] sz) U U.heap)) (va_Qr post (fun u ra t => ∃ ndE : Nat, PP G [(m0, .inr (7, [.int th, .int mr, .long po, .ref dO, .ref sl, .ref ct0, .int mf, .int sp, .ref st0, .ref fs0, .ref jn0, .ref rw0, .ref fd0, .ref af0, .ref kO])), (ra, .inr (0, [.ref ndE, .int (0 : Int32), .int (0 : Int32), .int (0 : Int32)])), (ndE, .inl (G.2 2, u.1, .inl (u.2)))] t.heap ∧ va_D (va_A [(m0, .inr (7, [.int th, .int mr, .long po, .ref dO, .ref sl, .ref ct0, .int mf, .int sp, .ref st0, .ref fs0, .ref jn0, .ref rw0, .ref fd0, .ref af0, .ref kO]))] sz) [(m0, .inr (7, [.int th, .int mr, .long po, .ref dO, .ref sl, .ref ct0, .int mf, .int sp, .ref st0, .ref fs0, .ref jn0, .ref rw0, .ref fd0, .ref af0, .ref kO])), (ra, .inr (0, [.ref ndE, .int (0 : Int32), .int (0 : Int32), .int (0 : Int32)])), (ndE, .inl (G.2 2, u.1, .inl (u.2)))]) (va_A [(m0, .inr (7, [.int th, .int mr, .long po, .ref dO, .ref sl, .ref ct0, .int mf, .int sp, .ref st0, .ref fs0, .ref jn0, .ref rw0, .ref fd0, .ref af0, .ref kO]))] sz)) mcb msb (va_A [(m0, .inr (7, [.int th, .int mr, .long po, .ref dO, .ref sl, .ref ct0, .int mf, .int sp, .ref st0, .ref fs0, .ref jn0, .ref rw0, .ref fd0, .ref af0, .ref kO]))] sz) := by
  induction nR with
  | zero => intro post l G m0 dO sl ct0 st0 fs0 jn0 rw0 fd0 af0 kO sa th mr po mf sp sn sq mcb msb p1 sz h; exact False.elim h
  | succ nR ih =>
  intro post l G m0 dO sl ct0 st0 fs0 jn0 rw0 fd0 af0 kO sa th mr po mf sp sn sq mcb msb p1 sz h
  refine Met.ofW (cc := cX4_textNow) (maxL := 3) (ret := (some (.object "java/lang/String"))) (by decide) rfl ?_
  intro p e s m args below meth c s₁ B hml hv
  obtain ⟨rfl, hsz, hP, hKK, hD0, hSS, hJ⟩ := hv
  obtain ⟨hK, hN, hR, hFW, hNC⟩ := id hKK
  have hx := B.exec
  have hb := B.bytes
  have hr := B.returns
  have hts0 := atoms_spec (ws := wl_nX4_textNow) B.pre
  have hts : ∀ w ∈ lwg, w.before ([.ref m0, .int p1] : List Value).toArray s = true := fun w hw => hts0 w (List.mem_cons_of_mem _ hw)
  have hown : s.vm.findClass RX4 = some m.cls := findClass_of_methodNamed B.named
  have hlocks := B.notSynchronized
  subst hsz
  have hD := hD0.self (sz := s.heap.size)
  generalize hAe : va_A [(m0, .inr (7, [.int th, .int mr, .long po, .ref dO, .ref sl, .ref ct0, .int mf, .int sp, .ref st0, .ref fs0, .ref jn0, .ref rw0, .ref fd0, .ref af0, .ref kO]))] s.heap.size = A at hD hSS hJ ⊢
  have hA : ∀ q : Nat, s.heap.size ≤ q → A q := fun q h => by rw [← hAe]; exact Or.inr h
  have hS : va_S A s.heap s.heap [] := va_S.rf
  obtain ⟨QC, hQC⟩ : ∃ Z, Z = (va_Qr post (fun u ra t => ∃ ndE : Nat, PP G [(m0, .inr (7, [.int th, .int mr, .long po, .ref dO, .ref sl, .ref ct0, .int mf, .int sp, .ref st0, .ref fs0, .ref jn0, .ref rw0, .ref fd0, .ref af0, .ref kO])), (ra, .inr (0, [.ref ndE, .int (0 : Int32), .int (0 : Int32), .int (0 : Int32)])), (ndE, .inl (G.2 2, u.1, .inl (u.2)))] t.heap ∧ va_D A [(m0, .inr (7, [.int th, .int mr, .long po, .ref dO, .ref sl, .ref ct0, .int mf, .int sp, .ref st0, .ref fs0, .ref jn0, .ref rw0, .ref fd0, .ref af0, .ref kO])), (ra, .inr (0, [.ref ndE, .int (0 : Int32), .int (0 : Int32), .int (0 : Int32)])), (ndE, .inl (G.2 2, u.1, .inl (u.2)))]) A) := ⟨_, rfl⟩
  rw [← hQC]
  obtain ⟨jE, hjE⟩ := hJ.2.1
  obtain ⟨jT, hjT1, hjT2⟩ := hJ.2.2.1
  obtain ⟨jO, hjO1, hjO2⟩ := hJ.2.2.2.1
  obtain ⟨jS, hjS⟩ := hJ.2.2.2.2.1
  have hP : PP G [(m0, .inr (7, [.int th, .int mr, .long po, .ref dO, .ref sl, .ref ct0, .int mf, .int sp, .ref st0, .ref fs0, .ref jn0, .ref rw0, .ref fd0, .ref af0, .ref kO]))] s.heap := hP
  have hl := lv_entry ([.ref m0, .int p1]) (n := 3) (Nat.le_of_ble_eq_true rfl)
  rw [lg_entry_eq]
  generalize (lg_sl ([.ref m0, .int p1]) ++ List.replicate (3 - (lg_sl ([.ref m0, .int p1])).length) Slot.unset).toArray = ls at hl ⊢
  have hl : lv_has ls 3 [(0, .ref m0), (1, .int p1)] := hl
  refine lv_aload_n hx hb dX4_textNow_0 rfl (lv_at hl 0 rfl) ?_
  refine va_get (D := G.1) (ci := 7) (v := .ref sl) (C := RX4) (T := TX4) (N := 15) hx hb hts igX4 hown hK hP 0 rfl rfl 4 (by decide) (hts _ q1009) (fun _ h9 => h9) rfl dX4_textNow_1 ?_
  refine lv_iload_n hx hb dX4_textNow_4 rfl (lv_at hl 1 rfl) ?_
  obtain ⟨hin, h⟩ := h
  have hf_1 : p1.toNatClampNeg < sn := vpLt hin
  refine listGet (rest := []) hSS hS.2.1 hin ⟨hx, hb, hml, hown, hts⟩ hKK hK q1086 hl.1 (lv_room (Nat.le_of_ble_eq_true rfl)) (by show 5 ≤ 6 + (nR + 1); omega) (by show 120 ≤ 175 + (nR + 1) * 22; omega) dX4_textNow_5 ?_
  refine va_castA (D := G.1) (cl := vwCl) hx hb hown (hts _ q1102) (hSS.row hf_1 hS.2.1) 0 rfl ((hK.2 0 _ rfl).2) dX4_textNow_10 ?_
  refine lv_astore_n hx hb dX4_textNow_13 rfl hl (Nat.le_of_ble_eq_true rfl) rfl (fun ls hl => ?_)
  have hl : lv_has ls 3 [(2, .ref (sa p1.toNatClampNeg)), (0, .ref m0), (1, .int p1)] := hl
  refine lv_aload_n hx hb dX4_textNow_14 rfl (lv_at hl 0 rfl) ?_
  refine lv_iconst (v := 0) hx hb dX4_textNow_15 (by decide) ?_
  have hin : vp_in (0 : Int32) 4 := show ¬ ((0 : Int32) < 0 ∨ 4 ≤ ((0 : Int32)).toNatClampNeg) from by decide
  refine va_iald (D := G.1) hx hb hK (hSS.row hf_1 hS.2.1) 0 0 rfl rfl hin dX4_textNow_16 ?_
  by_cases hc0 : (sq (p1.toNatClampNeg) (0 : Int32).toNatClampNeg) = 0
  · have h := h.1 hc0
    refine lv_tableIn (tgt := 48) hx hb dX4_textNow_17 (by rw [hc0]; decide) (by rw [hc0]; decide) (by rw [hc0]; rfl) (by decide) ?_
    obtain ⟨⟨hq_1, hq_2⟩, h⟩ := h
    refine va_new (D := G.1) (ci := 1) (fs := [.null, .int (0 : Int32), .int (0 : Int32), .int (0 : Int32)]) (C := RJ4) (T := TJ4) (N := 4) hx hb hts igJ4 tyJ4 tyJ4_ok hown (hts _ q1354) (hts _ q675) (hts _ q25) hK hP hD hS hA rfl (fun j hj => by rcases (show j = 0 ∨ j = 1 ∨ j = 2 ∨ j = 3 by omega) with rfl | rfl | rfl | rfl <;> rfl) hq_1 hq_2 dX4_textNow_48 (fun q_1 H hP hD hS => ?_)
    have hP : PP G [(m0, .inr (7, [.int th, .int mr, .long po, .ref dO, .ref sl, .ref ct0, .int mf, .int sp, .ref st0, .ref fs0, .ref jn0, .ref rw0, .ref fd0, .ref af0, .ref kO])), (q_1, .inr (1, [.null, .int (0 : Int32), .int (0 : Int32), .int (0 : Int32)]))] H := hP
    have hD : va_D A [(m0, .inr (7, [.int th, .int mr, .long po, .ref dO, .ref sl, .ref ct0, .int mf, .int sp, .ref st0, .ref fs0, .ref jn0, .ref rw0, .ref fd0, .ref af0, .ref kO])), (q_1, .inr (1, [.null, .int (0 : Int32), .int (0 : Int32), .int (0 : Int32)]))] := hD
    refine lv_dup hx hb dX4_textNow_51 rfl ?_
    obtain ⟨⟨hq_3, hq_4⟩, h⟩ := h
    have hPc := va_P.sub (ws' := [(q_1, .inr (1, [.null, .int (0 : Int32), .int (0 : Int32), .int (0 : Int32)]))]) hP [1] rfl
    have hDc := hD.sub (ws' := [(q_1, .inr (1, [.null, .int (0 : Int32), .int (0 : Int32), .int (0 : Int32)]))]) [1] (by decide) rfl
    have hFc := va_free (wc := [(q_1, .inr (1, [.null, .int (0 : Int32), .int (0 : Int32), .int (0 : Int32)]))]) hD hS hA [1] rfl
    have hJc := (hJ.kept hS.2.1).narrow hFc
    refine va_callv (va_runI (As := []) (rest := [.ref q_1]) ⟨hx, hb, hml, hown, hts⟩ (knJ4_init_da8c8 l G q_1 _ h) (cwI 0 hts (gdC q678) rfl rfl rfl (hts _ q25) (hts _ q1355) (hts _ q677) rfl (by decide +kernel) ⟨(by show 2 + 1 ≤ 6 + (nR + 1); omega), (by show 8 + (1 + 11) + 61 ≤ 175 + (nR + 1) * 22; omega)⟩) (preSwj hPc hKK hDc hJc) rfl rfl hl.1 rfl (lv_room (Nat.le_of_ble_eq_true rfl)) dX4_textNow_52 ⟨hq_3, hq_4⟩) hS (fun q _ h => hFc q h) hFc (fun u t H1 locs ht hvm h hB hz1 hk1 hS => ?_)
    obtain ⟨a_1, rfl⟩ : ∃ z, z = u := ⟨_, rfl⟩
    obtain ⟨hP1, hD1⟩ := hB
    rw [ht] at hP1
    obtain ⟨hP, hD⟩ := va_join (wr := [(m0, .inr (7, [.int th, .int mr, .long po, .ref dO, .ref sl, .ref ct0, .int mf, .int sp, .ref st0, .ref fs0, .ref jn0, .ref rw0, .ref fd0, .ref af0, .ref kO]))]) (w1 := [(q_1, .inr (1, [.ref a_1, .int (0 : Int32), .int (0 : Int32), .int (0 : Int32)])), (a_1, .inl (G.2 2, 16, .inl (fun _ => (0 : Int32))))]) hP hD [1] [0] rfl rfl (by decide) (by decide) hk1 hFc hP1 hD1
    generalize H1 = H at hP hS ⊢
    have hP : PP G [(m0, .inr (7, [.int th, .int mr, .long po, .ref dO, .ref sl, .ref ct0, .int mf, .int sp, .ref st0, .ref fs0, .ref jn0, .ref rw0, .ref fd0, .ref af0, .ref kO])), (q_1, .inr (1, [.ref a_1, .int (0 : Int32), .int (0 : Int32), .int (0 : Int32)])), (a_1, .inl (G.2 2, 16, .inl (fun _ => (0 : Int32))))] H := va_P.sub hP [0, 1, 2] rfl
    have hD : va_D A [(m0, .inr (7, [.int th, .int mr, .long po, .ref dO, .ref sl, .ref ct0, .int mf, .int sp, .ref st0, .ref fs0, .ref jn0, .ref rw0, .ref fd0, .ref af0, .ref kO])), (q_1, .inr (1, [.ref a_1, .int (0 : Int32), .int (0 : Int32), .int (0 : Int32)])), (a_1, .inl (G.2 2, 16, .inl (fun _ => (0 : Int32))))] := hD.sub [0, 1, 2] (by decide) rfl
    refine va_ldcS hx hb hown (litR0 hR) dX4_textNow_55 ?_
    obtain ⟨tl_1, hTl_1⟩ := litJ0 hJ
    obtain ⟨b_1, b_2, h⟩ := h
    obtain ⟨⟨hq_5, hq_6⟩, h⟩ := h
    have hPc := va_P.sub (ws' := [(q_1, .inr (1, [.ref a_1, .int (0 : Int32), .int (0 : Int32), .int (0 : Int32)])), (a_1, .inl (G.2 2, 16, .inl (fun _ => (0 : Int32))))]) hP [1, 2] rfl
    have hDc := hD.sub (ws' := [(q_1, .inr (1, [.ref a_1, .int (0 : Int32), .int (0 : Int32), .int (0 : Int32)])), (a_1, .inl (G.2 2, 16, .inl (fun _ => (0 : Int32))))]) [1, 2] (by decide) rfl
    have hFc := va_free (wc := [(q_1, .inr (1, [.ref a_1, .int (0 : Int32), .int (0 : Int32), .int (0 : Int32)])), (a_1, .inl (G.2 2, 16, .inl (fun _ => (0 : Int32))))]) hD hS hA [1, 2] rfl
    have hJc := (hJ.kept hS.2.1).narrow hFc
    have hTc := (hTl_1.kept hS.2.1).narrow hFc
    refine va_callr (va_runV (C := RJ4) (As := [.ref (G.2 100)]) (rest := []) ⟨hx, hb, hml, hown, hts⟩ (knJ4_append_15ec4 l G q_1 a_1 (G.2 100) tl_1 (0 : Int32) (16) (fun _ => (0 : Int32)) (1) (fun j => ([112] : List Int32).getD j 0) b_1 b_2 _ h) (cwV 1 hts (gdV q1357 q881 q882 q25 q883) rfl rfl rfl (by decide +kernel) ⟨(by show 5 + 1 ≤ 6 + (nR + 1); omega), (by show 8 + (2 + 11) + 131 ≤ 175 + (nR + 1) * 22; omega)⟩) (preVwjt hPc hKK hDc hJc hTc (va_recv hK hPc (ci := 1) (q0 := 0) rfl rfl)) rfl rfl hl.1 rfl (lv_room (Nat.le_of_ble_eq_true rfl)) dX4_textNow_57 ⟨hq_5, hq_6⟩) hS (fun q _ h => hFc q h) hFc (fun u ra t H1 locs ht hvm h hB hz1 hk1 hS => ?_)
    obtain ⟨wc_1, wn_1, wf_1⟩ := u
    obtain ⟨era, hB⟩ := hB
    rw [era]
    obtain ⟨wv_1, hB⟩ := hB
    obtain ⟨hP1, hD1⟩ := hB
    rw [ht] at hP1
    obtain ⟨hP, hD⟩ := va_join (wr := [(m0, .inr (7, [.int th, .int mr, .long po, .ref dO, .ref sl, .ref ct0, .int mf, .int sp, .ref st0, .ref fs0, .ref jn0, .ref rw0, .ref fd0, .ref af0, .ref kO]))]) (w1 := [(q_1, .inr (1, [.ref wv_1, .int (0 : Int32), .int (0 : Int32), .int wc_1])), (wv_1, .inl (G.2 2, wn_1, .inl wf_1))]) hP hD [1, 2] [0] rfl rfl (by decide) (by decide) hk1 hFc hP1 hD1
    generalize H1 = H at hP hS ⊢
    have hP : PP G [(m0, .inr (7, [.int th, .int mr, .long po, .ref dO, .ref sl, .ref ct0, .int mf, .int sp, .ref st0, .ref fs0, .ref jn0, .ref rw0, .ref fd0, .ref af0, .ref kO])), (q_1, .inr (1, [.ref wv_1, .int (0 : Int32), .int (0 : Int32), .int wc_1])), (wv_1, .inl (G.2 2, wn_1, .inl wf_1))] H := va_P.sub hP [0, 1, 2] rfl
    have hD : va_D A [(m0, .inr (7, [.int th, .int mr, .long po, .ref dO, .ref sl, .ref ct0, .int mf, .int sp, .ref st0, .ref fs0, .ref jn0, .ref rw0, .ref fd0, .ref af0, .ref kO])), (q_1, .inr (1, [.ref wv_1, .int (0 : Int32), .int (0 : Int32), .int wc_1])), (wv_1, .inl (G.2 2, wn_1, .inl wf_1))] := hD.sub [0, 1, 2] (by decide) rfl
    refine lv_aload_n hx hb dX4_textNow_60 rfl (lv_at hl 0 rfl) ?_
    refine lv_iconst (v := 1) hx hb dX4_textNow_61 (by decide) ?_
    have hin : vp_in (1 : Int32) 4 := show ¬ ((1 : Int32) < 0 ∨ 4 ≤ ((1 : Int32)).toNatClampNeg) from by decide
    refine va_iald (D := G.1) hx hb hK (hSS.row hf_1 hS.2.1) 0 0 rfl rfl hin dX4_textNow_62 ?_
    obtain ⟨b_3, b_4, h⟩ := h
    obtain ⟨⟨hq_7, hq_8⟩, h⟩ := h
    have hPc := va_P.sub (ws' := [(q_1, .inr (1, [.ref wv_1, .int (0 : Int32), .int (0 : Int32), .int wc_1])), (wv_1, .inl (G.2 2, wn_1, .inl wf_1))]) hP [1, 2] rfl
    have hDc := hD.sub (ws' := [(q_1, .inr (1, [.ref wv_1, .int (0 : Int32), .int (0 : Int32), .int wc_1])), (wv_1, .inl (G.2 2, wn_1, .inl wf_1))]) [1, 2] (by decide) rfl
    have hFc := va_free (wc := [(q_1, .inr (1, [.ref wv_1, .int (0 : Int32), .int (0 : Int32), .int wc_1])), (wv_1, .inl (G.2 2, wn_1, .inl wf_1))]) hD hS hA [1, 2] rfl
    have hJc := (hJ.kept hS.2.1).narrow hFc
    refine va_callr (va_runV (C := RJ4) (As := [.int (sq (p1.toNatClampNeg) (1 : Int32).toNatClampNeg)]) (rest := []) ⟨hx, hb, hml, hown, hts⟩ (knJ4_append_bf812 l G q_1 wv_1 wc_1 wn_1 wf_1 b_3 b_4 (sq (p1.toNatClampNeg) (1 : Int32).toNatClampNeg) _ h) (cwV 1 hts (gdV q1358 q803 q804 q25 q805) rfl rfl rfl (by decide +kernel) ⟨(by show 5 + 1 ≤ 6 + (nR + 1); omega), (by show 8 + (2 + 11) + 131 ≤ 175 + (nR + 1) * 22; omega)⟩) (preVwj hPc hKK hDc hJc (va_recv hK hPc (ci := 1) (q0 := 0) rfl rfl)) rfl rfl hl.1 rfl (lv_room (Nat.le_of_ble_eq_true rfl)) dX4_textNow_63 ⟨hq_7, hq_8⟩) hS (fun q _ h => hFc q h) hFc (fun u ra t H1 locs ht hvm h hB hz1 hk1 hS => ?_)
    obtain ⟨wc_2, wn_2, wf_2⟩ := u
    obtain ⟨era, hB⟩ := hB
    rw [era]
    obtain ⟨wv_2, hB⟩ := hB
    obtain ⟨hP1, hD1⟩ := hB
    rw [ht] at hP1
    obtain ⟨hP, hD⟩ := va_join (wr := [(m0, .inr (7, [.int th, .int mr, .long po, .ref dO, .ref sl, .ref ct0, .int mf, .int sp, .ref st0, .ref fs0, .ref jn0, .ref rw0, .ref fd0, .ref af0, .ref kO]))]) (w1 := [(q_1, .inr (1, [.ref wv_2, .int (0 : Int32), .int (0 : Int32), .int wc_2])), (wv_2, .inl (G.2 2, wn_2, .inl wf_2))]) hP hD [1, 2] [0] rfl rfl (by decide) (by decide) hk1 hFc hP1 hD1
    generalize H1 = H at hP hS ⊢
    have hP : PP G [(m0, .inr (7, [.int th, .int mr, .long po, .ref dO, .ref sl, .ref ct0, .int mf, .int sp, .ref st0, .ref fs0, .ref jn0, .ref rw0, .ref fd0, .ref af0, .ref kO])), (q_1, .inr (1, [.ref wv_2, .int (0 : Int32), .int (0 : Int32), .int wc_2])), (wv_2, .inl (G.2 2, wn_2, .inl wf_2))] H := va_P.sub hP [0, 1, 2] rfl
    have hD : va_D A [(m0, .inr (7, [.int th, .int mr, .long po, .ref dO, .ref sl, .ref ct0, .int mf, .int sp, .ref st0, .ref fs0, .ref jn0, .ref rw0, .ref fd0, .ref af0, .ref kO])), (q_1, .inr (1, [.ref wv_2, .int (0 : Int32), .int (0 : Int32), .int wc_2])), (wv_2, .inl (G.2 2, wn_2, .inl wf_2))] := hD.sub [0, 1, 2] (by decide) rfl
    obtain ⟨b_5, b_6, h⟩ := h
    obtain ⟨⟨hq_9, hq_10⟩, h⟩ := h
    have hPc := va_P.sub (ws' := [(q_1, .inr (1, [.ref wv_2, .int (0 : Int32), .int (0 : Int32), .int wc_2])), (wv_2, .inl (G.2 2, wn_2, .inl wf_2))]) hP [1, 2] rfl
    have hDc := hD.sub (ws' := [(q_1, .inr (1, [.ref wv_2, .int (0 : Int32), .int (0 : Int32), .int wc_2])), (wv_2, .inl (G.2 2, wn_2, .inl wf_2))]) [1, 2] (by decide) rfl
    have hFc := va_free (wc := [(q_1, .inr (1, [.ref wv_2, .int (0 : Int32), .int (0 : Int32), .int wc_2])), (wv_2, .inl (G.2 2, wn_2, .inl wf_2))]) hD hS hA [1, 2] rfl
    have hJc := (hJ.kept hS.2.1).narrow hFc
    refine va_callr (va_runV (C := RJ4) (As := []) (rest := []) ⟨hx, hb, hml, hown, hts⟩ (knJ4_toString_0e30d l G q_1 wv_2 wc_2 wn_2 wf_2 b_5 b_6 _ h) (cwV 0 hts (gdV q1359 q840 q841 q25 q842) rfl rfl rfl (by decide +kernel) ⟨(by show 5 + 1 ≤ 6 + (nR + 1); omega), (by show 8 + (1 + 11) + 155 ≤ 175 + (nR + 1) * 22; omega)⟩) (preVwj hPc hKK hDc hJc (va_recv hK hPc (ci := 1) (q0 := 0) rfl rfl)) rfl rfl hl.1 rfl (lv_room (Nat.le_of_ble_eq_true rfl)) dX4_textNow_66 ⟨hq_9, hq_10⟩) hS (fun q _ h => hFc q h) hFc (fun u ra t H1 locs ht hvm h hB hz1 hk1 hS => ?_)
    obtain ⟨c_1, c_2⟩ := u
    obtain ⟨nd_1, hB⟩ := hB
    obtain ⟨na_1, rfl⟩ : ∃ z, z = ra := ⟨_, rfl⟩
    obtain ⟨hP1, hD1⟩ := hB
    rw [ht] at hP1
    obtain ⟨hP, hD⟩ := va_join (wr := [(m0, .inr (7, [.int th, .int mr, .long po, .ref dO, .ref sl, .ref ct0, .int mf, .int sp, .ref st0, .ref fs0, .ref jn0, .ref rw0, .ref fd0, .ref af0, .ref kO]))]) (w1 := [(q_1, .inr (1, [.ref wv_2, .int (0 : Int32), .int (0 : Int32), .int wc_2])), (wv_2, .inl (G.2 2, wn_2, .inl wf_2)), (na_1, .inr (0, [.ref nd_1, .int (0 : Int32), .int (0 : Int32), .int (0 : Int32)])), (nd_1, .inl (G.2 2, c_1, .inl c_2))]) hP hD [1, 2] [0] rfl rfl (by decide) (by decide) hk1 hFc hP1 hD1
    generalize H1 = H at hP hS ⊢
    have hP : PP G [(m0, .inr (7, [.int th, .int mr, .long po, .ref dO, .ref sl, .ref ct0, .int mf, .int sp, .ref st0, .ref fs0, .ref jn0, .ref rw0, .ref fd0, .ref af0, .ref kO])), (q_1, .inr (1, [.ref wv_2, .int (0 : Int32), .int (0 : Int32), .int wc_2])), (wv_2, .inl (G.2 2, wn_2, .inl wf_2)), (na_1, .inr (0, [.ref nd_1, .int (0 : Int32), .int (0 : Int32), .int (0 : Int32)])), (nd_1, .inl (G.2 2, c_1, .inl c_2))] H := va_P.sub hP [0, 1, 2, 3, 4] rfl
    have hD : va_D A [(m0, .inr (7, [.int th, .int mr, .long po, .ref dO, .ref sl, .ref ct0, .int mf, .int sp, .ref st0, .ref fs0, .ref jn0, .ref rw0, .ref fd0, .ref af0, .ref kO])), (q_1, .inr (1, [.ref wv_2, .int (0 : Int32), .int (0 : Int32), .int wc_2])), (wv_2, .inl (G.2 2, wn_2, .inl wf_2)), (na_1, .inr (0, [.ref nd_1, .int (0 : Int32), .int (0 : Int32), .int (0 : Int32)])), (nd_1, .inl (G.2 2, c_1, .inl c_2))] := hD.sub [0, 1, 2, 3, 4] (by decide) rfl
    obtain ⟨⟨hw1, hw2⟩, h⟩ := h
    refine W.widen (k := mcb) (n := msb) hw1 hw2 ?_
    have hP : PP G [(m0, .inr (7, [.int th, .int mr, .long po, .ref dO, .ref sl, .ref ct0, .int mf, .int sp, .ref st0, .ref fs0, .ref jn0, .ref rw0, .ref fd0, .ref af0, .ref kO])), (na_1, .inr (0, [.ref nd_1, .int (0 : Int32), .int (0 : Int32), .int (0 : Int32)])), (nd_1, .inl (G.2 2, c_1, .inl c_2))] _ := hP.sub [0, 3, 4] rfl
    have hD : va_D A [(m0, .inr (7, [.int th, .int mr, .long po, .ref dO, .ref sl, .ref ct0, .int mf, .int sp, .ref st0, .ref fs0, .ref jn0, .ref rw0, .ref fd0, .ref af0, .ref kO])), (na_1, .inr (0, [.ref nd_1, .int (0 : Int32), .int (0 : Int32), .int (0 : Int32)])), (nd_1, .inl (G.2 2, c_1, .inl c_2))] := hD.sub [0, 3, 4] (by decide) rfl
    subst hQC; exact W.aret (v := .ref na_1) hx hb hr (by first | exact Or.inl ⟨_, rfl⟩ | exact Or.inr ⟨_, rfl⟩) (Or.inr ⟨_, rfl⟩) (fun t ht hW => ⟨⟨(c_1, c_2), na_1, rfl, h, nd_1, by rw [ht]; exact hP, hD⟩, hS.F ht⟩) hS.2.2 dX4_textNow_69
  have h := h.2 hc0
  by_cases hc1 : (sq (p1.toNatClampNeg) (0 : Int32).toNatClampNeg) = 1
  · have h := h.1 hc1
    refine lv_tableIn (tgt := 70) hx hb dX4_textNow_17 (by rw [hc1]; decide) (by rw [hc1]; decide) (by rw [hc1]; rfl) (by decide) ?_
    obtain ⟨⟨hq_11, hq_12⟩, h⟩ := h
    refine va_new (D := G.1) (ci := 1) (fs := [.null, .int (0 : Int32), .int (0 : Int32), .int (0 : Int32)]) (C := RJ4) (T := TJ4) (N := 4) hx hb hts igJ4 tyJ4 tyJ4_ok hown (hts _ q1354) (hts _ q675) (hts _ q25) hK hP hD hS hA rfl (fun j hj => by rcases (show j = 0 ∨ j = 1 ∨ j = 2 ∨ j = 3 by omega) with rfl | rfl | rfl | rfl <;> rfl) hq_11 hq_12 dX4_textNow_70 (fun q_2 H hP hD hS => ?_)
    have hP : PP G [(m0, .inr (7, [.int th, .int mr, .long po, .ref dO, .ref sl, .ref ct0, .int mf, .int sp, .ref st0, .ref fs0, .ref jn0, .ref rw0, .ref fd0, .ref af0, .ref kO])), (q_2, .inr (1, [.null, .int (0 : Int32), .int (0 : Int32), .int (0 : Int32)]))] H := hP
    have hD : va_D A [(m0, .inr (7, [.int th, .int mr, .long po, .ref dO, .ref sl, .ref ct0, .int mf, .int sp, .ref st0, .ref fs0, .ref jn0, .ref rw0, .ref fd0, .ref af0, .ref kO])), (q_2, .inr (1, [.null, .int (0 : Int32), .int (0 : Int32), .int (0 : Int32)]))] := hD
    refine lv_dup hx hb dX4_textNow_73 rfl ?_
    obtain ⟨⟨hq_13, hq_14⟩, h⟩ := h
    have hPc := va_P.sub (ws' := [(q_2, .inr (1, [.null, .int (0 : Int32), .int (0 : Int32), .int (0 : Int32)]))]) hP [1] rfl
    have hDc := hD.sub (ws' := [(q_2, .inr (1, [.null, .int (0 : Int32), .int (0 : Int32), .int (0 : Int32)]))]) [1] (by decide) rfl
    have hFc := va_free (wc := [(q_2, .inr (1, [.null, .int (0 : Int32), .int (0 : Int32), .int (0 : Int32)]))]) hD hS hA [1] rfl
    have hJc := (hJ.kept hS.2.1).narrow hFc
    refine va_callv (va_runI (As := []) (rest := [.ref q_2]) ⟨hx, hb, hml, hown, hts⟩ (knJ4_init_da8c8 l G q_2 _ h) (cwI 0 hts (gdC q678) rfl rfl rfl (hts _ q25) (hts _ q1355) (hts _ q677) rfl (by decide +kernel) ⟨(by show 2 + 1 ≤ 6 + (nR + 1); omega), (by show 8 + (1 + 11) + 61 ≤ 175 + (nR + 1) * 22; omega)⟩) (preSwj hPc hKK hDc hJc) rfl rfl hl.1 rfl (lv_room (Nat.le_of_ble_eq_true rfl)) dX4_textNow_74 ⟨hq_13, hq_14⟩) hS (fun q _ h => hFc q h) hFc (fun u t H1 locs ht hvm h hB hz1 hk1 hS => ?_)
    obtain ⟨a_2, rfl⟩ : ∃ z, z = u := ⟨_, rfl⟩
    obtain ⟨hP1, hD1⟩ := hB
    rw [ht] at hP1
    obtain ⟨hP, hD⟩ := va_join (wr := [(m0, .inr (7, [.int th, .int mr, .long po, .ref dO, .ref sl, .ref ct0, .int mf, .int sp, .ref st0, .ref fs0, .ref jn0, .ref rw0, .ref fd0, .ref af0, .ref kO]))]) (w1 := [(q_2, .inr (1, [.ref a_2, .int (0 : Int32), .int (0 : Int32), .int (0 : Int32)])), (a_2, .inl (G.2 2, 16, .inl (fun _ => (0 : Int32))))]) hP hD [1] [0] rfl rfl (by decide) (by decide) hk1 hFc hP1 hD1
    generalize H1 = H at hP hS ⊢
    have hP : PP G [(m0, .inr (7, [.int th, .int mr, .long po, .ref dO, .ref sl, .ref ct0, .int mf, .int sp, .ref st0, .ref fs0, .ref jn0, .ref rw0, .ref fd0, .ref af0, .ref kO])), (q_2, .inr (1, [.ref a_2, .int (0 : Int32), .int (0 : Int32), .int (0 : Int32)])), (a_2, .inl (G.2 2, 16, .inl (fun _ => (0 : Int32))))] H := va_P.sub hP [0, 1, 2] rfl
    have hD : va_D A [(m0, .inr (7, [.int th, .int mr, .long po, .ref dO, .ref sl, .ref ct0, .int mf, .int sp, .ref st0, .ref fs0, .ref jn0, .ref rw0, .ref fd0, .ref af0, .ref kO])), (q_2, .inr (1, [.ref a_2, .int (0 : Int32), .int (0 : Int32), .int (0 : Int32)])), (a_2, .inl (G.2 2, 16, .inl (fun _ => (0 : Int32))))] := hD.sub [0, 1, 2] (by decide) rfl
    refine va_ldcS hx hb hown (litR1 hR) dX4_textNow_77 ?_
    obtain ⟨tl_2, hTl_2⟩ := litJ1 hJ
    obtain ⟨b_7, b_8, h⟩ := h
    obtain ⟨⟨hq_15, hq_16⟩, h⟩ := h
    have hPc := va_P.sub (ws' := [(q_2, .inr (1, [.ref a_2, .int (0 : Int32), .int (0 : Int32), .int (0 : Int32)])), (a_2, .inl (G.2 2, 16, .inl (fun _ => (0 : Int32))))]) hP [1, 2] rfl
    have hDc := hD.sub (ws' := [(q_2, .inr (1, [.ref a_2, .int (0 : Int32), .int (0 : Int32), .int (0 : Int32)])), (a_2, .inl (G.2 2, 16, .inl (fun _ => (0 : Int32))))]) [1, 2] (by decide) rfl
    have hFc := va_free (wc := [(q_2, .inr (1, [.ref a_2, .int (0 : Int32), .int (0 : Int32), .int (0 : Int32)])), (a_2, .inl (G.2 2, 16, .inl (fun _ => (0 : Int32))))]) hD hS hA [1, 2] rfl
    have hJc := (hJ.kept hS.2.1).narrow hFc
    have hTc := (hTl_2.kept hS.2.1).narrow hFc
    refine va_callr (va_runV (C := RJ4) (As := [.ref (G.2 101)]) (rest := []) ⟨hx, hb, hml, hown, hts⟩ (knJ4_append_15ec4 l G q_2 a_2 (G.2 101) tl_2 (0 : Int32) (16) (fun _ => (0 : Int32)) (1) (fun j => ([45] : List Int32).getD j 0) b_7 b_8 _ h) (cwV 1 hts (gdV q1357 q881 q882 q25 q883) rfl rfl rfl (by decide +kernel) ⟨(by show 5 + 1 ≤ 6 + (nR + 1); omega), (by show 8 + (2 + 11) + 131 ≤ 175 + (nR + 1) * 22; omega)⟩) (preVwjt hPc hKK hDc hJc hTc (va_recv hK hPc (ci := 1) (q0 := 0) rfl rfl)) rfl rfl hl.1 rfl (lv_room (Nat.le_of_ble_eq_true rfl)) dX4_textNow_79 ⟨hq_15, hq_16⟩) hS (fun q _ h => hFc q h) hFc (fun u ra t H1 locs ht hvm h hB hz1 hk1 hS => ?_)
    obtain ⟨wc_3, wn_3, wf_3⟩ := u
    obtain ⟨era, hB⟩ := hB
    rw [era]
    obtain ⟨wv_3, hB⟩ := hB
    obtain ⟨hP1, hD1⟩ := hB
    rw [ht] at hP1
    obtain ⟨hP, hD⟩ := va_join (wr := [(m0, .inr (7, [.int th, .int mr, .long po, .ref dO, .ref sl, .ref ct0, .int mf, .int sp, .ref st0, .ref fs0, .ref jn0, .ref rw0, .ref fd0, .ref af0, .ref kO]))]) (w1 := [(q_2, .inr (1, [.ref wv_3, .int (0 : Int32), .int (0 : Int32), .int wc_3])), (wv_3, .inl (G.2 2, wn_3, .inl wf_3))]) hP hD [1, 2] [0] rfl rfl (by decide) (by decide) hk1 hFc hP1 hD1
    generalize H1 = H at hP hS ⊢
    have hP : PP G [(m0, .inr (7, [.int th, .int mr, .long po, .ref dO, .ref sl, .ref ct0, .int mf, .int sp, .ref st0, .ref fs0, .ref jn0, .ref rw0, .ref fd0, .ref af0, .ref kO])), (q_2, .inr (1, [.ref wv_3, .int (0 : Int32), .int (0 : Int32), .int wc_3])), (wv_3, .inl (G.2 2, wn_3, .inl wf_3))] H := va_P.sub hP [0, 1, 2] rfl
    have hD : va_D A [(m0, .inr (7, [.int th, .int mr, .long po, .ref dO, .ref sl, .ref ct0, .int mf, .int sp, .ref st0, .ref fs0, .ref jn0, .ref rw0, .ref fd0, .ref af0, .ref kO])), (q_2, .inr (1, [.ref wv_3, .int (0 : Int32), .int (0 : Int32), .int wc_3])), (wv_3, .inl (G.2 2, wn_3, .inl wf_3))] := hD.sub [0, 1, 2] (by decide) rfl
    refine lv_aload_n hx hb dX4_textNow_82 rfl (lv_at hl 1 rfl) ?_
    refine lv_aload_n hx hb dX4_textNow_83 rfl (lv_at hl 0 rfl) ?_
    refine lv_iconst (v := 1) hx hb dX4_textNow_84 (by decide) ?_
    have hin : vp_in (1 : Int32) 4 := show ¬ ((1 : Int32) < 0 ∨ 4 ≤ ((1 : Int32)).toNatClampNeg) from by decide
    refine va_iald (D := G.1) hx hb hK (hSS.row hf_1 hS.2.1) 0 0 rfl rfl hin dX4_textNow_85 ?_
    obtain ⟨b_9, b_10, h⟩ := h
    obtain ⟨⟨hq_17, hq_18⟩, h⟩ := h
    have hPc := va_P.sub (ws' := [(m0, .inr (7, [.int th, .int mr, .long po, .ref dO, .ref sl, .ref ct0, .int mf, .int sp, .ref st0, .ref fs0, .ref jn0, .ref rw0, .ref fd0, .ref af0, .ref kO]))]) hP [0] rfl
    have hDc := hD.sub (ws' := [(m0, .inr (7, [.int th, .int mr, .long po, .ref dO, .ref sl, .ref ct0, .int mf, .int sp, .ref st0, .ref fs0, .ref jn0, .ref rw0, .ref fd0, .ref af0, .ref kO]))]) [0] (by decide) rfl
    have hFc := va_free (wc := [(m0, .inr (7, [.int th, .int mr, .long po, .ref dO, .ref sl, .ref ct0, .int mf, .int sp, .ref st0, .ref fs0, .ref jn0, .ref rw0, .ref fd0, .ref af0, .ref kO]))]) hD hS hA [0] rfl
    have hSSc := (hSS.kept hS.2.1).narrow hFc
    have hJc := (hJ.kept hS.2.1).narrow hFc
    refine va_callr (va_runV (C := RX4) (As := [.int (sq (p1.toNatClampNeg) (1 : Int32).toNatClampNeg)]) (rest := [.ref q_2]) ⟨hx, hb, hml, hown, hts⟩ (ih l G m0 dO sl ct0 st0 fs0 jn0 rw0 fd0 af0 kO sa th mr po mf sp sn sq b_9 b_10 (sq (p1.toNatClampNeg) (1 : Int32).toNatClampNeg) _ h) (cwV 1 hts (gdV q1350 q1352 qs41 q6 q1353) rfl rfl rfl (by decide +kernel) ⟨(by show 6 + nR + 1 ≤ 6 + (nR + 1); omega), (by show 8 + (3 + 11) + (175 + nR * 22) ≤ 175 + (nR + 1) * 22; omega)⟩) (preVwsj hPc hKK hDc hSSc hJc (va_recv hK hPc (ci := 7) (q0 := 0) rfl rfl)) rfl rfl hl.1 rfl (lv_room (Nat.le_of_ble_eq_true rfl)) dX4_textNow_86 ⟨hq_17, hq_18⟩) hS (fun q _ h => hFc q h) hFc (fun u ra t H1 locs ht hvm h hB hz1 hk1 hS => ?_)
    obtain ⟨c_3, c_4⟩ := u
    obtain ⟨nd_2, hB⟩ := hB
    obtain ⟨na_2, rfl⟩ : ∃ z, z = ra := ⟨_, rfl⟩
    obtain ⟨hP1, hD1⟩ := hB
    rw [ht] at hP1
    obtain ⟨hP, hD⟩ := va_join (wr := [(q_2, .inr (1, [.ref wv_3, .int (0 : Int32), .int (0 : Int32), .int wc_3])), (wv_3, .inl (G.2 2, wn_3, .inl wf_3))]) (w1 := [(m0, .inr (7, [.int th, .int mr, .long po, .ref dO, .ref sl, .ref ct0, .int mf, .int sp, .ref st0, .ref fs0, .ref jn0, .ref rw0, .ref fd0, .ref af0, .ref kO])), (na_2, .inr (0, [.ref nd_2, .int (0 : Int32), .int (0 : Int32), .int (0 : Int32)])), (nd_2, .inl (G.2 2, c_3, .inl c_4))]) hP hD [0] [1, 2] rfl rfl (by decide) (by decide) hk1 hFc hP1 hD1
    generalize H1 = H at hP hS ⊢
    have hP : PP G [(m0, .inr (7, [.int th, .int mr, .long po, .ref dO, .ref sl, .ref ct0, .int mf, .int sp, .ref st0, .ref fs0, .ref jn0, .ref rw0, .ref fd0, .ref af0, .ref kO])), (q_2, .inr (1, [.ref wv_3, .int (0 : Int32), .int (0 : Int32), .int wc_3])), (wv_3, .inl (G.2 2, wn_3, .inl wf_3)), (na_2, .inr (0, [.ref nd_2, .int (0 : Int32), .int (0 : Int32), .int (0 : Int32)])), (nd_2, .inl (G.2 2, c_3, .inl c_4))] H := va_P.sub hP [2, 0, 1, 3, 4] rfl
    have hD : va_D A [(m0, .inr (7, [.int th, .int mr, .long po, .ref dO, .ref sl, .ref ct0, .int mf, .int sp, .ref st0, .ref fs0, .ref jn0, .ref rw0, .ref fd0, .ref af0, .ref kO])), (q_2, .inr (1, [.ref wv_3, .int (0 : Int32), .int (0 : Int32), .int wc_3])), (wv_3, .inl (G.2 2, wn_3, .inl wf_3)), (na_2, .inr (0, [.ref nd_2, .int (0 : Int32), .int (0 : Int32), .int (0 : Int32)])), (nd_2, .inl (G.2 2, c_3, .inl c_4))] := hD.sub [2, 0, 1, 3, 4] (by decide) rfl
    obtain ⟨b_11, b_12, h⟩ := h
    obtain ⟨⟨hq_19, hq_20⟩, h⟩ := h
    have hPc := va_P.sub (ws' := [(q_2, .inr (1, [.ref wv_3, .int (0 : Int32), .int (0 : Int32), .int wc_3])), (wv_3, .inl (G.2 2, wn_3, .inl wf_3))]) hP [1, 2] rfl
    have hDc := hD.sub (ws' := [(q_2, .inr (1, [.ref wv_3, .int (0 : Int32), .int (0 : Int32), .int wc_3])), (wv_3, .inl (G.2 2, wn_3, .inl wf_3))]) [1, 2] (by decide) rfl
    have hFc := va_free (wc := [(q_2, .inr (1, [.ref wv_3, .int (0 : Int32), .int (0 : Int32), .int wc_3])), (wv_3, .inl (G.2 2, wn_3, .inl wf_3))]) hD hS hA [1, 2] rfl
    have hJc := (hJ.kept hS.2.1).narrow hFc
    have hTc := stOf (wc := [(q_2, .inr (1, [.ref wv_3, .int (0 : Int32), .int (0 : Int32), .int wc_3])), (wv_3, .inl (G.2 2, wn_3, .inl wf_3))]) hts hK hP hD [1, 2] 3 4 rfl rfl (by decide) (by decide) rfl
    refine va_callr (va_runV (C := RJ4) (As := [.ref na_2]) (rest := []) ⟨hx, hb, hml, hown, hts⟩ (knJ4_append_15ec4 l G q_2 wv_3 na_2 nd_2 wc_3 wn_3 wf_3 c_3 c_4 b_11 b_12 _ h) (cwV 1 hts (gdV q1357 q881 q882 q25 q883) rfl rfl rfl (by decide +kernel) ⟨(by show 5 + 1 ≤ 6 + (nR + 1); omega), (by show 8 + (2 + 11) + 131 ≤ 175 + (nR + 1) * 22; omega)⟩) (preVwjt hPc hKK hDc hJc hTc (va_recv hK hPc (ci := 1) (q0 := 0) rfl rfl)) rfl rfl hl.1 rfl (lv_room (Nat.le_of_ble_eq_true rfl)) dX4_textNow_89 ⟨hq_19, hq_20⟩) hS (fun q _ h => hFc q h) hFc (fun u ra t H1 locs ht hvm h hB hz1 hk1 hS => ?_)
    obtain ⟨wc_4, wn_4, wf_4⟩ := u
    obtain ⟨era, hB⟩ := hB
    rw [era]
    obtain ⟨wv_4, hB⟩ := hB
    obtain ⟨hP1, hD1⟩ := hB
    rw [ht] at hP1
    obtain ⟨hP, hD⟩ := va_join (wr := [(m0, .inr (7, [.int th, .int mr, .long po, .ref dO, .ref sl, .ref ct0, .int mf, .int sp, .ref st0, .ref fs0, .ref jn0, .ref rw0, .ref fd0, .ref af0, .ref kO])), (na_2, .inr (0, [.ref nd_2, .int (0 : Int32), .int (0 : Int32), .int (0 : Int32)])), (nd_2, .inl (G.2 2, c_3, .inl c_4))]) (w1 := [(q_2, .inr (1, [.ref wv_4, .int (0 : Int32), .int (0 : Int32), .int wc_4])), (wv_4, .inl (G.2 2, wn_4, .inl wf_4))]) hP hD [1, 2] [0, 3, 4] rfl rfl (by decide) (by decide) hk1 hFc hP1 hD1
    generalize H1 = H at hP hS ⊢
    have hP : PP G [(m0, .inr (7, [.int th, .int mr, .long po, .ref dO, .ref sl, .ref ct0, .int mf, .int sp, .ref st0, .ref fs0, .ref jn0, .ref rw0, .ref fd0, .ref af0, .ref kO])), (q_2, .inr (1, [.ref wv_4, .int (0 : Int32), .int (0 : Int32), .int wc_4])), (wv_4, .inl (G.2 2, wn_4, .inl wf_4)), (na_2, .inr (0, [.ref nd_2, .int (0 : Int32), .int (0 : Int32), .int (0 : Int32)])), (nd_2, .inl (G.2 2, c_3, .inl c_4))] H := va_P.sub hP [0, 3, 4, 1, 2] rfl
    have hD : va_D A [(m0, .inr (7, [.int th, .int mr, .long po, .ref dO, .ref sl, .ref ct0, .int mf, .int sp, .ref st0, .ref fs0, .ref jn0, .ref rw0, .ref fd0, .ref af0, .ref kO])), (q_2, .inr (1, [.ref wv_4, .int (0 : Int32), .int (0 : Int32), .int wc_4])), (wv_4, .inl (G.2 2, wn_4, .inl wf_4)), (na_2, .inr (0, [.ref nd_2, .int (0 : Int32), .int (0 : Int32), .int (0 : Int32)])), (nd_2, .inl (G.2 2, c_3, .inl c_4))] := hD.sub [0, 3, 4, 1, 2] (by decide) rfl
    obtain ⟨b_13, b_14, h⟩ := h
    obtain ⟨⟨hq_21, hq_22⟩, h⟩ := h
    have hPc := va_P.sub (ws' := [(q_2, .inr (1, [.ref wv_4, .int (0 : Int32), .int (0 : Int32), .int wc_4])), (wv_4, .inl (G.2 2, wn_4, .inl wf_4))]) hP [1, 2] rfl
    have hDc := hD.sub (ws' := [(q_2, .inr (1, [.ref wv_4, .int (0 : Int32), .int (0 : Int32), .int wc_4])), (wv_4, .inl (G.2 2, wn_4, .inl wf_4))]) [1, 2] (by decide) rfl
    have hFc := va_free (wc := [(q_2, .inr (1, [.ref wv_4, .int (0 : Int32), .int (0 : Int32), .int wc_4])), (wv_4, .inl (G.2 2, wn_4, .inl wf_4))]) hD hS hA [1, 2] rfl
    have hJc := (hJ.kept hS.2.1).narrow hFc
    refine va_callr (va_runV (C := RJ4) (As := []) (rest := []) ⟨hx, hb, hml, hown, hts⟩ (knJ4_toString_0e30d l G q_2 wv_4 wc_4 wn_4 wf_4 b_13 b_14 _ h) (cwV 0 hts (gdV q1359 q840 q841 q25 q842) rfl rfl rfl (by decide +kernel) ⟨(by show 5 + 1 ≤ 6 + (nR + 1); omega), (by show 8 + (1 + 11) + 155 ≤ 175 + (nR + 1) * 22; omega)⟩) (preVwj hPc hKK hDc hJc (va_recv hK hPc (ci := 1) (q0 := 0) rfl rfl)) rfl rfl hl.1 rfl (lv_room (Nat.le_of_ble_eq_true rfl)) dX4_textNow_92 ⟨hq_21, hq_22⟩) hS (fun q _ h => hFc q h) hFc (fun u ra t H1 locs ht hvm h hB hz1 hk1 hS => ?_)
    obtain ⟨c_5, c_6⟩ := u
    obtain ⟨nd_3, hB⟩ := hB
    obtain ⟨na_3, rfl⟩ : ∃ z, z = ra := ⟨_, rfl⟩
    obtain ⟨hP1, hD1⟩ := hB
    rw [ht] at hP1
    obtain ⟨hP, hD⟩ := va_join (wr := [(m0, .inr (7, [.int th, .int mr, .long po, .ref dO, .ref sl, .ref ct0, .int mf, .int sp, .ref st0, .ref fs0, .ref jn0, .ref rw0, .ref fd0, .ref af0, .ref kO])), (na_2, .inr (0, [.ref nd_2, .int (0 : Int32), .int (0 : Int32), .int (0 : Int32)])), (nd_2, .inl (G.2 2, c_3, .inl c_4))]) (w1 := [(q_2, .inr (1, [.ref wv_4, .int (0 : Int32), .int (0 : Int32), .int wc_4])), (wv_4, .inl (G.2 2, wn_4, .inl wf_4)), (na_3, .inr (0, [.ref nd_3, .int (0 : Int32), .int (0 : Int32), .int (0 : Int32)])), (nd_3, .inl (G.2 2, c_5, .inl c_6))]) hP hD [1, 2] [0, 3, 4] rfl rfl (by decide) (by decide) hk1 hFc hP1 hD1
    generalize H1 = H at hP hS ⊢
    have hP : PP G [(m0, .inr (7, [.int th, .int mr, .long po, .ref dO, .ref sl, .ref ct0, .int mf, .int sp, .ref st0, .ref fs0, .ref jn0, .ref rw0, .ref fd0, .ref af0, .ref kO])), (q_2, .inr (1, [.ref wv_4, .int (0 : Int32), .int (0 : Int32), .int wc_4])), (wv_4, .inl (G.2 2, wn_4, .inl wf_4)), (na_2, .inr (0, [.ref nd_2, .int (0 : Int32), .int (0 : Int32), .int (0 : Int32)])), (nd_2, .inl (G.2 2, c_3, .inl c_4)), (na_3, .inr (0, [.ref nd_3, .int (0 : Int32), .int (0 : Int32), .int (0 : Int32)])), (nd_3, .inl (G.2 2, c_5, .inl c_6))] H := va_P.sub hP [0, 3, 4, 1, 2, 5, 6] rfl
    have hD : va_D A [(m0, .inr (7, [.int th, .int mr, .long po, .ref dO, .ref sl, .ref ct0, .int mf, .int sp, .ref st0, .ref fs0, .ref jn0, .ref rw0, .ref fd0, .ref af0, .ref kO])), (q_2, .inr (1, [.ref wv_4, .int (0 : Int32), .int (0 : Int32), .int wc_4])), (wv_4, .inl (G.2 2, wn_4, .inl wf_4)), (na_2, .inr (0, [.ref nd_2, .int (0 : Int32), .int (0 : Int32), .int (0 : Int32)])), (nd_2, .inl (G.2 2, c_3, .inl c_4)), (na_3, .inr (0, [.ref nd_3, .int (0 : Int32), .int (0 : Int32), .int (0 : Int32)])), (nd_3, .inl (G.2 2, c_5, .inl c_6))] := hD.sub [0, 3, 4, 1, 2, 5, 6] (by decide) rfl
    obtain ⟨⟨hw1, hw2⟩, h⟩ := h
    refine W.widen (k := mcb) (n := msb) hw1 hw2 ?_
    have hP : PP G [(m0, .inr (7, [.int th, .int mr, .long po, .ref dO, .ref sl, .ref ct0, .int mf, .int sp, .ref st0, .ref fs0, .ref jn0, .ref rw0, .ref fd0, .ref af0, .ref kO])), (na_3, .inr (0, [.ref nd_3, .int (0 : Int32), .int (0 : Int32), .int (0 : Int32)])), (nd_3, .inl (G.2 2, c_5, .inl c_6))] _ := hP.sub [0, 5, 6] rfl
    have hD : va_D A [(m0, .inr (7, [.int th, .int mr, .long po, .ref dO, .ref sl, .ref ct0, .int mf, .int sp, .ref st0, .ref fs0, .ref jn0, .ref rw0, .ref fd0, .ref af0, .ref kO])), (na_3, .inr (0, [.ref nd_3, .int (0 : Int32), .int (0 : Int32), .int (0 : Int32)])), (nd_3, .inl (G.2 2, c_5, .inl c_6))] := hD.sub [0, 5, 6] (by decide) rfl
    subst hQC; exact W.aret (v := .ref na_3) hx hb hr (by first | exact Or.inl ⟨_, rfl⟩ | exact Or.inr ⟨_, rfl⟩) (Or.inr ⟨_, rfl⟩) (fun t ht hW => ⟨⟨(c_5, c_6), na_3, rfl, h, nd_3, by rw [ht]; exact hP, hD⟩, hS.F ht⟩) hS.2.2 dX4_textNow_95
  have h := h.2 hc1
  by_cases hc2 : (sq (p1.toNatClampNeg) (0 : Int32).toNatClampNeg) = 2
  · have h := h.1 hc2
    refine lv_tableIn (tgt := 96) hx hb dX4_textNow_17 (by rw [hc2]; decide) (by rw [hc2]; decide) (by rw [hc2]; rfl) (by decide) ?_
    obtain ⟨⟨hq_23, hq_24⟩, h⟩ := h
    refine va_new (D := G.1) (ci := 1) (fs := [.null, .int (0 : Int32), .int (0 : Int32), .int (0 : Int32)]) (C := RJ4) (T := TJ4) (N := 4) hx hb hts igJ4 tyJ4 tyJ4_ok hown (hts _ q1354) (hts _ q675) (hts _ q25) hK hP hD hS hA rfl (fun j hj => by rcases (show j = 0 ∨ j = 1 ∨ j = 2 ∨ j = 3 by omega) with rfl | rfl | rfl | rfl <;> rfl) hq_23 hq_24 dX4_textNow_96 (fun q_3 H hP hD hS => ?_)
    have hP : PP G [(m0, .inr (7, [.int th, .int mr, .long po, .ref dO, .ref sl, .ref ct0, .int mf, .int sp, .ref st0, .ref fs0, .ref jn0, .ref rw0, .ref fd0, .ref af0, .ref kO])), (q_3, .inr (1, [.null, .int (0 : Int32), .int (0 : Int32), .int (0 : Int32)]))] H := hP
    have hD : va_D A [(m0, .inr (7, [.int th, .int mr, .long po, .ref dO, .ref sl, .ref ct0, .int mf, .int sp, .ref st0, .ref fs0, .ref jn0, .ref rw0, .ref fd0, .ref af0, .ref kO])), (q_3, .inr (1, [.null, .int (0 : Int32), .int (0 : Int32), .int (0 : Int32)]))] := hD
    refine lv_dup hx hb dX4_textNow_99 rfl ?_
    obtain ⟨⟨hq_25, hq_26⟩, h⟩ := h
    have hPc := va_P.sub (ws' := [(q_3, .inr (1, [.null, .int (0 : Int32), .int (0 : Int32), .int (0 : Int32)]))]) hP [1] rfl
    have hDc := hD.sub (ws' := [(q_3, .inr (1, [.null, .int (0 : Int32), .int (0 : Int32), .int (0 : Int32)]))]) [1] (by decide) rfl
    have hFc := va_free (wc := [(q_3, .inr (1, [.null, .int (0 : Int32), .int (0 : Int32), .int (0 : Int32)]))]) hD hS hA [1] rfl
    have hJc := (hJ.kept hS.2.1).narrow hFc
    refine va_callv (va_runI (As := []) (rest := [.ref q_3]) ⟨hx, hb, hml, hown, hts⟩ (knJ4_init_da8c8 l G q_3 _ h) (cwI 0 hts (gdC q678) rfl rfl rfl (hts _ q25) (hts _ q1355) (hts _ q677) rfl (by decide +kernel) ⟨(by show 2 + 1 ≤ 6 + (nR + 1); omega), (by show 8 + (1 + 11) + 61 ≤ 175 + (nR + 1) * 22; omega)⟩) (preSwj hPc hKK hDc hJc) rfl rfl hl.1 rfl (lv_room (Nat.le_of_ble_eq_true rfl)) dX4_textNow_100 ⟨hq_25, hq_26⟩) hS (fun q _ h => hFc q h) hFc (fun u t H1 locs ht hvm h hB hz1 hk1 hS => ?_)
    obtain ⟨a_3, rfl⟩ : ∃ z, z = u := ⟨_, rfl⟩
    obtain ⟨hP1, hD1⟩ := hB
    rw [ht] at hP1
    obtain ⟨hP, hD⟩ := va_join (wr := [(m0, .inr (7, [.int th, .int mr, .long po, .ref dO, .ref sl, .ref ct0, .int mf, .int sp, .ref st0, .ref fs0, .ref jn0, .ref rw0, .ref fd0, .ref af0, .ref kO]))]) (w1 := [(q_3, .inr (1, [.ref a_3, .int (0 : Int32), .int (0 : Int32), .int (0 : Int32)])), (a_3, .inl (G.2 2, 16, .inl (fun _ => (0 : Int32))))]) hP hD [1] [0] rfl rfl (by decide) (by decide) hk1 hFc hP1 hD1
    generalize H1 = H at hP hS ⊢
    have hP : PP G [(m0, .inr (7, [.int th, .int mr, .long po, .ref dO, .ref sl, .ref ct0, .int mf, .int sp, .ref st0, .ref fs0, .ref jn0, .ref rw0, .ref fd0, .ref af0, .ref kO])), (q_3, .inr (1, [.ref a_3, .int (0 : Int32), .int (0 : Int32), .int (0 : Int32)])), (a_3, .inl (G.2 2, 16, .inl (fun _ => (0 : Int32))))] H := va_P.sub hP [0, 1, 2] rfl
    have hD : va_D A [(m0, .inr (7, [.int th, .int mr, .long po, .ref dO, .ref sl, .ref ct0, .int mf, .int sp, .ref st0, .ref fs0, .ref jn0, .ref rw0, .ref fd0, .ref af0, .ref kO])), (q_3, .inr (1, [.ref a_3, .int (0 : Int32), .int (0 : Int32), .int (0 : Int32)])), (a_3, .inl (G.2 2, 16, .inl (fun _ => (0 : Int32))))] := hD.sub [0, 1, 2] (by decide) rfl
    refine va_ldcS hx hb hown (litR2 hR) dX4_textNow_103 ?_
    obtain ⟨tl_3, hTl_3⟩ := litJ2 hJ
    obtain ⟨b_15, b_16, h⟩ := h
    obtain ⟨⟨hq_27, hq_28⟩, h⟩ := h
    have hPc := va_P.sub (ws' := [(q_3, .inr (1, [.ref a_3, .int (0 : Int32), .int (0 : Int32), .int (0 : Int32)])), (a_3, .inl (G.2 2, 16, .inl (fun _ => (0 : Int32))))]) hP [1, 2] rfl
    have hDc := hD.sub (ws' := [(q_3, .inr (1, [.ref a_3, .int (0 : Int32), .int (0 : Int32), .int (0 : Int32)])), (a_3, .inl (G.2 2, 16, .inl (fun _ => (0 : Int32))))]) [1, 2] (by decide) rfl
    have hFc := va_free (wc := [(q_3, .inr (1, [.ref a_3, .int (0 : Int32), .int (0 : Int32), .int (0 : Int32)])), (a_3, .inl (G.2 2, 16, .inl (fun _ => (0 : Int32))))]) hD hS hA [1, 2] rfl
    have hJc := (hJ.kept hS.2.1).narrow hFc
    have hTc := (hTl_3.kept hS.2.1).narrow hFc
    refine va_callr (va_runV (C := RJ4) (As := [.ref (G.2 102)]) (rest := []) ⟨hx, hb, hml, hown, hts⟩ (knJ4_append_15ec4 l G q_3 a_3 (G.2 102) tl_3 (0 : Int32) (16) (fun _ => (0 : Int32)) (1) (fun j => ([40] : List Int32).getD j 0) b_15 b_16 _ h) (cwV 1 hts (gdV q1357 q881 q882 q25 q883) rfl rfl rfl (by decide +kernel) ⟨(by show 5 + 1 ≤ 6 + (nR + 1); omega), (by show 8 + (2 + 11) + 131 ≤ 175 + (nR + 1) * 22; omega)⟩) (preVwjt hPc hKK hDc hJc hTc (va_recv hK hPc (ci := 1) (q0 := 0) rfl rfl)) rfl rfl hl.1 rfl (lv_room (Nat.le_of_ble_eq_true rfl)) dX4_textNow_105 ⟨hq_27, hq_28⟩) hS (fun q _ h => hFc q h) hFc (fun u ra t H1 locs ht hvm h hB hz1 hk1 hS => ?_)
    obtain ⟨wc_5, wn_5, wf_5⟩ := u
    obtain ⟨era, hB⟩ := hB
    rw [era]
    obtain ⟨wv_5, hB⟩ := hB
    obtain ⟨hP1, hD1⟩ := hB
    rw [ht] at hP1
    obtain ⟨hP, hD⟩ := va_join (wr := [(m0, .inr (7, [.int th, .int mr, .long po, .ref dO, .ref sl, .ref ct0, .int mf, .int sp, .ref st0, .ref fs0, .ref jn0, .ref rw0, .ref fd0, .ref af0, .ref kO]))]) (w1 := [(q_3, .inr (1, [.ref wv_5, .int (0 : Int32), .int (0 : Int32), .int wc_5])), (wv_5, .inl (G.2 2, wn_5, .inl wf_5))]) hP hD [1, 2] [0] rfl rfl (by decide) (by decide) hk1 hFc hP1 hD1
    generalize H1 = H at hP hS ⊢
    have hP : PP G [(m0, .inr (7, [.int th, .int mr, .long po, .ref dO, .ref sl, .ref ct0, .int mf, .int sp, .ref st0, .ref fs0, .ref jn0, .ref rw0, .ref fd0, .ref af0, .ref kO])), (q_3, .inr (1, [.ref wv_5, .int (0 : Int32), .int (0 : Int32), .int wc_5])), (wv_5, .inl (G.2 2, wn_5, .inl wf_5))] H := va_P.sub hP [0, 1, 2] rfl
    have hD : va_D A [(m0, .inr (7, [.int th, .int mr, .long po, .ref dO, .ref sl, .ref ct0, .int mf, .int sp, .ref st0, .ref fs0, .ref jn0, .ref rw0, .ref fd0, .ref af0, .ref kO])), (q_3, .inr (1, [.ref wv_5, .int (0 : Int32), .int (0 : Int32), .int wc_5])), (wv_5, .inl (G.2 2, wn_5, .inl wf_5))] := hD.sub [0, 1, 2] (by decide) rfl
    refine lv_aload_n hx hb dX4_textNow_108 rfl (lv_at hl 1 rfl) ?_
    refine lv_aload_n hx hb dX4_textNow_109 rfl (lv_at hl 0 rfl) ?_
    refine lv_iconst (v := 1) hx hb dX4_textNow_110 (by decide) ?_
    have hin : vp_in (1 : Int32) 4 := show ¬ ((1 : Int32) < 0 ∨ 4 ≤ ((1 : Int32)).toNatClampNeg) from by decide
    refine va_iald (D := G.1) hx hb hK (hSS.row hf_1 hS.2.1) 0 0 rfl rfl hin dX4_textNow_111 ?_
    obtain ⟨b_17, b_18, h⟩ := h
    obtain ⟨⟨hq_29, hq_30⟩, h⟩ := h
    have hPc := va_P.sub (ws' := [(m0, .inr (7, [.int th, .int mr, .long po, .ref dO, .ref sl, .ref ct0, .int mf, .int sp, .ref st0, .ref fs0, .ref jn0, .ref rw0, .ref fd0, .ref af0, .ref kO]))]) hP [0] rfl
    have hDc := hD.sub (ws' := [(m0, .inr (7, [.int th, .int mr, .long po, .ref dO, .ref sl, .ref ct0, .int mf, .int sp, .ref st0, .ref fs0, .ref jn0, .ref rw0, .ref fd0, .ref af0, .ref kO]))]) [0] (by decide) rfl
    have hFc := va_free (wc := [(m0, .inr (7, [.int th, .int mr, .long po, .ref dO, .ref sl, .ref ct0, .int mf, .int sp, .ref st0, .ref fs0, .ref jn0, .ref rw0, .ref fd0, .ref af0, .ref kO]))]) hD hS hA [0] rfl
    have hSSc := (hSS.kept hS.2.1).narrow hFc
    have hJc := (hJ.kept hS.2.1).narrow hFc
    refine va_callr (va_runV (C := RX4) (As := [.int (sq (p1.toNatClampNeg) (1 : Int32).toNatClampNeg)]) (rest := [.ref q_3]) ⟨hx, hb, hml, hown, hts⟩ (ih l G m0 dO sl ct0 st0 fs0 jn0 rw0 fd0 af0 kO sa th mr po mf sp sn sq b_17 b_18 (sq (p1.toNatClampNeg) (1 : Int32).toNatClampNeg) _ h) (cwV 1 hts (gdV q1350 q1352 qs41 q6 q1353) rfl rfl rfl (by decide +kernel) ⟨(by show 6 + nR + 1 ≤ 6 + (nR + 1); omega), (by show 8 + (3 + 11) + (175 + nR * 22) ≤ 175 + (nR + 1) * 22; omega)⟩) (preVwsj hPc hKK hDc hSSc hJc (va_recv hK hPc (ci := 7) (q0 := 0) rfl rfl)) rfl rfl hl.1 rfl (lv_room (Nat.le_of_ble_eq_true rfl)) dX4_textNow_112 ⟨hq_29, hq_30⟩) hS (fun q _ h => hFc q h) hFc (fun u ra t H1 locs ht hvm h hB hz1 hk1 hS => ?_)
    obtain ⟨c_7, c_8⟩ := u
    obtain ⟨nd_4, hB⟩ := hB
    obtain ⟨na_4, rfl⟩ : ∃ z, z = ra := ⟨_, rfl⟩
    obtain ⟨hP1, hD1⟩ := hB
    rw [ht] at hP1
    obtain ⟨hP, hD⟩ := va_join (wr := [(q_3, .inr (1, [.ref wv_5, .int (0 : Int32), .int (0 : Int32), .int wc_5])), (wv_5, .inl (G.2 2, wn_5, .inl wf_5))]) (w1 := [(m0, .inr (7, [.int th, .int mr, .long po, .ref dO, .ref sl, .ref ct0, .int mf, .int sp, .ref st0, .ref fs0, .ref jn0, .ref rw0, .ref fd0, .ref af0, .ref kO])), (na_4, .inr (0, [.ref nd_4, .int (0 : Int32), .int (0 : Int32), .int (0 : Int32)])), (nd_4, .inl (G.2 2, c_7, .inl c_8))]) hP hD [0] [1, 2] rfl rfl (by decide) (by decide) hk1 hFc hP1 hD1
    generalize H1 = H at hP hS ⊢
    have hP : PP G [(m0, .inr (7, [.int th, .int mr, .long po, .ref dO, .ref sl, .ref ct0, .int mf, .int sp, .ref st0, .ref fs0, .ref jn0, .ref rw0, .ref fd0, .ref af0, .ref kO])), (q_3, .inr (1, [.ref wv_5, .int (0 : Int32), .int (0 : Int32), .int wc_5])), (wv_5, .inl (G.2 2, wn_5, .inl wf_5)), (na_4, .inr (0, [.ref nd_4, .int (0 : Int32), .int (0 : Int32), .int (0 : Int32)])), (nd_4, .inl (G.2 2, c_7, .inl c_8))] H := va_P.sub hP [2, 0, 1, 3, 4] rfl
    have hD : va_D A [(m0, .inr (7, [.int th, .int mr, .long po, .ref dO, .ref sl, .ref ct0, .int mf, .int sp, .ref st0, .ref fs0, .ref jn0, .ref rw0, .ref fd0, .ref af0, .ref kO])), (q_3, .inr (1, [.ref wv_5, .int (0 : Int32), .int (0 : Int32), .int wc_5])), (wv_5, .inl (G.2 2, wn_5, .inl wf_5)), (na_4, .inr (0, [.ref nd_4, .int (0 : Int32), .int (0 : Int32), .int (0 : Int32)])), (nd_4, .inl (G.2 2, c_7, .inl c_8))] := hD.sub [2, 0, 1, 3, 4] (by decide) rfl
    obtain ⟨b_19, b_20, h⟩ := h
    obtain ⟨⟨hq_31, hq_32⟩, h⟩ := h
    have hPc := va_P.sub (ws' := [(q_3, .inr (1, [.ref wv_5, .int (0 : Int32), .int (0 : Int32), .int wc_5])), (wv_5, .inl (G.2 2, wn_5, .inl wf_5))]) hP [1, 2] rfl
    have hDc := hD.sub (ws' := [(q_3, .inr (1, [.ref wv_5, .int (0 : Int32), .int (0 : Int32), .int wc_5])), (wv_5, .inl (G.2 2, wn_5, .inl wf_5))]) [1, 2] (by decide) rfl
    have hFc := va_free (wc := [(q_3, .inr (1, [.ref wv_5, .int (0 : Int32), .int (0 : Int32), .int wc_5])), (wv_5, .inl (G.2 2, wn_5, .inl wf_5))]) hD hS hA [1, 2] rfl
    have hJc := (hJ.kept hS.2.1).narrow hFc
    have hTc := stOf (wc := [(q_3, .inr (1, [.ref wv_5, .int (0 : Int32), .int (0 : Int32), .int wc_5])), (wv_5, .inl (G.2 2, wn_5, .inl wf_5))]) hts hK hP hD [1, 2] 3 4 rfl rfl (by decide) (by decide) rfl
    refine va_callr (va_runV (C := RJ4) (As := [.ref na_4]) (rest := []) ⟨hx, hb, hml, hown, hts⟩ (knJ4_append_15ec4 l G q_3 wv_5 na_4 nd_4 wc_5 wn_5 wf_5 c_7 c_8 b_19 b_20 _ h) (cwV 1 hts (gdV q1357 q881 q882 q25 q883) rfl rfl rfl (by decide +kernel) ⟨(by show 5 + 1 ≤ 6 + (nR + 1); omega), (by show 8 + (2 + 11) + 131 ≤ 175 + (nR + 1) * 22; omega)⟩) (preVwjt hPc hKK hDc hJc hTc (va_recv hK hPc (ci := 1) (q0 := 0) rfl rfl)) rfl rfl hl.1 rfl (lv_room (Nat.le_of_ble_eq_true rfl)) dX4_textNow_115 ⟨hq_31, hq_32⟩) hS (fun q _ h => hFc q h) hFc (fun u ra t H1 locs ht hvm h hB hz1 hk1 hS => ?_)
    obtain ⟨wc_6, wn_6, wf_6⟩ := u
    obtain ⟨era, hB⟩ := hB
    rw [era]
    obtain ⟨wv_6, hB⟩ := hB
    obtain ⟨hP1, hD1⟩ := hB
    rw [ht] at hP1
    obtain ⟨hP, hD⟩ := va_join (wr := [(m0, .inr (7, [.int th, .int mr, .long po, .ref dO, .ref sl, .ref ct0, .int mf, .int sp, .ref st0, .ref fs0, .ref jn0, .ref rw0, .ref fd0, .ref af0, .ref kO])), (na_4, .inr (0, [.ref nd_4, .int (0 : Int32), .int (0 : Int32), .int (0 : Int32)])), (nd_4, .inl (G.2 2, c_7, .inl c_8))]) (w1 := [(q_3, .inr (1, [.ref wv_6, .int (0 : Int32), .int (0 : Int32), .int wc_6])), (wv_6, .inl (G.2 2, wn_6, .inl wf_6))]) hP hD [1, 2] [0, 3, 4] rfl rfl (by decide) (by decide) hk1 hFc hP1 hD1
    generalize H1 = H at hP hS ⊢
    have hP : PP G [(m0, .inr (7, [.int th, .int mr, .long po, .ref dO, .ref sl, .ref ct0, .int mf, .int sp, .ref st0, .ref fs0, .ref jn0, .ref rw0, .ref fd0, .ref af0, .ref kO])), (q_3, .inr (1, [.ref wv_6, .int (0 : Int32), .int (0 : Int32), .int wc_6])), (wv_6, .inl (G.2 2, wn_6, .inl wf_6)), (na_4, .inr (0, [.ref nd_4, .int (0 : Int32), .int (0 : Int32), .int (0 : Int32)])), (nd_4, .inl (G.2 2, c_7, .inl c_8))] H := va_P.sub hP [0, 3, 4, 1, 2] rfl
    have hD : va_D A [(m0, .inr (7, [.int th, .int mr, .long po, .ref dO, .ref sl, .ref ct0, .int mf, .int sp, .ref st0, .ref fs0, .ref jn0, .ref rw0, .ref fd0, .ref af0, .ref kO])), (q_3, .inr (1, [.ref wv_6, .int (0 : Int32), .int (0 : Int32), .int wc_6])), (wv_6, .inl (G.2 2, wn_6, .inl wf_6)), (na_4, .inr (0, [.ref nd_4, .int (0 : Int32), .int (0 : Int32), .int (0 : Int32)])), (nd_4, .inl (G.2 2, c_7, .inl c_8))] := hD.sub [0, 3, 4, 1, 2] (by decide) rfl
    refine va_ldcS hx hb hown (litR3 hR) dX4_textNow_118 ?_
    obtain ⟨tl_4, hTl_4⟩ := litJ3 hJ
    obtain ⟨b_21, b_22, h⟩ := h
    obtain ⟨⟨hq_33, hq_34⟩, h⟩ := h
    have hPc := va_P.sub (ws' := [(q_3, .inr (1, [.ref wv_6, .int (0 : Int32), .int (0 : Int32), .int wc_6])), (wv_6, .inl (G.2 2, wn_6, .inl wf_6))]) hP [1, 2] rfl
    have hDc := hD.sub (ws' := [(q_3, .inr (1, [.ref wv_6, .int (0 : Int32), .int (0 : Int32), .int wc_6])), (wv_6, .inl (G.2 2, wn_6, .inl wf_6))]) [1, 2] (by decide) rfl
    have hFc := va_free (wc := [(q_3, .inr (1, [.ref wv_6, .int (0 : Int32), .int (0 : Int32), .int wc_6])), (wv_6, .inl (G.2 2, wn_6, .inl wf_6))]) hD hS hA [1, 2] rfl
    have hJc := (hJ.kept hS.2.1).narrow hFc
    have hTc := (hTl_4.kept hS.2.1).narrow hFc
    refine va_callr (va_runV (C := RJ4) (As := [.ref (G.2 103)]) (rest := []) ⟨hx, hb, hml, hown, hts⟩ (knJ4_append_15ec4 l G q_3 wv_6 (G.2 103) tl_4 wc_6 wn_6 wf_6 (1) (fun j => ([38] : List Int32).getD j 0) b_21 b_22 _ h) (cwV 1 hts (gdV q1357 q881 q882 q25 q883) rfl rfl rfl (by decide +kernel) ⟨(by show 5 + 1 ≤ 6 + (nR + 1); omega), (by show 8 + (2 + 11) + 131 ≤ 175 + (nR + 1) * 22; omega)⟩) (preVwjt hPc hKK hDc hJc hTc (va_recv hK hPc (ci := 1) (q0 := 0) rfl rfl)) rfl rfl hl.1 rfl (lv_room (Nat.le_of_ble_eq_true rfl)) dX4_textNow_120 ⟨hq_33, hq_34⟩) hS (fun q _ h => hFc q h) hFc (fun u ra t H1 locs ht hvm h hB hz1 hk1 hS => ?_)
    obtain ⟨wc_7, wn_7, wf_7⟩ := u
    obtain ⟨era, hB⟩ := hB
    rw [era]
    obtain ⟨wv_7, hB⟩ := hB
    obtain ⟨hP1, hD1⟩ := hB
    rw [ht] at hP1
    obtain ⟨hP, hD⟩ := va_join (wr := [(m0, .inr (7, [.int th, .int mr, .long po, .ref dO, .ref sl, .ref ct0, .int mf, .int sp, .ref st0, .ref fs0, .ref jn0, .ref rw0, .ref fd0, .ref af0, .ref kO])), (na_4, .inr (0, [.ref nd_4, .int (0 : Int32), .int (0 : Int32), .int (0 : Int32)])), (nd_4, .inl (G.2 2, c_7, .inl c_8))]) (w1 := [(q_3, .inr (1, [.ref wv_7, .int (0 : Int32), .int (0 : Int32), .int wc_7])), (wv_7, .inl (G.2 2, wn_7, .inl wf_7))]) hP hD [1, 2] [0, 3, 4] rfl rfl (by decide) (by decide) hk1 hFc hP1 hD1
    generalize H1 = H at hP hS ⊢
    have hP : PP G [(m0, .inr (7, [.int th, .int mr, .long po, .ref dO, .ref sl, .ref ct0, .int mf, .int sp, .ref st0, .ref fs0, .ref jn0, .ref rw0, .ref fd0, .ref af0, .ref kO])), (q_3, .inr (1, [.ref wv_7, .int (0 : Int32), .int (0 : Int32), .int wc_7])), (wv_7, .inl (G.2 2, wn_7, .inl wf_7)), (na_4, .inr (0, [.ref nd_4, .int (0 : Int32), .int (0 : Int32), .int (0 : Int32)])), (nd_4, .inl (G.2 2, c_7, .inl c_8))] H := va_P.sub hP [0, 3, 4, 1, 2] rfl
    have hD : va_D A [(m0, .inr (7, [.int th, .int mr, .long po, .ref dO, .ref sl, .ref ct0, .int mf, .int sp, .ref st0, .ref fs0, .ref jn0, .ref rw0, .ref fd0, .ref af0, .ref kO])), (q_3, .inr (1, [.ref wv_7, .int (0 : Int32), .int (0 : Int32), .int wc_7])), (wv_7, .inl (G.2 2, wn_7, .inl wf_7)), (na_4, .inr (0, [.ref nd_4, .int (0 : Int32), .int (0 : Int32), .int (0 : Int32)])), (nd_4, .inl (G.2 2, c_7, .inl c_8))] := hD.sub [0, 3, 4, 1, 2] (by decide) rfl
    refine lv_aload_n hx hb dX4_textNow_123 rfl (lv_at hl 1 rfl) ?_
    refine lv_aload_n hx hb dX4_textNow_124 rfl (lv_at hl 0 rfl) ?_
    refine lv_iconst (v := 2) hx hb dX4_textNow_125 (by decide) ?_
    have hin : vp_in (2 : Int32) 4 := show ¬ ((2 : Int32) < 0 ∨ 4 ≤ ((2 : Int32)).toNatClampNeg) from by decide
    refine va_iald (D := G.1) hx hb hK (hSS.row hf_1 hS.2.1) 0 0 rfl rfl hin dX4_textNow_126 ?_
    obtain ⟨b_23, b_24, h⟩ := h
    obtain ⟨⟨hq_35, hq_36⟩, h⟩ := h
    have hPc := va_P.sub (ws' := [(m0, .inr (7, [.int th, .int mr, .long po, .ref dO, .ref sl, .ref ct0, .int mf, .int sp, .ref st0, .ref fs0, .ref jn0, .ref rw0, .ref fd0, .ref af0, .ref kO]))]) hP [0] rfl
    have hDc := hD.sub (ws' := [(m0, .inr (7, [.int th, .int mr, .long po, .ref dO, .ref sl, .ref ct0, .int mf, .int sp, .ref st0, .ref fs0, .ref jn0, .ref rw0, .ref fd0, .ref af0, .ref kO]))]) [0] (by decide) rfl
    have hFc := va_free (wc := [(m0, .inr (7, [.int th, .int mr, .long po, .ref dO, .ref sl, .ref ct0, .int mf, .int sp, .ref st0, .ref fs0, .ref jn0, .ref rw0, .ref fd0, .ref af0, .ref kO]))]) hD hS hA [0] rfl
    have hSSc := (hSS.kept hS.2.1).narrow hFc
    have hJc := (hJ.kept hS.2.1).narrow hFc
    refine va_callr (va_runV (C := RX4) (As := [.int (sq (p1.toNatClampNeg) (2 : Int32).toNatClampNeg)]) (rest := [.ref q_3]) ⟨hx, hb, hml, hown, hts⟩ (ih l G m0 dO sl ct0 st0 fs0 jn0 rw0 fd0 af0 kO sa th mr po mf sp sn sq b_23 b_24 (sq (p1.toNatClampNeg) (2 : Int32).toNatClampNeg) _ h) (cwV 1 hts (gdV q1350 q1352 qs41 q6 q1353) rfl rfl rfl (by decide +kernel) ⟨(by show 6 + nR + 1 ≤ 6 + (nR + 1); omega), (by show 8 + (3 + 11) + (175 + nR * 22) ≤ 175 + (nR + 1) * 22; omega)⟩) (preVwsj hPc hKK hDc hSSc hJc (va_recv hK hPc (ci := 7) (q0 := 0) rfl rfl)) rfl rfl hl.1 rfl (lv_room (Nat.le_of_ble_eq_true rfl)) dX4_textNow_127 ⟨hq_35, hq_36⟩) hS (fun q _ h => hFc q h) hFc (fun u ra t H1 locs ht hvm h hB hz1 hk1 hS => ?_)
    obtain ⟨c_9, c_10⟩ := u
    obtain ⟨nd_5, hB⟩ := hB
    obtain ⟨na_5, rfl⟩ : ∃ z, z = ra := ⟨_, rfl⟩
    obtain ⟨hP1, hD1⟩ := hB
    rw [ht] at hP1
    obtain ⟨hP, hD⟩ := va_join (wr := [(q_3, .inr (1, [.ref wv_7, .int (0 : Int32), .int (0 : Int32), .int wc_7])), (wv_7, .inl (G.2 2, wn_7, .inl wf_7)), (na_4, .inr (0, [.ref nd_4, .int (0 : Int32), .int (0 : Int32), .int (0 : Int32)])), (nd_4, .inl (G.2 2, c_7, .inl c_8))]) (w1 := [(m0, .inr (7, [.int th, .int mr, .long po, .ref dO, .ref sl, .ref ct0, .int mf, .int sp, .ref st0, .ref fs0, .ref jn0, .ref rw0, .ref fd0, .ref af0, .ref kO])), (na_5, .inr (0, [.ref nd_5, .int (0 : Int32), .int (0 : Int32), .int (0 : Int32)])), (nd_5, .inl (G.2 2, c_9, .inl c_10))]) hP hD [0] [1, 2, 3, 4] rfl rfl (by decide) (by decide) hk1 hFc hP1 hD1
    generalize H1 = H at hP hS ⊢
    have hP : PP G [(m0, .inr (7, [.int th, .int mr, .long po, .ref dO, .ref sl, .ref ct0, .int mf, .int sp, .ref st0, .ref fs0, .ref jn0, .ref rw0, .ref fd0, .ref af0, .ref kO])), (q_3, .inr (1, [.ref wv_7, .int (0 : Int32), .int (0 : Int32), .int wc_7])), (wv_7, .inl (G.2 2, wn_7, .inl wf_7)), (na_4, .inr (0, [.ref nd_4, .int (0 : Int32), .int (0 : Int32), .int (0 : Int32)])), (nd_4, .inl (G.2 2, c_7, .inl c_8)), (na_5, .inr (0, [.ref nd_5, .int (0 : Int32), .int (0 : Int32), .int (0 : Int32)])), (nd_5, .inl (G.2 2, c_9, .inl c_10))] H := va_P.sub hP [4, 0, 1, 2, 3, 5, 6] rfl
    have hD : va_D A [(m0, .inr (7, [.int th, .int mr, .long po, .ref dO, .ref sl, .ref ct0, .int mf, .int sp, .ref st0, .ref fs0, .ref jn0, .ref rw0, .ref fd0, .ref af0, .ref kO])), (q_3, .inr (1, [.ref wv_7, .int (0 : Int32), .int (0 : Int32), .int wc_7])), (wv_7, .inl (G.2 2, wn_7, .inl wf_7)), (na_4, .inr (0, [.ref nd_4, .int (0 : Int32), .int (0 : Int32), .int (0 : Int32)])), (nd_4, .inl (G.2 2, c_7, .inl c_8)), (na_5, .inr (0, [.ref nd_5, .int (0 : Int32), .int (0 : Int32), .int (0 : Int32)])), (nd_5, .inl (G.2 2, c_9, .inl c_10))] := hD.sub [4, 0, 1, 2, 3, 5, 6] (by decide) rfl
    obtain ⟨b_25, b_26, h⟩ := h
    obtain ⟨⟨hq_37, hq_38⟩, h⟩ := h
    have hPc := va_P.sub (ws' := [(q_3, .inr (1, [.ref wv_7, .int (0 : Int32), .int (0 : Int32), .int wc_7])), (wv_7, .inl (G.2 2, wn_7, .inl wf_7))]) hP [1, 2] rfl
    have hDc := hD.sub (ws' := [(q_3, .inr (1, [.ref wv_7, .int (0 : Int32), .int (0 : Int32), .int wc_7])), (wv_7, .inl (G.2 2, wn_7, .inl wf_7))]) [1, 2] (by decide) rfl
    have hFc := va_free (wc := [(q_3, .inr (1, [.ref wv_7, .int (0 : Int32), .int (0 : Int32), .int wc_7])), (wv_7, .inl (G.2 2, wn_7, .inl wf_7))]) hD hS hA [1, 2] rfl
    have hJc := (hJ.kept hS.2.1).narrow hFc
    have hTc := stOf (wc := [(q_3, .inr (1, [.ref wv_7, .int (0 : Int32), .int (0 : Int32), .int wc_7])), (wv_7, .inl (G.2 2, wn_7, .inl wf_7))]) hts hK hP hD [1, 2] 5 6 rfl rfl (by decide) (by decide) rfl
    refine va_callr (va_runV (C := RJ4) (As := [.ref na_5]) (rest := []) ⟨hx, hb, hml, hown, hts⟩ (knJ4_append_15ec4 l G q_3 wv_7 na_5 nd_5 wc_7 wn_7 wf_7 c_9 c_10 b_25 b_26 _ h) (cwV 1 hts (gdV q1357 q881 q882 q25 q883) rfl rfl rfl (by decide +kernel) ⟨(by show 5 + 1 ≤ 6 + (nR + 1); omega), (by show 8 + (2 + 11) + 131 ≤ 175 + (nR + 1) * 22; omega)⟩) (preVwjt hPc hKK hDc hJc hTc (va_recv hK hPc (ci := 1) (q0 := 0) rfl rfl)) rfl rfl hl.1 rfl (lv_room (Nat.le_of_ble_eq_true rfl)) dX4_textNow_130 ⟨hq_37, hq_38⟩) hS (fun q _ h => hFc q h) hFc (fun u ra t H1 locs ht hvm h hB hz1 hk1 hS => ?_)
    obtain ⟨wc_8, wn_8, wf_8⟩ := u
    obtain ⟨era, hB⟩ := hB
    rw [era]
    obtain ⟨wv_8, hB⟩ := hB
    obtain ⟨hP1, hD1⟩ := hB
    rw [ht] at hP1
    obtain ⟨hP, hD⟩ := va_join (wr := [(m0, .inr (7, [.int th, .int mr, .long po, .ref dO, .ref sl, .ref ct0, .int mf, .int sp, .ref st0, .ref fs0, .ref jn0, .ref rw0, .ref fd0, .ref af0, .ref kO])), (na_4, .inr (0, [.ref nd_4, .int (0 : Int32), .int (0 : Int32), .int (0 : Int32)])), (nd_4, .inl (G.2 2, c_7, .inl c_8)), (na_5, .inr (0, [.ref nd_5, .int (0 : Int32), .int (0 : Int32), .int (0 : Int32)])), (nd_5, .inl (G.2 2, c_9, .inl c_10))]) (w1 := [(q_3, .inr (1, [.ref wv_8, .int (0 : Int32), .int (0 : Int32), .int wc_8])), (wv_8, .inl (G.2 2, wn_8, .inl wf_8))]) hP hD [1, 2] [0, 3, 4, 5, 6] rfl rfl (by decide) (by decide) hk1 hFc hP1 hD1
    generalize H1 = H at hP hS ⊢
    have hP : PP G [(m0, .inr (7, [.int th, .int mr, .long po, .ref dO, .ref sl, .ref ct0, .int mf, .int sp, .ref st0, .ref fs0, .ref jn0, .ref rw0, .ref fd0, .ref af0, .ref kO])), (q_3, .inr (1, [.ref wv_8, .int (0 : Int32), .int (0 : Int32), .int wc_8])), (wv_8, .inl (G.2 2, wn_8, .inl wf_8)), (na_4, .inr (0, [.ref nd_4, .int (0 : Int32), .int (0 : Int32), .int (0 : Int32)])), (nd_4, .inl (G.2 2, c_7, .inl c_8)), (na_5, .inr (0, [.ref nd_5, .int (0 : Int32), .int (0 : Int32), .int (0 : Int32)])), (nd_5, .inl (G.2 2, c_9, .inl c_10))] H := va_P.sub hP [0, 5, 6, 1, 2, 3, 4] rfl
    have hD : va_D A [(m0, .inr (7, [.int th, .int mr, .long po, .ref dO, .ref sl, .ref ct0, .int mf, .int sp, .ref st0, .ref fs0, .ref jn0, .ref rw0, .ref fd0, .ref af0, .ref kO])), (q_3, .inr (1, [.ref wv_8, .int (0 : Int32), .int (0 : Int32), .int wc_8])), (wv_8, .inl (G.2 2, wn_8, .inl wf_8)), (na_4, .inr (0, [.ref nd_4, .int (0 : Int32), .int (0 : Int32), .int (0 : Int32)])), (nd_4, .inl (G.2 2, c_7, .inl c_8)), (na_5, .inr (0, [.ref nd_5, .int (0 : Int32), .int (0 : Int32), .int (0 : Int32)])), (nd_5, .inl (G.2 2, c_9, .inl c_10))] := hD.sub [0, 5, 6, 1, 2, 3, 4] (by decide) rfl
    refine va_ldcS hx hb hown (litR4 hR) dX4_textNow_133 ?_
    obtain ⟨tl_5, hTl_5⟩ := litJ4 hJ
    obtain ⟨b_27, b_28, h⟩ := h
    obtain ⟨⟨hq_39, hq_40⟩, h⟩ := h
    have hPc := va_P.sub (ws' := [(q_3, .inr (1, [.ref wv_8, .int (0 : Int32), .int (0 : Int32), .int wc_8])), (wv_8, .inl (G.2 2, wn_8, .inl wf_8))]) hP [1, 2] rfl
    have hDc := hD.sub (ws' := [(q_3, .inr (1, [.ref wv_8, .int (0 : Int32), .int (0 : Int32), .int wc_8])), (wv_8, .inl (G.2 2, wn_8, .inl wf_8))]) [1, 2] (by decide) rfl
    have hFc := va_free (wc := [(q_3, .inr (1, [.ref wv_8, .int (0 : Int32), .int (0 : Int32), .int wc_8])), (wv_8, .inl (G.2 2, wn_8, .inl wf_8))]) hD hS hA [1, 2] rfl
    have hJc := (hJ.kept hS.2.1).narrow hFc
    have hTc := (hTl_5.kept hS.2.1).narrow hFc
    refine va_callr (va_runV (C := RJ4) (As := [.ref (G.2 104)]) (rest := []) ⟨hx, hb, hml, hown, hts⟩ (knJ4_append_15ec4 l G q_3 wv_8 (G.2 104) tl_5 wc_8 wn_8 wf_8 (1) (fun j => ([41] : List Int32).getD j 0) b_27 b_28 _ h) (cwV 1 hts (gdV q1357 q881 q882 q25 q883) rfl rfl rfl (by decide +kernel) ⟨(by show 5 + 1 ≤ 6 + (nR + 1); omega), (by show 8 + (2 + 11) + 131 ≤ 175 + (nR + 1) * 22; omega)⟩) (preVwjt hPc hKK hDc hJc hTc (va_recv hK hPc (ci := 1) (q0 := 0) rfl rfl)) rfl rfl hl.1 rfl (lv_room (Nat.le_of_ble_eq_true rfl)) dX4_textNow_135 ⟨hq_39, hq_40⟩) hS (fun q _ h => hFc q h) hFc (fun u ra t H1 locs ht hvm h hB hz1 hk1 hS => ?_)
    obtain ⟨wc_9, wn_9, wf_9⟩ := u
    obtain ⟨era, hB⟩ := hB
    rw [era]
    obtain ⟨wv_9, hB⟩ := hB
    obtain ⟨hP1, hD1⟩ := hB
    rw [ht] at hP1
    obtain ⟨hP, hD⟩ := va_join (wr := [(m0, .inr (7, [.int th, .int mr, .long po, .ref dO, .ref sl, .ref ct0, .int mf, .int sp, .ref st0, .ref fs0, .ref jn0, .ref rw0, .ref fd0, .ref af0, .ref kO])), (na_4, .inr (0, [.ref nd_4, .int (0 : Int32), .int (0 : Int32), .int (0 : Int32)])), (nd_4, .inl (G.2 2, c_7, .inl c_8)), (na_5, .inr (0, [.ref nd_5, .int (0 : Int32), .int (0 : Int32), .int (0 : Int32)])), (nd_5, .inl (G.2 2, c_9, .inl c_10))]) (w1 := [(q_3, .inr (1, [.ref wv_9, .int (0 : Int32), .int (0 : Int32), .int wc_9])), (wv_9, .inl (G.2 2, wn_9, .inl wf_9))]) hP hD [1, 2] [0, 3, 4, 5, 6] rfl rfl (by decide) (by decide) hk1 hFc hP1 hD1
    generalize H1 = H at hP hS ⊢
    have hP : PP G [(m0, .inr (7, [.int th, .int mr, .long po, .ref dO, .ref sl, .ref ct0, .int mf, .int sp, .ref st0, .ref fs0, .ref jn0, .ref rw0, .ref fd0, .ref af0, .ref kO])), (q_3, .inr (1, [.ref wv_9, .int (0 : Int32), .int (0 : Int32), .int wc_9])), (wv_9, .inl (G.2 2, wn_9, .inl wf_9)), (na_4, .inr (0, [.ref nd_4, .int (0 : Int32), .int (0 : Int32), .int (0 : Int32)])), (nd_4, .inl (G.2 2, c_7, .inl c_8)), (na_5, .inr (0, [.ref nd_5, .int (0 : Int32), .int (0 : Int32), .int (0 : Int32)])), (nd_5, .inl (G.2 2, c_9, .inl c_10))] H := va_P.sub hP [0, 5, 6, 1, 2, 3, 4] rfl
    have hD : va_D A [(m0, .inr (7, [.int th, .int mr, .long po, .ref dO, .ref sl, .ref ct0, .int mf, .int sp, .ref st0, .ref fs0, .ref jn0, .ref rw0, .ref fd0, .ref af0, .ref kO])), (q_3, .inr (1, [.ref wv_9, .int (0 : Int32), .int (0 : Int32), .int wc_9])), (wv_9, .inl (G.2 2, wn_9, .inl wf_9)), (na_4, .inr (0, [.ref nd_4, .int (0 : Int32), .int (0 : Int32), .int (0 : Int32)])), (nd_4, .inl (G.2 2, c_7, .inl c_8)), (na_5, .inr (0, [.ref nd_5, .int (0 : Int32), .int (0 : Int32), .int (0 : Int32)])), (nd_5, .inl (G.2 2, c_9, .inl c_10))] := hD.sub [0, 5, 6, 1, 2, 3, 4] (by decide) rfl
    obtain ⟨b_29, b_30, h⟩ := h
    obtain ⟨⟨hq_41, hq_42⟩, h⟩ := h
    have hPc := va_P.sub (ws' := [(q_3, .inr (1, [.ref wv_9, .int (0 : Int32), .int (0 : Int32), .int wc_9])), (wv_9, .inl (G.2 2, wn_9, .inl wf_9))]) hP [1, 2] rfl
    have hDc := hD.sub (ws' := [(q_3, .inr (1, [.ref wv_9, .int (0 : Int32), .int (0 : Int32), .int wc_9])), (wv_9, .inl (G.2 2, wn_9, .inl wf_9))]) [1, 2] (by decide) rfl
    have hFc := va_free (wc := [(q_3, .inr (1, [.ref wv_9, .int (0 : Int32), .int (0 : Int32), .int wc_9])), (wv_9, .inl (G.2 2, wn_9, .inl wf_9))]) hD hS hA [1, 2] rfl
    have hJc := (hJ.kept hS.2.1).narrow hFc
    refine va_callr (va_runV (C := RJ4) (As := []) (rest := []) ⟨hx, hb, hml, hown, hts⟩ (knJ4_toString_0e30d l G q_3 wv_9 wc_9 wn_9 wf_9 b_29 b_30 _ h) (cwV 0 hts (gdV q1359 q840 q841 q25 q842) rfl rfl rfl (by decide +kernel) ⟨(by show 5 + 1 ≤ 6 + (nR + 1); omega), (by show 8 + (1 + 11) + 155 ≤ 175 + (nR + 1) * 22; omega)⟩) (preVwj hPc hKK hDc hJc (va_recv hK hPc (ci := 1) (q0 := 0) rfl rfl)) rfl rfl hl.1 rfl (lv_room (Nat.le_of_ble_eq_true rfl)) dX4_textNow_138 ⟨hq_41, hq_42⟩) hS (fun q _ h => hFc q h) hFc (fun u ra t H1 locs ht hvm h hB hz1 hk1 hS => ?_)
    obtain ⟨c_11, c_12⟩ := u
    obtain ⟨nd_6, hB⟩ := hB
    obtain ⟨na_6, rfl⟩ : ∃ z, z = ra := ⟨_, rfl⟩
    obtain ⟨hP1, hD1⟩ := hB
    rw [ht] at hP1
    obtain ⟨hP, hD⟩ := va_join (wr := [(m0, .inr (7, [.int th, .int mr, .long po, .ref dO, .ref sl, .ref ct0, .int mf, .int sp, .ref st0, .ref fs0, .ref jn0, .ref rw0, .ref fd0, .ref af0, .ref kO])), (na_4, .inr (0, [.ref nd_4, .int (0 : Int32), .int (0 : Int32), .int (0 : Int32)])), (nd_4, .inl (G.2 2, c_7, .inl c_8)), (na_5, .inr (0, [.ref nd_5, .int (0 : Int32), .int (0 : Int32), .int (0 : Int32)])), (nd_5, .inl (G.2 2, c_9, .inl c_10))]) (w1 := [(q_3, .inr (1, [.ref wv_9, .int (0 : Int32), .int (0 : Int32), .int wc_9])), (wv_9, .inl (G.2 2, wn_9, .inl wf_9)), (na_6, .inr (0, [.ref nd_6, .int (0 : Int32), .int (0 : Int32), .int (0 : Int32)])), (nd_6, .inl (G.2 2, c_11, .inl c_12))]) hP hD [1, 2] [0, 3, 4, 5, 6] rfl rfl (by decide) (by decide) hk1 hFc hP1 hD1
    generalize H1 = H at hP hS ⊢
    have hP : PP G [(m0, .inr (7, [.int th, .int mr, .long po, .ref dO, .ref sl, .ref ct0, .int mf, .int sp, .ref st0, .ref fs0, .ref jn0, .ref rw0, .ref fd0, .ref af0, .ref kO])), (q_3, .inr (1, [.ref wv_9, .int (0 : Int32), .int (0 : Int32), .int wc_9])), (wv_9, .inl (G.2 2, wn_9, .inl wf_9)), (na_4, .inr (0, [.ref nd_4, .int (0 : Int32), .int (0 : Int32), .int (0 : Int32)])), (nd_4, .inl (G.2 2, c_7, .inl c_8)), (na_5, .inr (0, [.ref nd_5, .int (0 : Int32), .int (0 : Int32), .int (0 : Int32)])), (nd_5, .inl (G.2 2, c_9, .inl c_10)), (na_6, .inr (0, [.ref nd_6, .int (0 : Int32), .int (0 : Int32), .int (0 : Int32)])), (nd_6, .inl (G.2 2, c_11, .inl c_12))] H := va_P.sub hP [0, 5, 6, 1, 2, 3, 4, 7, 8] rfl
    have hD : va_D A [(m0, .inr (7, [.int th, .int mr, .long po, .ref dO, .ref sl, .ref ct0, .int mf, .int sp, .ref st0, .ref fs0, .ref jn0, .ref rw0, .ref fd0, .ref af0, .ref kO])), (q_3, .inr (1, [.ref wv_9, .int (0 : Int32), .int (0 : Int32), .int wc_9])), (wv_9, .inl (G.2 2, wn_9, .inl wf_9)), (na_4, .inr (0, [.ref nd_4, .int (0 : Int32), .int (0 : Int32), .int (0 : Int32)])), (nd_4, .inl (G.2 2, c_7, .inl c_8)), (na_5, .inr (0, [.ref nd_5, .int (0 : Int32), .int (0 : Int32), .int (0 : Int32)])), (nd_5, .inl (G.2 2, c_9, .inl c_10)), (na_6, .inr (0, [.ref nd_6, .int (0 : Int32), .int (0 : Int32), .int (0 : Int32)])), (nd_6, .inl (G.2 2, c_11, .inl c_12))] := hD.sub [0, 5, 6, 1, 2, 3, 4, 7, 8] (by decide) rfl
    obtain ⟨⟨hw1, hw2⟩, h⟩ := h
    refine W.widen (k := mcb) (n := msb) hw1 hw2 ?_
    have hP : PP G [(m0, .inr (7, [.int th, .int mr, .long po, .ref dO, .ref sl, .ref ct0, .int mf, .int sp, .ref st0, .ref fs0, .ref jn0, .ref rw0, .ref fd0, .ref af0, .ref kO])), (na_6, .inr (0, [.ref nd_6, .int (0 : Int32), .int (0 : Int32), .int (0 : Int32)])), (nd_6, .inl (G.2 2, c_11, .inl c_12))] _ := hP.sub [0, 7, 8] rfl
    have hD : va_D A [(m0, .inr (7, [.int th, .int mr, .long po, .ref dO, .ref sl, .ref ct0, .int mf, .int sp, .ref st0, .ref fs0, .ref jn0, .ref rw0, .ref fd0, .ref af0, .ref kO])), (na_6, .inr (0, [.ref nd_6, .int (0 : Int32), .int (0 : Int32), .int (0 : Int32)])), (nd_6, .inl (G.2 2, c_11, .inl c_12))] := hD.sub [0, 7, 8] (by decide) rfl
    subst hQC; exact W.aret (v := .ref na_6) hx hb hr (by first | exact Or.inl ⟨_, rfl⟩ | exact Or.inr ⟨_, rfl⟩) (Or.inr ⟨_, rfl⟩) (fun t ht hW => ⟨⟨(c_11, c_12), na_6, rfl, h, nd_6, by rw [ht]; exact hP, hD⟩, hS.F ht⟩) hS.2.2 dX4_textNow_141
  have h := h.2 hc2
  by_cases hc3 : (sq (p1.toNatClampNeg) (0 : Int32).toNatClampNeg) = 3
  · have h := h.1 hc3
    refine lv_tableIn (tgt := 142) hx hb dX4_textNow_17 (by rw [hc3]; decide) (by rw [hc3]; decide) (by rw [hc3]; rfl) (by decide) ?_
    obtain ⟨⟨hq_43, hq_44⟩, h⟩ := h
    refine va_new (D := G.1) (ci := 1) (fs := [.null, .int (0 : Int32), .int (0 : Int32), .int (0 : Int32)]) (C := RJ4) (T := TJ4) (N := 4) hx hb hts igJ4 tyJ4 tyJ4_ok hown (hts _ q1354) (hts _ q675) (hts _ q25) hK hP hD hS hA rfl (fun j hj => by rcases (show j = 0 ∨ j = 1 ∨ j = 2 ∨ j = 3 by omega) with rfl | rfl | rfl | rfl <;> rfl) hq_43 hq_44 dX4_textNow_142 (fun q_4 H hP hD hS => ?_)
    have hP : PP G [(m0, .inr (7, [.int th, .int mr, .long po, .ref dO, .ref sl, .ref ct0, .int mf, .int sp, .ref st0, .ref fs0, .ref jn0, .ref rw0, .ref fd0, .ref af0, .ref kO])), (q_4, .inr (1, [.null, .int (0 : Int32), .int (0 : Int32), .int (0 : Int32)]))] H := hP
    have hD : va_D A [(m0, .inr (7, [.int th, .int mr, .long po, .ref dO, .ref sl, .ref ct0, .int mf, .int sp, .ref st0, .ref fs0, .ref jn0, .ref rw0, .ref fd0, .ref af0, .ref kO])), (q_4, .inr (1, [.null, .int (0 : Int32), .int (0 : Int32), .int (0 : Int32)]))] := hD
    refine lv_dup hx hb dX4_textNow_145 rfl ?_
    obtain ⟨⟨hq_45, hq_46⟩, h⟩ := h
    have hPc := va_P.sub (ws' := [(q_4, .inr (1, [.null, .int (0 : Int32), .int (0 : Int32), .int (0 : Int32)]))]) hP [1] rfl
    have hDc := hD.sub (ws' := [(q_4, .inr (1, [.null, .int (0 : Int32), .int (0 : Int32), .int (0 : Int32)]))]) [1] (by decide) rfl
    have hFc := va_free (wc := [(q_4, .inr (1, [.null, .int (0 : Int32), .int (0 : Int32), .int (0 : Int32)]))]) hD hS hA [1] rfl
    have hJc := (hJ.kept hS.2.1).narrow hFc
    refine va_callv (va_runI (As := []) (rest := [.ref q_4]) ⟨hx, hb, hml, hown, hts⟩ (knJ4_init_da8c8 l G q_4 _ h) (cwI 0 hts (gdC q678) rfl rfl rfl (hts _ q25) (hts _ q1355) (hts _ q677) rfl (by decide +kernel) ⟨(by show 2 + 1 ≤ 6 + (nR + 1); omega), (by show 8 + (1 + 11) + 61 ≤ 175 + (nR + 1) * 22; omega)⟩) (preSwj hPc hKK hDc hJc) rfl rfl hl.1 rfl (lv_room (Nat.le_of_ble_eq_true rfl)) dX4_textNow_146 ⟨hq_45, hq_46⟩) hS (fun q _ h => hFc q h) hFc (fun u t H1 locs ht hvm h hB hz1 hk1 hS => ?_)
    obtain ⟨a_4, rfl⟩ : ∃ z, z = u := ⟨_, rfl⟩
    obtain ⟨hP1, hD1⟩ := hB
    rw [ht] at hP1
    obtain ⟨hP, hD⟩ := va_join (wr := [(m0, .inr (7, [.int th, .int mr, .long po, .ref dO, .ref sl, .ref ct0, .int mf, .int sp, .ref st0, .ref fs0, .ref jn0, .ref rw0, .ref fd0, .ref af0, .ref kO]))]) (w1 := [(q_4, .inr (1, [.ref a_4, .int (0 : Int32), .int (0 : Int32), .int (0 : Int32)])), (a_4, .inl (G.2 2, 16, .inl (fun _ => (0 : Int32))))]) hP hD [1] [0] rfl rfl (by decide) (by decide) hk1 hFc hP1 hD1
    generalize H1 = H at hP hS ⊢
    have hP : PP G [(m0, .inr (7, [.int th, .int mr, .long po, .ref dO, .ref sl, .ref ct0, .int mf, .int sp, .ref st0, .ref fs0, .ref jn0, .ref rw0, .ref fd0, .ref af0, .ref kO])), (q_4, .inr (1, [.ref a_4, .int (0 : Int32), .int (0 : Int32), .int (0 : Int32)])), (a_4, .inl (G.2 2, 16, .inl (fun _ => (0 : Int32))))] H := va_P.sub hP [0, 1, 2] rfl
    have hD : va_D A [(m0, .inr (7, [.int th, .int mr, .long po, .ref dO, .ref sl, .ref ct0, .int mf, .int sp, .ref st0, .ref fs0, .ref jn0, .ref rw0, .ref fd0, .ref af0, .ref kO])), (q_4, .inr (1, [.ref a_4, .int (0 : Int32), .int (0 : Int32), .int (0 : Int32)])), (a_4, .inl (G.2 2, 16, .inl (fun _ => (0 : Int32))))] := hD.sub [0, 1, 2] (by decide) rfl
    refine va_ldcS hx hb hown (litR2 hR) dX4_textNow_149 ?_
    obtain ⟨tl_6, hTl_6⟩ := litJ2 hJ
    obtain ⟨b_31, b_32, h⟩ := h
    obtain ⟨⟨hq_47, hq_48⟩, h⟩ := h
    have hPc := va_P.sub (ws' := [(q_4, .inr (1, [.ref a_4, .int (0 : Int32), .int (0 : Int32), .int (0 : Int32)])), (a_4, .inl (G.2 2, 16, .inl (fun _ => (0 : Int32))))]) hP [1, 2] rfl
    have hDc := hD.sub (ws' := [(q_4, .inr (1, [.ref a_4, .int (0 : Int32), .int (0 : Int32), .int (0 : Int32)])), (a_4, .inl (G.2 2, 16, .inl (fun _ => (0 : Int32))))]) [1, 2] (by decide) rfl
    have hFc := va_free (wc := [(q_4, .inr (1, [.ref a_4, .int (0 : Int32), .int (0 : Int32), .int (0 : Int32)])), (a_4, .inl (G.2 2, 16, .inl (fun _ => (0 : Int32))))]) hD hS hA [1, 2] rfl
    have hJc := (hJ.kept hS.2.1).narrow hFc
    have hTc := (hTl_6.kept hS.2.1).narrow hFc
    refine va_callr (va_runV (C := RJ4) (As := [.ref (G.2 102)]) (rest := []) ⟨hx, hb, hml, hown, hts⟩ (knJ4_append_15ec4 l G q_4 a_4 (G.2 102) tl_6 (0 : Int32) (16) (fun _ => (0 : Int32)) (1) (fun j => ([40] : List Int32).getD j 0) b_31 b_32 _ h) (cwV 1 hts (gdV q1357 q881 q882 q25 q883) rfl rfl rfl (by decide +kernel) ⟨(by show 5 + 1 ≤ 6 + (nR + 1); omega), (by show 8 + (2 + 11) + 131 ≤ 175 + (nR + 1) * 22; omega)⟩) (preVwjt hPc hKK hDc hJc hTc (va_recv hK hPc (ci := 1) (q0 := 0) rfl rfl)) rfl rfl hl.1 rfl (lv_room (Nat.le_of_ble_eq_true rfl)) dX4_textNow_151 ⟨hq_47, hq_48⟩) hS (fun q _ h => hFc q h) hFc (fun u ra t H1 locs ht hvm h hB hz1 hk1 hS => ?_)
    obtain ⟨wc_10, wn_10, wf_10⟩ := u
    obtain ⟨era, hB⟩ := hB
    rw [era]
    obtain ⟨wv_10, hB⟩ := hB
    obtain ⟨hP1, hD1⟩ := hB
    rw [ht] at hP1
    obtain ⟨hP, hD⟩ := va_join (wr := [(m0, .inr (7, [.int th, .int mr, .long po, .ref dO, .ref sl, .ref ct0, .int mf, .int sp, .ref st0, .ref fs0, .ref jn0, .ref rw0, .ref fd0, .ref af0, .ref kO]))]) (w1 := [(q_4, .inr (1, [.ref wv_10, .int (0 : Int32), .int (0 : Int32), .int wc_10])), (wv_10, .inl (G.2 2, wn_10, .inl wf_10))]) hP hD [1, 2] [0] rfl rfl (by decide) (by decide) hk1 hFc hP1 hD1
    generalize H1 = H at hP hS ⊢
    have hP : PP G [(m0, .inr (7, [.int th, .int mr, .long po, .ref dO, .ref sl, .ref ct0, .int mf, .int sp, .ref st0, .ref fs0, .ref jn0, .ref rw0, .ref fd0, .ref af0, .ref kO])), (q_4, .inr (1, [.ref wv_10, .int (0 : Int32), .int (0 : Int32), .int wc_10])), (wv_10, .inl (G.2 2, wn_10, .inl wf_10))] H := va_P.sub hP [0, 1, 2] rfl
    have hD : va_D A [(m0, .inr (7, [.int th, .int mr, .long po, .ref dO, .ref sl, .ref ct0, .int mf, .int sp, .ref st0, .ref fs0, .ref jn0, .ref rw0, .ref fd0, .ref af0, .ref kO])), (q_4, .inr (1, [.ref wv_10, .int (0 : Int32), .int (0 : Int32), .int wc_10])), (wv_10, .inl (G.2 2, wn_10, .inl wf_10))] := hD.sub [0, 1, 2] (by decide) rfl
    refine lv_aload_n hx hb dX4_textNow_154 rfl (lv_at hl 1 rfl) ?_
    refine lv_aload_n hx hb dX4_textNow_155 rfl (lv_at hl 0 rfl) ?_
    refine lv_iconst (v := 1) hx hb dX4_textNow_156 (by decide) ?_
    have hin : vp_in (1 : Int32) 4 := show ¬ ((1 : Int32) < 0 ∨ 4 ≤ ((1 : Int32)).toNatClampNeg) from by decide
    refine va_iald (D := G.1) hx hb hK (hSS.row hf_1 hS.2.1) 0 0 rfl rfl hin dX4_textNow_157 ?_
    obtain ⟨b_33, b_34, h⟩ := h
    obtain ⟨⟨hq_49, hq_50⟩, h⟩ := h
    have hPc := va_P.sub (ws' := [(m0, .inr (7, [.int th, .int mr, .long po, .ref dO, .ref sl, .ref ct0, .int mf, .int sp, .ref st0, .ref fs0, .ref jn0, .ref rw0, .ref fd0, .ref af0, .ref kO]))]) hP [0] rfl
    have hDc := hD.sub (ws' := [(m0, .inr (7, [.int th, .int mr, .long po, .ref dO, .ref sl, .ref ct0, .int mf, .int sp, .ref st0, .ref fs0, .ref jn0, .ref rw0, .ref fd0, .ref af0, .ref kO]))]) [0] (by decide) rfl
    have hFc := va_free (wc := [(m0, .inr (7, [.int th, .int mr, .long po, .ref dO, .ref sl, .ref ct0, .int mf, .int sp, .ref st0, .ref fs0, .ref jn0, .ref rw0, .ref fd0, .ref af0, .ref kO]))]) hD hS hA [0] rfl
    have hSSc := (hSS.kept hS.2.1).narrow hFc
    have hJc := (hJ.kept hS.2.1).narrow hFc
    refine va_callr (va_runV (C := RX4) (As := [.int (sq (p1.toNatClampNeg) (1 : Int32).toNatClampNeg)]) (rest := [.ref q_4]) ⟨hx, hb, hml, hown, hts⟩ (ih l G m0 dO sl ct0 st0 fs0 jn0 rw0 fd0 af0 kO sa th mr po mf sp sn sq b_33 b_34 (sq (p1.toNatClampNeg) (1 : Int32).toNatClampNeg) _ h) (cwV 1 hts (gdV q1350 q1352 qs41 q6 q1353) rfl rfl rfl (by decide +kernel) ⟨(by show 6 + nR + 1 ≤ 6 + (nR + 1); omega), (by show 8 + (3 + 11) + (175 + nR * 22) ≤ 175 + (nR + 1) * 22; omega)⟩) (preVwsj hPc hKK hDc hSSc hJc (va_recv hK hPc (ci := 7) (q0 := 0) rfl rfl)) rfl rfl hl.1 rfl (lv_room (Nat.le_of_ble_eq_true rfl)) dX4_textNow_158 ⟨hq_49, hq_50⟩) hS (fun q _ h => hFc q h) hFc (fun u ra t H1 locs ht hvm h hB hz1 hk1 hS => ?_)
    obtain ⟨c_13, c_14⟩ := u
    obtain ⟨nd_7, hB⟩ := hB
    obtain ⟨na_7, rfl⟩ : ∃ z, z = ra := ⟨_, rfl⟩
    obtain ⟨hP1, hD1⟩ := hB
    rw [ht] at hP1
    obtain ⟨hP, hD⟩ := va_join (wr := [(q_4, .inr (1, [.ref wv_10, .int (0 : Int32), .int (0 : Int32), .int wc_10])), (wv_10, .inl (G.2 2, wn_10, .inl wf_10))]) (w1 := [(m0, .inr (7, [.int th, .int mr, .long po, .ref dO, .ref sl, .ref ct0, .int mf, .int sp, .ref st0, .ref fs0, .ref jn0, .ref rw0, .ref fd0, .ref af0, .ref kO])), (na_7, .inr (0, [.ref nd_7, .int (0 : Int32), .int (0 : Int32), .int (0 : Int32)])), (nd_7, .inl (G.2 2, c_13, .inl c_14))]) hP hD [0] [1, 2] rfl rfl (by decide) (by decide) hk1 hFc hP1 hD1
    generalize H1 = H at hP hS ⊢
    have hP : PP G [(m0, .inr (7, [.int th, .int mr, .long po, .ref dO, .ref sl, .ref ct0, .int mf, .int sp, .ref st0, .ref fs0, .ref jn0, .ref rw0, .ref fd0, .ref af0, .ref kO])), (q_4, .inr (1, [.ref wv_10, .int (0 : Int32), .int (0 : Int32), .int wc_10])), (wv_10, .inl (G.2 2, wn_10, .inl wf_10)), (na_7, .inr (0, [.ref nd_7, .int (0 : Int32), .int (0 : Int32), .int (0 : Int32)])), (nd_7, .inl (G.2 2, c_13, .inl c_14))] H := va_P.sub hP [2, 0, 1, 3, 4] rfl
    have hD : va_D A [(m0, .inr (7, [.int th, .int mr, .long po, .ref dO, .ref sl, .ref ct0, .int mf, .int sp, .ref st0, .ref fs0, .ref jn0, .ref rw0, .ref fd0, .ref af0, .ref kO])), (q_4, .inr (1, [.ref wv_10, .int (0 : Int32), .int (0 : Int32), .int wc_10])), (wv_10, .inl (G.2 2, wn_10, .inl wf_10)), (na_7, .inr (0, [.ref nd_7, .int (0 : Int32), .int (0 : Int32), .int (0 : Int32)])), (nd_7, .inl (G.2 2, c_13, .inl c_14))] := hD.sub [2, 0, 1, 3, 4] (by decide) rfl
    obtain ⟨b_35, b_36, h⟩ := h
    obtain ⟨⟨hq_51, hq_52⟩, h⟩ := h
    have hPc := va_P.sub (ws' := [(q_4, .inr (1, [.ref wv_10, .int (0 : Int32), .int (0 : Int32), .int wc_10])), (wv_10, .inl (G.2 2, wn_10, .inl wf_10))]) hP [1, 2] rfl
    have hDc := hD.sub (ws' := [(q_4, .inr (1, [.ref wv_10, .int (0 : Int32), .int (0 : Int32), .int wc_10])), (wv_10, .inl (G.2 2, wn_10, .inl wf_10))]) [1, 2] (by decide) rfl
    have hFc := va_free (wc := [(q_4, .inr (1, [.ref wv_10, .int (0 : Int32), .int (0 : Int32), .int wc_10])), (wv_10, .inl (G.2 2, wn_10, .inl wf_10))]) hD hS hA [1, 2] rfl
    have hJc := (hJ.kept hS.2.1).narrow hFc
    have hTc := stOf (wc := [(q_4, .inr (1, [.ref wv_10, .int (0 : Int32), .int (0 : Int32), .int wc_10])), (wv_10, .inl (G.2 2, wn_10, .inl wf_10))]) hts hK hP hD [1, 2] 3 4 rfl rfl (by decide) (by decide) rfl
    refine va_callr (va_runV (C := RJ4) (As := [.ref na_7]) (rest := []) ⟨hx, hb, hml, hown, hts⟩ (knJ4_append_15ec4 l G q_4 wv_10 na_7 nd_7 wc_10 wn_10 wf_10 c_13 c_14 b_35 b_36 _ h) (cwV 1 hts (gdV q1357 q881 q882 q25 q883) rfl rfl rfl (by decide +kernel) ⟨(by show 5 + 1 ≤ 6 + (nR + 1); omega), (by show 8 + (2 + 11) + 131 ≤ 175 + (nR + 1) * 22; omega)⟩) (preVwjt hPc hKK hDc hJc hTc (va_recv hK hPc (ci := 1) (q0 := 0) rfl rfl)) rfl rfl hl.1 rfl (lv_room (Nat.le_of_ble_eq_true rfl)) dX4_textNow_161 ⟨hq_51, hq_52⟩) hS (fun q _ h => hFc q h) hFc (fun u ra t H1 locs ht hvm h hB hz1 hk1 hS => ?_)
    obtain ⟨wc_11, wn_11, wf_11⟩ := u
    obtain ⟨era, hB⟩ := hB
    rw [era]
    obtain ⟨wv_11, hB⟩ := hB
    obtain ⟨hP1, hD1⟩ := hB
    rw [ht] at hP1
    obtain ⟨hP, hD⟩ := va_join (wr := [(m0, .inr (7, [.int th, .int mr, .long po, .ref dO, .ref sl, .ref ct0, .int mf, .int sp, .ref st0, .ref fs0, .ref jn0, .ref rw0, .ref fd0, .ref af0, .ref kO])), (na_7, .inr (0, [.ref nd_7, .int (0 : Int32), .int (0 : Int32), .int (0 : Int32)])), (nd_7, .inl (G.2 2, c_13, .inl c_14))]) (w1 := [(q_4, .inr (1, [.ref wv_11, .int (0 : Int32), .int (0 : Int32), .int wc_11])), (wv_11, .inl (G.2 2, wn_11, .inl wf_11))]) hP hD [1, 2] [0, 3, 4] rfl rfl (by decide) (by decide) hk1 hFc hP1 hD1
    generalize H1 = H at hP hS ⊢
    have hP : PP G [(m0, .inr (7, [.int th, .int mr, .long po, .ref dO, .ref sl, .ref ct0, .int mf, .int sp, .ref st0, .ref fs0, .ref jn0, .ref rw0, .ref fd0, .ref af0, .ref kO])), (q_4, .inr (1, [.ref wv_11, .int (0 : Int32), .int (0 : Int32), .int wc_11])), (wv_11, .inl (G.2 2, wn_11, .inl wf_11)), (na_7, .inr (0, [.ref nd_7, .int (0 : Int32), .int (0 : Int32), .int (0 : Int32)])), (nd_7, .inl (G.2 2, c_13, .inl c_14))] H := va_P.sub hP [0, 3, 4, 1, 2] rfl
    have hD : va_D A [(m0, .inr (7, [.int th, .int mr, .long po, .ref dO, .ref sl, .ref ct0, .int mf, .int sp, .ref st0, .ref fs0, .ref jn0, .ref rw0, .ref fd0, .ref af0, .ref kO])), (q_4, .inr (1, [.ref wv_11, .int (0 : Int32), .int (0 : Int32), .int wc_11])), (wv_11, .inl (G.2 2, wn_11, .inl wf_11)), (na_7, .inr (0, [.ref nd_7, .int (0 : Int32), .int (0 : Int32), .int (0 : Int32)])), (nd_7, .inl (G.2 2, c_13, .inl c_14))] := hD.sub [0, 3, 4, 1, 2] (by decide) rfl
    refine va_ldcS hx hb hown (litR5 hR) dX4_textNow_164 ?_
    obtain ⟨tl_7, hTl_7⟩ := litJ5 hJ
    obtain ⟨b_37, b_38, h⟩ := h
    obtain ⟨⟨hq_53, hq_54⟩, h⟩ := h
    have hPc := va_P.sub (ws' := [(q_4, .inr (1, [.ref wv_11, .int (0 : Int32), .int (0 : Int32), .int wc_11])), (wv_11, .inl (G.2 2, wn_11, .inl wf_11))]) hP [1, 2] rfl
    have hDc := hD.sub (ws' := [(q_4, .inr (1, [.ref wv_11, .int (0 : Int32), .int (0 : Int32), .int wc_11])), (wv_11, .inl (G.2 2, wn_11, .inl wf_11))]) [1, 2] (by decide) rfl
    have hFc := va_free (wc := [(q_4, .inr (1, [.ref wv_11, .int (0 : Int32), .int (0 : Int32), .int wc_11])), (wv_11, .inl (G.2 2, wn_11, .inl wf_11))]) hD hS hA [1, 2] rfl
    have hJc := (hJ.kept hS.2.1).narrow hFc
    have hTc := (hTl_7.kept hS.2.1).narrow hFc
    refine va_callr (va_runV (C := RJ4) (As := [.ref (G.2 105)]) (rest := []) ⟨hx, hb, hml, hown, hts⟩ (knJ4_append_15ec4 l G q_4 wv_11 (G.2 105) tl_7 wc_11 wn_11 wf_11 (1) (fun j => ([124] : List Int32).getD j 0) b_37 b_38 _ h) (cwV 1 hts (gdV q1357 q881 q882 q25 q883) rfl rfl rfl (by decide +kernel) ⟨(by show 5 + 1 ≤ 6 + (nR + 1); omega), (by show 8 + (2 + 11) + 131 ≤ 175 + (nR + 1) * 22; omega)⟩) (preVwjt hPc hKK hDc hJc hTc (va_recv hK hPc (ci := 1) (q0 := 0) rfl rfl)) rfl rfl hl.1 rfl (lv_room (Nat.le_of_ble_eq_true rfl)) dX4_textNow_166 ⟨hq_53, hq_54⟩) hS (fun q _ h => hFc q h) hFc (fun u ra t H1 locs ht hvm h hB hz1 hk1 hS => ?_)
    obtain ⟨wc_12, wn_12, wf_12⟩ := u
    obtain ⟨era, hB⟩ := hB
    rw [era]
    obtain ⟨wv_12, hB⟩ := hB
    obtain ⟨hP1, hD1⟩ := hB
    rw [ht] at hP1
    obtain ⟨hP, hD⟩ := va_join (wr := [(m0, .inr (7, [.int th, .int mr, .long po, .ref dO, .ref sl, .ref ct0, .int mf, .int sp, .ref st0, .ref fs0, .ref jn0, .ref rw0, .ref fd0, .ref af0, .ref kO])), (na_7, .inr (0, [.ref nd_7, .int (0 : Int32), .int (0 : Int32), .int (0 : Int32)])), (nd_7, .inl (G.2 2, c_13, .inl c_14))]) (w1 := [(q_4, .inr (1, [.ref wv_12, .int (0 : Int32), .int (0 : Int32), .int wc_12])), (wv_12, .inl (G.2 2, wn_12, .inl wf_12))]) hP hD [1, 2] [0, 3, 4] rfl rfl (by decide) (by decide) hk1 hFc hP1 hD1
    generalize H1 = H at hP hS ⊢
    have hP : PP G [(m0, .inr (7, [.int th, .int mr, .long po, .ref dO, .ref sl, .ref ct0, .int mf, .int sp, .ref st0, .ref fs0, .ref jn0, .ref rw0, .ref fd0, .ref af0, .ref kO])), (q_4, .inr (1, [.ref wv_12, .int (0 : Int32), .int (0 : Int32), .int wc_12])), (wv_12, .inl (G.2 2, wn_12, .inl wf_12)), (na_7, .inr (0, [.ref nd_7, .int (0 : Int32), .int (0 : Int32), .int (0 : Int32)])), (nd_7, .inl (G.2 2, c_13, .inl c_14))] H := va_P.sub hP [0, 3, 4, 1, 2] rfl
    have hD : va_D A [(m0, .inr (7, [.int th, .int mr, .long po, .ref dO, .ref sl, .ref ct0, .int mf, .int sp, .ref st0, .ref fs0, .ref jn0, .ref rw0, .ref fd0, .ref af0, .ref kO])), (q_4, .inr (1, [.ref wv_12, .int (0 : Int32), .int (0 : Int32), .int wc_12])), (wv_12, .inl (G.2 2, wn_12, .inl wf_12)), (na_7, .inr (0, [.ref nd_7, .int (0 : Int32), .int (0 : Int32), .int (0 : Int32)])), (nd_7, .inl (G.2 2, c_13, .inl c_14))] := hD.sub [0, 3, 4, 1, 2] (by decide) rfl
    refine lv_aload_n hx hb dX4_textNow_169 rfl (lv_at hl 1 rfl) ?_
    refine lv_aload_n hx hb dX4_textNow_170 rfl (lv_at hl 0 rfl) ?_
    refine lv_iconst (v := 2) hx hb dX4_textNow_171 (by decide) ?_
    have hin : vp_in (2 : Int32) 4 := show ¬ ((2 : Int32) < 0 ∨ 4 ≤ ((2 : Int32)).toNatClampNeg) from by decide
    refine va_iald (D := G.1) hx hb hK (hSS.row hf_1 hS.2.1) 0 0 rfl rfl hin dX4_textNow_172 ?_
    obtain ⟨b_39, b_40, h⟩ := h
    obtain ⟨⟨hq_55, hq_56⟩, h⟩ := h
    have hPc := va_P.sub (ws' := [(m0, .inr (7, [.int th, .int mr, .long po, .ref dO, .ref sl, .ref ct0, .int mf, .int sp, .ref st0, .ref fs0, .ref jn0, .ref rw0, .ref fd0, .ref af0, .ref kO]))]) hP [0] rfl
    have hDc := hD.sub (ws' := [(m0, .inr (7, [.int th, .int mr, .long po, .ref dO, .ref sl, .ref ct0, .int mf, .int sp, .ref st0, .ref fs0, .ref jn0, .ref rw0, .ref fd0, .ref af0, .ref kO]))]) [0] (by decide) rfl
    have hFc := va_free (wc := [(m0, .inr (7, [.int th, .int mr, .long po, .ref dO, .ref sl, .ref ct0, .int mf, .int sp, .ref st0, .ref fs0, .ref jn0, .ref rw0, .ref fd0, .ref af0, .ref kO]))]) hD hS hA [0] rfl
    have hSSc := (hSS.kept hS.2.1).narrow hFc
    have hJc := (hJ.kept hS.2.1).narrow hFc
    refine va_callr (va_runV (C := RX4) (As := [.int (sq (p1.toNatClampNeg) (2 : Int32).toNatClampNeg)]) (rest := [.ref q_4]) ⟨hx, hb, hml, hown, hts⟩ (ih l G m0 dO sl ct0 st0 fs0 jn0 rw0 fd0 af0 kO sa th mr po mf sp sn sq b_39 b_40 (sq (p1.toNatClampNeg) (2 : Int32).toNatClampNeg) _ h) (cwV 1 hts (gdV q1350 q1352 qs41 q6 q1353) rfl rfl rfl (by decide +kernel) ⟨(by show 6 + nR + 1 ≤ 6 + (nR + 1); omega), (by show 8 + (3 + 11) + (175 + nR * 22) ≤ 175 + (nR + 1) * 22; omega)⟩) (preVwsj hPc hKK hDc hSSc hJc (va_recv hK hPc (ci := 7) (q0 := 0) rfl rfl)) rfl rfl hl.1 rfl (lv_room (Nat.le_of_ble_eq_true rfl)) dX4_textNow_173 ⟨hq_55, hq_56⟩) hS (fun q _ h => hFc q h) hFc (fun u ra t H1 locs ht hvm h hB hz1 hk1 hS => ?_)
    obtain ⟨c_15, c_16⟩ := u
    obtain ⟨nd_8, hB⟩ := hB
    obtain ⟨na_8, rfl⟩ : ∃ z, z = ra := ⟨_, rfl⟩
    obtain ⟨hP1, hD1⟩ := hB
    rw [ht] at hP1
    obtain ⟨hP, hD⟩ := va_join (wr := [(q_4, .inr (1, [.ref wv_12, .int (0 : Int32), .int (0 : Int32), .int wc_12])), (wv_12, .inl (G.2 2, wn_12, .inl wf_12)), (na_7, .inr (0, [.ref nd_7, .int (0 : Int32), .int (0 : Int32), .int (0 : Int32)])), (nd_7, .inl (G.2 2, c_13, .inl c_14))]) (w1 := [(m0, .inr (7, [.int th, .int mr, .long po, .ref dO, .ref sl, .ref ct0, .int mf, .int sp, .ref st0, .ref fs0, .ref jn0, .ref rw0, .ref fd0, .ref af0, .ref kO])), (na_8, .inr (0, [.ref nd_8, .int (0 : Int32), .int (0 : Int32), .int (0 : Int32)])), (nd_8, .inl (G.2 2, c_15, .inl c_16))]) hP hD [0] [1, 2, 3, 4] rfl rfl (by decide) (by decide) hk1 hFc hP1 hD1
    generalize H1 = H at hP hS ⊢
    have hP : PP G [(m0, .inr (7, [.int th, .int mr, .long po, .ref dO, .ref sl, .ref ct0, .int mf, .int sp, .ref st0, .ref fs0, .ref jn0, .ref rw0, .ref fd0, .ref af0, .ref kO])), (q_4, .inr (1, [.ref wv_12, .int (0 : Int32), .int (0 : Int32), .int wc_12])), (wv_12, .inl (G.2 2, wn_12, .inl wf_12)), (na_7, .inr (0, [.ref nd_7, .int (0 : Int32), .int (0 : Int32), .int (0 : Int32)])), (nd_7, .inl (G.2 2, c_13, .inl c_14)), (na_8, .inr (0, [.ref nd_8, .int (0 : Int32), .int (0 : Int32), .int (0 : Int32)])), (nd_8, .inl (G.2 2, c_15, .inl c_16))] H := va_P.sub hP [4, 0, 1, 2, 3, 5, 6] rfl
    have hD : va_D A [(m0, .inr (7, [.int th, .int mr, .long po, .ref dO, .ref sl, .ref ct0, .int mf, .int sp, .ref st0, .ref fs0, .ref jn0, .ref rw0, .ref fd0, .ref af0, .ref kO])), (q_4, .inr (1, [.ref wv_12, .int (0 : Int32), .int (0 : Int32), .int wc_12])), (wv_12, .inl (G.2 2, wn_12, .inl wf_12)), (na_7, .inr (0, [.ref nd_7, .int (0 : Int32), .int (0 : Int32), .int (0 : Int32)])), (nd_7, .inl (G.2 2, c_13, .inl c_14)), (na_8, .inr (0, [.ref nd_8, .int (0 : Int32), .int (0 : Int32), .int (0 : Int32)])), (nd_8, .inl (G.2 2, c_15, .inl c_16))] := hD.sub [4, 0, 1, 2, 3, 5, 6] (by decide) rfl
    obtain ⟨b_41, b_42, h⟩ := h
    obtain ⟨⟨hq_57, hq_58⟩, h⟩ := h
    have hPc := va_P.sub (ws' := [(q_4, .inr (1, [.ref wv_12, .int (0 : Int32), .int (0 : Int32), .int wc_12])), (wv_12, .inl (G.2 2, wn_12, .inl wf_12))]) hP [1, 2] rfl
    have hDc := hD.sub (ws' := [(q_4, .inr (1, [.ref wv_12, .int (0 : Int32), .int (0 : Int32), .int wc_12])), (wv_12, .inl (G.2 2, wn_12, .inl wf_12))]) [1, 2] (by decide) rfl
    have hFc := va_free (wc := [(q_4, .inr (1, [.ref wv_12, .int (0 : Int32), .int (0 : Int32), .int wc_12])), (wv_12, .inl (G.2 2, wn_12, .inl wf_12))]) hD hS hA [1, 2] rfl
    have hJc := (hJ.kept hS.2.1).narrow hFc
    have hTc := stOf (wc := [(q_4, .inr (1, [.ref wv_12, .int (0 : Int32), .int (0 : Int32), .int wc_12])), (wv_12, .inl (G.2 2, wn_12, .inl wf_12))]) hts hK hP hD [1, 2] 5 6 rfl rfl (by decide) (by decide) rfl
    refine va_callr (va_runV (C := RJ4) (As := [.ref na_8]) (rest := []) ⟨hx, hb, hml, hown, hts⟩ (knJ4_append_15ec4 l G q_4 wv_12 na_8 nd_8 wc_12 wn_12 wf_12 c_15 c_16 b_41 b_42 _ h) (cwV 1 hts (gdV q1357 q881 q882 q25 q883) rfl rfl rfl (by decide +kernel) ⟨(by show 5 + 1 ≤ 6 + (nR + 1); omega), (by show 8 + (2 + 11) + 131 ≤ 175 + (nR + 1) * 22; omega)⟩) (preVwjt hPc hKK hDc hJc hTc (va_recv hK hPc (ci := 1) (q0 := 0) rfl rfl)) rfl rfl hl.1 rfl (lv_room (Nat.le_of_ble_eq_true rfl)) dX4_textNow_176 ⟨hq_57, hq_58⟩) hS (fun q _ h => hFc q h) hFc (fun u ra t H1 locs ht hvm h hB hz1 hk1 hS => ?_)
    obtain ⟨wc_13, wn_13, wf_13⟩ := u
    obtain ⟨era, hB⟩ := hB
    rw [era]
    obtain ⟨wv_13, hB⟩ := hB
    obtain ⟨hP1, hD1⟩ := hB
    rw [ht] at hP1
    obtain ⟨hP, hD⟩ := va_join (wr := [(m0, .inr (7, [.int th, .int mr, .long po, .ref dO, .ref sl, .ref ct0, .int mf, .int sp, .ref st0, .ref fs0, .ref jn0, .ref rw0, .ref fd0, .ref af0, .ref kO])), (na_7, .inr (0, [.ref nd_7, .int (0 : Int32), .int (0 : Int32), .int (0 : Int32)])), (nd_7, .inl (G.2 2, c_13, .inl c_14)), (na_8, .inr (0, [.ref nd_8, .int (0 : Int32), .int (0 : Int32), .int (0 : Int32)])), (nd_8, .inl (G.2 2, c_15, .inl c_16))]) (w1 := [(q_4, .inr (1, [.ref wv_13, .int (0 : Int32), .int (0 : Int32), .int wc_13])), (wv_13, .inl (G.2 2, wn_13, .inl wf_13))]) hP hD [1, 2] [0, 3, 4, 5, 6] rfl rfl (by decide) (by decide) hk1 hFc hP1 hD1
    generalize H1 = H at hP hS ⊢
    have hP : PP G [(m0, .inr (7, [.int th, .int mr, .long po, .ref dO, .ref sl, .ref ct0, .int mf, .int sp, .ref st0, .ref fs0, .ref jn0, .ref rw0, .ref fd0, .ref af0, .ref kO])), (q_4, .inr (1, [.ref wv_13, .int (0 : Int32), .int (0 : Int32), .int wc_13])), (wv_13, .inl (G.2 2, wn_13, .inl wf_13)), (na_7, .inr (0, [.ref nd_7, .int (0 : Int32), .int (0 : Int32), .int (0 : Int32)])), (nd_7, .inl (G.2 2, c_13, .inl c_14)), (na_8, .inr (0, [.ref nd_8, .int (0 : Int32), .int (0 : Int32), .int (0 : Int32)])), (nd_8, .inl (G.2 2, c_15, .inl c_16))] H := va_P.sub hP [0, 5, 6, 1, 2, 3, 4] rfl
    have hD : va_D A [(m0, .inr (7, [.int th, .int mr, .long po, .ref dO, .ref sl, .ref ct0, .int mf, .int sp, .ref st0, .ref fs0, .ref jn0, .ref rw0, .ref fd0, .ref af0, .ref kO])), (q_4, .inr (1, [.ref wv_13, .int (0 : Int32), .int (0 : Int32), .int wc_13])), (wv_13, .inl (G.2 2, wn_13, .inl wf_13)), (na_7, .inr (0, [.ref nd_7, .int (0 : Int32), .int (0 : Int32), .int (0 : Int32)])), (nd_7, .inl (G.2 2, c_13, .inl c_14)), (na_8, .inr (0, [.ref nd_8, .int (0 : Int32), .int (0 : Int32), .int (0 : Int32)])), (nd_8, .inl (G.2 2, c_15, .inl c_16))] := hD.sub [0, 5, 6, 1, 2, 3, 4] (by decide) rfl
    refine va_ldcS hx hb hown (litR4 hR) dX4_textNow_179 ?_
    obtain ⟨tl_8, hTl_8⟩ := litJ4 hJ
    obtain ⟨b_43, b_44, h⟩ := h
    obtain ⟨⟨hq_59, hq_60⟩, h⟩ := h
    have hPc := va_P.sub (ws' := [(q_4, .inr (1, [.ref wv_13, .int (0 : Int32), .int (0 : Int32), .int wc_13])), (wv_13, .inl (G.2 2, wn_13, .inl wf_13))]) hP [1, 2] rfl
    have hDc := hD.sub (ws' := [(q_4, .inr (1, [.ref wv_13, .int (0 : Int32), .int (0 : Int32), .int wc_13])), (wv_13, .inl (G.2 2, wn_13, .inl wf_13))]) [1, 2] (by decide) rfl
    have hFc := va_free (wc := [(q_4, .inr (1, [.ref wv_13, .int (0 : Int32), .int (0 : Int32), .int wc_13])), (wv_13, .inl (G.2 2, wn_13, .inl wf_13))]) hD hS hA [1, 2] rfl
    have hJc := (hJ.kept hS.2.1).narrow hFc
    have hTc := (hTl_8.kept hS.2.1).narrow hFc
    refine va_callr (va_runV (C := RJ4) (As := [.ref (G.2 104)]) (rest := []) ⟨hx, hb, hml, hown, hts⟩ (knJ4_append_15ec4 l G q_4 wv_13 (G.2 104) tl_8 wc_13 wn_13 wf_13 (1) (fun j => ([41] : List Int32).getD j 0) b_43 b_44 _ h) (cwV 1 hts (gdV q1357 q881 q882 q25 q883) rfl rfl rfl (by decide +kernel) ⟨(by show 5 + 1 ≤ 6 + (nR + 1); omega), (by show 8 + (2 + 11) + 131 ≤ 175 + (nR + 1) * 22; omega)⟩) (preVwjt hPc hKK hDc hJc hTc (va_recv hK hPc (ci := 1) (q0 := 0) rfl rfl)) rfl rfl hl.1 rfl (lv_room (Nat.le_of_ble_eq_true rfl)) dX4_textNow_181 ⟨hq_59, hq_60⟩) hS (fun q _ h => hFc q h) hFc (fun u ra t H1 locs ht hvm h hB hz1 hk1 hS => ?_)
    obtain ⟨wc_14, wn_14, wf_14⟩ := u
    obtain ⟨era, hB⟩ := hB
    rw [era]
    obtain ⟨wv_14, hB⟩ := hB
    obtain ⟨hP1, hD1⟩ := hB
    rw [ht] at hP1
    obtain ⟨hP, hD⟩ := va_join (wr := [(m0, .inr (7, [.int th, .int mr, .long po, .ref dO, .ref sl, .ref ct0, .int mf, .int sp, .ref st0, .ref fs0, .ref jn0, .ref rw0, .ref fd0, .ref af0, .ref kO])), (na_7, .inr (0, [.ref nd_7, .int (0 : Int32), .int (0 : Int32), .int (0 : Int32)])), (nd_7, .inl (G.2 2, c_13, .inl c_14)), (na_8, .inr (0, [.ref nd_8, .int (0 : Int32), .int (0 : Int32), .int (0 : Int32)])), (nd_8, .inl (G.2 2, c_15, .inl c_16))]) (w1 := [(q_4, .inr (1, [.ref wv_14, .int (0 : Int32), .int (0 : Int32), .int wc_14])), (wv_14, .inl (G.2 2, wn_14, .inl wf_14))]) hP hD [1, 2] [0, 3, 4, 5, 6] rfl rfl (by decide) (by decide) hk1 hFc hP1 hD1
    generalize H1 = H at hP hS ⊢
    have hP : PP G [(m0, .inr (7, [.int th, .int mr, .long po, .ref dO, .ref sl, .ref ct0, .int mf, .int sp, .ref st0, .ref fs0, .ref jn0, .ref rw0, .ref fd0, .ref af0, .ref kO])), (q_4, .inr (1, [.ref wv_14, .int (0 : Int32), .int (0 : Int32), .int wc_14])), (wv_14, .inl (G.2 2, wn_14, .inl wf_14)), (na_7, .inr (0, [.ref nd_7, .int (0 : Int32), .int (0 : Int32), .int (0 : Int32)])), (nd_7, .inl (G.2 2, c_13, .inl c_14)), (na_8, .inr (0, [.ref nd_8, .int (0 : Int32), .int (0 : Int32), .int (0 : Int32)])), (nd_8, .inl (G.2 2, c_15, .inl c_16))] H := va_P.sub hP [0, 5, 6, 1, 2, 3, 4] rfl
    have hD : va_D A [(m0, .inr (7, [.int th, .int mr, .long po, .ref dO, .ref sl, .ref ct0, .int mf, .int sp, .ref st0, .ref fs0, .ref jn0, .ref rw0, .ref fd0, .ref af0, .ref kO])), (q_4, .inr (1, [.ref wv_14, .int (0 : Int32), .int (0 : Int32), .int wc_14])), (wv_14, .inl (G.2 2, wn_14, .inl wf_14)), (na_7, .inr (0, [.ref nd_7, .int (0 : Int32), .int (0 : Int32), .int (0 : Int32)])), (nd_7, .inl (G.2 2, c_13, .inl c_14)), (na_8, .inr (0, [.ref nd_8, .int (0 : Int32), .int (0 : Int32), .int (0 : Int32)])), (nd_8, .inl (G.2 2, c_15, .inl c_16))] := hD.sub [0, 5, 6, 1, 2, 3, 4] (by decide) rfl
    obtain ⟨b_45, b_46, h⟩ := h
    obtain ⟨⟨hq_61, hq_62⟩, h⟩ := h
    have hPc := va_P.sub (ws' := [(q_4, .inr (1, [.ref wv_14, .int (0 : Int32), .int (0 : Int32), .int wc_14])), (wv_14, .inl (G.2 2, wn_14, .inl wf_14))]) hP [1, 2] rfl
    have hDc := hD.sub (ws' := [(q_4, .inr (1, [.ref wv_14, .int (0 : Int32), .int (0 : Int32), .int wc_14])), (wv_14, .inl (G.2 2, wn_14, .inl wf_14))]) [1, 2] (by decide) rfl
    have hFc := va_free (wc := [(q_4, .inr (1, [.ref wv_14, .int (0 : Int32), .int (0 : Int32), .int wc_14])), (wv_14, .inl (G.2 2, wn_14, .inl wf_14))]) hD hS hA [1, 2] rfl
    have hJc := (hJ.kept hS.2.1).narrow hFc
    refine va_callr (va_runV (C := RJ4) (As := []) (rest := []) ⟨hx, hb, hml, hown, hts⟩ (knJ4_toString_0e30d l G q_4 wv_14 wc_14 wn_14 wf_14 b_45 b_46 _ h) (cwV 0 hts (gdV q1359 q840 q841 q25 q842) rfl rfl rfl (by decide +kernel) ⟨(by show 5 + 1 ≤ 6 + (nR + 1); omega), (by show 8 + (1 + 11) + 155 ≤ 175 + (nR + 1) * 22; omega)⟩) (preVwj hPc hKK hDc hJc (va_recv hK hPc (ci := 1) (q0 := 0) rfl rfl)) rfl rfl hl.1 rfl (lv_room (Nat.le_of_ble_eq_true rfl)) dX4_textNow_184 ⟨hq_61, hq_62⟩) hS (fun q _ h => hFc q h) hFc (fun u ra t H1 locs ht hvm h hB hz1 hk1 hS => ?_)
    obtain ⟨c_17, c_18⟩ := u
    obtain ⟨nd_9, hB⟩ := hB
    obtain ⟨na_9, rfl⟩ : ∃ z, z = ra := ⟨_, rfl⟩
    obtain ⟨hP1, hD1⟩ := hB
    rw [ht] at hP1
    obtain ⟨hP, hD⟩ := va_join (wr := [(m0, .inr (7, [.int th, .int mr, .long po, .ref dO, .ref sl, .ref ct0, .int mf, .int sp, .ref st0, .ref fs0, .ref jn0, .ref rw0, .ref fd0, .ref af0, .ref kO])), (na_7, .inr (0, [.ref nd_7, .int (0 : Int32), .int (0 : Int32), .int (0 : Int32)])), (nd_7, .inl (G.2 2, c_13, .inl c_14)), (na_8, .inr (0, [.ref nd_8, .int (0 : Int32), .int (0 : Int32), .int (0 : Int32)])), (nd_8, .inl (G.2 2, c_15, .inl c_16))]) (w1 := [(q_4, .inr (1, [.ref wv_14, .int (0 : Int32), .int (0 : Int32), .int wc_14])), (wv_14, .inl (G.2 2, wn_14, .inl wf_14)), (na_9, .inr (0, [.ref nd_9, .int (0 : Int32), .int (0 : Int32), .int (0 : Int32)])), (nd_9, .inl (G.2 2, c_17, .inl c_18))]) hP hD [1, 2] [0, 3, 4, 5, 6] rfl rfl (by decide) (by decide) hk1 hFc hP1 hD1
    generalize H1 = H at hP hS ⊢
    have hP : PP G [(m0, .inr (7, [.int th, .int mr, .long po, .ref dO, .ref sl, .ref ct0, .int mf, .int sp, .ref st0, .ref fs0, .ref jn0, .ref rw0, .ref fd0, .ref af0, .ref kO])), (q_4, .inr (1, [.ref wv_14, .int (0 : Int32), .int (0 : Int32), .int wc_14])), (wv_14, .inl (G.2 2, wn_14, .inl wf_14)), (na_7, .inr (0, [.ref nd_7, .int (0 : Int32), .int (0 : Int32), .int (0 : Int32)])), (nd_7, .inl (G.2 2, c_13, .inl c_14)), (na_8, .inr (0, [.ref nd_8, .int (0 : Int32), .int (0 : Int32), .int (0 : Int32)])), (nd_8, .inl (G.2 2, c_15, .inl c_16)), (na_9, .inr (0, [.ref nd_9, .int (0 : Int32), .int (0 : Int32), .int (0 : Int32)])), (nd_9, .inl (G.2 2, c_17, .inl c_18))] H := va_P.sub hP [0, 5, 6, 1, 2, 3, 4, 7, 8] rfl
    have hD : va_D A [(m0, .inr (7, [.int th, .int mr, .long po, .ref dO, .ref sl, .ref ct0, .int mf, .int sp, .ref st0, .ref fs0, .ref jn0, .ref rw0, .ref fd0, .ref af0, .ref kO])), (q_4, .inr (1, [.ref wv_14, .int (0 : Int32), .int (0 : Int32), .int wc_14])), (wv_14, .inl (G.2 2, wn_14, .inl wf_14)), (na_7, .inr (0, [.ref nd_7, .int (0 : Int32), .int (0 : Int32), .int (0 : Int32)])), (nd_7, .inl (G.2 2, c_13, .inl c_14)), (na_8, .inr (0, [.ref nd_8, .int (0 : Int32), .int (0 : Int32), .int (0 : Int32)])), (nd_8, .inl (G.2 2, c_15, .inl c_16)), (na_9, .inr (0, [.ref nd_9, .int (0 : Int32), .int (0 : Int32), .int (0 : Int32)])), (nd_9, .inl (G.2 2, c_17, .inl c_18))] := hD.sub [0, 5, 6, 1, 2, 3, 4, 7, 8] (by decide) rfl
    obtain ⟨⟨hw1, hw2⟩, h⟩ := h
    refine W.widen (k := mcb) (n := msb) hw1 hw2 ?_
    have hP : PP G [(m0, .inr (7, [.int th, .int mr, .long po, .ref dO, .ref sl, .ref ct0, .int mf, .int sp, .ref st0, .ref fs0, .ref jn0, .ref rw0, .ref fd0, .ref af0, .ref kO])), (na_9, .inr (0, [.ref nd_9, .int (0 : Int32), .int (0 : Int32), .int (0 : Int32)])), (nd_9, .inl (G.2 2, c_17, .inl c_18))] _ := hP.sub [0, 7, 8] rfl
    have hD : va_D A [(m0, .inr (7, [.int th, .int mr, .long po, .ref dO, .ref sl, .ref ct0, .int mf, .int sp, .ref st0, .ref fs0, .ref jn0, .ref rw0, .ref fd0, .ref af0, .ref kO])), (na_9, .inr (0, [.ref nd_9, .int (0 : Int32), .int (0 : Int32), .int (0 : Int32)])), (nd_9, .inl (G.2 2, c_17, .inl c_18))] := hD.sub [0, 7, 8] (by decide) rfl
    subst hQC; exact W.aret (v := .ref na_9) hx hb hr (by first | exact Or.inl ⟨_, rfl⟩ | exact Or.inr ⟨_, rfl⟩) (Or.inr ⟨_, rfl⟩) (fun t ht hW => ⟨⟨(c_17, c_18), na_9, rfl, h, nd_9, by rw [ht]; exact hP, hD⟩, hS.F ht⟩) hS.2.2 dX4_textNow_187
  have h := h.2 hc3
  refine lv_tableOut (tgt := 188) hx hb dX4_textNow_17 (tsw_0_3 hc0 hc1 hc2 hc3) (by decide) ?_
  obtain ⟨⟨hq_63, hq_64⟩, h⟩ := h
  refine va_new (D := G.1) (ci := 1) (fs := [.null, .int (0 : Int32), .int (0 : Int32), .int (0 : Int32)]) (C := RJ4) (T := TJ4) (N := 4) hx hb hts igJ4 tyJ4 tyJ4_ok hown (hts _ q1354) (hts _ q675) (hts _ q25) hK hP hD hS hA rfl (fun j hj => by rcases (show j = 0 ∨ j = 1 ∨ j = 2 ∨ j = 3 by omega) with rfl | rfl | rfl | rfl <;> rfl) hq_63 hq_64 dX4_textNow_188 (fun q_5 H hP hD hS => ?_)
  have hP : PP G [(m0, .inr (7, [.int th, .int mr, .long po, .ref dO, .ref sl, .ref ct0, .int mf, .int sp, .ref st0, .ref fs0, .ref jn0, .ref rw0, .ref fd0, .ref af0, .ref kO])), (q_5, .inr (1, [.null, .int (0 : Int32), .int (0 : Int32), .int (0 : Int32)]))] H := hP
  have hD : va_D A [(m0, .inr (7, [.int th, .int mr, .long po, .ref dO, .ref sl, .ref ct0, .int mf, .int sp, .ref st0, .ref fs0, .ref jn0, .ref rw0, .ref fd0, .ref af0, .ref kO])), (q_5, .inr (1, [.null, .int (0 : Int32), .int (0 : Int32), .int (0 : Int32)]))] := hD
  refine lv_dup hx hb dX4_textNow_191 rfl ?_
  obtain ⟨⟨hq_65, hq_66⟩, h⟩ := h
  have hPc := va_P.sub (ws' := [(q_5, .inr (1, [.null, .int (0 : Int32), .int (0 : Int32), .int (0 : Int32)]))]) hP [1] rfl
  have hDc := hD.sub (ws' := [(q_5, .inr (1, [.null, .int (0 : Int32), .int (0 : Int32), .int (0 : Int32)]))]) [1] (by decide) rfl
  have hFc := va_free (wc := [(q_5, .inr (1, [.null, .int (0 : Int32), .int (0 : Int32), .int (0 : Int32)]))]) hD hS hA [1] rfl
  have hJc := (hJ.kept hS.2.1).narrow hFc
  refine va_callv (va_runI (As := []) (rest := [.ref q_5]) ⟨hx, hb, hml, hown, hts⟩ (knJ4_init_da8c8 l G q_5 _ h) (cwI 0 hts (gdC q678) rfl rfl rfl (hts _ q25) (hts _ q1355) (hts _ q677) rfl (by decide +kernel) ⟨(by show 2 + 1 ≤ 6 + (nR + 1); omega), (by show 8 + (1 + 11) + 61 ≤ 175 + (nR + 1) * 22; omega)⟩) (preSwj hPc hKK hDc hJc) rfl rfl hl.1 rfl (lv_room (Nat.le_of_ble_eq_true rfl)) dX4_textNow_192 ⟨hq_65, hq_66⟩) hS (fun q _ h => hFc q h) hFc (fun u t H1 locs ht hvm h hB hz1 hk1 hS => ?_)
  obtain ⟨a_5, rfl⟩ : ∃ z, z = u := ⟨_, rfl⟩
  obtain ⟨hP1, hD1⟩ := hB
  rw [ht] at hP1
  obtain ⟨hP, hD⟩ := va_join (wr := [(m0, .inr (7, [.int th, .int mr, .long po, .ref dO, .ref sl, .ref ct0, .int mf, .int sp, .ref st0, .ref fs0, .ref jn0, .ref rw0, .ref fd0, .ref af0, .ref kO]))]) (w1 := [(q_5, .inr (1, [.ref a_5, .int (0 : Int32), .int (0 : Int32), .int (0 : Int32)])), (a_5, .inl (G.2 2, 16, .inl (fun _ => (0 : Int32))))]) hP hD [1] [0] rfl rfl (by decide) (by decide) hk1 hFc hP1 hD1
  generalize H1 = H at hP hS ⊢
  have hP : PP G [(m0, .inr (7, [.int th, .int mr, .long po, .ref dO, .ref sl, .ref ct0, .int mf, .int sp, .ref st0, .ref fs0, .ref jn0, .ref rw0, .ref fd0, .ref af0, .ref kO])), (q_5, .inr (1, [.ref a_5, .int (0 : Int32), .int (0 : Int32), .int (0 : Int32)])), (a_5, .inl (G.2 2, 16, .inl (fun _ => (0 : Int32))))] H := va_P.sub hP [0, 1, 2] rfl
  have hD : va_D A [(m0, .inr (7, [.int th, .int mr, .long po, .ref dO, .ref sl, .ref ct0, .int mf, .int sp, .ref st0, .ref fs0, .ref jn0, .ref rw0, .ref fd0, .ref af0, .ref kO])), (q_5, .inr (1, [.ref a_5, .int (0 : Int32), .int (0 : Int32), .int (0 : Int32)])), (a_5, .inl (G.2 2, 16, .inl (fun _ => (0 : Int32))))] := hD.sub [0, 1, 2] (by decide) rfl
  refine va_ldcS hx hb hown (litR6 hR) dX4_textNow_195 ?_
  obtain ⟨tl_9, hTl_9⟩ := litJ6 hJ
  obtain ⟨b_47, b_48, h⟩ := h
  obtain ⟨⟨hq_67, hq_68⟩, h⟩ := h
  have hPc := va_P.sub (ws' := [(q_5, .inr (1, [.ref a_5, .int (0 : Int32), .int (0 : Int32), .int (0 : Int32)])), (a_5, .inl (G.2 2, 16, .inl (fun _ => (0 : Int32))))]) hP [1, 2] rfl
  have hDc := hD.sub (ws' := [(q_5, .inr (1, [.ref a_5, .int (0 : Int32), .int (0 : Int32), .int (0 : Int32)])), (a_5, .inl (G.2 2, 16, .inl (fun _ => (0 : Int32))))]) [1, 2] (by decide) rfl
  have hFc := va_free (wc := [(q_5, .inr (1, [.ref a_5, .int (0 : Int32), .int (0 : Int32), .int (0 : Int32)])), (a_5, .inl (G.2 2, 16, .inl (fun _ => (0 : Int32))))]) hD hS hA [1, 2] rfl
  have hJc := (hJ.kept hS.2.1).narrow hFc
  have hTc := (hTl_9.kept hS.2.1).narrow hFc
  refine va_callr (va_runV (C := RJ4) (As := [.ref (G.2 106)]) (rest := []) ⟨hx, hb, hml, hown, hts⟩ (knJ4_append_15ec4 l G q_5 a_5 (G.2 106) tl_9 (0 : Int32) (16) (fun _ => (0 : Int32)) (0) (fun j => ([] : List Int32).getD j 0) b_47 b_48 _ h) (cwV 1 hts (gdV q1357 q881 q882 q25 q883) rfl rfl rfl (by decide +kernel) ⟨(by show 5 + 1 ≤ 6 + (nR + 1); omega), (by show 8 + (2 + 11) + 131 ≤ 175 + (nR + 1) * 22; omega)⟩) (preVwjt hPc hKK hDc hJc hTc (va_recv hK hPc (ci := 1) (q0 := 0) rfl rfl)) rfl rfl hl.1 rfl (lv_room (Nat.le_of_ble_eq_true rfl)) dX4_textNow_197 ⟨hq_67, hq_68⟩) hS (fun q _ h => hFc q h) hFc (fun u ra t H1 locs ht hvm h hB hz1 hk1 hS => ?_)
  obtain ⟨wc_15, wn_15, wf_15⟩ := u
  obtain ⟨era, hB⟩ := hB
  rw [era]
  obtain ⟨wv_15, hB⟩ := hB
  obtain ⟨hP1, hD1⟩ := hB
  rw [ht] at hP1
  obtain ⟨hP, hD⟩ := va_join (wr := [(m0, .inr (7, [.int th, .int mr, .long po, .ref dO, .ref sl, .ref ct0, .int mf, .int sp, .ref st0, .ref fs0, .ref jn0, .ref rw0, .ref fd0, .ref af0, .ref kO]))]) (w1 := [(q_5, .inr (1, [.ref wv_15, .int (0 : Int32), .int (0 : Int32), .int wc_15])), (wv_15, .inl (G.2 2, wn_15, .inl wf_15))]) hP hD [1, 2] [0] rfl rfl (by decide) (by decide) hk1 hFc hP1 hD1
  generalize H1 = H at hP hS ⊢
  have hP : PP G [(m0, .inr (7, [.int th, .int mr, .long po, .ref dO, .ref sl, .ref ct0, .int mf, .int sp, .ref st0, .ref fs0, .ref jn0, .ref rw0, .ref fd0, .ref af0, .ref kO])), (q_5, .inr (1, [.ref wv_15, .int (0 : Int32), .int (0 : Int32), .int wc_15])), (wv_15, .inl (G.2 2, wn_15, .inl wf_15))] H := va_P.sub hP [0, 1, 2] rfl
  have hD : va_D A [(m0, .inr (7, [.int th, .int mr, .long po, .ref dO, .ref sl, .ref ct0, .int mf, .int sp, .ref st0, .ref fs0, .ref jn0, .ref rw0, .ref fd0, .ref af0, .ref kO])), (q_5, .inr (1, [.ref wv_15, .int (0 : Int32), .int (0 : Int32), .int wc_15])), (wv_15, .inl (G.2 2, wn_15, .inl wf_15))] := hD.sub [0, 1, 2] (by decide) rfl
  refine va_ldcS hx hb hown (litR7 hR) dX4_textNow_200 ?_
  refine lv_aload_n hx hb dX4_textNow_202 rfl (lv_at hl 0 rfl) ?_
  refine lv_iconst (v := 0) hx hb dX4_textNow_203 (by decide) ?_
  have hin : vp_in (0 : Int32) 4 := show ¬ ((0 : Int32) < 0 ∨ 4 ≤ ((0 : Int32)).toNatClampNeg) from by decide
  refine va_iald (D := G.1) hx hb hK (hSS.row hf_1 hS.2.1) 0 0 rfl rfl hin dX4_textNow_204 ?_
  refine lv_iconst (v := 4) hx hb dX4_textNow_205 (by decide) ?_
  refine lv_isub hx hb dX4_textNow_206 ?_
  obtain ⟨tl_10, hTl_10⟩ := litJ7 hJ
  have hPc := va_P.sub (ws' := []) hP [] rfl
  have hJc : JJ G (fun _ => False) s _ := (hJ.kept hS.2.1).narrow (fun _ h => False.elim h)
  have hTc := (hTl_10.kept hS.2.1).narrow (fun _ (h : False) => False.elim h)
  refine rdI (va_runV (C := RJ0) (As := [.int ((sq (p1.toNatClampNeg) (0 : Int32).toNatClampNeg) - (4 : Int32))]) (rest := [.ref q_5]) ⟨hx, hb, hml, hown, hts⟩ (knJ0_charAt_5068e l G (G.2 107) tl_10 (4) (fun j => ([75, 69, 67, 68] : List Int32).getD j 0) ((sq (p1.toNatClampNeg) (0 : Int32).toNatClampNeg) - (4 : Int32)) h) (cwV 1 hts (gdV q1366 q1367 q1368 q26 q1369) rfl rfl rfl (by decide +kernel) ⟨(by show 3 + 1 ≤ 6 + (nR + 1); omega), (by show 8 + (2 + 11) + 64 ≤ 175 + (nR + 1) * 22; omega)⟩) (preVjt hPc hKK hJc hTc hTc.recv) rfl rfl hl.1 rfl (lv_room (Nat.le_of_ble_eq_true rfl)) dX4_textNow_207 ⟨(by exact Nat.le_trans (Nat.le_of_eq (Nat.add_zero _)) hq_67), (by exact Nat.le_trans (Nat.le_of_eq (Nat.add_zero _)) hq_68)⟩) (fun r_30 h => ?_)
  obtain ⟨b_49, b_50, h⟩ := h
  obtain ⟨⟨hq_69, hq_70⟩, h⟩ := h
  have hPc := va_P.sub (ws' := [(q_5, .inr (1, [.ref wv_15, .int (0 : Int32), .int (0 : Int32), .int wc_15])), (wv_15, .inl (G.2 2, wn_15, .inl wf_15))]) hP [1, 2] rfl
  have hDc := hD.sub (ws' := [(q_5, .inr (1, [.ref wv_15, .int (0 : Int32), .int (0 : Int32), .int wc_15])), (wv_15, .inl (G.2 2, wn_15, .inl wf_15))]) [1, 2] (by decide) rfl
  have hFc := va_free (wc := [(q_5, .inr (1, [.ref wv_15, .int (0 : Int32), .int (0 : Int32), .int wc_15])), (wv_15, .inl (G.2 2, wn_15, .inl wf_15))]) hD hS hA [1, 2] rfl
  have hJc := (hJ.kept hS.2.1).narrow hFc
  refine va_callr (va_runV (C := RJ4) (As := [.int r_30]) (rest := []) ⟨hx, hb, hml, hown, hts⟩ (knJ4_append_cf468 l G q_5 wv_15 wc_15 wn_15 wf_15 b_49 b_50 r_30 _ h) (cwV 1 hts (gdV q1381 q712 q713 q25 q714) rfl rfl rfl (by decide +kernel) ⟨(by show 5 + 1 ≤ 6 + (nR + 1); omega), (by show 8 + (2 + 11) + 129 ≤ 175 + (nR + 1) * 22; omega)⟩) (preVwj hPc hKK hDc hJc (va_recv hK hPc (ci := 1) (q0 := 0) rfl rfl)) rfl rfl hl.1 rfl (lv_room (Nat.le_of_ble_eq_true rfl)) dX4_textNow_210 ⟨hq_69, hq_70⟩) hS (fun q _ h => hFc q h) hFc (fun u ra t H1 locs ht hvm h hB hz1 hk1 hS => ?_)
  obtain ⟨wc_16, wn_16, wf_16⟩ := u
  obtain ⟨era, hB⟩ := hB
  rw [era]
  obtain ⟨wv_16, hB⟩ := hB
  obtain ⟨hP1, hD1⟩ := hB
  rw [ht] at hP1
  obtain ⟨hP, hD⟩ := va_join (wr := [(m0, .inr (7, [.int th, .int mr, .long po, .ref dO, .ref sl, .ref ct0, .int mf, .int sp, .ref st0, .ref fs0, .ref jn0, .ref rw0, .ref fd0, .ref af0, .ref kO]))]) (w1 := [(q_5, .inr (1, [.ref wv_16, .int (0 : Int32), .int (0 : Int32), .int wc_16])), (wv_16, .inl (G.2 2, wn_16, .inl wf_16))]) hP hD [1, 2] [0] rfl rfl (by decide) (by decide) hk1 hFc hP1 hD1
  generalize H1 = H at hP hS ⊢
  have hP : PP G [(m0, .inr (7, [.int th, .int mr, .long po, .ref dO, .ref sl, .ref ct0, .int mf, .int sp, .ref st0, .ref fs0, .ref jn0, .ref rw0, .ref fd0, .ref af0, .ref kO])), (q_5, .inr (1, [.ref wv_16, .int (0 : Int32), .int (0 : Int32), .int wc_16])), (wv_16, .inl (G.2 2, wn_16, .inl wf_16))] H := va_P.sub hP [0, 1, 2] rfl
  have hD : va_D A [(m0, .inr (7, [.int th, .int mr, .long po, .ref dO, .ref sl, .ref ct0, .int mf, .int sp, .ref st0, .ref fs0, .ref jn0, .ref rw0, .ref fd0, .ref af0, .ref kO])), (q_5, .inr (1, [.ref wv_16, .int (0 : Int32), .int (0 : Int32), .int wc_16])), (wv_16, .inl (G.2 2, wn_16, .inl wf_16))] := hD.sub [0, 1, 2] (by decide) rfl
  refine lv_aload_n hx hb dX4_textNow_213 rfl (lv_at hl 0 rfl) ?_
  refine lv_iconst (v := 1) hx hb dX4_textNow_214 (by decide) ?_
  have hin : vp_in (1 : Int32) 4 := show ¬ ((1 : Int32) < 0 ∨ 4 ≤ ((1 : Int32)).toNatClampNeg) from by decide
  refine va_iald (D := G.1) hx hb hK (hSS.row hf_1 hS.2.1) 0 0 rfl rfl hin dX4_textNow_215 ?_
  obtain ⟨b_51, b_52, h⟩ := h
  obtain ⟨⟨hq_71, hq_72⟩, h⟩ := h
  have hPc := va_P.sub (ws' := [(q_5, .inr (1, [.ref wv_16, .int (0 : Int32), .int (0 : Int32), .int wc_16])), (wv_16, .inl (G.2 2, wn_16, .inl wf_16))]) hP [1, 2] rfl
  have hDc := hD.sub (ws' := [(q_5, .inr (1, [.ref wv_16, .int (0 : Int32), .int (0 : Int32), .int wc_16])), (wv_16, .inl (G.2 2, wn_16, .inl wf_16))]) [1, 2] (by decide) rfl
  have hFc := va_free (wc := [(q_5, .inr (1, [.ref wv_16, .int (0 : Int32), .int (0 : Int32), .int wc_16])), (wv_16, .inl (G.2 2, wn_16, .inl wf_16))]) hD hS hA [1, 2] rfl
  have hJc := (hJ.kept hS.2.1).narrow hFc
  refine va_callr (va_runV (C := RJ4) (As := [.int (sq (p1.toNatClampNeg) (1 : Int32).toNatClampNeg)]) (rest := []) ⟨hx, hb, hml, hown, hts⟩ (knJ4_append_bf812 l G q_5 wv_16 wc_16 wn_16 wf_16 b_51 b_52 (sq (p1.toNatClampNeg) (1 : Int32).toNatClampNeg) _ h) (cwV 1 hts (gdV q1358 q803 q804 q25 q805) rfl rfl rfl (by decide +kernel) ⟨(by show 5 + 1 ≤ 6 + (nR + 1); omega), (by show 8 + (2 + 11) + 131 ≤ 175 + (nR + 1) * 22; omega)⟩) (preVwj hPc hKK hDc hJc (va_recv hK hPc (ci := 1) (q0 := 0) rfl rfl)) rfl rfl hl.1 rfl (lv_room (Nat.le_of_ble_eq_true rfl)) dX4_textNow_216 ⟨hq_71, hq_72⟩) hS (fun q _ h => hFc q h) hFc (fun u ra t H1 locs ht hvm h hB hz1 hk1 hS => ?_)
  obtain ⟨wc_17, wn_17, wf_17⟩ := u
  obtain ⟨era, hB⟩ := hB
  rw [era]
  obtain ⟨wv_17, hB⟩ := hB
  obtain ⟨hP1, hD1⟩ := hB
  rw [ht] at hP1
  obtain ⟨hP, hD⟩ := va_join (wr := [(m0, .inr (7, [.int th, .int mr, .long po, .ref dO, .ref sl, .ref ct0, .int mf, .int sp, .ref st0, .ref fs0, .ref jn0, .ref rw0, .ref fd0, .ref af0, .ref kO]))]) (w1 := [(q_5, .inr (1, [.ref wv_17, .int (0 : Int32), .int (0 : Int32), .int wc_17])), (wv_17, .inl (G.2 2, wn_17, .inl wf_17))]) hP hD [1, 2] [0] rfl rfl (by decide) (by decide) hk1 hFc hP1 hD1
  generalize H1 = H at hP hS ⊢
  have hP : PP G [(m0, .inr (7, [.int th, .int mr, .long po, .ref dO, .ref sl, .ref ct0, .int mf, .int sp, .ref st0, .ref fs0, .ref jn0, .ref rw0, .ref fd0, .ref af0, .ref kO])), (q_5, .inr (1, [.ref wv_17, .int (0 : Int32), .int (0 : Int32), .int wc_17])), (wv_17, .inl (G.2 2, wn_17, .inl wf_17))] H := va_P.sub hP [0, 1, 2] rfl
  have hD : va_D A [(m0, .inr (7, [.int th, .int mr, .long po, .ref dO, .ref sl, .ref ct0, .int mf, .int sp, .ref st0, .ref fs0, .ref jn0, .ref rw0, .ref fd0, .ref af0, .ref kO])), (q_5, .inr (1, [.ref wv_17, .int (0 : Int32), .int (0 : Int32), .int wc_17])), (wv_17, .inl (G.2 2, wn_17, .inl wf_17))] := hD.sub [0, 1, 2] (by decide) rfl
  refine va_ldcwS hx hb hown (litR8 hR) dX4_textNow_219 ?_
  obtain ⟨tl_11, hTl_11⟩ := litJ8 hJ
  obtain ⟨b_53, b_54, h⟩ := h
  obtain ⟨⟨hq_73, hq_74⟩, h⟩ := h
  have hPc := va_P.sub (ws' := [(q_5, .inr (1, [.ref wv_17, .int (0 : Int32), .int (0 : Int32), .int wc_17])), (wv_17, .inl (G.2 2, wn_17, .inl wf_17))]) hP [1, 2] rfl
  have hDc := hD.sub (ws' := [(q_5, .inr (1, [.ref wv_17, .int (0 : Int32), .int (0 : Int32), .int wc_17])), (wv_17, .inl (G.2 2, wn_17, .inl wf_17))]) [1, 2] (by decide) rfl
  have hFc := va_free (wc := [(q_5, .inr (1, [.ref wv_17, .int (0 : Int32), .int (0 : Int32), .int wc_17])), (wv_17, .inl (G.2 2, wn_17, .inl wf_17))]) hD hS hA [1, 2] rfl
  have hJc := (hJ.kept hS.2.1).narrow hFc
  have hTc := (hTl_11.kept hS.2.1).narrow hFc
  refine va_callr (va_runV (C := RJ4) (As := [.ref (G.2 108)]) (rest := []) ⟨hx, hb, hml, hown, hts⟩ (knJ4_append_15ec4 l G q_5 wv_17 (G.2 108) tl_11 wc_17 wn_17 wf_17 (1) (fun j => ([58] : List Int32).getD j 0) b_53 b_54 _ h) (cwV 1 hts (gdV q1357 q881 q882 q25 q883) rfl rfl rfl (by decide +kernel) ⟨(by show 5 + 1 ≤ 6 + (nR + 1); omega), (by show 8 + (2 + 11) + 131 ≤ 175 + (nR + 1) * 22; omega)⟩) (preVwjt hPc hKK hDc hJc hTc (va_recv hK hPc (ci := 1) (q0 := 0) rfl rfl)) rfl rfl hl.1 rfl (lv_room (Nat.le_of_ble_eq_true rfl)) dX4_textNow_222 ⟨hq_73, hq_74⟩) hS (fun q _ h => hFc q h) hFc (fun u ra t H1 locs ht hvm h hB hz1 hk1 hS => ?_)
  obtain ⟨wc_18, wn_18, wf_18⟩ := u
  obtain ⟨era, hB⟩ := hB
  rw [era]
  obtain ⟨wv_18, hB⟩ := hB
  obtain ⟨hP1, hD1⟩ := hB
  rw [ht] at hP1
  obtain ⟨hP, hD⟩ := va_join (wr := [(m0, .inr (7, [.int th, .int mr, .long po, .ref dO, .ref sl, .ref ct0, .int mf, .int sp, .ref st0, .ref fs0, .ref jn0, .ref rw0, .ref fd0, .ref af0, .ref kO]))]) (w1 := [(q_5, .inr (1, [.ref wv_18, .int (0 : Int32), .int (0 : Int32), .int wc_18])), (wv_18, .inl (G.2 2, wn_18, .inl wf_18))]) hP hD [1, 2] [0] rfl rfl (by decide) (by decide) hk1 hFc hP1 hD1
  generalize H1 = H at hP hS ⊢
  have hP : PP G [(m0, .inr (7, [.int th, .int mr, .long po, .ref dO, .ref sl, .ref ct0, .int mf, .int sp, .ref st0, .ref fs0, .ref jn0, .ref rw0, .ref fd0, .ref af0, .ref kO])), (q_5, .inr (1, [.ref wv_18, .int (0 : Int32), .int (0 : Int32), .int wc_18])), (wv_18, .inl (G.2 2, wn_18, .inl wf_18))] H := va_P.sub hP [0, 1, 2] rfl
  have hD : va_D A [(m0, .inr (7, [.int th, .int mr, .long po, .ref dO, .ref sl, .ref ct0, .int mf, .int sp, .ref st0, .ref fs0, .ref jn0, .ref rw0, .ref fd0, .ref af0, .ref kO])), (q_5, .inr (1, [.ref wv_18, .int (0 : Int32), .int (0 : Int32), .int wc_18])), (wv_18, .inl (G.2 2, wn_18, .inl wf_18))] := hD.sub [0, 1, 2] (by decide) rfl
  refine lv_aload_n hx hb dX4_textNow_225 rfl (lv_at hl 1 rfl) ?_
  refine lv_aload_n hx hb dX4_textNow_226 rfl (lv_at hl 0 rfl) ?_
  refine lv_iconst (v := 2) hx hb dX4_textNow_227 (by decide) ?_
  have hin : vp_in (2 : Int32) 4 := show ¬ ((2 : Int32) < 0 ∨ 4 ≤ ((2 : Int32)).toNatClampNeg) from by decide
  refine va_iald (D := G.1) hx hb hK (hSS.row hf_1 hS.2.1) 0 0 rfl rfl hin dX4_textNow_228 ?_
  obtain ⟨b_55, b_56, h⟩ := h
  obtain ⟨⟨hq_75, hq_76⟩, h⟩ := h
  have hPc := va_P.sub (ws' := [(m0, .inr (7, [.int th, .int mr, .long po, .ref dO, .ref sl, .ref ct0, .int mf, .int sp, .ref st0, .ref fs0, .ref jn0, .ref rw0, .ref fd0, .ref af0, .ref kO]))]) hP [0] rfl
  have hDc := hD.sub (ws' := [(m0, .inr (7, [.int th, .int mr, .long po, .ref dO, .ref sl, .ref ct0, .int mf, .int sp, .ref st0, .ref fs0, .ref jn0, .ref rw0, .ref fd0, .ref af0, .ref kO]))]) [0] (by decide) rfl
  have hFc := va_free (wc := [(m0, .inr (7, [.int th, .int mr, .long po, .ref dO, .ref sl, .ref ct0, .int mf, .int sp, .ref st0, .ref fs0, .ref jn0, .ref rw0, .ref fd0, .ref af0, .ref kO]))]) hD hS hA [0] rfl
  have hSSc := (hSS.kept hS.2.1).narrow hFc
  have hJc := (hJ.kept hS.2.1).narrow hFc
  refine va_callr (va_runV (C := RX4) (As := [.int (sq (p1.toNatClampNeg) (2 : Int32).toNatClampNeg)]) (rest := [.ref q_5]) ⟨hx, hb, hml, hown, hts⟩ (ih l G m0 dO sl ct0 st0 fs0 jn0 rw0 fd0 af0 kO sa th mr po mf sp sn sq b_55 b_56 (sq (p1.toNatClampNeg) (2 : Int32).toNatClampNeg) _ h) (cwV 1 hts (gdV q1350 q1352 qs41 q6 q1353) rfl rfl rfl (by decide +kernel) ⟨(by show 6 + nR + 1 ≤ 6 + (nR + 1); omega), (by show 8 + (3 + 11) + (175 + nR * 22) ≤ 175 + (nR + 1) * 22; omega)⟩) (preVwsj hPc hKK hDc hSSc hJc (va_recv hK hPc (ci := 7) (q0 := 0) rfl rfl)) rfl rfl hl.1 rfl (lv_room (Nat.le_of_ble_eq_true rfl)) dX4_textNow_229 ⟨hq_75, hq_76⟩) hS (fun q _ h => hFc q h) hFc (fun u ra t H1 locs ht hvm h hB hz1 hk1 hS => ?_)
  obtain ⟨c_19, c_20⟩ := u
  obtain ⟨nd_10, hB⟩ := hB
  obtain ⟨na_10, rfl⟩ : ∃ z, z = ra := ⟨_, rfl⟩
  obtain ⟨hP1, hD1⟩ := hB
  rw [ht] at hP1
  obtain ⟨hP, hD⟩ := va_join (wr := [(q_5, .inr (1, [.ref wv_18, .int (0 : Int32), .int (0 : Int32), .int wc_18])), (wv_18, .inl (G.2 2, wn_18, .inl wf_18))]) (w1 := [(m0, .inr (7, [.int th, .int mr, .long po, .ref dO, .ref sl, .ref ct0, .int mf, .int sp, .ref st0, .ref fs0, .ref jn0, .ref rw0, .ref fd0, .ref af0, .ref kO])), (na_10, .inr (0, [.ref nd_10, .int (0 : Int32), .int (0 : Int32), .int (0 : Int32)])), (nd_10, .inl (G.2 2, c_19, .inl c_20))]) hP hD [0] [1, 2] rfl rfl (by decide) (by decide) hk1 hFc hP1 hD1
  generalize H1 = H at hP hS ⊢
  have hP : PP G [(m0, .inr (7, [.int th, .int mr, .long po, .ref dO, .ref sl, .ref ct0, .int mf, .int sp, .ref st0, .ref fs0, .ref jn0, .ref rw0, .ref fd0, .ref af0, .ref kO])), (q_5, .inr (1, [.ref wv_18, .int (0 : Int32), .int (0 : Int32), .int wc_18])), (wv_18, .inl (G.2 2, wn_18, .inl wf_18)), (na_10, .inr (0, [.ref nd_10, .int (0 : Int32), .int (0 : Int32), .int (0 : Int32)])), (nd_10, .inl (G.2 2, c_19, .inl c_20))] H := va_P.sub hP [2, 0, 1, 3, 4] rfl
  have hD : va_D A [(m0, .inr (7, [.int th, .int mr, .long po, .ref dO, .ref sl, .ref ct0, .int mf, .int sp, .ref st0, .ref fs0, .ref jn0, .ref rw0, .ref fd0, .ref af0, .ref kO])), (q_5, .inr (1, [.ref wv_18, .int (0 : Int32), .int (0 : Int32), .int wc_18])), (wv_18, .inl (G.2 2, wn_18, .inl wf_18)), (na_10, .inr (0, [.ref nd_10, .int (0 : Int32), .int (0 : Int32), .int (0 : Int32)])), (nd_10, .inl (G.2 2, c_19, .inl c_20))] := hD.sub [2, 0, 1, 3, 4] (by decide) rfl
  obtain ⟨b_57, b_58, h⟩ := h
  obtain ⟨⟨hq_77, hq_78⟩, h⟩ := h
  have hPc := va_P.sub (ws' := [(q_5, .inr (1, [.ref wv_18, .int (0 : Int32), .int (0 : Int32), .int wc_18])), (wv_18, .inl (G.2 2, wn_18, .inl wf_18))]) hP [1, 2] rfl
  have hDc := hD.sub (ws' := [(q_5, .inr (1, [.ref wv_18, .int (0 : Int32), .int (0 : Int32), .int wc_18])), (wv_18, .inl (G.2 2, wn_18, .inl wf_18))]) [1, 2] (by decide) rfl
  have hFc := va_free (wc := [(q_5, .inr (1, [.ref wv_18, .int (0 : Int32), .int (0 : Int32), .int wc_18])), (wv_18, .inl (G.2 2, wn_18, .inl wf_18))]) hD hS hA [1, 2] rfl
  have hJc := (hJ.kept hS.2.1).narrow hFc
  have hTc := stOf (wc := [(q_5, .inr (1, [.ref wv_18, .int (0 : Int32), .int (0 : Int32), .int wc_18])), (wv_18, .inl (G.2 2, wn_18, .inl wf_18))]) hts hK hP hD [1, 2] 3 4 rfl rfl (by decide) (by decide) rfl
  refine va_callr (va_runV (C := RJ4) (As := [.ref na_10]) (rest := []) ⟨hx, hb, hml, hown, hts⟩ (knJ4_append_15ec4 l G q_5 wv_18 na_10 nd_10 wc_18 wn_18 wf_18 c_19 c_20 b_57 b_58 _ h) (cwV 1 hts (gdV q1357 q881 q882 q25 q883) rfl rfl rfl (by decide +kernel) ⟨(by show 5 + 1 ≤ 6 + (nR + 1); omega), (by show 8 + (2 + 11) + 131 ≤ 175 + (nR + 1) * 22; omega)⟩) (preVwjt hPc hKK hDc hJc hTc (va_recv hK hPc (ci := 1) (q0 := 0) rfl rfl)) rfl rfl hl.1 rfl (lv_room (Nat.le_of_ble_eq_true rfl)) dX4_textNow_232 ⟨hq_77, hq_78⟩) hS (fun q _ h => hFc q h) hFc (fun u ra t H1 locs ht hvm h hB hz1 hk1 hS => ?_)
  obtain ⟨wc_19, wn_19, wf_19⟩ := u
  obtain ⟨era, hB⟩ := hB
  rw [era]
  obtain ⟨wv_19, hB⟩ := hB
  obtain ⟨hP1, hD1⟩ := hB
  rw [ht] at hP1
  obtain ⟨hP, hD⟩ := va_join (wr := [(m0, .inr (7, [.int th, .int mr, .long po, .ref dO, .ref sl, .ref ct0, .int mf, .int sp, .ref st0, .ref fs0, .ref jn0, .ref rw0, .ref fd0, .ref af0, .ref kO])), (na_10, .inr (0, [.ref nd_10, .int (0 : Int32), .int (0 : Int32), .int (0 : Int32)])), (nd_10, .inl (G.2 2, c_19, .inl c_20))]) (w1 := [(q_5, .inr (1, [.ref wv_19, .int (0 : Int32), .int (0 : Int32), .int wc_19])), (wv_19, .inl (G.2 2, wn_19, .inl wf_19))]) hP hD [1, 2] [0, 3, 4] rfl rfl (by decide) (by decide) hk1 hFc hP1 hD1
  generalize H1 = H at hP hS ⊢
  have hP : PP G [(m0, .inr (7, [.int th, .int mr, .long po, .ref dO, .ref sl, .ref ct0, .int mf, .int sp, .ref st0, .ref fs0, .ref jn0, .ref rw0, .ref fd0, .ref af0, .ref kO])), (q_5, .inr (1, [.ref wv_19, .int (0 : Int32), .int (0 : Int32), .int wc_19])), (wv_19, .inl (G.2 2, wn_19, .inl wf_19)), (na_10, .inr (0, [.ref nd_10, .int (0 : Int32), .int (0 : Int32), .int (0 : Int32)])), (nd_10, .inl (G.2 2, c_19, .inl c_20))] H := va_P.sub hP [0, 3, 4, 1, 2] rfl
  have hD : va_D A [(m0, .inr (7, [.int th, .int mr, .long po, .ref dO, .ref sl, .ref ct0, .int mf, .int sp, .ref st0, .ref fs0, .ref jn0, .ref rw0, .ref fd0, .ref af0, .ref kO])), (q_5, .inr (1, [.ref wv_19, .int (0 : Int32), .int (0 : Int32), .int wc_19])), (wv_19, .inl (G.2 2, wn_19, .inl wf_19)), (na_10, .inr (0, [.ref nd_10, .int (0 : Int32), .int (0 : Int32), .int (0 : Int32)])), (nd_10, .inl (G.2 2, c_19, .inl c_20))] := hD.sub [0, 3, 4, 1, 2] (by decide) rfl
  obtain ⟨b_59, b_60, h⟩ := h
  obtain ⟨⟨hq_79, hq_80⟩, h⟩ := h
  have hPc := va_P.sub (ws' := [(q_5, .inr (1, [.ref wv_19, .int (0 : Int32), .int (0 : Int32), .int wc_19])), (wv_19, .inl (G.2 2, wn_19, .inl wf_19))]) hP [1, 2] rfl
  have hDc := hD.sub (ws' := [(q_5, .inr (1, [.ref wv_19, .int (0 : Int32), .int (0 : Int32), .int wc_19])), (wv_19, .inl (G.2 2, wn_19, .inl wf_19))]) [1, 2] (by decide) rfl
  have hFc := va_free (wc := [(q_5, .inr (1, [.ref wv_19, .int (0 : Int32), .int (0 : Int32), .int wc_19])), (wv_19, .inl (G.2 2, wn_19, .inl wf_19))]) hD hS hA [1, 2] rfl
  have hJc := (hJ.kept hS.2.1).narrow hFc
  refine va_callr (va_runV (C := RJ4) (As := []) (rest := []) ⟨hx, hb, hml, hown, hts⟩ (knJ4_toString_0e30d l G q_5 wv_19 wc_19 wn_19 wf_19 b_59 b_60 _ h) (cwV 0 hts (gdV q1359 q840 q841 q25 q842) rfl rfl rfl (by decide +kernel) ⟨(by show 5 + 1 ≤ 6 + (nR + 1); omega), (by show 8 + (1 + 11) + 155 ≤ 175 + (nR + 1) * 22; omega)⟩) (preVwj hPc hKK hDc hJc (va_recv hK hPc (ci := 1) (q0 := 0) rfl rfl)) rfl rfl hl.1 rfl (lv_room (Nat.le_of_ble_eq_true rfl)) dX4_textNow_235 ⟨hq_79, hq_80⟩) hS (fun q _ h => hFc q h) hFc (fun u ra t H1 locs ht hvm h hB hz1 hk1 hS => ?_)
  obtain ⟨c_21, c_22⟩ := u
  obtain ⟨nd_11, hB⟩ := hB
  obtain ⟨na_11, rfl⟩ : ∃ z, z = ra := ⟨_, rfl⟩
  obtain ⟨hP1, hD1⟩ := hB
  rw [ht] at hP1
  obtain ⟨hP, hD⟩ := va_join (wr := [(m0, .inr (7, [.int th, .int mr, .long po, .ref dO, .ref sl, .ref ct0, .int mf, .int sp, .ref st0, .ref fs0, .ref jn0, .ref rw0, .ref fd0, .ref af0, .ref kO])), (na_10, .inr (0, [.ref nd_10, .int (0 : Int32), .int (0 : Int32), .int (0 : Int32)])), (nd_10, .inl (G.2 2, c_19, .inl c_20))]) (w1 := [(q_5, .inr (1, [.ref wv_19, .int (0 : Int32), .int (0 : Int32), .int wc_19])), (wv_19, .inl (G.2 2, wn_19, .inl wf_19)), (na_11, .inr (0, [.ref nd_11, .int (0 : Int32), .int (0 : Int32), .int (0 : Int32)])), (nd_11, .inl (G.2 2, c_21, .inl c_22))]) hP hD [1, 2] [0, 3, 4] rfl rfl (by decide) (by decide) hk1 hFc hP1 hD1
  generalize H1 = H at hP hS ⊢
  have hP : PP G [(m0, .inr (7, [.int th, .int mr, .long po, .ref dO, .ref sl, .ref ct0, .int mf, .int sp, .ref st0, .ref fs0, .ref jn0, .ref rw0, .ref fd0, .ref af0, .ref kO])), (q_5, .inr (1, [.ref wv_19, .int (0 : Int32), .int (0 : Int32), .int wc_19])), (wv_19, .inl (G.2 2, wn_19, .inl wf_19)), (na_10, .inr (0, [.ref nd_10, .int (0 : Int32), .int (0 : Int32), .int (0 : Int32)])), (nd_10, .inl (G.2 2, c_19, .inl c_20)), (na_11, .inr (0, [.ref nd_11, .int (0 : Int32), .int (0 : Int32), .int (0 : Int32)])), (nd_11, .inl (G.2 2, c_21, .inl c_22))] H := va_P.sub hP [0, 3, 4, 1, 2, 5, 6] rfl
  have hD : va_D A [(m0, .inr (7, [.int th, .int mr, .long po, .ref dO, .ref sl, .ref ct0, .int mf, .int sp, .ref st0, .ref fs0, .ref jn0, .ref rw0, .ref fd0, .ref af0, .ref kO])), (q_5, .inr (1, [.ref wv_19, .int (0 : Int32), .int (0 : Int32), .int wc_19])), (wv_19, .inl (G.2 2, wn_19, .inl wf_19)), (na_10, .inr (0, [.ref nd_10, .int (0 : Int32), .int (0 : Int32), .int (0 : Int32)])), (nd_10, .inl (G.2 2, c_19, .inl c_20)), (na_11, .inr (0, [.ref nd_11, .int (0 : Int32), .int (0 : Int32), .int (0 : Int32)])), (nd_11, .inl (G.2 2, c_21, .inl c_22))] := hD.sub [0, 3, 4, 1, 2, 5, 6] (by decide) rfl
  obtain ⟨⟨hw1, hw2⟩, h⟩ := h
  refine W.widen (k := mcb) (n := msb) hw1 hw2 ?_
  have hP : PP G [(m0, .inr (7, [.int th, .int mr, .long po, .ref dO, .ref sl, .ref ct0, .int mf, .int sp, .ref st0, .ref fs0, .ref jn0, .ref rw0, .ref fd0, .ref af0, .ref kO])), (na_11, .inr (0, [.ref nd_11, .int (0 : Int32), .int (0 : Int32), .int (0 : Int32)])), (nd_11, .inl (G.2 2, c_21, .inl c_22))] _ := hP.sub [0, 5, 6] rfl
  have hD : va_D A [(m0, .inr (7, [.int th, .int mr, .long po, .ref dO, .ref sl, .ref ct0, .int mf, .int sp, .ref st0, .ref fs0, .ref jn0, .ref rw0, .ref fd0, .ref af0, .ref kO])), (na_11, .inr (0, [.ref nd_11, .int (0 : Int32), .int (0 : Int32), .int (0 : Int32)])), (nd_11, .inl (G.2 2, c_21, .inl c_22))] := hD.sub [0, 5, 6] (by decide) rfl
  subst hQC; exact W.aret (v := .ref na_11) hx hb hr (by first | exact Or.inl ⟨_, rfl⟩ | exact Or.inr ⟨_, rfl⟩) (Or.inr ⟨_, rfl⟩) (fun t ht hW => ⟨⟨(c_21, c_22), na_11, rfl, h, nd_11, by rw [ht]; exact hP, hD⟩, hS.F ht⟩) hS.2.2 dX4_textNow_238
theorem dX4_text_0 : decode cX4_text 0 = .ok (.aload_n 0, 1) := by decide +kernel
theorem dX4_text_1 : decode cX4_text 1 = .ok (.iconst 0, 1) := by decide +kernel
theorem dX4_text_2 : decode cX4_text 2 = .ok (.putfield 54, 3) := by decide +kernel
theorem dX4_text_5 : decode cX4_text 5 = .ok (.aload_n 0, 1) := by decide +kernel
theorem dX4_text_6 : decode cX4_text 6 = .ok (.iload_n 1, 1) := by decide +kernel
theorem dX4_text_7 : decode cX4_text 7 = .ok (.invokevirtual 137, 3) := by decide +kernel
theorem dX4_text_10 : decode cX4_text 10 = .ok (.ifCond .ne 11, 3) := by decide +kernel
theorem dX4_text_13 : decode cX4_text 13 = .ok (.aload_n 0, 1) := by decide +kernel
theorem dX4_text_14 : decode cX4_text 14 = .ok (.iconst 1, 1) := by decide +kernel
theorem dX4_text_15 : decode cX4_text 15 = .ok (.putfield 54, 3) := by decide +kernel
theorem dX4_text_18 : decode cX4_text 18 = .ok (.ldc 251, 2) := by decide +kernel
theorem dX4_text_20 : decode cX4_text 20 = .ok (.areturn, 1) := by decide +kernel
theorem dX4_text_21 : decode cX4_text 21 = .ok (.aload_n 0, 1) := by decide +kernel
theorem dX4_text_22 : decode cX4_text 22 = .ok (.iload_n 1, 1) := by decide +kernel
theorem dX4_text_23 : decode cX4_text 23 = .ok (.invokevirtual 147, 3) := by decide +kernel
theorem dX4_text_26 : decode cX4_text 26 = .ok (.bipush 6, 2) := by decide +kernel
theorem dX4_text_28 : decode cX4_text 28 = .ok (.if_icmp .le 9, 3) := by decide +kernel
theorem dX4_text_31 : decode cX4_text 31 = .ok (.ldc_w 266, 3) := by decide +kernel
theorem dX4_text_34 : decode cX4_text 34 = .ok (.goto 8, 3) := by decide +kernel
theorem dX4_text_37 : decode cX4_text 37 = .ok (.aload_n 0, 1) := by decide +kernel
theorem dX4_text_38 : decode cX4_text 38 = .ok (.iload_n 1, 1) := by decide +kernel
theorem dX4_text_39 : decode cX4_text 39 = .ok (.invokevirtual 239, 3) := by decide +kernel
theorem dX4_text_42 : decode cX4_text 42 = .ok (.areturn, 1) := by decide +kernel
def wnX4_text (post : Int32 → Prop) (th : Int32) (mr : Int32) (po : Int64) (mf : Int32) (sp : Int32) (sn : Nat) (sq : Nat → Nat → Int32) (mcb : Nat) (msb : Nat) (p1 : Int32) : Prop :=
  wX4_isSentence (fun r_1 : Int32 =>
    ((¬ r_1 = 0) →
      wX4_built (fun r_2 : Int32 =>
        ((r_2 ≤ (6 : Int32)) →
          ∃ b_1 b_2 : Nat,
          ((0 + b_1) ≤ mcb ∧ (0 + b_2) ≤ msb) ∧
          ∃ nR, nR ≤ 41 ∧
          wnX4_textNow nR (fun (z_1 : Nat × (Nat → Int32)) =>
            ((0 + b_1) ≤ mcb ∧ (0 + b_2) ≤ msb) ∧
            post (0 : Int32)
            ) (0 : Int32) mr po mf sp sn sq b_1 b_2 p1
        ) ∧ (¬ (r_2 ≤ (6 : Int32)) →
          post (0 : Int32)
        )
        ) sn sq p1
    ) ∧ ((r_1 = 0) →
      post (1 : Int32)
    )
    ) sn p1
abbrev wl_nX4_text : List Cond := .code yX4_text cX4_text 2 (some (.object "java/lang/String")) :: lwg
abbrev rm_nX4_text (mcb msb : Nat) : Room := { frames := 48, cells := mcb, slots := msb, locals := 1099 }
set_option maxHeartbeats 4000000 in
set_option maxRecDepth 100000 in
theorem knX4_text {post : Int32 → Prop} (l : Launch) (G : GT) (m0 : Nat) (dO : Nat) (sl : Nat) (ct0 : Nat) (st0 : Nat) (fs0 : Nat) (jn0 : Nat) (rw0 : Nat) (fd0 : Nat) (af0 : Nat) (kO : Nat) (dr : Nat → Nat) (kr : Nat → Nat) (sa : Nat → Nat) (th : Int32) (mr : Int32) (po : Int64) (mf : Int32) (sp : Int32) (DD : Nat → Nat → Int32) (ctf : Nat → Int32) (stf : Nat → Int32) (fsf : Nat → Int32) (jnf : Nat → Int32) (rwf : Nat → Int32) (fdf : Nat → Int64) (aff : Nat → Int32) (KP : Nat → Nat → Int32) (sn : Nat) (sq : Nat → Nat → Int32) (mcb : Nat) (msb : Nat) (p1 : Int32) (sz : Nat) (h : wnX4_text post th mr po mf sp sn sq mcb msb p1) : Met l yX4_text wl_nX4_text (rm_nX4_text mcb msb) (va_Pc [.ref m0, .int p1] (fun U => U.heap.size = sz ∧ PP G [(m0, .inr (7, [.int th, .int mr, .long po, .ref dO, .ref sl, .ref ct0, .int mf, .int sp, .ref st0, .ref fs0, .ref jn0, .ref rw0, .ref fd0, .ref af0, .ref kO])), (dO, .inl (G.2 4, 6, .inr (.inr (.inr (.inr (fun k => if k < 6 then some (dr k) else none)))))), (dr 0, .inl (G.2 0, 64, .inl (DD 0))), (dr 1, .inl (G.2 0, 64, .inl (DD 1))), (dr 2, .inl (G.2 0, 64, .inl (DD 2))), (dr 3, .inl (G.2 0, 64, .inl (DD 3))), (dr 4, .inl (G.2 0, 64, .inl (DD 4))), (dr 5, .inl (G.2 0, 64, .inl (DD 5))), (ct0, .inl (G.2 0, 6, .inl ctf)), (st0, .inl (G.2 0, 4096, .inl stf)), (fs0, .inl (G.2 0, 4096, .inl fsf)), (jn0, .inl (G.2 0, 64, .inl jnf)), (rw0, .inl (G.2 0, 64, .inl rwf)), (fd0, .inl (G.2 1, 40, .inr (.inl fdf))), (af0, .inl (G.2 3, 40, .inl aff)), (kO, .inl (G.2 4, 4, .inr (.inr (.inr (.inr (fun k => if k < 4 then some (kr k) else none)))))), (kr 0, .inl (G.2 0, 64, .inl (KP 0))), (kr 1, .inl (G.2 0, 64, .inl (KP 1))), (kr 2, .inl (G.2 0, 64, .inl (KP 2))), (kr 3, .inl (G.2 0, 64, .inl (KP 3)))] U.heap ∧ KK G U ∧ va_D (fun _ => True) [(m0, .inr (7, [.int th, .int mr, .long po, .ref dO, .ref sl, .ref ct0, .int mf, .int sp, .ref st0, .ref fs0, .ref jn0, .ref rw0, .ref fd0, .ref af0, .ref kO])), (dO, .inl (G.2 4, 6, .inr (.inr (.inr (.inr (fun k => if k < 6 then some (dr k) else none)))))), (dr 0, .inl (G.2 0, 64, .inl (DD 0))), (dr 1, .inl (G.2 0, 64, .inl (DD 1))), (dr 2, .inl (G.2 0, 64, .inl (DD 2))), (dr 3, .inl (G.2 0, 64, .inl (DD 3))), (dr 4, .inl (G.2 0, 64, .inl (DD 4))), (dr 5, .inl (G.2 0, 64, .inl (DD 5))), (ct0, .inl (G.2 0, 6, .inl ctf)), (st0, .inl (G.2 0, 4096, .inl stf)), (fs0, .inl (G.2 0, 4096, .inl fsf)), (jn0, .inl (G.2 0, 64, .inl jnf)), (rw0, .inl (G.2 0, 64, .inl rwf)), (fd0, .inl (G.2 1, 40, .inr (.inl fdf))), (af0, .inl (G.2 3, 40, .inl aff)), (kO, .inl (G.2 4, 4, .inr (.inr (.inr (.inr (fun k => if k < 4 then some (kr k) else none)))))), (kr 0, .inl (G.2 0, 64, .inl (KP 0))), (kr 1, .inl (G.2 0, 64, .inl (KP 1))), (kr 2, .inl (G.2 0, 64, .inl (KP 2))), (kr 3, .inl (G.2 0, 64, .inl (KP 3)))] ∧ SS G sl sn sa sq (va_A [(m0, .inr (7, [.int th, .int mr, .long po, .ref dO, .ref sl, .ref ct0, .int mf, .int sp, .ref st0, .ref fs0, .ref jn0, .ref rw0, .ref fd0, .ref af0, .ref kO])), (dO, .inl (G.2 4, 6, .inr (.inr (.inr (.inr (fun k => if k < 6 then some (dr k) else none)))))), (dr 0, .inl (G.2 0, 64, .inl (DD 0))), (dr 1, .inl (G.2 0, 64, .inl (DD 1))), (dr 2, .inl (G.2 0, 64, .inl (DD 2))), (dr 3, .inl (G.2 0, 64, .inl (DD 3))), (dr 4, .inl (G.2 0, 64, .inl (DD 4))), (dr 5, .inl (G.2 0, 64, .inl (DD 5))), (ct0, .inl (G.2 0, 6, .inl ctf)), (st0, .inl (G.2 0, 4096, .inl stf)), (fs0, .inl (G.2 0, 4096, .inl fsf)), (jn0, .inl (G.2 0, 64, .inl jnf)), (rw0, .inl (G.2 0, 64, .inl rwf)), (fd0, .inl (G.2 1, 40, .inr (.inl fdf))), (af0, .inl (G.2 3, 40, .inl aff)), (kO, .inl (G.2 4, 4, .inr (.inr (.inr (.inr (fun k => if k < 4 then some (kr k) else none)))))), (kr 0, .inl (G.2 0, 64, .inl (KP 0))), (kr 1, .inl (G.2 0, 64, .inl (KP 1))), (kr 2, .inl (G.2 0, 64, .inl (KP 2))), (kr 3, .inl (G.2 0, 64, .inl (KP 3)))] sz) U U.heap ∧ JJ G (va_A [(m0, .inr (7, [.int th, .int mr, .long po, .ref dO, .ref sl, .ref ct0, .int mf, .int sp, .ref st0, .ref fs0, .ref jn0, .ref rw0, .ref fd0, .ref af0, .ref kO])), (dO, .inl (G.2 4, 6, .inr (.inr (.inr (.inr (fun k => if k < 6 then some (dr k) else none)))))), (dr 0, .inl (G.2 0, 64, .inl (DD 0))), (dr 1, .inl (G.2 0, 64, .inl (DD 1))), (dr 2, .inl (G.2 0, 64, .inl (DD 2))), (dr 3, .inl (G.2 0, 64, .inl (DD 3))), (dr 4, .inl (G.2 0, 64, .inl (DD 4))), (dr 5, .inl (G.2 0, 64, .inl (DD 5))), (ct0, .inl (G.2 0, 6, .inl ctf)), (st0, .inl (G.2 0, 4096, .inl stf)), (fs0, .inl (G.2 0, 4096, .inl fsf)), (jn0, .inl (G.2 0, 64, .inl jnf)), (rw0, .inl (G.2 0, 64, .inl rwf)), (fd0, .inl (G.2 1, 40, .inr (.inl fdf))), (af0, .inl (G.2 3, 40, .inl aff)), (kO, .inl (G.2 4, 4, .inr (.inr (.inr (.inr (fun k => if k < 4 then some (kr k) else none)))))), (kr 0, .inl (G.2 0, 64, .inl (KP 0))), (kr 1, .inl (G.2 0, 64, .inl (KP 1))), (kr 2, .inl (G.2 0, 64, .inl (KP 2))), (kr 3, .inl (G.2 0, 64, .inl (KP 3)))] sz) U U.heap)) (va_Qr post (fun u ra t => PP G [(m0, .inr (7, [.int u, .int mr, .long po, .ref dO, .ref sl, .ref ct0, .int mf, .int sp, .ref st0, .ref fs0, .ref jn0, .ref rw0, .ref fd0, .ref af0, .ref kO])), (dO, .inl (G.2 4, 6, .inr (.inr (.inr (.inr (fun k => if k < 6 then some (dr k) else none)))))), (dr 0, .inl (G.2 0, 64, .inl (DD 0))), (dr 1, .inl (G.2 0, 64, .inl (DD 1))), (dr 2, .inl (G.2 0, 64, .inl (DD 2))), (dr 3, .inl (G.2 0, 64, .inl (DD 3))), (dr 4, .inl (G.2 0, 64, .inl (DD 4))), (dr 5, .inl (G.2 0, 64, .inl (DD 5))), (ct0, .inl (G.2 0, 6, .inl ctf)), (st0, .inl (G.2 0, 4096, .inl stf)), (fs0, .inl (G.2 0, 4096, .inl fsf)), (jn0, .inl (G.2 0, 64, .inl jnf)), (rw0, .inl (G.2 0, 64, .inl rwf)), (fd0, .inl (G.2 1, 40, .inr (.inl fdf))), (af0, .inl (G.2 3, 40, .inl aff)), (kO, .inl (G.2 4, 4, .inr (.inr (.inr (.inr (fun k => if k < 4 then some (kr k) else none)))))), (kr 0, .inl (G.2 0, 64, .inl (KP 0))), (kr 1, .inl (G.2 0, 64, .inl (KP 1))), (kr 2, .inl (G.2 0, 64, .inl (KP 2))), (kr 3, .inl (G.2 0, 64, .inl (KP 3)))] t.heap ∧ va_D (va_A [(m0, .inr (7, [.int th, .int mr, .long po, .ref dO, .ref sl, .ref ct0, .int mf, .int sp, .ref st0, .ref fs0, .ref jn0, .ref rw0, .ref fd0, .ref af0, .ref kO])), (dO, .inl (G.2 4, 6, .inr (.inr (.inr (.inr (fun k => if k < 6 then some (dr k) else none)))))), (dr 0, .inl (G.2 0, 64, .inl (DD 0))), (dr 1, .inl (G.2 0, 64, .inl (DD 1))), (dr 2, .inl (G.2 0, 64, .inl (DD 2))), (dr 3, .inl (G.2 0, 64, .inl (DD 3))), (dr 4, .inl (G.2 0, 64, .inl (DD 4))), (dr 5, .inl (G.2 0, 64, .inl (DD 5))), (ct0, .inl (G.2 0, 6, .inl ctf)), (st0, .inl (G.2 0, 4096, .inl stf)), (fs0, .inl (G.2 0, 4096, .inl fsf)), (jn0, .inl (G.2 0, 64, .inl jnf)), (rw0, .inl (G.2 0, 64, .inl rwf)), (fd0, .inl (G.2 1, 40, .inr (.inl fdf))), (af0, .inl (G.2 3, 40, .inl aff)), (kO, .inl (G.2 4, 4, .inr (.inr (.inr (.inr (fun k => if k < 4 then some (kr k) else none)))))), (kr 0, .inl (G.2 0, 64, .inl (KP 0))), (kr 1, .inl (G.2 0, 64, .inl (KP 1))), (kr 2, .inl (G.2 0, 64, .inl (KP 2))), (kr 3, .inl (G.2 0, 64, .inl (KP 3)))] sz) [(m0, .inr (7, [.int u, .int mr, .long po, .ref dO, .ref sl, .ref ct0, .int mf, .int sp, .ref st0, .ref fs0, .ref jn0, .ref rw0, .ref fd0, .ref af0, .ref kO])), (dO, .inl (G.2 4, 6, .inr (.inr (.inr (.inr (fun k => if k < 6 then some (dr k) else none)))))), (dr 0, .inl (G.2 0, 64, .inl (DD 0))), (dr 1, .inl (G.2 0, 64, .inl (DD 1))), (dr 2, .inl (G.2 0, 64, .inl (DD 2))), (dr 3, .inl (G.2 0, 64, .inl (DD 3))), (dr 4, .inl (G.2 0, 64, .inl (DD 4))), (dr 5, .inl (G.2 0, 64, .inl (DD 5))), (ct0, .inl (G.2 0, 6, .inl ctf)), (st0, .inl (G.2 0, 4096, .inl stf)), (fs0, .inl (G.2 0, 4096, .inl fsf)), (jn0, .inl (G.2 0, 64, .inl jnf)), (rw0, .inl (G.2 0, 64, .inl rwf)), (fd0, .inl (G.2 1, 40, .inr (.inl fdf))), (af0, .inl (G.2 3, 40, .inl aff)), (kO, .inl (G.2 4, 4, .inr (.inr (.inr (.inr (fun k => if k < 4 then some (kr k) else none)))))), (kr 0, .inl (G.2 0, 64, .inl (KP 0))), (kr 1, .inl (G.2 0, 64, .inl (KP 1))), (kr 2, .inl (G.2 0, 64, .inl (KP 2))), (kr 3, .inl (G.2 0, 64, .inl (KP 3)))]) (va_A [(m0, .inr (7, [.int th, .int mr, .long po, .ref dO, .ref sl, .ref ct0, .int mf, .int sp, .ref st0, .ref fs0, .ref jn0, .ref rw0, .ref fd0, .ref af0, .ref kO])), (dO, .inl (G.2 4, 6, .inr (.inr (.inr (.inr (fun k => if k < 6 then some (dr k) else none)))))), (dr 0, .inl (G.2 0, 64, .inl (DD 0))), (dr 1, .inl (G.2 0, 64, .inl (DD 1))), (dr 2, .inl (G.2 0, 64, .inl (DD 2))), (dr 3, .inl (G.2 0, 64, .inl (DD 3))), (dr 4, .inl (G.2 0, 64, .inl (DD 4))), (dr 5, .inl (G.2 0, 64, .inl (DD 5))), (ct0, .inl (G.2 0, 6, .inl ctf)), (st0, .inl (G.2 0, 4096, .inl stf)), (fs0, .inl (G.2 0, 4096, .inl fsf)), (jn0, .inl (G.2 0, 64, .inl jnf)), (rw0, .inl (G.2 0, 64, .inl rwf)), (fd0, .inl (G.2 1, 40, .inr (.inl fdf))), (af0, .inl (G.2 3, 40, .inl aff)), (kO, .inl (G.2 4, 4, .inr (.inr (.inr (.inr (fun k => if k < 4 then some (kr k) else none)))))), (kr 0, .inl (G.2 0, 64, .inl (KP 0))), (kr 1, .inl (G.2 0, 64, .inl (KP 1))), (kr 2, .inl (G.2 0, 64, .inl (KP 2))), (kr 3, .inl (G.2 0, 64, .inl (KP 3)))] sz)) mcb msb (va_A [(m0, .inr (7, [.int th, .int mr, .long po, .ref dO, .ref sl, .ref ct0, .int mf, .int sp, .ref st0, .ref fs0, .ref jn0, .ref rw0, .ref fd0, .ref af0, .ref kO])), (dO, .inl (G.2 4, 6, .inr (.inr (.inr (.inr (fun k => if k < 6 then some (dr k) else none)))))), (dr 0, .inl (G.2 0, 64, .inl (DD 0))), (dr 1, .inl (G.2 0, 64, .inl (DD 1))), (dr 2, .inl (G.2 0, 64, .inl (DD 2))), (dr 3, .inl (G.2 0, 64, .inl (DD 3))), (dr 4, .inl (G.2 0, 64, .inl (DD 4))), (dr 5, .inl (G.2 0, 64, .inl (DD 5))), (ct0, .inl (G.2 0, 6, .inl ctf)), (st0, .inl (G.2 0, 4096, .inl stf)), (fs0, .inl (G.2 0, 4096, .inl fsf)), (jn0, .inl (G.2 0, 64, .inl jnf)), (rw0, .inl (G.2 0, 64, .inl rwf)), (fd0, .inl (G.2 1, 40, .inr (.inl fdf))), (af0, .inl (G.2 3, 40, .inl aff)), (kO, .inl (G.2 4, 4, .inr (.inr (.inr (.inr (fun k => if k < 4 then some (kr k) else none)))))), (kr 0, .inl (G.2 0, 64, .inl (KP 0))), (kr 1, .inl (G.2 0, 64, .inl (KP 1))), (kr 2, .inl (G.2 0, 64, .inl (KP 2))), (kr 3, .inl (G.2 0, 64, .inl (KP 3)))] sz) := by
  refine Met.ofW (cc := cX4_text) (maxL := 2) (ret := (some (.object "java/lang/String"))) (by decide) rfl ?_
  intro p e s m args below meth c s₁ B hml hv
  obtain ⟨rfl, hsz, hP, hKK, hD0, hSS, hJ⟩ := hv
  obtain ⟨hK, hN, hR, hFW, hNC⟩ := id hKK
  have hx := B.exec
  have hb := B.bytes
  have hr := B.returns
  have hts0 := atoms_spec (ws := wl_nX4_text) B.pre
  have hts : ∀ w ∈ lwg, w.before ([.ref m0, .int p1] : List Value).toArray s = true := fun w hw => hts0 w (List.mem_cons_of_mem _ hw)
  have hown : s.vm.findClass RX4 = some m.cls := findClass_of_methodNamed B.named
  have hlocks := B.notSynchronized
  subst hsz
  have hD := hD0.self (sz := s.heap.size)
  generalize hAe : va_A [(m0, .inr (7, [.int th, .int mr, .long po, .ref dO, .ref sl, .ref ct0, .int mf, .int sp, .ref st0, .ref fs0, .ref jn0, .ref rw0, .ref fd0, .ref af0, .ref kO])), (dO, .inl (G.2 4, 6, .inr (.inr (.inr (.inr (fun k => if k < 6 then some (dr k) else none)))))), (dr 0, .inl (G.2 0, 64, .inl (DD 0))), (dr 1, .inl (G.2 0, 64, .inl (DD 1))), (dr 2, .inl (G.2 0, 64, .inl (DD 2))), (dr 3, .inl (G.2 0, 64, .inl (DD 3))), (dr 4, .inl (G.2 0, 64, .inl (DD 4))), (dr 5, .inl (G.2 0, 64, .inl (DD 5))), (ct0, .inl (G.2 0, 6, .inl ctf)), (st0, .inl (G.2 0, 4096, .inl stf)), (fs0, .inl (G.2 0, 4096, .inl fsf)), (jn0, .inl (G.2 0, 64, .inl jnf)), (rw0, .inl (G.2 0, 64, .inl rwf)), (fd0, .inl (G.2 1, 40, .inr (.inl fdf))), (af0, .inl (G.2 3, 40, .inl aff)), (kO, .inl (G.2 4, 4, .inr (.inr (.inr (.inr (fun k => if k < 4 then some (kr k) else none)))))), (kr 0, .inl (G.2 0, 64, .inl (KP 0))), (kr 1, .inl (G.2 0, 64, .inl (KP 1))), (kr 2, .inl (G.2 0, 64, .inl (KP 2))), (kr 3, .inl (G.2 0, 64, .inl (KP 3)))] s.heap.size = A at hD hSS hJ ⊢
  have hA : ∀ q : Nat, s.heap.size ≤ q → A q := fun q h => by rw [← hAe]; exact Or.inr h
  have hS : va_S A s.heap s.heap [] := va_S.rf
  obtain ⟨QC, hQC⟩ : ∃ Z, Z = (va_Qr post (fun u ra t => PP G [(m0, .inr (7, [.int u, .int mr, .long po, .ref dO, .ref sl, .ref ct0, .int mf, .int sp, .ref st0, .ref fs0, .ref jn0, .ref rw0, .ref fd0, .ref af0, .ref kO])), (dO, .inl (G.2 4, 6, .inr (.inr (.inr (.inr (fun k => if k < 6 then some (dr k) else none)))))), (dr 0, .inl (G.2 0, 64, .inl (DD 0))), (dr 1, .inl (G.2 0, 64, .inl (DD 1))), (dr 2, .inl (G.2 0, 64, .inl (DD 2))), (dr 3, .inl (G.2 0, 64, .inl (DD 3))), (dr 4, .inl (G.2 0, 64, .inl (DD 4))), (dr 5, .inl (G.2 0, 64, .inl (DD 5))), (ct0, .inl (G.2 0, 6, .inl ctf)), (st0, .inl (G.2 0, 4096, .inl stf)), (fs0, .inl (G.2 0, 4096, .inl fsf)), (jn0, .inl (G.2 0, 64, .inl jnf)), (rw0, .inl (G.2 0, 64, .inl rwf)), (fd0, .inl (G.2 1, 40, .inr (.inl fdf))), (af0, .inl (G.2 3, 40, .inl aff)), (kO, .inl (G.2 4, 4, .inr (.inr (.inr (.inr (fun k => if k < 4 then some (kr k) else none)))))), (kr 0, .inl (G.2 0, 64, .inl (KP 0))), (kr 1, .inl (G.2 0, 64, .inl (KP 1))), (kr 2, .inl (G.2 0, 64, .inl (KP 2))), (kr 3, .inl (G.2 0, 64, .inl (KP 3)))] t.heap ∧ va_D A [(m0, .inr (7, [.int u, .int mr, .long po, .ref dO, .ref sl, .ref ct0, .int mf, .int sp, .ref st0, .ref fs0, .ref jn0, .ref rw0, .ref fd0, .ref af0, .ref kO])), (dO, .inl (G.2 4, 6, .inr (.inr (.inr (.inr (fun k => if k < 6 then some (dr k) else none)))))), (dr 0, .inl (G.2 0, 64, .inl (DD 0))), (dr 1, .inl (G.2 0, 64, .inl (DD 1))), (dr 2, .inl (G.2 0, 64, .inl (DD 2))), (dr 3, .inl (G.2 0, 64, .inl (DD 3))), (dr 4, .inl (G.2 0, 64, .inl (DD 4))), (dr 5, .inl (G.2 0, 64, .inl (DD 5))), (ct0, .inl (G.2 0, 6, .inl ctf)), (st0, .inl (G.2 0, 4096, .inl stf)), (fs0, .inl (G.2 0, 4096, .inl fsf)), (jn0, .inl (G.2 0, 64, .inl jnf)), (rw0, .inl (G.2 0, 64, .inl rwf)), (fd0, .inl (G.2 1, 40, .inr (.inl fdf))), (af0, .inl (G.2 3, 40, .inl aff)), (kO, .inl (G.2 4, 4, .inr (.inr (.inr (.inr (fun k => if k < 4 then some (kr k) else none)))))), (kr 0, .inl (G.2 0, 64, .inl (KP 0))), (kr 1, .inl (G.2 0, 64, .inl (KP 1))), (kr 2, .inl (G.2 0, 64, .inl (KP 2))), (kr 3, .inl (G.2 0, 64, .inl (KP 3)))]) A) := ⟨_, rfl⟩
  rw [← hQC]
  obtain ⟨jE, hjE⟩ := hJ.2.1
  obtain ⟨jT, hjT1, hjT2⟩ := hJ.2.2.1
  obtain ⟨jO, hjO1, hjO2⟩ := hJ.2.2.2.1
  obtain ⟨jS, hjS⟩ := hJ.2.2.2.2.1
  have hP : PP G [(m0, .inr (7, [.int th, .int mr, .long po, .ref dO, .ref sl, .ref ct0, .int mf, .int sp, .ref st0, .ref fs0, .ref jn0, .ref rw0, .ref fd0, .ref af0, .ref kO])), (dO, .inl (G.2 4, 6, .inr (.inr (.inr (.inr (fun k => if k < 6 then some (dr k) else none)))))), (dr 0, .inl (G.2 0, 64, .inl (DD 0))), (dr 1, .inl (G.2 0, 64, .inl (DD 1))), (dr 2, .inl (G.2 0, 64, .inl (DD 2))), (dr 3, .inl (G.2 0, 64, .inl (DD 3))), (dr 4, .inl (G.2 0, 64, .inl (DD 4))), (dr 5, .inl (G.2 0, 64, .inl (DD 5))), (ct0, .inl (G.2 0, 6, .inl ctf)), (st0, .inl (G.2 0, 4096, .inl stf)), (fs0, .inl (G.2 0, 4096, .inl fsf)), (jn0, .inl (G.2 0, 64, .inl jnf)), (rw0, .inl (G.2 0, 64, .inl rwf)), (fd0, .inl (G.2 1, 40, .inr (.inl fdf))), (af0, .inl (G.2 3, 40, .inl aff)), (kO, .inl (G.2 4, 4, .inr (.inr (.inr (.inr (fun k => if k < 4 then some (kr k) else none)))))), (kr 0, .inl (G.2 0, 64, .inl (KP 0))), (kr 1, .inl (G.2 0, 64, .inl (KP 1))), (kr 2, .inl (G.2 0, 64, .inl (KP 2))), (kr 3, .inl (G.2 0, 64, .inl (KP 3)))] s.heap := hP
  have hl := lv_entry ([.ref m0, .int p1]) (n := 2) (Nat.le_of_ble_eq_true rfl)
  rw [lg_entry_eq]
  generalize (lg_sl ([.ref m0, .int p1]) ++ List.replicate (2 - (lg_sl ([.ref m0, .int p1])).length) Slot.unset).toArray = ls at hl ⊢
  have hl : lv_has ls 2 [(0, .ref m0), (1, .int p1)] := hl
  refine lv_aload_n hx hb dX4_text_0 rfl (lv_at hl 0 rfl) ?_
  refine lv_iconst (v := 0) hx hb dX4_text_1 (by decide) ?_
  refine va_put (D := G.1) (ci := 7) (v := .int (0 : Int32)) (ty := .int) (C := RX4) (T := TX4) (N := 15) hx hb hts igX4 tyX4 tyX4_ok nmX4 hown hK hP hD hS 0 rfl rfl 0 (by decide) (hts _ q1005) (fun _ h9 => h9) rfl (by decide +kernel) rfl rfl (Nat.le_of_ble_eq_true rfl) dX4_text_2 (fun H locs hP hD hS => ?_)
  have hP : PP G [(m0, .inr (7, [.int (0 : Int32), .int mr, .long po, .ref dO, .ref sl, .ref ct0, .int mf, .int sp, .ref st0, .ref fs0, .ref jn0, .ref rw0, .ref fd0, .ref af0, .ref kO])), (dO, .inl (G.2 4, 6, .inr (.inr (.inr (.inr (fun k => if k < 6 then some (dr k) else none)))))), (dr 0, .inl (G.2 0, 64, .inl (DD 0))), (dr 1, .inl (G.2 0, 64, .inl (DD 1))), (dr 2, .inl (G.2 0, 64, .inl (DD 2))), (dr 3, .inl (G.2 0, 64, .inl (DD 3))), (dr 4, .inl (G.2 0, 64, .inl (DD 4))), (dr 5, .inl (G.2 0, 64, .inl (DD 5))), (ct0, .inl (G.2 0, 6, .inl ctf)), (st0, .inl (G.2 0, 4096, .inl stf)), (fs0, .inl (G.2 0, 4096, .inl fsf)), (jn0, .inl (G.2 0, 64, .inl jnf)), (rw0, .inl (G.2 0, 64, .inl rwf)), (fd0, .inl (G.2 1, 40, .inr (.inl fdf))), (af0, .inl (G.2 3, 40, .inl aff)), (kO, .inl (G.2 4, 4, .inr (.inr (.inr (.inr (fun k => if k < 4 then some (kr k) else none)))))), (kr 0, .inl (G.2 0, 64, .inl (KP 0))), (kr 1, .inl (G.2 0, 64, .inl (KP 1))), (kr 2, .inl (G.2 0, 64, .inl (KP 2))), (kr 3, .inl (G.2 0, 64, .inl (KP 3)))] H := hP
  have hD : va_D A [(m0, .inr (7, [.int (0 : Int32), .int mr, .long po, .ref dO, .ref sl, .ref ct0, .int mf, .int sp, .ref st0, .ref fs0, .ref jn0, .ref rw0, .ref fd0, .ref af0, .ref kO])), (dO, .inl (G.2 4, 6, .inr (.inr (.inr (.inr (fun k => if k < 6 then some (dr k) else none)))))), (dr 0, .inl (G.2 0, 64, .inl (DD 0))), (dr 1, .inl (G.2 0, 64, .inl (DD 1))), (dr 2, .inl (G.2 0, 64, .inl (DD 2))), (dr 3, .inl (G.2 0, 64, .inl (DD 3))), (dr 4, .inl (G.2 0, 64, .inl (DD 4))), (dr 5, .inl (G.2 0, 64, .inl (DD 5))), (ct0, .inl (G.2 0, 6, .inl ctf)), (st0, .inl (G.2 0, 4096, .inl stf)), (fs0, .inl (G.2 0, 4096, .inl fsf)), (jn0, .inl (G.2 0, 64, .inl jnf)), (rw0, .inl (G.2 0, 64, .inl rwf)), (fd0, .inl (G.2 1, 40, .inr (.inl fdf))), (af0, .inl (G.2 3, 40, .inl aff)), (kO, .inl (G.2 4, 4, .inr (.inr (.inr (.inr (fun k => if k < 4 then some (kr k) else none)))))), (kr 0, .inl (G.2 0, 64, .inl (KP 0))), (kr 1, .inl (G.2 0, 64, .inl (KP 1))), (kr 2, .inl (G.2 0, 64, .inl (KP 2))), (kr 3, .inl (G.2 0, 64, .inl (KP 3)))] := hD
  refine lv_aload_n hx hb dX4_text_5 rfl (lv_at hl 0 rfl) ?_
  refine lv_iload_n hx hb dX4_text_6 rfl (lv_at hl 1 rfl) ?_
  have hPc := hP
  have hSSc : SS G sl sn sa sq (fun _ => False) s _ := (hSS.kept hS.2.1).narrow (fun _ h => False.elim h)
  refine rdI (va_runV (C := RX4) (As := [.int p1]) (rest := []) ⟨hx, hb, hml, hown, hts⟩ (kX4_isSentence l G m0 dO sl ct0 st0 fs0 jn0 rw0 fd0 af0 kO dr kr sa (0 : Int32) mr po mf sp DD ctf stf fsf jnf rwf fdf aff KP sn sq p1 h) (cwV 1 hts (gdV q1148 q1150 qs20 q6 q1151) rfl rfl rfl (by decide +kernel) ⟨Nat.le_of_ble_eq_true rfl, Nat.le_of_ble_eq_true rfl⟩) (preVs hPc hKK hSSc (va_recv hK hPc (ci := 7) (q0 := 0) rfl rfl)) rfl rfl hl.1 rfl (lv_room (Nat.le_of_ble_eq_true rfl)) dX4_text_7 ⟨Nat.zero_le _, Nat.zero_le _⟩) (fun r_1 h => ?_)
  refine lv_if_ne (tgt := 21) hx hb dX4_text_10 (by decide) (fun hc => ?_) (fun hc => ?_)
  · have h := h.1 hc
    refine lv_aload_n hx hb dX4_text_21 rfl (lv_at hl 0 rfl) ?_
    refine lv_iload_n hx hb dX4_text_22 rfl (lv_at hl 1 rfl) ?_
    have hPc := hP
    have hSSc : SS G sl sn sa sq (fun _ => False) s _ := (hSS.kept hS.2.1).narrow (fun _ h => False.elim h)
    refine rdI (va_runV (C := RX4) (As := [.int p1]) (rest := []) ⟨hx, hb, hml, hown, hts⟩ (kX4_built l G m0 dO sl ct0 st0 fs0 jn0 rw0 fd0 af0 kO dr kr sa (0 : Int32) mr po mf sp DD ctf stf fsf jnf rwf fdf aff KP sn sq p1 h) (cwV 1 hts (gdV q1158 q1160 qs21 q6 q1161) rfl rfl rfl (by decide +kernel) ⟨Nat.le_of_ble_eq_true rfl, Nat.le_of_ble_eq_true rfl⟩) (preVs hPc hKK hSSc (va_recv hK hPc (ci := 7) (q0 := 0) rfl rfl)) rfl rfl hl.1 rfl (lv_room (Nat.le_of_ble_eq_true rfl)) dX4_text_23 ⟨Nat.zero_le _, Nat.zero_le _⟩) (fun r_2 h => ?_)
    refine lv_bipush (v := 6) hx hb dX4_text_26 (by decide) ?_
    refine lv_icmp_le (tgt := 37) hx hb dX4_text_28 (by decide) (fun hc => ?_) (fun hc => ?_)
    · have h := h.1 hc
      refine lv_aload_n hx hb dX4_text_37 rfl (lv_at hl 0 rfl) ?_
      refine lv_iload_n hx hb dX4_text_38 rfl (lv_at hl 1 rfl) ?_
      obtain ⟨b_1, b_2, h⟩ := h
      obtain ⟨⟨hq_1, hq_2⟩, h⟩ := h
      have hPc := va_P.sub (ws' := [(m0, .inr (7, [.int (0 : Int32), .int mr, .long po, .ref dO, .ref sl, .ref ct0, .int mf, .int sp, .ref st0, .ref fs0, .ref jn0, .ref rw0, .ref fd0, .ref af0, .ref kO]))]) hP [0] rfl
      obtain ⟨nR, hnR, h⟩ := h
      have hDc := hD.sub (ws' := [(m0, .inr (7, [.int (0 : Int32), .int mr, .long po, .ref dO, .ref sl, .ref ct0, .int mf, .int sp, .ref st0, .ref fs0, .ref jn0, .ref rw0, .ref fd0, .ref af0, .ref kO]))]) [0] (by decide) rfl
      have hFc := va_free (wc := [(m0, .inr (7, [.int (0 : Int32), .int mr, .long po, .ref dO, .ref sl, .ref ct0, .int mf, .int sp, .ref st0, .ref fs0, .ref jn0, .ref rw0, .ref fd0, .ref af0, .ref kO]))]) hD hS hA [0] rfl
      have hSSc := (hSS.kept hS.2.1).narrow hFc
      have hJc := (hJ.kept hS.2.1).narrow hFc
      refine va_callr (va_runV (C := RX4) (As := [.int p1]) (rest := []) ⟨hx, hb, hml, hown, hts⟩ (knX4_textNow nR l G m0 dO sl ct0 st0 fs0 jn0 rw0 fd0 af0 kO sa (0 : Int32) mr po mf sp sn sq b_1 b_2 p1 _ h) (cwV 1 hts (gdV q1350 q1352 qs41 q6 q1353) rfl rfl rfl (by decide +kernel) ⟨(by show 6 + nR + 1 ≤ 48; omega), (by show 8 + (3 + 11) + (175 + nR * 22) ≤ 1099; omega)⟩) (preVwsj hPc hKK hDc hSSc hJc (va_recv hK hPc (ci := 7) (q0 := 0) rfl rfl)) rfl rfl hl.1 rfl (lv_room (Nat.le_of_ble_eq_true rfl)) dX4_text_39 ⟨hq_1, hq_2⟩) hS (fun q _ h => hFc q h) hFc (fun u ra t H1 locs ht hvm h hB hz1 hk1 hS => ?_)
      obtain ⟨c_1, c_2⟩ := u
      obtain ⟨nd_1, hB⟩ := hB
      obtain ⟨na_1, rfl⟩ : ∃ z, z = ra := ⟨_, rfl⟩
      obtain ⟨hP1, hD1⟩ := hB
      rw [ht] at hP1
      obtain ⟨hP, hD⟩ := va_join (wr := [(dO, .inl (G.2 4, 6, .inr (.inr (.inr (.inr (fun k => if k < 6 then some (dr k) else none)))))), (dr 0, .inl (G.2 0, 64, .inl (DD 0))), (dr 1, .inl (G.2 0, 64, .inl (DD 1))), (dr 2, .inl (G.2 0, 64, .inl (DD 2))), (dr 3, .inl (G.2 0, 64, .inl (DD 3))), (dr 4, .inl (G.2 0, 64, .inl (DD 4))), (dr 5, .inl (G.2 0, 64, .inl (DD 5))), (ct0, .inl (G.2 0, 6, .inl ctf)), (st0, .inl (G.2 0, 4096, .inl stf)), (fs0, .inl (G.2 0, 4096, .inl fsf)), (jn0, .inl (G.2 0, 64, .inl jnf)), (rw0, .inl (G.2 0, 64, .inl rwf)), (fd0, .inl (G.2 1, 40, .inr (.inl fdf))), (af0, .inl (G.2 3, 40, .inl aff)), (kO, .inl (G.2 4, 4, .inr (.inr (.inr (.inr (fun k => if k < 4 then some (kr k) else none)))))), (kr 0, .inl (G.2 0, 64, .inl (KP 0))), (kr 1, .inl (G.2 0, 64, .inl (KP 1))), (kr 2, .inl (G.2 0, 64, .inl (KP 2))), (kr 3, .inl (G.2 0, 64, .inl (KP 3)))]) (w1 := [(m0, .inr (7, [.int (0 : Int32), .int mr, .long po, .ref dO, .ref sl, .ref ct0, .int mf, .int sp, .ref st0, .ref fs0, .ref jn0, .ref rw0, .ref fd0, .ref af0, .ref kO])), (na_1, .inr (0, [.ref nd_1, .int (0 : Int32), .int (0 : Int32), .int (0 : Int32)])), (nd_1, .inl (G.2 2, c_1, .inl c_2))]) hP hD [0] [1, 2, 3, 4, 5, 6, 7, 8, 9, 10, 11, 12, 13, 14, 15, 16, 17, 18, 19] rfl rfl (by decide) (by decide) hk1 hFc hP1 hD1
      generalize H1 = H at hP hS ⊢
      have hP : PP G [(m0, .inr (7, [.int (0 : Int32), .int mr, .long po, .ref dO, .ref sl, .ref ct0, .int mf, .int sp, .ref st0, .ref fs0, .ref jn0, .ref rw0, .ref fd0, .ref af0, .ref kO])), (dO, .inl (G.2 4, 6, .inr (.inr (.inr (.inr (fun k => if k < 6 then some (dr k) else none)))))), (dr 0, .inl (G.2 0, 64, .inl (DD 0))), (dr 1, .inl (G.2 0, 64, .inl (DD 1))), (dr 2, .inl (G.2 0, 64, .inl (DD 2))), (dr 3, .inl (G.2 0, 64, .inl (DD 3))), (dr 4, .inl (G.2 0, 64, .inl (DD 4))), (dr 5, .inl (G.2 0, 64, .inl (DD 5))), (ct0, .inl (G.2 0, 6, .inl ctf)), (st0, .inl (G.2 0, 4096, .inl stf)), (fs0, .inl (G.2 0, 4096, .inl fsf)), (jn0, .inl (G.2 0, 64, .inl jnf)), (rw0, .inl (G.2 0, 64, .inl rwf)), (fd0, .inl (G.2 1, 40, .inr (.inl fdf))), (af0, .inl (G.2 3, 40, .inl aff)), (kO, .inl (G.2 4, 4, .inr (.inr (.inr (.inr (fun k => if k < 4 then some (kr k) else none)))))), (kr 0, .inl (G.2 0, 64, .inl (KP 0))), (kr 1, .inl (G.2 0, 64, .inl (KP 1))), (kr 2, .inl (G.2 0, 64, .inl (KP 2))), (kr 3, .inl (G.2 0, 64, .inl (KP 3))), (na_1, .inr (0, [.ref nd_1, .int (0 : Int32), .int (0 : Int32), .int (0 : Int32)])), (nd_1, .inl (G.2 2, c_1, .inl c_2))] H := va_P.sub hP [19, 0, 1, 2, 3, 4, 5, 6, 7, 8, 9, 10, 11, 12, 13, 14, 15, 16, 17, 18, 20, 21] rfl
      have hD : va_D A [(m0, .inr (7, [.int (0 : Int32), .int mr, .long po, .ref dO, .ref sl, .ref ct0, .int mf, .int sp, .ref st0, .ref fs0, .ref jn0, .ref rw0, .ref fd0, .ref af0, .ref kO])), (dO, .inl (G.2 4, 6, .inr (.inr (.inr (.inr (fun k => if k < 6 then some (dr k) else none)))))), (dr 0, .inl (G.2 0, 64, .inl (DD 0))), (dr 1, .inl (G.2 0, 64, .inl (DD 1))), (dr 2, .inl (G.2 0, 64, .inl (DD 2))), (dr 3, .inl (G.2 0, 64, .inl (DD 3))), (dr 4, .inl (G.2 0, 64, .inl (DD 4))), (dr 5, .inl (G.2 0, 64, .inl (DD 5))), (ct0, .inl (G.2 0, 6, .inl ctf)), (st0, .inl (G.2 0, 4096, .inl stf)), (fs0, .inl (G.2 0, 4096, .inl fsf)), (jn0, .inl (G.2 0, 64, .inl jnf)), (rw0, .inl (G.2 0, 64, .inl rwf)), (fd0, .inl (G.2 1, 40, .inr (.inl fdf))), (af0, .inl (G.2 3, 40, .inl aff)), (kO, .inl (G.2 4, 4, .inr (.inr (.inr (.inr (fun k => if k < 4 then some (kr k) else none)))))), (kr 0, .inl (G.2 0, 64, .inl (KP 0))), (kr 1, .inl (G.2 0, 64, .inl (KP 1))), (kr 2, .inl (G.2 0, 64, .inl (KP 2))), (kr 3, .inl (G.2 0, 64, .inl (KP 3))), (na_1, .inr (0, [.ref nd_1, .int (0 : Int32), .int (0 : Int32), .int (0 : Int32)])), (nd_1, .inl (G.2 2, c_1, .inl c_2))] := hD.sub [19, 0, 1, 2, 3, 4, 5, 6, 7, 8, 9, 10, 11, 12, 13, 14, 15, 16, 17, 18, 20, 21] (by decide) rfl
      obtain ⟨⟨hw1, hw2⟩, h⟩ := h
      refine W.widen (k := mcb) (n := msb) hw1 hw2 ?_
      have hP : PP G [(m0, .inr (7, [.int (0 : Int32), .int mr, .long po, .ref dO, .ref sl, .ref ct0, .int mf, .int sp, .ref st0, .ref fs0, .ref jn0, .ref rw0, .ref fd0, .ref af0, .ref kO])), (dO, .inl (G.2 4, 6, .inr (.inr (.inr (.inr (fun k => if k < 6 then some (dr k) else none)))))), (dr 0, .inl (G.2 0, 64, .inl (DD 0))), (dr 1, .inl (G.2 0, 64, .inl (DD 1))), (dr 2, .inl (G.2 0, 64, .inl (DD 2))), (dr 3, .inl (G.2 0, 64, .inl (DD 3))), (dr 4, .inl (G.2 0, 64, .inl (DD 4))), (dr 5, .inl (G.2 0, 64, .inl (DD 5))), (ct0, .inl (G.2 0, 6, .inl ctf)), (st0, .inl (G.2 0, 4096, .inl stf)), (fs0, .inl (G.2 0, 4096, .inl fsf)), (jn0, .inl (G.2 0, 64, .inl jnf)), (rw0, .inl (G.2 0, 64, .inl rwf)), (fd0, .inl (G.2 1, 40, .inr (.inl fdf))), (af0, .inl (G.2 3, 40, .inl aff)), (kO, .inl (G.2 4, 4, .inr (.inr (.inr (.inr (fun k => if k < 4 then some (kr k) else none)))))), (kr 0, .inl (G.2 0, 64, .inl (KP 0))), (kr 1, .inl (G.2 0, 64, .inl (KP 1))), (kr 2, .inl (G.2 0, 64, .inl (KP 2))), (kr 3, .inl (G.2 0, 64, .inl (KP 3)))] _ := hP.sub [0, 1, 2, 3, 4, 5, 6, 7, 8, 9, 10, 11, 12, 13, 14, 15, 16, 17, 18, 19] rfl
      have hD : va_D A [(m0, .inr (7, [.int (0 : Int32), .int mr, .long po, .ref dO, .ref sl, .ref ct0, .int mf, .int sp, .ref st0, .ref fs0, .ref jn0, .ref rw0, .ref fd0, .ref af0, .ref kO])), (dO, .inl (G.2 4, 6, .inr (.inr (.inr (.inr (fun k => if k < 6 then some (dr k) else none)))))), (dr 0, .inl (G.2 0, 64, .inl (DD 0))), (dr 1, .inl (G.2 0, 64, .inl (DD 1))), (dr 2, .inl (G.2 0, 64, .inl (DD 2))), (dr 3, .inl (G.2 0, 64, .inl (DD 3))), (dr 4, .inl (G.2 0, 64, .inl (DD 4))), (dr 5, .inl (G.2 0, 64, .inl (DD 5))), (ct0, .inl (G.2 0, 6, .inl ctf)), (st0, .inl (G.2 0, 4096, .inl stf)), (fs0, .inl (G.2 0, 4096, .inl fsf)), (jn0, .inl (G.2 0, 64, .inl jnf)), (rw0, .inl (G.2 0, 64, .inl rwf)), (fd0, .inl (G.2 1, 40, .inr (.inl fdf))), (af0, .inl (G.2 3, 40, .inl aff)), (kO, .inl (G.2 4, 4, .inr (.inr (.inr (.inr (fun k => if k < 4 then some (kr k) else none)))))), (kr 0, .inl (G.2 0, 64, .inl (KP 0))), (kr 1, .inl (G.2 0, 64, .inl (KP 1))), (kr 2, .inl (G.2 0, 64, .inl (KP 2))), (kr 3, .inl (G.2 0, 64, .inl (KP 3)))] := hD.sub [0, 1, 2, 3, 4, 5, 6, 7, 8, 9, 10, 11, 12, 13, 14, 15, 16, 17, 18, 19] (by decide) rfl
      subst hQC; exact W.aret (v := .ref na_1) hx hb hr (by first | exact Or.inl ⟨_, rfl⟩ | exact Or.inr ⟨_, rfl⟩) (Or.inr ⟨_, rfl⟩) (fun t ht hW => ⟨⟨(0 : Int32), na_1, rfl, h, by rw [ht]; exact hP, hD⟩, hS.F ht⟩) hS.2.2 dX4_text_42
    · have h := h.2 hc
      refine va_ldcwS hx hb hown (litR9 hR) dX4_text_31 ?_
      refine lv_goto (tgt := 42) hx hb dX4_text_34 (by decide) ?_
      refine W.widen (k := mcb) (n := msb) (Nat.zero_le _) (Nat.zero_le _) ?_
      subst hQC; exact W.aret (v := .ref (G.2 109)) hx hb hr (by first | exact Or.inl ⟨_, rfl⟩ | exact Or.inr ⟨_, rfl⟩) (Or.inr ⟨_, rfl⟩) (fun t ht hW => ⟨⟨(0 : Int32), (G.2 109), rfl, h, by rw [ht]; exact hP, hD⟩, hS.F ht⟩) hS.2.2 dX4_text_42
  · have h := h.2 hc
    refine lv_aload_n hx hb dX4_text_13 rfl (lv_at hl 0 rfl) ?_
    refine lv_iconst (v := 1) hx hb dX4_text_14 (by decide) ?_
    refine va_put (D := G.1) (ci := 7) (v := .int (1 : Int32)) (ty := .int) (C := RX4) (T := TX4) (N := 15) hx hb hts igX4 tyX4 tyX4_ok nmX4 hown hK hP hD hS 0 rfl rfl 0 (by decide) (hts _ q1005) (fun _ h9 => h9) rfl (by decide +kernel) rfl rfl (Nat.le_of_ble_eq_true rfl) dX4_text_15 (fun H locs hP hD hS => ?_)
    have hP : PP G [(m0, .inr (7, [.int (1 : Int32), .int mr, .long po, .ref dO, .ref sl, .ref ct0, .int mf, .int sp, .ref st0, .ref fs0, .ref jn0, .ref rw0, .ref fd0, .ref af0, .ref kO])), (dO, .inl (G.2 4, 6, .inr (.inr (.inr (.inr (fun k => if k < 6 then some (dr k) else none)))))), (dr 0, .inl (G.2 0, 64, .inl (DD 0))), (dr 1, .inl (G.2 0, 64, .inl (DD 1))), (dr 2, .inl (G.2 0, 64, .inl (DD 2))), (dr 3, .inl (G.2 0, 64, .inl (DD 3))), (dr 4, .inl (G.2 0, 64, .inl (DD 4))), (dr 5, .inl (G.2 0, 64, .inl (DD 5))), (ct0, .inl (G.2 0, 6, .inl ctf)), (st0, .inl (G.2 0, 4096, .inl stf)), (fs0, .inl (G.2 0, 4096, .inl fsf)), (jn0, .inl (G.2 0, 64, .inl jnf)), (rw0, .inl (G.2 0, 64, .inl rwf)), (fd0, .inl (G.2 1, 40, .inr (.inl fdf))), (af0, .inl (G.2 3, 40, .inl aff)), (kO, .inl (G.2 4, 4, .inr (.inr (.inr (.inr (fun k => if k < 4 then some (kr k) else none)))))), (kr 0, .inl (G.2 0, 64, .inl (KP 0))), (kr 1, .inl (G.2 0, 64, .inl (KP 1))), (kr 2, .inl (G.2 0, 64, .inl (KP 2))), (kr 3, .inl (G.2 0, 64, .inl (KP 3)))] H := hP
    have hD : va_D A [(m0, .inr (7, [.int (1 : Int32), .int mr, .long po, .ref dO, .ref sl, .ref ct0, .int mf, .int sp, .ref st0, .ref fs0, .ref jn0, .ref rw0, .ref fd0, .ref af0, .ref kO])), (dO, .inl (G.2 4, 6, .inr (.inr (.inr (.inr (fun k => if k < 6 then some (dr k) else none)))))), (dr 0, .inl (G.2 0, 64, .inl (DD 0))), (dr 1, .inl (G.2 0, 64, .inl (DD 1))), (dr 2, .inl (G.2 0, 64, .inl (DD 2))), (dr 3, .inl (G.2 0, 64, .inl (DD 3))), (dr 4, .inl (G.2 0, 64, .inl (DD 4))), (dr 5, .inl (G.2 0, 64, .inl (DD 5))), (ct0, .inl (G.2 0, 6, .inl ctf)), (st0, .inl (G.2 0, 4096, .inl stf)), (fs0, .inl (G.2 0, 4096, .inl fsf)), (jn0, .inl (G.2 0, 64, .inl jnf)), (rw0, .inl (G.2 0, 64, .inl rwf)), (fd0, .inl (G.2 1, 40, .inr (.inl fdf))), (af0, .inl (G.2 3, 40, .inl aff)), (kO, .inl (G.2 4, 4, .inr (.inr (.inr (.inr (fun k => if k < 4 then some (kr k) else none)))))), (kr 0, .inl (G.2 0, 64, .inl (KP 0))), (kr 1, .inl (G.2 0, 64, .inl (KP 1))), (kr 2, .inl (G.2 0, 64, .inl (KP 2))), (kr 3, .inl (G.2 0, 64, .inl (KP 3)))] := hD
    refine va_ldcS hx hb hown (litR6 hR) dX4_text_18 ?_
    refine W.widen (k := mcb) (n := msb) (Nat.zero_le _) (Nat.zero_le _) ?_
    subst hQC; exact W.aret (v := .ref (G.2 106)) hx hb hr (by first | exact Or.inl ⟨_, rfl⟩ | exact Or.inr ⟨_, rfl⟩) (Or.inr ⟨_, rfl⟩) (fun t ht hW => ⟨⟨(1 : Int32), (G.2 106), rfl, h, by rw [ht]; exact hP, hD⟩, hS.F ht⟩) hS.2.2 dX4_text_20
