/-- what the Statement gives of the start -/
def gvs : List Cond := flatC (Jvm.Cond.and given_1 narrow_1)
theorem gvAt {s : State} {b : Nat} (hg : (Jvm.Cond.and given_1 narrow_1).before #[Value.ref b] s = true) {w : Cond} (h : w ∈ gvs) : w.before #[Value.ref b] s = true := flat_of_before _ hg _ h
theorem gvI (i : Nat) {w : Cond} (h : gvs[i]? = some w) : w ∈ gvs := List.mem_of_getElem? h
theorem arrPrim {s : State} {ty : FieldType} {args : Array Value} (h : (Cond.arrayClass ty).before args s = true) (hty : ∀ C, ty ≠ .object C) : ∃ c, ArrOfT s c ty ∧ va_RA s c ty := by
  obtain ⟨c, k, comp, h1, h2, h3⟩ := Cond.arrayClass_spec h
  refine ⟨c, fun N z => ⟨(fun k h => by cases h), k, h2, comp, h3⟩, ?_⟩
  cases ty with
  | object C => exact absurd rfl (hty C)
  | _ => exact h1
theorem arrOverArr {s : State} {ty : FieldType} (h : va_AOA ty s) : ∃ c, ArrOfT s c (.array ty) ∧ va_RA s c (.array ty) := by
  simp only [va_AOA, Cond.before, Cond.holds, Cond.value, beq_iff_eq] at h
  cases hc : s.vm.findClass (FieldType.array ty).toString with
  | none => simp [hc] at h
  | some comp =>
    simp only [hc, Option.bind_some, Option.bind_eq_some_iff, Option.map_eq_some_iff] at h
    obtain ⟨c, hi, k, hk, hb⟩ := h
    obtain ⟨hlt, hp, -⟩ := Array.findIdx?_eq_some_iff_getElem.mp hi
    have hkk : s.vm.classes[c] = k := (Array.getElem?_eq_some_iff.mp hk).2
    rw [hkk] at hp
    cases hkind : k.kind with
    | array component t2 =>
      rw [hkind] at hb hp
      simp at hb hp
      exact ⟨c, fun N z => ⟨(fun k h => by cases h), k, hk, comp, by rw [hkind, hp, hb.1]⟩, hb.2⟩
    | _ => rw [hkind] at hb; simp at hb
theorem arrOverObj {s : State} {C : String} (h : va_AO C s) : ∃ c, ArrOfT s c (.object C) ∧ va_RA s c (.object C) := by
  obtain ⟨comp, c, k, h1, h2, h3, h4, h5⟩ := Cond.arrayOver_spec h
  exact ⟨c, fun N z => ⟨(fun k h => by cases h), k, h3, comp, h4⟩, k, comp, h3, h4, h1, h5⟩
def lstrX : List ((String × Nat × String) × Nat × Nat) := [(("NightdeskRota", 244, "no such question of the night"), 314, 261), (("NightdeskRota", 144, "no such guard"), 358, 294), (("NightdeskRota", 229, "no such question of a guard"), 386, 311), (("NightdeskRota", 215, "no such guard or world"), 394, 342), (("NightdeskRota", 119, "no such sentence"), 404, 368), (("NightdeskRota", 213, "no such question of a sentence"), 431, 388), (("NightdeskRota", 158, "no such set of guards"), 439, 422), (("NightdeskRota", 139, "no such guard or sentence"), 448, 447), (("NightdeskRota", 41, "no such world"), 519, 476), (("NightdeskRota", 54, "no such sentence can be built"), 534, 493), (("NightdeskRota", 62, "there are 40 sentences"), 548, 526), (("NightdeskRota", 85, "no such guard or fact"), 577, 552), (("NightdeskRota", 124, "it is not true"), 591, 577), (("NightdeskRota", 146, "a note goes to another guard"), 606, 595), (("NightdeskRota", 170, "no such fact"), 621, 627), (("NightdeskRota", 181, "no such sentence or world"), 637, 643), (("NightdeskRota$Book", 77, "..."), 673, 672), (("java/util/Arrays", 337, " > "), 879, 679), (("NightdeskRotaModel", 251, ""), 1348, 686), (("NightdeskRotaModel", 266, "..."), 1349, 690), (("NightdeskRotaModel", 224, "p"), 1356, 698), (("NightdeskRotaModel", 237, "-"), 1360, 703), (("NightdeskRotaModel", 243, "("), 1361, 708), (("NightdeskRotaModel", 245, "&"), 1362, 713), (("NightdeskRotaModel", 247, ")"), 1363, 718), (("NightdeskRotaModel", 249, "|"), 1364, 723), (("NightdeskRotaModel", 253, "KECD"), 1365, 728), (("NightdeskRotaModel", 264, ":"), 1382, 736)]
theorem lstrE : lstrX.map Prod.fst = lstr := rfl
theorem lstrB : ∀ q ∈ lstrX, tables_1[q.2.1]? = some (Cond.stringRef q.1.1 q.1.2.1 q.1.2.2) ∧ gvs[q.2.2]? = some (Cond.exactly (.string q.1.1 q.1.2.1) "java/lang/String") := by decide +kernel
theorem lstrA : ∀ w ∈ lstr, Cond.stringRef w.1 w.2.1 w.2.2 ∈ tables_1 ∧ Cond.exactly (.string w.1 w.2.1) "java/lang/String" ∈ gvs := fun w hw => by
  rw [← lstrE] at hw
  obtain ⟨q, hq, rfl⟩ := List.mem_map.mp hw
  exact ⟨List.mem_of_getElem? (lstrB q hq).1, List.mem_of_getElem? (lstrB q hq).2⟩
def litT (w : String × Nat × String × List Int32) : Term := .string w.1 w.2.1
def litV (w : String × Nat × String × List Int32) : Term := .field (litT w) "java/lang/String" "value" "[B"
def llitX : List ((String × Nat × String × List Int32) × Nat × Nat) := [(("NightdeskRotaModel", 224, "p", [112]), 1356, 698), (("NightdeskRotaModel", 237, "-", [45]), 1360, 703), (("NightdeskRotaModel", 243, "(", [40]), 1361, 708), (("NightdeskRotaModel", 245, "&", [38]), 1362, 713), (("NightdeskRotaModel", 247, ")", [41]), 1363, 718), (("NightdeskRotaModel", 249, "|", [124]), 1364, 723), (("NightdeskRotaModel", 251, "", []), 1348, 686), (("NightdeskRotaModel", 253, "KECD", [75, 69, 67, 68]), 1365, 728), (("NightdeskRotaModel", 264, ":", [58]), 1382, 736), (("NightdeskRotaModel", 266, "...", [46, 46, 46]), 1349, 690), (("NightdeskRota$Book", 77, "...", [46, 46, 46]), 673, 672)]
theorem llitE : llitX.map Prod.fst = llit := rfl
theorem llitB : ∀ q ∈ llitX, tables_1[q.2.1]? = some (Cond.stringRef q.1.1 q.1.2.1 q.1.2.2.1) ∧ gvs[q.2.2]? = some (Cond.exactly (litT q.1) "java/lang/String") ∧ gvs[q.2.2 + 1]? = some (Cond.eq (.field (litT q.1) "java/lang/String" "coder" "B") (.int 0)) ∧ gvs[q.2.2 + 2]? = some (Cond.arrayOf (litV q.1) .byte) ∧ gvs[q.2.2 + 3]? = some (Cond.eq (.length (litV q.1)) (.int (Int32.ofNat q.1.2.2.2.length))) ∧ q.1.2.2.2.length < 40 ∧ ∀ j, j < q.1.2.2.2.length → gvs[q.2.2 + 4 + j]? = some (Cond.eq (.elem (litV q.1) (.int (Int32.ofNat j))) (.int (q.1.2.2.2.getD j 0))) := by decide +kernel
theorem llitA : ∀ w ∈ llit, Cond.stringRef w.1 w.2.1 w.2.2.1 ∈ tables_1 ∧ Cond.exactly (litT w) "java/lang/String" ∈ gvs ∧ Cond.eq (.field (litT w) "java/lang/String" "coder" "B") (.int 0) ∈ gvs ∧ Cond.arrayOf (litV w) .byte ∈ gvs ∧ Cond.eq (.length (litV w)) (.int (Int32.ofNat w.2.2.2.length)) ∈ gvs ∧ w.2.2.2.length < 40 ∧ ∀ j, j < w.2.2.2.length → Cond.eq (.elem (litV w) (.int (Int32.ofNat j))) (.int (w.2.2.2.getD j 0)) ∈ gvs := fun w hw => by
  rw [← llitE] at hw
  obtain ⟨q, hq, rfl⟩ := List.mem_map.mp hw
  obtain ⟨h1, h2, h3, h4, h5, h6, h7⟩ := llitB q hq
  exact ⟨List.mem_of_getElem? h1, List.mem_of_getElem? h2, List.mem_of_getElem? h3, List.mem_of_getElem? h4, List.mem_of_getElem? h5, h6, fun j hj => List.mem_of_getElem? (h7 j hj)⟩
theorem tensB : ∀ j, j < 100 → gvs[126 + j]? = some (Cond.eq (.elem (.static "java/lang/Integer" "DigitTens" "[B") (.int (Int32.ofNat j))) (.int (dTens j))) := by decide +kernel
theorem onesB : ∀ j, j < 100 → gvs[23 + j]? = some (Cond.eq (.elem (.static "java/lang/Integer" "DigitOnes" "[B") (.int (Int32.ofNat j))) (.int (dOnes j))) := by decide +kernel
theorem wofB : ∀ j, j < 6 → gvs[7 + j]? = some (Cond.eq (.elem (.static "NightdeskRota" "WORLDS_OF_FACT" "[J") (.int (Int32.ofNat j))) (.long (wof j))) := by decide +kernel
theorem tensA : ∀ j, j < 100 → Cond.eq (.elem (.static "java/lang/Integer" "DigitTens" "[B") (.int (Int32.ofNat j))) (.int (dTens j)) ∈ gvs := fun j hj => List.mem_of_getElem? (tensB j hj)
theorem onesA : ∀ j, j < 100 → Cond.eq (.elem (.static "java/lang/Integer" "DigitOnes" "[B") (.int (Int32.ofNat j))) (.int (dOnes j)) ∈ gvs := fun j hj => List.mem_of_getElem? (onesB j hj)
theorem wofA : ∀ j, j < 6 → Cond.eq (.elem (.static "NightdeskRota" "WORLDS_OF_FACT" "[J") (.int (Int32.ofNat j))) (.long (wof j)) ∈ gvs := fun j hj => List.mem_of_getElem? (wofB j hj)
theorem lwnOn {w : Cond} (hw : w ∈ lwn) : w.onTables = true := by
  have h4 := (List.mem_filter.mp hw).2
  clear hw
  revert h4
  cases w <;> first
    | exact fun _ => rfl
    | exact fun h => absurd (show false = true from h) Bool.false_ne_true
theorem entNW {s : State} {b : Nat} (hts : ∀ w ∈ tables_1, w.before #[Value.ref b] s = true) (hg : (Jvm.Cond.and given_1 narrow_1).before #[Value.ref b] s = true) : NW s := fun w hw => va_Nw.of (lwnOn hw) (hts w (List.mem_filter.mp hw).1)
theorem entAR {s : State} {b : Nat} (hts : ∀ w ∈ tables_1, w.before #[Value.ref b] s = true) (hg : (Jvm.Cond.and given_1 narrow_1).before #[Value.ref b] s = true) : AR s := ⟨va_AO.of (hts _ (List.mem_of_getElem? (i := 1207) (by decide +kernel))), va_AOA.of (hts _ (List.mem_of_getElem? (i := 978) (by decide +kernel))), va_Mi.of (gvAt hg (gvI 260 (by decide +kernel)))⟩
theorem entFW {s : State} {b : Nat} (hts : ∀ w ∈ tables_1, w.before #[Value.ref b] s = true) : FW s := ⟨va_Fw.of (hts _ (List.mem_of_getElem? (i := 1074) (by decide +kernel))) (hts _ (List.mem_of_getElem? (i := 1073) (by decide +kernel))) (hts _ (List.mem_of_getElem? (i := 1079) (by decide +kernel))) (hts _ (List.mem_of_getElem? (i := 1077) (by decide +kernel))) (hts _ (List.mem_of_getElem? (i := 1075) (by decide +kernel))), va_Fw.of (hts _ (List.mem_of_getElem? (i := 1088) (by decide +kernel))) (hts _ (List.mem_of_getElem? (i := 1087) (by decide +kernel))) (hts _ (List.mem_of_getElem? (i := 1092) (by decide +kernel))) (hts _ (List.mem_of_getElem? (i := 1090) (by decide +kernel))) (hts _ (List.mem_of_getElem? (i := 1075) (by decide +kernel))), va_Fw.of (hts _ (List.mem_of_getElem? (i := 1166) (by decide +kernel))) (hts _ (List.mem_of_getElem? (i := 1165) (by decide +kernel))) (hts _ (List.mem_of_getElem? (i := 1170) (by decide +kernel))) (hts _ (List.mem_of_getElem? (i := 1168) (by decide +kernel))) (hts _ (List.mem_of_getElem? (i := 1075) (by decide +kernel)))⟩
theorem entNC {s : State} {b : Nat} (hts : ∀ w ∈ tables_1, w.before #[Value.ref b] s = true) (hg : (Jvm.Cond.and given_1 narrow_1).before #[Value.ref b] s = true) : NC s := ⟨va_Nc.of (gvAt hg (gvI 236 (by decide +kernel))), va_Nc.of (gvAt hg (gvI 257 (by decide +kernel))), va_Nc.of (gvAt hg (gvI 256 (by decide +kernel)))⟩
theorem entLS {s : State} {b : Nat} (hts : ∀ w ∈ tables_1, w.before #[Value.ref b] s = true) (hg : (Jvm.Cond.and given_1 narrow_1).before #[Value.ref b] s = true) : ∀ w ∈ lstr, ∃ a, vk_R w.1 w.2.1 w.2.2 a s := fun w hw => by
  obtain ⟨h1, h2⟩ := lstrA w hw
  obtain ⟨a, c, cA, kA, q1, -⟩ := Cond.exactly_spec (gvAt hg h2)
  exact ⟨a, vk_R.of (hts _ h1) q1⟩
theorem entLit {s : State} {b : Nat} {A : Nat → Prop} (hts : ∀ w ∈ tables_1, w.before #[Value.ref b] s = true) (hg : (Jvm.Cond.and given_1 narrow_1).before #[Value.ref b] s = true) (hA : ∀ a : Nat, a < s.heap.size → ¬ A a) : ∃ ad : Nat → Nat, ∀ i w, llit[i]? = some w → vk_R w.1 w.2.1 w.2.2.1 (ad i) s ∧ ∃ d, ST (ad i) d w.2.2.2.length (fun j => w.2.2.2.getD j 0) A s s.heap := by
  have h0 : ∀ i : Nat, ∃ a : Nat, ∀ w, llit[i]? = some w → vk_R w.1 w.2.1 w.2.2.1 a s ∧ ∃ d, ST a d w.2.2.2.length (fun j => w.2.2.2.getD j 0) A s s.heap := by
    intro i
    cases hw : llit[i]? with
    | none => exact ⟨0, fun w h => by cases h⟩
    | some w =>
      obtain ⟨h1, h2, h3, h4, h5, h6, h7⟩ := llitA w (List.mem_of_getElem? hw)
      obtain ⟨a, c, cA, kA, q1, q2, q3, q4, q5, q6, -⟩ := Cond.exactly_spec (args := #[Value.ref b]) (first := s) (o := none) (s := s) (idx := []) (t := litT w) (cls := "java/lang/String") (gvAt hg h2)
      obtain ⟨t, ht, hT⟩ := va_Tof (f := fun j => .int (w.2.2.2.getD j 0)) (A := A) (by omega) (gvAt hg h4) (va_eqt (gvAt hg h5)) (fun j hj => va_eqt (gvAt hg (h7 j hj))) hA
      refine ⟨a, fun w' h => ?_⟩
      cases h
      exact ⟨vk_R.of (hts _ h1) q1, t, ⟨cA, q3, q5, by rw [q6]; exact q2, hA a (Array.getElem?_eq_some_iff.mp q3).1⟩, vk_OFof q1 (va_eqt (gvAt hg h3)) hA, vk_OFof q1 ht hA, hT⟩
  exact Classical.axiomOfChoice h0
theorem entZZ {s : State} {b : Nat} {A : Nat → Prop} (hts : ∀ w ∈ tables_1, w.before #[Value.ref b] s = true) (hg : (Jvm.Cond.and given_1 narrow_1).before #[Value.ref b] s = true) (hA : ∀ a : Nat, a < s.heap.size → ¬ A a) : ZZ A s s.heap := by
  obtain ⟨t, ht, hT⟩ := va_Tof (tm := .static "NightdeskRota" "WORLDS_OF_FACT" "[J") (ty := .long) (N := 6) (f := fun j => .long (wof j)) (A := A) (by omega) (gvAt hg (gvI 5 (by decide +kernel))) (va_eqt (gvAt hg (gvI 6 (by decide +kernel)))) (fun j hj => va_eqtl (gvAt hg (wofA j hj))) hA
  exact ⟨⟨t, va_Zof (hts _ (List.mem_of_getElem? (i := 133) (by decide +kernel))) (hts _ (List.mem_of_getElem? (i := 1) (by decide +kernel))) ht hA, hT⟩,
    vx_Zqof (hts _ (List.mem_of_getElem? (i := 300) (by decide +kernel))) (hts _ (List.mem_of_getElem? (i := 11) (by decide +kernel))) (gvAt hg (gvI 13 (by decide +kernel))) hA,
    vx_Zqof (hts _ (List.mem_of_getElem? (i := 302) (by decide +kernel))) (hts _ (List.mem_of_getElem? (i := 11) (by decide +kernel))) (gvAt hg (gvI 14 (by decide +kernel))) hA⟩
theorem entSio {s : State} {b : Nat} {A : Nat → Prop} (hts : ∀ w ∈ tables_1, w.before #[Value.ref b] s = true) (hg : (Jvm.Cond.and given_1 narrow_1).before #[Value.ref b] s = true) (hA : ∀ a : Nat, a < s.heap.size → ¬ A a) : ∃ r : Option Nat, va_Z "jdk/internal/util/Preconditions" "SIOOBE_FORMATTER" "Ljava/util/function/BiFunction;" (va_rf r) A s s.heap := by
  rcases va_Zqof (C := "jdk/internal/util/Preconditions") (n := "SIOOBE_FORMATTER") (d := "Ljava/util/function/BiFunction;") (hts _ (List.mem_of_getElem? (i := 777) (by decide +kernel))) (hts _ (List.mem_of_getElem? (i := 16) (by decide +kernel))) (gvAt hg (gvI 16 (by decide +kernel))) hA with h | ⟨t, h⟩
  · exact ⟨none, h⟩
  · exact ⟨some t, h⟩
theorem entTab {s : State} {b : Nat} {A : Nat → Prop} (hts : ∀ w ∈ tables_1, w.before #[Value.ref b] s = true) (hg : (Jvm.Cond.and given_1 narrow_1).before #[Value.ref b] s = true) (hA : ∀ a : Nat, a < s.heap.size → ¬ A a) (n : String) (f : Nat → Int32) (h1 : Cond.laysStatic "java/lang/Integer" n "[B" ∈ tables_1) (h2 : Cond.arrayOf (.static "java/lang/Integer" n "[B") .byte ∈ gvs) (h3 : Cond.eq (.length (.static "java/lang/Integer" n "[B")) (.int 100) ∈ gvs) (h4 : ∀ j, j < 100 → Cond.eq (.elem (.static "java/lang/Integer" n "[B") (.int (Int32.ofNat j))) (.int (f j)) ∈ gvs) : ∃ t, va_Z "java/lang/Integer" n "[B" (.ref t) A s s.heap ∧ va_T .byte t 100 (fun j => .int (f j)) A s s.heap := by
  obtain ⟨t, ht, hT⟩ := va_Tof (tm := .static "java/lang/Integer" n "[B") (ty := .byte) (N := 100) (f := fun j => .int (f j)) (A := A) (by omega) (gvAt hg h2) (va_eqt (gvAt hg h3)) (fun j hj => va_eqt (gvAt hg (h4 j hj))) hA
  exact ⟨t, va_Zof (hts _ h1) (hts _ (List.mem_of_getElem? (i := 23) (by decide +kernel))) ht hA, hT⟩
theorem entZE {s : State} {b : Nat} {A : Nat → Prop} (hts : ∀ w ∈ tables_1, w.before #[Value.ref b] s = true) (hg : (Jvm.Cond.and given_1 narrow_1).before #[Value.ref b] s = true) (hA : ∀ a : Nat, a < s.heap.size → ¬ A a) : ∃ t, ZE t A s s.heap := by
  obtain ⟨t, ht, hT⟩ := va_Tof (tm := .static "java/util/ArrayList" "DEFAULTCAPACITY_EMPTY_ELEMENTDATA" "[Ljava/lang/Object;") (ty := .object "java/lang/Object") (N := 0) (f := fun _ => .null) (A := A) (by omega) (gvAt hg (gvI 227 (by decide +kernel))) (va_eqt (gvAt hg (gvI 229 (by decide +kernel)))) (fun j hj => absurd hj (Nat.not_lt_zero j)) hA
  exact ⟨t, va_Zof (hts _ (List.mem_of_getElem? (i := 992) (by decide +kernel))) (hts _ (List.mem_of_getElem? (i := 9) (by decide +kernel))) ht hA, hT⟩
theorem entKK {s : State} {b : Nat} {A : Nat → Prop} (hts : ∀ w ∈ tables_1, w.before #[Value.ref b] s = true) (hlw : ∀ w ∈ lwg, w.before #[Value.ref b] s = true) (hg : (Jvm.Cond.and given_1 narrow_1).before #[Value.ref b] s = true) (hA : ∀ a : Nat, a < s.heap.size → ¬ A a) : ∃ G : GT, KK G s ∧ ZZ A s s.heap ∧ JJ G A s s.heap := by
  obtain ⟨c0, i0, k0⟩ := u_known (C := RJ0) (T := TJ0) (N := 4) hlw igJ0 (hts (Cond.instantiable RJ0 4) (List.mem_of_getElem? (i := 844) (by decide +kernel)))
  obtain ⟨c1, i1, k1⟩ := u_known (C := RJ4) (T := TJ4) (N := 4) hlw igJ4 (hts (Cond.instantiable RJ4 4) (List.mem_of_getElem? (i := 675) (by decide +kernel)))
  obtain ⟨c2, i2, k2⟩ := u_known (C := RJx4a65c) (T := TJx4a65c) (N := 3) hlw igJx4a65c (hts (Cond.instantiable RJx4a65c 3) (List.mem_of_getElem? (i := 980) (by decide +kernel)))
  obtain ⟨c3, i3, k3⟩ := u_known (C := RX0) (T := TX0) (N := 7) hlw igX0 (hts (Cond.instantiable RX0 7) (List.mem_of_getElem? (i := 38) (by decide +kernel)))
  obtain ⟨c4, i4, k4⟩ := u_known (C := RX1) (T := TX1) (N := 5) hlw igX1 (hts (Cond.instantiable RX1 5) (List.mem_of_getElem? (i := 68) (by decide +kernel)))
  obtain ⟨c5, i5, k5⟩ := u_known (C := RX2) (T := TX2) (N := 11) hlw igX2 (hts (Cond.instantiable RX2 11) (List.mem_of_getElem? (i := 30) (by decide +kernel)))
  obtain ⟨c6, i6, k6⟩ := u_known (C := RX3) (T := TX3) (N := 3) hlw igX3 (hts (Cond.instantiable RX3 3) (List.mem_of_getElem? (i := 496) (by decide +kernel)))
  obtain ⟨c7, i7, k7⟩ := u_known (C := RX4) (T := TX4) (N := 15) hlw igX4 (hts (Cond.instantiable RX4 15) (List.mem_of_getElem? (i := 971) (by decide +kernel)))
  obtain ⟨a0, ar0, an0⟩ := arrPrim (ty := .int) (hts _ (List.mem_of_getElem? (i := 65) (by decide +kernel))) (fun _ h => by cases h)
  obtain ⟨a1, ar1, an1⟩ := arrPrim (ty := .long) (hts _ (List.mem_of_getElem? (i := 66) (by decide +kernel))) (fun _ h => by cases h)
  obtain ⟨a2, ar2, an2⟩ := arrPrim (ty := .byte) (hts _ (List.mem_of_getElem? (i := 340) (by decide +kernel))) (fun _ h => by cases h)
  obtain ⟨a3, ar3, an3⟩ := arrPrim (ty := .boolean) (hts _ (List.mem_of_getElem? (i := 1051) (by decide +kernel))) (fun _ h => by cases h)
  obtain ⟨a4, ar4, an4⟩ := arrOverArr (entAR hts hg).2.1
  obtain ⟨a5, ar5, an5⟩ := arrOverObj (entAR hts hg).1
  obtain ⟨ad, had⟩ := entLit hts hg hA
  refine ⟨((fun c => match c with | 0 => c0 | 1 => c1 | 2 => c2 | 3 => c3 | 4 => c4 | 5 => c5 | 6 => c6 | _ => c7, fun c => match c with | 0 => i0 | 1 => i1 | 2 => i2 | 3 => i3 | 4 => i4 | 5 => i5 | 6 => i6 | _ => i7), fun k => if 100 ≤ k then ad (k - 100) else match k with | 0 => a0 | 1 => a1 | 2 => a2 | 3 => a3 | 4 => a4 | _ => a5), ⟨⟨fun c q h => ?_, fun k q h => ?_⟩, entNW hts hg, ⟨entLS hts hg, fun i w h => ?_, entAR hts hg⟩, entFW hts, entNC hts hg⟩, entZZ hts hg hA, ?_⟩
  · match c, h with
    | 0, h => cases h; exact k0
    | 1, h => cases h; exact k1
    | 2, h => cases h; exact k2
    | 3, h => cases h; exact k3
    | 4, h => cases h; exact k4
    | 5, h => cases h; exact k5
    | 6, h => cases h; exact k6
    | 7, h => cases h; exact k7
    | n + 8, h => cases h
  · match k, h with
    | 0, h => cases h; exact ⟨ar0, an0⟩
    | 1, h => cases h; exact ⟨ar1, an1⟩
    | 2, h => cases h; exact ⟨ar2, an2⟩
    | 3, h => cases h; exact ⟨ar3, an3⟩
    | 4, h => cases h; exact ⟨ar4, an4⟩
    | 5, h => cases h; exact ⟨ar5, an5⟩
    | n + 6, h => cases h
  · have h1 := (had i w h).1
    show vk_R w.1 w.2.1 w.2.2.1 (if 100 ≤ 100 + i then ad (100 + i - 100) else _) s
    rw [if_pos (Nat.le_add_right _ _), Nat.add_sub_cancel_left]
    exact h1
  · refine ⟨va_Zof (hts _ (List.mem_of_getElem? (i := 684) (by decide +kernel))) (hts _ (List.mem_of_getElem? (i := 26) (by decide +kernel))) (va_eqt (gvAt hg (gvI 15 (by decide +kernel)))) hA, entZE hts hg hA, entTab hts hg hA "DigitTens" dTens (List.mem_of_getElem? (i := 818) (by decide +kernel)) (gvI 124 (by decide +kernel)) (gvI 125 (by decide +kernel)) tensA, entTab hts hg hA "DigitOnes" dOnes (List.mem_of_getElem? (i := 816) (by decide +kernel)) (gvI 21 (by decide +kernel)) (gvI 22 (by decide +kernel)) onesA, entSio hts hg hA, fun i w h => ?_⟩
    obtain ⟨d, h1⟩ := (had i w h).2
    refine ⟨d, ?_⟩
    show ST (if 100 ≤ 100 + i then ad (100 + i - 100) else _) d _ _ _ _ _
    rw [if_pos (Nat.le_add_right _ _), Nat.add_sub_cancel_left]
    exact h1
