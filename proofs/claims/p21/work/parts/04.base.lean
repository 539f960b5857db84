/-- private methods of StringBuilder's upper class, asked of a StringBuilder -/
def upsy : List MethodName := [yJ5_ensureCapacityInternal_d00df, yJ5_newCapacity_0f7a4, yJ5_putStringAt_47b60, yJ5_inflateIfNeededFor_a7421]
def upsels : List Cond := upsy.map (fun y => Cond.selects RJ4 y y)
theorem k3_selects {C : String} {y : MethodName} {s : State} {args : Array Value} {n : Nat} (hy : y.cls ≠ "java/lang/invoke/MethodHandle" ∧ y.cls ≠ "java/lang/invoke/VarHandle") (hins : (Cond.instantiable C n).before args s = true) (hsame : (Cond.sameMethod y.cls y.cls y.name y.desc).before args s = true) (hpriv : (Cond.privateMethod y).before args s = true) (hinst : (Cond.instanceMethod y).before args s = true) : (Cond.selects C y y).before args s = true := by
  obtain ⟨c, k, hc, hk, -, -, -, -⟩ := Cond.instantiable_spec hins
  obtain ⟨cy, ck, r, hcy, hck, hni, -, -⟩ := Cond.sameMethod_found hsame
  obtain ⟨mk, methM, hnamed, hmethM, -, -⟩ := Cond.instanceMethod_spec hinst
  have hfound : s.methodFound? y.cls y.name y.desc = some mk := State.methodFound?_of_named hnamed hy
  have hcls : mk.cls = cy := Option.some.inj ((findClass_of_methodNamed hnamed).symm.trans hcy)
  have hsel : selectMethod {} s.vm c mk = .method mk := selectMethod_private hmethM (Cond.privateMethod_at hpriv mk methM hnamed hmethM)
  simp only [Cond.before, Cond.holds, Cond.value, hc, hfound, hnamed, hsel, hcls, hck]
  simp; exact hni
def up_ok (y : MethodName) : Prop := (y.cls ≠ "java/lang/invoke/MethodHandle" ∧ y.cls ≠ "java/lang/invoke/VarHandle") ∧ Cond.instantiable RJ4 4 ∈ tables_1 ∧ Cond.sameMethod y.cls y.cls y.name y.desc ∈ tables_1 ∧ Cond.privateMethod y ∈ tables_1 ∧ Cond.instanceMethod y ∈ tables_1
theorem ups_ok : ∀ y ∈ upsy, up_ok y := by
  intro y hy
  simp only [upsy, List.mem_cons, List.not_mem_nil, or_false] at hy
  rcases hy with rfl | rfl | rfl | rfl
  all_goals exact ⟨⟨by decide +kernel, by decide +kernel⟩, by decide +kernel, by decide +kernel, by decide +kernel, by decide +kernel⟩
theorem ups_hold {s : State} {args : Array Value} (hts : ∀ w ∈ lw_tbl, w.before args s = true) : ∀ w ∈ upsels ++ lw_tbl, w.before args s = true := by
  intro w hw
  rcases List.mem_append.mp hw with h | h
  · obtain ⟨y, hy, rfl⟩ := List.mem_map.mp h
    obtain ⟨h1, h2, h3, h4, h5⟩ := ups_ok y hy
    exact k3_selects h1 (hts _ (List.mem_append_right _ h2)) (hts _ (List.mem_append_right _ h3)) (hts _ (List.mem_append_right _ h4)) (hts _ (List.mem_append_right _ h5))
  · exact hts w h
def lwg : List Cond := (upsels ++ lw_tbl).filter goodWord
theorem lwgU (i : Nat) {w : Cond} (h : upsels[i]? = some w) (hg : goodWord w = true) : w ∈ lwg := List.mem_filter.mpr ⟨List.mem_append_left _ (List.mem_of_getElem? h), hg⟩
theorem lwG {w : Cond} (h : w ∈ lwg) : goodWord w = true := (List.mem_filter.mp h).2
theorem lwgR (i : Nat) {w : Cond} (h : tables_1[i]? = some w) (hg : goodWord w = true) : w ∈ lwg := List.mem_filter.mpr ⟨List.mem_append_right _ (List.mem_append_right _ (List.mem_of_getElem? h)), hg⟩
theorem lwgL (i : Nat) {w : Cond} (h : (k2_sels lw_privs)[i]? = some w) (hg : goodWord w = true) : w ∈ lwg := List.mem_filter.mpr ⟨List.mem_append_right _ (List.mem_append_left _ (List.mem_of_getElem? h)), hg⟩
theorem lwgI {ws : List Cond} (h : ∀ w ∈ ws, w ∈ lw_tbl) (hg : ws.all goodWord = true) : ∀ w ∈ ws, w ∈ lwg := fun w hw => List.mem_filter.mpr ⟨List.mem_append_right _ (h w hw), List.all_eq_true.mp hg w hw⟩
theorem gdI {l : List Cond} (h : ∀ w ∈ l, w ∈ lwg) : GoodIn lwg l := fun w hw => ⟨h w hw, good_of_word (lwG (h w hw))⟩
theorem gdC {c : Cond} (h : c ∈ lwg) : GoodIn lwg (c :: lwg) := gdI (fun w hw => (List.mem_cons.mp hw).elim (fun e => e ▸ h) id)
theorem gdV {own C : String} {idx : Nat} {y : MethodName} {c : Cond} (h1 : Cond.methodLink own idx y ∈ lwg) (h2 : Cond.instanceMethod y ∈ lwg) (h3 : Cond.selects C y y ∈ lwg) (h4 : Cond.initialized C ∈ lwg) (h5 : c ∈ lwg) : GoodIn lwg (wsV own idx C y (c :: lwg)) := gdI (fun w hw => by
  rcases List.mem_append.mp hw with h | h
  · simp only [List.mem_cons, List.not_mem_nil, or_false] at h
    rcases h with rfl | rfl | rfl | rfl
    · exact h1
    · exact h2
    · exact h3
    · exact h4
  · exact (List.mem_cons.mp h).elim (fun e => e ▸ h5) id)
theorem gdS {own : String} {idx : Nat} {y : MethodName} {c : Cond} (h1 : Cond.methodLink own idx y ∈ lwg) (h2 : Cond.static y ∈ lwg) (h4 : Cond.initialized y.cls ∈ lwg) (h5 : c ∈ lwg) : GoodIn lwg (va_wsS own idx y (c :: lwg)) := gdI (fun w hw => by
  rcases List.mem_append.mp hw with h | h
  · simp only [List.mem_cons, List.not_mem_nil, or_false] at h
    rcases h with rfl | rfl | rfl
    · exact h1
    · exact h2
    · exact h4
  · exact (List.mem_cons.mp h).elim (fun e => e ▸ h5) id)
abbrev GT : Type := va_G × (Nat → ClassId)
abbrev TY (G : GT) : List (ClassId × FieldType) := [(G.2 0, .int), (G.2 1, .long), (G.2 2, .byte), (G.2 3, .boolean), (G.2 4, .array .int), (G.2 5, .object "java/lang/Object")]
def lstr : List (String × Nat × String) := [("NightdeskRota", 244, "no such question of the night"), ("NightdeskRota", 144, "no such guard"), ("NightdeskRota", 229, "no such question of a guard"), ("NightdeskRota", 215, "no such guard or world"), ("NightdeskRota", 119, "no such sentence"), ("NightdeskRota", 213, "no such question of a sentence"), ("NightdeskRota", 158, "no such set of guards"), ("NightdeskRota", 139, "no such guard or sentence"), ("NightdeskRota", 41, "no such world"), ("NightdeskRota", 54, "no such sentence can be built"), ("NightdeskRota", 62, "there are 40 sentences"), ("NightdeskRota", 85, "no such guard or fact"), ("NightdeskRota", 124, "it is not true"), ("NightdeskRota", 146, "a note goes to another guard"), ("NightdeskRota", 170, "no such fact"), ("NightdeskRota", 181, "no such sentence or world"), ("NightdeskRota$Book", 77, "..."), ("java/util/Arrays", 337, " > "), ("NightdeskRotaModel", 251, ""), ("NightdeskRotaModel", 266, "..."), ("NightdeskRotaModel", 224, "p"), ("NightdeskRotaModel", 237, "-"), ("NightdeskRotaModel", 243, "("), ("NightdeskRotaModel", 245, "&"), ("NightdeskRotaModel", 247, ")"), ("NightdeskRotaModel", 249, "|"), ("NightdeskRotaModel", 253, "KECD"), ("NightdeskRotaModel", 264, ":")]
def isNest : Cond → Bool
  | .methodLinkNest _ _ _ _ => true
  | .fieldLinkNest _ _ _ _ _ _ => true
  | .castable _ _ => true
  | .declares _ => true
  | _ => false
theorem nestWarm {w : Cond} (h : isNest w = true) {s U : State} (hW : s.WarmedH U.vm) (hZ : va_Nw w s) : va_Nw w U := by
  revert h hZ
  cases w <;> first
    | exact fun _ hZ => va_Nw.warmM hW hZ
    | exact fun _ hZ => va_Nw.warmF hW hZ
    | exact fun _ hZ => va_Nw.warmC hW hZ
    | exact fun _ hZ => va_Nw.warmD hW hZ
    | exact fun h => absurd (show false = true from h) Bool.false_ne_true
/-- the tables' words that are no good words, but stay so while a method runs -/
def lwn : List Cond := tables_1.filter isNest
theorem lwnR (i : Nat) {w : Cond} (h : tables_1[i]? = some w) (hg : isNest w = true) : w ∈ lwn := List.mem_filter.mpr ⟨List.mem_of_getElem? h, hg⟩
def NW (U : State) : Prop := ∀ w ∈ lwn, va_Nw w U
theorem NW.warm {s U : State} (hW : s.WarmedH U.vm) (h : NW s) : NW U := fun w hw => nestWarm (List.mem_filter.mp hw).2 hW (h w hw)
theorem NW.same {u U : State} (hvm : u.vm = U.vm) (h : NW u) : NW U := fun w hw => by
  have h2 := h w hw
  have h3 : w.onTables = true := by
    have h4 := (List.mem_filter.mp hw).2
    clear h2 hw
    revert h4
    cases w <;> first
      | exact fun _ => rfl
      | exact fun h => absurd (show false = true from h) Bool.false_ne_true
  exact va_Nw.same h3 hvm h2
/-- the literals of the texts: whose, its place, its text, its bytes -/
def llit : List (String × Nat × String × List Int32) := [("NightdeskRotaModel", 224, "p", [112]), ("NightdeskRotaModel", 237, "-", [45]), ("NightdeskRotaModel", 243, "(", [40]), ("NightdeskRotaModel", 245, "&", [38]), ("NightdeskRotaModel", 247, ")", [41]), ("NightdeskRotaModel", 249, "|", [124]), ("NightdeskRotaModel", 251, "", []), ("NightdeskRotaModel", 253, "KECD", [75, 69, 67, 68]), ("NightdeskRotaModel", 264, ":", [58]), ("NightdeskRotaModel", 266, "...", [46, 46, 46]), ("NightdeskRota$Book", 77, "...", [46, 46, 46])]
theorem va_AOA.moved {ty : FieldType} {u U : State} (hvm : u.vm.Alike U.vm) (h : va_AOA ty u) : va_AOA ty U := by
  have h1 : (Cond.arrayOver (.array ty)).before #[] (u.setVm U.vm) = true := by
    rw [Jvm.Cond.arrayOver_setVmC hvm]
    exact h
  simp only [va_AOA, Cond.before, Cond.holds, Cond.value, State.vm_setVm] at h1 ⊢
  exact h1
/-- what the making of rows of references, and their classes, want -/
def AR (U : State) : Prop := va_AO "java/lang/Object" U ∧ va_AOA .int U ∧ ∃ mi, va_Mi "[Ljava/lang/Object;" mi U
theorem AR.moved {u U : State} (hvm : u.vm.Alike U.vm) (h : AR u) : AR U := ⟨h.1.moved hvm, h.2.1.moved hvm, h.2.2.imp (fun _ h => h.moved hvm)⟩
def SR (G : GT) (U : State) : Prop := (∀ w ∈ lstr, ∃ a, vk_R w.1 w.2.1 w.2.2 a U) ∧ (∀ i w, llit[i]? = some w → vk_R w.1 w.2.1 w.2.2.1 (G.2 (100 + i)) U) ∧ AR U
theorem SR.warm {G : GT} {s U : State} (hW : s.WarmedH U.vm) (h : SR G s) : SR G U := ⟨fun w hw => by
  obtain ⟨a, ha⟩ := h.1 w hw
  exact ⟨a, ha.warm hW⟩, fun i w hw => (h.2.1 i w hw).warm hW, h.2.2.moved hW.alike⟩
theorem SR.same {G : GT} {u U : State} (hv : U.vm = u.vm) (h : SR G u) : SR G U := ⟨fun w hw => by
  obtain ⟨a, ha⟩ := h.1 w hw
  exact ⟨a, ha.same hv⟩, fun i w hw => (h.2.1 i w hw).same hv, h.2.2.moved (by rw [hv]; exact Vm.Alike.refl u.vm)⟩
abbrev xSize : MethodName := ⟨"java/util/List", "size", "()I"⟩
abbrev xGet : MethodName := ⟨"java/util/List", "get", "(I)Ljava/lang/Object;"⟩
abbrev xAdd : MethodName := ⟨"java/util/List", "add", "(Ljava/lang/Object;)Z"⟩
/-- what an interface's call wants of the tables -/
def FW (U : State) : Prop := va_Fw RJx4a65c xSize yJx4a65c_size_8abf5 U ∧ va_Fw RJx4a65c xGet yJx4a65c_get_915e3 U ∧ va_Fw RJx4a65c xAdd yJx4a65c_add_9ea2d U
theorem FW.moved {u U : State} (hvm : u.vm.Alike U.vm) (h : FW u) : FW U := ⟨h.1.moved (by decide) hvm, h.2.1.moved (by decide) hvm, h.2.2.moved (by decide) hvm⟩
abbrev eIA : String := "java/lang/IllegalArgumentException"
abbrev eIS : String := "java/lang/IllegalStateException"
abbrev eIO : String := "java/lang/IndexOutOfBoundsException"
/-- which thrown things a handler does not take -/
def NC (U : State) : Prop := va_Nc eIS eIA U ∧ va_Nc eIS eIO U ∧ va_Nc eIA eIO U
theorem NC.moved {u U : State} (hvm : u.vm.Alike U.vm) (h : NC u) : NC U := ⟨h.1.moved hvm, h.2.1.moved hvm, h.2.2.moved hvm⟩
def KK (G : GT) (U : State) : Prop := va_K G.1 vwCl (TY G) U ∧ NW U ∧ SR G U ∧ FW U ∧ NC U
theorem KK.warm {G : GT} {s U : State} (hW : s.WarmedH U.vm) (h : KK G s) : KK G U := ⟨va_K.moved hW.alike h.1, h.2.1.warm hW, h.2.2.1.warm hW, h.2.2.2.1.moved hW.alike, h.2.2.2.2.moved hW.alike⟩
theorem KK.call {G : GT} {u : State} {g : JFrame} {mk : MethodId} {a : Array Value} (h : KK G u) : KK G (u.calling g mk a) := ⟨va_K.moved (u := u) (U := u.calling g mk a) (Vm.Alike.refl u.vm) h.1, NW.same (u := u) (U := u.calling g mk a) rfl h.2.1, SR.same (u := u) (U := u.calling g mk a) rfl h.2.2.1, FW.moved (u := u) (U := u.calling g mk a) (Vm.Alike.refl u.vm) h.2.2.2.1, NC.moved (u := u) (U := u.calling g mk a) (Vm.Alike.refl u.vm) h.2.2.2.2⟩
abbrev PP (G : GT) (ws : va_W) (H : Heap) : Prop := va_P G.1 vwCl ws H
abbrev jLushr (x : Int64) (y : Int32) : Int64 := (x.toUInt64 >>> (y.toInt64.toUInt64 &&& Int64.toUInt64 63)).toInt64
abbrev jLshl (x : Int64) (y : Int32) : Int64 := x <<< (y.toInt64 &&& 63)
abbrev jLshr (x : Int64) (y : Int32) : Int64 := x >>> (y.toInt64 &&& 63)
abbrev jIushr (x y : Int32) : Int32 := (x.toUInt32 >>> (y.toUInt32 &&& Int32.toUInt32 31)).toInt32
def wof : Nat → Int64 := fun j => match j with
  | 0 => -6148914691236517206
  | 1 => -3689348814741910324
  | 2 => -1085102592571150096
  | 3 => -71777214294589696
  | 4 => -281470681808896
  | _ => -4294967296
/-- the statics that methods read: where they lie outside of what may be written (A) -/
def ZZ (A : Nat → Prop) (U : State) (H : Heap) : Prop := (∃ t, va_Z "NightdeskRota" "WORLDS_OF_FACT" "[J" (.ref t) A U H ∧ va_T .long t 6 (fun j => .long (wof j)) A U H) ∧ vx_Zq Bundle.tN "UNASSIGNED_STACK" Bundle.steD A U H ∧ vx_Zq Bundle.tN "SUPPRESSED_SENTINEL" Bundle.listD A U H
theorem ZZ.moved {A : Nat → Prop} {u U : State} {H : Heap} (hvm : u.vm.Alike U.vm) (h : ZZ A u H) : ZZ A U H := by
  obtain ⟨⟨t, h1, h2⟩, h3, h4⟩ := h
  exact ⟨⟨t, h1.moved hvm, h2.moved hvm⟩, h3.moved hvm, h4.moved hvm⟩
theorem ZZ.kept {A : Nat → Prop} {U : State} {H H1 : Heap} (h : ZZ A U H) (hq : ∀ a : Nat, a < H.size → ¬ A a → H1[a]? = H[a]?) : ZZ A U H1 := by
  obtain ⟨⟨t, h1, h2⟩, h3, h4⟩ := h
  exact ⟨⟨t, h1.kept hq, h2.kept hq⟩, h3.kept hq, h4.kept hq⟩
theorem ZZ.narrow {A B : Nat → Prop} {U : State} {H : Heap} (h : ZZ A U H) (hAB : ∀ q, B q → A q) : ZZ B U H := by
  obtain ⟨⟨t, h1, h2⟩, h3, h4⟩ := h
  exact ⟨⟨t, h1.narrow hAB, h2.narrow hAB⟩, h3.narrow hAB, h4.narrow hAB⟩
theorem ZZ.call {A : Nat → Prop} {u : State} {g : JFrame} {mk : MethodId} {a : Array Value} (h : ZZ A u u.heap) : ZZ A (u.calling g mk a) (u.calling g mk a).heap := ZZ.moved (u := u) (U := u.calling g mk a) (Vm.Alike.refl u.vm) h
theorem hatX {own cls : String} {ic : Nat} {names : List String} {args : Array Value} {s : State} {A : Nat → Prop}
    (h1 : ∀ w ∈ (vx_atS own ic cls names).filter goodWord, w ∈ lw_tbl) (h2 : ∀ w ∈ (vx_atS own ic cls names).filter (fun w => !goodWord w), w = .laysStatic Bundle.tN "UNASSIGNED_STACK" Bundle.steD ∨ w = .laysStatic Bundle.tN "SUPPRESSED_SENTINEL" Bundle.listD ∨ (w ∈ tables_1 ∧ isNest w = true ∧ w.onTables = true))
    (hts : ∀ w ∈ lwg, w.before args s = true) (hN : NW s) (hZ : ZZ A s s.heap) : ∀ w ∈ vx_atS own ic cls names, w.before args s = true := fun w hw => by
  by_cases hg : goodWord w = true
  · exact hts w (List.mem_filter.mpr ⟨List.mem_append_right _ (h1 w (List.mem_filter.mpr ⟨hw, hg⟩)), hg⟩)
  · rcases h2 w (List.mem_filter.mpr ⟨hw, by simpa using hg⟩) with rfl | rfl | ⟨h3, h4, h5⟩
    · exact hZ.2.1.2.word
    · exact hZ.2.2.2.word
    · exact va_Nw.use h5 (hN w (List.mem_filter.mpr ⟨h3, h4⟩))
theorem keepAll {G : GT} {ws : va_W} {H H1 : Heap} (hP : PP G ws H) (h : ∀ q : Nat, q < H.size → H1[q]? = H[q]?) : PP G ws H1 := va_P.kept hP (fun _ q hk => h q.1 (vx_lt hP hk))
abbrev rtx : List String := ["java/lang/RuntimeException", "java/lang/Exception"]
theorem hat43a : ∀ w ∈ (vx_atS RX2 43 "java/lang/IllegalArgumentException" rtx).filter goodWord, w ∈ lw_tbl := by decide +kernel
theorem hat64a : ∀ w ∈ (vx_atS RX2 64 "java/lang/IllegalStateException" rtx).filter goodWord, w ∈ lw_tbl := by decide +kernel
theorem hat87a : ∀ w ∈ (vx_atS RX2 87 "java/lang/IndexOutOfBoundsException" rtx).filter goodWord, w ∈ lw_tbl := by decide +kernel
theorem hat43b : ∀ w ∈ (vx_atS RX2 43 "java/lang/IllegalArgumentException" rtx).filter (fun w => !goodWord w), w = .laysStatic Bundle.tN "UNASSIGNED_STACK" Bundle.steD ∨ w = .laysStatic Bundle.tN "SUPPRESSED_SENTINEL" Bundle.listD ∨ (w ∈ tables_1 ∧ isNest w = true ∧ w.onTables = true) := by decide +kernel
theorem hat64b : ∀ w ∈ (vx_atS RX2 64 "java/lang/IllegalStateException" rtx).filter (fun w => !goodWord w), w = .laysStatic Bundle.tN "UNASSIGNED_STACK" Bundle.steD ∨ w = .laysStatic Bundle.tN "SUPPRESSED_SENTINEL" Bundle.listD ∨ (w ∈ tables_1 ∧ isNest w = true ∧ w.onTables = true) := by decide +kernel
theorem hat87b : ∀ w ∈ (vx_atS RX2 87 "java/lang/IndexOutOfBoundsException" rtx).filter (fun w => !goodWord w), w = .laysStatic Bundle.tN "UNASSIGNED_STACK" Bundle.steD ∨ w = .laysStatic Bundle.tN "SUPPRESSED_SENTINEL" Bundle.listD ∨ (w ∈ tables_1 ∧ isNest w = true ∧ w.onTables = true) := by decide +kernel
theorem hgd43 : ∀ w ∈ Cond.classLink RX2 39 "java/lang/IllegalArgumentException" :: Cond.initialized "java/lang/IllegalArgumentException" :: vx_atS RX2 43 "java/lang/IllegalArgumentException" rtx, vx_ot w = true := by decide +kernel
theorem hgd64 : ∀ w ∈ Cond.classLink RX2 60 "java/lang/IllegalStateException" :: Cond.initialized "java/lang/IllegalStateException" :: vx_atS RX2 64 "java/lang/IllegalStateException" rtx, vx_ot w = true := by decide +kernel
theorem hgd87 : ∀ w ∈ Cond.classLink RX2 83 "java/lang/IndexOutOfBoundsException" :: Cond.initialized "java/lang/IndexOutOfBoundsException" :: vx_atS RX2 87 "java/lang/IndexOutOfBoundsException" rtx, vx_ot w = true := by decide +kernel
section RD
variable {p : Program} {l : Launch} {e : Env} {R : Room} {s : State} {m : MethodId} {args : Array Value} {below : List Frame} {meth : Method} {c : Code} {H : Heap} {locs : List Loc} {cells slots : Nat} {Q : State → Prop} {pc : Nat} {ls : Array Slot} {rest st0 : List Value} {a : Array Value}
theorem rdRun {mc ms : Nat} {g : JFrame} {Qa : State → Outcome → State → Prop} {free : Addr → Prop} (hr : va_Run p l e R s m args below meth c H locs cells slots mc ms g rest Qa free) : CallRun p l e R s m args below meth c H locs cells slots mc ms g rest Qa free := fun T hT X => by
  obtain ⟨v, st, t, T', L, a1, a2, a3, a4, _, a6, a7⟩ := hr T hT X
  exact ⟨v, st, t, T', L, a1, a2, a3, a4, a6, a7⟩
theorem rdI {post : Int32 → Prop} (hr : va_Run p l e R s m args below meth c H locs cells slots 0 0 (F0 m pc ls st0) rest (vp_Si post a) (fun _ => False)) (kk : ∀ r : Int32, post r → W p l e R s m args below meth c H locs cells slots Q (F0 m (pc + 3) ls (.int r :: rest))) : W p l e R s m args below meth c H locs cells slots Q (F0 m pc ls st0) := vp_callSi (rdRun hr) kk
theorem rdL {post : Int64 → Prop} (hr : va_Run p l e R s m args below meth c H locs cells slots 0 0 (F0 m pc ls st0) rest (vp_Sl post a) (fun _ => False)) (kk : ∀ r : Int64, post r → W p l e R s m args below meth c H locs cells slots Q (F0 m (pc + 3) ls (.long r :: rest))) : W p l e R s m args below meth c H locs cells slots Q (F0 m pc ls st0) := vp_callSl (rdRun hr) kk
theorem rdD {post : UInt64 → Prop} (hr : va_Run p l e R s m args below meth c H locs cells slots 0 0 (F0 m pc ls st0) rest (vp_Sd post a) (fun _ => False)) (kk : ∀ r : UInt64, post r → W p l e R s m args below meth c H locs cells slots Q (F0 m (pc + 3) ls (.double r :: rest))) : W p l e R s m args below meth c H locs cells slots Q (F0 m pc ls st0) := vp_callSd (rdRun hr) kk
theorem rdV {post : Unit → Prop} (hr : va_Run p l e R s m args below meth c H locs cells slots 0 0 (F0 m pc ls st0) rest (va_Sv post a) (fun _ => False)) (kk : post () → W p l e R s m args below meth c H locs cells slots Q (F0 m (pc + 3) ls rest)) : W p l e R s m args below meth c H locs cells slots Q (F0 m pc ls st0) := va_csv (rdRun hr) kk
theorem preS {G : GT} {ws : va_W} {As : List Value} (hP : PP G ws H) (hK : KK G s) : PreS s H (va_Pc As (fun U => PP G ws U.heap ∧ KK G U)) As :=
  ⟨fun a U g mk q => by obtain ⟨q0, qP, qK⟩ := q; exact ⟨q0, qP, qK.call⟩, fun U hU hW => ⟨rfl, by rw [hU]; exact hP, hK.warm hW⟩⟩
theorem preV {G : GT} {ws : va_W} {As : List Value} {C : String} {b : Nat} (hP : PP G ws H) (hK : KK G s) (hr : ∃ cell : Cell, H[b]? = some cell ∧ cell.vm.isStatics = false ∧ s.vm.findClass C = some cell.cls) : PreV s H C b (va_Pc (.ref b :: As) (fun U => PP G ws U.heap ∧ KK G U)) As :=
  ⟨fun a U g mk q => by obtain ⟨q0, qP, qK⟩ := q; exact ⟨q0, qP, qK.call⟩, hr, fun U hU hW => ⟨rfl, by rw [hU]; exact hP, hK.warm hW⟩⟩
theorem preSw {G : GT} {ws : va_W} {A : Nat → Prop} {As : List Value} (hP : PP G ws H) (hK : KK G s) (hD : va_D A ws) : PreS s H (va_Pc As (fun U => U.heap.size = H.size ∧ PP G ws U.heap ∧ KK G U ∧ va_D (fun _ => True) ws)) As :=
  ⟨fun a U g mk q => by obtain ⟨q0, q1, qP, qK, qD⟩ := q; exact ⟨q0, q1, qP, qK.call, qD⟩, fun U hU hW => ⟨rfl, by rw [hU], by rw [hU]; exact hP, hK.warm hW, hD.weaken (fun _ _ _ _ => trivial)⟩⟩
theorem preVw {G : GT} {ws : va_W} {A : Nat → Prop} {As : List Value} {C : String} {b : Nat} (hP : PP G ws H) (hK : KK G s) (hD : va_D A ws) (hr : ∃ cell : Cell, H[b]? = some cell ∧ cell.vm.isStatics = false ∧ s.vm.findClass C = some cell.cls) : PreV s H C b (va_Pc (.ref b :: As) (fun U => U.heap.size = H.size ∧ PP G ws U.heap ∧ KK G U ∧ va_D (fun _ => True) ws)) As :=
  ⟨fun a U g mk q => by obtain ⟨q0, q1, qP, qK, qD⟩ := q; exact ⟨q0, q1, qP, qK.call, qD⟩, hr, fun U hU hW => ⟨rfl, by rw [hU], by rw [hU]; exact hP, hK.warm hW, hD.weaken (fun _ _ _ _ => trivial)⟩⟩
theorem preSz {G : GT} {ws : va_W} {As : List Value} {A : Nat → Prop} (hP : PP G ws H) (hK : KK G s) (hZ : ZZ A s H) : PreS s H (va_Pc As (fun U => PP G ws U.heap ∧ KK G U ∧ ZZ A U U.heap)) As :=
  ⟨fun a U g mk q => by obtain ⟨q0, qP, qK, qZ⟩ := q; exact ⟨q0, qP, qK.call, qZ.call⟩, fun U hU hW => ⟨rfl, by rw [hU]; exact hP, hK.warm hW, by rw [hU]; exact hZ.moved hW.alike⟩⟩
theorem preVz {G : GT} {ws : va_W} {As : List Value} {A : Nat → Prop} {C : String} {b : Nat} (hP : PP G ws H) (hK : KK G s) (hZ : ZZ A s H) (hr : ∃ cell : Cell, H[b]? = some cell ∧ cell.vm.isStatics = false ∧ s.vm.findClass C = some cell.cls) : PreV s H C b (va_Pc (.ref b :: As) (fun U => PP G ws U.heap ∧ KK G U ∧ ZZ A U U.heap)) As :=
  ⟨fun a U g mk q => by obtain ⟨q0, qP, qK, qZ⟩ := q; exact ⟨q0, qP, qK.call, qZ.call⟩, hr, fun U hU hW => ⟨rfl, by rw [hU]; exact hP, hK.warm hW, by rw [hU]; exact hZ.moved hW.alike⟩⟩
theorem preSwz {G : GT} {ws : va_W} {A Z : Nat → Prop} {As : List Value} (hP : PP G ws H) (hK : KK G s) (hD : va_D A ws) (hZ : ZZ Z s H) : PreS s H (va_Pc As (fun U => U.heap.size = H.size ∧ PP G ws U.heap ∧ KK G U ∧ va_D (fun _ => True) ws ∧ ZZ Z U U.heap)) As :=
  ⟨fun a U g mk q => by obtain ⟨q0, q1, qP, qK, qD, qZ⟩ := q; exact ⟨q0, q1, qP, qK.call, qD, qZ.call⟩, fun U hU hW => ⟨rfl, by rw [hU], by rw [hU]; exact hP, hK.warm hW, hD.weaken (fun _ _ _ _ => trivial), by rw [hU]; exact hZ.moved hW.alike⟩⟩
theorem preVwz {G : GT} {ws : va_W} {A Z : Nat → Prop} {As : List Value} {C : String} {b : Nat} (hP : PP G ws H) (hK : KK G s) (hD : va_D A ws) (hZ : ZZ Z s H) (hr : ∃ cell : Cell, H[b]? = some cell ∧ cell.vm.isStatics = false ∧ s.vm.findClass C = some cell.cls) : PreV s H C b (va_Pc (.ref b :: As) (fun U => U.heap.size = H.size ∧ PP G ws U.heap ∧ KK G U ∧ va_D (fun _ => True) ws ∧ ZZ Z U U.heap)) As :=
  ⟨fun a U g mk q => by obtain ⟨q0, q1, qP, qK, qD, qZ⟩ := q; exact ⟨q0, q1, qP, qK.call, qD, qZ.call⟩, hr, fun U hU hW => ⟨rfl, by rw [hU], by rw [hU]; exact hP, hK.warm hW, hD.weaken (fun _ _ _ _ => trivial), by rw [hU]; exact hZ.moved hW.alike⟩⟩
end RD
theorem igX0 : ∀ w ∈ wsX00, w ∈ lwg := lwgI inX0 (by decide +kernel)
theorem igX1 : ∀ w ∈ wsX10, w ∈ lwg := lwgI inX1 (by decide +kernel)
theorem igX2 : ∀ w ∈ wsX20, w ∈ lwg := lwgI inX2 (by decide +kernel)
theorem igX3 : ∀ w ∈ wsX30, w ∈ lwg := lwgI inX3 (by decide +kernel)
theorem igX4 : ∀ w ∈ wsX40, w ∈ lwg := lwgI inX4 (by decide +kernel)
def vZ (r : Int32) : Prop := r = 0 ∨ r = 1
theorem vZn {r : Int32} (h : vZ r) : narrow .boolean (.int r) = .int r := by
  rcases h with rfl | rfl <;> rfl
theorem igJx4a65c : ∀ w ∈ wsJx4a65c0, w ∈ lwg := lwgI inJx4a65c (by decide +kernel)
theorem rfOr (r : Option Nat) : va_rf r = .null ∨ ∃ a, va_rf r = .ref a := by
  cases r with
  | none => exact Or.inl rfl
  | some a => exact Or.inr ⟨a, rfl⟩
theorem vpLt {i : Int32} {n : Nat} (h : vp_in i n) : i.toNatClampNeg < n := Nat.not_le.mp fun q => h (Or.inr q)
theorem famget6 {pre post : va_W} (f : Nat → Nat × va_E) {k : Nat} (hk : k < 6) : (pre ++ ([f 0, f 1, f 2, f 3, f 4, f 5] ++ post))[pre.length + k]? = some (f k) := by
  rw [List.getElem?_append_right (Nat.le_add_right _ _), Nat.add_sub_cancel_left]
  match k, hk with
  | 0, _ => rfl
  | 1, _ => rfl
  | 2, _ => rfl
  | 3, _ => rfl
  | 4, _ => rfl
  | 5, _ => rfl
theorem famget4 {pre post : va_W} (f : Nat → Nat × va_E) {k : Nat} (hk : k < 4) : (pre ++ ([f 0, f 1, f 2, f 3] ++ post))[pre.length + k]? = some (f k) := by
  rw [List.getElem?_append_right (Nat.le_add_right _ _), Nat.add_sub_cancel_left]
  match k, hk with
  | 0, _ => rfl
  | 1, _ => rfl
  | 2, _ => rfl
  | 3, _ => rfl
theorem famset6 {G : GT} {pre post : va_W} {dr : Nat → Nat} {D : Nat → Nat → Int32} {n : Nat} {k : Nat} (hk : k < 6) (g : Nat → Int32) :
    (pre ++ ([(dr 0, .inl (G.2 0, n, .inl (D 0))), (dr 1, .inl (G.2 0, n, .inl (D 1))), (dr 2, .inl (G.2 0, n, .inl (D 2))), (dr 3, .inl (G.2 0, n, .inl (D 3))), (dr 4, .inl (G.2 0, n, .inl (D 4))), (dr 5, .inl (G.2 0, n, .inl (D 5)))] ++ post) : va_W).set (pre.length + k) (dr k, .inl (G.2 0, n, .inl g))
    = pre ++ ([(dr 0, .inl (G.2 0, n, .inl (vf_upd D k g 0))), (dr 1, .inl (G.2 0, n, .inl (vf_upd D k g 1))), (dr 2, .inl (G.2 0, n, .inl (vf_upd D k g 2))), (dr 3, .inl (G.2 0, n, .inl (vf_upd D k g 3))), (dr 4, .inl (G.2 0, n, .inl (vf_upd D k g 4))), (dr 5, .inl (G.2 0, n, .inl (vf_upd D k g 5)))] ++ post) := by
  rw [List.set_append_right _ _ (Nat.le_add_right _ _), Nat.add_sub_cancel_left]
  congr 1
  match k, hk with
  | 0, _ => rfl
  | 1, _ => rfl
  | 2, _ => rfl
  | 3, _ => rfl
  | 4, _ => rfl
  | 5, _ => rfl
theorem famset4 {G : GT} {pre post : va_W} {dr : Nat → Nat} {D : Nat → Nat → Int32} {n : Nat} {k : Nat} (hk : k < 4) (g : Nat → Int32) :
    (pre ++ ([(dr 0, .inl (G.2 0, n, .inl (D 0))), (dr 1, .inl (G.2 0, n, .inl (D 1))), (dr 2, .inl (G.2 0, n, .inl (D 2))), (dr 3, .inl (G.2 0, n, .inl (D 3)))] ++ post) : va_W).set (pre.length + k) (dr k, .inl (G.2 0, n, .inl g))
    = pre ++ ([(dr 0, .inl (G.2 0, n, .inl (vf_upd D k g 0))), (dr 1, .inl (G.2 0, n, .inl (vf_upd D k g 1))), (dr 2, .inl (G.2 0, n, .inl (vf_upd D k g 2))), (dr 3, .inl (G.2 0, n, .inl (vf_upd D k g 3)))] ++ post) := by
  rw [List.set_append_right _ _ (Nat.le_add_right _ _), Nat.add_sub_cancel_left]
  congr 1
  match k, hk with
  | 0, _ => rfl
  | 1, _ => rfl
  | 2, _ => rfl
  | 3, _ => rfl
/-- ArrayList's shared empty array is the static's value t, of length 0 -/
def ZE (t : Nat) (A : Nat → Prop) (U : State) (H : Heap) : Prop := va_Z "java/util/ArrayList" "DEFAULTCAPACITY_EMPTY_ELEMENTDATA" "[Ljava/lang/Object;" (.ref t) A U H ∧ va_T (.object "java/lang/Object") t 0 (fun _ => .null) A U H
/-- a String a with its bytes d, n of them, f -/
def ST (a d n : Nat) (f : Nat → Int32) (A : Nat → Prop) (U : State) (H : Heap) : Prop := va_O "java/lang/String" a A U H ∧ va_OF "java/lang/String" "coder" "B" (.int 0) a A U H ∧ va_OF "java/lang/String" "value" "[B" (.ref d) a A U H ∧ va_T .byte d n (fun j => .int (f j)) A U H
theorem ST.moved {a d n : Nat} {f : Nat → Int32} {A : Nat → Prop} {u U : State} {H : Heap} (hvm : u.vm.Alike U.vm) (h : ST a d n f A u H) : ST a d n f A U H := ⟨va_O.moved hvm h.1, va_OF.moved hvm h.2.1, va_OF.moved hvm h.2.2.1, va_T.moved hvm h.2.2.2⟩
theorem ST.kept {a d n : Nat} {f : Nat → Int32} {A : Nat → Prop} {U : State} {H H1 : Heap} (h : ST a d n f A U H) (hq : ∀ a : Nat, a < H.size → ¬ A a → H1[a]? = H[a]?) : ST a d n f A U H1 := ⟨h.1.kept hq, h.2.1.kept hq, h.2.2.1.kept hq, h.2.2.2.kept hq⟩
theorem ST.narrow {a d n : Nat} {f : Nat → Int32} {A B : Nat → Prop} {U : State} {H : Heap} (h : ST a d n f A U H) (hAB : ∀ q, B q → A q) : ST a d n f B U H := ⟨h.1.narrow hAB, h.2.1.narrow hAB, h.2.2.1.narrow hAB, h.2.2.2.narrow hAB⟩
theorem ST.call {a d n : Nat} {f : Nat → Int32} {A : Nat → Prop} {u : State} {g : JFrame} {mk : MethodId} {as : Array Value} (h : ST a d n f A u u.heap) : ST a d n f A (u.calling g mk as) (u.calling g mk as).heap := ST.moved (u := u) (U := u.calling g mk as) (Vm.Alike.refl u.vm) h
def dTens (j : Nat) : Int32 := Int32.ofNat (48 + j / 10)
def dOnes (j : Nat) : Int32 := Int32.ofNat (48 + j % 10)
/-- the JDK's statics that texts and lists read, and the literals: outside of what may be written -/
def JJ (G : GT) (A : Nat → Prop) (U : State) (H : Heap) : Prop :=
  va_Z "java/lang/String" "COMPACT_STRINGS" "Z" (.int 1) A U H ∧ (∃ t, ZE t A U H) ∧
  (∃ t, va_Z "java/lang/Integer" "DigitTens" "[B" (.ref t) A U H ∧ va_T .byte t 100 (fun j => .int (dTens j)) A U H) ∧
  (∃ t, va_Z "java/lang/Integer" "DigitOnes" "[B" (.ref t) A U H ∧ va_T .byte t 100 (fun j => .int (dOnes j)) A U H) ∧
  (∃ r : Option Nat, va_Z "jdk/internal/util/Preconditions" "SIOOBE_FORMATTER" "Ljava/util/function/BiFunction;" (va_rf r) A U H) ∧
  ∀ i w, llit[i]? = some w → ∃ d, ST (G.2 (100 + i)) d w.2.2.2.length (fun j => w.2.2.2.getD j 0) A U H
theorem JJ.moved {G : GT} {A : Nat → Prop} {u U : State} {H : Heap} (hvm : u.vm.Alike U.vm) (h : JJ G A u H) : JJ G A U H := by
  obtain ⟨h1, ⟨t2, h2, g2⟩, ⟨t3, h3, g3⟩, ⟨t4, h4, g4⟩, ⟨r, h5⟩, h6⟩ := h
  exact ⟨h1.moved hvm, ⟨t2, h2.moved hvm, g2.moved hvm⟩, ⟨t3, h3.moved hvm, g3.moved hvm⟩, ⟨t4, h4.moved hvm, g4.moved hvm⟩, ⟨r, h5.moved hvm⟩, fun i w hw => (h6 i w hw).imp (fun _ h => h.moved hvm)⟩
theorem JJ.kept {G : GT} {A : Nat → Prop} {U : State} {H H1 : Heap} (h : JJ G A U H) (hq : ∀ a : Nat, a < H.size → ¬ A a → H1[a]? = H[a]?) : JJ G A U H1 := by
  obtain ⟨h1, ⟨t2, h2, g2⟩, ⟨t3, h3, g3⟩, ⟨t4, h4, g4⟩, ⟨r, h5⟩, h6⟩ := h
  exact ⟨h1.kept hq, ⟨t2, h2.kept hq, g2.kept hq⟩, ⟨t3, h3.kept hq, g3.kept hq⟩, ⟨t4, h4.kept hq, g4.kept hq⟩, ⟨r, h5.kept hq⟩, fun i w hw => (h6 i w hw).imp (fun _ h => h.kept hq)⟩
theorem JJ.narrow {G : GT} {A B : Nat → Prop} {U : State} {H : Heap} (h : JJ G A U H) (hAB : ∀ q, B q → A q) : JJ G B U H := by
  obtain ⟨h1, ⟨t2, h2, g2⟩, ⟨t3, h3, g3⟩, ⟨t4, h4, g4⟩, ⟨r, h5⟩, h6⟩ := h
  exact ⟨h1.narrow hAB, ⟨t2, h2.narrow hAB, g2.narrow hAB⟩, ⟨t3, h3.narrow hAB, g3.narrow hAB⟩, ⟨t4, h4.narrow hAB, g4.narrow hAB⟩, ⟨r, h5.narrow hAB⟩, fun i w hw => (h6 i w hw).imp (fun _ h => h.narrow hAB)⟩
theorem JJ.call {G : GT} {A : Nat → Prop} {u : State} {g : JFrame} {mk : MethodId} {as : Array Value} (h : JJ G A u u.heap) : JJ G A (u.calling g mk as) (u.calling g mk as).heap := JJ.moved (u := u) (U := u.calling g mk as) (Vm.Alike.refl u.vm) h
/-- the sentences of the model: the list at sl, its array at some ed, sn rows of four ints at sa 0 .., holding sq 0 ..; none of them may be written (A) -/
def SS (G : GT) (sl sn : Nat) (sa : Nat → Nat) (sq : Nat → Nat → Int32) (A : Nat → Prop) (U : State) (H : Heap) : Prop :=
  ∃ (ed : Nat) (mcn : Int32), (PP G [(sl, .inr (2, [.int mcn, .ref ed, .int (nI sn)]))] H ∧ ¬ A sl) ∧ (∀ k, k < sn → PP G [(sa k, .inl (G.2 0, 4, .inl (sq k)))] H ∧ ¬ A (sa k)) ∧ (sn = 0 → ZE ed A U H) ∧
    (0 < sn → ∃ (cap : Nat) (ef : Nat → Option Nat), (PP G [(ed, .inl (G.2 5, cap, .inr (.inr (.inr (.inr ef)))))] H ∧ ¬ A ed) ∧ (∀ k, k < sn → ef k = some (sa k)) ∧ sn ≤ cap ∧ cap < 2 ^ 31)
theorem keep1 {G : GT} {x : Nat × va_E} {A : Nat → Prop} {H H1 : Heap} (h : PP G [x] H ∧ ¬ A x.1) (hq : ∀ a : Nat, a < H.size → ¬ A a → H1[a]? = H[a]?) : PP G [x] H1 ∧ ¬ A x.1 := by
  refine ⟨va_P.kept h.1 (fun j q hj => ?_), h.2⟩
  refine hq _ (vx_lt h.1 hj) ?_
  match j, hj with
  | 0, hj => cases hj; exact h.2
theorem SS.kept {G : GT} {sl sn : Nat} {sa : Nat → Nat} {sq : Nat → Nat → Int32} {A : Nat → Prop} {U : State} {H H1 : Heap} (h : SS G sl sn sa sq A U H) (hq : ∀ a : Nat, a < H.size → ¬ A a → H1[a]? = H[a]?) : SS G sl sn sa sq A U H1 := by
  obtain ⟨ed, mcn, h1, h2, h3, h4⟩ := h
  refine ⟨ed, mcn, keep1 (x := (sl, _)) h1 hq, fun k hk => keep1 (x := (sa k, _)) (h2 k hk) hq, fun h0 => ⟨(h3 h0).1.kept hq, (h3 h0).2.kept hq⟩, fun h0 => ?_⟩
  obtain ⟨cap, ef, h5, h6⟩ := h4 h0
  exact ⟨cap, ef, keep1 (x := (ed, _)) h5 hq, h6⟩
theorem SS.narrow {G : GT} {sl sn : Nat} {sa : Nat → Nat} {sq : Nat → Nat → Int32} {A B : Nat → Prop} {U : State} {H : Heap} (h : SS G sl sn sa sq A U H) (hAB : ∀ q, B q → A q) : SS G sl sn sa sq B U H := by
  obtain ⟨ed, mcn, h1, h2, h3, h4⟩ := h
  refine ⟨ed, mcn, ⟨h1.1, fun q => h1.2 (hAB _ q)⟩, fun k hk => ⟨(h2 k hk).1, fun q => (h2 k hk).2 (hAB _ q)⟩, fun h0 => ⟨(h3 h0).1.narrow hAB, (h3 h0).2.narrow hAB⟩, fun h0 => ?_⟩
  obtain ⟨cap, ef, h5, h6⟩ := h4 h0
  exact ⟨cap, ef, ⟨h5.1, fun q => h5.2 (hAB _ q)⟩, h6⟩
theorem SS.moved {G : GT} {sl sn : Nat} {sa : Nat → Nat} {sq : Nat → Nat → Int32} {A : Nat → Prop} {u U : State} {H : Heap} (hvm : u.vm.Alike U.vm) (h : SS G sl sn sa sq A u H) : SS G sl sn sa sq A U H := by
  obtain ⟨ed, mcn, h1, h2, h3, h4⟩ := h
  exact ⟨ed, mcn, h1, h2, fun h0 => ⟨(h3 h0).1.moved hvm, (h3 h0).2.moved hvm⟩, h4⟩
theorem SS.call {G : GT} {sl sn : Nat} {sa : Nat → Nat} {sq : Nat → Nat → Int32} {A : Nat → Prop} {u : State} {g : JFrame} {mk : MethodId} {a : Array Value} (h : SS G sl sn sa sq A u u.heap) : SS G sl sn sa sq A (u.calling g mk a) (u.calling g mk a).heap := SS.moved (u := u) (U := u.calling g mk a) (Vm.Alike.refl u.vm) h
theorem SS.row {G : GT} {sl sn : Nat} {sa : Nat → Nat} {sq : Nat → Nat → Int32} {A : Nat → Prop} {U : State} {H H1 : Heap} (h : SS G sl sn sa sq A U H) {k : Nat} (hk : k < sn) (hq : ∀ a : Nat, a < H.size → ¬ A a → H1[a]? = H[a]?) : PP G [(sa k, .inl (G.2 0, 4, .inl (sq k)))] H1 := by
  obtain ⟨ed, mcn, h1, h2, h3⟩ := h.kept hq
  exact (h2 k hk).1
section RE
variable {p : Program} {l : Launch} {e : Env} {R : Room} {s : State} {m : MethodId} {args : Array Value} {below : List Frame} {meth : Method} {c : Code} {H : Heap} {locs : List Loc} {cells slots : Nat} {Q : State → Prop} {pc : Nat} {ls : Array Slot} {rest st0 : List Value} {a : Array Value}
theorem rdQ {post : Option Nat → Prop} (hr : va_Run p l e R s m args below meth c H locs cells slots 0 0 (F0 m pc ls st0) rest (va_Sq post a) (fun _ => False)) (kk : ∀ r : Option Nat, post r → W p l e R s m args below meth c H locs cells slots Q (F0 m (pc + 3) ls (va_rf r :: rest))) : W p l e R s m args below meth c H locs cells slots Q (F0 m pc ls st0) := va_csq (rdRun hr) kk
theorem va_aldA {cc : ByteArray} {G : GT} {ws : va_W} {aa b : Nat} (hexec : p.tables.exec = Jvm.exec) (hb : c.code = cc) (hK : va_K G.1 vwCl (TY G) s) (hP : PP G ws H) (q0 t0 : Nat) {cA : ClassId} {n : Nat} {f : Nat → Option Nat} (ha : ws[q0]? = some (aa, .inl (cA, n, .inr (.inr (.inr (.inr f)))))) (ht : (TY G)[t0]? = some (cA, .array .int)) {i : Int32} (hin : vp_in i n) (hf : f i.toNatClampNeg = some b) (hdg : decode cc pc = .ok (.aaload, 1))
    (kk : W p l e R s m args below meth c H locs cells slots Q (F0 m (pc + 1) ls (.ref b :: rest))) : W p l e R s m args below meth c H locs cells slots Q (F0 m pc ls (.int i :: .ref aa :: rest)) := by
  have hlt : i.toNatClampNeg < n := vpLt hin
  exact W.aald (v := .ref b) (ty := .array .int) hexec hb (hP q0 _ ha) ((hK.2 t0 _ ht).1 n (fun j => va_rf (f j))) rfl (fun q => by cases q) (by show ¬ (i < 0 ∨ (arrV _ _ _).slots.size ≤ _); rw [arrV_size]; exact hin) (by show (arrV _ _ _).slots[_]? = _; rw [arrV_read _ _ hlt, hf]; rfl) rfl rfl hdg kk
theorem preSs {G : GT} {ws : va_W} {As : List Value} {A : Nat → Prop} {sl sn : Nat} {sa : Nat → Nat} {sq : Nat → Nat → Int32} (hP : PP G ws H) (hK : KK G s) (hZ : SS G sl sn sa sq A s H) : PreS s H (va_Pc As (fun U => PP G ws U.heap ∧ KK G U ∧ SS G sl sn sa sq A U U.heap)) As :=
  ⟨fun a U g mk q => by obtain ⟨q0, qP, qK, qZ⟩ := q; exact ⟨q0, qP, qK.call, qZ.call⟩, fun U hU hW => ⟨rfl, by rw [hU]; exact hP, hK.warm hW, by rw [hU]; exact hZ.moved hW.alike⟩⟩
theorem preVs {G : GT} {ws : va_W} {As : List Value} {A : Nat → Prop} {C : String} {b : Nat} {sl sn : Nat} {sa : Nat → Nat} {sq : Nat → Nat → Int32} (hP : PP G ws H) (hK : KK G s) (hZ : SS G sl sn sa sq A s H) (hr : ∃ cell : Cell, H[b]? = some cell ∧ cell.vm.isStatics = false ∧ s.vm.findClass C = some cell.cls) : PreV s H C b (va_Pc (.ref b :: As) (fun U => PP G ws U.heap ∧ KK G U ∧ SS G sl sn sa sq A U U.heap)) As :=
  ⟨fun a U g mk q => by obtain ⟨q0, qP, qK, qZ⟩ := q; exact ⟨q0, qP, qK.call, qZ.call⟩, hr, fun U hU hW => ⟨rfl, by rw [hU]; exact hP, hK.warm hW, by rw [hU]; exact hZ.moved hW.alike⟩⟩
theorem preSws {G : GT} {ws : va_W} {A Z : Nat → Prop} {As : List Value} {sl sn : Nat} {sa : Nat → Nat} {sq : Nat → Nat → Int32} (hP : PP G ws H) (hK : KK G s) (hD : va_D A ws) (hZ : SS G sl sn sa sq Z s H) : PreS s H (va_Pc As (fun U => U.heap.size = H.size ∧ PP G ws U.heap ∧ KK G U ∧ va_D (fun _ => True) ws ∧ SS G sl sn sa sq Z U U.heap)) As :=
  ⟨fun a U g mk q => by obtain ⟨q0, q1, qP, qK, qD, qZ⟩ := q; exact ⟨q0, q1, qP, qK.call, qD, qZ.call⟩, fun U hU hW => ⟨rfl, by rw [hU], by rw [hU]; exact hP, hK.warm hW, hD.weaken (fun _ _ _ _ => trivial), by rw [hU]; exact hZ.moved hW.alike⟩⟩
theorem preVws {G : GT} {ws : va_W} {A Z : Nat → Prop} {As : List Value} {C : String} {b : Nat} {sl sn : Nat} {sa : Nat → Nat} {sq : Nat → Nat → Int32} (hP : PP G ws H) (hK : KK G s) (hD : va_D A ws) (hZ : SS G sl sn sa sq Z s H) (hr : ∃ cell : Cell, H[b]? = some cell ∧ cell.vm.isStatics = false ∧ s.vm.findClass C = some cell.cls) : PreV s H C b (va_Pc (.ref b :: As) (fun U => U.heap.size = H.size ∧ PP G ws U.heap ∧ KK G U ∧ va_D (fun _ => True) ws ∧ SS G sl sn sa sq Z U U.heap)) As :=
  ⟨fun a U g mk q => by obtain ⟨q0, q1, qP, qK, qD, qZ⟩ := q; exact ⟨q0, q1, qP, qK.call, qD, qZ.call⟩, hr, fun U hU hW => ⟨rfl, by rw [hU], by rw [hU]; exact hP, hK.warm hW, hD.weaken (fun _ _ _ _ => trivial), by rw [hU]; exact hZ.moved hW.alike⟩⟩
theorem preSj {G : GT} {ws : va_W} {As : List Value} {A : Nat → Prop} (hP : PP G ws H) (hK : KK G s) (hJ : JJ G A s H) : PreS s H (va_Pc As (fun U => PP G ws U.heap ∧ KK G U ∧ JJ G A U U.heap)) As :=
  ⟨fun a U g mk q => by obtain ⟨e0, qP, qK, q0⟩ := q; exact ⟨e0, qP, qK.call, q0.call⟩, fun U hU hW => ⟨rfl, by rw [hU]; exact hP, hK.warm hW, by rw [hU]; exact hJ.moved hW.alike⟩⟩
theorem preSwj {G : GT} {ws : va_W} {As : List Value} {A Z : Nat → Prop} (hP : PP G ws H) (hK : KK G s) (hD : va_D A ws) (hJ : JJ G Z s H) : PreS s H (va_Pc As (fun U => U.heap.size = H.size ∧ PP G ws U.heap ∧ KK G U ∧ va_D (fun _ => True) ws ∧ JJ G Z U U.heap)) As :=
  ⟨fun a U g mk q => by obtain ⟨e0, e1, qP, qK, qD, q0⟩ := q; exact ⟨e0, e1, qP, qK.call, qD, q0.call⟩, fun U hU hW => ⟨rfl, by rw [hU], by rw [hU]; exact hP, hK.warm hW, hD.weaken (fun _ _ _ _ => trivial), by rw [hU]; exact hJ.moved hW.alike⟩⟩
theorem preVj {G : GT} {ws : va_W} {As : List Value} {A : Nat → Prop} {C : String} {b : Nat} (hP : PP G ws H) (hK : KK G s) (hJ : JJ G A s H) (hr : ∃ cell : Cell, H[b]? = some cell ∧ cell.vm.isStatics = false ∧ s.vm.findClass C = some cell.cls) : PreV s H C b (va_Pc (.ref b :: As) (fun U => PP G ws U.heap ∧ KK G U ∧ JJ G A U U.heap)) As :=
  ⟨fun a U g mk q => by obtain ⟨e0, qP, qK, q0⟩ := q; exact ⟨e0, qP, qK.call, q0.call⟩, hr, fun U hU hW => ⟨rfl, by rw [hU]; exact hP, hK.warm hW, by rw [hU]; exact hJ.moved hW.alike⟩⟩
theorem preVwj {G : GT} {ws : va_W} {As : List Value} {A Z : Nat → Prop} {C : String} {b : Nat} (hP : PP G ws H) (hK : KK G s) (hD : va_D A ws) (hJ : JJ G Z s H) (hr : ∃ cell : Cell, H[b]? = some cell ∧ cell.vm.isStatics = false ∧ s.vm.findClass C = some cell.cls) : PreV s H C b (va_Pc (.ref b :: As) (fun U => U.heap.size = H.size ∧ PP G ws U.heap ∧ KK G U ∧ va_D (fun _ => True) ws ∧ JJ G Z U U.heap)) As :=
  ⟨fun a U g mk q => by obtain ⟨e0, e1, qP, qK, qD, q0⟩ := q; exact ⟨e0, e1, qP, qK.call, qD, q0.call⟩, hr, fun U hU hW => ⟨rfl, by rw [hU], by rw [hU]; exact hP, hK.warm hW, hD.weaken (fun _ _ _ _ => trivial), by rw [hU]; exact hJ.moved hW.alike⟩⟩
theorem preSzj {G : GT} {ws : va_W} {As : List Value} {A : Nat → Prop} (hP : PP G ws H) (hK : KK G s) (hZ : ZZ A s H) (hJ : JJ G A s H) : PreS s H (va_Pc As (fun U => PP G ws U.heap ∧ KK G U ∧ ZZ A U U.heap ∧ JJ G A U U.heap)) As :=
  ⟨fun a U g mk q => by obtain ⟨e0, qP, qK, q0, q1⟩ := q; exact ⟨e0, qP, qK.call, q0.call, q1.call⟩, fun U hU hW => ⟨rfl, by rw [hU]; exact hP, hK.warm hW, by rw [hU]; exact hZ.moved hW.alike, by rw [hU]; exact hJ.moved hW.alike⟩⟩
theorem preSwzj {G : GT} {ws : va_W} {As : List Value} {A Z : Nat → Prop} (hP : PP G ws H) (hK : KK G s) (hD : va_D A ws) (hZ : ZZ Z s H) (hJ : JJ G Z s H) : PreS s H (va_Pc As (fun U => U.heap.size = H.size ∧ PP G ws U.heap ∧ KK G U ∧ va_D (fun _ => True) ws ∧ ZZ Z U U.heap ∧ JJ G Z U U.heap)) As :=
  ⟨fun a U g mk q => by obtain ⟨e0, e1, qP, qK, qD, q0, q1⟩ := q; exact ⟨e0, e1, qP, qK.call, qD, q0.call, q1.call⟩, fun U hU hW => ⟨rfl, by rw [hU], by rw [hU]; exact hP, hK.warm hW, hD.weaken (fun _ _ _ _ => trivial), by rw [hU]; exact hZ.moved hW.alike, by rw [hU]; exact hJ.moved hW.alike⟩⟩
theorem preVzj {G : GT} {ws : va_W} {As : List Value} {A : Nat → Prop} {C : String} {b : Nat} (hP : PP G ws H) (hK : KK G s) (hZ : ZZ A s H) (hJ : JJ G A s H) (hr : ∃ cell : Cell, H[b]? = some cell ∧ cell.vm.isStatics = false ∧ s.vm.findClass C = some cell.cls) : PreV s H C b (va_Pc (.ref b :: As) (fun U => PP G ws U.heap ∧ KK G U ∧ ZZ A U U.heap ∧ JJ G A U U.heap)) As :=
  ⟨fun a U g mk q => by obtain ⟨e0, qP, qK, q0, q1⟩ := q; exact ⟨e0, qP, qK.call, q0.call, q1.call⟩, hr, fun U hU hW => ⟨rfl, by rw [hU]; exact hP, hK.warm hW, by rw [hU]; exact hZ.moved hW.alike, by rw [hU]; exact hJ.moved hW.alike⟩⟩
theorem preVwzj {G : GT} {ws : va_W} {As : List Value} {A Z : Nat → Prop} {C : String} {b : Nat} (hP : PP G ws H) (hK : KK G s) (hD : va_D A ws) (hZ : ZZ Z s H) (hJ : JJ G Z s H) (hr : ∃ cell : Cell, H[b]? = some cell ∧ cell.vm.isStatics = false ∧ s.vm.findClass C = some cell.cls) : PreV s H C b (va_Pc (.ref b :: As) (fun U => U.heap.size = H.size ∧ PP G ws U.heap ∧ KK G U ∧ va_D (fun _ => True) ws ∧ ZZ Z U U.heap ∧ JJ G Z U U.heap)) As :=
  ⟨fun a U g mk q => by obtain ⟨e0, e1, qP, qK, qD, q0, q1⟩ := q; exact ⟨e0, e1, qP, qK.call, qD, q0.call, q1.call⟩, hr, fun U hU hW => ⟨rfl, by rw [hU], by rw [hU]; exact hP, hK.warm hW, hD.weaken (fun _ _ _ _ => trivial), by rw [hU]; exact hZ.moved hW.alike, by rw [hU]; exact hJ.moved hW.alike⟩⟩
theorem preSsj {G : GT} {ws : va_W} {As : List Value} {A : Nat → Prop} {sl sn : Nat} {sa : Nat → Nat} {sq : Nat → Nat → Int32} (hP : PP G ws H) (hK : KK G s) (hS : SS G sl sn sa sq A s H) (hJ : JJ G A s H) : PreS s H (va_Pc As (fun U => PP G ws U.heap ∧ KK G U ∧ SS G sl sn sa sq A U U.heap ∧ JJ G A U U.heap)) As :=
  ⟨fun a U g mk q => by obtain ⟨e0, qP, qK, q0, q1⟩ := q; exact ⟨e0, qP, qK.call, q0.call, q1.call⟩, fun U hU hW => ⟨rfl, by rw [hU]; exact hP, hK.warm hW, by rw [hU]; exact hS.moved hW.alike, by rw [hU]; exact hJ.moved hW.alike⟩⟩
theorem preSwsj {G : GT} {ws : va_W} {As : List Value} {A Z : Nat → Prop} {sl sn : Nat} {sa : Nat → Nat} {sq : Nat → Nat → Int32} (hP : PP G ws H) (hK : KK G s) (hD : va_D A ws) (hS : SS G sl sn sa sq Z s H) (hJ : JJ G Z s H) : PreS s H (va_Pc As (fun U => U.heap.size = H.size ∧ PP G ws U.heap ∧ KK G U ∧ va_D (fun _ => True) ws ∧ SS G sl sn sa sq Z U U.heap ∧ JJ G Z U U.heap)) As :=
  ⟨fun a U g mk q => by obtain ⟨e0, e1, qP, qK, qD, q0, q1⟩ := q; exact ⟨e0, e1, qP, qK.call, qD, q0.call, q1.call⟩, fun U hU hW => ⟨rfl, by rw [hU], by rw [hU]; exact hP, hK.warm hW, hD.weaken (fun _ _ _ _ => trivial), by rw [hU]; exact hS.moved hW.alike, by rw [hU]; exact hJ.moved hW.alike⟩⟩
theorem preVsj {G : GT} {ws : va_W} {As : List Value} {A : Nat → Prop} {C : String} {b : Nat} {sl sn : Nat} {sa : Nat → Nat} {sq : Nat → Nat → Int32} (hP : PP G ws H) (hK : KK G s) (hS : SS G sl sn sa sq A s H) (hJ : JJ G A s H) (hr : ∃ cell : Cell, H[b]? = some cell ∧ cell.vm.isStatics = false ∧ s.vm.findClass C = some cell.cls) : PreV s H C b (va_Pc (.ref b :: As) (fun U => PP G ws U.heap ∧ KK G U ∧ SS G sl sn sa sq A U U.heap ∧ JJ G A U U.heap)) As :=
  ⟨fun a U g mk q => by obtain ⟨e0, qP, qK, q0, q1⟩ := q; exact ⟨e0, qP, qK.call, q0.call, q1.call⟩, hr, fun U hU hW => ⟨rfl, by rw [hU]; exact hP, hK.warm hW, by rw [hU]; exact hS.moved hW.alike, by rw [hU]; exact hJ.moved hW.alike⟩⟩
theorem preVwsj {G : GT} {ws : va_W} {As : List Value} {A Z : Nat → Prop} {C : String} {b : Nat} {sl sn : Nat} {sa : Nat → Nat} {sq : Nat → Nat → Int32} (hP : PP G ws H) (hK : KK G s) (hD : va_D A ws) (hS : SS G sl sn sa sq Z s H) (hJ : JJ G Z s H) (hr : ∃ cell : Cell, H[b]? = some cell ∧ cell.vm.isStatics = false ∧ s.vm.findClass C = some cell.cls) : PreV s H C b (va_Pc (.ref b :: As) (fun U => U.heap.size = H.size ∧ PP G ws U.heap ∧ KK G U ∧ va_D (fun _ => True) ws ∧ SS G sl sn sa sq Z U U.heap ∧ JJ G Z U U.heap)) As :=
  ⟨fun a U g mk q => by obtain ⟨e0, e1, qP, qK, qD, q0, q1⟩ := q; exact ⟨e0, e1, qP, qK.call, qD, q0.call, q1.call⟩, hr, fun U hU hW => ⟨rfl, by rw [hU], by rw [hU]; exact hP, hK.warm hW, hD.weaken (fun _ _ _ _ => trivial), by rw [hU]; exact hS.moved hW.alike, by rw [hU]; exact hJ.moved hW.alike⟩⟩
theorem preSjt {G : GT} {ws : va_W} {As : List Value} {A : Nat → Prop} {ta td tn : Nat} {tf : Nat → Int32} (hP : PP G ws H) (hK : KK G s) (hJ : JJ G A s H) (hT : ST ta td tn tf A s H) : PreS s H (va_Pc As (fun U => PP G ws U.heap ∧ KK G U ∧ JJ G A U U.heap ∧ ST ta td tn tf A U U.heap)) As :=
  ⟨fun a U g mk q => by obtain ⟨e0, qP, qK, q0, q1⟩ := q; exact ⟨e0, qP, qK.call, q0.call, q1.call⟩, fun U hU hW => ⟨rfl, by rw [hU]; exact hP, hK.warm hW, by rw [hU]; exact hJ.moved hW.alike, by rw [hU]; exact hT.moved hW.alike⟩⟩
theorem preSwjt {G : GT} {ws : va_W} {As : List Value} {A Z : Nat → Prop} {ta td tn : Nat} {tf : Nat → Int32} (hP : PP G ws H) (hK : KK G s) (hD : va_D A ws) (hJ : JJ G Z s H) (hT : ST ta td tn tf Z s H) : PreS s H (va_Pc As (fun U => U.heap.size = H.size ∧ PP G ws U.heap ∧ KK G U ∧ va_D (fun _ => True) ws ∧ JJ G Z U U.heap ∧ ST ta td tn tf Z U U.heap)) As :=
  ⟨fun a U g mk q => by obtain ⟨e0, e1, qP, qK, qD, q0, q1⟩ := q; exact ⟨e0, e1, qP, qK.call, qD, q0.call, q1.call⟩, fun U hU hW => ⟨rfl, by rw [hU], by rw [hU]; exact hP, hK.warm hW, hD.weaken (fun _ _ _ _ => trivial), by rw [hU]; exact hJ.moved hW.alike, by rw [hU]; exact hT.moved hW.alike⟩⟩
theorem preVjt {G : GT} {ws : va_W} {As : List Value} {A : Nat → Prop} {C : String} {b : Nat} {ta td tn : Nat} {tf : Nat → Int32} (hP : PP G ws H) (hK : KK G s) (hJ : JJ G A s H) (hT : ST ta td tn tf A s H) (hr : ∃ cell : Cell, H[b]? = some cell ∧ cell.vm.isStatics = false ∧ s.vm.findClass C = some cell.cls) : PreV s H C b (va_Pc (.ref b :: As) (fun U => PP G ws U.heap ∧ KK G U ∧ JJ G A U U.heap ∧ ST ta td tn tf A U U.heap)) As :=
  ⟨fun a U g mk q => by obtain ⟨e0, qP, qK, q0, q1⟩ := q; exact ⟨e0, qP, qK.call, q0.call, q1.call⟩, hr, fun U hU hW => ⟨rfl, by rw [hU]; exact hP, hK.warm hW, by rw [hU]; exact hJ.moved hW.alike, by rw [hU]; exact hT.moved hW.alike⟩⟩
theorem preVwjt {G : GT} {ws : va_W} {As : List Value} {A Z : Nat → Prop} {C : String} {b : Nat} {ta td tn : Nat} {tf : Nat → Int32} (hP : PP G ws H) (hK : KK G s) (hD : va_D A ws) (hJ : JJ G Z s H) (hT : ST ta td tn tf Z s H) (hr : ∃ cell : Cell, H[b]? = some cell ∧ cell.vm.isStatics = false ∧ s.vm.findClass C = some cell.cls) : PreV s H C b (va_Pc (.ref b :: As) (fun U => U.heap.size = H.size ∧ PP G ws U.heap ∧ KK G U ∧ va_D (fun _ => True) ws ∧ JJ G Z U U.heap ∧ ST ta td tn tf Z U U.heap)) As :=
  ⟨fun a U g mk q => by obtain ⟨e0, e1, qP, qK, qD, q0, q1⟩ := q; exact ⟨e0, e1, qP, qK.call, qD, q0.call, q1.call⟩, hr, fun U hU hW => ⟨rfl, by rw [hU], by rw [hU]; exact hP, hK.warm hW, hD.weaken (fun _ _ _ _ => trivial), by rw [hU]; exact hJ.moved hW.alike, by rw [hU]; exact hT.moved hW.alike⟩⟩
theorem preSzsj {G : GT} {ws : va_W} {As : List Value} {A : Nat → Prop} {sl sn : Nat} {sa : Nat → Nat} {sq : Nat → Nat → Int32} (hP : PP G ws H) (hK : KK G s) (hZ : ZZ A s H) (hS : SS G sl sn sa sq A s H) (hJ : JJ G A s H) : PreS s H (va_Pc As (fun U => PP G ws U.heap ∧ KK G U ∧ ZZ A U U.heap ∧ SS G sl sn sa sq A U U.heap ∧ JJ G A U U.heap)) As :=
  ⟨fun a U g mk q => by obtain ⟨e0, qP, qK, q0, q1, q2⟩ := q; exact ⟨e0, qP, qK.call, q0.call, q1.call, q2.call⟩, fun U hU hW => ⟨rfl, by rw [hU]; exact hP, hK.warm hW, by rw [hU]; exact hZ.moved hW.alike, by rw [hU]; exact hS.moved hW.alike, by rw [hU]; exact hJ.moved hW.alike⟩⟩
theorem preSwzsj {G : GT} {ws : va_W} {As : List Value} {A Z : Nat → Prop} {sl sn : Nat} {sa : Nat → Nat} {sq : Nat → Nat → Int32} (hP : PP G ws H) (hK : KK G s) (hD : va_D A ws) (hZ : ZZ Z s H) (hS : SS G sl sn sa sq Z s H) (hJ : JJ G Z s H) : PreS s H (va_Pc As (fun U => U.heap.size = H.size ∧ PP G ws U.heap ∧ KK G U ∧ va_D (fun _ => True) ws ∧ ZZ Z U U.heap ∧ SS G sl sn sa sq Z U U.heap ∧ JJ G Z U U.heap)) As :=
  ⟨fun a U g mk q => by obtain ⟨e0, e1, qP, qK, qD, q0, q1, q2⟩ := q; exact ⟨e0, e1, qP, qK.call, qD, q0.call, q1.call, q2.call⟩, fun U hU hW => ⟨rfl, by rw [hU], by rw [hU]; exact hP, hK.warm hW, hD.weaken (fun _ _ _ _ => trivial), by rw [hU]; exact hZ.moved hW.alike, by rw [hU]; exact hS.moved hW.alike, by rw [hU]; exact hJ.moved hW.alike⟩⟩
theorem preVzsj {G : GT} {ws : va_W} {As : List Value} {A : Nat → Prop} {C : String} {b : Nat} {sl sn : Nat} {sa : Nat → Nat} {sq : Nat → Nat → Int32} (hP : PP G ws H) (hK : KK G s) (hZ : ZZ A s H) (hS : SS G sl sn sa sq A s H) (hJ : JJ G A s H) (hr : ∃ cell : Cell, H[b]? = some cell ∧ cell.vm.isStatics = false ∧ s.vm.findClass C = some cell.cls) : PreV s H C b (va_Pc (.ref b :: As) (fun U => PP G ws U.heap ∧ KK G U ∧ ZZ A U U.heap ∧ SS G sl sn sa sq A U U.heap ∧ JJ G A U U.heap)) As :=
  ⟨fun a U g mk q => by obtain ⟨e0, qP, qK, q0, q1, q2⟩ := q; exact ⟨e0, qP, qK.call, q0.call, q1.call, q2.call⟩, hr, fun U hU hW => ⟨rfl, by rw [hU]; exact hP, hK.warm hW, by rw [hU]; exact hZ.moved hW.alike, by rw [hU]; exact hS.moved hW.alike, by rw [hU]; exact hJ.moved hW.alike⟩⟩
theorem preVwzsj {G : GT} {ws : va_W} {As : List Value} {A Z : Nat → Prop} {C : String} {b : Nat} {sl sn : Nat} {sa : Nat → Nat} {sq : Nat → Nat → Int32} (hP : PP G ws H) (hK : KK G s) (hD : va_D A ws) (hZ : ZZ Z s H) (hS : SS G sl sn sa sq Z s H) (hJ : JJ G Z s H) (hr : ∃ cell : Cell, H[b]? = some cell ∧ cell.vm.isStatics = false ∧ s.vm.findClass C = some cell.cls) : PreV s H C b (va_Pc (.ref b :: As) (fun U => U.heap.size = H.size ∧ PP G ws U.heap ∧ KK G U ∧ va_D (fun _ => True) ws ∧ ZZ Z U U.heap ∧ SS G sl sn sa sq Z U U.heap ∧ JJ G Z U U.heap)) As :=
  ⟨fun a U g mk q => by obtain ⟨e0, e1, qP, qK, qD, q0, q1, q2⟩ := q; exact ⟨e0, e1, qP, qK.call, qD, q0.call, q1.call, q2.call⟩, hr, fun U hU hW => ⟨rfl, by rw [hU], by rw [hU]; exact hP, hK.warm hW, hD.weaken (fun _ _ _ _ => trivial), by rw [hU]; exact hZ.moved hW.alike, by rw [hU]; exact hS.moved hW.alike, by rw [hU]; exact hJ.moved hW.alike⟩⟩
end RE
