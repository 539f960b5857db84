theorem q1162 : (Cond.methodLink RX4 150 Lib.Math.max.name) ∈ lwg := lwgR 1162 (by decide +kernel) (by decide +kernel)
theorem q1164 : (Cond.methodLink RX4 156 ⟨"java/util/List","add","(Ljava/lang/Object;)Z"⟩) ∈ lwg := lwgR 1164 (by decide +kernel) (by decide +kernel)
theorem q1167 : (Cond.selects RJx4a65c xAdd yJx4a65c_add_9ea2d) ∈ lwg := lwgR 1167 (by decide +kernel) (by decide +kernel)
theorem q1169 : (Cond.instanceMethod yJx4a65c_add_9ea2d) ∈ lwg := lwgR 1169 (by decide +kernel) (by decide +kernel)
theorem q1171 : (Cond.code yJx4a65c_add_9ea2d cJx4a65c_add_9ea2d 2 (some .boolean)) ∈ lwg := lwgR 1171 (by decide +kernel) (by decide +kernel)
theorem q1172 : (Cond.methodLink RJx4a65c 131 yJx4a65c_add_72be8) ∈ lwg := lwgR 1172 (by decide +kernel) (by decide +kernel)
theorem q1174 : (Cond.instanceMethod yJx4a65c_add_72be8) ∈ lwg := lwgR 1174 (by decide +kernel) (by decide +kernel)
theorem q1175 : (Cond.code yJx4a65c_add_72be8 cJx4a65c_add_72be8 4 none) ∈ lwg := lwgR 1175 (by decide +kernel) (by decide +kernel)
theorem q1176 : (Cond.methodLink RJx4a65c 129 yJx4a65c_grow_d5877) ∈ lwg := lwgR 1176 (by decide +kernel) (by decide +kernel)
theorem q1178 : (Cond.instanceMethod yJx4a65c_grow_d5877) ∈ lwg := lwgR 1178 (by decide +kernel) (by decide +kernel)
theorem q1179 : (Cond.code yJx4a65c_grow_d5877 cJx4a65c_grow_d5877 1 (some (.array (.object "java/lang/Object")))) ∈ lwg := lwgR 1179 (by decide +kernel) (by decide +kernel)
theorem q1180 : (Cond.methodLink RJx4a65c 69 yJx4a65c_grow_92f84) ∈ lwg := lwgR 1180 (by decide +kernel) (by decide +kernel)
theorem q1182 : (Cond.instanceMethod yJx4a65c_grow_92f84) ∈ lwg := lwgR 1182 (by decide +kernel) (by decide +kernel)
theorem q1183 : (Cond.code yJx4a65c_grow_92f84 cJx4a65c_grow_92f84 4 (some (.array (.object "java/lang/Object")))) ∈ lwg := lwgR 1183 (by decide +kernel) (by decide +kernel)
theorem q1184 : (Cond.methodLink RJx4a65c 73 yJ8_newLength_cabcc) ∈ lwg := lwgR 1184 (by decide +kernel) (by decide +kernel)
theorem q1185 : (Cond.methodLink RJx4a65c 66 yJ7_copyOf_1904c) ∈ lwg := lwgR 1185 (by decide +kernel) (by decide +kernel)
theorem q1186 : (Cond.static yJ7_copyOf_1904c) ∈ lwg := lwgR 1186 (by decide +kernel) (by decide +kernel)
theorem q1187 : (Cond.code yJ7_copyOf_1904c cJ7_copyOf_1904c 2 (some (.array (.object "java/lang/Object")))) ∈ lwg := lwgR 1187 (by decide +kernel) (by decide +kernel)
theorem q1188 : (Cond.methodLink RJ7 86 ⟨"java/lang/Object","getClass","()Ljava/lang/Class;"⟩) ∈ lwg := lwgR 1188 (by decide +kernel) (by decide +kernel)
theorem q1189 : (Cond.instanceMethod ⟨"java/lang/Object","getClass","()Ljava/lang/Class;"⟩) ∈ lwg := lwgR 1189 (by decide +kernel) (by decide +kernel)
theorem q1202 : (Cond.native ⟨"java/lang/Object","getClass","()Ljava/lang/Class;"⟩) ∈ lwg := lwgR 1202 (by decide +kernel) (by decide +kernel)
theorem q1203 : (Cond.methodLink RJ7 300 yJ7_copyOf_6403c) ∈ lwg := lwgR 1203 (by decide +kernel) (by decide +kernel)
theorem q1204 : (Cond.static yJ7_copyOf_6403c) ∈ lwg := lwgR 1204 (by decide +kernel) (by decide +kernel)
theorem q1205 : (Cond.code yJ7_copyOf_6403c cJ7_copyOf_6403c 4 (some (.array (.object "java/lang/Object")))) ∈ lwg := lwgR 1205 (by decide +kernel) (by decide +kernel)
theorem q1206 : (Cond.classLink RJ7 110 "[Ljava/lang/Object;") ∈ lwg := lwgR 1206 (by decide +kernel) (by decide +kernel)
theorem q1208 : (Cond.classLink RJ7 2 "java/lang/Object") ∈ lwg := lwgR 1208 (by decide +kernel) (by decide +kernel)
theorem q1209 : (Cond.methodLink RJx4a65c 79 Lib.Math.max.name) ∈ lwg := lwgR 1209 (by decide +kernel) (by decide +kernel)
theorem q1210 : (Cond.classLink RJx4a65c 7 "java/lang/Object") ∈ lwg := lwgR 1210 (by decide +kernel) (by decide +kernel)
theorem q1465 : (Cond.selects "[Ljava/lang/Object;" ⟨"java/lang/Object","getClass","()Ljava/lang/Class;"⟩ ⟨"java/lang/Object","getClass","()Ljava/lang/Class;"⟩) ∈ lwg := lwgR 1465 (by decide +kernel) (by decide +kernel)
theorem q991 : (Cond.fieldLink RJx4a65c 39 "java/util/ArrayList" "DEFAULTCAPACITY_EMPTY_ELEMENTDATA" "[Ljava/lang/Object;") ∈ lwg := lwgR 991 (by decide +kernel) (by decide +kernel)
theorem q996 : (Cond.fieldLink RJx4a65c 63 "java/util/ArrayList" "modCount" "I") ∈ lwg := lwgR 996 (by decide +kernel) (by decide +kernel)
theorem q997 : (Cond.sameField "java/util/ArrayList" "java/util/AbstractList" "modCount" "I") ∈ lwg := lwgR 997 (by decide +kernel) (by decide +kernel)
theorem n1466 : (Cond.declares ⟨"java/lang/Object","getClass","()Ljava/lang/Class;"⟩) ∈ lwn := lwnR 1466 (by decide +kernel) rfl
theorem n1467 : (Cond.castable "[I" "java/lang/Object") ∈ lwn := lwnR 1467 (by decide +kernel) rfl
theorem qs22 : (Cond.selects RJx4a65c yJx4a65c_add_72be8 yJx4a65c_add_72be8) ∈ lwg := lwgL 22 (by decide +kernel) (by decide +kernel)
theorem qs23 : (Cond.selects RJx4a65c yJx4a65c_grow_d5877 yJx4a65c_grow_d5877) ∈ lwg := lwgL 23 (by decide +kernel) (by decide +kernel)
theorem qs24 : (Cond.selects RJx4a65c yJx4a65c_grow_92f84 yJx4a65c_grow_92f84) ∈ lwg := lwgL 24 (by decide +kernel) (by decide +kernel)
/-- an object that may lie in a row of references, outside of what may be written -/
def EW (e : Nat) (A : Nat → Prop) (U : State) (H : Heap) : Prop := va_Any "java/lang/Object" U H e ∧ ¬ A e
theorem va_Any.moved {E : String} {u U : State} {H : Heap} {e : Nat} (hvm : u.vm.Alike U.vm) (h : va_Any E u H e) : va_Any E U H e := by
  obtain ⟨cell, h1, h2, ⟨k, h3⟩, h4⟩ := h
  obtain ⟨k', hk', -⟩ := hvm.2.2 _ _ h3
  refine ⟨cell, h1, h2, ⟨k', hk'⟩, fun comp hc => ?_⟩
  rw [hvm.findClass] at hc
  rw [hvm.assignable]
  exact h4 comp hc
theorem EW.moved {e : Nat} {A : Nat → Prop} {u U : State} {H : Heap} (hvm : u.vm.Alike U.vm) (h : EW e A u H) : EW e A U H := ⟨h.1.moved hvm, h.2⟩
theorem EW.kept {e : Nat} {A : Nat → Prop} {U : State} {H H1 : Heap} (h : EW e A U H) (hq : ∀ a : Nat, a < H.size → ¬ A a → H1[a]? = H[a]?) : EW e A U H1 := by
  obtain ⟨⟨cell, h1, h2⟩, h3⟩ := h
  exact ⟨⟨cell, by rw [hq e (Array.getElem?_eq_some_iff.mp h1).1 h3]; exact h1, h2⟩, h3⟩
theorem EW.narrow {e : Nat} {A B : Nat → Prop} {U : State} {H : Heap} (h : EW e A U H) (hAB : ∀ q, B q → A q) : EW e B U H := ⟨h.1, fun q => h.2 (hAB _ q)⟩
def EA (n : Nat) (f : Nat → Option Nat) (A : Nat → Prop) (U : State) (H : Heap) : Prop := ∀ k, k < n → ∀ y, f k = some y → EW y A U H
theorem EA.moved {n : Nat} {f : Nat → Option Nat} {A : Nat → Prop} {u U : State} {H : Heap} (hvm : u.vm.Alike U.vm) (h : EA n f A u H) : EA n f A U H := fun k hk y hy => (h k hk y hy).moved hvm
theorem EA.kept {n : Nat} {f : Nat → Option Nat} {A : Nat → Prop} {U : State} {H H1 : Heap} (h : EA n f A U H) (hq : ∀ a : Nat, a < H.size → ¬ A a → H1[a]? = H[a]?) : EA n f A U H1 := fun k hk y hy => (h k hk y hy).kept hq
theorem EA.narrow {n : Nat} {f : Nat → Option Nat} {A B : Nat → Prop} {U : State} {H : Heap} (h : EA n f A U H) (hAB : ∀ q, B q → A q) : EA n f B U H := fun k hk y hy => (h k hk y hy).narrow hAB
theorem ZE.moved {t : Nat} {A : Nat → Prop} {u U : State} {H : Heap} (hvm : u.vm.Alike U.vm) (h : ZE t A u H) : ZE t A U H := ⟨h.1.moved hvm, h.2.moved hvm⟩
theorem ZE.kept {t : Nat} {A : Nat → Prop} {U : State} {H H1 : Heap} (h : ZE t A U H) (hq : ∀ a : Nat, a < H.size → ¬ A a → H1[a]? = H[a]?) : ZE t A U H1 := ⟨h.1.kept hq, h.2.kept hq⟩
theorem ZE.narrow {t : Nat} {A B : Nat → Prop} {U : State} {H : Heap} (h : ZE t A U H) (hAB : ∀ q, B q → A q) : ZE t B U H := ⟨h.1.narrow hAB, h.2.narrow hAB⟩
/-- pm is the class object of the rows of references -/
def PM (pm : Nat) (_ : Nat → Prop) (U : State) (_ : Heap) : Prop := va_Mi "[Ljava/lang/Object;" pm U
theorem PM.moved {pm : Nat} {A : Nat → Prop} {u U : State} {H : Heap} (hvm : u.vm.Alike U.vm) (h : PM pm A u H) : PM pm A U H := va_Mi.moved hvm h
section LRR
variable {G : GT} {s : State} {H : Heap}
theorem preSwe {E : State → Heap → Prop} {ws : va_W} {A : Nat → Prop} {As : List Value} (hm : ∀ (u U : State) (H : Heap), u.vm.Alike U.vm → E u H → E U H) (hP : PP G ws H) (hK : KK G s) (hD : va_D A ws) (hE : E s H) : PreS s H (va_Pc As (fun U => U.heap.size = H.size ∧ PP G ws U.heap ∧ KK G U ∧ va_D (fun _ => True) ws ∧ E U U.heap)) As :=
  ⟨fun a U g mk q => by obtain ⟨e0, e1, qP, qK, qD, qE⟩ := q; exact ⟨e0, e1, qP, qK.call, qD, hm U (U.calling g mk a) _ (Vm.Alike.refl U.vm) qE⟩, fun U hU hW => ⟨rfl, by rw [hU], by rw [hU]; exact hP, hK.warm hW, hD.weaken (fun _ _ _ _ => trivial), by rw [hU]; exact hm _ _ _ hW.alike hE⟩⟩
theorem preVwe {E : State → Heap → Prop} {ws : va_W} {A : Nat → Prop} {As : List Value} {C : String} {b : Nat} (hm : ∀ (u U : State) (H : Heap), u.vm.Alike U.vm → E u H → E U H) (hP : PP G ws H) (hK : KK G s) (hD : va_D A ws) (hE : E s H) (hr : ∃ cell : Cell, H[b]? = some cell ∧ cell.vm.isStatics = false ∧ s.vm.findClass C = some cell.cls) : PreV s H C b (va_Pc (.ref b :: As) (fun U => U.heap.size = H.size ∧ PP G ws U.heap ∧ KK G U ∧ va_D (fun _ => True) ws ∧ E U U.heap)) As :=
  ⟨fun a U g mk q => by obtain ⟨e0, e1, qP, qK, qD, qE⟩ := q; exact ⟨e0, e1, qP, qK.call, qD, hm U (U.calling g mk a) _ (Vm.Alike.refl U.vm) qE⟩, hr, fun U hU hW => ⟨rfl, by rw [hU], by rw [hU]; exact hP, hK.warm hW, hD.weaken (fun _ _ _ _ => trivial), by rw [hU]; exact hm _ _ _ hW.alike hE⟩⟩
theorem rowRecv (hK : va_K G.1 vwCl (TY G) s) {ws : va_W} (hP : PP G ws H) (q0 : Nat) {a n : Nat} {f : Nat → Option Nat} (he : ws[q0]? = some (a, .inl (G.2 5, n, .inr (.inr (.inr (.inr f)))))) : ∃ cell : Cell, H[a]? = some cell ∧ cell.vm.isStatics = false ∧ s.vm.findClass "[Ljava/lang/Object;" = some cell.cls :=
  ⟨_, hP q0 _ he, rfl, va_nmO (hK.2 5 _ rfl).2 rfl⟩
theorem innerI (c : ClassId) (K : Nat) : Jvm.Free.Multi.innerC c K (defaultValue .int) = vp_cell c (K, .inl (fun _ => 0)) := arrV_new c K (.int 0)
end LRR
theorem mna6 {X : va_W} {x : Nat × va_E} {r : Nat → Nat} {f : Nat → va_E} {e : va_E} : ((X ++ [x]) ++ va_pl ([] ++ (List.range 6).map r) (vr_up f ((List.range 6).map r) e)) = X ++ [x, (r 0, e), (r 1, e), (r 2, e), (r 3, e), (r 4, e), (r 5, e)] := by
  have h : va_pl ([] ++ (List.range 6).map r) (vr_up f ((List.range 6).map r) e) = [(r 0, e), (r 1, e), (r 2, e), (r 3, e), (r 4, e), (r 5, e)] := by
    have hr : (List.range 6).map r = [r 0, r 1, r 2, r 3, r 4, r 5] := rfl
    rw [hr]
    simp [va_pl, vr_up]
  rw [h, List.append_assoc]
  rfl
theorem mna4 {X : va_W} {x : Nat × va_E} {r : Nat → Nat} {f : Nat → va_E} {e : va_E} : ((X ++ [x]) ++ va_pl ([] ++ (List.range 4).map r) (vr_up f ((List.range 4).map r) e)) = X ++ [x, (r 0, e), (r 1, e), (r 2, e), (r 3, e)] := by
  have h : va_pl ([] ++ (List.range 4).map r) (vr_up f ((List.range 4).map r) e) = [(r 0, e), (r 1, e), (r 2, e), (r 3, e)] := by
    have hr : (List.range 4).map r = [r 0, r 1, r 2, r 3] := rfl
    rw [hr]
    simp [va_pl, vr_up]
  rw [h, List.append_assoc]
  rfl
/-- the rows of the sentences, outside of what may be written -/
def RWS (G : GT) (sn : Nat) (sa : Nat → Nat) (sq : Nat → Nat → Int32) (A : Nat → Prop) (_ : State) (H : Heap) : Prop := ∀ k, k < sn → PP G [(sa k, .inl (G.2 0, 4, .inl (sq k)))] H ∧ ¬ A (sa k)
theorem RWS.moved {G : GT} {sn : Nat} {sa : Nat → Nat} {sq : Nat → Nat → Int32} {A : Nat → Prop} {u U : State} {H : Heap} (_ : u.vm.Alike U.vm) (h : RWS G sn sa sq A u H) : RWS G sn sa sq A U H := h
theorem RWS.kept {G : GT} {sn : Nat} {sa : Nat → Nat} {sq : Nat → Nat → Int32} {A : Nat → Prop} {U : State} {H H1 : Heap} (h : RWS G sn sa sq A U H) (hq : ∀ a : Nat, a < H.size → ¬ A a → H1[a]? = H[a]?) : RWS G sn sa sq A U H1 := fun k hk => keep1 (x := (sa k, _)) (h k hk) hq
theorem RWS.narrow {G : GT} {sn : Nat} {sa : Nat → Nat} {sq : Nat → Nat → Int32} {A B : Nat → Prop} {U : State} {H : Heap} (h : RWS G sn sa sq A U H) (hAB : ∀ q, B q → A q) : RWS G sn sa sq B U H := fun k hk => ⟨(h k hk).1, fun q => (h k hk).2 (hAB _ q)⟩
theorem ssN {G : GT} {sl e0 sn cap : Nat} {sa : Nat → Nat} {sq : Nat → Nat → Int32} {lm ln : Int32} {ef : Nat → Option Nat} {s : State} {H : Heap} {ws : va_W} (hP : PP G ws H) (i j : Nat) (h0 : ws[i]? = some (sl, .inr (2, [.int lm, .ref e0, .int ln]))) (h1 : ws[j]? = some (e0, .inl (G.2 5, cap, .inr (.inr (.inr (.inr ef)))))) (hRL : RWS G sn sa sq (fun _ => False) s H) (hln : ln = nI sn) (hef : ∀ k, k < sn → ef k = some (sa k)) (hsc : sn ≤ cap) (hcp : cap < 2 ^ 31) (hs0 : 0 < sn) : SS G sl sn sa sq (fun _ => False) s H := by
  subst hln
  exact ⟨e0, lm, ⟨hP.sub [i] (by simp [h0]), fun h => h⟩, hRL, fun h => absurd h (Nat.ne_of_gt hs0), fun _ => ⟨cap, ef, ⟨hP.sub [j] (by simp [h1]), fun h => h⟩, hef, hsc, hcp⟩⟩
theorem ssE {G : GT} {sl je sn : Nat} {sa : Nat → Nat} {sq : Nat → Nat → Int32} {lm ln : Int32} {s : State} {H : Heap} {ws : va_W} (hP : PP G ws H) (i : Nat) (h0 : ws[i]? = some (sl, .inr (2, [.int lm, .ref je, .int ln]))) (hZE : ZE je (fun _ => False) s H) (hln : ln = nI sn) (hs0 : sn = 0) : SS G sl sn sa sq (fun _ => False) s H := by
  subst hln
  subst hs0
  exact ⟨je, lm, ⟨hP.sub [i] (by simp [h0]), fun h => h⟩, fun k hk => absurd hk (Nat.not_lt_zero k), fun _ => hZE, fun h => absurd h (Nat.lt_irrefl 0)⟩
theorem anyRow {G : GT} {s : State} {H : Heap} {a n : Nat} {f : Nat → Int32} {args : Array Value} (hc : (Cond.castable "[I" "java/lang/Object").before args s = true) (hK : va_K G.1 vwCl (TY G) s) (h : H[a]? = some (vp_cell (G.2 0) (n, .inl f))) : va_Any "java/lang/Object" s H a := by
  have h3 : s.vm.findClass "[I" = some (G.2 0) := (hK.2 0 _ rfl).2
  obtain ⟨kC, hkC, -⟩ := Vm.findClass_spec h3
  obtain ⟨c0, t0, f1, f2, f3⟩ := Cond.castable_spec hc
  cases h3.symm.trans f1
  exact ⟨_, h, rfl, ⟨kC, hkC⟩, fun comp hcp => by cases f2.symm.trans hcp; exact f3⟩
theorem ewRow {G : GT} {s : State} {A : Nat → Prop} {ws wc : va_W} {H : Heap} {a n : Nat} {f : Nat → Int32} {args : Array Value} (hc : (Cond.castable "[I" "java/lang/Object").before args s = true) (hK : va_K G.1 vwCl (TY G) s) (hP : PP G ws H) (hD : va_D A ws) (pl : List Nat) (i : Nat) (h0 : ws[i]? = some (a, .inl (G.2 0, n, .inl f))) (hi : i ∉ pl) (hC : pl.map (fun i => ws[i]?) = wc.map some) : EW a (va_A wc H.size) s H :=
  ⟨anyRow hc hK (hP i _ h0), subOut hP hD pl hC h0 hi⟩
theorem eaOf {G : GT} {s : State} {A : Nat → Prop} {H : Heap} {sn cap : Nat} {sa : Nat → Nat} {sq : Nat → Nat → Int32} {ef : Nat → Option Nat} {args : Array Value} (hc : (Cond.castable "[I" "java/lang/Object").before args s = true) (hK : va_K G.1 vwCl (TY G) s) (hRL : RWS G sn sa sq A s H) (hef : ∀ k, k < sn → ef k = some (sa k)) (hen : ∀ k, sn ≤ k → ef k = none) : EA cap ef A s H := by
  intro k _ y hy
  rcases Nat.lt_or_ge k sn with h | h
  · rw [hef k h] at hy
    cases hy
    exact ⟨anyRow hc hK ((hRL k h).1 0 _ rfl), (hRL k h).2⟩
  · rw [hen k h] at hy
    cases hy
theorem dJ7_copyOf_6403c_0 : decode cJ7_copyOf_6403c 0 = .ok (.aload_n 2, 1) := by decide +kernel
theorem dJ7_copyOf_6403c_1 : decode cJ7_copyOf_6403c 1 = .ok (.ldc 110, 2) := by decide +kernel
theorem dJ7_copyOf_6403c_3 : decode cJ7_copyOf_6403c 3 = .ok (.if_acmp .ne 10, 3) := by decide +kernel
theorem dJ7_copyOf_6403c_6 : decode cJ7_copyOf_6403c 6 = .ok (.iload_n 1, 1) := by decide +kernel
theorem dJ7_copyOf_6403c_7 : decode cJ7_copyOf_6403c 7 = .ok (.anewarray 2, 3) := by decide +kernel
theorem dJ7_copyOf_6403c_10 : decode cJ7_copyOf_6403c 10 = .ok (.goto 14, 3) := by decide +kernel
theorem dJ7_copyOf_6403c_13 : decode cJ7_copyOf_6403c 13 = .ok (.aload_n 2, 1) := by decide +kernel
theorem dJ7_copyOf_6403c_14 : decode cJ7_copyOf_6403c 14 = .ok (.invokevirtual 90, 3) := by decide +kernel
theorem dJ7_copyOf_6403c_17 : decode cJ7_copyOf_6403c 17 = .ok (.iload_n 1, 1) := by decide +kernel
theorem dJ7_copyOf_6403c_18 : decode cJ7_copyOf_6403c 18 = .ok (.invokestatic 95, 3) := by decide +kernel
theorem dJ7_copyOf_6403c_21 : decode cJ7_copyOf_6403c 21 = .ok (.checkcast 110, 3) := by decide +kernel
theorem dJ7_copyOf_6403c_24 : decode cJ7_copyOf_6403c 24 = .ok (.astore_n 3, 1) := by decide +kernel
theorem dJ7_copyOf_6403c_25 : decode cJ7_copyOf_6403c 25 = .ok (.aload_n 0, 1) := by decide +kernel
theorem dJ7_copyOf_6403c_26 : decode cJ7_copyOf_6403c 26 = .ok (.iconst 0, 1) := by decide +kernel
theorem dJ7_copyOf_6403c_27 : decode cJ7_copyOf_6403c 27 = .ok (.aload_n 3, 1) := by decide +kernel
theorem dJ7_copyOf_6403c_28 : decode cJ7_copyOf_6403c 28 = .ok (.iconst 0, 1) := by decide +kernel
theorem dJ7_copyOf_6403c_29 : decode cJ7_copyOf_6403c 29 = .ok (.aload_n 0, 1) := by decide +kernel
theorem dJ7_copyOf_6403c_30 : decode cJ7_copyOf_6403c 30 = .ok (.arraylength, 1) := by decide +kernel
theorem dJ7_copyOf_6403c_31 : decode cJ7_copyOf_6403c 31 = .ok (.iload_n 1, 1) := by decide +kernel
theorem dJ7_copyOf_6403c_32 : decode cJ7_copyOf_6403c 32 = .ok (.invokestatic 304, 3) := by decide +kernel
theorem dJ7_copyOf_6403c_35 : decode cJ7_copyOf_6403c 35 = .ok (.invokestatic 150, 3) := by decide +kernel
theorem dJ7_copyOf_6403c_38 : decode cJ7_copyOf_6403c 38 = .ok (.aload_n 3, 1) := by decide +kernel
theorem dJ7_copyOf_6403c_39 : decode cJ7_copyOf_6403c 39 = .ok (.areturn, 1) := by decide +kernel
def wnJ7_copyOf_6403c (post : Nat × (Nat → Option Nat) → Prop) (yn : Nat) (yq : Nat → Option Nat) (p2 : Int32) : Prop :=
  (¬ p2 < 0 ∧ p2.toNatClampNeg ≤ 60) ∧
  (¬ (0 : Int32) < 0 ∧ ¬ (0 : Int32) < 0 ∧ ¬ (if p2 < (nI yn) then p2 else (nI yn)) < 0 ∧ (0 : Int32).toNatClampNeg + (if p2 < (nI yn) then p2 else (nI yn)).toNatClampNeg ≤ yn ∧ (0 : Int32).toNatClampNeg + (if p2 < (nI yn) then p2 else (nI yn)).toNatClampNeg ≤ p2.toNatClampNeg) ∧
  post (p2.toNatClampNeg, (va_cpy yq (fun _ => none) (0 : Int32).toNatClampNeg (0 : Int32).toNatClampNeg (if p2 < (nI yn) then p2 else (nI yn)).toNatClampNeg))
abbrev wl_nJ7_copyOf_6403c : List Cond := .code yJ7_copyOf_6403c cJ7_copyOf_6403c 4 (some (.array (.object "java/lang/Object"))) :: lwg
abbrev rm_nJ7_copyOf_6403c : Room := { frames := 1, cells := 1, slots := 60, locals := 64 }
set_option maxHeartbeats 4000000 in
set_option maxRecDepth 100000 in
theorem knJ7_copyOf_6403c {post : Nat × (Nat → Option Nat) → Prop} (l : Launch) (G : GT) (y0 : Nat) (pm : Nat) (yn : Nat) (yq : Nat → Option Nat) (p2 : Int32) (sz : Nat) (h : wnJ7_copyOf_6403c post yn yq p2) : Met l yJ7_copyOf_6403c wl_nJ7_copyOf_6403c rm_nJ7_copyOf_6403c (va_Pc [.ref y0, .int p2, .ref pm] (fun U => U.heap.size = sz ∧ PP G [(y0, .inl (G.2 5, yn, .inr (.inr (.inr (.inr yq)))))] U.heap ∧ KK G U ∧ va_D (fun _ => True) [(y0, .inl (G.2 5, yn, .inr (.inr (.inr (.inr yq)))))] ∧ EA yn yq (va_A [(y0, .inl (G.2 5, yn, .inr (.inr (.inr (.inr yq)))))] sz) U U.heap ∧ PM pm (va_A [(y0, .inl (G.2 5, yn, .inr (.inr (.inr (.inr yq)))))] sz) U U.heap)) (va_Qr post (fun u ra t => PP G [(y0, .inl (G.2 5, yn, .inr (.inr (.inr (.inr yq))))), (ra, .inl (G.2 5, u.1, .inr (.inr (.inr (.inr (u.2))))))] t.heap ∧ va_D (va_A [(y0, .inl (G.2 5, yn, .inr (.inr (.inr (.inr yq)))))] sz) [(y0, .inl (G.2 5, yn, .inr (.inr (.inr (.inr yq))))), (ra, .inl (G.2 5, u.1, .inr (.inr (.inr (.inr (u.2))))))]) (va_A [(y0, .inl (G.2 5, yn, .inr (.inr (.inr (.inr yq)))))] sz)) 1 60 (va_A [(y0, .inl (G.2 5, yn, .inr (.inr (.inr (.inr yq)))))] sz) := by
  refine Met.ofW (cc := cJ7_copyOf_6403c) (maxL := 4) (ret := (some (.array (.object "java/lang/Object")))) (by decide) rfl ?_
  intro p e s m args below meth c s₁ B hml hv
  obtain ⟨rfl, hsz, hP, hKK, hD0, hF_ea, hF_pm⟩ := hv
  obtain ⟨hK, hN, hR, hFW, hNC⟩ := id hKK
  have hx := B.exec
  have hb := B.bytes
  have hr := B.returns
  have hts0 := atoms_spec (ws := wl_nJ7_copyOf_6403c) B.pre
  have hts : ∀ w ∈ lwg, w.before ([.ref y0, .int p2, .ref pm] : List Value).toArray s = true := fun w hw => hts0 w (List.mem_cons_of_mem _ hw)
  have hown : s.vm.findClass RJ7 = some m.cls := findClass_of_methodNamed B.named
  have hlocks := B.notSynchronized
  subst hsz
  have hD := hD0.self (sz := s.heap.size)
  generalize hAe : va_A [(y0, .inl (G.2 5, yn, .inr (.inr (.inr (.inr yq)))))] s.heap.size = A at hD hF_ea hF_pm ⊢
  have hA : ∀ q : Nat, s.heap.size ≤ q → A q := fun q h => by rw [← hAe]; exact Or.inr h
  have hS : va_S A s.heap s.heap [] := va_S.rf
  obtain ⟨QC, hQC⟩ : ∃ Z, Z = (va_Qr post (fun u ra t => PP G [(y0, .inl (G.2 5, yn, .inr (.inr (.inr (.inr yq))))), (ra, .inl (G.2 5, u.1, .inr (.inr (.inr (.inr (u.2))))))] t.heap ∧ va_D A [(y0, .inl (G.2 5, yn, .inr (.inr (.inr (.inr yq))))), (ra, .inl (G.2 5, u.1, .inr (.inr (.inr (.inr (u.2))))))]) A) := ⟨_, rfl⟩
  rw [← hQC]
  have hP : PP G [(y0, .inl (G.2 5, yn, .inr (.inr (.inr (.inr yq)))))] s.heap := hP
  have hl := lv_entry ([.ref y0, .int p2, .ref pm]) (n := 4) (Nat.le_of_ble_eq_true rfl)
  rw [lg_entry_eq]
  generalize (lg_sl ([.ref y0, .int p2, .ref pm]) ++ List.replicate (4 - (lg_sl ([.ref y0, .int p2, .ref pm])).length) Slot.unset).toArray = ls at hl ⊢
  have hl : lv_has ls 4 [(0, .ref y0), (1, .int p2), (2, .ref pm)] := hl
  refine lv_aload_n hx hb dJ7_copyOf_6403c_0 rfl (lv_at hl 2 rfl) ?_
  refine va_ldcM hx hb hown (hts _ q1206) hF_pm dJ7_copyOf_6403c_1 ?_
  refine lv_acmp_ne (rx := some pm) (ry := some pm) (tgt := 13) hx hb dJ7_copyOf_6403c_3 (by decide) (fun hc => absurd rfl hc) (fun _ => ?_)
  refine lv_iload_n hx hb dJ7_copyOf_6403c_6 rfl (lv_at hl 1 rfl) ?_
  obtain ⟨⟨hn0, hn40⟩, h⟩ := h
  refine va_newq (D := G.1) hx hb hown (hts _ q1208) hR.2.2.1 hK hP hD hS hA hn0 rfl (Nat.le_trans (Nat.mul_le_mul_right _ hn40) (by decide)) (Nat.le_of_ble_eq_true rfl) (Nat.le_trans (Nat.add_le_add_left hn40 _) (Nat.le_of_ble_eq_true rfl)) dJ7_copyOf_6403c_7 (fun q_1 cA H hK2 hP hD hS => ?_)
  obtain rfl : cA = G.2 5 := Option.some.inj ((va_nmO (hK2.2 6 _ rfl).2 rfl).symm.trans (va_nmO (hK.2 5 _ rfl).2 rfl))
  refine W.widen (k := 1) (n := 60) (Nat.le_of_ble_eq_true rfl) (Nat.add_le_add_left hn40 _) ?_
  have hP : PP G [(y0, .inl (G.2 5, yn, .inr (.inr (.inr (.inr yq))))), (q_1, .inl (G.2 5, p2.toNatClampNeg, .inr (.inr (.inr (.inr (fun _ => none))))))] H := hP
  have hD : va_D A [(y0, .inl (G.2 5, yn, .inr (.inr (.inr (.inr yq))))), (q_1, .inl (G.2 5, p2.toNatClampNeg, .inr (.inr (.inr (.inr (fun _ => none))))))] := hD
  refine lv_goto (tgt := 24) hx hb dJ7_copyOf_6403c_10 (by decide) ?_
  refine lv_astore_n hx hb dJ7_copyOf_6403c_24 rfl hl (Nat.le_of_ble_eq_true rfl) rfl (fun ls hl => ?_)
  have hl : lv_has ls 4 [(3, .ref q_1), (0, .ref y0), (1, .int p2), (2, .ref pm)] := hl
  refine lv_aload_n hx hb dJ7_copyOf_6403c_25 rfl (lv_at hl 1 rfl) ?_
  refine lv_iconst (v := 0) hx hb dJ7_copyOf_6403c_26 (by decide) ?_
  refine lv_aload_n hx hb dJ7_copyOf_6403c_27 rfl (lv_at hl 0 rfl) ?_
  refine lv_iconst (v := 0) hx hb dJ7_copyOf_6403c_28 (by decide) ?_
  refine lv_aload_n hx hb dJ7_copyOf_6403c_29 rfl (lv_at hl 1 rfl) ?_
  refine va_alen (D := G.1) (v := (nI yn)) hx hb hK hP 0 5 rfl rfl rfl dJ7_copyOf_6403c_30 ?_
  refine lv_iload_n hx hb dJ7_copyOf_6403c_31 rfl (lv_at hl 2 rfl) ?_
  refine va_mmin hx hb (by rw [hml]; exact hl.1.symm) hown (hts _ q745) (hts _ q746) (hts _ q18) (hts _ q747) (Nat.le_of_ble_eq_true rfl) (Nat.le_of_ble_eq_true rfl) (Nat.le_of_ble_eq_true rfl) (Nat.le_of_ble_eq_true rfl) dJ7_copyOf_6403c_32 ?_
  obtain ⟨⟨ha1, ha2, ha3, ha4, ha5⟩, h⟩ := h
  refine va_copyM (D := G.1) hx hb (by rw [hml]; exact hl.1.symm) hown (hts _ q748) (hts _ q469) (hts _ q468) (hts _ q21) hK hP hD hS 0 1 5 5 rfl rfl rfl rfl ha1 ha2 ha3 ha4 ha5 (fun i hi y hy => ((hF_ea _ (Nat.lt_of_lt_of_le (Nat.add_lt_add_left hi _) ha4) y hy).kept hS.2.1).1) (Nat.le_of_ble_eq_true rfl) (Nat.le_of_ble_eq_true rfl) dJ7_copyOf_6403c_35 (fun H locs hP hD hS => ?_)
  have hP : PP G [(y0, .inl (G.2 5, yn, .inr (.inr (.inr (.inr yq))))), (q_1, .inl (G.2 5, p2.toNatClampNeg, .inr (.inr (.inr (.inr (va_cpy yq (fun _ => none) (0 : Int32).toNatClampNeg (0 : Int32).toNatClampNeg (if p2 < (nI yn) then p2 else (nI yn)).toNatClampNeg))))))] H := hP
  have hD : va_D A [(y0, .inl (G.2 5, yn, .inr (.inr (.inr (.inr yq))))), (q_1, .inl (G.2 5, p2.toNatClampNeg, .inr (.inr (.inr (.inr (va_cpy yq (fun _ => none) (0 : Int32).toNatClampNeg (0 : Int32).toNatClampNeg (if p2 < (nI yn) then p2 else (nI yn)).toNatClampNeg))))))] := hD
  refine lv_aload_n hx hb dJ7_copyOf_6403c_38 rfl (lv_at hl 0 rfl) ?_
  subst hQC; exact W.aret (v := .ref q_1) hx hb hr (by first | exact Or.inl ⟨_, rfl⟩ | exact Or.inr ⟨_, rfl⟩) (Or.inr ⟨_, rfl⟩) (fun t ht hW => ⟨⟨(p2.toNatClampNeg, (va_cpy yq (fun _ => none) (0 : Int32).toNatClampNeg (0 : Int32).toNatClampNeg (if p2 < (nI yn) then p2 else (nI yn)).toNatClampNeg)), q_1, rfl, h, by rw [ht]; exact hP, hD⟩, hS.F ht⟩) hS.2.2 dJ7_copyOf_6403c_39
theorem dJ7_copyOf_1904c_0 : decode cJ7_copyOf_1904c 0 = .ok (.aload_n 0, 1) := by decide +kernel
theorem dJ7_copyOf_1904c_1 : decode cJ7_copyOf_1904c 1 = .ok (.iload_n 1, 1) := by decide +kernel
theorem dJ7_copyOf_1904c_2 : decode cJ7_copyOf_1904c 2 = .ok (.aload_n 0, 1) := by decide +kernel
theorem dJ7_copyOf_1904c_3 : decode cJ7_copyOf_1904c 3 = .ok (.invokevirtual 86, 3) := by decide +kernel
theorem dJ7_copyOf_1904c_6 : decode cJ7_copyOf_1904c 6 = .ok (.invokestatic 300, 3) := by decide +kernel
theorem dJ7_copyOf_1904c_9 : decode cJ7_copyOf_1904c 9 = .ok (.areturn, 1) := by decide +kernel
def wnJ7_copyOf_1904c (post : Nat × (Nat → Option Nat) → Prop) (yn : Nat) (yq : Nat → Option Nat) (p2 : Int32) : Prop :=
  wnJ7_copyOf_6403c (fun (z_1 : Nat × (Nat → Option Nat)) =>
    post (z_1.1, z_1.2)
    ) yn yq p2
abbrev wl_nJ7_copyOf_1904c : List Cond := .code yJ7_copyOf_1904c cJ7_copyOf_1904c 2 (some (.array (.object "java/lang/Object"))) :: lwg
abbrev rm_nJ7_copyOf_1904c : Room := { frames := 2, cells := 1, slots := 60, locals := 87 }
set_option maxHeartbeats 4000000 in
set_option maxRecDepth 100000 in
theorem knJ7_copyOf_1904c {post : Nat × (Nat → Option Nat) → Prop} (l : Launch) (G : GT) (y0 : Nat) (yn : Nat) (yq : Nat → Option Nat) (p2 : Int32) (sz : Nat) (h : wnJ7_copyOf_1904c post yn yq p2) : Met l yJ7_copyOf_1904c wl_nJ7_copyOf_1904c rm_nJ7_copyOf_1904c (va_Pc [.ref y0, .int p2] (fun U => U.heap.size = sz ∧ PP G [(y0, .inl (G.2 5, yn, .inr (.inr (.inr (.inr yq)))))] U.heap ∧ KK G U ∧ va_D (fun _ => True) [(y0, .inl (G.2 5, yn, .inr (.inr (.inr (.inr yq)))))] ∧ EA yn yq (va_A [(y0, .inl (G.2 5, yn, .inr (.inr (.inr (.inr yq)))))] sz) U U.heap)) (va_Qr post (fun u ra t => PP G [(y0, .inl (G.2 5, yn, .inr (.inr (.inr (.inr yq))))), (ra, .inl (G.2 5, u.1, .inr (.inr (.inr (.inr (u.2))))))] t.heap ∧ va_D (va_A [(y0, .inl (G.2 5, yn, .inr (.inr (.inr (.inr yq)))))] sz) [(y0, .inl (G.2 5, yn, .inr (.inr (.inr (.inr yq))))), (ra, .inl (G.2 5, u.1, .inr (.inr (.inr (.inr (u.2))))))]) (va_A [(y0, .inl (G.2 5, yn, .inr (.inr (.inr (.inr yq)))))] sz)) 1 60 (va_A [(y0, .inl (G.2 5, yn, .inr (.inr (.inr (.inr yq)))))] sz) := by
  refine Met.ofW (cc := cJ7_copyOf_1904c) (maxL := 2) (ret := (some (.array (.object "java/lang/Object")))) (by decide) rfl ?_
  intro p e s m args below meth c s₁ B hml hv
  obtain ⟨rfl, hsz, hP, hKK, hD0, hF_ea⟩ := hv
  obtain ⟨hK, hN, hR, hFW, hNC⟩ := id hKK
  have hx := B.exec
  have hb := B.bytes
  have hr := B.returns
  have hts0 := atoms_spec (ws := wl_nJ7_copyOf_1904c) B.pre
  have hts : ∀ w ∈ lwg, w.before ([.ref y0, .int p2] : List Value).toArray s = true := fun w hw => hts0 w (List.mem_cons_of_mem _ hw)
  have hown : s.vm.findClass RJ7 = some m.cls := findClass_of_methodNamed B.named
  have hlocks := B.notSynchronized
  subst hsz
  have hD := hD0.self (sz := s.heap.size)
  generalize hAe : va_A [(y0, .inl (G.2 5, yn, .inr (.inr (.inr (.inr yq)))))] s.heap.size = A at hD hF_ea ⊢
  have hA : ∀ q : Nat, s.heap.size ≤ q → A q := fun q h => by rw [← hAe]; exact Or.inr h
  have hS : va_S A s.heap s.heap [] := va_S.rf
  obtain ⟨QC, hQC⟩ : ∃ Z, Z = (va_Qr post (fun u ra t => PP G [(y0, .inl (G.2 5, yn, .inr (.inr (.inr (.inr yq))))), (ra, .inl (G.2 5, u.1, .inr (.inr (.inr (.inr (u.2))))))] t.heap ∧ va_D A [(y0, .inl (G.2 5, yn, .inr (.inr (.inr (.inr yq))))), (ra, .inl (G.2 5, u.1, .inr (.inr (.inr (.inr (u.2))))))]) A) := ⟨_, rfl⟩
  rw [← hQC]
  have hP : PP G [(y0, .inl (G.2 5, yn, .inr (.inr (.inr (.inr yq)))))] s.heap := hP
  have hl := lv_entry ([.ref y0, .int p2]) (n := 2) (Nat.le_of_ble_eq_true rfl)
  rw [lg_entry_eq]
  generalize (lg_sl ([.ref y0, .int p2]) ++ List.replicate (2 - (lg_sl ([.ref y0, .int p2])).length) Slot.unset).toArray = ls at hl ⊢
  have hl : lv_has ls 2 [(0, .ref y0), (1, .int p2)] := hl
  refine lv_aload_n hx hb dJ7_copyOf_1904c_0 rfl (lv_at hl 0 rfl) ?_
  refine lv_iload_n hx hb dJ7_copyOf_1904c_1 rfl (lv_at hl 1 rfl) ?_
  refine lv_aload_n hx hb dJ7_copyOf_1904c_2 rfl (lv_at hl 0 rfl) ?_
  obtain ⟨pm, hpm⟩ := hR.2.2.2.2
  refine va_getC (C := "[Ljava/lang/Object;") hx hb (by rw [hml]; exact hl.1.symm) hown (hts _ q1188) (va_Nw.use rfl (hN _ n1466)) (hts _ q1465) (hts _ q1189) (hts _ q1202) hpm (rowRecv hK hP 0 rfl) (Nat.le_of_ble_eq_true rfl) (Nat.le_of_ble_eq_true rfl) dJ7_copyOf_1904c_3 ?_
  have hPc := hP
  have hDc := hD.sub (ws' := [(y0, .inl (G.2 5, yn, .inr (.inr (.inr (.inr yq)))))]) [0] (by decide) rfl
  have hFc := va_free (wc := [(y0, .inl (G.2 5, yn, .inr (.inr (.inr (.inr yq)))))]) hD hS hA [0] rfl
  have hf_ea := (hF_ea.kept hS.2.1).narrow hFc
  have hf_pm := hpm
  refine va_callr (va_runS (As := [.ref y0, .int p2, .ref pm]) (rest := []) ⟨hx, hb, hml, hown, hts⟩ (knJ7_copyOf_6403c l G y0 pm yn yq p2 _ h) (va_cwS 3 hts (gdS q1203 q1204 q20 q1205) rfl rfl rfl (by decide +kernel) ⟨Nat.le_of_ble_eq_true rfl, Nat.le_of_ble_eq_true rfl⟩) (preSwe (E := fun U H => EA yn yq _ U H ∧ PM pm _ U H) (fun u U H hv h => ⟨h.1.moved hv, h.2.moved hv⟩) hPc hKK hDc ⟨hf_ea, hf_pm⟩) rfl rfl hl.1 rfl (lv_room (Nat.le_of_ble_eq_true rfl)) dJ7_copyOf_1904c_6 ⟨Nat.le_of_ble_eq_true rfl, Nat.le_of_ble_eq_true rfl⟩) hS (fun q _ h => hFc q h) hFc (fun u ra t H1 locs ht hvm h hB hz1 hk1 hS => ?_)
  obtain ⟨c_1, c_2⟩ := u
  obtain ⟨na_1, rfl⟩ : ∃ z, z = ra := ⟨_, rfl⟩
  obtain ⟨hP1, hD1⟩ := hB
  rw [ht] at hP1
  have hP := hP1
  have hD : va_D A [(y0, .inl (G.2 5, yn, .inr (.inr (.inr (.inr yq))))), (na_1, .inl (G.2 5, c_1, .inr (.inr (.inr (.inr c_2)))))] := hD1.weaken (fun _ _ _ h => hFc _ h)
  generalize H1 = H at hP hS ⊢
  have hP : PP G [(y0, .inl (G.2 5, yn, .inr (.inr (.inr (.inr yq))))), (na_1, .inl (G.2 5, c_1, .inr (.inr (.inr (.inr c_2)))))] H := hP
  subst hQC; exact W.aret (v := .ref na_1) hx hb hr (by first | exact Or.inl ⟨_, rfl⟩ | exact Or.inr ⟨_, rfl⟩) (Or.inr ⟨_, rfl⟩) (fun t ht hW => ⟨⟨(c_1, c_2), na_1, rfl, h, by rw [ht]; exact hP, hD⟩, hS.F ht⟩) hS.2.2 dJ7_copyOf_1904c_9
theorem dJx4a65c_grow_92f84_0 : decode cJx4a65c_grow_92f84 0 = .ok (.aload_n 0, 1) := by decide +kernel
theorem dJx4a65c_grow_92f84_1 : decode cJx4a65c_grow_92f84 1 = .ok (.getfield 9, 3) := by decide +kernel
theorem dJx4a65c_grow_92f84_4 : decode cJx4a65c_grow_92f84 4 = .ok (.arraylength, 1) := by decide +kernel
theorem dJx4a65c_grow_92f84_5 : decode cJx4a65c_grow_92f84 5 = .ok (.istore_n 2, 1) := by decide +kernel
theorem dJx4a65c_grow_92f84_6 : decode cJx4a65c_grow_92f84 6 = .ok (.iload_n 2, 1) := by decide +kernel
theorem dJx4a65c_grow_92f84_7 : decode cJx4a65c_grow_92f84 7 = .ok (.ifCond .gt 13, 3) := by decide +kernel
theorem dJx4a65c_grow_92f84_10 : decode cJx4a65c_grow_92f84 10 = .ok (.aload_n 0, 1) := by decide +kernel
theorem dJx4a65c_grow_92f84_11 : decode cJx4a65c_grow_92f84 11 = .ok (.getfield 9, 3) := by decide +kernel
theorem dJx4a65c_grow_92f84_14 : decode cJx4a65c_grow_92f84 14 = .ok (.getstatic 39, 3) := by decide +kernel
theorem dJx4a65c_grow_92f84_17 : decode cJx4a65c_grow_92f84 17 = .ok (.if_acmp .eq 28, 3) := by decide +kernel
theorem dJx4a65c_grow_92f84_20 : decode cJx4a65c_grow_92f84 20 = .ok (.iload_n 2, 1) := by decide +kernel
theorem dJx4a65c_grow_92f84_21 : decode cJx4a65c_grow_92f84 21 = .ok (.iload_n 1, 1) := by decide +kernel
theorem dJx4a65c_grow_92f84_22 : decode cJx4a65c_grow_92f84 22 = .ok (.iload_n 2, 1) := by decide +kernel
theorem dJx4a65c_grow_92f84_23 : decode cJx4a65c_grow_92f84 23 = .ok (.isub, 1) := by decide +kernel
theorem dJx4a65c_grow_92f84_24 : decode cJx4a65c_grow_92f84 24 = .ok (.iload_n 2, 1) := by decide +kernel
theorem dJx4a65c_grow_92f84_25 : decode cJx4a65c_grow_92f84 25 = .ok (.iconst 1, 1) := by decide +kernel
theorem dJx4a65c_grow_92f84_26 : decode cJx4a65c_grow_92f84 26 = .ok (.ishr, 1) := by decide +kernel
theorem dJx4a65c_grow_92f84_27 : decode cJx4a65c_grow_92f84 27 = .ok (.invokestatic 73, 3) := by decide +kernel
theorem dJx4a65c_grow_92f84_30 : decode cJx4a65c_grow_92f84 30 = .ok (.istore_n 3, 1) := by decide +kernel
theorem dJx4a65c_grow_92f84_31 : decode cJx4a65c_grow_92f84 31 = .ok (.aload_n 0, 1) := by decide +kernel
theorem dJx4a65c_grow_92f84_32 : decode cJx4a65c_grow_92f84 32 = .ok (.aload_n 0, 1) := by decide +kernel
theorem dJx4a65c_grow_92f84_33 : decode cJx4a65c_grow_92f84 33 = .ok (.getfield 9, 3) := by decide +kernel
theorem dJx4a65c_grow_92f84_36 : decode cJx4a65c_grow_92f84 36 = .ok (.iload_n 3, 1) := by decide +kernel
theorem dJx4a65c_grow_92f84_37 : decode cJx4a65c_grow_92f84 37 = .ok (.invokestatic 66, 3) := by decide +kernel
theorem dJx4a65c_grow_92f84_40 : decode cJx4a65c_grow_92f84 40 = .ok (.dup_x1, 1) := by decide +kernel
theorem dJx4a65c_grow_92f84_41 : decode cJx4a65c_grow_92f84 41 = .ok (.putfield 9, 3) := by decide +kernel
theorem dJx4a65c_grow_92f84_44 : decode cJx4a65c_grow_92f84 44 = .ok (.areturn, 1) := by decide +kernel
theorem dJx4a65c_grow_92f84_45 : decode cJx4a65c_grow_92f84 45 = .ok (.aload_n 0, 1) := by decide +kernel
theorem dJx4a65c_grow_92f84_46 : decode cJx4a65c_grow_92f84 46 = .ok (.bipush 10, 2) := by decide +kernel
theorem dJx4a65c_grow_92f84_48 : decode cJx4a65c_grow_92f84 48 = .ok (.iload_n 1, 1) := by decide +kernel
theorem dJx4a65c_grow_92f84_49 : decode cJx4a65c_grow_92f84 49 = .ok (.invokestatic 79, 3) := by decide +kernel
theorem dJx4a65c_grow_92f84_52 : decode cJx4a65c_grow_92f84 52 = .ok (.anewarray 7, 3) := by decide +kernel
theorem dJx4a65c_grow_92f84_55 : decode cJx4a65c_grow_92f84 55 = .ok (.dup_x1, 1) := by decide +kernel
theorem dJx4a65c_grow_92f84_56 : decode cJx4a65c_grow_92f84 56 = .ok (.putfield 9, 3) := by decide +kernel
theorem dJx4a65c_grow_92f84_59 : decode cJx4a65c_grow_92f84 59 = .ok (.areturn, 1) := by decide +kernel
def wnJx4a65c_grow_92f84N (post : Nat × (Nat → Option Nat) → Prop) (cap : Nat) (ef : Nat → Option Nat) (p1 : Int32) : Prop :=
  ((0 < (nI cap)) →
    wnJ8_newLength_cabcc (fun r_1 : Int32 =>
      wnJ7_copyOf_1904c (fun (z_1 : Nat × (Nat → Option Nat)) =>
        post (z_1.1, z_1.2)
        ) cap ef r_1
      ) (nI cap) (p1 - (nI cap)) ((nI cap) >>> ((1 : Int32) &&& 31))
  ) ∧ (¬ (0 < (nI cap)) →
    False
  )
abbrev wl_nJx4a65c_grow_92f84N : List Cond := .code yJx4a65c_grow_92f84 cJx4a65c_grow_92f84 4 (some (.array (.object "java/lang/Object"))) :: lwg
abbrev rm_nJx4a65c_grow_92f84N : Room := { frames := 3, cells := 1, slots := 60, locals := 108 }
set_option maxHeartbeats 4000000 in
set_option maxRecDepth 100000 in
theorem knJx4a65c_grow_92f84N {post : Nat × (Nat → Option Nat) → Prop} (l : Launch) (G : GT) (l0 : Nat) (e0 : Nat) (lm : Int32) (ln : Int32) (cap : Nat) (ef : Nat → Option Nat) (p1 : Int32) (sz : Nat) (h : wnJx4a65c_grow_92f84N post cap ef p1) : Met l yJx4a65c_grow_92f84 wl_nJx4a65c_grow_92f84N rm_nJx4a65c_grow_92f84N (va_Pc [.ref l0, .int p1] (fun U => U.heap.size = sz ∧ PP G [(l0, .inr (2, [.int lm, .ref e0, .int ln])), (e0, .inl (G.2 5, cap, .inr (.inr (.inr (.inr ef)))))] U.heap ∧ KK G U ∧ va_D (fun _ => True) [(l0, .inr (2, [.int lm, .ref e0, .int ln])), (e0, .inl (G.2 5, cap, .inr (.inr (.inr (.inr ef)))))] ∧ EA cap ef (va_A [(l0, .inr (2, [.int lm, .ref e0, .int ln])), (e0, .inl (G.2 5, cap, .inr (.inr (.inr (.inr ef)))))] sz) U U.heap)) (va_Qr post (fun u ra t => ∃ e0E : Nat, ra = e0E ∧ PP G [(l0, .inr (2, [.int lm, .ref e0E, .int ln])), (e0E, .inl (G.2 5, u.1, .inr (.inr (.inr (.inr (u.2))))))] t.heap ∧ va_D (va_A [(l0, .inr (2, [.int lm, .ref e0, .int ln])), (e0, .inl (G.2 5, cap, .inr (.inr (.inr (.inr ef)))))] sz) [(l0, .inr (2, [.int lm, .ref e0E, .int ln])), (e0E, .inl (G.2 5, u.1, .inr (.inr (.inr (.inr (u.2))))))]) (va_A [(l0, .inr (2, [.int lm, .ref e0, .int ln])), (e0, .inl (G.2 5, cap, .inr (.inr (.inr (.inr ef)))))] sz)) 1 60 (va_A [(l0, .inr (2, [.int lm, .ref e0, .int ln])), (e0, .inl (G.2 5, cap, .inr (.inr (.inr (.inr ef)))))] sz) := by
  refine Met.ofW (cc := cJx4a65c_grow_92f84) (maxL := 4) (ret := (some (.array (.object "java/lang/Object")))) (by decide) rfl ?_
  intro p e s m args below meth c s₁ B hml hv
  obtain ⟨rfl, hsz, hP, hKK, hD0, hF_ea⟩ := hv
  obtain ⟨hK, hN, hR, hFW, hNC⟩ := id hKK
  have hx := B.exec
  have hb := B.bytes
  have hr := B.returns
  have hts0 := atoms_spec (ws := wl_nJx4a65c_grow_92f84N) B.pre
  have hts : ∀ w ∈ lwg, w.before ([.ref l0, .int p1] : List Value).toArray s = true := fun w hw => hts0 w (List.mem_cons_of_mem _ hw)
  have hown : s.vm.findClass RJx4a65c = some m.cls := findClass_of_methodNamed B.named
  have hlocks := B.notSynchronized
  subst hsz
  have hD := hD0.self (sz := s.heap.size)
  generalize hAe : va_A [(l0, .inr (2, [.int lm, .ref e0, .int ln])), (e0, .inl (G.2 5, cap, .inr (.inr (.inr (.inr ef)))))] s.heap.size = A at hD hF_ea ⊢
  have hA : ∀ q : Nat, s.heap.size ≤ q → A q := fun q h => by rw [← hAe]; exact Or.inr h
  have hS : va_S A s.heap s.heap [] := va_S.rf
  obtain ⟨QC, hQC⟩ : ∃ Z, Z = (va_Qr post (fun u ra t => ∃ e0E : Nat, ra = e0E ∧ PP G [(l0, .inr (2, [.int lm, .ref e0E, .int ln])), (e0E, .inl (G.2 5, u.1, .inr (.inr (.inr (.inr (u.2))))))] t.heap ∧ va_D A [(l0, .inr (2, [.int lm, .ref e0E, .int ln])), (e0E, .inl (G.2 5, u.1, .inr (.inr (.inr (.inr (u.2))))))]) A) := ⟨_, rfl⟩
  rw [← hQC]
  have hP : PP G [(l0, .inr (2, [.int lm, .ref e0, .int ln])), (e0, .inl (G.2 5, cap, .inr (.inr (.inr (.inr ef)))))] s.heap := hP
  have hl := lv_entry ([.ref l0, .int p1]) (n := 4) (Nat.le_of_ble_eq_true rfl)
  rw [lg_entry_eq]
  generalize (lg_sl ([.ref l0, .int p1]) ++ List.replicate (4 - (lg_sl ([.ref l0, .int p1])).length) Slot.unset).toArray = ls at hl ⊢
  have hl : lv_has ls 4 [(0, .ref l0), (1, .int p1)] := hl
  refine lv_aload_n hx hb dJx4a65c_grow_92f84_0 rfl (lv_at hl 0 rfl) ?_
  refine va_get (D := G.1) (ci := 2) (v := .ref e0) (C := RJx4a65c) (T := TJx4a65c) (N := 3) hx hb hts igJx4a65c hown hK hP 0 rfl rfl 1 (by decide) (hts _ q993) (fun _ h9 => h9) rfl dJx4a65c_grow_92f84_1 ?_
  refine va_alen (D := G.1) (v := (nI cap)) hx hb hK hP 1 5 rfl rfl rfl dJx4a65c_grow_92f84_4 ?_
  refine lv_istore_n hx hb dJx4a65c_grow_92f84_5 rfl hl (Nat.le_of_ble_eq_true rfl) rfl (fun ls hl => ?_)
  have hl : lv_has ls 4 [(2, .int (nI cap)), (0, .ref l0), (1, .int p1)] := hl
  refine lv_iload_n hx hb dJx4a65c_grow_92f84_6 rfl (lv_at hl 0 rfl) ?_
  refine lv_if_gt (tgt := 20) hx hb dJx4a65c_grow_92f84_7 (by decide) (fun hc => ?_) (fun hc => ?_)
  · have h := h.1 hc
    refine lv_iload_n hx hb dJx4a65c_grow_92f84_20 rfl (lv_at hl 0 rfl) ?_
    refine lv_iload_n hx hb dJx4a65c_grow_92f84_21 rfl (lv_at hl 2 rfl) ?_
    refine lv_iload_n hx hb dJx4a65c_grow_92f84_22 rfl (lv_at hl 0 rfl) ?_
    refine lv_isub hx hb dJx4a65c_grow_92f84_23 ?_
    refine lv_iload_n hx hb dJx4a65c_grow_92f84_24 rfl (lv_at hl 0 rfl) ?_
    refine lv_iconst (v := 1) hx hb dJx4a65c_grow_92f84_25 (by decide) ?_
    refine lv_ishr hx hb dJx4a65c_grow_92f84_26 ?_
    have hPc := va_P.sub (ws' := []) hP [] rfl
    refine rdI (va_runS (As := [.int (nI cap), .int (p1 - (nI cap)), .int ((nI cap) >>> ((1 : Int32) &&& 31))]) (rest := []) ⟨hx, hb, hml, hown, hts⟩ (knJ8_newLength_cabcc l G (nI cap) (p1 - (nI cap)) ((nI cap) >>> ((1 : Int32) &&& 31)) h) (va_cwS 3 hts (gdS q1184 q727 q19 q728) rfl rfl rfl (by decide +kernel) ⟨Nat.le_of_ble_eq_true rfl, Nat.le_of_ble_eq_true rfl⟩) (preS hPc hKK) rfl rfl hl.1 rfl (lv_room (Nat.le_of_ble_eq_true rfl)) dJx4a65c_grow_92f84_27 ⟨Nat.zero_le _, Nat.zero_le _⟩) (fun r_1 h => ?_)
    refine lv_istore_n hx hb dJx4a65c_grow_92f84_30 rfl hl (Nat.le_of_ble_eq_true rfl) rfl (fun ls hl => ?_)
    have hl : lv_has ls 4 [(3, .int r_1), (2, .int (nI cap)), (0, .ref l0), (1, .int p1)] := hl
    refine lv_aload_n hx hb dJx4a65c_grow_92f84_31 rfl (lv_at hl 2 rfl) ?_
    refine lv_aload_n hx hb dJx4a65c_grow_92f84_32 rfl (lv_at hl 2 rfl) ?_
    refine va_get (D := G.1) (ci := 2) (v := .ref e0) (C := RJx4a65c) (T := TJx4a65c) (N := 3) hx hb hts igJx4a65c hown hK hP 0 rfl rfl 1 (by decide) (hts _ q993) (fun _ h9 => h9) rfl dJx4a65c_grow_92f84_33 ?_
    refine lv_iload_n hx hb dJx4a65c_grow_92f84_36 rfl (lv_at hl 0 rfl) ?_
    have hPc := va_P.sub (ws' := [(e0, .inl (G.2 5, cap, .inr (.inr (.inr (.inr ef)))))]) hP [1] rfl
    have hDc := hD.sub (ws' := [(e0, .inl (G.2 5, cap, .inr (.inr (.inr (.inr ef)))))]) [1] (by decide) rfl
    have hFc := va_free (wc := [(e0, .inl (G.2 5, cap, .inr (.inr (.inr (.inr ef)))))]) hD hS hA [1] rfl
    have hf_ea := (hF_ea.kept hS.2.1).narrow hFc
    refine va_callr (va_runS (As := [.ref e0, .int r_1]) (rest := [.ref l0]) ⟨hx, hb, hml, hown, hts⟩ (knJ7_copyOf_1904c l G e0 cap ef r_1 _ h) (va_cwS 2 hts (gdS q1185 q1186 q20 q1187) rfl rfl rfl (by decide +kernel) ⟨Nat.le_of_ble_eq_true rfl, Nat.le_of_ble_eq_true rfl⟩) (preSwe (E := fun U H => EA cap ef _ U H) (fun u U H hv h => h.moved hv) hPc hKK hDc hf_ea) rfl rfl hl.1 rfl (lv_room (Nat.le_of_ble_eq_true rfl)) dJx4a65c_grow_92f84_37 ⟨Nat.le_of_ble_eq_true rfl, Nat.le_of_ble_eq_true rfl⟩) hS (fun q _ h => hFc q h) hFc (fun u ra t H1 locs ht hvm h hB hz1 hk1 hS => ?_)
    obtain ⟨c_1, c_2⟩ := u
    obtain ⟨na_1, rfl⟩ : ∃ z, z = ra := ⟨_, rfl⟩
    obtain ⟨hP1, hD1⟩ := hB
    rw [ht] at hP1
    obtain ⟨hP, hD⟩ := va_join (wr := [(l0, .inr (2, [.int lm, .ref e0, .int ln]))]) (w1 := [(e0, .inl (G.2 5, cap, .inr (.inr (.inr (.inr ef))))), (na_1, .inl (G.2 5, c_1, .inr (.inr (.inr (.inr c_2)))))]) hP hD [1] [0] rfl rfl (by decide) (by decide) hk1 hFc hP1 hD1
    generalize H1 = H at hP hS ⊢
    have hP : PP G [(l0, .inr (2, [.int lm, .ref e0, .int ln])), (e0, .inl (G.2 5, cap, .inr (.inr (.inr (.inr ef))))), (na_1, .inl (G.2 5, c_1, .inr (.inr (.inr (.inr c_2)))))] H := va_P.sub hP [0, 1, 2] rfl
    have hD : va_D A [(l0, .inr (2, [.int lm, .ref e0, .int ln])), (e0, .inl (G.2 5, cap, .inr (.inr (.inr (.inr ef))))), (na_1, .inl (G.2 5, c_1, .inr (.inr (.inr (.inr c_2)))))] := hD.sub [0, 1, 2] (by decide) rfl
    refine lv_dup_x1 hx hb dJx4a65c_grow_92f84_40 rfl rfl ?_
    refine va_put (D := G.1) (ci := 2) (v := .ref na_1) (ty := .array (.object "java/lang/Object")) (C := RJx4a65c) (T := TJx4a65c) (N := 3) hx hb hts igJx4a65c tyJx4a65c tyJx4a65c_ok nmJx4a65c hown hK hP hD hS 0 rfl rfl 1 (by decide) (hts _ q993) (fun _ h9 => h9) rfl (by decide +kernel) rfl rfl (Nat.le_of_ble_eq_true rfl) dJx4a65c_grow_92f84_41 (fun H locs hP hD hS => ?_)
    have hP : PP G [(l0, .inr (2, [.int lm, .ref na_1, .int ln])), (e0, .inl (G.2 5, cap, .inr (.inr (.inr (.inr ef))))), (na_1, .inl (G.2 5, c_1, .inr (.inr (.inr (.inr c_2)))))] H := hP
    have hD : va_D A [(l0, .inr (2, [.int lm, .ref na_1, .int ln])), (e0, .inl (G.2 5, cap, .inr (.inr (.inr (.inr ef))))), (na_1, .inl (G.2 5, c_1, .inr (.inr (.inr (.inr c_2)))))] := hD
    have hP : PP G [(l0, .inr (2, [.int lm, .ref na_1, .int ln])), (na_1, .inl (G.2 5, c_1, .inr (.inr (.inr (.inr c_2)))))] _ := hP.sub [0, 2] rfl
    have hD : va_D A [(l0, .inr (2, [.int lm, .ref na_1, .int ln])), (na_1, .inl (G.2 5, c_1, .inr (.inr (.inr (.inr c_2)))))] := hD.sub [0, 2] (by decide) rfl
    subst hQC; exact W.aret (v := .ref na_1) hx hb hr (by first | exact Or.inl ⟨_, rfl⟩ | exact Or.inr ⟨_, rfl⟩) (Or.inr ⟨_, rfl⟩) (fun t ht hW => ⟨⟨(c_1, c_2), na_1, rfl, h, na_1, rfl, by rw [ht]; exact hP, hD⟩, hS.F ht⟩) hS.2.2 dJx4a65c_grow_92f84_44
  · have h := h.2 hc
    exact False.elim h
theorem dJx4a65c_grow_d5877_0 : decode cJx4a65c_grow_d5877 0 = .ok (.aload_n 0, 1) := by decide +kernel
theorem dJx4a65c_grow_d5877_1 : decode cJx4a65c_grow_d5877 1 = .ok (.aload_n 0, 1) := by decide +kernel
theorem dJx4a65c_grow_d5877_2 : decode cJx4a65c_grow_d5877 2 = .ok (.getfield 48, 3) := by decide +kernel
theorem dJx4a65c_grow_d5877_5 : decode cJx4a65c_grow_d5877 5 = .ok (.iconst 1, 1) := by decide +kernel
theorem dJx4a65c_grow_d5877_6 : decode cJx4a65c_grow_d5877 6 = .ok (.iadd, 1) := by decide +kernel
theorem dJx4a65c_grow_d5877_7 : decode cJx4a65c_grow_d5877 7 = .ok (.invokevirtual 69, 3) := by decide +kernel
theorem dJx4a65c_grow_d5877_10 : decode cJx4a65c_grow_d5877 10 = .ok (.areturn, 1) := by decide +kernel
def wnJx4a65c_grow_d5877N (post : Nat × (Nat → Option Nat) → Prop) (ln : Int32) (cap : Nat) (ef : Nat → Option Nat) : Prop :=
  wnJx4a65c_grow_92f84N (fun (z_1 : Nat × (Nat → Option Nat)) =>
    post (z_1.1, z_1.2)
    ) cap ef (ln + (1 : Int32))
abbrev wl_nJx4a65c_grow_d5877N : List Cond := .code yJx4a65c_grow_d5877 cJx4a65c_grow_d5877 1 (some (.array (.object "java/lang/Object"))) :: lwg
abbrev rm_nJx4a65c_grow_d5877N : Room := { frames := 4, cells := 1, slots := 60, locals := 131 }
set_option maxHeartbeats 4000000 in
set_option maxRecDepth 100000 in
theorem knJx4a65c_grow_d5877N {post : Nat × (Nat → Option Nat) → Prop} (l : Launch) (G : GT) (l0 : Nat) (e0 : Nat) (lm : Int32) (ln : Int32) (cap : Nat) (ef : Nat → Option Nat) (sz : Nat) (h : wnJx4a65c_grow_d5877N post ln cap ef) : Met l yJx4a65c_grow_d5877 wl_nJx4a65c_grow_d5877N rm_nJx4a65c_grow_d5877N (va_Pc [.ref l0] (fun U => U.heap.size = sz ∧ PP G [(l0, .inr (2, [.int lm, .ref e0, .int ln])), (e0, .inl (G.2 5, cap, .inr (.inr (.inr (.inr ef)))))] U.heap ∧ KK G U ∧ va_D (fun _ => True) [(l0, .inr (2, [.int lm, .ref e0, .int ln])), (e0, .inl (G.2 5, cap, .inr (.inr (.inr (.inr ef)))))] ∧ EA cap ef (va_A [(l0, .inr (2, [.int lm, .ref e0, .int ln])), (e0, .inl (G.2 5, cap, .inr (.inr (.inr (.inr ef)))))] sz) U U.heap)) (va_Qr post (fun u ra t => ∃ e0E : Nat, ra = e0E ∧ PP G [(l0, .inr (2, [.int lm, .ref e0E, .int ln])), (e0E, .inl (G.2 5, u.1, .inr (.inr (.inr (.inr (u.2))))))] t.heap ∧ va_D (va_A [(l0, .inr (2, [.int lm, .ref e0, .int ln])), (e0, .inl (G.2 5, cap, .inr (.inr (.inr (.inr ef)))))] sz) [(l0, .inr (2, [.int lm, .ref e0E, .int ln])), (e0E, .inl (G.2 5, u.1, .inr (.inr (.inr (.inr (u.2))))))]) (va_A [(l0, .inr (2, [.int lm, .ref e0, .int ln])), (e0, .inl (G.2 5, cap, .inr (.inr (.inr (.inr ef)))))] sz)) 1 60 (va_A [(l0, .inr (2, [.int lm, .ref e0, .int ln])), (e0, .inl (G.2 5, cap, .inr (.inr (.inr (.inr ef)))))] sz) := by
  refine Met.ofW (cc := cJx4a65c_grow_d5877) (maxL := 1) (ret := (some (.array (.object "java/lang/Object")))) (by decide) rfl ?_
  intro p e s m args below meth c s₁ B hml hv
  obtain ⟨rfl, hsz, hP, hKK, hD0, hF_ea⟩ := hv
  obtain ⟨hK, hN, hR, hFW, hNC⟩ := id hKK
  have hx := B.exec
  have hb := B.bytes
  have hr := B.returns
  have hts0 := atoms_spec (ws := wl_nJx4a65c_grow_d5877N) B.pre
  have hts : ∀ w ∈ lwg, w.before ([.ref l0] : List Value).toArray s = true := fun w hw => hts0 w (List.mem_cons_of_mem _ hw)
  have hown : s.vm.findClass RJx4a65c = some m.cls := findClass_of_methodNamed B.named
  have hlocks := B.notSynchronized
  subst hsz
  have hD := hD0.self (sz := s.heap.size)
  generalize hAe : va_A [(l0, .inr (2, [.int lm, .ref e0, .int ln])), (e0, .inl (G.2 5, cap, .inr (.inr (.inr (.inr ef)))))] s.heap.size = A at hD hF_ea ⊢
  have hA : ∀ q : Nat, s.heap.size ≤ q → A q := fun q h => by rw [← hAe]; exact Or.inr h
  have hS : va_S A s.heap s.heap [] := va_S.rf
  obtain ⟨QC, hQC⟩ : ∃ Z, Z = (va_Qr post (fun u ra t => ∃ e0E : Nat, ra = e0E ∧ PP G [(l0, .inr (2, [.int lm, .ref e0E, .int ln])), (e0E, .inl (G.2 5, u.1, .inr (.inr (.inr (.inr (u.2))))))] t.heap ∧ va_D A [(l0, .inr (2, [.int lm, .ref e0E, .int ln])), (e0E, .inl (G.2 5, u.1, .inr (.inr (.inr (.inr (u.2))))))]) A) := ⟨_, rfl⟩
  rw [← hQC]
  have hP : PP G [(l0, .inr (2, [.int lm, .ref e0, .int ln])), (e0, .inl (G.2 5, cap, .inr (.inr (.inr (.inr ef)))))] s.heap := hP
  have hl := lv_entry ([.ref l0]) (n := 1) (Nat.le_of_ble_eq_true rfl)
  rw [lg_entry_eq]
  generalize (lg_sl ([.ref l0]) ++ List.replicate (1 - (lg_sl ([.ref l0])).length) Slot.unset).toArray = ls at hl ⊢
  have hl : lv_has ls 1 [(0, .ref l0)] := hl
  refine lv_aload_n hx hb dJx4a65c_grow_d5877_0 rfl (lv_at hl 0 rfl) ?_
  refine lv_aload_n hx hb dJx4a65c_grow_d5877_1 rfl (lv_at hl 0 rfl) ?_
  refine va_get (D := G.1) (ci := 2) (v := .int ln) (C := RJx4a65c) (T := TJx4a65c) (N := 3) hx hb hts igJx4a65c hown hK hP 0 rfl rfl 2 (by decide) (hts _ q994) (fun _ h9 => h9) rfl dJx4a65c_grow_d5877_2 ?_
  refine lv_iconst (v := 1) hx hb dJx4a65c_grow_d5877_5 (by decide) ?_
  refine lv_iadd hx hb dJx4a65c_grow_d5877_6 ?_
  have hPc := hP
  have hDc := hD.sub (ws' := [(l0, .inr (2, [.int lm, .ref e0, .int ln])), (e0, .inl (G.2 5, cap, .inr (.inr (.inr (.inr ef)))))]) [0, 1] (by decide) rfl
  have hFc := va_free (wc := [(l0, .inr (2, [.int lm, .ref e0, .int ln])), (e0, .inl (G.2 5, cap, .inr (.inr (.inr (.inr ef)))))]) hD hS hA [0, 1] rfl
  have hf_ea := (hF_ea.kept hS.2.1).narrow hFc
  refine va_callr (va_runV (C := RJx4a65c) (As := [.int (ln + (1 : Int32))]) (rest := []) ⟨hx, hb, hml, hown, hts⟩ (knJx4a65c_grow_92f84N l G l0 e0 lm ln cap ef (ln + (1 : Int32)) _ h) (cwV 1 hts (gdV q1180 q1182 qs24 q9 q1183) rfl rfl rfl (by decide +kernel) ⟨Nat.le_of_ble_eq_true rfl, Nat.le_of_ble_eq_true rfl⟩) (preVwe (E := fun U H => EA cap ef _ U H) (fun u U H hv h => h.moved hv) hPc hKK hDc hf_ea (va_recv hK hPc (ci := 2) (q0 := 0) rfl rfl)) rfl rfl hl.1 rfl (lv_room (Nat.le_of_ble_eq_true rfl)) dJx4a65c_grow_d5877_7 ⟨Nat.le_of_ble_eq_true rfl, Nat.le_of_ble_eq_true rfl⟩) hS (fun q _ h => hFc q h) hFc (fun u ra t H1 locs ht hvm h hB hz1 hk1 hS => ?_)
  obtain ⟨cap_1, ef_1⟩ := u
  obtain ⟨e0_1, hB⟩ := hB
  obtain ⟨era, hB⟩ := hB
  rw [era]
  obtain ⟨hP1, hD1⟩ := hB
  rw [ht] at hP1
  have hP := hP1
  have hD : va_D A [(l0, .inr (2, [.int lm, .ref e0_1, .int ln])), (e0_1, .inl (G.2 5, cap_1, .inr (.inr (.inr (.inr ef_1)))))] := hD1.weaken (fun _ _ _ h => hFc _ h)
  generalize H1 = H at hP hS ⊢
  have hP : PP G [(l0, .inr (2, [.int lm, .ref e0_1, .int ln])), (e0_1, .inl (G.2 5, cap_1, .inr (.inr (.inr (.inr ef_1)))))] H := hP
  subst hQC; exact W.aret (v := .ref e0_1) hx hb hr (by first | exact Or.inl ⟨_, rfl⟩ | exact Or.inr ⟨_, rfl⟩) (Or.inr ⟨_, rfl⟩) (fun t ht hW => ⟨⟨(cap_1, ef_1), e0_1, rfl, h, e0_1, rfl, by rw [ht]; exact hP, hD⟩, hS.F ht⟩) hS.2.2 dJx4a65c_grow_d5877_10
theorem dJx4a65c_add_72be8_0 : decode cJx4a65c_add_72be8 0 = .ok (.iload_n 3, 1) := by decide +kernel
theorem dJx4a65c_add_72be8_1 : decode cJx4a65c_add_72be8 1 = .ok (.aload_n 2, 1) := by decide +kernel
theorem dJx4a65c_add_72be8_2 : decode cJx4a65c_add_72be8 2 = .ok (.arraylength, 1) := by decide +kernel
theorem dJx4a65c_add_72be8_3 : decode cJx4a65c_add_72be8 3 = .ok (.if_icmp .ne 8, 3) := by decide +kernel
theorem dJx4a65c_add_72be8_6 : decode cJx4a65c_add_72be8 6 = .ok (.aload_n 0, 1) := by decide +kernel
theorem dJx4a65c_add_72be8_7 : decode cJx4a65c_add_72be8 7 = .ok (.invokevirtual 129, 3) := by decide +kernel
theorem dJx4a65c_add_72be8_10 : decode cJx4a65c_add_72be8 10 = .ok (.astore_n 2, 1) := by decide +kernel
theorem dJx4a65c_add_72be8_11 : decode cJx4a65c_add_72be8 11 = .ok (.aload_n 2, 1) := by decide +kernel
theorem dJx4a65c_add_72be8_12 : decode cJx4a65c_add_72be8 12 = .ok (.iload_n 3, 1) := by decide +kernel
theorem dJx4a65c_add_72be8_13 : decode cJx4a65c_add_72be8 13 = .ok (.aload_n 1, 1) := by decide +kernel
theorem dJx4a65c_add_72be8_14 : decode cJx4a65c_add_72be8 14 = .ok (.aastore, 1) := by decide +kernel
theorem dJx4a65c_add_72be8_15 : decode cJx4a65c_add_72be8 15 = .ok (.aload_n 0, 1) := by decide +kernel
theorem dJx4a65c_add_72be8_16 : decode cJx4a65c_add_72be8 16 = .ok (.iload_n 3, 1) := by decide +kernel
theorem dJx4a65c_add_72be8_17 : decode cJx4a65c_add_72be8 17 = .ok (.iconst 1, 1) := by decide +kernel
theorem dJx4a65c_add_72be8_18 : decode cJx4a65c_add_72be8 18 = .ok (.iadd, 1) := by decide +kernel
theorem dJx4a65c_add_72be8_19 : decode cJx4a65c_add_72be8 19 = .ok (.putfield 48, 3) := by decide +kernel
theorem dJx4a65c_add_72be8_22 : decode cJx4a65c_add_72be8 22 = .ok (.return_, 1) := by decide +kernel
def wnJx4a65c_add_72be8N (post : Int32 × Nat × (Nat → Option Nat) → Prop) (ew : Nat) (ln : Int32) (cap : Nat) (ef : Nat → Option Nat) (p3 : Int32) : Prop :=
  ((¬ p3 = (nI cap)) →
    vp_in p3 cap ∧
    post ((p3 + (1 : Int32)), cap, (va_up ef p3.toNatClampNeg (some ew)))
  ) ∧ ((p3 = (nI cap)) →
    wnJx4a65c_grow_d5877N (fun (z_1 : Nat × (Nat → Option Nat)) =>
      vp_in p3 z_1.1 ∧
      post ((p3 + (1 : Int32)), z_1.1, (va_up z_1.2 p3.toNatClampNeg (some ew)))
      ) ln cap ef
  )
abbrev wl_nJx4a65c_add_72be8N : List Cond := .code yJx4a65c_add_72be8 cJx4a65c_add_72be8 4 none :: lwg
abbrev rm_nJx4a65c_add_72be8N : Room := { frames := 5, cells := 1, slots := 60, locals := 151 }
set_option maxHeartbeats 4000000 in
set_option maxRecDepth 100000 in
theorem knJx4a65c_add_72be8N {post : Int32 × Nat × (Nat → Option Nat) → Prop} (l : Launch) (G : GT) (l0 : Nat) (e0 : Nat) (ew : Nat) (lm : Int32) (ln : Int32) (cap : Nat) (ef : Nat → Option Nat) (p3 : Int32) (sz : Nat) (h : wnJx4a65c_add_72be8N post ew ln cap ef p3) : Met l yJx4a65c_add_72be8 wl_nJx4a65c_add_72be8N rm_nJx4a65c_add_72be8N (va_Pc [.ref l0, .ref ew, .ref e0, .int p3] (fun U => U.heap.size = sz ∧ PP G [(l0, .inr (2, [.int lm, .ref e0, .int ln])), (e0, .inl (G.2 5, cap, .inr (.inr (.inr (.inr ef)))))] U.heap ∧ KK G U ∧ va_D (fun _ => True) [(l0, .inr (2, [.int lm, .ref e0, .int ln])), (e0, .inl (G.2 5, cap, .inr (.inr (.inr (.inr ef)))))] ∧ EA cap ef (va_A [(l0, .inr (2, [.int lm, .ref e0, .int ln])), (e0, .inl (G.2 5, cap, .inr (.inr (.inr (.inr ef)))))] sz) U U.heap ∧ EW ew (va_A [(l0, .inr (2, [.int lm, .ref e0, .int ln])), (e0, .inl (G.2 5, cap, .inr (.inr (.inr (.inr ef)))))] sz) U U.heap)) (va_Qv post (fun u t => ∃ e0E : Nat, PP G [(l0, .inr (2, [.int lm, .ref e0E, .int (u.1)])), (e0E, .inl (G.2 5, u.2.1, .inr (.inr (.inr (.inr (u.2.2))))))] t.heap ∧ va_D (va_A [(l0, .inr (2, [.int lm, .ref e0, .int ln])), (e0, .inl (G.2 5, cap, .inr (.inr (.inr (.inr ef)))))] sz) [(l0, .inr (2, [.int lm, .ref e0E, .int (u.1)])), (e0E, .inl (G.2 5, u.2.1, .inr (.inr (.inr (.inr (u.2.2))))))]) (va_A [(l0, .inr (2, [.int lm, .ref e0, .int ln])), (e0, .inl (G.2 5, cap, .inr (.inr (.inr (.inr ef)))))] sz)) 1 60 (va_A [(l0, .inr (2, [.int lm, .ref e0, .int ln])), (e0, .inl (G.2 5, cap, .inr (.inr (.inr (.inr ef)))))] sz) := by
  refine Met.ofW (cc := cJx4a65c_add_72be8) (maxL := 4) (ret := none) (by decide) rfl ?_
  intro p e s m args below meth c s₁ B hml hv
  obtain ⟨rfl, hsz, hP, hKK, hD0, hF_ea, hF_ew⟩ := hv
  obtain ⟨hK, hN, hR, hFW, hNC⟩ := id hKK
  have hx := B.exec
  have hb := B.bytes
  have hr := B.returns
  have hts0 := atoms_spec (ws := wl_nJx4a65c_add_72be8N) B.pre
  have hts : ∀ w ∈ lwg, w.before ([.ref l0, .ref ew, .ref e0, .int p3] : List Value).toArray s = true := fun w hw => hts0 w (List.mem_cons_of_mem _ hw)
  have hown : s.vm.findClass RJx4a65c = some m.cls := findClass_of_methodNamed B.named
  have hlocks := B.notSynchronized
  subst hsz
  have hD := hD0.self (sz := s.heap.size)
  generalize hAe : va_A [(l0, .inr (2, [.int lm, .ref e0, .int ln])), (e0, .inl (G.2 5, cap, .inr (.inr (.inr (.inr ef)))))] s.heap.size = A at hD hF_ea hF_ew ⊢
  have hA : ∀ q : Nat, s.heap.size ≤ q → A q := fun q h => by rw [← hAe]; exact Or.inr h
  have hS : va_S A s.heap s.heap [] := va_S.rf
  obtain ⟨QC, hQC⟩ : ∃ Z, Z = (va_Qv post (fun u t => ∃ e0E : Nat, PP G [(l0, .inr (2, [.int lm, .ref e0E, .int (u.1)])), (e0E, .inl (G.2 5, u.2.1, .inr (.inr (.inr (.inr (u.2.2))))))] t.heap ∧ va_D A [(l0, .inr (2, [.int lm, .ref e0E, .int (u.1)])), (e0E, .inl (G.2 5, u.2.1, .inr (.inr (.inr (.inr (u.2.2))))))]) A) := ⟨_, rfl⟩
  rw [← hQC]
  have hP : PP G [(l0, .inr (2, [.int lm, .ref e0, .int ln])), (e0, .inl (G.2 5, cap, .inr (.inr (.inr (.inr ef)))))] s.heap := hP
  have hl := lv_entry ([.ref l0, .ref ew, .ref e0, .int p3]) (n := 4) (Nat.le_of_ble_eq_true rfl)
  rw [lg_entry_eq]
  generalize (lg_sl ([.ref l0, .ref ew, .ref e0, .int p3]) ++ List.replicate (4 - (lg_sl ([.ref l0, .ref ew, .ref e0, .int p3])).length) Slot.unset).toArray = ls at hl ⊢
  have hl : lv_has ls 4 [(0, .ref l0), (1, .ref ew), (2, .ref e0), (3, .int p3)] := hl
  refine lv_iload_n hx hb dJx4a65c_add_72be8_0 rfl (lv_at hl 3 rfl) ?_
  refine lv_aload_n hx hb dJx4a65c_add_72be8_1 rfl (lv_at hl 2 rfl) ?_
  refine va_alen (D := G.1) (v := (nI cap)) hx hb hK hP 1 5 rfl rfl rfl dJx4a65c_add_72be8_2 ?_
  refine lv_icmp_ne (tgt := 11) hx hb dJx4a65c_add_72be8_3 (by decide) (fun hc => ?_) (fun hc => ?_)
  · have h := h.1 hc
    refine lv_aload_n hx hb dJx4a65c_add_72be8_11 rfl (lv_at hl 2 rfl) ?_
    refine lv_iload_n hx hb dJx4a65c_add_72be8_12 rfl (lv_at hl 3 rfl) ?_
    refine lv_aload_n hx hb dJx4a65c_add_72be8_13 rfl (lv_at hl 1 rfl) ?_
    obtain ⟨hin, h⟩ := h
    refine va_astqM (D := G.1) hx hb hK hP hD hS 1 5 rfl rfl (hF_ew.kept hS.2.1).1 hin dJx4a65c_add_72be8_14 (fun H locs hP hD hS => ?_)
    have hP : PP G [(l0, .inr (2, [.int lm, .ref e0, .int ln])), (e0, .inl (G.2 5, cap, .inr (.inr (.inr (.inr (va_up ef p3.toNatClampNeg (some ew)))))))] H := hP
    have hD : va_D A [(l0, .inr (2, [.int lm, .ref e0, .int ln])), (e0, .inl (G.2 5, cap, .inr (.inr (.inr (.inr (va_up ef p3.toNatClampNeg (some ew)))))))] := hD
    refine lv_aload_n hx hb dJx4a65c_add_72be8_15 rfl (lv_at hl 0 rfl) ?_
    refine lv_iload_n hx hb dJx4a65c_add_72be8_16 rfl (lv_at hl 3 rfl) ?_
    refine lv_iconst (v := 1) hx hb dJx4a65c_add_72be8_17 (by decide) ?_
    refine lv_iadd hx hb dJx4a65c_add_72be8_18 ?_
    refine va_put (D := G.1) (ci := 2) (v := .int (p3 + (1 : Int32))) (ty := .int) (C := RJx4a65c) (T := TJx4a65c) (N := 3) hx hb hts igJx4a65c tyJx4a65c tyJx4a65c_ok nmJx4a65c hown hK hP hD hS 0 rfl rfl 2 (by decide) (hts _ q994) (fun _ h9 => h9) rfl (by decide +kernel) rfl rfl (Nat.le_of_ble_eq_true rfl) dJx4a65c_add_72be8_19 (fun H locs hP hD hS => ?_)
    have hP : PP G [(l0, .inr (2, [.int lm, .ref e0, .int (p3 + (1 : Int32))])), (e0, .inl (G.2 5, cap, .inr (.inr (.inr (.inr (va_up ef p3.toNatClampNeg (some ew)))))))] H := hP
    have hD : va_D A [(l0, .inr (2, [.int lm, .ref e0, .int (p3 + (1 : Int32))])), (e0, .inl (G.2 5, cap, .inr (.inr (.inr (.inr (va_up ef p3.toNatClampNeg (some ew)))))))] := hD
    refine W.widen (k := 1) (n := 60) (Nat.le_of_ble_eq_true rfl) (Nat.le_of_ble_eq_true rfl) ?_
    subst hQC; exact W.vret hx hb hr (fun t ht hW => ⟨⟨((p3 + (1 : Int32)), cap, (va_up ef p3.toNatClampNeg (some ew))), rfl, h, e0, by rw [ht]; exact hP, hD⟩, hS.F ht⟩) hS.2.2 dJx4a65c_add_72be8_22
  · have h := h.2 hc
    refine lv_aload_n hx hb dJx4a65c_add_72be8_6 rfl (lv_at hl 0 rfl) ?_
    have hPc := hP
    have hDc := hD.sub (ws' := [(l0, .inr (2, [.int lm, .ref e0, .int ln])), (e0, .inl (G.2 5, cap, .inr (.inr (.inr (.inr ef)))))]) [0, 1] (by decide) rfl
    have hFc := va_free (wc := [(l0, .inr (2, [.int lm, .ref e0, .int ln])), (e0, .inl (G.2 5, cap, .inr (.inr (.inr (.inr ef)))))]) hD hS hA [0, 1] rfl
    have hf_ea := (hF_ea.kept hS.2.1).narrow hFc
    refine va_callr (va_runV (C := RJx4a65c) (As := []) (rest := []) ⟨hx, hb, hml, hown, hts⟩ (knJx4a65c_grow_d5877N l G l0 e0 lm ln cap ef _ h) (cwV 0 hts (gdV q1176 q1178 qs23 q9 q1179) rfl rfl rfl (by decide +kernel) ⟨Nat.le_of_ble_eq_true rfl, Nat.le_of_ble_eq_true rfl⟩) (preVwe (E := fun U H => EA cap ef _ U H) (fun u U H hv h => h.moved hv) hPc hKK hDc hf_ea (va_recv hK hPc (ci := 2) (q0 := 0) rfl rfl)) rfl rfl hl.1 rfl (lv_room (Nat.le_of_ble_eq_true rfl)) dJx4a65c_add_72be8_7 ⟨Nat.le_of_ble_eq_true rfl, Nat.le_of_ble_eq_true rfl⟩) hS (fun q _ h => hFc q h) hFc (fun u ra t H1 locs ht hvm h hB hz1 hk1 hS => ?_)
    obtain ⟨cap_1, ef_1⟩ := u
    obtain ⟨e0_1, hB⟩ := hB
    obtain ⟨era, hB⟩ := hB
    rw [era]
    obtain ⟨hP1, hD1⟩ := hB
    rw [ht] at hP1
    have hP := hP1
    have hD : va_D A [(l0, .inr (2, [.int lm, .ref e0_1, .int ln])), (e0_1, .inl (G.2 5, cap_1, .inr (.inr (.inr (.inr ef_1)))))] := hD1.weaken (fun _ _ _ h => hFc _ h)
    generalize H1 = H at hP hS ⊢
    have hP : PP G [(l0, .inr (2, [.int lm, .ref e0_1, .int ln])), (e0_1, .inl (G.2 5, cap_1, .inr (.inr (.inr (.inr ef_1)))))] H := hP
    refine lv_astore_n hx hb dJx4a65c_add_72be8_10 rfl hl (Nat.le_of_ble_eq_true rfl) rfl (fun ls hl => ?_)
    have hl : lv_has ls 4 [(2, .ref e0_1), (0, .ref l0), (1, .ref ew), (3, .int p3)] := hl
    refine lv_aload_n hx hb dJx4a65c_add_72be8_11 rfl (lv_at hl 0 rfl) ?_
    refine lv_iload_n hx hb dJx4a65c_add_72be8_12 rfl (lv_at hl 3 rfl) ?_
    refine lv_aload_n hx hb dJx4a65c_add_72be8_13 rfl (lv_at hl 2 rfl) ?_
    obtain ⟨hin, h⟩ := h
    refine va_astqM (D := G.1) hx hb hK hP hD hS 1 5 rfl rfl (hF_ew.kept hS.2.1).1 hin dJx4a65c_add_72be8_14 (fun H locs hP hD hS => ?_)
    have hP : PP G [(l0, .inr (2, [.int lm, .ref e0_1, .int ln])), (e0_1, .inl (G.2 5, cap_1, .inr (.inr (.inr (.inr (va_up ef_1 p3.toNatClampNeg (some ew)))))))] H := hP
    have hD : va_D A [(l0, .inr (2, [.int lm, .ref e0_1, .int ln])), (e0_1, .inl (G.2 5, cap_1, .inr (.inr (.inr (.inr (va_up ef_1 p3.toNatClampNeg (some ew)))))))] := hD
    refine lv_aload_n hx hb dJx4a65c_add_72be8_15 rfl (lv_at hl 1 rfl) ?_
    refine lv_iload_n hx hb dJx4a65c_add_72be8_16 rfl (lv_at hl 3 rfl) ?_
    refine lv_iconst (v := 1) hx hb dJx4a65c_add_72be8_17 (by decide) ?_
    refine lv_iadd hx hb dJx4a65c_add_72be8_18 ?_
    refine va_put (D := G.1) (ci := 2) (v := .int (p3 + (1 : Int32))) (ty := .int) (C := RJx4a65c) (T := TJx4a65c) (N := 3) hx hb hts igJx4a65c tyJx4a65c tyJx4a65c_ok nmJx4a65c hown hK hP hD hS 0 rfl rfl 2 (by decide) (hts _ q994) (fun _ h9 => h9) rfl (by decide +kernel) rfl rfl (Nat.le_of_ble_eq_true rfl) dJx4a65c_add_72be8_19 (fun H locs hP hD hS => ?_)
    have hP : PP G [(l0, .inr (2, [.int lm, .ref e0_1, .int (p3 + (1 : Int32))])), (e0_1, .inl (G.2 5, cap_1, .inr (.inr (.inr (.inr (va_up ef_1 p3.toNatClampNeg (some ew)))))))] H := hP
    have hD : va_D A [(l0, .inr (2, [.int lm, .ref e0_1, .int (p3 + (1 : Int32))])), (e0_1, .inl (G.2 5, cap_1, .inr (.inr (.inr (.inr (va_up ef_1 p3.toNatClampNeg (some ew)))))))] := hD
    subst hQC; exact W.vret hx hb hr (fun t ht hW => ⟨⟨((p3 + (1 : Int32)), cap_1, (va_up ef_1 p3.toNatClampNeg (some ew))), rfl, h, e0_1, by rw [ht]; exact hP, hD⟩, hS.F ht⟩) hS.2.2 dJx4a65c_add_72be8_22
theorem dJx4a65c_add_9ea2d_0 : decode cJx4a65c_add_9ea2d 0 = .ok (.aload_n 0, 1) := by decide +kernel
theorem dJx4a65c_add_9ea2d_1 : decode cJx4a65c_add_9ea2d 1 = .ok (.dup, 1) := by decide +kernel
theorem dJx4a65c_add_9ea2d_2 : decode cJx4a65c_add_9ea2d 2 = .ok (.getfield 63, 3) := by decide +kernel
theorem dJx4a65c_add_9ea2d_5 : decode cJx4a65c_add_9ea2d 5 = .ok (.iconst 1, 1) := by decide +kernel
theorem dJx4a65c_add_9ea2d_6 : decode cJx4a65c_add_9ea2d 6 = .ok (.iadd, 1) := by decide +kernel
theorem dJx4a65c_add_9ea2d_7 : decode cJx4a65c_add_9ea2d 7 = .ok (.putfield 63, 3) := by decide +kernel
theorem dJx4a65c_add_9ea2d_10 : decode cJx4a65c_add_9ea2d 10 = .ok (.aload_n 0, 1) := by decide +kernel
theorem dJx4a65c_add_9ea2d_11 : decode cJx4a65c_add_9ea2d 11 = .ok (.aload_n 1, 1) := by decide +kernel
theorem dJx4a65c_add_9ea2d_12 : decode cJx4a65c_add_9ea2d 12 = .ok (.aload_n 0, 1) := by decide +kernel
theorem dJx4a65c_add_9ea2d_13 : decode cJx4a65c_add_9ea2d 13 = .ok (.getfield 9, 3) := by decide +kernel
theorem dJx4a65c_add_9ea2d_16 : decode cJx4a65c_add_9ea2d 16 = .ok (.aload_n 0, 1) := by decide +kernel
theorem dJx4a65c_add_9ea2d_17 : decode cJx4a65c_add_9ea2d 17 = .ok (.getfield 48, 3) := by decide +kernel
theorem dJx4a65c_add_9ea2d_20 : decode cJx4a65c_add_9ea2d 20 = .ok (.invokevirtual 131, 3) := by decide +kernel
theorem dJx4a65c_add_9ea2d_23 : decode cJx4a65c_add_9ea2d 23 = .ok (.iconst 1, 1) := by decide +kernel
theorem dJx4a65c_add_9ea2d_24 : decode cJx4a65c_add_9ea2d 24 = .ok (.ireturn, 1) := by decide +kernel
def wnJx4a65c_add_9ea2dN (post : Int32 → Int32 × Int32 × Nat × (Nat → Option Nat) → Prop) (ew : Nat) (lm : Int32) (ln : Int32) (cap : Nat) (ef : Nat → Option Nat) : Prop :=
  wnJx4a65c_add_72be8N (fun (z_1 : Int32 × Nat × (Nat → Option Nat)) =>
    post (1 : Int32) ((lm + (1 : Int32)), z_1.1, z_1.2.1, z_1.2.2)
    ) ew ln cap ef ln
abbrev wl_nJx4a65c_add_9ea2dN : List Cond := .code yJx4a65c_add_9ea2d cJx4a65c_add_9ea2d 2 (some .boolean) :: lwg
abbrev rm_nJx4a65c_add_9ea2dN : Room := { frames := 6, cells := 1, slots := 60, locals := 174 }
set_option maxHeartbeats 4000000 in
set_option maxRecDepth 100000 in
theorem knJx4a65c_add_9ea2dN {post : Int32 → Int32 × Int32 × Nat × (Nat → Option Nat) → Prop} (l : Launch) (G : GT) (l0 : Nat) (e0 : Nat) (ew : Nat) (lm : Int32) (ln : Int32) (cap : Nat) (ef : Nat → Option Nat) (sz : Nat) (h : wnJx4a65c_add_9ea2dN post ew lm ln cap ef) : Met l yJx4a65c_add_9ea2d wl_nJx4a65c_add_9ea2dN rm_nJx4a65c_add_9ea2dN (va_Pc [.ref l0, .ref ew] (fun U => U.heap.size = sz ∧ PP G [(l0, .inr (2, [.int lm, .ref e0, .int ln])), (e0, .inl (G.2 5, cap, .inr (.inr (.inr (.inr ef)))))] U.heap ∧ KK G U ∧ va_D (fun _ => True) [(l0, .inr (2, [.int lm, .ref e0, .int ln])), (e0, .inl (G.2 5, cap, .inr (.inr (.inr (.inr ef)))))] ∧ EA cap ef (va_A [(l0, .inr (2, [.int lm, .ref e0, .int ln])), (e0, .inl (G.2 5, cap, .inr (.inr (.inr (.inr ef)))))] sz) U U.heap ∧ EW ew (va_A [(l0, .inr (2, [.int lm, .ref e0, .int ln])), (e0, .inl (G.2 5, cap, .inr (.inr (.inr (.inr ef)))))] sz) U U.heap)) (va_Qi post (fun u t => ∃ e0E : Nat, PP G [(l0, .inr (2, [.int (u.1), .ref e0E, .int (u.2.1)])), (e0E, .inl (G.2 5, u.2.2.1, .inr (.inr (.inr (.inr (u.2.2.2))))))] t.heap ∧ va_D (va_A [(l0, .inr (2, [.int lm, .ref e0, .int ln])), (e0, .inl (G.2 5, cap, .inr (.inr (.inr (.inr ef)))))] sz) [(l0, .inr (2, [.int (u.1), .ref e0E, .int (u.2.1)])), (e0E, .inl (G.2 5, u.2.2.1, .inr (.inr (.inr (.inr (u.2.2.2))))))]) (va_A [(l0, .inr (2, [.int lm, .ref e0, .int ln])), (e0, .inl (G.2 5, cap, .inr (.inr (.inr (.inr ef)))))] sz)) 1 60 (va_A [(l0, .inr (2, [.int lm, .ref e0, .int ln])), (e0, .inl (G.2 5, cap, .inr (.inr (.inr (.inr ef)))))] sz) := by
  refine Met.ofW (cc := cJx4a65c_add_9ea2d) (maxL := 2) (ret := (some .boolean)) (by decide) rfl ?_
  intro p e s m args below meth c s₁ B hml hv
  obtain ⟨rfl, hsz, hP, hKK, hD0, hF_ea, hF_ew⟩ := hv
  obtain ⟨hK, hN, hR, hFW, hNC⟩ := id hKK
  have hx := B.exec
  have hb := B.bytes
  have hr := B.returns
  have hts0 := atoms_spec (ws := wl_nJx4a65c_add_9ea2dN) B.pre
  have hts : ∀ w ∈ lwg, w.before ([.ref l0, .ref ew] : List Value).toArray s = true := fun w hw => hts0 w (List.mem_cons_of_mem _ hw)
  have hown : s.vm.findClass RJx4a65c = some m.cls := findClass_of_methodNamed B.named
  have hlocks := B.notSynchronized
  subst hsz
  have hD := hD0.self (sz := s.heap.size)
  generalize hAe : va_A [(l0, .inr (2, [.int lm, .ref e0, .int ln])), (e0, .inl (G.2 5, cap, .inr (.inr (.inr (.inr ef)))))] s.heap.size = A at hD hF_ea hF_ew ⊢
  have hA : ∀ q : Nat, s.heap.size ≤ q → A q := fun q h => by rw [← hAe]; exact Or.inr h
  have hS : va_S A s.heap s.heap [] := va_S.rf
  obtain ⟨QC, hQC⟩ : ∃ Z, Z = (va_Qi post (fun u t => ∃ e0E : Nat, PP G [(l0, .inr (2, [.int (u.1), .ref e0E, .int (u.2.1)])), (e0E, .inl (G.2 5, u.2.2.1, .inr (.inr (.inr (.inr (u.2.2.2))))))] t.heap ∧ va_D A [(l0, .inr (2, [.int (u.1), .ref e0E, .int (u.2.1)])), (e0E, .inl (G.2 5, u.2.2.1, .inr (.inr (.inr (.inr (u.2.2.2))))))]) A) := ⟨_, rfl⟩
  rw [← hQC]
  have hP : PP G [(l0, .inr (2, [.int lm, .ref e0, .int ln])), (e0, .inl (G.2 5, cap, .inr (.inr (.inr (.inr ef)))))] s.heap := hP
  have hl := lv_entry ([.ref l0, .ref ew]) (n := 2) (Nat.le_of_ble_eq_true rfl)
  rw [lg_entry_eq]
  generalize (lg_sl ([.ref l0, .ref ew]) ++ List.replicate (2 - (lg_sl ([.ref l0, .ref ew])).length) Slot.unset).toArray = ls at hl ⊢
  have hl : lv_has ls 2 [(0, .ref l0), (1, .ref ew)] := hl
  refine lv_aload_n hx hb dJx4a65c_add_9ea2d_0 rfl (lv_at hl 0 rfl) ?_
  refine lv_dup hx hb dJx4a65c_add_9ea2d_1 rfl ?_
  refine va_get (D := G.1) (ci := 2) (v := .int lm) (C := RJx4a65c) (T := TJx4a65c) (N := 3) hx hb hts igJx4a65c hown hK hP 0 rfl rfl 0 (by decide) (hts _ q996) (fun x9 h9 => u_same (hts _ q997) x9 h9) rfl dJx4a65c_add_9ea2d_2 ?_
  refine lv_iconst (v := 1) hx hb dJx4a65c_add_9ea2d_5 (by decide) ?_
  refine lv_iadd hx hb dJx4a65c_add_9ea2d_6 ?_
  refine va_put (D := G.1) (ci := 2) (v := .int (lm + (1 : Int32))) (ty := .int) (C := RJx4a65c) (T := TJx4a65c) (N := 3) hx hb hts igJx4a65c tyJx4a65c tyJx4a65c_ok nmJx4a65c hown hK hP hD hS 0 rfl rfl 0 (by decide) (hts _ q996) (fun x9 h9 => u_same (hts _ q997) x9 h9) rfl (by decide +kernel) rfl rfl (Nat.le_of_ble_eq_true rfl) dJx4a65c_add_9ea2d_7 (fun H locs hP hD hS => ?_)
  have hP : PP G [(l0, .inr (2, [.int (lm + (1 : Int32)), .ref e0, .int ln])), (e0, .inl (G.2 5, cap, .inr (.inr (.inr (.inr ef)))))] H := hP
  have hD : va_D A [(l0, .inr (2, [.int (lm + (1 : Int32)), .ref e0, .int ln])), (e0, .inl (G.2 5, cap, .inr (.inr (.inr (.inr ef)))))] := hD
  refine lv_aload_n hx hb dJx4a65c_add_9ea2d_10 rfl (lv_at hl 0 rfl) ?_
  refine lv_aload_n hx hb dJx4a65c_add_9ea2d_11 rfl (lv_at hl 1 rfl) ?_
  refine lv_aload_n hx hb dJx4a65c_add_9ea2d_12 rfl (lv_at hl 0 rfl) ?_
  refine va_get (D := G.1) (ci := 2) (v := .ref e0) (C := RJx4a65c) (T := TJx4a65c) (N := 3) hx hb hts igJx4a65c hown hK hP 0 rfl rfl 1 (by decide) (hts _ q993) (fun _ h9 => h9) rfl dJx4a65c_add_9ea2d_13 ?_
  refine lv_aload_n hx hb dJx4a65c_add_9ea2d_16 rfl (lv_at hl 0 rfl) ?_
  refine va_get (D := G.1) (ci := 2) (v := .int ln) (C := RJx4a65c) (T := TJx4a65c) (N := 3) hx hb hts igJx4a65c hown hK hP 0 rfl rfl 2 (by decide) (hts _ q994) (fun _ h9 => h9) rfl dJx4a65c_add_9ea2d_17 ?_
  have hPc := hP
  have hDc := hD.sub (ws' := [(l0, .inr (2, [.int (lm + (1 : Int32)), .ref e0, .int ln])), (e0, .inl (G.2 5, cap, .inr (.inr (.inr (.inr ef)))))]) [0, 1] (by decide) rfl
  have hFc := va_free (wc := [(l0, .inr (2, [.int (lm + (1 : Int32)), .ref e0, .int ln])), (e0, .inl (G.2 5, cap, .inr (.inr (.inr (.inr ef)))))]) hD hS hA [0, 1] rfl
  have hf_ea := (hF_ea.kept hS.2.1).narrow hFc
  have hf_ew := (hF_ew.kept hS.2.1).narrow hFc
  refine va_callv (va_runV (C := RJx4a65c) (As := [.ref ew, .ref e0, .int ln]) (rest := []) ⟨hx, hb, hml, hown, hts⟩ (knJx4a65c_add_72be8N l G l0 e0 ew (lm + (1 : Int32)) ln cap ef ln _ h) (cwV 3 hts (gdV q1172 q1174 qs22 q9 q1175) rfl rfl rfl (by decide +kernel) ⟨Nat.le_of_ble_eq_true rfl, Nat.le_of_ble_eq_true rfl⟩) (preVwe (E := fun U H => EA cap ef _ U H ∧ EW ew _ U H) (fun u U H hv h => ⟨h.1.moved hv, h.2.moved hv⟩) hPc hKK hDc ⟨hf_ea, hf_ew⟩ (va_recv hK hPc (ci := 2) (q0 := 0) rfl rfl)) rfl rfl hl.1 rfl (lv_room (Nat.le_of_ble_eq_true rfl)) dJx4a65c_add_9ea2d_20 ⟨Nat.le_of_ble_eq_true rfl, Nat.le_of_ble_eq_true rfl⟩) hS (fun q _ h => hFc q h) hFc (fun u t H1 locs ht hvm h hB hz1 hk1 hS => ?_)
  obtain ⟨ln_1, cap_1, ef_1⟩ := u
  obtain ⟨e0_1, hB⟩ := hB
  obtain ⟨hP1, hD1⟩ := hB
  rw [ht] at hP1
  have hP := hP1
  have hD : va_D A [(l0, .inr (2, [.int (lm + (1 : Int32)), .ref e0_1, .int ln_1])), (e0_1, .inl (G.2 5, cap_1, .inr (.inr (.inr (.inr ef_1)))))] := hD1.weaken (fun _ _ _ h => hFc _ h)
  generalize H1 = H at hP hS ⊢
  have hP : PP G [(l0, .inr (2, [.int (lm + (1 : Int32)), .ref e0_1, .int ln_1])), (e0_1, .inl (G.2 5, cap_1, .inr (.inr (.inr (.inr ef_1)))))] H := hP
  refine lv_iconst (v := 1) hx hb dJx4a65c_add_9ea2d_23 (by decide) ?_
  subst hQC; exact W.zret (v := (1 : Int32)) hx hb hr (by decide) (fun t ht hW => ⟨⟨_, ((lm + (1 : Int32)), ln_1, cap_1, ef_1), rfl, h, e0_1, by rw [ht]; exact hP, hD⟩, hS.F ht⟩) hS.2.2 dJx4a65c_add_9ea2d_24
theorem dX4_say_0 : decode cX4_say 0 = .ok (.aload_n 0, 1) := by decide +kernel
theorem dX4_say_1 : decode cX4_say 1 = .ok (.iconst 0, 1) := by decide +kernel
theorem dX4_say_2 : decode cX4_say 2 = .ok (.putfield 54, 3) := by decide +kernel
theorem dX4_say_5 : decode cX4_say 5 = .ok (.iload_n 1, 1) := by decide +kernel
theorem dX4_say_6 : decode cX4_say 6 = .ok (.iconst 0, 1) := by decide +kernel
theorem dX4_say_7 : decode cX4_say 7 = .ok (.bipush 7, 2) := by decide +kernel
theorem dX4_say_9 : decode cX4_say 9 = .ok (.invokestatic 119, 3) := by decide +kernel
theorem dX4_say_12 : decode cX4_say 12 = .ok (.ifCond .ne 9, 3) := by decide +kernel
theorem dX4_say_15 : decode cX4_say 15 = .ok (.aload_n 0, 1) := by decide +kernel
theorem dX4_say_16 : decode cX4_say 16 = .ok (.iconst 1, 1) := by decide +kernel
theorem dX4_say_17 : decode cX4_say 17 = .ok (.invokevirtual 123, 3) := by decide +kernel
theorem dX4_say_20 : decode cX4_say 20 = .ok (.ireturn, 1) := by decide +kernel
theorem dX4_say_21 : decode cX4_say 21 = .ok (.iload_n 1, 1) := by decide +kernel
theorem dX4_say_22 : decode cX4_say 22 = .ok (.ifCond .ne 12, 3) := by decide +kernel
theorem dX4_say_25 : decode cX4_say 25 = .ok (.iload_n 2, 1) := by decide +kernel
theorem dX4_say_26 : decode cX4_say 26 = .ok (.iconst 0, 1) := by decide +kernel
theorem dX4_say_27 : decode cX4_say 27 = .ok (.iconst 5, 1) := by decide +kernel
theorem dX4_say_28 : decode cX4_say 28 = .ok (.invokestatic 119, 3) := by decide +kernel
theorem dX4_say_31 : decode cX4_say 31 = .ok (.goto 32, 3) := by decide +kernel
theorem dX4_say_34 : decode cX4_say 34 = .ok (.iload_n 1, 1) := by decide +kernel
theorem dX4_say_35 : decode cX4_say 35 = .ok (.iconst 4, 1) := by decide +kernel
theorem dX4_say_36 : decode cX4_say 36 = .ok (.if_icmp .ge 11, 3) := by decide +kernel
theorem dX4_say_39 : decode cX4_say 39 = .ok (.aload_n 0, 1) := by decide +kernel
theorem dX4_say_40 : decode cX4_say 40 = .ok (.iload_n 2, 1) := by decide +kernel
theorem dX4_say_41 : decode cX4_say 41 = .ok (.invokevirtual 137, 3) := by decide +kernel
theorem dX4_say_44 : decode cX4_say 44 = .ok (.goto 19, 3) := by decide +kernel
theorem dX4_say_47 : decode cX4_say 47 = .ok (.iload_n 1, 1) := by decide +kernel
theorem dX4_say_48 : decode cX4_say 48 = .ok (.iconst 4, 1) := by decide +kernel
theorem dX4_say_49 : decode cX4_say 49 = .ok (.if_icmp .ne 10, 3) := by decide +kernel
theorem dX4_say_52 : decode cX4_say 52 = .ok (.iload_n 2, 1) := by decide +kernel
theorem dX4_say_53 : decode cX4_say 53 = .ok (.invokestatic 141, 3) := by decide +kernel
theorem dX4_say_56 : decode cX4_say 56 = .ok (.goto 7, 3) := by decide +kernel
theorem dX4_say_59 : decode cX4_say 59 = .ok (.iload_n 2, 1) := by decide +kernel
theorem dX4_say_60 : decode cX4_say 60 = .ok (.invokestatic 144, 3) := by decide +kernel
theorem dX4_say_63 : decode cX4_say 63 = .ok (.istore 4, 2) := by decide +kernel
theorem dX4_say_65 : decode cX4_say 65 = .ok (.iload 4, 2) := by decide +kernel
theorem dX4_say_67 : decode cX4_say 67 = .ok (.ifCond .eq 16, 3) := by decide +kernel
theorem dX4_say_70 : decode cX4_say 70 = .ok (.iload_n 1, 1) := by decide +kernel
theorem dX4_say_71 : decode cX4_say 71 = .ok (.iconst 1, 1) := by decide +kernel
theorem dX4_say_72 : decode cX4_say 72 = .ok (.if_icmp .le 17, 3) := by decide +kernel
theorem dX4_say_75 : decode cX4_say 75 = .ok (.aload_n 0, 1) := by decide +kernel
theorem dX4_say_76 : decode cX4_say 76 = .ok (.iload_n 3, 1) := by decide +kernel
theorem dX4_say_77 : decode cX4_say 77 = .ok (.invokevirtual 137, 3) := by decide +kernel
theorem dX4_say_80 : decode cX4_say 80 = .ok (.ifCond .ne 9, 3) := by decide +kernel
theorem dX4_say_83 : decode cX4_say 83 = .ok (.aload_n 0, 1) := by decide +kernel
theorem dX4_say_84 : decode cX4_say 84 = .ok (.iconst 1, 1) := by decide +kernel
theorem dX4_say_85 : decode cX4_say 85 = .ok (.invokevirtual 123, 3) := by decide +kernel
theorem dX4_say_88 : decode cX4_say 88 = .ok (.ireturn, 1) := by decide +kernel
theorem dX4_say_89 : decode cX4_say 89 = .ok (.aload_n 0, 1) := by decide +kernel
theorem dX4_say_90 : decode cX4_say 90 = .ok (.getfield 23, 3) := by decide +kernel
theorem dX4_say_93 : decode cX4_say 93 = .ok (.invokeinterface 107 1, 5) := by decide +kernel
theorem dX4_say_98 : decode cX4_say 98 = .ok (.bipush 40, 2) := by decide +kernel
theorem dX4_say_100 : decode cX4_say 100 = .ok (.if_icmp .ne 9, 3) := by decide +kernel
theorem dX4_say_103 : decode cX4_say 103 = .ok (.aload_n 0, 1) := by decide +kernel
theorem dX4_say_104 : decode cX4_say 104 = .ok (.iconst 2, 1) := by decide +kernel
theorem dX4_say_105 : decode cX4_say 105 = .ok (.invokevirtual 123, 3) := by decide +kernel
theorem dX4_say_108 : decode cX4_say 108 = .ok (.ireturn, 1) := by decide +kernel
theorem dX4_say_109 : decode cX4_say 109 = .ok (.iload_n 1, 1) := by decide +kernel
theorem dX4_say_110 : decode cX4_say 110 = .ok (.ifCond .ne 7, 3) := by decide +kernel
theorem dX4_say_113 : decode cX4_say 113 = .ok (.iconst 0, 1) := by decide +kernel
theorem dX4_say_114 : decode cX4_say 114 = .ok (.goto 4, 3) := by decide +kernel
theorem dX4_say_117 : decode cX4_say 117 = .ok (.iconst 1, 1) := by decide +kernel
theorem dX4_say_118 : decode cX4_say 118 = .ok (.istore 5, 2) := by decide +kernel
theorem dX4_say_120 : decode cX4_say 120 = .ok (.iload_n 1, 1) := by decide +kernel
theorem dX4_say_121 : decode cX4_say 121 = .ok (.ifCond .le 17, 3) := by decide +kernel
theorem dX4_say_124 : decode cX4_say 124 = .ok (.iload_n 1, 1) := by decide +kernel
theorem dX4_say_125 : decode cX4_say 125 = .ok (.iconst 4, 1) := by decide +kernel
theorem dX4_say_126 : decode cX4_say 126 = .ok (.if_icmp .ge 12, 3) := by decide +kernel
theorem dX4_say_129 : decode cX4_say 129 = .ok (.iconst 1, 1) := by decide +kernel
theorem dX4_say_130 : decode cX4_say 130 = .ok (.aload_n 0, 1) := by decide +kernel
theorem dX4_say_131 : decode cX4_say 131 = .ok (.iload_n 2, 1) := by decide +kernel
theorem dX4_say_132 : decode cX4_say 132 = .ok (.invokevirtual 147, 3) := by decide +kernel
theorem dX4_say_135 : decode cX4_say 135 = .ok (.iadd, 1) := by decide +kernel
theorem dX4_say_136 : decode cX4_say 136 = .ok (.istore 5, 2) := by decide +kernel
theorem dX4_say_138 : decode cX4_say 138 = .ok (.iload_n 1, 1) := by decide +kernel
theorem dX4_say_139 : decode cX4_say 139 = .ok (.iconst 1, 1) := by decide +kernel
theorem dX4_say_140 : decode cX4_say 140 = .ok (.if_icmp .le 17, 3) := by decide +kernel
theorem dX4_say_143 : decode cX4_say 143 = .ok (.iload 5, 2) := by decide +kernel
theorem dX4_say_145 : decode cX4_say 145 = .ok (.iconst 1, 1) := by decide +kernel
theorem dX4_say_146 : decode cX4_say 146 = .ok (.aload_n 0, 1) := by decide +kernel
theorem dX4_say_147 : decode cX4_say 147 = .ok (.iload_n 3, 1) := by decide +kernel
theorem dX4_say_148 : decode cX4_say 148 = .ok (.invokevirtual 147, 3) := by decide +kernel
theorem dX4_say_151 : decode cX4_say 151 = .ok (.iadd, 1) := by decide +kernel
theorem dX4_say_152 : decode cX4_say 152 = .ok (.invokestatic 150, 3) := by decide +kernel
theorem dX4_say_155 : decode cX4_say 155 = .ok (.istore 5, 2) := by decide +kernel
theorem dX4_say_157 : decode cX4_say 157 = .ok (.aload_n 0, 1) := by decide +kernel
theorem dX4_say_158 : decode cX4_say 158 = .ok (.getfield 23, 3) := by decide +kernel
theorem dX4_say_161 : decode cX4_say 161 = .ok (.iconst 4, 1) := by decide +kernel
theorem dX4_say_162 : decode cX4_say 162 = .ok (.newarray .int, 2) := by decide +kernel
theorem dX4_say_164 : decode cX4_say 164 = .ok (.dup, 1) := by decide +kernel
theorem dX4_say_165 : decode cX4_say 165 = .ok (.iconst 0, 1) := by decide +kernel
theorem dX4_say_166 : decode cX4_say 166 = .ok (.iload_n 1, 1) := by decide +kernel
theorem dX4_say_167 : decode cX4_say 167 = .ok (.iastore, 1) := by decide +kernel
theorem dX4_say_168 : decode cX4_say 168 = .ok (.dup, 1) := by decide +kernel
theorem dX4_say_169 : decode cX4_say 169 = .ok (.iconst 1, 1) := by decide +kernel
theorem dX4_say_170 : decode cX4_say 170 = .ok (.iload_n 2, 1) := by decide +kernel
theorem dX4_say_171 : decode cX4_say 171 = .ok (.iastore, 1) := by decide +kernel
theorem dX4_say_172 : decode cX4_say 172 = .ok (.dup, 1) := by decide +kernel
theorem dX4_say_173 : decode cX4_say 173 = .ok (.iconst 2, 1) := by decide +kernel
theorem dX4_say_174 : decode cX4_say 174 = .ok (.iload_n 3, 1) := by decide +kernel
theorem dX4_say_175 : decode cX4_say 175 = .ok (.iastore, 1) := by decide +kernel
theorem dX4_say_176 : decode cX4_say 176 = .ok (.dup, 1) := by decide +kernel
theorem dX4_say_177 : decode cX4_say 177 = .ok (.iconst 3, 1) := by decide +kernel
theorem dX4_say_178 : decode cX4_say 178 = .ok (.iload 5, 2) := by decide +kernel
theorem dX4_say_180 : decode cX4_say 180 = .ok (.iastore, 1) := by decide +kernel
theorem dX4_say_181 : decode cX4_say 181 = .ok (.invokeinterface 156 2, 5) := by decide +kernel
theorem dX4_say_186 : decode cX4_say 186 = .ok (.pop, 1) := by decide +kernel
theorem dX4_say_187 : decode cX4_say 187 = .ok (.aload_n 0, 1) := by decide +kernel
theorem dX4_say_188 : decode cX4_say 188 = .ok (.getfield 23, 3) := by decide +kernel
theorem dX4_say_191 : decode cX4_say 191 = .ok (.invokeinterface 107 1, 5) := by decide +kernel
theorem dX4_say_196 : decode cX4_say 196 = .ok (.iconst 1, 1) := by decide +kernel
theorem dX4_say_197 : decode cX4_say 197 = .ok (.isub, 1) := by decide +kernel
theorem dX4_say_198 : decode cX4_say 198 = .ok (.ireturn, 1) := by decide +kernel
def wnX4_sayN_C157 (post : Int32 → Int32 × Int32 × Int32 × Nat × (Nat → Option Nat) × Nat × (Nat → Int32) → Prop) (lm : Int32) (ln : Int32) (cap : Nat) (ef : Nat → Option Nat) (p1 : Int32) (p2 : Int32) (p3 : Int32) (i5 : Int32) : Prop :=
  ∀ q_1 : Nat,
  wnJx4a65c_add_9ea2dN (fun (r_4 : Int32) (z_1 : Int32 × Int32 × Nat × (Nat → Option Nat)) =>
    wJx4a65c_size_8abf5 (fun r_5 : Int32 =>
      post (r_5 - (1 : Int32)) ((0 : Int32), z_1.1, z_1.2.1, z_1.2.2.1, z_1.2.2.2, q_1, (upd (upd (upd (upd (fun _ => (0 : Int32)) (0 : Int32).toNatClampNeg p1) (1 : Int32).toNatClampNeg p2) (2 : Int32).toNatClampNeg p3) (3 : Int32).toNatClampNeg i5))
      ) z_1.2.1
    ) q_1 lm ln cap ef
def wnX4_sayN_C65 (post : Int32 → Int32 × Int32 × Int32 × Nat × (Nat → Option Nat) × Nat × (Nat → Int32) → Prop) (sn : Nat) (sq : Nat → Nat → Int32) (lm : Int32) (ln : Int32) (cap : Nat) (ef : Nat → Option Nat) (p1 : Int32) (p2 : Int32) (p3 : Int32) (i4 : Int32) : Prop :=
  ((i4 = 0) →
    False
  ) ∧ (¬ (i4 = 0) →
    ((p1 ≤ (1 : Int32)) →
      wJx4a65c_size_8abf5 (fun r_3 : Int32 =>
        ((¬ r_3 = (40 : Int32)) →
          ((¬ p1 = 0) →
            ((p1 ≤ 0) →
              ((p1 ≤ (1 : Int32)) →
                wnX4_sayN_C157 post lm ln cap ef p1 p2 p3 (1 : Int32)
              ) ∧ (¬ (p1 ≤ (1 : Int32)) →
                wX4_built (fun r_6 : Int32 =>
                  ∀ x_1 : Int32, x_1 = (if (1 : Int32) < ((1 : Int32) + r_6) then ((1 : Int32) + r_6) else (1 : Int32)) →
                  wnX4_sayN_C157 post lm ln cap ef p1 p2 p3 x_1
                  ) sn sq p3
              )
            ) ∧ (¬ (p1 ≤ 0) →
              (((4 : Int32) ≤ p1) →
                ((p1 ≤ (1 : Int32)) →
                  wnX4_sayN_C157 post lm ln cap ef p1 p2 p3 (1 : Int32)
                ) ∧ (¬ (p1 ≤ (1 : Int32)) →
                  wX4_built (fun r_7 : Int32 =>
                    ∀ x_2 : Int32, x_2 = (if (1 : Int32) < ((1 : Int32) + r_7) then ((1 : Int32) + r_7) else (1 : Int32)) →
                    wnX4_sayN_C157 post lm ln cap ef p1 p2 p3 x_2
                    ) sn sq p3
                )
              ) ∧ (¬ ((4 : Int32) ≤ p1) →
                wX4_built (fun r_8 : Int32 =>
                  ((p1 ≤ (1 : Int32)) →
                    wnX4_sayN_C157 post lm ln cap ef p1 p2 p3 ((1 : Int32) + r_8)
                  ) ∧ (¬ (p1 ≤ (1 : Int32)) →
                    wX4_built (fun r_9 : Int32 =>
                      ∀ x_3 : Int32, x_3 = (if ((1 : Int32) + r_8) < ((1 : Int32) + r_9) then ((1 : Int32) + r_9) else ((1 : Int32) + r_8)) →
                      wnX4_sayN_C157 post lm ln cap ef p1 p2 p3 x_3
                      ) sn sq p3
                  )
                  ) sn sq p2
              )
            )
          ) ∧ ((p1 = 0) →
            ((p1 ≤ 0) →
              ((p1 ≤ (1 : Int32)) →
                wnX4_sayN_C157 post lm ln cap ef p1 p2 p3 (0 : Int32)
              ) ∧ (¬ (p1 ≤ (1 : Int32)) →
                wX4_built (fun r_10 : Int32 =>
                  ∀ x_4 : Int32, x_4 = (if (0 : Int32) < ((1 : Int32) + r_10) then ((1 : Int32) + r_10) else (0 : Int32)) →
                  wnX4_sayN_C157 post lm ln cap ef p1 p2 p3 x_4
                  ) sn sq p3
              )
            ) ∧ (¬ (p1 ≤ 0) →
              (((4 : Int32) ≤ p1) →
                ((p1 ≤ (1 : Int32)) →
                  wnX4_sayN_C157 post lm ln cap ef p1 p2 p3 (0 : Int32)
                ) ∧ (¬ (p1 ≤ (1 : Int32)) →
                  wX4_built (fun r_11 : Int32 =>
                    ∀ x_5 : Int32, x_5 = (if (0 : Int32) < ((1 : Int32) + r_11) then ((1 : Int32) + r_11) else (0 : Int32)) →
                    wnX4_sayN_C157 post lm ln cap ef p1 p2 p3 x_5
                    ) sn sq p3
                )
              ) ∧ (¬ ((4 : Int32) ≤ p1) →
                wX4_built (fun r_12 : Int32 =>
                  ((p1 ≤ (1 : Int32)) →
                    wnX4_sayN_C157 post lm ln cap ef p1 p2 p3 ((1 : Int32) + r_12)
                  ) ∧ (¬ (p1 ≤ (1 : Int32)) →
                    wX4_built (fun r_13 : Int32 =>
                      ∀ x_6 : Int32, x_6 = (if ((1 : Int32) + r_12) < ((1 : Int32) + r_13) then ((1 : Int32) + r_13) else ((1 : Int32) + r_12)) →
                      wnX4_sayN_C157 post lm ln cap ef p1 p2 p3 x_6
                      ) sn sq p3
                  )
                  ) sn sq p2
              )
            )
          )
        ) ∧ ((r_3 = (40 : Int32)) →
          False
        )
        ) ln
    ) ∧ (¬ (p1 ≤ (1 : Int32)) →
      wX4_isSentence (fun r_14 : Int32 =>
        ((¬ r_14 = 0) →
          wJx4a65c_size_8abf5 (fun r_15 : Int32 =>
            ((¬ r_15 = (40 : Int32)) →
              ((¬ p1 = 0) →
                ((p1 ≤ 0) →
                  ((p1 ≤ (1 : Int32)) →
                    wnX4_sayN_C157 post lm ln cap ef p1 p2 p3 (1 : Int32)
                  ) ∧ (¬ (p1 ≤ (1 : Int32)) →
                    wX4_built (fun r_16 : Int32 =>
                      ∀ x_7 : Int32, x_7 = (if (1 : Int32) < ((1 : Int32) + r_16) then ((1 : Int32) + r_16) else (1 : Int32)) →
                      wnX4_sayN_C157 post lm ln cap ef p1 p2 p3 x_7
                      ) sn sq p3
                  )
                ) ∧ (¬ (p1 ≤ 0) →
                  (((4 : Int32) ≤ p1) →
                    ((p1 ≤ (1 : Int32)) →
                      wnX4_sayN_C157 post lm ln cap ef p1 p2 p3 (1 : Int32)
                    ) ∧ (¬ (p1 ≤ (1 : Int32)) →
                      wX4_built (fun r_17 : Int32 =>
                        ∀ x_8 : Int32, x_8 = (if (1 : Int32) < ((1 : Int32) + r_17) then ((1 : Int32) + r_17) else (1 : Int32)) →
                        wnX4_sayN_C157 post lm ln cap ef p1 p2 p3 x_8
                        ) sn sq p3
                    )
                  ) ∧ (¬ ((4 : Int32) ≤ p1) →
                    wX4_built (fun r_18 : Int32 =>
                      ((p1 ≤ (1 : Int32)) →
                        wnX4_sayN_C157 post lm ln cap ef p1 p2 p3 ((1 : Int32) + r_18)
                      ) ∧ (¬ (p1 ≤ (1 : Int32)) →
                        wX4_built (fun r_19 : Int32 =>
                          ∀ x_9 : Int32, x_9 = (if ((1 : Int32) + r_18) < ((1 : Int32) + r_19) then ((1 : Int32) + r_19) else ((1 : Int32) + r_18)) →
                          wnX4_sayN_C157 post lm ln cap ef p1 p2 p3 x_9
                          ) sn sq p3
                      )
                      ) sn sq p2
                  )
                )
              ) ∧ ((p1 = 0) →
                ((p1 ≤ 0) →
                  ((p1 ≤ (1 : Int32)) →
                    wnX4_sayN_C157 post lm ln cap ef p1 p2 p3 (0 : Int32)
                  ) ∧ (¬ (p1 ≤ (1 : Int32)) →
                    wX4_built (fun r_20 : Int32 =>
                      ∀ x_10 : Int32, x_10 = (if (0 : Int32) < ((1 : Int32) + r_20) then ((1 : Int32) + r_20) else (0 : Int32)) →
                      wnX4_sayN_C157 post lm ln cap ef p1 p2 p3 x_10
                      ) sn sq p3
                  )
                ) ∧ (¬ (p1 ≤ 0) →
                  (((4 : Int32) ≤ p1) →
                    ((p1 ≤ (1 : Int32)) →
                      wnX4_sayN_C157 post lm ln cap ef p1 p2 p3 (0 : Int32)
                    ) ∧ (¬ (p1 ≤ (1 : Int32)) →
                      wX4_built (fun r_21 : Int32 =>
                        ∀ x_11 : Int32, x_11 = (if (0 : Int32) < ((1 : Int32) + r_21) then ((1 : Int32) + r_21) else (0 : Int32)) →
                        wnX4_sayN_C157 post lm ln cap ef p1 p2 p3 x_11
                        ) sn sq p3
                    )
                  ) ∧ (¬ ((4 : Int32) ≤ p1) →
                    wX4_built (fun r_22 : Int32 =>
                      ((p1 ≤ (1 : Int32)) →
                        wnX4_sayN_C157 post lm ln cap ef p1 p2 p3 ((1 : Int32) + r_22)
                      ) ∧ (¬ (p1 ≤ (1 : Int32)) →
                        wX4_built (fun r_23 : Int32 =>
                          ∀ x_12 : Int32, x_12 = (if ((1 : Int32) + r_22) < ((1 : Int32) + r_23) then ((1 : Int32) + r_23) else ((1 : Int32) + r_22)) →
                          wnX4_sayN_C157 post lm ln cap ef p1 p2 p3 x_12
                          ) sn sq p3
                      )
                      ) sn sq p2
                  )
                )
              )
            ) ∧ ((r_15 = (40 : Int32)) →
              False
            )
            ) ln
        ) ∧ ((r_14 = 0) →
          False
        )
        ) sn p3
    )
  )
def wnX4_sayN (post : Int32 → Int32 × Int32 × Int32 × Nat × (Nat → Option Nat) × Nat × (Nat → Int32) → Prop) (th : Int32) (sn : Nat) (sq : Nat → Nat → Int32) (lm : Int32) (ln : Int32) (cap : Nat) (ef : Nat → Option Nat) (p1 : Int32) (p2 : Int32) (p3 : Int32) : Prop :=
  wX4_in (fun r_1 : Int32 =>
    ((¬ r_1 = 0) →
      ((¬ p1 = 0) →
        (((4 : Int32) ≤ p1) →
          ((¬ p1 = (4 : Int32)) →
            wX4_isSet (fun r_2 : Int32 =>
              wnX4_sayN_C65 post sn sq lm ln cap ef p1 p2 p3 r_2
              ) p2
          ) ∧ ((p1 = (4 : Int32)) →
            wX4_isGuard (fun r_24 : Int32 =>
              wnX4_sayN_C65 post sn sq lm ln cap ef p1 p2 p3 r_24
              ) p2
          )
        ) ∧ (¬ ((4 : Int32) ≤ p1) →
          wX4_isSentence (fun r_25 : Int32 =>
            wnX4_sayN_C65 post sn sq lm ln cap ef p1 p2 p3 r_25
            ) sn p2
        )
      ) ∧ ((p1 = 0) →
        wX4_in (fun r_26 : Int32 =>
          wnX4_sayN_C65 post sn sq lm ln cap ef p1 p2 p3 r_26
          ) p2 (0 : Int32) (5 : Int32)
      )
    ) ∧ ((r_1 = 0) →
      False
    )
    ) p1 (0 : Int32) (7 : Int32)
abbrev wl_nX4_sayN : List Cond := .code yX4_say cX4_say 6 (some .int) :: lwg
abbrev rm_nX4_sayN : Room := { frames := 7, cells := 2, slots := 64, locals := 195 }
set_option maxHeartbeats 4000000 in
set_option maxRecDepth 100000 in
theorem knX4_sayN {post : Int32 → Int32 × Int32 × Int32 × Nat × (Nat → Option Nat) × Nat × (Nat → Int32) → Prop} (l : Launch) (G : GT) (m0 : Nat) (dO : Nat) (sl : Nat) (ct0 : Nat) (st0 : Nat) (fs0 : Nat) (jn0 : Nat) (rw0 : Nat) (fd0 : Nat) (af0 : Nat) (kO : Nat) (dr : Nat → Nat) (kr : Nat → Nat) (sa : Nat → Nat) (e0 : Nat) (th : Int32) (mr : Int32) (po : Int64) (mf : Int32) (sp : Int32) (DD : Nat → Nat → Int32) (ctf : Nat → Int32) (stf : Nat → Int32) (fsf : Nat → Int32) (jnf : Nat → Int32) (rwf : Nat → Int32) (fdf : Nat → Int64) (aff : Nat → Int32) (KP : Nat → Nat → Int32) (sn : Nat) (sq : Nat → Nat → Int32) (lm : Int32) (ln : Int32) (cap : Nat) (ef : Nat → Option Nat) (p1 : Int32) (p2 : Int32) (p3 : Int32) (hln : ln = nI sn) (hef : ∀ k, k < sn → ef k = some (sa k)) (hen : ∀ k, sn ≤ k → ef k = none) (hsc : sn ≤ cap) (hcp : cap < 2 ^ 31) (hs0 : 0 < sn) (sz : Nat) (h : wnX4_sayN post th sn sq lm ln cap ef p1 p2 p3) : Met l yX4_say wl_nX4_sayN rm_nX4_sayN (va_Pc [.ref m0, .int p1, .int p2, .int p3] (fun U => U.heap.size = sz ∧ PP G [(m0, .inr (7, [.int th, .int mr, .long po, .ref dO, .ref sl, .ref ct0, .int mf, .int sp, .ref st0, .ref fs0, .ref jn0, .ref rw0, .ref fd0, .ref af0, .ref kO])), (dO, .inl (G.2 4, 6, .inr (.inr (.inr (.inr (fun k => if k < 6 then some (dr k) else none)))))), (dr 0, .inl (G.2 0, 64, .inl (DD 0))), (dr 1, .inl (G.2 0, 64, .inl (DD 1))), (dr 2, .inl (G.2 0, 64, .inl (DD 2))), (dr 3, .inl (G.2 0, 64, .inl (DD 3))), (dr 4, .inl (G.2 0, 64, .inl (DD 4))), (dr 5, .inl (G.2 0, 64, .inl (DD 5))), (ct0, .inl (G.2 0, 6, .inl ctf)), (st0, .inl (G.2 0, 4096, .inl stf)), (fs0, .inl (G.2 0, 4096, .inl fsf)), (jn0, .inl (G.2 0, 64, .inl jnf)), (rw0, .inl (G.2 0, 64, .inl rwf)), (fd0, .inl (G.2 1, 40, .inr (.inl fdf))), (af0, .inl (G.2 3, 40, .inl aff)), (kO, .inl (G.2 4, 4, .inr (.inr (.inr (.inr (fun k => if k < 4 then some (kr k) else none)))))), (kr 0, .inl (G.2 0, 64, .inl (KP 0))), (kr 1, .inl (G.2 0, 64, .inl (KP 1))), (kr 2, .inl (G.2 0, 64, .inl (KP 2))), (kr 3, .inl (G.2 0, 64, .inl (KP 3))), (sl, .inr (2, [.int lm, .ref e0, .int ln])), (e0, .inl (G.2 5, cap, .inr (.inr (.inr (.inr ef)))))] U.heap ∧ KK G U ∧ va_D (fun _ => True) [(m0, .inr (7, [.int th, .int mr, .long po, .ref dO, .ref sl, .ref ct0, .int mf, .int sp, .ref st0, .ref fs0, .ref jn0, .ref rw0, .ref fd0, .ref af0, .ref kO])), (dO, .inl (G.2 4, 6, .inr (.inr (.inr (.inr (fun k => if k < 6 then some (dr k) else none)))))), (dr 0, .inl (G.2 0, 64, .inl (DD 0))), (dr 1, .inl (G.2 0, 64, .inl (DD 1))), (dr 2, .inl (G.2 0, 64, .inl (DD 2))), (dr 3, .inl (G.2 0, 64, .inl (DD 3))), (dr 4, .inl (G.2 0, 64, .inl (DD 4))), (dr 5, .inl (G.2 0, 64, .inl (DD 5))), (ct0, .inl (G.2 0, 6, .inl ctf)), (st0, .inl (G.2 0, 4096, .inl stf)), (fs0, .inl (G.2 0, 4096, .inl fsf)), (jn0, .inl (G.2 0, 64, .inl jnf)), (rw0, .inl (G.2 0, 64, .inl rwf)), (fd0, .inl (G.2 1, 40, .inr (.inl fdf))), (af0, .inl (G.2 3, 40, .inl aff)), (kO, .inl (G.2 4, 4, .inr (.inr (.inr (.inr (fun k => if k < 4 then some (kr k) else none)))))), (kr 0, .inl (G.2 0, 64, .inl (KP 0))), (kr 1, .inl (G.2 0, 64, .inl (KP 1))), (kr 2, .inl (G.2 0, 64, .inl (KP 2))), (kr 3, .inl (G.2 0, 64, .inl (KP 3))), (sl, .inr (2, [.int lm, .ref e0, .int ln])), (e0, .inl (G.2 5, cap, .inr (.inr (.inr (.inr ef)))))] ∧ RWS G sn sa sq (va_A [(m0, .inr (7, [.int th, .int mr, .long po, .ref dO, .ref sl, .ref ct0, .int mf, .int sp, .ref st0, .ref fs0, .ref jn0, .ref rw0, .ref fd0, .ref af0, .ref kO])), (dO, .inl (G.2 4, 6, .inr (.inr (.inr (.inr (fun k => if k < 6 then some (dr k) else none)))))), (dr 0, .inl (G.2 0, 64, .inl (DD 0))), (dr 1, .inl (G.2 0, 64, .inl (DD 1))), (dr 2, .inl (G.2 0, 64, .inl (DD 2))), (dr 3, .inl (G.2 0, 64, .inl (DD 3))), (dr 4, .inl (G.2 0, 64, .inl (DD 4))), (dr 5, .inl (G.2 0, 64, .inl (DD 5))), (ct0, .inl (G.2 0, 6, .inl ctf)), (st0, .inl (G.2 0, 4096, .inl stf)), (fs0, .inl (G.2 0, 4096, .inl fsf)), (jn0, .inl (G.2 0, 64, .inl jnf)), (rw0, .inl (G.2 0, 64, .inl rwf)), (fd0, .inl (G.2 1, 40, .inr (.inl fdf))), (af0, .inl (G.2 3, 40, .inl aff)), (kO, .inl (G.2 4, 4, .inr (.inr (.inr (.inr (fun k => if k < 4 then some (kr k) else none)))))), (kr 0, .inl (G.2 0, 64, .inl (KP 0))), (kr 1, .inl (G.2 0, 64, .inl (KP 1))), (kr 2, .inl (G.2 0, 64, .inl (KP 2))), (kr 3, .inl (G.2 0, 64, .inl (KP 3))), (sl, .inr (2, [.int lm, .ref e0, .int ln])), (e0, .inl (G.2 5, cap, .inr (.inr (.inr (.inr ef)))))] sz) U U.heap)) (va_Qi post (fun u t => ∃ e0E : Nat, PP G [(m0, .inr (7, [.int (u.1), .int mr, .long po, .ref dO, .ref sl, .ref ct0, .int mf, .int sp, .ref st0, .ref fs0, .ref jn0, .ref rw0, .ref fd0, .ref af0, .ref kO])), (dO, .inl (G.2 4, 6, .inr (.inr (.inr (.inr (fun k => if k < 6 then some (dr k) else none)))))), (dr 0, .inl (G.2 0, 64, .inl (DD 0))), (dr 1, .inl (G.2 0, 64, .inl (DD 1))), (dr 2, .inl (G.2 0, 64, .inl (DD 2))), (dr 3, .inl (G.2 0, 64, .inl (DD 3))), (dr 4, .inl (G.2 0, 64, .inl (DD 4))), (dr 5, .inl (G.2 0, 64, .inl (DD 5))), (ct0, .inl (G.2 0, 6, .inl ctf)), (st0, .inl (G.2 0, 4096, .inl stf)), (fs0, .inl (G.2 0, 4096, .inl fsf)), (jn0, .inl (G.2 0, 64, .inl jnf)), (rw0, .inl (G.2 0, 64, .inl rwf)), (fd0, .inl (G.2 1, 40, .inr (.inl fdf))), (af0, .inl (G.2 3, 40, .inl aff)), (kO, .inl (G.2 4, 4, .inr (.inr (.inr (.inr (fun k => if k < 4 then some (kr k) else none)))))), (kr 0, .inl (G.2 0, 64, .inl (KP 0))), (kr 1, .inl (G.2 0, 64, .inl (KP 1))), (kr 2, .inl (G.2 0, 64, .inl (KP 2))), (kr 3, .inl (G.2 0, 64, .inl (KP 3))), (sl, .inr (2, [.int (u.2.1), .ref e0E, .int (u.2.2.1)])), (e0E, .inl (G.2 5, u.2.2.2.1, .inr (.inr (.inr (.inr (u.2.2.2.2.1)))))), (u.2.2.2.2.2.1, .inl (G.2 0, 4, .inl (u.2.2.2.2.2.2)))] t.heap ∧ va_D (va_A [(m0, .inr (7, [.int th, .int mr, .long po, .ref dO, .ref sl, .ref ct0, .int mf, .int sp, .ref st0, .ref fs0, .ref jn0, .ref rw0, .ref fd0, .ref af0, .ref kO])), (dO, .inl (G.2 4, 6, .inr (.inr (.inr (.inr (fun k => if k < 6 then some (dr k) else none)))))), (dr 0, .inl (G.2 0, 64, .inl (DD 0))), (dr 1, .inl (G.2 0, 64, .inl (DD 1))), (dr 2, .inl (G.2 0, 64, .inl (DD 2))), (dr 3, .inl (G.2 0, 64, .inl (DD 3))), (dr 4, .inl (G.2 0, 64, .inl (DD 4))), (dr 5, .inl (G.2 0, 64, .inl (DD 5))), (ct0, .inl (G.2 0, 6, .inl ctf)), (st0, .inl (G.2 0, 4096, .inl stf)), (fs0, .inl (G.2 0, 4096, .inl fsf)), (jn0, .inl (G.2 0, 64, .inl jnf)), (rw0, .inl (G.2 0, 64, .inl rwf)), (fd0, .inl (G.2 1, 40, .inr (.inl fdf))), (af0, .inl (G.2 3, 40, .inl aff)), (kO, .inl (G.2 4, 4, .inr (.inr (.inr (.inr (fun k => if k < 4 then some (kr k) else none)))))), (kr 0, .inl (G.2 0, 64, .inl (KP 0))), (kr 1, .inl (G.2 0, 64, .inl (KP 1))), (kr 2, .inl (G.2 0, 64, .inl (KP 2))), (kr 3, .inl (G.2 0, 64, .inl (KP 3))), (sl, .inr (2, [.int lm, .ref e0, .int ln])), (e0, .inl (G.2 5, cap, .inr (.inr (.inr (.inr ef)))))] sz) [(m0, .inr (7, [.int (u.1), .int mr, .long po, .ref dO, .ref sl, .ref ct0, .int mf, .int sp, .ref st0, .ref fs0, .ref jn0, .ref rw0, .ref fd0, .ref af0, .ref kO])), (dO, .inl (G.2 4, 6, .inr (.inr (.inr (.inr (fun k => if k < 6 then some (dr k) else none)))))), (dr 0, .inl (G.2 0, 64, .inl (DD 0))), (dr 1, .inl (G.2 0, 64, .inl (DD 1))), (dr 2, .inl (G.2 0, 64, .inl (DD 2))), (dr 3, .inl (G.2 0, 64, .inl (DD 3))), (dr 4, .inl (G.2 0, 64, .inl (DD 4))), (dr 5, .inl (G.2 0, 64, .inl (DD 5))), (ct0, .inl (G.2 0, 6, .inl ctf)), (st0, .inl (G.2 0, 4096, .inl stf)), (fs0, .inl (G.2 0, 4096, .inl fsf)), (jn0, .inl (G.2 0, 64, .inl jnf)), (rw0, .inl (G.2 0, 64, .inl rwf)), (fd0, .inl (G.2 1, 40, .inr (.inl fdf))), (af0, .inl (G.2 3, 40, .inl aff)), (kO, .inl (G.2 4, 4, .inr (.inr (.inr (.inr (fun k => if k < 4 then some (kr k) else none)))))), (kr 0, .inl (G.2 0, 64, .inl (KP 0))), (kr 1, .inl (G.2 0, 64, .inl (KP 1))), (kr 2, .inl (G.2 0, 64, .inl (KP 2))), (kr 3, .inl (G.2 0, 64, .inl (KP 3))), (sl, .inr (2, [.int (u.2.1), .ref e0E, .int (u.2.2.1)])), (e0E, .inl (G.2 5, u.2.2.2.1, .inr (.inr (.inr (.inr (u.2.2.2.2.1)))))), (u.2.2.2.2.2.1, .inl (G.2 0, 4, .inl (u.2.2.2.2.2.2)))]) (va_A [(m0, .inr (7, [.int th, .int mr, .long po, .ref dO, .ref sl, .ref ct0, .int mf, .int sp, .ref st0, .ref fs0, .ref jn0, .ref rw0, .ref fd0, .ref af0, .ref kO])), (dO, .inl (G.2 4, 6, .inr (.inr (.inr (.inr (fun k => if k < 6 then some (dr k) else none)))))), (dr 0, .inl (G.2 0, 64, .inl (DD 0))), (dr 1, .inl (G.2 0, 64, .inl (DD 1))), (dr 2, .inl (G.2 0, 64, .inl (DD 2))), (dr 3, .inl (G.2 0, 64, .inl (DD 3))), (dr 4, .inl (G.2 0, 64, .inl (DD 4))), (dr 5, .inl (G.2 0, 64, .inl (DD 5))), (ct0, .inl (G.2 0, 6, .inl ctf)), (st0, .inl (G.2 0, 4096, .inl stf)), (fs0, .inl (G.2 0, 4096, .inl fsf)), (jn0, .inl (G.2 0, 64, .inl jnf)), (rw0, .inl (G.2 0, 64, .inl rwf)), (fd0, .inl (G.2 1, 40, .inr (.inl fdf))), (af0, .inl (G.2 3, 40, .inl aff)), (kO, .inl (G.2 4, 4, .inr (.inr (.inr (.inr (fun k => if k < 4 then some (kr k) else none)))))), (kr 0, .inl (G.2 0, 64, .inl (KP 0))), (kr 1, .inl (G.2 0, 64, .inl (KP 1))), (kr 2, .inl (G.2 0, 64, .inl (KP 2))), (kr 3, .inl (G.2 0, 64, .inl (KP 3))), (sl, .inr (2, [.int lm, .ref e0, .int ln])), (e0, .inl (G.2 5, cap, .inr (.inr (.inr (.inr ef)))))] sz)) 2 64 (va_A [(m0, .inr (7, [.int th, .int mr, .long po, .ref dO, .ref sl, .ref ct0, .int mf, .int sp, .ref st0, .ref fs0, .ref jn0, .ref rw0, .ref fd0, .ref af0, .ref kO])), (dO, .inl (G.2 4, 6, .inr (.inr (.inr (.inr (fun k => if k < 6 then some (dr k) else none)))))), (dr 0, .inl (G.2 0, 64, .inl (DD 0))), (dr 1, .inl (G.2 0, 64, .inl (DD 1))), (dr 2, .inl (G.2 0, 64, .inl (DD 2))), (dr 3, .inl (G.2 0, 64, .inl (DD 3))), (dr 4, .inl (G.2 0, 64, .inl (DD 4))), (dr 5, .inl (G.2 0, 64, .inl (DD 5))), (ct0, .inl (G.2 0, 6, .inl ctf)), (st0, .inl (G.2 0, 4096, .inl stf)), (fs0, .inl (G.2 0, 4096, .inl fsf)), (jn0, .inl (G.2 0, 64, .inl jnf)), (rw0, .inl (G.2 0, 64, .inl rwf)), (fd0, .inl (G.2 1, 40, .inr (.inl fdf))), (af0, .inl (G.2 3, 40, .inl aff)), (kO, .inl (G.2 4, 4, .inr (.inr (.inr (.inr (fun k => if k < 4 then some (kr k) else none)))))), (kr 0, .inl (G.2 0, 64, .inl (KP 0))), (kr 1, .inl (G.2 0, 64, .inl (KP 1))), (kr 2, .inl (G.2 0, 64, .inl (KP 2))), (kr 3, .inl (G.2 0, 64, .inl (KP 3))), (sl, .inr (2, [.int lm, .ref e0, .int ln])), (e0, .inl (G.2 5, cap, .inr (.inr (.inr (.inr ef)))))] sz) := by
  refine Met.ofW (cc := cX4_say) (maxL := 6) (ret := (some .int)) (by decide) rfl ?_
  intro p e s m args below meth c s₁ B hml hv
  obtain ⟨rfl, hsz, hP, hKK, hD0, hF_rl⟩ := hv
  obtain ⟨hK, hN, hR, hFW, hNC⟩ := id hKK
  have hx := B.exec
  have hb := B.bytes
  have hr := B.returns
  have hts0 := atoms_spec (ws := wl_nX4_sayN) B.pre
  have hts : ∀ w ∈ lwg, w.before ([.ref m0, .int p1, .int p2, .int p3] : List Value).toArray s = true := fun w hw => hts0 w (List.mem_cons_of_mem _ hw)
  have hown : s.vm.findClass RX4 = some m.cls := findClass_of_methodNamed B.named
  have hlocks := B.notSynchronized
  subst hsz
  have hD := hD0.self (sz := s.heap.size)
  generalize hAe : va_A [(m0, .inr (7, [.int th, .int mr, .long po, .ref dO, .ref sl, .ref ct0, .int mf, .int sp, .ref st0, .ref fs0, .ref jn0, .ref rw0, .ref fd0, .ref af0, .ref kO])), (dO, .inl (G.2 4, 6, .inr (.inr (.inr (.inr (fun k => if k < 6 then some (dr k) else none)))))), (dr 0, .inl (G.2 0, 64, .inl (DD 0))), (dr 1, .inl (G.2 0, 64, .inl (DD 1))), (dr 2, .inl (G.2 0, 64, .inl (DD 2))), (dr 3, .inl (G.2 0, 64, .inl (DD 3))), (dr 4, .inl (G.2 0, 64, .inl (DD 4))), (dr 5, .inl (G.2 0, 64, .inl (DD 5))), (ct0, .inl (G.2 0, 6, .inl ctf)), (st0, .inl (G.2 0, 4096, .inl stf)), (fs0, .inl (G.2 0, 4096, .inl fsf)), (jn0, .inl (G.2 0, 64, .inl jnf)), (rw0, .inl (G.2 0, 64, .inl rwf)), (fd0, .inl (G.2 1, 40, .inr (.inl fdf))), (af0, .inl (G.2 3, 40, .inl aff)), (kO, .inl (G.2 4, 4, .inr (.inr (.inr (.inr (fun k => if k < 4 then some (kr k) else none)))))), (kr 0, .inl (G.2 0, 64, .inl (KP 0))), (kr 1, .inl (G.2 0, 64, .inl (KP 1))), (kr 2, .inl (G.2 0, 64, .inl (KP 2))), (kr 3, .inl (G.2 0, 64, .inl (KP 3))), (sl, .inr (2, [.int lm, .ref e0, .int ln])), (e0, .inl (G.2 5, cap, .inr (.inr (.inr (.inr ef)))))] s.heap.size = A at hD hF_rl ⊢
  have hA : ∀ q : Nat, s.heap.size ≤ q → A q := fun q h => by rw [← hAe]; exact Or.inr h
  have hS : va_S A s.heap s.heap [] := va_S.rf
  obtain ⟨QC, hQC⟩ : ∃ Z, Z = (va_Qi post (fun u t => ∃ e0E : Nat, PP G [(m0, .inr (7, [.int (u.1), .int mr, .long po, .ref dO, .ref sl, .ref ct0, .int mf, .int sp, .ref st0, .ref fs0, .ref jn0, .ref rw0, .ref fd0, .ref af0, .ref kO])), (dO, .inl (G.2 4, 6, .inr (.inr (.inr (.inr (fun k => if k < 6 then some (dr k) else none)))))), (dr 0, .inl (G.2 0, 64, .inl (DD 0))), (dr 1, .inl (G.2 0, 64, .inl (DD 1))), (dr 2, .inl (G.2 0, 64, .inl (DD 2))), (dr 3, .inl (G.2 0, 64, .inl (DD 3))), (dr 4, .inl (G.2 0, 64, .inl (DD 4))), (dr 5, .inl (G.2 0, 64, .inl (DD 5))), (ct0, .inl (G.2 0, 6, .inl ctf)), (st0, .inl (G.2 0, 4096, .inl stf)), (fs0, .inl (G.2 0, 4096, .inl fsf)), (jn0, .inl (G.2 0, 64, .inl jnf)), (rw0, .inl (G.2 0, 64, .inl rwf)), (fd0, .inl (G.2 1, 40, .inr (.inl fdf))), (af0, .inl (G.2 3, 40, .inl aff)), (kO, .inl (G.2 4, 4, .inr (.inr (.inr (.inr (fun k => if k < 4 then some (kr k) else none)))))), (kr 0, .inl (G.2 0, 64, .inl (KP 0))), (kr 1, .inl (G.2 0, 64, .inl (KP 1))), (kr 2, .inl (G.2 0, 64, .inl (KP 2))), (kr 3, .inl (G.2 0, 64, .inl (KP 3))), (sl, .inr (2, [.int (u.2.1), .ref e0E, .int (u.2.2.1)])), (e0E, .inl (G.2 5, u.2.2.2.1, .inr (.inr (.inr (.inr (u.2.2.2.2.1)))))), (u.2.2.2.2.2.1, .inl (G.2 0, 4, .inl (u.2.2.2.2.2.2)))] t.heap ∧ va_D A [(m0, .inr (7, [.int (u.1), .int mr, .long po, .ref dO, .ref sl, .ref ct0, .int mf, .int sp, .ref st0, .ref fs0, .ref jn0, .ref rw0, .ref fd0, .ref af0, .ref kO])), (dO, .inl (G.2 4, 6, .inr (.inr (.inr (.inr (fun k => if k < 6 then some (dr k) else none)))))), (dr 0, .inl (G.2 0, 64, .inl (DD 0))), (dr 1, .inl (G.2 0, 64, .inl (DD 1))), (dr 2, .inl (G.2 0, 64, .inl (DD 2))), (dr 3, .inl (G.2 0, 64, .inl (DD 3))), (dr 4, .inl (G.2 0, 64, .inl (DD 4))), (dr 5, .inl (G.2 0, 64, .inl (DD 5))), (ct0, .inl (G.2 0, 6, .inl ctf)), (st0, .inl (G.2 0, 4096, .inl stf)), (fs0, .inl (G.2 0, 4096, .inl fsf)), (jn0, .inl (G.2 0, 64, .inl jnf)), (rw0, .inl (G.2 0, 64, .inl rwf)), (fd0, .inl (G.2 1, 40, .inr (.inl fdf))), (af0, .inl (G.2 3, 40, .inl aff)), (kO, .inl (G.2 4, 4, .inr (.inr (.inr (.inr (fun k => if k < 4 then some (kr k) else none)))))), (kr 0, .inl (G.2 0, 64, .inl (KP 0))), (kr 1, .inl (G.2 0, 64, .inl (KP 1))), (kr 2, .inl (G.2 0, 64, .inl (KP 2))), (kr 3, .inl (G.2 0, 64, .inl (KP 3))), (sl, .inr (2, [.int (u.2.1), .ref e0E, .int (u.2.2.1)])), (e0E, .inl (G.2 5, u.2.2.2.1, .inr (.inr (.inr (.inr (u.2.2.2.2.1)))))), (u.2.2.2.2.2.1, .inl (G.2 0, 4, .inl (u.2.2.2.2.2.2)))]) A) := ⟨_, rfl⟩
  rw [← hQC]
  have hP : PP G [(m0, .inr (7, [.int th, .int mr, .long po, .ref dO, .ref sl, .ref ct0, .int mf, .int sp, .ref st0, .ref fs0, .ref jn0, .ref rw0, .ref fd0, .ref af0, .ref kO])), (dO, .inl (G.2 4, 6, .inr (.inr (.inr (.inr (fun k => if k < 6 then some (dr k) else none)))))), (dr 0, .inl (G.2 0, 64, .inl (DD 0))), (dr 1, .inl (G.2 0, 64, .inl (DD 1))), (dr 2, .inl (G.2 0, 64, .inl (DD 2))), (dr 3, .inl (G.2 0, 64, .inl (DD 3))), (dr 4, .inl (G.2 0, 64, .inl (DD 4))), (dr 5, .inl (G.2 0, 64, .inl (DD 5))), (ct0, .inl (G.2 0, 6, .inl ctf)), (st0, .inl (G.2 0, 4096, .inl stf)), (fs0, .inl (G.2 0, 4096, .inl fsf)), (jn0, .inl (G.2 0, 64, .inl jnf)), (rw0, .inl (G.2 0, 64, .inl rwf)), (fd0, .inl (G.2 1, 40, .inr (.inl fdf))), (af0, .inl (G.2 3, 40, .inl aff)), (kO, .inl (G.2 4, 4, .inr (.inr (.inr (.inr (fun k => if k < 4 then some (kr k) else none)))))), (kr 0, .inl (G.2 0, 64, .inl (KP 0))), (kr 1, .inl (G.2 0, 64, .inl (KP 1))), (kr 2, .inl (G.2 0, 64, .inl (KP 2))), (kr 3, .inl (G.2 0, 64, .inl (KP 3))), (sl, .inr (2, [.int lm, .ref e0, .int ln])), (e0, .inl (G.2 5, cap, .inr (.inr (.inr (.inr ef)))))] s.heap := hP
  have hl := lv_entry ([.ref m0, .int p1, .int p2, .int p3]) (n := 6) (Nat.le_of_ble_eq_true rfl)
  rw [lg_entry_eq]
  generalize (lg_sl ([.ref m0, .int p1, .int p2, .int p3]) ++ List.replicate (6 - (lg_sl ([.ref m0, .int p1, .int p2, .int p3])).length) Slot.unset).toArray = ls at hl ⊢
  have hl : lv_has ls 6 [(0, .ref m0), (1, .int p1), (2, .int p2), (3, .int p3)] := hl
  have cut157 : ∀ (i4 : Int32) (i5 : Int32) (ls : Array Slot) (H : Heap) (locs : List Loc), lv_has ls 6 [(0, .ref m0), (1, .int p1), (2, .int p2), (3, .int p3), (4, .int i4), (5, .int i5)] → PP G [(m0, .inr (7, [.int (0 : Int32), .int mr, .long po, .ref dO, .ref sl, .ref ct0, .int mf, .int sp, .ref st0, .ref fs0, .ref jn0, .ref rw0, .ref fd0, .ref af0, .ref kO])), (dO, .inl (G.2 4, 6, .inr (.inr (.inr (.inr (fun k => if k < 6 then some (dr k) else none)))))), (dr 0, .inl (G.2 0, 64, .inl (DD 0))), (dr 1, .inl (G.2 0, 64, .inl (DD 1))), (dr 2, .inl (G.2 0, 64, .inl (DD 2))), (dr 3, .inl (G.2 0, 64, .inl (DD 3))), (dr 4, .inl (G.2 0, 64, .inl (DD 4))), (dr 5, .inl (G.2 0, 64, .inl (DD 5))), (ct0, .inl (G.2 0, 6, .inl ctf)), (st0, .inl (G.2 0, 4096, .inl stf)), (fs0, .inl (G.2 0, 4096, .inl fsf)), (jn0, .inl (G.2 0, 64, .inl jnf)), (rw0, .inl (G.2 0, 64, .inl rwf)), (fd0, .inl (G.2 1, 40, .inr (.inl fdf))), (af0, .inl (G.2 3, 40, .inl aff)), (kO, .inl (G.2 4, 4, .inr (.inr (.inr (.inr (fun k => if k < 4 then some (kr k) else none)))))), (kr 0, .inl (G.2 0, 64, .inl (KP 0))), (kr 1, .inl (G.2 0, 64, .inl (KP 1))), (kr 2, .inl (G.2 0, 64, .inl (KP 2))), (kr 3, .inl (G.2 0, 64, .inl (KP 3))), (sl, .inr (2, [.int lm, .ref e0, .int ln])), (e0, .inl (G.2 5, cap, .inr (.inr (.inr (.inr ef)))))] H → va_D A [(m0, .inr (7, [.int (0 : Int32), .int mr, .long po, .ref dO, .ref sl, .ref ct0, .int mf, .int sp, .ref st0, .ref fs0, .ref jn0, .ref rw0, .ref fd0, .ref af0, .ref kO])), (dO, .inl (G.2 4, 6, .inr (.inr (.inr (.inr (fun k => if k < 6 then some (dr k) else none)))))), (dr 0, .inl (G.2 0, 64, .inl (DD 0))), (dr 1, .inl (G.2 0, 64, .inl (DD 1))), (dr 2, .inl (G.2 0, 64, .inl (DD 2))), (dr 3, .inl (G.2 0, 64, .inl (DD 3))), (dr 4, .inl (G.2 0, 64, .inl (DD 4))), (dr 5, .inl (G.2 0, 64, .inl (DD 5))), (ct0, .inl (G.2 0, 6, .inl ctf)), (st0, .inl (G.2 0, 4096, .inl stf)), (fs0, .inl (G.2 0, 4096, .inl fsf)), (jn0, .inl (G.2 0, 64, .inl jnf)), (rw0, .inl (G.2 0, 64, .inl rwf)), (fd0, .inl (G.2 1, 40, .inr (.inl fdf))), (af0, .inl (G.2 3, 40, .inl aff)), (kO, .inl (G.2 4, 4, .inr (.inr (.inr (.inr (fun k => if k < 4 then some (kr k) else none)))))), (kr 0, .inl (G.2 0, 64, .inl (KP 0))), (kr 1, .inl (G.2 0, 64, .inl (KP 1))), (kr 2, .inl (G.2 0, 64, .inl (KP 2))), (kr 3, .inl (G.2 0, 64, .inl (KP 3))), (sl, .inr (2, [.int lm, .ref e0, .int ln])), (e0, .inl (G.2 5, cap, .inr (.inr (.inr (.inr ef)))))] → va_S A s.heap H locs → wnX4_sayN_C157 post lm ln cap ef p1 p2 p3 i5 → W p l e (headSpec (wl_nX4_sayN) rm_nX4_sayN).room s m ([.ref m0, .int p1, .int p2, .int p3] : List Value).toArray below meth c H locs 0 0 (MQ below QC ([.ref m0, .int p1, .int p2, .int p3] : List Value).toArray s 2 64 A) (F0 m 157 ls []) := by
    intro i4 i5 ls H locs hl hP hD hS h
    refine lv_aload_n hx hb dX4_say_157 rfl (lv_at hl 0 rfl) ?_
    refine va_get (D := G.1) (ci := 7) (v := .ref sl) (C := RX4) (T := TX4) (N := 15) hx hb hts igX4 hown hK hP 0 rfl rfl 4 (by decide) (hts _ q1009) (fun _ h9 => h9) rfl dX4_say_158 ?_
    refine lv_iconst (v := 4) hx hb dX4_say_161 (by decide) ?_
    refine va_newa (D := G.1) (atype := .int) (N' := 4) (a0 := (4, .inl (fun _ => 0))) hx hb (hts _ q65) rfl hK hP hD hS hA (fun _ => rfl) (by decide) (by decide) (Nat.le_of_ble_eq_true rfl) (Nat.le_of_ble_eq_true rfl) (Nat.le_of_ble_eq_true rfl) dX4_say_162 (fun q_1 cA H hK2 hP hD hS => ?_)
    obtain rfl : cA = G.2 0 := Option.some.inj ((hK2.2 6 _ rfl).2.symm.trans (hK.2 0 _ rfl).2)
    refine W.widen (k := 1) (n := 4) (Nat.le_of_ble_eq_true rfl) (Nat.le_of_ble_eq_true rfl) ?_
    have hP : PP G [(m0, .inr (7, [.int (0 : Int32), .int mr, .long po, .ref dO, .ref sl, .ref ct0, .int mf, .int sp, .ref st0, .ref fs0, .ref jn0, .ref rw0, .ref fd0, .ref af0, .ref kO])), (dO, .inl (G.2 4, 6, .inr (.inr (.inr (.inr (fun k => if k < 6 then some (dr k) else none)))))), (dr 0, .inl (G.2 0, 64, .inl (DD 0))), (dr 1, .inl (G.2 0, 64, .inl (DD 1))), (dr 2, .inl (G.2 0, 64, .inl (DD 2))), (dr 3, .inl (G.2 0, 64, .inl (DD 3))), (dr 4, .inl (G.2 0, 64, .inl (DD 4))), (dr 5, .inl (G.2 0, 64, .inl (DD 5))), (ct0, .inl (G.2 0, 6, .inl ctf)), (st0, .inl (G.2 0, 4096, .inl stf)), (fs0, .inl (G.2 0, 4096, .inl fsf)), (jn0, .inl (G.2 0, 64, .inl jnf)), (rw0, .inl (G.2 0, 64, .inl rwf)), (fd0, .inl (G.2 1, 40, .inr (.inl fdf))), (af0, .inl (G.2 3, 40, .inl aff)), (kO, .inl (G.2 4, 4, .inr (.inr (.inr (.inr (fun k => if k < 4 then some (kr k) else none)))))), (kr 0, .inl (G.2 0, 64, .inl (KP 0))), (kr 1, .inl (G.2 0, 64, .inl (KP 1))), (kr 2, .inl (G.2 0, 64, .inl (KP 2))), (kr 3, .inl (G.2 0, 64, .inl (KP 3))), (sl, .inr (2, [.int lm, .ref e0, .int ln])), (e0, .inl (G.2 5, cap, .inr (.inr (.inr (.inr ef))))), (q_1, .inl (G.2 0, 4, .inl (fun _ => (0 : Int32))))] H := hP
    have hD : va_D A [(m0, .inr (7, [.int (0 : Int32), .int mr, .long po, .ref dO, .ref sl, .ref ct0, .int mf, .int sp, .ref st0, .ref fs0, .ref jn0, .ref rw0, .ref fd0, .ref af0, .ref kO])), (dO, .inl (G.2 4, 6, .inr (.inr (.inr (.inr (fun k => if k < 6 then some (dr k) else none)))))), (dr 0, .inl (G.2 0, 64, .inl (DD 0))), (dr 1, .inl (G.2 0, 64, .inl (DD 1))), (dr 2, .inl (G.2 0, 64, .inl (DD 2))), (dr 3, .inl (G.2 0, 64, .inl (DD 3))), (dr 4, .inl (G.2 0, 64, .inl (DD 4))), (dr 5, .inl (G.2 0, 64, .inl (DD 5))), (ct0, .inl (G.2 0, 6, .inl ctf)), (st0, .inl (G.2 0, 4096, .inl stf)), (fs0, .inl (G.2 0, 4096, .inl fsf)), (jn0, .inl (G.2 0, 64, .inl jnf)), (rw0, .inl (G.2 0, 64, .inl rwf)), (fd0, .inl (G.2 1, 40, .inr (.inl fdf))), (af0, .inl (G.2 3, 40, .inl aff)), (kO, .inl (G.2 4, 4, .inr (.inr (.inr (.inr (fun k => if k < 4 then some (kr k) else none)))))), (kr 0, .inl (G.2 0, 64, .inl (KP 0))), (kr 1, .inl (G.2 0, 64, .inl (KP 1))), (kr 2, .inl (G.2 0, 64, .inl (KP 2))), (kr 3, .inl (G.2 0, 64, .inl (KP 3))), (sl, .inr (2, [.int lm, .ref e0, .int ln])), (e0, .inl (G.2 5, cap, .inr (.inr (.inr (.inr ef))))), (q_1, .inl (G.2 0, 4, .inl (fun _ => (0 : Int32))))] := hD
    have h := h q_1
    refine lv_dup hx hb dX4_say_164 rfl ?_
    refine lv_iconst (v := 0) hx hb dX4_say_165 (by decide) ?_
    refine lv_iload_n hx hb dX4_say_166 rfl (lv_at hl 1 rfl) ?_
    have hin : vp_in (0 : Int32) 4 := show ¬ ((0 : Int32) < 0 ∨ 4 ≤ ((0 : Int32)).toNatClampNeg) from by decide
    refine va_iast (D := G.1) hx hb hK hP hD hS 22 0 rfl rfl hin dX4_say_167 (fun H locs hP hD hS => ?_)
    have hP : PP G [(m0, .inr (7, [.int (0 : Int32), .int mr, .long po, .ref dO, .ref sl, .ref ct0, .int mf, .int sp, .ref st0, .ref fs0, .ref jn0, .ref rw0, .ref fd0, .ref af0, .ref kO])), (dO, .inl (G.2 4, 6, .inr (.inr (.inr (.inr (fun k => if k < 6 then some (dr k) else none)))))), (dr 0, .inl (G.2 0, 64, .inl (DD 0))), (dr 1, .inl (G.2 0, 64, .inl (DD 1))), (dr 2, .inl (G.2 0, 64, .inl (DD 2))), (dr 3, .inl (G.2 0, 64, .inl (DD 3))), (dr 4, .inl (G.2 0, 64, .inl (DD 4))), (dr 5, .inl (G.2 0, 64, .inl (DD 5))), (ct0, .inl (G.2 0, 6, .inl ctf)), (st0, .inl (G.2 0, 4096, .inl stf)), (fs0, .inl (G.2 0, 4096, .inl fsf)), (jn0, .inl (G.2 0, 64, .inl jnf)), (rw0, .inl (G.2 0, 64, .inl rwf)), (fd0, .inl (G.2 1, 40, .inr (.inl fdf))), (af0, .inl (G.2 3, 40, .inl aff)), (kO, .inl (G.2 4, 4, .inr (.inr (.inr (.inr (fun k => if k < 4 then some (kr k) else none)))))), (kr 0, .inl (G.2 0, 64, .inl (KP 0))), (kr 1, .inl (G.2 0, 64, .inl (KP 1))), (kr 2, .inl (G.2 0, 64, .inl (KP 2))), (kr 3, .inl (G.2 0, 64, .inl (KP 3))), (sl, .inr (2, [.int lm, .ref e0, .int ln])), (e0, .inl (G.2 5, cap, .inr (.inr (.inr (.inr ef))))), (q_1, .inl (G.2 0, 4, .inl (upd (fun _ => (0 : Int32)) (0 : Int32).toNatClampNeg p1)))] H := hP
    have hD : va_D A [(m0, .inr (7, [.int (0 : Int32), .int mr, .long po, .ref dO, .ref sl, .ref ct0, .int mf, .int sp, .ref st0, .ref fs0, .ref jn0, .ref rw0, .ref fd0, .ref af0, .ref kO])), (dO, .inl (G.2 4, 6, .inr (.inr (.inr (.inr (fun k => if k < 6 then some (dr k) else none)))))), (dr 0, .inl (G.2 0, 64, .inl (DD 0))), (dr 1, .inl (G.2 0, 64, .inl (DD 1))), (dr 2, .inl (G.2 0, 64, .inl (DD 2))), (dr 3, .inl (G.2 0, 64, .inl (DD 3))), (dr 4, .inl (G.2 0, 64, .inl (DD 4))), (dr 5, .inl (G.2 0, 64, .inl (DD 5))), (ct0, .inl (G.2 0, 6, .inl ctf)), (st0, .inl (G.2 0, 4096, .inl stf)), (fs0, .inl (G.2 0, 4096, .inl fsf)), (jn0, .inl (G.2 0, 64, .inl jnf)), (rw0, .inl (G.2 0, 64, .inl rwf)), (fd0, .inl (G.2 1, 40, .inr (.inl fdf))), (af0, .inl (G.2 3, 40, .inl aff)), (kO, .inl (G.2 4, 4, .inr (.inr (.inr (.inr (fun k => if k < 4 then some (kr k) else none)))))), (kr 0, .inl (G.2 0, 64, .inl (KP 0))), (kr 1, .inl (G.2 0, 64, .inl (KP 1))), (kr 2, .inl (G.2 0, 64, .inl (KP 2))), (kr 3, .inl (G.2 0, 64, .inl (KP 3))), (sl, .inr (2, [.int lm, .ref e0, .int ln])), (e0, .inl (G.2 5, cap, .inr (.inr (.inr (.inr ef))))), (q_1, .inl (G.2 0, 4, .inl (upd (fun _ => (0 : Int32)) (0 : Int32).toNatClampNeg p1)))] := hD
    refine lv_dup hx hb dX4_say_168 rfl ?_
    refine lv_iconst (v := 1) hx hb dX4_say_169 (by decide) ?_
    refine lv_iload_n hx hb dX4_say_170 rfl (lv_at hl 2 rfl) ?_
    have hin : vp_in (1 : Int32) 4 := show ¬ ((1 : Int32) < 0 ∨ 4 ≤ ((1 : Int32)).toNatClampNeg) from by decide
    refine va_iast (D := G.1) hx hb hK hP hD hS 22 0 rfl rfl hin dX4_say_171 (fun H locs hP hD hS => ?_)
    have hP : PP G [(m0, .inr (7, [.int (0 : Int32), .int mr, .long po, .ref dO, .ref sl, .ref ct0, .int mf, .int sp, .ref st0, .ref fs0, .ref jn0, .ref rw0, .ref fd0, .ref af0, .ref kO])), (dO, .inl (G.2 4, 6, .inr (.inr (.inr (.inr (fun k => if k < 6 then some (dr k) else none)))))), (dr 0, .inl (G.2 0, 64, .inl (DD 0))), (dr 1, .inl (G.2 0, 64, .inl (DD 1))), (dr 2, .inl (G.2 0, 64, .inl (DD 2))), (dr 3, .inl (G.2 0, 64, .inl (DD 3))), (dr 4, .inl (G.2 0, 64, .inl (DD 4))), (dr 5, .inl (G.2 0, 64, .inl (DD 5))), (ct0, .inl (G.2 0, 6, .inl ctf)), (st0, .inl (G.2 0, 4096, .inl stf)), (fs0, .inl (G.2 0, 4096, .inl fsf)), (jn0, .inl (G.2 0, 64, .inl jnf)), (rw0, .inl (G.2 0, 64, .inl rwf)), (fd0, .inl (G.2 1, 40, .inr (.inl fdf))), (af0, .inl (G.2 3, 40, .inl aff)), (kO, .inl (G.2 4, 4, .inr (.inr (.inr (.inr (fun k => if k < 4 then some (kr k) else none)))))), (kr 0, .inl (G.2 0, 64, .inl (KP 0))), (kr 1, .inl (G.2 0, 64, .inl (KP 1))), (kr 2, .inl (G.2 0, 64, .inl (KP 2))), (kr 3, .inl (G.2 0, 64, .inl (KP 3))), (sl, .inr (2, [.int lm, .ref e0, .int ln])), (e0, .inl (G.2 5, cap, .inr (.inr (.inr (.inr ef))))), (q_1, .inl (G.2 0, 4, .inl (upd (upd (fun _ => (0 : Int32)) (0 : Int32).toNatClampNeg p1) (1 : Int32).toNatClampNeg p2)))] H := hP
    have hD : va_D A [(m0, .inr (7, [.int (0 : Int32), .int mr, .long po, .ref dO, .ref sl, .ref ct0, .int mf, .int sp, .ref st0, .ref fs0, .ref jn0, .ref rw0, .ref fd0, .ref af0, .ref kO])), (dO, .inl (G.2 4, 6, .inr (.inr (.inr (.inr (fun k => if k < 6 then some (dr k) else none)))))), (dr 0, .inl (G.2 0, 64, .inl (DD 0))), (dr 1, .inl (G.2 0, 64, .inl (DD 1))), (dr 2, .inl (G.2 0, 64, .inl (DD 2))), (dr 3, .inl (G.2 0, 64, .inl (DD 3))), (dr 4, .inl (G.2 0, 64, .inl (DD 4))), (dr 5, .inl (G.2 0, 64, .inl (DD 5))), (ct0, .inl (G.2 0, 6, .inl ctf)), (st0, .inl (G.2 0, 4096, .inl stf)), (fs0, .inl (G.2 0, 4096, .inl fsf)), (jn0, .inl (G.2 0, 64, .inl jnf)), (rw0, .inl (G.2 0, 64, .inl rwf)), (fd0, .inl (G.2 1, 40, .inr (.inl fdf))), (af0, .inl (G.2 3, 40, .inl aff)), (kO, .inl (G.2 4, 4, .inr (.inr (.inr (.inr (fun k => if k < 4 then some (kr k) else none)))))), (kr 0, .inl (G.2 0, 64, .inl (KP 0))), (kr 1, .inl (G.2 0, 64, .inl (KP 1))), (kr 2, .inl (G.2 0, 64, .inl (KP 2))), (kr 3, .inl (G.2 0, 64, .inl (KP 3))), (sl, .inr (2, [.int lm, .ref e0, .int ln])), (e0, .inl (G.2 5, cap, .inr (.inr (.inr (.inr ef))))), (q_1, .inl (G.2 0, 4, .inl (upd (upd (fun _ => (0 : Int32)) (0 : Int32).toNatClampNeg p1) (1 : Int32).toNatClampNeg p2)))] := hD
    refine lv_dup hx hb dX4_say_172 rfl ?_
    refine lv_iconst (v := 2) hx hb dX4_say_173 (by decide) ?_
    refine lv_iload_n hx hb dX4_say_174 rfl (lv_at hl 3 rfl) ?_
    have hin : vp_in (2 : Int32) 4 := show ¬ ((2 : Int32) < 0 ∨ 4 ≤ ((2 : Int32)).toNatClampNeg) from by decide
    refine va_iast (D := G.1) hx hb hK hP hD hS 22 0 rfl rfl hin dX4_say_175 (fun H locs hP hD hS => ?_)
    have hP : PP G [(m0, .inr (7, [.int (0 : Int32), .int mr, .long po, .ref dO, .ref sl, .ref ct0, .int mf, .int sp, .ref st0, .ref fs0, .ref jn0, .ref rw0, .ref fd0, .ref af0, .ref kO])), (dO, .inl (G.2 4, 6, .inr (.inr (.inr (.inr (fun k => if k < 6 then some (dr k) else none)))))), (dr 0, .inl (G.2 0, 64, .inl (DD 0))), (dr 1, .inl (G.2 0, 64, .inl (DD 1))), (dr 2, .inl (G.2 0, 64, .inl (DD 2))), (dr 3, .inl (G.2 0, 64, .inl (DD 3))), (dr 4, .inl (G.2 0, 64, .inl (DD 4))), (dr 5, .inl (G.2 0, 64, .inl (DD 5))), (ct0, .inl (G.2 0, 6, .inl ctf)), (st0, .inl (G.2 0, 4096, .inl stf)), (fs0, .inl (G.2 0, 4096, .inl fsf)), (jn0, .inl (G.2 0, 64, .inl jnf)), (rw0, .inl (G.2 0, 64, .inl rwf)), (fd0, .inl (G.2 1, 40, .inr (.inl fdf))), (af0, .inl (G.2 3, 40, .inl aff)), (kO, .inl (G.2 4, 4, .inr (.inr (.inr (.inr (fun k => if k < 4 then some (kr k) else none)))))), (kr 0, .inl (G.2 0, 64, .inl (KP 0))), (kr 1, .inl (G.2 0, 64, .inl (KP 1))), (kr 2, .inl (G.2 0, 64, .inl (KP 2))), (kr 3, .inl (G.2 0, 64, .inl (KP 3))), (sl, .inr (2, [.int lm, .ref e0, .int ln])), (e0, .inl (G.2 5, cap, .inr (.inr (.inr (.inr ef))))), (q_1, .inl (G.2 0, 4, .inl (upd (upd (upd (fun _ => (0 : Int32)) (0 : Int32).toNatClampNeg p1) (1 : Int32).toNatClampNeg p2) (2 : Int32).toNatClampNeg p3)))] H := hP
    have hD : va_D A [(m0, .inr (7, [.int (0 : Int32), .int mr, .long po, .ref dO, .ref sl, .ref ct0, .int mf, .int sp, .ref st0, .ref fs0, .ref jn0, .ref rw0, .ref fd0, .ref af0, .ref kO])), (dO, .inl (G.2 4, 6, .inr (.inr (.inr (.inr (fun k => if k < 6 then some (dr k) else none)))))), (dr 0, .inl (G.2 0, 64, .inl (DD 0))), (dr 1, .inl (G.2 0, 64, .inl (DD 1))), (dr 2, .inl (G.2 0, 64, .inl (DD 2))), (dr 3, .inl (G.2 0, 64, .inl (DD 3))), (dr 4, .inl (G.2 0, 64, .inl (DD 4))), (dr 5, .inl (G.2 0, 64, .inl (DD 5))), (ct0, .inl (G.2 0, 6, .inl ctf)), (st0, .inl (G.2 0, 4096, .inl stf)), (fs0, .inl (G.2 0, 4096, .inl fsf)), (jn0, .inl (G.2 0, 64, .inl jnf)), (rw0, .inl (G.2 0, 64, .inl rwf)), (fd0, .inl (G.2 1, 40, .inr (.inl fdf))), (af0, .inl (G.2 3, 40, .inl aff)), (kO, .inl (G.2 4, 4, .inr (.inr (.inr (.inr (fun k => if k < 4 then some (kr k) else none)))))), (kr 0, .inl (G.2 0, 64, .inl (KP 0))), (kr 1, .inl (G.2 0, 64, .inl (KP 1))), (kr 2, .inl (G.2 0, 64, .inl (KP 2))), (kr 3, .inl (G.2 0, 64, .inl (KP 3))), (sl, .inr (2, [.int lm, .ref e0, .int ln])), (e0, .inl (G.2 5, cap, .inr (.inr (.inr (.inr ef))))), (q_1, .inl (G.2 0, 4, .inl (upd (upd (upd (fun _ => (0 : Int32)) (0 : Int32).toNatClampNeg p1) (1 : Int32).toNatClampNeg p2) (2 : Int32).toNatClampNeg p3)))] := hD
    refine lv_dup hx hb dX4_say_176 rfl ?_
    refine lv_iconst (v := 3) hx hb dX4_say_177 (by decide) ?_
    refine lv_iload hx hb dX4_say_178 (lv_at hl 5 rfl) ?_
    have hin : vp_in (3 : Int32) 4 := show ¬ ((3 : Int32) < 0 ∨ 4 ≤ ((3 : Int32)).toNatClampNeg) from by decide
    refine va_iast (D := G.1) hx hb hK hP hD hS 22 0 rfl rfl hin dX4_say_180 (fun H locs hP hD hS => ?_)
    have hP : PP G [(m0, .inr (7, [.int (0 : Int32), .int mr, .long po, .ref dO, .ref sl, .ref ct0, .int mf, .int sp, .ref st0, .ref fs0, .ref jn0, .ref rw0, .ref fd0, .ref af0, .ref kO])), (dO, .inl (G.2 4, 6, .inr (.inr (.inr (.inr (fun k => if k < 6 then some (dr k) else none)))))), (dr 0, .inl (G.2 0, 64, .inl (DD 0))), (dr 1, .inl (G.2 0, 64, .inl (DD 1))), (dr 2, .inl (G.2 0, 64, .inl (DD 2))), (dr 3, .inl (G.2 0, 64, .inl (DD 3))), (dr 4, .inl (G.2 0, 64, .inl (DD 4))), (dr 5, .inl (G.2 0, 64, .inl (DD 5))), (ct0, .inl (G.2 0, 6, .inl ctf)), (st0, .inl (G.2 0, 4096, .inl stf)), (fs0, .inl (G.2 0, 4096, .inl fsf)), (jn0, .inl (G.2 0, 64, .inl jnf)), (rw0, .inl (G.2 0, 64, .inl rwf)), (fd0, .inl (G.2 1, 40, .inr (.inl fdf))), (af0, .inl (G.2 3, 40, .inl aff)), (kO, .inl (G.2 4, 4, .inr (.inr (.inr (.inr (fun k => if k < 4 then some (kr k) else none)))))), (kr 0, .inl (G.2 0, 64, .inl (KP 0))), (kr 1, .inl (G.2 0, 64, .inl (KP 1))), (kr 2, .inl (G.2 0, 64, .inl (KP 2))), (kr 3, .inl (G.2 0, 64, .inl (KP 3))), (sl, .inr (2, [.int lm, .ref e0, .int ln])), (e0, .inl (G.2 5, cap, .inr (.inr (.inr (.inr ef))))), (q_1, .inl (G.2 0, 4, .inl (upd (upd (upd (upd (fun _ => (0 : Int32)) (0 : Int32).toNatClampNeg p1) (1 : Int32).toNatClampNeg p2) (2 : Int32).toNatClampNeg p3) (3 : Int32).toNatClampNeg i5)))] H := hP
    have hD : va_D A [(m0, .inr (7, [.int (0 : Int32), .int mr, .long po, .ref dO, .ref sl, .ref ct0, .int mf, .int sp, .ref st0, .ref fs0, .ref jn0, .ref rw0, .ref fd0, .ref af0, .ref kO])), (dO, .inl (G.2 4, 6, .inr (.inr (.inr (.inr (fun k => if k < 6 then some (dr k) else none)))))), (dr 0, .inl (G.2 0, 64, .inl (DD 0))), (dr 1, .inl (G.2 0, 64, .inl (DD 1))), (dr 2, .inl (G.2 0, 64, .inl (DD 2))), (dr 3, .inl (G.2 0, 64, .inl (DD 3))), (dr 4, .inl (G.2 0, 64, .inl (DD 4))), (dr 5, .inl (G.2 0, 64, .inl (DD 5))), (ct0, .inl (G.2 0, 6, .inl ctf)), (st0, .inl (G.2 0, 4096, .inl stf)), (fs0, .inl (G.2 0, 4096, .inl fsf)), (jn0, .inl (G.2 0, 64, .inl jnf)), (rw0, .inl (G.2 0, 64, .inl rwf)), (fd0, .inl (G.2 1, 40, .inr (.inl fdf))), (af0, .inl (G.2 3, 40, .inl aff)), (kO, .inl (G.2 4, 4, .inr (.inr (.inr (.inr (fun k => if k < 4 then some (kr k) else none)))))), (kr 0, .inl (G.2 0, 64, .inl (KP 0))), (kr 1, .inl (G.2 0, 64, .inl (KP 1))), (kr 2, .inl (G.2 0, 64, .inl (KP 2))), (kr 3, .inl (G.2 0, 64, .inl (KP 3))), (sl, .inr (2, [.int lm, .ref e0, .int ln])), (e0, .inl (G.2 5, cap, .inr (.inr (.inr (.inr ef))))), (q_1, .inl (G.2 0, 4, .inl (upd (upd (upd (upd (fun _ => (0 : Int32)) (0 : Int32).toNatClampNeg p1) (1 : Int32).toNatClampNeg p2) (2 : Int32).toNatClampNeg p3) (3 : Int32).toNatClampNeg i5)))] := hD
    have hPc := va_P.sub (ws' := [(sl, .inr (2, [.int lm, .ref e0, .int ln])), (e0, .inl (G.2 5, cap, .inr (.inr (.inr (.inr ef)))))]) hP [20, 21] rfl
    have hDc := hD.sub (ws' := [(sl, .inr (2, [.int lm, .ref e0, .int ln])), (e0, .inl (G.2 5, cap, .inr (.inr (.inr (.inr ef)))))]) [20, 21] (by decide) rfl
    have hFc := va_free (wc := [(sl, .inr (2, [.int lm, .ref e0, .int ln])), (e0, .inl (G.2 5, cap, .inr (.inr (.inr (.inr ef)))))]) hD hS hA [20, 21] rfl
    have hf_ea := eaOf (cap := cap) (va_Nw.use (A := #[]) rfl (hN _ n1467)) hK ((hF_rl.kept hS.2.1).narrow hFc) hef hen
    have hf_ew := ewRow (wc := [(sl, .inr (2, [.int lm, .ref e0, .int ln])), (e0, .inl (G.2 5, cap, .inr (.inr (.inr (.inr ef)))))]) (va_Nw.use (A := #[]) rfl (hN _ n1467)) hK hP hD [20, 21] 22 rfl (by decide) rfl
    refine va_callFi (va_runF (C := RJx4a65c) (x := xAdd) (As := [.ref q_1]) (rest := []) (hK.1 2 _ rfl).2 ⟨hx, hb, hml, hown, hts⟩ (knJx4a65c_add_9ea2dN l G sl e0 q_1 lm ln cap ef _ h) (va_cwF 1 hts (gdF q1164 q1167 q1169 q9 q1171) rfl rfl rfl hKK.2.2.2.1.2.2 (by decide +kernel) ⟨Nat.le_of_ble_eq_true rfl, Nat.le_of_ble_eq_true rfl⟩) (preVwe (E := fun U H => EA cap ef _ U H ∧ EW q_1 _ U H) (fun u U H hv h => ⟨h.1.moved hv, h.2.moved hv⟩) hPc hKK hDc ⟨hf_ea, hf_ew⟩ (va_recv hK hPc (ci := 2) (q0 := 0) rfl rfl)) rfl rfl hl.1 rfl (lv_room (Nat.le_of_ble_eq_true rfl)) dX4_say_181 ⟨Nat.le_of_ble_eq_true rfl, Nat.le_of_ble_eq_true rfl⟩) hS (fun q _ h => hFc q h) hFc (fun r_4 u t H1 locs ht hvm h hB hz1 hk1 hS => ?_)
    obtain ⟨lm_1, ln_1, cap_1, ef_1⟩ := u
    obtain ⟨e0_1, hB⟩ := hB
    obtain ⟨hP1, hD1⟩ := hB
    rw [ht] at hP1
    obtain ⟨hP, hD⟩ := va_join (wr := [(m0, .inr (7, [.int (0 : Int32), .int mr, .long po, .ref dO, .ref sl, .ref ct0, .int mf, .int sp, .ref st0, .ref fs0, .ref jn0, .ref rw0, .ref fd0, .ref af0, .ref kO])), (dO, .inl (G.2 4, 6, .inr (.inr (.inr (.inr (fun k => if k < 6 then some (dr k) else none)))))), (dr 0, .inl (G.2 0, 64, .inl (DD 0))), (dr 1, .inl (G.2 0, 64, .inl (DD 1))), (dr 2, .inl (G.2 0, 64, .inl (DD 2))), (dr 3, .inl (G.2 0, 64, .inl (DD 3))), (dr 4, .inl (G.2 0, 64, .inl (DD 4))), (dr 5, .inl (G.2 0, 64, .inl (DD 5))), (ct0, .inl (G.2 0, 6, .inl ctf)), (st0, .inl (G.2 0, 4096, .inl stf)), (fs0, .inl (G.2 0, 4096, .inl fsf)), (jn0, .inl (G.2 0, 64, .inl jnf)), (rw0, .inl (G.2 0, 64, .inl rwf)), (fd0, .inl (G.2 1, 40, .inr (.inl fdf))), (af0, .inl (G.2 3, 40, .inl aff)), (kO, .inl (G.2 4, 4, .inr (.inr (.inr (.inr (fun k => if k < 4 then some (kr k) else none)))))), (kr 0, .inl (G.2 0, 64, .inl (KP 0))), (kr 1, .inl (G.2 0, 64, .inl (KP 1))), (kr 2, .inl (G.2 0, 64, .inl (KP 2))), (kr 3, .inl (G.2 0, 64, .inl (KP 3))), (q_1, .inl (G.2 0, 4, .inl (upd (upd (upd (upd (fun _ => (0 : Int32)) (0 : Int32).toNatClampNeg p1) (1 : Int32).toNatClampNeg p2) (2 : Int32).toNatClampNeg p3) (3 : Int32).toNatClampNeg i5)))]) (w1 := [(sl, .inr (2, [.int lm_1, .ref e0_1, .int ln_1])), (e0_1, .inl (G.2 5, cap_1, .inr (.inr (.inr (.inr ef_1)))))]) hP hD [20, 21] [0, 1, 2, 3, 4, 5, 6, 7, 8, 9, 10, 11, 12, 13, 14, 15, 16, 17, 18, 19, 22] rfl rfl (by decide) (by decide) hk1 hFc hP1 hD1
    generalize H1 = H at hP hS ⊢
    have hP : PP G [(m0, .inr (7, [.int (0 : Int32), .int mr, .long po, .ref dO, .ref sl, .ref ct0, .int mf, .int sp, .ref st0, .ref fs0, .ref jn0, .ref rw0, .ref fd0, .ref af0, .ref kO])), (dO, .inl (G.2 4, 6, .inr (.inr (.inr (.inr (fun k => if k < 6 then some (dr k) else none)))))), (dr 0, .inl (G.2 0, 64, .inl (DD 0))), (dr 1, .inl (G.2 0, 64, .inl (DD 1))), (dr 2, .inl (G.2 0, 64, .inl (DD 2))), (dr 3, .inl (G.2 0, 64, .inl (DD 3))), (dr 4, .inl (G.2 0, 64, .inl (DD 4))), (dr 5, .inl (G.2 0, 64, .inl (DD 5))), (ct0, .inl (G.2 0, 6, .inl ctf)), (st0, .inl (G.2 0, 4096, .inl stf)), (fs0, .inl (G.2 0, 4096, .inl fsf)), (jn0, .inl (G.2 0, 64, .inl jnf)), (rw0, .inl (G.2 0, 64, .inl rwf)), (fd0, .inl (G.2 1, 40, .inr (.inl fdf))), (af0, .inl (G.2 3, 40, .inl aff)), (kO, .inl (G.2 4, 4, .inr (.inr (.inr (.inr (fun k => if k < 4 then some (kr k) else none)))))), (kr 0, .inl (G.2 0, 64, .inl (KP 0))), (kr 1, .inl (G.2 0, 64, .inl (KP 1))), (kr 2, .inl (G.2 0, 64, .inl (KP 2))), (kr 3, .inl (G.2 0, 64, .inl (KP 3))), (sl, .inr (2, [.int lm_1, .ref e0_1, .int ln_1])), (e0_1, .inl (G.2 5, cap_1, .inr (.inr (.inr (.inr ef_1))))), (q_1, .inl (G.2 0, 4, .inl (upd (upd (upd (upd (fun _ => (0 : Int32)) (0 : Int32).toNatClampNeg p1) (1 : Int32).toNatClampNeg p2) (2 : Int32).toNatClampNeg p3) (3 : Int32).toNatClampNeg i5)))] H := va_P.sub hP [0, 1, 2, 3, 4, 5, 6, 7, 8, 9, 10, 11, 12, 13, 14, 15, 16, 17, 18, 19, 21, 22, 20] rfl
    have hD : va_D A [(m0, .inr (7, [.int (0 : Int32), .int mr, .long po, .ref dO, .ref sl, .ref ct0, .int mf, .int sp, .ref st0, .ref fs0, .ref jn0, .ref rw0, .ref fd0, .ref af0, .ref kO])), (dO, .inl (G.2 4, 6, .inr (.inr (.inr (.inr (fun k => if k < 6 then some (dr k) else none)))))), (dr 0, .inl (G.2 0, 64, .inl (DD 0))), (dr 1, .inl (G.2 0, 64, .inl (DD 1))), (dr 2, .inl (G.2 0, 64, .inl (DD 2))), (dr 3, .inl (G.2 0, 64, .inl (DD 3))), (dr 4, .inl (G.2 0, 64, .inl (DD 4))), (dr 5, .inl (G.2 0, 64, .inl (DD 5))), (ct0, .inl (G.2 0, 6, .inl ctf)), (st0, .inl (G.2 0, 4096, .inl stf)), (fs0, .inl (G.2 0, 4096, .inl fsf)), (jn0, .inl (G.2 0, 64, .inl jnf)), (rw0, .inl (G.2 0, 64, .inl rwf)), (fd0, .inl (G.2 1, 40, .inr (.inl fdf))), (af0, .inl (G.2 3, 40, .inl aff)), (kO, .inl (G.2 4, 4, .inr (.inr (.inr (.inr (fun k => if k < 4 then some (kr k) else none)))))), (kr 0, .inl (G.2 0, 64, .inl (KP 0))), (kr 1, .inl (G.2 0, 64, .inl (KP 1))), (kr 2, .inl (G.2 0, 64, .inl (KP 2))), (kr 3, .inl (G.2 0, 64, .inl (KP 3))), (sl, .inr (2, [.int lm_1, .ref e0_1, .int ln_1])), (e0_1, .inl (G.2 5, cap_1, .inr (.inr (.inr (.inr ef_1))))), (q_1, .inl (G.2 0, 4, .inl (upd (upd (upd (upd (fun _ => (0 : Int32)) (0 : Int32).toNatClampNeg p1) (1 : Int32).toNatClampNeg p2) (2 : Int32).toNatClampNeg p3) (3 : Int32).toNatClampNeg i5)))] := hD.sub [0, 1, 2, 3, 4, 5, 6, 7, 8, 9, 10, 11, 12, 13, 14, 15, 16, 17, 18, 19, 21, 22, 20] (by decide) rfl
    refine lv_pop hx hb dX4_say_186 rfl ?_
    refine lv_aload_n hx hb dX4_say_187 rfl (lv_at hl 0 rfl) ?_
    refine va_get (D := G.1) (ci := 7) (v := .ref sl) (C := RX4) (T := TX4) (N := 15) hx hb hts igX4 hown hK hP 0 rfl rfl 4 (by decide) (hts _ q1009) (fun _ h9 => h9) rfl dX4_say_188 ?_
    have hPc := va_P.sub (ws' := [(sl, .inr (2, [.int lm_1, .ref e0_1, .int ln_1]))]) hP [20] rfl
    refine va_csFi (va_runF (C := RJx4a65c) (x := xSize) (As := []) (rest := []) (hK.1 2 _ rfl).2 ⟨hx, hb, hml, hown, hts⟩ (kJx4a65c_size_8abf5 l G sl e0_1 lm_1 ln_1 h) (va_cwF 0 hts (gdF q1072 q1076 q1078 q9 q1080) rfl rfl rfl hKK.2.2.2.1.1 (by decide +kernel) ⟨Nat.le_of_ble_eq_true rfl, Nat.le_of_ble_eq_true rfl⟩) (preV hPc hKK (va_recv hK hPc (ci := 2) (q0 := 0) rfl rfl)) rfl rfl hl.1 rfl (lv_room (Nat.le_of_ble_eq_true rfl)) dX4_say_191 ⟨Nat.le_of_ble_eq_true rfl, Nat.le_of_ble_eq_true rfl⟩) (fun r_5 h => ?_)
    refine lv_iconst (v := 1) hx hb dX4_say_196 (by decide) ?_
    refine lv_isub hx hb dX4_say_197 ?_
    subst hQC; exact W.iret (v := (r_5 - (1 : Int32))) hx hb hr (fun t ht hW => ⟨⟨_, ((0 : Int32), lm_1, ln_1, cap_1, ef_1, q_1, (upd (upd (upd (upd (fun _ => (0 : Int32)) (0 : Int32).toNatClampNeg p1) (1 : Int32).toNatClampNeg p2) (2 : Int32).toNatClampNeg p3) (3 : Int32).toNatClampNeg i5)), rfl, h, e0_1, by rw [ht]; exact hP, hD⟩, hS.F ht⟩) hS.2.2 dX4_say_198
  have cut65 : ∀ (i4 : Int32) (ls : Array Slot) (H : Heap) (locs : List Loc), lv_has ls 6 [(0, .ref m0), (1, .int p1), (2, .int p2), (3, .int p3), (4, .int i4)] → PP G [(m0, .inr (7, [.int (0 : Int32), .int mr, .long po, .ref dO, .ref sl, .ref ct0, .int mf, .int sp, .ref st0, .ref fs0, .ref jn0, .ref rw0, .ref fd0, .ref af0, .ref kO])), (dO, .inl (G.2 4, 6, .inr (.inr (.inr (.inr (fun k => if k < 6 then some (dr k) else none)))))), (dr 0, .inl (G.2 0, 64, .inl (DD 0))), (dr 1, .inl (G.2 0, 64, .inl (DD 1))), (dr 2, .inl (G.2 0, 64, .inl (DD 2))), (dr 3, .inl (G.2 0, 64, .inl (DD 3))), (dr 4, .inl (G.2 0, 64, .inl (DD 4))), (dr 5, .inl (G.2 0, 64, .inl (DD 5))), (ct0, .inl (G.2 0, 6, .inl ctf)), (st0, .inl (G.2 0, 4096, .inl stf)), (fs0, .inl (G.2 0, 4096, .inl fsf)), (jn0, .inl (G.2 0, 64, .inl jnf)), (rw0, .inl (G.2 0, 64, .inl rwf)), (fd0, .inl (G.2 1, 40, .inr (.inl fdf))), (af0, .inl (G.2 3, 40, .inl aff)), (kO, .inl (G.2 4, 4, .inr (.inr (.inr (.inr (fun k => if k < 4 then some (kr k) else none)))))), (kr 0, .inl (G.2 0, 64, .inl (KP 0))), (kr 1, .inl (G.2 0, 64, .inl (KP 1))), (kr 2, .inl (G.2 0, 64, .inl (KP 2))), (kr 3, .inl (G.2 0, 64, .inl (KP 3))), (sl, .inr (2, [.int lm, .ref e0, .int ln])), (e0, .inl (G.2 5, cap, .inr (.inr (.inr (.inr ef)))))] H → va_D A [(m0, .inr (7, [.int (0 : Int32), .int mr, .long po, .ref dO, .ref sl, .ref ct0, .int mf, .int sp, .ref st0, .ref fs0, .ref jn0, .ref rw0, .ref fd0, .ref af0, .ref kO])), (dO, .inl (G.2 4, 6, .inr (.inr (.inr (.inr (fun k => if k < 6 then some (dr k) else none)))))), (dr 0, .inl (G.2 0, 64, .inl (DD 0))), (dr 1, .inl (G.2 0, 64, .inl (DD 1))), (dr 2, .inl (G.2 0, 64, .inl (DD 2))), (dr 3, .inl (G.2 0, 64, .inl (DD 3))), (dr 4, .inl (G.2 0, 64, .inl (DD 4))), (dr 5, .inl (G.2 0, 64, .inl (DD 5))), (ct0, .inl (G.2 0, 6, .inl ctf)), (st0, .inl (G.2 0, 4096, .inl stf)), (fs0, .inl (G.2 0, 4096, .inl fsf)), (jn0, .inl (G.2 0, 64, .inl jnf)), (rw0, .inl (G.2 0, 64, .inl rwf)), (fd0, .inl (G.2 1, 40, .inr (.inl fdf))), (af0, .inl (G.2 3, 40, .inl aff)), (kO, .inl (G.2 4, 4, .inr (.inr (.inr (.inr (fun k => if k < 4 then some (kr k) else none)))))), (kr 0, .inl (G.2 0, 64, .inl (KP 0))), (kr 1, .inl (G.2 0, 64, .inl (KP 1))), (kr 2, .inl (G.2 0, 64, .inl (KP 2))), (kr 3, .inl (G.2 0, 64, .inl (KP 3))), (sl, .inr (2, [.int lm, .ref e0, .int ln])), (e0, .inl (G.2 5, cap, .inr (.inr (.inr (.inr ef)))))] → va_S A s.heap H locs → wnX4_sayN_C65 post sn sq lm ln cap ef p1 p2 p3 i4 → W p l e (headSpec (wl_nX4_sayN) rm_nX4_sayN).room s m ([.ref m0, .int p1, .int p2, .int p3] : List Value).toArray below meth c H locs 0 0 (MQ below QC ([.ref m0, .int p1, .int p2, .int p3] : List Value).toArray s 2 64 A) (F0 m 65 ls []) := by
    intro i4 ls H locs hl hP hD hS h
    refine lv_iload hx hb dX4_say_65 (lv_at hl 4 rfl) ?_
    refine lv_if_eq (tgt := 83) hx hb dX4_say_67 (by decide) (fun hc => ?_) (fun hc => ?_)
    · have h := h.1 hc
      exact False.elim h
    · have h := h.2 hc
      refine lv_iload_n hx hb dX4_say_70 rfl (lv_at hl 1 rfl) ?_
      refine lv_iconst (v := 1) hx hb dX4_say_71 (by decide) ?_
      refine lv_icmp_le (tgt := 89) hx hb dX4_say_72 (by decide) (fun hc => ?_) (fun hc => ?_)
      · have h := h.1 hc
        refine lv_aload_n hx hb dX4_say_89 rfl (lv_at hl 0 rfl) ?_
        refine va_get (D := G.1) (ci := 7) (v := .ref sl) (C := RX4) (T := TX4) (N := 15) hx hb hts igX4 hown hK hP 0 rfl rfl 4 (by decide) (hts _ q1009) (fun _ h9 => h9) rfl dX4_say_90 ?_
        have hPc := va_P.sub (ws' := [(sl, .inr (2, [.int lm, .ref e0, .int ln]))]) hP [20] rfl
        refine va_csFi (va_runF (C := RJx4a65c) (x := xSize) (As := []) (rest := []) (hK.1 2 _ rfl).2 ⟨hx, hb, hml, hown, hts⟩ (kJx4a65c_size_8abf5 l G sl e0 lm ln h) (va_cwF 0 hts (gdF q1072 q1076 q1078 q9 q1080) rfl rfl rfl hKK.2.2.2.1.1 (by decide +kernel) ⟨Nat.le_of_ble_eq_true rfl, Nat.le_of_ble_eq_true rfl⟩) (preV hPc hKK (va_recv hK hPc (ci := 2) (q0 := 0) rfl rfl)) rfl rfl hl.1 rfl (lv_room (Nat.le_of_ble_eq_true rfl)) dX4_say_93 ⟨Nat.zero_le _, Nat.zero_le _⟩) (fun r_3 h => ?_)
        refine lv_bipush (v := 40) hx hb dX4_say_98 (by decide) ?_
        refine lv_icmp_ne (tgt := 109) hx hb dX4_say_100 (by decide) (fun hc => ?_) (fun hc => ?_)
        · have h := h.1 hc
          refine lv_iload_n hx hb dX4_say_109 rfl (lv_at hl 1 rfl) ?_
          refine lv_if_ne (tgt := 117) hx hb dX4_say_110 (by decide) (fun hc => ?_) (fun hc => ?_)
          · have h := h.1 hc
            refine lv_iconst (v := 1) hx hb dX4_say_117 (by decide) ?_
            refine lv_istore hx hb dX4_say_118 hl (Nat.le_of_ble_eq_true rfl) rfl (fun ls hl => ?_)
            have hl : lv_has ls 6 [(5, .int (1 : Int32)), (0, .ref m0), (1, .int p1), (2, .int p2), (3, .int p3), (4, .int i4)] := hl
            refine lv_iload_n hx hb dX4_say_120 rfl (lv_at hl 2 rfl) ?_
            refine lv_if_le (tgt := 138) hx hb dX4_say_121 (by decide) (fun hc => ?_) (fun hc => ?_)
            · have h := h.1 hc
              refine lv_iload_n hx hb dX4_say_138 rfl (lv_at hl 2 rfl) ?_
              refine lv_iconst (v := 1) hx hb dX4_say_139 (by decide) ?_
              refine lv_icmp_le (tgt := 157) hx hb dX4_say_140 (by decide) (fun hc => ?_) (fun hc => ?_)
              · have h := h.1 hc
                have hl := lv_sub (l' := [(0, .ref m0), (1, .int p1), (2, .int p2), (3, .int p3), (4, .int i4), (5, .int (1 : Int32))]) hl [1, 2, 3, 4, 5, 0] rfl
                exact cut157 i4 (1 : Int32) _ _ _ hl hP hD hS h
              · have h := h.2 hc
                refine lv_iload hx hb dX4_say_143 (lv_at hl 0 rfl) ?_
                refine lv_iconst (v := 1) hx hb dX4_say_145 (by decide) ?_
                refine lv_aload_n hx hb dX4_say_146 rfl (lv_at hl 1 rfl) ?_
                refine lv_iload_n hx hb dX4_say_147 rfl (lv_at hl 4 rfl) ?_
                have hPc := va_P.sub (ws' := [(m0, .inr (7, [.int (0 : Int32), .int mr, .long po, .ref dO, .ref sl, .ref ct0, .int mf, .int sp, .ref st0, .ref fs0, .ref jn0, .ref rw0, .ref fd0, .ref af0, .ref kO])), (dO, .inl (G.2 4, 6, .inr (.inr (.inr (.inr (fun k => if k < 6 then some (dr k) else none)))))), (dr 0, .inl (G.2 0, 64, .inl (DD 0))), (dr 1, .inl (G.2 0, 64, .inl (DD 1))), (dr 2, .inl (G.2 0, 64, .inl (DD 2))), (dr 3, .inl (G.2 0, 64, .inl (DD 3))), (dr 4, .inl (G.2 0, 64, .inl (DD 4))), (dr 5, .inl (G.2 0, 64, .inl (DD 5))), (ct0, .inl (G.2 0, 6, .inl ctf)), (st0, .inl (G.2 0, 4096, .inl stf)), (fs0, .inl (G.2 0, 4096, .inl fsf)), (jn0, .inl (G.2 0, 64, .inl jnf)), (rw0, .inl (G.2 0, 64, .inl rwf)), (fd0, .inl (G.2 1, 40, .inr (.inl fdf))), (af0, .inl (G.2 3, 40, .inl aff)), (kO, .inl (G.2 4, 4, .inr (.inr (.inr (.inr (fun k => if k < 4 then some (kr k) else none)))))), (kr 0, .inl (G.2 0, 64, .inl (KP 0))), (kr 1, .inl (G.2 0, 64, .inl (KP 1))), (kr 2, .inl (G.2 0, 64, .inl (KP 2))), (kr 3, .inl (G.2 0, 64, .inl (KP 3)))]) hP [0, 1, 2, 3, 4, 5, 6, 7, 8, 9, 10, 11, 12, 13, 14, 15, 16, 17, 18, 19] rfl
                have hSSc : SS G sl sn sa sq (fun _ => False) s _ := ssN hP 20 21 rfl rfl ((hF_rl.kept hS.2.1).narrow (fun _ (h : False) => False.elim h)) hln hef hsc hcp hs0
                refine rdI (va_runV (C := RX4) (As := [.int p3]) (rest := [.int (1 : Int32), .int (1 : Int32)]) ⟨hx, hb, hml, hown, hts⟩ (kX4_built l G m0 dO sl ct0 st0 fs0 jn0 rw0 fd0 af0 kO dr kr sa (0 : Int32) mr po mf sp DD ctf stf fsf jnf rwf fdf aff KP sn sq p3 h) (cwV 1 hts (gdV q1158 q1160 qs21 q6 q1161) rfl rfl rfl (by decide +kernel) ⟨Nat.le_of_ble_eq_true rfl, Nat.le_of_ble_eq_true rfl⟩) (preVs hPc hKK hSSc (va_recv hK hPc (ci := 7) (q0 := 0) rfl rfl)) rfl rfl hl.1 rfl (lv_room (Nat.le_of_ble_eq_true rfl)) dX4_say_148 ⟨Nat.zero_le _, Nat.zero_le _⟩) (fun r_6 h => ?_)
                refine lv_iadd hx hb dX4_say_151 ?_
                refine va_mmax hx hb (by rw [hml]; exact hl.1.symm) hown (hts _ q1162) (hts _ q562) (hts _ q18) (hts _ q563) (Nat.le_of_ble_eq_true rfl) (Nat.le_of_ble_eq_true rfl) (Nat.zero_le _) (Nat.zero_le _) dX4_say_152 ?_
                refine lv_topi (fun x_1 ex_1 => ?_)
                have h := h x_1 ex_1
                refine lv_istore hx hb dX4_say_155 hl (Nat.le_of_ble_eq_true rfl) rfl (fun ls hl => ?_)
                have hl : lv_has ls 6 [(5, .int x_1), (0, .ref m0), (1, .int p1), (2, .int p2), (3, .int p3), (4, .int i4)] := hl
                have hl := lv_sub (l' := [(0, .ref m0), (1, .int p1), (2, .int p2), (3, .int p3), (4, .int i4), (5, .int x_1)]) hl [1, 2, 3, 4, 5, 0] rfl
                exact cut157 i4 x_1 _ _ _ hl hP hD hS h
            · have h := h.2 hc
              refine lv_iload_n hx hb dX4_say_124 rfl (lv_at hl 2 rfl) ?_
              refine lv_iconst (v := 4) hx hb dX4_say_125 (by decide) ?_
              refine lv_icmp_ge (tgt := 138) hx hb dX4_say_126 (by decide) (fun hc => ?_) (fun hc => ?_)
              · have h := h.1 hc
                refine lv_iload_n hx hb dX4_say_138 rfl (lv_at hl 2 rfl) ?_
                refine lv_iconst (v := 1) hx hb dX4_say_139 (by decide) ?_
                refine lv_icmp_le (tgt := 157) hx hb dX4_say_140 (by decide) (fun hc => ?_) (fun hc => ?_)
                · have h := h.1 hc
                  have hl := lv_sub (l' := [(0, .ref m0), (1, .int p1), (2, .int p2), (3, .int p3), (4, .int i4), (5, .int (1 : Int32))]) hl [1, 2, 3, 4, 5, 0] rfl
                  exact cut157 i4 (1 : Int32) _ _ _ hl hP hD hS h
                · have h := h.2 hc
                  refine lv_iload hx hb dX4_say_143 (lv_at hl 0 rfl) ?_
                  refine lv_iconst (v := 1) hx hb dX4_say_145 (by decide) ?_
                  refine lv_aload_n hx hb dX4_say_146 rfl (lv_at hl 1 rfl) ?_
                  refine lv_iload_n hx hb dX4_say_147 rfl (lv_at hl 4 rfl) ?_
                  have hPc := va_P.sub (ws' := [(m0, .inr (7, [.int (0 : Int32), .int mr, .long po, .ref dO, .ref sl, .ref ct0, .int mf, .int sp, .ref st0, .ref fs0, .ref jn0, .ref rw0, .ref fd0, .ref af0, .ref kO])), (dO, .inl (G.2 4, 6, .inr (.inr (.inr (.inr (fun k => if k < 6 then some (dr k) else none)))))), (dr 0, .inl (G.2 0, 64, .inl (DD 0))), (dr 1, .inl (G.2 0, 64, .inl (DD 1))), (dr 2, .inl (G.2 0, 64, .inl (DD 2))), (dr 3, .inl (G.2 0, 64, .inl (DD 3))), (dr 4, .inl (G.2 0, 64, .inl (DD 4))), (dr 5, .inl (G.2 0, 64, .inl (DD 5))), (ct0, .inl (G.2 0, 6, .inl ctf)), (st0, .inl (G.2 0, 4096, .inl stf)), (fs0, .inl (G.2 0, 4096, .inl fsf)), (jn0, .inl (G.2 0, 64, .inl jnf)), (rw0, .inl (G.2 0, 64, .inl rwf)), (fd0, .inl (G.2 1, 40, .inr (.inl fdf))), (af0, .inl (G.2 3, 40, .inl aff)), (kO, .inl (G.2 4, 4, .inr (.inr (.inr (.inr (fun k => if k < 4 then some (kr k) else none)))))), (kr 0, .inl (G.2 0, 64, .inl (KP 0))), (kr 1, .inl (G.2 0, 64, .inl (KP 1))), (kr 2, .inl (G.2 0, 64, .inl (KP 2))), (kr 3, .inl (G.2 0, 64, .inl (KP 3)))]) hP [0, 1, 2, 3, 4, 5, 6, 7, 8, 9, 10, 11, 12, 13, 14, 15, 16, 17, 18, 19] rfl
                  have hSSc : SS G sl sn sa sq (fun _ => False) s _ := ssN hP 20 21 rfl rfl ((hF_rl.kept hS.2.1).narrow (fun _ (h : False) => False.elim h)) hln hef hsc hcp hs0
                  refine rdI (va_runV (C := RX4) (As := [.int p3]) (rest := [.int (1 : Int32), .int (1 : Int32)]) ⟨hx, hb, hml, hown, hts⟩ (kX4_built l G m0 dO sl ct0 st0 fs0 jn0 rw0 fd0 af0 kO dr kr sa (0 : Int32) mr po mf sp DD ctf stf fsf jnf rwf fdf aff KP sn sq p3 h) (cwV 1 hts (gdV q1158 q1160 qs21 q6 q1161) rfl rfl rfl (by decide +kernel) ⟨Nat.le_of_ble_eq_true rfl, Nat.le_of_ble_eq_true rfl⟩) (preVs hPc hKK hSSc (va_recv hK hPc (ci := 7) (q0 := 0) rfl rfl)) rfl rfl hl.1 rfl (lv_room (Nat.le_of_ble_eq_true rfl)) dX4_say_148 ⟨Nat.zero_le _, Nat.zero_le _⟩) (fun r_7 h => ?_)
                  refine lv_iadd hx hb dX4_say_151 ?_
                  refine va_mmax hx hb (by rw [hml]; exact hl.1.symm) hown (hts _ q1162) (hts _ q562) (hts _ q18) (hts _ q563) (Nat.le_of_ble_eq_true rfl) (Nat.le_of_ble_eq_true rfl) (Nat.zero_le _) (Nat.zero_le _) dX4_say_152 ?_
                  refine lv_topi (fun x_2 ex_2 => ?_)
                  have h := h x_2 ex_2
                  refine lv_istore hx hb dX4_say_155 hl (Nat.le_of_ble_eq_true rfl) rfl (fun ls hl => ?_)
                  have hl : lv_has ls 6 [(5, .int x_2), (0, .ref m0), (1, .int p1), (2, .int p2), (3, .int p3), (4, .int i4)] := hl
                  have hl := lv_sub (l' := [(0, .ref m0), (1, .int p1), (2, .int p2), (3, .int p3), (4, .int i4), (5, .int x_2)]) hl [1, 2, 3, 4, 5, 0] rfl
                  exact cut157 i4 x_2 _ _ _ hl hP hD hS h
              · have h := h.2 hc
                refine lv_iconst (v := 1) hx hb dX4_say_129 (by decide) ?_
                refine lv_aload_n hx hb dX4_say_130 rfl (lv_at hl 1 rfl) ?_
                refine lv_iload_n hx hb dX4_say_131 rfl (lv_at hl 3 rfl) ?_
                have hPc := va_P.sub (ws' := [(m0, .inr (7, [.int (0 : Int32), .int mr, .long po, .ref dO, .ref sl, .ref ct0, .int mf, .int sp, .ref st0, .ref fs0, .ref jn0, .ref rw0, .ref fd0, .ref af0, .ref kO])), (dO, .inl (G.2 4, 6, .inr (.inr (.inr (.inr (fun k => if k < 6 then some (dr k) else none)))))), (dr 0, .inl (G.2 0, 64, .inl (DD 0))), (dr 1, .inl (G.2 0, 64, .inl (DD 1))), (dr 2, .inl (G.2 0, 64, .inl (DD 2))), (dr 3, .inl (G.2 0, 64, .inl (DD 3))), (dr 4, .inl (G.2 0, 64, .inl (DD 4))), (dr 5, .inl (G.2 0, 64, .inl (DD 5))), (ct0, .inl (G.2 0, 6, .inl ctf)), (st0, .inl (G.2 0, 4096, .inl stf)), (fs0, .inl (G.2 0, 4096, .inl fsf)), (jn0, .inl (G.2 0, 64, .inl jnf)), (rw0, .inl (G.2 0, 64, .inl rwf)), (fd0, .inl (G.2 1, 40, .inr (.inl fdf))), (af0, .inl (G.2 3, 40, .inl aff)), (kO, .inl (G.2 4, 4, .inr (.inr (.inr (.inr (fun k => if k < 4 then some (kr k) else none)))))), (kr 0, .inl (G.2 0, 64, .inl (KP 0))), (kr 1, .inl (G.2 0, 64, .inl (KP 1))), (kr 2, .inl (G.2 0, 64, .inl (KP 2))), (kr 3, .inl (G.2 0, 64, .inl (KP 3)))]) hP [0, 1, 2, 3, 4, 5, 6, 7, 8, 9, 10, 11, 12, 13, 14, 15, 16, 17, 18, 19] rfl
                have hSSc : SS G sl sn sa sq (fun _ => False) s _ := ssN hP 20 21 rfl rfl ((hF_rl.kept hS.2.1).narrow (fun _ (h : False) => False.elim h)) hln hef hsc hcp hs0
                refine rdI (va_runV (C := RX4) (As := [.int p2]) (rest := [.int (1 : Int32)]) ⟨hx, hb, hml, hown, hts⟩ (kX4_built l G m0 dO sl ct0 st0 fs0 jn0 rw0 fd0 af0 kO dr kr sa (0 : Int32) mr po mf sp DD ctf stf fsf jnf rwf fdf aff KP sn sq p2 h) (cwV 1 hts (gdV q1158 q1160 qs21 q6 q1161) rfl rfl rfl (by decide +kernel) ⟨Nat.le_of_ble_eq_true rfl, Nat.le_of_ble_eq_true rfl⟩) (preVs hPc hKK hSSc (va_recv hK hPc (ci := 7) (q0 := 0) rfl rfl)) rfl rfl hl.1 rfl (lv_room (Nat.le_of_ble_eq_true rfl)) dX4_say_132 ⟨Nat.zero_le _, Nat.zero_le _⟩) (fun r_8 h => ?_)
                refine lv_iadd hx hb dX4_say_135 ?_
                refine lv_istore hx hb dX4_say_136 hl (Nat.le_of_ble_eq_true rfl) rfl (fun ls hl => ?_)
                have hl : lv_has ls 6 [(5, .int ((1 : Int32) + r_8)), (0, .ref m0), (1, .int p1), (2, .int p2), (3, .int p3), (4, .int i4)] := hl
                refine lv_iload_n hx hb dX4_say_138 rfl (lv_at hl 2 rfl) ?_
                refine lv_iconst (v := 1) hx hb dX4_say_139 (by decide) ?_
                refine lv_icmp_le (tgt := 157) hx hb dX4_say_140 (by decide) (fun hc => ?_) (fun hc => ?_)
                · have h := h.1 hc
                  have hl := lv_sub (l' := [(0, .ref m0), (1, .int p1), (2, .int p2), (3, .int p3), (4, .int i4), (5, .int ((1 : Int32) + r_8))]) hl [1, 2, 3, 4, 5, 0] rfl
                  exact cut157 i4 ((1 : Int32) + r_8) _ _ _ hl hP hD hS h
                · have h := h.2 hc
                  refine lv_iload hx hb dX4_say_143 (lv_at hl 0 rfl) ?_
                  refine lv_iconst (v := 1) hx hb dX4_say_145 (by decide) ?_
                  refine lv_aload_n hx hb dX4_say_146 rfl (lv_at hl 1 rfl) ?_
                  refine lv_iload_n hx hb dX4_say_147 rfl (lv_at hl 4 rfl) ?_
                  have hPc := va_P.sub (ws' := [(m0, .inr (7, [.int (0 : Int32), .int mr, .long po, .ref dO, .ref sl, .ref ct0, .int mf, .int sp, .ref st0, .ref fs0, .ref jn0, .ref rw0, .ref fd0, .ref af0, .ref kO])), (dO, .inl (G.2 4, 6, .inr (.inr (.inr (.inr (fun k => if k < 6 then some (dr k) else none)))))), (dr 0, .inl (G.2 0, 64, .inl (DD 0))), (dr 1, .inl (G.2 0, 64, .inl (DD 1))), (dr 2, .inl (G.2 0, 64, .inl (DD 2))), (dr 3, .inl (G.2 0, 64, .inl (DD 3))), (dr 4, .inl (G.2 0, 64, .inl (DD 4))), (dr 5, .inl (G.2 0, 64, .inl (DD 5))), (ct0, .inl (G.2 0, 6, .inl ctf)), (st0, .inl (G.2 0, 4096, .inl stf)), (fs0, .inl (G.2 0, 4096, .inl fsf)), (jn0, .inl (G.2 0, 64, .inl jnf)), (rw0, .inl (G.2 0, 64, .inl rwf)), (fd0, .inl (G.2 1, 40, .inr (.inl fdf))), (af0, .inl (G.2 3, 40, .inl aff)), (kO, .inl (G.2 4, 4, .inr (.inr (.inr (.inr (fun k => if k < 4 then some (kr k) else none)))))), (kr 0, .inl (G.2 0, 64, .inl (KP 0))), (kr 1, .inl (G.2 0, 64, .inl (KP 1))), (kr 2, .inl (G.2 0, 64, .inl (KP 2))), (kr 3, .inl (G.2 0, 64, .inl (KP 3)))]) hP [0, 1, 2, 3, 4, 5, 6, 7, 8, 9, 10, 11, 12, 13, 14, 15, 16, 17, 18, 19] rfl
                  have hSSc : SS G sl sn sa sq (fun _ => False) s _ := ssN hP 20 21 rfl rfl ((hF_rl.kept hS.2.1).narrow (fun _ (h : False) => False.elim h)) hln hef hsc hcp hs0
                  refine rdI (va_runV (C := RX4) (As := [.int p3]) (rest := [.int (1 : Int32), .int ((1 : Int32) + r_8)]) ⟨hx, hb, hml, hown, hts⟩ (kX4_built l G m0 dO sl ct0 st0 fs0 jn0 rw0 fd0 af0 kO dr kr sa (0 : Int32) mr po mf sp DD ctf stf fsf jnf rwf fdf aff KP sn sq p3 h) (cwV 1 hts (gdV q1158 q1160 qs21 q6 q1161) rfl rfl rfl (by decide +kernel) ⟨Nat.le_of_ble_eq_true rfl, Nat.le_of_ble_eq_true rfl⟩) (preVs hPc hKK hSSc (va_recv hK hPc (ci := 7) (q0 := 0) rfl rfl)) rfl rfl hl.1 rfl (lv_room (Nat.le_of_ble_eq_true rfl)) dX4_say_148 ⟨Nat.zero_le _, Nat.zero_le _⟩) (fun r_9 h => ?_)
                  refine lv_iadd hx hb dX4_say_151 ?_
                  refine va_mmax hx hb (by rw [hml]; exact hl.1.symm) hown (hts _ q1162) (hts _ q562) (hts _ q18) (hts _ q563) (Nat.le_of_ble_eq_true rfl) (Nat.le_of_ble_eq_true rfl) (Nat.zero_le _) (Nat.zero_le _) dX4_say_152 ?_
                  refine lv_topi (fun x_3 ex_3 => ?_)
                  have h := h x_3 ex_3
                  refine lv_istore hx hb dX4_say_155 hl (Nat.le_of_ble_eq_true rfl) rfl (fun ls hl => ?_)
                  have hl : lv_has ls 6 [(5, .int x_3), (0, .ref m0), (1, .int p1), (2, .int p2), (3, .int p3), (4, .int i4)] := hl
                  have hl := lv_sub (l' := [(0, .ref m0), (1, .int p1), (2, .int p2), (3, .int p3), (4, .int i4), (5, .int x_3)]) hl [1, 2, 3, 4, 5, 0] rfl
                  exact cut157 i4 x_3 _ _ _ hl hP hD hS h
          · have h := h.2 hc
            refine lv_iconst (v := 0) hx hb dX4_say_113 (by decide) ?_
            refine lv_goto (tgt := 118) hx hb dX4_say_114 (by decide) ?_
            refine lv_istore hx hb dX4_say_118 hl (Nat.le_of_ble_eq_true rfl) rfl (fun ls hl => ?_)
            have hl : lv_has ls 6 [(5, .int (0 : Int32)), (0, .ref m0), (1, .int p1), (2, .int p2), (3, .int p3), (4, .int i4)] := hl
            refine lv_iload_n hx hb dX4_say_120 rfl (lv_at hl 2 rfl) ?_
            refine lv_if_le (tgt := 138) hx hb dX4_say_121 (by decide) (fun hc => ?_) (fun hc => ?_)
            · have h := h.1 hc
              refine lv_iload_n hx hb dX4_say_138 rfl (lv_at hl 2 rfl) ?_
              refine lv_iconst (v := 1) hx hb dX4_say_139 (by decide) ?_
              refine lv_icmp_le (tgt := 157) hx hb dX4_say_140 (by decide) (fun hc => ?_) (fun hc => ?_)
              · have h := h.1 hc
                have hl := lv_sub (l' := [(0, .ref m0), (1, .int p1), (2, .int p2), (3, .int p3), (4, .int i4), (5, .int (0 : Int32))]) hl [1, 2, 3, 4, 5, 0] rfl
                exact cut157 i4 (0 : Int32) _ _ _ hl hP hD hS h
              · have h := h.2 hc
                refine lv_iload hx hb dX4_say_143 (lv_at hl 0 rfl) ?_
                refine lv_iconst (v := 1) hx hb dX4_say_145 (by decide) ?_
                refine lv_aload_n hx hb dX4_say_146 rfl (lv_at hl 1 rfl) ?_
                refine lv_iload_n hx hb dX4_say_147 rfl (lv_at hl 4 rfl) ?_
                have hPc := va_P.sub (ws' := [(m0, .inr (7, [.int (0 : Int32), .int mr, .long po, .ref dO, .ref sl, .ref ct0, .int mf, .int sp, .ref st0, .ref fs0, .ref jn0, .ref rw0, .ref fd0, .ref af0, .ref kO])), (dO, .inl (G.2 4, 6, .inr (.inr (.inr (.inr (fun k => if k < 6 then some (dr k) else none)))))), (dr 0, .inl (G.2 0, 64, .inl (DD 0))), (dr 1, .inl (G.2 0, 64, .inl (DD 1))), (dr 2, .inl (G.2 0, 64, .inl (DD 2))), (dr 3, .inl (G.2 0, 64, .inl (DD 3))), (dr 4, .inl (G.2 0, 64, .inl (DD 4))), (dr 5, .inl (G.2 0, 64, .inl (DD 5))), (ct0, .inl (G.2 0, 6, .inl ctf)), (st0, .inl (G.2 0, 4096, .inl stf)), (fs0, .inl (G.2 0, 4096, .inl fsf)), (jn0, .inl (G.2 0, 64, .inl jnf)), (rw0, .inl (G.2 0, 64, .inl rwf)), (fd0, .inl (G.2 1, 40, .inr (.inl fdf))), (af0, .inl (G.2 3, 40, .inl aff)), (kO, .inl (G.2 4, 4, .inr (.inr (.inr (.inr (fun k => if k < 4 then some (kr k) else none)))))), (kr 0, .inl (G.2 0, 64, .inl (KP 0))), (kr 1, .inl (G.2 0, 64, .inl (KP 1))), (kr 2, .inl (G.2 0, 64, .inl (KP 2))), (kr 3, .inl (G.2 0, 64, .inl (KP 3)))]) hP [0, 1, 2, 3, 4, 5, 6, 7, 8, 9, 10, 11, 12, 13, 14, 15, 16, 17, 18, 19] rfl
                have hSSc : SS G sl sn sa sq (fun _ => False) s _ := ssN hP 20 21 rfl rfl ((hF_rl.kept hS.2.1).narrow (fun _ (h : False) => False.elim h)) hln hef hsc hcp hs0
                refine rdI (va_runV (C := RX4) (As := [.int p3]) (rest := [.int (1 : Int32), .int (0 : Int32)]) ⟨hx, hb, hml, hown, hts⟩ (kX4_built l G m0 dO sl ct0 st0 fs0 jn0 rw0 fd0 af0 kO dr kr sa (0 : Int32) mr po mf sp DD ctf stf fsf jnf rwf fdf aff KP sn sq p3 h) (cwV 1 hts (gdV q1158 q1160 qs21 q6 q1161) rfl rfl rfl (by decide +kernel) ⟨Nat.le_of_ble_eq_true rfl, Nat.le_of_ble_eq_true rfl⟩) (preVs hPc hKK hSSc (va_recv hK hPc (ci := 7) (q0 := 0) rfl rfl)) rfl rfl hl.1 rfl (lv_room (Nat.le_of_ble_eq_true rfl)) dX4_say_148 ⟨Nat.zero_le _, Nat.zero_le _⟩) (fun r_10 h => ?_)
                refine lv_iadd hx hb dX4_say_151 ?_
                refine va_mmax hx hb (by rw [hml]; exact hl.1.symm) hown (hts _ q1162) (hts _ q562) (hts _ q18) (hts _ q563) (Nat.le_of_ble_eq_true rfl) (Nat.le_of_ble_eq_true rfl) (Nat.zero_le _) (Nat.zero_le _) dX4_say_152 ?_
                refine lv_topi (fun x_4 ex_4 => ?_)
                have h := h x_4 ex_4
                refine lv_istore hx hb dX4_say_155 hl (Nat.le_of_ble_eq_true rfl) rfl (fun ls hl => ?_)
                have hl : lv_has ls 6 [(5, .int x_4), (0, .ref m0), (1, .int p1), (2, .int p2), (3, .int p3), (4, .int i4)] := hl
                have hl := lv_sub (l' := [(0, .ref m0), (1, .int p1), (2, .int p2), (3, .int p3), (4, .int i4), (5, .int x_4)]) hl [1, 2, 3, 4, 5, 0] rfl
                exact cut157 i4 x_4 _ _ _ hl hP hD hS h
            · have h := h.2 hc
              refine lv_iload_n hx hb dX4_say_124 rfl (lv_at hl 2 rfl) ?_
              refine lv_iconst (v := 4) hx hb dX4_say_125 (by decide) ?_
              refine lv_icmp_ge (tgt := 138) hx hb dX4_say_126 (by decide) (fun hc => ?_) (fun hc => ?_)
              · have h := h.1 hc
                refine lv_iload_n hx hb dX4_say_138 rfl (lv_at hl 2 rfl) ?_
                refine lv_iconst (v := 1) hx hb dX4_say_139 (by decide) ?_
                refine lv_icmp_le (tgt := 157) hx hb dX4_say_140 (by decide) (fun hc => ?_) (fun hc => ?_)
                · have h := h.1 hc
                  have hl := lv_sub (l' := [(0, .ref m0), (1, .int p1), (2, .int p2), (3, .int p3), (4, .int i4), (5, .int (0 : Int32))]) hl [1, 2, 3, 4, 5, 0] rfl
                  exact cut157 i4 (0 : Int32) _ _ _ hl hP hD hS h
                · have h := h.2 hc
                  refine lv_iload hx hb dX4_say_143 (lv_at hl 0 rfl) ?_
                  refine lv_iconst (v := 1) hx hb dX4_say_145 (by decide) ?_
                  refine lv_aload_n hx hb dX4_say_146 rfl (lv_at hl 1 rfl) ?_
                  refine lv_iload_n hx hb dX4_say_147 rfl (lv_at hl 4 rfl) ?_
                  have hPc := va_P.sub (ws' := [(m0, .inr (7, [.int (0 : Int32), .int mr, .long po, .ref dO, .ref sl, .ref ct0, .int mf, .int sp, .ref st0, .ref fs0, .ref jn0, .ref rw0, .ref fd0, .ref af0, .ref kO])), (dO, .inl (G.2 4, 6, .inr (.inr (.inr (.inr (fun k => if k < 6 then some (dr k) else none)))))), (dr 0, .inl (G.2 0, 64, .inl (DD 0))), (dr 1, .inl (G.2 0, 64, .inl (DD 1))), (dr 2, .inl (G.2 0, 64, .inl (DD 2))), (dr 3, .inl (G.2 0, 64, .inl (DD 3))), (dr 4, .inl (G.2 0, 64, .inl (DD 4))), (dr 5, .inl (G.2 0, 64, .inl (DD 5))), (ct0, .inl (G.2 0, 6, .inl ctf)), (st0, .inl (G.2 0, 4096, .inl stf)), (fs0, .inl (G.2 0, 4096, .inl fsf)), (jn0, .inl (G.2 0, 64, .inl jnf)), (rw0, .inl (G.2 0, 64, .inl rwf)), (fd0, .inl (G.2 1, 40, .inr (.inl fdf))), (af0, .inl (G.2 3, 40, .inl aff)), (kO, .inl (G.2 4, 4, .inr (.inr (.inr (.inr (fun k => if k < 4 then some (kr k) else none)))))), (kr 0, .inl (G.2 0, 64, .inl (KP 0))), (kr 1, .inl (G.2 0, 64, .inl (KP 1))), (kr 2, .inl (G.2 0, 64, .inl (KP 2))), (kr 3, .inl (G.2 0, 64, .inl (KP 3)))]) hP [0, 1, 2, 3, 4, 5, 6, 7, 8, 9, 10, 11, 12, 13, 14, 15, 16, 17, 18, 19] rfl
                  have hSSc : SS G sl sn sa sq (fun _ => False) s _ := ssN hP 20 21 rfl rfl ((hF_rl.kept hS.2.1).narrow (fun _ (h : False) => False.elim h)) hln hef hsc hcp hs0
                  refine rdI (va_runV (C := RX4) (As := [.int p3]) (rest := [.int (1 : Int32), .int (0 : Int32)]) ⟨hx, hb, hml, hown, hts⟩ (kX4_built l G m0 dO sl ct0 st0 fs0 jn0 rw0 fd0 af0 kO dr kr sa (0 : Int32) mr po mf sp DD ctf stf fsf jnf rwf fdf aff KP sn sq p3 h) (cwV 1 hts (gdV q1158 q1160 qs21 q6 q1161) rfl rfl rfl (by decide +kernel) ⟨Nat.le_of_ble_eq_true rfl, Nat.le_of_ble_eq_true rfl⟩) (preVs hPc hKK hSSc (va_recv hK hPc (ci := 7) (q0 := 0) rfl rfl)) rfl rfl hl.1 rfl (lv_room (Nat.le_of_ble_eq_true rfl)) dX4_say_148 ⟨Nat.zero_le _, Nat.zero_le _⟩) (fun r_11 h => ?_)
                  refine lv_iadd hx hb dX4_say_151 ?_
                  refine va_mmax hx hb (by rw [hml]; exact hl.1.symm) hown (hts _ q1162) (hts _ q562) (hts _ q18) (hts _ q563) (Nat.le_of_ble_eq_true rfl) (Nat.le_of_ble_eq_true rfl) (Nat.zero_le _) (Nat.zero_le _) dX4_say_152 ?_
                  refine lv_topi (fun x_5 ex_5 => ?_)
                  have h := h x_5 ex_5
                  refine lv_istore hx hb dX4_say_155 hl (Nat.le_of_ble_eq_true rfl) rfl (fun ls hl => ?_)
                  have hl : lv_has ls 6 [(5, .int x_5), (0, .ref m0), (1, .int p1), (2, .int p2), (3, .int p3), (4, .int i4)] := hl
                  have hl := lv_sub (l' := [(0, .ref m0), (1, .int p1), (2, .int p2), (3, .int p3), (4, .int i4), (5, .int x_5)]) hl [1, 2, 3, 4, 5, 0] rfl
                  exact cut157 i4 x_5 _ _ _ hl hP hD hS h
              · have h := h.2 hc
                refine lv_iconst (v := 1) hx hb dX4_say_129 (by decide) ?_
                refine lv_aload_n hx hb dX4_say_130 rfl (lv_at hl 1 rfl) ?_
                refine lv_iload_n hx hb dX4_say_131 rfl (lv_at hl 3 rfl) ?_
                have hPc := va_P.sub (ws' := [(m0, .inr (7, [.int (0 : Int32), .int mr, .long po, .ref dO, .ref sl, .ref ct0, .int mf, .int sp, .ref st0, .ref fs0, .ref jn0, .ref rw0, .ref fd0, .ref af0, .ref kO])), (dO, .inl (G.2 4, 6, .inr (.inr (.inr (.inr (fun k => if k < 6 then some (dr k) else none)))))), (dr 0, .inl (G.2 0, 64, .inl (DD 0))), (dr 1, .inl (G.2 0, 64, .inl (DD 1))), (dr 2, .inl (G.2 0, 64, .inl (DD 2))), (dr 3, .inl (G.2 0, 64, .inl (DD 3))), (dr 4, .inl (G.2 0, 64, .inl (DD 4))), (dr 5, .inl (G.2 0, 64, .inl (DD 5))), (ct0, .inl (G.2 0, 6, .inl ctf)), (st0, .inl (G.2 0, 4096, .inl stf)), (fs0, .inl (G.2 0, 4096, .inl fsf)), (jn0, .inl (G.2 0, 64, .inl jnf)), (rw0, .inl (G.2 0, 64, .inl rwf)), (fd0, .inl (G.2 1, 40, .inr (.inl fdf))), (af0, .inl (G.2 3, 40, .inl aff)), (kO, .inl (G.2 4, 4, .inr (.inr (.inr (.inr (fun k => if k < 4 then some (kr k) else none)))))), (kr 0, .inl (G.2 0, 64, .inl (KP 0))), (kr 1, .inl (G.2 0, 64, .inl (KP 1))), (kr 2, .inl (G.2 0, 64, .inl (KP 2))), (kr 3, .inl (G.2 0, 64, .inl (KP 3)))]) hP [0, 1, 2, 3, 4, 5, 6, 7, 8, 9, 10, 11, 12, 13, 14, 15, 16, 17, 18, 19] rfl
                have hSSc : SS G sl sn sa sq (fun _ => False) s _ := ssN hP 20 21 rfl rfl ((hF_rl.kept hS.2.1).narrow (fun _ (h : False) => False.elim h)) hln hef hsc hcp hs0
                refine rdI (va_runV (C := RX4) (As := [.int p2]) (rest := [.int (1 : Int32)]) ⟨hx, hb, hml, hown, hts⟩ (kX4_built l G m0 dO sl ct0 st0 fs0 jn0 rw0 fd0 af0 kO dr kr sa (0 : Int32) mr po mf sp DD ctf stf fsf jnf rwf fdf aff KP sn sq p2 h) (cwV 1 hts (gdV q1158 q1160 qs21 q6 q1161) rfl rfl rfl (by decide +kernel) ⟨Nat.le_of_ble_eq_true rfl, Nat.le_of_ble_eq_true rfl⟩) (preVs hPc hKK hSSc (va_recv hK hPc (ci := 7) (q0 := 0) rfl rfl)) rfl rfl hl.1 rfl (lv_room (Nat.le_of_ble_eq_true rfl)) dX4_say_132 ⟨Nat.zero_le _, Nat.zero_le _⟩) (fun r_12 h => ?_)
                refine lv_iadd hx hb dX4_say_135 ?_
                refine lv_istore hx hb dX4_say_136 hl (Nat.le_of_ble_eq_true rfl) rfl (fun ls hl => ?_)
                have hl : lv_has ls 6 [(5, .int ((1 : Int32) + r_12)), (0, .ref m0), (1, .int p1), (2, .int p2), (3, .int p3), (4, .int i4)] := hl
                refine lv_iload_n hx hb dX4_say_138 rfl (lv_at hl 2 rfl) ?_
                refine lv_iconst (v := 1) hx hb dX4_say_139 (by decide) ?_
                refine lv_icmp_le (tgt := 157) hx hb dX4_say_140 (by decide) (fun hc => ?_) (fun hc => ?_)
                · have h := h.1 hc
                  have hl := lv_sub (l' := [(0, .ref m0), (1, .int p1), (2, .int p2), (3, .int p3), (4, .int i4), (5, .int ((1 : Int32) + r_12))]) hl [1, 2, 3, 4, 5, 0] rfl
                  exact cut157 i4 ((1 : Int32) + r_12) _ _ _ hl hP hD hS h
                · have h := h.2 hc
                  refine lv_iload hx hb dX4_say_143 (lv_at hl 0 rfl) ?_
                  refine lv_iconst (v := 1) hx hb dX4_say_145 (by decide) ?_
                  refine lv_aload_n hx hb dX4_say_146 rfl (lv_at hl 1 rfl) ?_
                  refine lv_iload_n hx hb dX4_say_147 rfl (lv_at hl 4 rfl) ?_
                  have hPc := va_P.sub (ws' := [(m0, .inr (7, [.int (0 : Int32), .int mr, .long po, .ref dO, .ref sl, .ref ct0, .int mf, .int sp, .ref st0, .ref fs0, .ref jn0, .ref rw0, .ref fd0, .ref af0, .ref kO])), (dO, .inl (G.2 4, 6, .inr (.inr (.inr (.inr (fun k => if k < 6 then some (dr k) else none)))))), (dr 0, .inl (G.2 0, 64, .inl (DD 0))), (dr 1, .inl (G.2 0, 64, .inl (DD 1))), (dr 2, .inl (G.2 0, 64, .inl (DD 2))), (dr 3, .inl (G.2 0, 64, .inl (DD 3))), (dr 4, .inl (G.2 0, 64, .inl (DD 4))), (dr 5, .inl (G.2 0, 64, .inl (DD 5))), (ct0, .inl (G.2 0, 6, .inl ctf)), (st0, .inl (G.2 0, 4096, .inl stf)), (fs0, .inl (G.2 0, 4096, .inl fsf)), (jn0, .inl (G.2 0, 64, .inl jnf)), (rw0, .inl (G.2 0, 64, .inl rwf)), (fd0, .inl (G.2 1, 40, .inr (.inl fdf))), (af0, .inl (G.2 3, 40, .inl aff)), (kO, .inl (G.2 4, 4, .inr (.inr (.inr (.inr (fun k => if k < 4 then some (kr k) else none)))))), (kr 0, .inl (G.2 0, 64, .inl (KP 0))), (kr 1, .inl (G.2 0, 64, .inl (KP 1))), (kr 2, .inl (G.2 0, 64, .inl (KP 2))), (kr 3, .inl (G.2 0, 64, .inl (KP 3)))]) hP [0, 1, 2, 3, 4, 5, 6, 7, 8, 9, 10, 11, 12, 13, 14, 15, 16, 17, 18, 19] rfl
                  have hSSc : SS G sl sn sa sq (fun _ => False) s _ := ssN hP 20 21 rfl rfl ((hF_rl.kept hS.2.1).narrow (fun _ (h : False) => False.elim h)) hln hef hsc hcp hs0
                  refine rdI (va_runV (C := RX4) (As := [.int p3]) (rest := [.int (1 : Int32), .int ((1 : Int32) + r_12)]) ⟨hx, hb, hml, hown, hts⟩ (kX4_built l G m0 dO sl ct0 st0 fs0 jn0 rw0 fd0 af0 kO dr kr sa (0 : Int32) mr po mf sp DD ctf stf fsf jnf rwf fdf aff KP sn sq p3 h) (cwV 1 hts (gdV q1158 q1160 qs21 q6 q1161) rfl rfl rfl (by decide +kernel) ⟨Nat.le_of_ble_eq_true rfl, Nat.le_of_ble_eq_true rfl⟩) (preVs hPc hKK hSSc (va_recv hK hPc (ci := 7) (q0 := 0) rfl rfl)) rfl rfl hl.1 rfl (lv_room (Nat.le_of_ble_eq_true rfl)) dX4_say_148 ⟨Nat.zero_le _, Nat.zero_le _⟩) (fun r_13 h => ?_)
                  refine lv_iadd hx hb dX4_say_151 ?_
                  refine va_mmax hx hb (by rw [hml]; exact hl.1.symm) hown (hts _ q1162) (hts _ q562) (hts _ q18) (hts _ q563) (Nat.le_of_ble_eq_true rfl) (Nat.le_of_ble_eq_true rfl) (Nat.zero_le _) (Nat.zero_le _) dX4_say_152 ?_
                  refine lv_topi (fun x_6 ex_6 => ?_)
                  have h := h x_6 ex_6
                  refine lv_istore hx hb dX4_say_155 hl (Nat.le_of_ble_eq_true rfl) rfl (fun ls hl => ?_)
                  have hl : lv_has ls 6 [(5, .int x_6), (0, .ref m0), (1, .int p1), (2, .int p2), (3, .int p3), (4, .int i4)] := hl
                  have hl := lv_sub (l' := [(0, .ref m0), (1, .int p1), (2, .int p2), (3, .int p3), (4, .int i4), (5, .int x_6)]) hl [1, 2, 3, 4, 5, 0] rfl
                  exact cut157 i4 x_6 _ _ _ hl hP hD hS h
        · have h := h.2 hc
          exact False.elim h
      · have h := h.2 hc
        refine lv_aload_n hx hb dX4_say_75 rfl (lv_at hl 0 rfl) ?_
        refine lv_iload_n hx hb dX4_say_76 rfl (lv_at hl 3 rfl) ?_
        have hPc := va_P.sub (ws' := [(m0, .inr (7, [.int (0 : Int32), .int mr, .long po, .ref dO, .ref sl, .ref ct0, .int mf, .int sp, .ref st0, .ref fs0, .ref jn0, .ref rw0, .ref fd0, .ref af0, .ref kO])), (dO, .inl (G.2 4, 6, .inr (.inr (.inr (.inr (fun k => if k < 6 then some (dr k) else none)))))), (dr 0, .inl (G.2 0, 64, .inl (DD 0))), (dr 1, .inl (G.2 0, 64, .inl (DD 1))), (dr 2, .inl (G.2 0, 64, .inl (DD 2))), (dr 3, .inl (G.2 0, 64, .inl (DD 3))), (dr 4, .inl (G.2 0, 64, .inl (DD 4))), (dr 5, .inl (G.2 0, 64, .inl (DD 5))), (ct0, .inl (G.2 0, 6, .inl ctf)), (st0, .inl (G.2 0, 4096, .inl stf)), (fs0, .inl (G.2 0, 4096, .inl fsf)), (jn0, .inl (G.2 0, 64, .inl jnf)), (rw0, .inl (G.2 0, 64, .inl rwf)), (fd0, .inl (G.2 1, 40, .inr (.inl fdf))), (af0, .inl (G.2 3, 40, .inl aff)), (kO, .inl (G.2 4, 4, .inr (.inr (.inr (.inr (fun k => if k < 4 then some (kr k) else none)))))), (kr 0, .inl (G.2 0, 64, .inl (KP 0))), (kr 1, .inl (G.2 0, 64, .inl (KP 1))), (kr 2, .inl (G.2 0, 64, .inl (KP 2))), (kr 3, .inl (G.2 0, 64, .inl (KP 3)))]) hP [0, 1, 2, 3, 4, 5, 6, 7, 8, 9, 10, 11, 12, 13, 14, 15, 16, 17, 18, 19] rfl
        have hSSc : SS G sl sn sa sq (fun _ => False) s _ := ssN hP 20 21 rfl rfl ((hF_rl.kept hS.2.1).narrow (fun _ (h : False) => False.elim h)) hln hef hsc hcp hs0
        refine rdI (va_runV (C := RX4) (As := [.int p3]) (rest := []) ⟨hx, hb, hml, hown, hts⟩ (kX4_isSentence l G m0 dO sl ct0 st0 fs0 jn0 rw0 fd0 af0 kO dr kr sa (0 : Int32) mr po mf sp DD ctf stf fsf jnf rwf fdf aff KP sn sq p3 h) (cwV 1 hts (gdV q1148 q1150 qs20 q6 q1151) rfl rfl rfl (by decide +kernel) ⟨Nat.le_of_ble_eq_true rfl, Nat.le_of_ble_eq_true rfl⟩) (preVs hPc hKK hSSc (va_recv hK hPc (ci := 7) (q0 := 0) rfl rfl)) rfl rfl hl.1 rfl (lv_room (Nat.le_of_ble_eq_true rfl)) dX4_say_77 ⟨Nat.zero_le _, Nat.zero_le _⟩) (fun r_14 h => ?_)
        refine lv_if_ne (tgt := 89) hx hb dX4_say_80 (by decide) (fun hc => ?_) (fun hc => ?_)
        · have h := h.1 hc
          refine lv_aload_n hx hb dX4_say_89 rfl (lv_at hl 0 rfl) ?_
          refine va_get (D := G.1) (ci := 7) (v := .ref sl) (C := RX4) (T := TX4) (N := 15) hx hb hts igX4 hown hK hP 0 rfl rfl 4 (by decide) (hts _ q1009) (fun _ h9 => h9) rfl dX4_say_90 ?_
          have hPc := va_P.sub (ws' := [(sl, .inr (2, [.int lm, .ref e0, .int ln]))]) hP [20] rfl
          refine va_csFi (va_runF (C := RJx4a65c) (x := xSize) (As := []) (rest := []) (hK.1 2 _ rfl).2 ⟨hx, hb, hml, hown, hts⟩ (kJx4a65c_size_8abf5 l G sl e0 lm ln h) (va_cwF 0 hts (gdF q1072 q1076 q1078 q9 q1080) rfl rfl rfl hKK.2.2.2.1.1 (by decide +kernel) ⟨Nat.le_of_ble_eq_true rfl, Nat.le_of_ble_eq_true rfl⟩) (preV hPc hKK (va_recv hK hPc (ci := 2) (q0 := 0) rfl rfl)) rfl rfl hl.1 rfl (lv_room (Nat.le_of_ble_eq_true rfl)) dX4_say_93 ⟨Nat.zero_le _, Nat.zero_le _⟩) (fun r_15 h => ?_)
          refine lv_bipush (v := 40) hx hb dX4_say_98 (by decide) ?_
          refine lv_icmp_ne (tgt := 109) hx hb dX4_say_100 (by decide) (fun hc => ?_) (fun hc => ?_)
          · have h := h.1 hc
            refine lv_iload_n hx hb dX4_say_109 rfl (lv_at hl 1 rfl) ?_
            refine lv_if_ne (tgt := 117) hx hb dX4_say_110 (by decide) (fun hc => ?_) (fun hc => ?_)
            · have h := h.1 hc
              refine lv_iconst (v := 1) hx hb dX4_say_117 (by decide) ?_
              refine lv_istore hx hb dX4_say_118 hl (Nat.le_of_ble_eq_true rfl) rfl (fun ls hl => ?_)
              have hl : lv_has ls 6 [(5, .int (1 : Int32)), (0, .ref m0), (1, .int p1), (2, .int p2), (3, .int p3), (4, .int i4)] := hl
              refine lv_iload_n hx hb dX4_say_120 rfl (lv_at hl 2 rfl) ?_
              refine lv_if_le (tgt := 138) hx hb dX4_say_121 (by decide) (fun hc => ?_) (fun hc => ?_)
              · have h := h.1 hc
                refine lv_iload_n hx hb dX4_say_138 rfl (lv_at hl 2 rfl) ?_
                refine lv_iconst (v := 1) hx hb dX4_say_139 (by decide) ?_
                refine lv_icmp_le (tgt := 157) hx hb dX4_say_140 (by decide) (fun hc => ?_) (fun hc => ?_)
                · have h := h.1 hc
                  have hl := lv_sub (l' := [(0, .ref m0), (1, .int p1), (2, .int p2), (3, .int p3), (4, .int i4), (5, .int (1 : Int32))]) hl [1, 2, 3, 4, 5, 0] rfl
                  exact cut157 i4 (1 : Int32) _ _ _ hl hP hD hS h
                · have h := h.2 hc
                  refine lv_iload hx hb dX4_say_143 (lv_at hl 0 rfl) ?_
                  refine lv_iconst (v := 1) hx hb dX4_say_145 (by decide) ?_
                  refine lv_aload_n hx hb dX4_say_146 rfl (lv_at hl 1 rfl) ?_
                  refine lv_iload_n hx hb dX4_say_147 rfl (lv_at hl 4 rfl) ?_
                  have hPc := va_P.sub (ws' := [(m0, .inr (7, [.int (0 : Int32), .int mr, .long po, .ref dO, .ref sl, .ref ct0, .int mf, .int sp, .ref st0, .ref fs0, .ref jn0, .ref rw0, .ref fd0, .ref af0, .ref kO])), (dO, .inl (G.2 4, 6, .inr (.inr (.inr (.inr (fun k => if k < 6 then some (dr k) else none)))))), (dr 0, .inl (G.2 0, 64, .inl (DD 0))), (dr 1, .inl (G.2 0, 64, .inl (DD 1))), (dr 2, .inl (G.2 0, 64, .inl (DD 2))), (dr 3, .inl (G.2 0, 64, .inl (DD 3))), (dr 4, .inl (G.2 0, 64, .inl (DD 4))), (dr 5, .inl (G.2 0, 64, .inl (DD 5))), (ct0, .inl (G.2 0, 6, .inl ctf)), (st0, .inl (G.2 0, 4096, .inl stf)), (fs0, .inl (G.2 0, 4096, .inl fsf)), (jn0, .inl (G.2 0, 64, .inl jnf)), (rw0, .inl (G.2 0, 64, .inl rwf)), (fd0, .inl (G.2 1, 40, .inr (.inl fdf))), (af0, .inl (G.2 3, 40, .inl aff)), (kO, .inl (G.2 4, 4, .inr (.inr (.inr (.inr (fun k => if k < 4 then some (kr k) else none)))))), (kr 0, .inl (G.2 0, 64, .inl (KP 0))), (kr 1, .inl (G.2 0, 64, .inl (KP 1))), (kr 2, .inl (G.2 0, 64, .inl (KP 2))), (kr 3, .inl (G.2 0, 64, .inl (KP 3)))]) hP [0, 1, 2, 3, 4, 5, 6, 7, 8, 9, 10, 11, 12, 13, 14, 15, 16, 17, 18, 19] rfl
                  have hSSc : SS G sl sn sa sq (fun _ => False) s _ := ssN hP 20 21 rfl rfl ((hF_rl.kept hS.2.1).narrow (fun _ (h : False) => False.elim h)) hln hef hsc hcp hs0
                  refine rdI (va_runV (C := RX4) (As := [.int p3]) (rest := [.int (1 : Int32), .int (1 : Int32)]) ⟨hx, hb, hml, hown, hts⟩ (kX4_built l G m0 dO sl ct0 st0 fs0 jn0 rw0 fd0 af0 kO dr kr sa (0 : Int32) mr po mf sp DD ctf stf fsf jnf rwf fdf aff KP sn sq p3 h) (cwV 1 hts (gdV q1158 q1160 qs21 q6 q1161) rfl rfl rfl (by decide +kernel) ⟨Nat.le_of_ble_eq_true rfl, Nat.le_of_ble_eq_true rfl⟩) (preVs hPc hKK hSSc (va_recv hK hPc (ci := 7) (q0 := 0) rfl rfl)) rfl rfl hl.1 rfl (lv_room (Nat.le_of_ble_eq_true rfl)) dX4_say_148 ⟨Nat.zero_le _, Nat.zero_le _⟩) (fun r_16 h => ?_)
                  refine lv_iadd hx hb dX4_say_151 ?_
                  refine va_mmax hx hb (by rw [hml]; exact hl.1.symm) hown (hts _ q1162) (hts _ q562) (hts _ q18) (hts _ q563) (Nat.le_of_ble_eq_true rfl) (Nat.le_of_ble_eq_true rfl) (Nat.zero_le _) (Nat.zero_le _) dX4_say_152 ?_
                  refine lv_topi (fun x_7 ex_7 => ?_)
                  have h := h x_7 ex_7
                  refine lv_istore hx hb dX4_say_155 hl (Nat.le_of_ble_eq_true rfl) rfl (fun ls hl => ?_)
                  have hl : lv_has ls 6 [(5, .int x_7), (0, .ref m0), (1, .int p1), (2, .int p2), (3, .int p3), (4, .int i4)] := hl
                  have hl := lv_sub (l' := [(0, .ref m0), (1, .int p1), (2, .int p2), (3, .int p3), (4, .int i4), (5, .int x_7)]) hl [1, 2, 3, 4, 5, 0] rfl
                  exact cut157 i4 x_7 _ _ _ hl hP hD hS h
              · have h := h.2 hc
                refine lv_iload_n hx hb dX4_say_124 rfl (lv_at hl 2 rfl) ?_
                refine lv_iconst (v := 4) hx hb dX4_say_125 (by decide) ?_
                refine lv_icmp_ge (tgt := 138) hx hb dX4_say_126 (by decide) (fun hc => ?_) (fun hc => ?_)
                · have h := h.1 hc
                  refine lv_iload_n hx hb dX4_say_138 rfl (lv_at hl 2 rfl) ?_
                  refine lv_iconst (v := 1) hx hb dX4_say_139 (by decide) ?_
                  refine lv_icmp_le (tgt := 157) hx hb dX4_say_140 (by decide) (fun hc => ?_) (fun hc => ?_)
                  · have h := h.1 hc
                    have hl := lv_sub (l' := [(0, .ref m0), (1, .int p1), (2, .int p2), (3, .int p3), (4, .int i4), (5, .int (1 : Int32))]) hl [1, 2, 3, 4, 5, 0] rfl
                    exact cut157 i4 (1 : Int32) _ _ _ hl hP hD hS h
                  · have h := h.2 hc
                    refine lv_iload hx hb dX4_say_143 (lv_at hl 0 rfl) ?_
                    refine lv_iconst (v := 1) hx hb dX4_say_145 (by decide) ?_
                    refine lv_aload_n hx hb dX4_say_146 rfl (lv_at hl 1 rfl) ?_
                    refine lv_iload_n hx hb dX4_say_147 rfl (lv_at hl 4 rfl) ?_
                    have hPc := va_P.sub (ws' := [(m0, .inr (7, [.int (0 : Int32), .int mr, .long po, .ref dO, .ref sl, .ref ct0, .int mf, .int sp, .ref st0, .ref fs0, .ref jn0, .ref rw0, .ref fd0, .ref af0, .ref kO])), (dO, .inl (G.2 4, 6, .inr (.inr (.inr (.inr (fun k => if k < 6 then some (dr k) else none)))))), (dr 0, .inl (G.2 0, 64, .inl (DD 0))), (dr 1, .inl (G.2 0, 64, .inl (DD 1))), (dr 2, .inl (G.2 0, 64, .inl (DD 2))), (dr 3, .inl (G.2 0, 64, .inl (DD 3))), (dr 4, .inl (G.2 0, 64, .inl (DD 4))), (dr 5, .inl (G.2 0, 64, .inl (DD 5))), (ct0, .inl (G.2 0, 6, .inl ctf)), (st0, .inl (G.2 0, 4096, .inl stf)), (fs0, .inl (G.2 0, 4096, .inl fsf)), (jn0, .inl (G.2 0, 64, .inl jnf)), (rw0, .inl (G.2 0, 64, .inl rwf)), (fd0, .inl (G.2 1, 40, .inr (.inl fdf))), (af0, .inl (G.2 3, 40, .inl aff)), (kO, .inl (G.2 4, 4, .inr (.inr (.inr (.inr (fun k => if k < 4 then some (kr k) else none)))))), (kr 0, .inl (G.2 0, 64, .inl (KP 0))), (kr 1, .inl (G.2 0, 64, .inl (KP 1))), (kr 2, .inl (G.2 0, 64, .inl (KP 2))), (kr 3, .inl (G.2 0, 64, .inl (KP 3)))]) hP [0, 1, 2, 3, 4, 5, 6, 7, 8, 9, 10, 11, 12, 13, 14, 15, 16, 17, 18, 19] rfl
                    have hSSc : SS G sl sn sa sq (fun _ => False) s _ := ssN hP 20 21 rfl rfl ((hF_rl.kept hS.2.1).narrow (fun _ (h : False) => False.elim h)) hln hef hsc hcp hs0
                    refine rdI (va_runV (C := RX4) (As := [.int p3]) (rest := [.int (1 : Int32), .int (1 : Int32)]) ⟨hx, hb, hml, hown, hts⟩ (kX4_built l G m0 dO sl ct0 st0 fs0 jn0 rw0 fd0 af0 kO dr kr sa (0 : Int32) mr po mf sp DD ctf stf fsf jnf rwf fdf aff KP sn sq p3 h) (cwV 1 hts (gdV q1158 q1160 qs21 q6 q1161) rfl rfl rfl (by decide +kernel) ⟨Nat.le_of_ble_eq_true rfl, Nat.le_of_ble_eq_true rfl⟩) (preVs hPc hKK hSSc (va_recv hK hPc (ci := 7) (q0 := 0) rfl rfl)) rfl rfl hl.1 rfl (lv_room (Nat.le_of_ble_eq_true rfl)) dX4_say_148 ⟨Nat.zero_le _, Nat.zero_le _⟩) (fun r_17 h => ?_)
                    refine lv_iadd hx hb dX4_say_151 ?_
                    refine va_mmax hx hb (by rw [hml]; exact hl.1.symm) hown (hts _ q1162) (hts _ q562) (hts _ q18) (hts _ q563) (Nat.le_of_ble_eq_true rfl) (Nat.le_of_ble_eq_true rfl) (Nat.zero_le _) (Nat.zero_le _) dX4_say_152 ?_
                    refine lv_topi (fun x_8 ex_8 => ?_)
                    have h := h x_8 ex_8
                    refine lv_istore hx hb dX4_say_155 hl (Nat.le_of_ble_eq_true rfl) rfl (fun ls hl => ?_)
                    have hl : lv_has ls 6 [(5, .int x_8), (0, .ref m0), (1, .int p1), (2, .int p2), (3, .int p3), (4, .int i4)] := hl
                    have hl := lv_sub (l' := [(0, .ref m0), (1, .int p1), (2, .int p2), (3, .int p3), (4, .int i4), (5, .int x_8)]) hl [1, 2, 3, 4, 5, 0] rfl
                    exact cut157 i4 x_8 _ _ _ hl hP hD hS h
                · have h := h.2 hc
                  refine lv_iconst (v := 1) hx hb dX4_say_129 (by decide) ?_
                  refine lv_aload_n hx hb dX4_say_130 rfl (lv_at hl 1 rfl) ?_
                  refine lv_iload_n hx hb dX4_say_131 rfl (lv_at hl 3 rfl) ?_
                  have hPc := va_P.sub (ws' := [(m0, .inr (7, [.int (0 : Int32), .int mr, .long po, .ref dO, .ref sl, .ref ct0, .int mf, .int sp, .ref st0, .ref fs0, .ref jn0, .ref rw0, .ref fd0, .ref af0, .ref kO])), (dO, .inl (G.2 4, 6, .inr (.inr (.inr (.inr (fun k => if k < 6 then some (dr k) else none)))))), (dr 0, .inl (G.2 0, 64, .inl (DD 0))), (dr 1, .inl (G.2 0, 64, .inl (DD 1))), (dr 2, .inl (G.2 0, 64, .inl (DD 2))), (dr 3, .inl (G.2 0, 64, .inl (DD 3))), (dr 4, .inl (G.2 0, 64, .inl (DD 4))), (dr 5, .inl (G.2 0, 64, .inl (DD 5))), (ct0, .inl (G.2 0, 6, .inl ctf)), (st0, .inl (G.2 0, 4096, .inl stf)), (fs0, .inl (G.2 0, 4096, .inl fsf)), (jn0, .inl (G.2 0, 64, .inl jnf)), (rw0, .inl (G.2 0, 64, .inl rwf)), (fd0, .inl (G.2 1, 40, .inr (.inl fdf))), (af0, .inl (G.2 3, 40, .inl aff)), (kO, .inl (G.2 4, 4, .inr (.inr (.inr (.inr (fun k => if k < 4 then some (kr k) else none)))))), (kr 0, .inl (G.2 0, 64, .inl (KP 0))), (kr 1, .inl (G.2 0, 64, .inl (KP 1))), (kr 2, .inl (G.2 0, 64, .inl (KP 2))), (kr 3, .inl (G.2 0, 64, .inl (KP 3)))]) hP [0, 1, 2, 3, 4, 5, 6, 7, 8, 9, 10, 11, 12, 13, 14, 15, 16, 17, 18, 19] rfl
                  have hSSc : SS G sl sn sa sq (fun _ => False) s _ := ssN hP 20 21 rfl rfl ((hF_rl.kept hS.2.1).narrow (fun _ (h : False) => False.elim h)) hln hef hsc hcp hs0
                  refine rdI (va_runV (C := RX4) (As := [.int p2]) (rest := [.int (1 : Int32)]) ⟨hx, hb, hml, hown, hts⟩ (kX4_built l G m0 dO sl ct0 st0 fs0 jn0 rw0 fd0 af0 kO dr kr sa (0 : Int32) mr po mf sp DD ctf stf fsf jnf rwf fdf aff KP sn sq p2 h) (cwV 1 hts (gdV q1158 q1160 qs21 q6 q1161) rfl rfl rfl (by decide +kernel) ⟨Nat.le_of_ble_eq_true rfl, Nat.le_of_ble_eq_true rfl⟩) (preVs hPc hKK hSSc (va_recv hK hPc (ci := 7) (q0 := 0) rfl rfl)) rfl rfl hl.1 rfl (lv_room (Nat.le_of_ble_eq_true rfl)) dX4_say_132 ⟨Nat.zero_le _, Nat.zero_le _⟩) (fun r_18 h => ?_)
                  refine lv_iadd hx hb dX4_say_135 ?_
                  refine lv_istore hx hb dX4_say_136 hl (Nat.le_of_ble_eq_true rfl) rfl (fun ls hl => ?_)
                  have hl : lv_has ls 6 [(5, .int ((1 : Int32) + r_18)), (0, .ref m0), (1, .int p1), (2, .int p2), (3, .int p3), (4, .int i4)] := hl
                  refine lv_iload_n hx hb dX4_say_138 rfl (lv_at hl 2 rfl) ?_
                  refine lv_iconst (v := 1) hx hb dX4_say_139 (by decide) ?_
                  refine lv_icmp_le (tgt := 157) hx hb dX4_say_140 (by decide) (fun hc => ?_) (fun hc => ?_)
                  · have h := h.1 hc
                    have hl := lv_sub (l' := [(0, .ref m0), (1, .int p1), (2, .int p2), (3, .int p3), (4, .int i4), (5, .int ((1 : Int32) + r_18))]) hl [1, 2, 3, 4, 5, 0] rfl
                    exact cut157 i4 ((1 : Int32) + r_18) _ _ _ hl hP hD hS h
                  · have h := h.2 hc
                    refine lv_iload hx hb dX4_say_143 (lv_at hl 0 rfl) ?_
                    refine lv_iconst (v := 1) hx hb dX4_say_145 (by decide) ?_
                    refine lv_aload_n hx hb dX4_say_146 rfl (lv_at hl 1 rfl) ?_
                    refine lv_iload_n hx hb dX4_say_147 rfl (lv_at hl 4 rfl) ?_
                    have hPc := va_P.sub (ws' := [(m0, .inr (7, [.int (0 : Int32), .int mr, .long po, .ref dO, .ref sl, .ref ct0, .int mf, .int sp, .ref st0, .ref fs0, .ref jn0, .ref rw0, .ref fd0, .ref af0, .ref kO])), (dO, .inl (G.2 4, 6, .inr (.inr (.inr (.inr (fun k => if k < 6 then some (dr k) else none)))))), (dr 0, .inl (G.2 0, 64, .inl (DD 0))), (dr 1, .inl (G.2 0, 64, .inl (DD 1))), (dr 2, .inl (G.2 0, 64, .inl (DD 2))), (dr 3, .inl (G.2 0, 64, .inl (DD 3))), (dr 4, .inl (G.2 0, 64, .inl (DD 4))), (dr 5, .inl (G.2 0, 64, .inl (DD 5))), (ct0, .inl (G.2 0, 6, .inl ctf)), (st0, .inl (G.2 0, 4096, .inl stf)), (fs0, .inl (G.2 0, 4096, .inl fsf)), (jn0, .inl (G.2 0, 64, .inl jnf)), (rw0, .inl (G.2 0, 64, .inl rwf)), (fd0, .inl (G.2 1, 40, .inr (.inl fdf))), (af0, .inl (G.2 3, 40, .inl aff)), (kO, .inl (G.2 4, 4, .inr (.inr (.inr (.inr (fun k => if k < 4 then some (kr k) else none)))))), (kr 0, .inl (G.2 0, 64, .inl (KP 0))), (kr 1, .inl (G.2 0, 64, .inl (KP 1))), (kr 2, .inl (G.2 0, 64, .inl (KP 2))), (kr 3, .inl (G.2 0, 64, .inl (KP 3)))]) hP [0, 1, 2, 3, 4, 5, 6, 7, 8, 9, 10, 11, 12, 13, 14, 15, 16, 17, 18, 19] rfl
                    have hSSc : SS G sl sn sa sq (fun _ => False) s _ := ssN hP 20 21 rfl rfl ((hF_rl.kept hS.2.1).narrow (fun _ (h : False) => False.elim h)) hln hef hsc hcp hs0
                    refine rdI (va_runV (C := RX4) (As := [.int p3]) (rest := [.int (1 : Int32), .int ((1 : Int32) + r_18)]) ⟨hx, hb, hml, hown, hts⟩ (kX4_built l G m0 dO sl ct0 st0 fs0 jn0 rw0 fd0 af0 kO dr kr sa (0 : Int32) mr po mf sp DD ctf stf fsf jnf rwf fdf aff KP sn sq p3 h) (cwV 1 hts (gdV q1158 q1160 qs21 q6 q1161) rfl rfl rfl (by decide +kernel) ⟨Nat.le_of_ble_eq_true rfl, Nat.le_of_ble_eq_true rfl⟩) (preVs hPc hKK hSSc (va_recv hK hPc (ci := 7) (q0 := 0) rfl rfl)) rfl rfl hl.1 rfl (lv_room (Nat.le_of_ble_eq_true rfl)) dX4_say_148 ⟨Nat.zero_le _, Nat.zero_le _⟩) (fun r_19 h => ?_)
                    refine lv_iadd hx hb dX4_say_151 ?_
                    refine va_mmax hx hb (by rw [hml]; exact hl.1.symm) hown (hts _ q1162) (hts _ q562) (hts _ q18) (hts _ q563) (Nat.le_of_ble_eq_true rfl) (Nat.le_of_ble_eq_true rfl) (Nat.zero_le _) (Nat.zero_le _) dX4_say_152 ?_
                    refine lv_topi (fun x_9 ex_9 => ?_)
                    have h := h x_9 ex_9
                    refine lv_istore hx hb dX4_say_155 hl (Nat.le_of_ble_eq_true rfl) rfl (fun ls hl => ?_)
                    have hl : lv_has ls 6 [(5, .int x_9), (0, .ref m0), (1, .int p1), (2, .int p2), (3, .int p3), (4, .int i4)] := hl
                    have hl := lv_sub (l' := [(0, .ref m0), (1, .int p1), (2, .int p2), (3, .int p3), (4, .int i4), (5, .int x_9)]) hl [1, 2, 3, 4, 5, 0] rfl
                    exact cut157 i4 x_9 _ _ _ hl hP hD hS h
            · have h := h.2 hc
              refine lv_iconst (v := 0) hx hb dX4_say_113 (by decide) ?_
              refine lv_goto (tgt := 118) hx hb dX4_say_114 (by decide) ?_
              refine lv_istore hx hb dX4_say_118 hl (Nat.le_of_ble_eq_true rfl) rfl (fun ls hl => ?_)
              have hl : lv_has ls 6 [(5, .int (0 : Int32)), (0, .ref m0), (1, .int p1), (2, .int p2), (3, .int p3), (4, .int i4)] := hl
              refine lv_iload_n hx hb dX4_say_120 rfl (lv_at hl 2 rfl) ?_
              refine lv_if_le (tgt := 138) hx hb dX4_say_121 (by decide) (fun hc => ?_) (fun hc => ?_)
              · have h := h.1 hc
                refine lv_iload_n hx hb dX4_say_138 rfl (lv_at hl 2 rfl) ?_
                refine lv_iconst (v := 1) hx hb dX4_say_139 (by decide) ?_
                refine lv_icmp_le (tgt := 157) hx hb dX4_say_140 (by decide) (fun hc => ?_) (fun hc => ?_)
                · have h := h.1 hc
                  have hl := lv_sub (l' := [(0, .ref m0), (1, .int p1), (2, .int p2), (3, .int p3), (4, .int i4), (5, .int (0 : Int32))]) hl [1, 2, 3, 4, 5, 0] rfl
                  exact cut157 i4 (0 : Int32) _ _ _ hl hP hD hS h
                · have h := h.2 hc
                  refine lv_iload hx hb dX4_say_143 (lv_at hl 0 rfl) ?_
                  refine lv_iconst (v := 1) hx hb dX4_say_145 (by decide) ?_
                  refine lv_aload_n hx hb dX4_say_146 rfl (lv_at hl 1 rfl) ?_
                  refine lv_iload_n hx hb dX4_say_147 rfl (lv_at hl 4 rfl) ?_
                  have hPc := va_P.sub (ws' := [(m0, .inr (7, [.int (0 : Int32), .int mr, .long po, .ref dO, .ref sl, .ref ct0, .int mf, .int sp, .ref st0, .ref fs0, .ref jn0, .ref rw0, .ref fd0, .ref af0, .ref kO])), (dO, .inl (G.2 4, 6, .inr (.inr (.inr (.inr (fun k => if k < 6 then some (dr k) else none)))))), (dr 0, .inl (G.2 0, 64, .inl (DD 0))), (dr 1, .inl (G.2 0, 64, .inl (DD 1))), (dr 2, .inl (G.2 0, 64, .inl (DD 2))), (dr 3, .inl (G.2 0, 64, .inl (DD 3))), (dr 4, .inl (G.2 0, 64, .inl (DD 4))), (dr 5, .inl (G.2 0, 64, .inl (DD 5))), (ct0, .inl (G.2 0, 6, .inl ctf)), (st0, .inl (G.2 0, 4096, .inl stf)), (fs0, .inl (G.2 0, 4096, .inl fsf)), (jn0, .inl (G.2 0, 64, .inl jnf)), (rw0, .inl (G.2 0, 64, .inl rwf)), (fd0, .inl (G.2 1, 40, .inr (.inl fdf))), (af0, .inl (G.2 3, 40, .inl aff)), (kO, .inl (G.2 4, 4, .inr (.inr (.inr (.inr (fun k => if k < 4 then some (kr k) else none)))))), (kr 0, .inl (G.2 0, 64, .inl (KP 0))), (kr 1, .inl (G.2 0, 64, .inl (KP 1))), (kr 2, .inl (G.2 0, 64, .inl (KP 2))), (kr 3, .inl (G.2 0, 64, .inl (KP 3)))]) hP [0, 1, 2, 3, 4, 5, 6, 7, 8, 9, 10, 11, 12, 13, 14, 15, 16, 17, 18, 19] rfl
                  have hSSc : SS G sl sn sa sq (fun _ => False) s _ := ssN hP 20 21 rfl rfl ((hF_rl.kept hS.2.1).narrow (fun _ (h : False) => False.elim h)) hln hef hsc hcp hs0
                  refine rdI (va_runV (C := RX4) (As := [.int p3]) (rest := [.int (1 : Int32), .int (0 : Int32)]) ⟨hx, hb, hml, hown, hts⟩ (kX4_built l G m0 dO sl ct0 st0 fs0 jn0 rw0 fd0 af0 kO dr kr sa (0 : Int32) mr po mf sp DD ctf stf fsf jnf rwf fdf aff KP sn sq p3 h) (cwV 1 hts (gdV q1158 q1160 qs21 q6 q1161) rfl rfl rfl (by decide +kernel) ⟨Nat.le_of_ble_eq_true rfl, Nat.le_of_ble_eq_true rfl⟩) (preVs hPc hKK hSSc (va_recv hK hPc (ci := 7) (q0 := 0) rfl rfl)) rfl rfl hl.1 rfl (lv_room (Nat.le_of_ble_eq_true rfl)) dX4_say_148 ⟨Nat.zero_le _, Nat.zero_le _⟩) (fun r_20 h => ?_)
                  refine lv_iadd hx hb dX4_say_151 ?_
                  refine va_mmax hx hb (by rw [hml]; exact hl.1.symm) hown (hts _ q1162) (hts _ q562) (hts _ q18) (hts _ q563) (Nat.le_of_ble_eq_true rfl) (Nat.le_of_ble_eq_true rfl) (Nat.zero_le _) (Nat.zero_le _) dX4_say_152 ?_
                  refine lv_topi (fun x_10 ex_10 => ?_)
                  have h := h x_10 ex_10
                  refine lv_istore hx hb dX4_say_155 hl (Nat.le_of_ble_eq_true rfl) rfl (fun ls hl => ?_)
                  have hl : lv_has ls 6 [(5, .int x_10), (0, .ref m0), (1, .int p1), (2, .int p2), (3, .int p3), (4, .int i4)] := hl
                  have hl := lv_sub (l' := [(0, .ref m0), (1, .int p1), (2, .int p2), (3, .int p3), (4, .int i4), (5, .int x_10)]) hl [1, 2, 3, 4, 5, 0] rfl
                  exact cut157 i4 x_10 _ _ _ hl hP hD hS h
              · have h := h.2 hc
                refine lv_iload_n hx hb dX4_say_124 rfl (lv_at hl 2 rfl) ?_
                refine lv_iconst (v := 4) hx hb dX4_say_125 (by decide) ?_
                refine lv_icmp_ge (tgt := 138) hx hb dX4_say_126 (by decide) (fun hc => ?_) (fun hc => ?_)
                · have h := h.1 hc
                  refine lv_iload_n hx hb dX4_say_138 rfl (lv_at hl 2 rfl) ?_
                  refine lv_iconst (v := 1) hx hb dX4_say_139 (by decide) ?_
                  refine lv_icmp_le (tgt := 157) hx hb dX4_say_140 (by decide) (fun hc => ?_) (fun hc => ?_)
                  · have h := h.1 hc
                    have hl := lv_sub (l' := [(0, .ref m0), (1, .int p1), (2, .int p2), (3, .int p3), (4, .int i4), (5, .int (0 : Int32))]) hl [1, 2, 3, 4, 5, 0] rfl
                    exact cut157 i4 (0 : Int32) _ _ _ hl hP hD hS h
                  · have h := h.2 hc
                    refine lv_iload hx hb dX4_say_143 (lv_at hl 0 rfl) ?_
                    refine lv_iconst (v := 1) hx hb dX4_say_145 (by decide) ?_
                    refine lv_aload_n hx hb dX4_say_146 rfl (lv_at hl 1 rfl) ?_
                    refine lv_iload_n hx hb dX4_say_147 rfl (lv_at hl 4 rfl) ?_
                    have hPc := va_P.sub (ws' := [(m0, .inr (7, [.int (0 : Int32), .int mr, .long po, .ref dO, .ref sl, .ref ct0, .int mf, .int sp, .ref st0, .ref fs0, .ref jn0, .ref rw0, .ref fd0, .ref af0, .ref kO])), (dO, .inl (G.2 4, 6, .inr (.inr (.inr (.inr (fun k => if k < 6 then some (dr k) else none)))))), (dr 0, .inl (G.2 0, 64, .inl (DD 0))), (dr 1, .inl (G.2 0, 64, .inl (DD 1))), (dr 2, .inl (G.2 0, 64, .inl (DD 2))), (dr 3, .inl (G.2 0, 64, .inl (DD 3))), (dr 4, .inl (G.2 0, 64, .inl (DD 4))), (dr 5, .inl (G.2 0, 64, .inl (DD 5))), (ct0, .inl (G.2 0, 6, .inl ctf)), (st0, .inl (G.2 0, 4096, .inl stf)), (fs0, .inl (G.2 0, 4096, .inl fsf)), (jn0, .inl (G.2 0, 64, .inl jnf)), (rw0, .inl (G.2 0, 64, .inl rwf)), (fd0, .inl (G.2 1, 40, .inr (.inl fdf))), (af0, .inl (G.2 3, 40, .inl aff)), (kO, .inl (G.2 4, 4, .inr (.inr (.inr (.inr (fun k => if k < 4 then some (kr k) else none)))))), (kr 0, .inl (G.2 0, 64, .inl (KP 0))), (kr 1, .inl (G.2 0, 64, .inl (KP 1))), (kr 2, .inl (G.2 0, 64, .inl (KP 2))), (kr 3, .inl (G.2 0, 64, .inl (KP 3)))]) hP [0, 1, 2, 3, 4, 5, 6, 7, 8, 9, 10, 11, 12, 13, 14, 15, 16, 17, 18, 19] rfl
                    have hSSc : SS G sl sn sa sq (fun _ => False) s _ := ssN hP 20 21 rfl rfl ((hF_rl.kept hS.2.1).narrow (fun _ (h : False) => False.elim h)) hln hef hsc hcp hs0
                    refine rdI (va_runV (C := RX4) (As := [.int p3]) (rest := [.int (1 : Int32), .int (0 : Int32)]) ⟨hx, hb, hml, hown, hts⟩ (kX4_built l G m0 dO sl ct0 st0 fs0 jn0 rw0 fd0 af0 kO dr kr sa (0 : Int32) mr po mf sp DD ctf stf fsf jnf rwf fdf aff KP sn sq p3 h) (cwV 1 hts (gdV q1158 q1160 qs21 q6 q1161) rfl rfl rfl (by decide +kernel) ⟨Nat.le_of_ble_eq_true rfl, Nat.le_of_ble_eq_true rfl⟩) (preVs hPc hKK hSSc (va_recv hK hPc (ci := 7) (q0 := 0) rfl rfl)) rfl rfl hl.1 rfl (lv_room (Nat.le_of_ble_eq_true rfl)) dX4_say_148 ⟨Nat.zero_le _, Nat.zero_le _⟩) (fun r_21 h => ?_)
                    refine lv_iadd hx hb dX4_say_151 ?_
                    refine va_mmax hx hb (by rw [hml]; exact hl.1.symm) hown (hts _ q1162) (hts _ q562) (hts _ q18) (hts _ q563) (Nat.le_of_ble_eq_true rfl) (Nat.le_of_ble_eq_true rfl) (Nat.zero_le _) (Nat.zero_le _) dX4_say_152 ?_
                    refine lv_topi (fun x_11 ex_11 => ?_)
                    have h := h x_11 ex_11
                    refine lv_istore hx hb dX4_say_155 hl (Nat.le_of_ble_eq_true rfl) rfl (fun ls hl => ?_)
                    have hl : lv_has ls 6 [(5, .int x_11), (0, .ref m0), (1, .int p1), (2, .int p2), (3, .int p3), (4, .int i4)] := hl
                    have hl := lv_sub (l' := [(0, .ref m0), (1, .int p1), (2, .int p2), (3, .int p3), (4, .int i4), (5, .int x_11)]) hl [1, 2, 3, 4, 5, 0] rfl
                    exact cut157 i4 x_11 _ _ _ hl hP hD hS h
                · have h := h.2 hc
                  refine lv_iconst (v := 1) hx hb dX4_say_129 (by decide) ?_
                  refine lv_aload_n hx hb dX4_say_130 rfl (lv_at hl 1 rfl) ?_
                  refine lv_iload_n hx hb dX4_say_131 rfl (lv_at hl 3 rfl) ?_
                  have hPc := va_P.sub (ws' := [(m0, .inr (7, [.int (0 : Int32), .int mr, .long po, .ref dO, .ref sl, .ref ct0, .int mf, .int sp, .ref st0, .ref fs0, .ref jn0, .ref rw0, .ref fd0, .ref af0, .ref kO])), (dO, .inl (G.2 4, 6, .inr (.inr (.inr (.inr (fun k => if k < 6 then some (dr k) else none)))))), (dr 0, .inl (G.2 0, 64, .inl (DD 0))), (dr 1, .inl (G.2 0, 64, .inl (DD 1))), (dr 2, .inl (G.2 0, 64, .inl (DD 2))), (dr 3, .inl (G.2 0, 64, .inl (DD 3))), (dr 4, .inl (G.2 0, 64, .inl (DD 4))), (dr 5, .inl (G.2 0, 64, .inl (DD 5))), (ct0, .inl (G.2 0, 6, .inl ctf)), (st0, .inl (G.2 0, 4096, .inl stf)), (fs0, .inl (G.2 0, 4096, .inl fsf)), (jn0, .inl (G.2 0, 64, .inl jnf)), (rw0, .inl (G.2 0, 64, .inl rwf)), (fd0, .inl (G.2 1, 40, .inr (.inl fdf))), (af0, .inl (G.2 3, 40, .inl aff)), (kO, .inl (G.2 4, 4, .inr (.inr (.inr (.inr (fun k => if k < 4 then some (kr k) else none)))))), (kr 0, .inl (G.2 0, 64, .inl (KP 0))), (kr 1, .inl (G.2 0, 64, .inl (KP 1))), (kr 2, .inl (G.2 0, 64, .inl (KP 2))), (kr 3, .inl (G.2 0, 64, .inl (KP 3)))]) hP [0, 1, 2, 3, 4, 5, 6, 7, 8, 9, 10, 11, 12, 13, 14, 15, 16, 17, 18, 19] rfl
                  have hSSc : SS G sl sn sa sq (fun _ => False) s _ := ssN hP 20 21 rfl rfl ((hF_rl.kept hS.2.1).narrow (fun _ (h : False) => False.elim h)) hln hef hsc hcp hs0
                  refine rdI (va_runV (C := RX4) (As := [.int p2]) (rest := [.int (1 : Int32)]) ⟨hx, hb, hml, hown, hts⟩ (kX4_built l G m0 dO sl ct0 st0 fs0 jn0 rw0 fd0 af0 kO dr kr sa (0 : Int32) mr po mf sp DD ctf stf fsf jnf rwf fdf aff KP sn sq p2 h) (cwV 1 hts (gdV q1158 q1160 qs21 q6 q1161) rfl rfl rfl (by decide +kernel) ⟨Nat.le_of_ble_eq_true rfl, Nat.le_of_ble_eq_true rfl⟩) (preVs hPc hKK hSSc (va_recv hK hPc (ci := 7) (q0 := 0) rfl rfl)) rfl rfl hl.1 rfl (lv_room (Nat.le_of_ble_eq_true rfl)) dX4_say_132 ⟨Nat.zero_le _, Nat.zero_le _⟩) (fun r_22 h => ?_)
                  refine lv_iadd hx hb dX4_say_135 ?_
                  refine lv_istore hx hb dX4_say_136 hl (Nat.le_of_ble_eq_true rfl) rfl (fun ls hl => ?_)
                  have hl : lv_has ls 6 [(5, .int ((1 : Int32) + r_22)), (0, .ref m0), (1, .int p1), (2, .int p2), (3, .int p3), (4, .int i4)] := hl
                  refine lv_iload_n hx hb dX4_say_138 rfl (lv_at hl 2 rfl) ?_
                  refine lv_iconst (v := 1) hx hb dX4_say_139 (by decide) ?_
                  refine lv_icmp_le (tgt := 157) hx hb dX4_say_140 (by decide) (fun hc => ?_) (fun hc => ?_)
                  · have h := h.1 hc
                    have hl := lv_sub (l' := [(0, .ref m0), (1, .int p1), (2, .int p2), (3, .int p3), (4, .int i4), (5, .int ((1 : Int32) + r_22))]) hl [1, 2, 3, 4, 5, 0] rfl
                    exact cut157 i4 ((1 : Int32) + r_22) _ _ _ hl hP hD hS h
                  · have h := h.2 hc
                    refine lv_iload hx hb dX4_say_143 (lv_at hl 0 rfl) ?_
                    refine lv_iconst (v := 1) hx hb dX4_say_145 (by decide) ?_
                    refine lv_aload_n hx hb dX4_say_146 rfl (lv_at hl 1 rfl) ?_
                    refine lv_iload_n hx hb dX4_say_147 rfl (lv_at hl 4 rfl) ?_
                    have hPc := va_P.sub (ws' := [(m0, .inr (7, [.int (0 : Int32), .int mr, .long po, .ref dO, .ref sl, .ref ct0, .int mf, .int sp, .ref st0, .ref fs0, .ref jn0, .ref rw0, .ref fd0, .ref af0, .ref kO])), (dO, .inl (G.2 4, 6, .inr (.inr (.inr (.inr (fun k => if k < 6 then some (dr k) else none)))))), (dr 0, .inl (G.2 0, 64, .inl (DD 0))), (dr 1, .inl (G.2 0, 64, .inl (DD 1))), (dr 2, .inl (G.2 0, 64, .inl (DD 2))), (dr 3, .inl (G.2 0, 64, .inl (DD 3))), (dr 4, .inl (G.2 0, 64, .inl (DD 4))), (dr 5, .inl (G.2 0, 64, .inl (DD 5))), (ct0, .inl (G.2 0, 6, .inl ctf)), (st0, .inl (G.2 0, 4096, .inl stf)), (fs0, .inl (G.2 0, 4096, .inl fsf)), (jn0, .inl (G.2 0, 64, .inl jnf)), (rw0, .inl (G.2 0, 64, .inl rwf)), (fd0, .inl (G.2 1, 40, .inr (.inl fdf))), (af0, .inl (G.2 3, 40, .inl aff)), (kO, .inl (G.2 4, 4, .inr (.inr (.inr (.inr (fun k => if k < 4 then some (kr k) else none)))))), (kr 0, .inl (G.2 0, 64, .inl (KP 0))), (kr 1, .inl (G.2 0, 64, .inl (KP 1))), (kr 2, .inl (G.2 0, 64, .inl (KP 2))), (kr 3, .inl (G.2 0, 64, .inl (KP 3)))]) hP [0, 1, 2, 3, 4, 5, 6, 7, 8, 9, 10, 11, 12, 13, 14, 15, 16, 17, 18, 19] rfl
                    have hSSc : SS G sl sn sa sq (fun _ => False) s _ := ssN hP 20 21 rfl rfl ((hF_rl.kept hS.2.1).narrow (fun _ (h : False) => False.elim h)) hln hef hsc hcp hs0
                    refine rdI (va_runV (C := RX4) (As := [.int p3]) (rest := [.int (1 : Int32), .int ((1 : Int32) + r_22)]) ⟨hx, hb, hml, hown, hts⟩ (kX4_built l G m0 dO sl ct0 st0 fs0 jn0 rw0 fd0 af0 kO dr kr sa (0 : Int32) mr po mf sp DD ctf stf fsf jnf rwf fdf aff KP sn sq p3 h) (cwV 1 hts (gdV q1158 q1160 qs21 q6 q1161) rfl rfl rfl (by decide +kernel) ⟨Nat.le_of_ble_eq_true rfl, Nat.le_of_ble_eq_true rfl⟩) (preVs hPc hKK hSSc (va_recv hK hPc (ci := 7) (q0 := 0) rfl rfl)) rfl rfl hl.1 rfl (lv_room (Nat.le_of_ble_eq_true rfl)) dX4_say_148 ⟨Nat.zero_le _, Nat.zero_le _⟩) (fun r_23 h => ?_)
                    refine lv_iadd hx hb dX4_say_151 ?_
                    refine va_mmax hx hb (by rw [hml]; exact hl.1.symm) hown (hts _ q1162) (hts _ q562) (hts _ q18) (hts _ q563) (Nat.le_of_ble_eq_true rfl) (Nat.le_of_ble_eq_true rfl) (Nat.zero_le _) (Nat.zero_le _) dX4_say_152 ?_
                    refine lv_topi (fun x_12 ex_12 => ?_)
                    have h := h x_12 ex_12
                    refine lv_istore hx hb dX4_say_155 hl (Nat.le_of_ble_eq_true rfl) rfl (fun ls hl => ?_)
                    have hl : lv_has ls 6 [(5, .int x_12), (0, .ref m0), (1, .int p1), (2, .int p2), (3, .int p3), (4, .int i4)] := hl
                    have hl := lv_sub (l' := [(0, .ref m0), (1, .int p1), (2, .int p2), (3, .int p3), (4, .int i4), (5, .int x_12)]) hl [1, 2, 3, 4, 5, 0] rfl
                    exact cut157 i4 x_12 _ _ _ hl hP hD hS h
          · have h := h.2 hc
            exact False.elim h
        · have h := h.2 hc
          exact False.elim h
  refine lv_aload_n hx hb dX4_say_0 rfl (lv_at hl 0 rfl) ?_
  refine lv_iconst (v := 0) hx hb dX4_say_1 (by decide) ?_
  refine va_put (D := G.1) (ci := 7) (v := .int (0 : Int32)) (ty := .int) (C := RX4) (T := TX4) (N := 15) hx hb hts igX4 tyX4 tyX4_ok nmX4 hown hK hP hD hS 0 rfl rfl 0 (by decide) (hts _ q1005) (fun _ h9 => h9) rfl (by decide +kernel) rfl rfl (Nat.le_of_ble_eq_true rfl) dX4_say_2 (fun H locs hP hD hS => ?_)
  have hP : PP G [(m0, .inr (7, [.int (0 : Int32), .int mr, .long po, .ref dO, .ref sl, .ref ct0, .int mf, .int sp, .ref st0, .ref fs0, .ref jn0, .ref rw0, .ref fd0, .ref af0, .ref kO])), (dO, .inl (G.2 4, 6, .inr (.inr (.inr (.inr (fun k => if k < 6 then some (dr k) else none)))))), (dr 0, .inl (G.2 0, 64, .inl (DD 0))), (dr 1, .inl (G.2 0, 64, .inl (DD 1))), (dr 2, .inl (G.2 0, 64, .inl (DD 2))), (dr 3, .inl (G.2 0, 64, .inl (DD 3))), (dr 4, .inl (G.2 0, 64, .inl (DD 4))), (dr 5, .inl (G.2 0, 64, .inl (DD 5))), (ct0, .inl (G.2 0, 6, .inl ctf)), (st0, .inl (G.2 0, 4096, .inl stf)), (fs0, .inl (G.2 0, 4096, .inl fsf)), (jn0, .inl (G.2 0, 64, .inl jnf)), (rw0, .inl (G.2 0, 64, .inl rwf)), (fd0, .inl (G.2 1, 40, .inr (.inl fdf))), (af0, .inl (G.2 3, 40, .inl aff)), (kO, .inl (G.2 4, 4, .inr (.inr (.inr (.inr (fun k => if k < 4 then some (kr k) else none)))))), (kr 0, .inl (G.2 0, 64, .inl (KP 0))), (kr 1, .inl (G.2 0, 64, .inl (KP 1))), (kr 2, .inl (G.2 0, 64, .inl (KP 2))), (kr 3, .inl (G.2 0, 64, .inl (KP 3))), (sl, .inr (2, [.int lm, .ref e0, .int ln])), (e0, .inl (G.2 5, cap, .inr (.inr (.inr (.inr ef)))))] H := hP
  have hD : va_D A [(m0, .inr (7, [.int (0 : Int32), .int mr, .long po, .ref dO, .ref sl, .ref ct0, .int mf, .int sp, .ref st0, .ref fs0, .ref jn0, .ref rw0, .ref fd0, .ref af0, .ref kO])), (dO, .inl (G.2 4, 6, .inr (.inr (.inr (.inr (fun k => if k < 6 then some (dr k) else none)))))), (dr 0, .inl (G.2 0, 64, .inl (DD 0))), (dr 1, .inl (G.2 0, 64, .inl (DD 1))), (dr 2, .inl (G.2 0, 64, .inl (DD 2))), (dr 3, .inl (G.2 0, 64, .inl (DD 3))), (dr 4, .inl (G.2 0, 64, .inl (DD 4))), (dr 5, .inl (G.2 0, 64, .inl (DD 5))), (ct0, .inl (G.2 0, 6, .inl ctf)), (st0, .inl (G.2 0, 4096, .inl stf)), (fs0, .inl (G.2 0, 4096, .inl fsf)), (jn0, .inl (G.2 0, 64, .inl jnf)), (rw0, .inl (G.2 0, 64, .inl rwf)), (fd0, .inl (G.2 1, 40, .inr (.inl fdf))), (af0, .inl (G.2 3, 40, .inl aff)), (kO, .inl (G.2 4, 4, .inr (.inr (.inr (.inr (fun k => if k < 4 then some (kr k) else none)))))), (kr 0, .inl (G.2 0, 64, .inl (KP 0))), (kr 1, .inl (G.2 0, 64, .inl (KP 1))), (kr 2, .inl (G.2 0, 64, .inl (KP 2))), (kr 3, .inl (G.2 0, 64, .inl (KP 3))), (sl, .inr (2, [.int lm, .ref e0, .int ln])), (e0, .inl (G.2 5, cap, .inr (.inr (.inr (.inr ef)))))] := hD
  refine lv_iload_n hx hb dX4_say_5 rfl (lv_at hl 1 rfl) ?_
  refine lv_iconst (v := 0) hx hb dX4_say_6 (by decide) ?_
  refine lv_bipush (v := 7) hx hb dX4_say_7 (by decide) ?_
  have hPc := va_P.sub (ws' := []) hP [] rfl
  refine rdI (va_runS (As := [.int p1, .int (0 : Int32), .int (7 : Int32)]) (rest := []) ⟨hx, hb, hml, hown, hts⟩ (kX4_in l G p1 (0 : Int32) (7 : Int32) h) (va_cwS 3 hts (gdS q1060 q1061 q6 q1062) rfl rfl rfl (by decide +kernel) ⟨Nat.le_of_ble_eq_true rfl, Nat.le_of_ble_eq_true rfl⟩) (preS hPc hKK) rfl rfl hl.1 rfl (lv_room (Nat.le_of_ble_eq_true rfl)) dX4_say_9 ⟨Nat.zero_le _, Nat.zero_le _⟩) (fun r_1 h => ?_)
  refine lv_if_ne (tgt := 21) hx hb dX4_say_12 (by decide) (fun hc => ?_) (fun hc => ?_)
  · have h := h.1 hc
    refine lv_iload_n hx hb dX4_say_21 rfl (lv_at hl 1 rfl) ?_
    refine lv_if_ne (tgt := 34) hx hb dX4_say_22 (by decide) (fun hc => ?_) (fun hc => ?_)
    · have h := h.1 hc
      refine lv_iload_n hx hb dX4_say_34 rfl (lv_at hl 1 rfl) ?_
      refine lv_iconst (v := 4) hx hb dX4_say_35 (by decide) ?_
      refine lv_icmp_ge (tgt := 47) hx hb dX4_say_36 (by decide) (fun hc => ?_) (fun hc => ?_)
      · have h := h.1 hc
        refine lv_iload_n hx hb dX4_say_47 rfl (lv_at hl 1 rfl) ?_
        refine lv_iconst (v := 4) hx hb dX4_say_48 (by decide) ?_
        refine lv_icmp_ne (tgt := 59) hx hb dX4_say_49 (by decide) (fun hc => ?_) (fun hc => ?_)
        · have h := h.1 hc
          refine lv_iload_n hx hb dX4_say_59 rfl (lv_at hl 2 rfl) ?_
          have hPc := va_P.sub (ws' := []) hP [] rfl
          refine rdI (va_runS (As := [.int p2]) (rest := []) ⟨hx, hb, hml, hown, hts⟩ (kX4_isSet l G p2 h) (va_cwS 1 hts (gdS q1155 q1156 q6 q1157) rfl rfl rfl (by decide +kernel) ⟨Nat.le_of_ble_eq_true rfl, Nat.le_of_ble_eq_true rfl⟩) (preS hPc hKK) rfl rfl hl.1 rfl (lv_room (Nat.le_of_ble_eq_true rfl)) dX4_say_60 ⟨Nat.zero_le _, Nat.zero_le _⟩) (fun r_2 h => ?_)
          refine lv_istore hx hb dX4_say_63 hl (Nat.le_of_ble_eq_true rfl) rfl (fun ls hl => ?_)
          have hl : lv_has ls 6 [(4, .int r_2), (0, .ref m0), (1, .int p1), (2, .int p2), (3, .int p3)] := hl
          have hl := lv_sub (l' := [(0, .ref m0), (1, .int p1), (2, .int p2), (3, .int p3), (4, .int r_2)]) hl [1, 2, 3, 4, 0] rfl
          exact cut65 r_2 _ _ _ hl hP hD hS h
        · have h := h.2 hc
          refine lv_iload_n hx hb dX4_say_52 rfl (lv_at hl 2 rfl) ?_
          have hPc := va_P.sub (ws' := []) hP [] rfl
          refine rdI (va_runS (As := [.int p2]) (rest := []) ⟨hx, hb, hml, hown, hts⟩ (kX4_isGuard l G p2 h) (va_cwS 1 hts (gdS q1152 q1153 q6 q1154) rfl rfl rfl (by decide +kernel) ⟨Nat.le_of_ble_eq_true rfl, Nat.le_of_ble_eq_true rfl⟩) (preS hPc hKK) rfl rfl hl.1 rfl (lv_room (Nat.le_of_ble_eq_true rfl)) dX4_say_53 ⟨Nat.zero_le _, Nat.zero_le _⟩) (fun r_24 h => ?_)
          refine lv_goto (tgt := 63) hx hb dX4_say_56 (by decide) ?_
          refine lv_istore hx hb dX4_say_63 hl (Nat.le_of_ble_eq_true rfl) rfl (fun ls hl => ?_)
          have hl : lv_has ls 6 [(4, .int r_24), (0, .ref m0), (1, .int p1), (2, .int p2), (3, .int p3)] := hl
          have hl := lv_sub (l' := [(0, .ref m0), (1, .int p1), (2, .int p2), (3, .int p3), (4, .int r_24)]) hl [1, 2, 3, 4, 0] rfl
          exact cut65 r_24 _ _ _ hl hP hD hS h
      · have h := h.2 hc
        refine lv_aload_n hx hb dX4_say_39 rfl (lv_at hl 0 rfl) ?_
        refine lv_iload_n hx hb dX4_say_40 rfl (lv_at hl 2 rfl) ?_
        have hPc := va_P.sub (ws' := [(m0, .inr (7, [.int (0 : Int32), .int mr, .long po, .ref dO, .ref sl, .ref ct0, .int mf, .int sp, .ref st0, .ref fs0, .ref jn0, .ref rw0, .ref fd0, .ref af0, .ref kO])), (dO, .inl (G.2 4, 6, .inr (.inr (.inr (.inr (fun k => if k < 6 then some (dr k) else none)))))), (dr 0, .inl (G.2 0, 64, .inl (DD 0))), (dr 1, .inl (G.2 0, 64, .inl (DD 1))), (dr 2, .inl (G.2 0, 64, .inl (DD 2))), (dr 3, .inl (G.2 0, 64, .inl (DD 3))), (dr 4, .inl (G.2 0, 64, .inl (DD 4))), (dr 5, .inl (G.2 0, 64, .inl (DD 5))), (ct0, .inl (G.2 0, 6, .inl ctf)), (st0, .inl (G.2 0, 4096, .inl stf)), (fs0, .inl (G.2 0, 4096, .inl fsf)), (jn0, .inl (G.2 0, 64, .inl jnf)), (rw0, .inl (G.2 0, 64, .inl rwf)), (fd0, .inl (G.2 1, 40, .inr (.inl fdf))), (af0, .inl (G.2 3, 40, .inl aff)), (kO, .inl (G.2 4, 4, .inr (.inr (.inr (.inr (fun k => if k < 4 then some (kr k) else none)))))), (kr 0, .inl (G.2 0, 64, .inl (KP 0))), (kr 1, .inl (G.2 0, 64, .inl (KP 1))), (kr 2, .inl (G.2 0, 64, .inl (KP 2))), (kr 3, .inl (G.2 0, 64, .inl (KP 3)))]) hP [0, 1, 2, 3, 4, 5, 6, 7, 8, 9, 10, 11, 12, 13, 14, 15, 16, 17, 18, 19] rfl
        have hSSc : SS G sl sn sa sq (fun _ => False) s _ := ssN hP 20 21 rfl rfl ((hF_rl.kept hS.2.1).narrow (fun _ (h : False) => False.elim h)) hln hef hsc hcp hs0
        refine rdI (va_runV (C := RX4) (As := [.int p2]) (rest := []) ⟨hx, hb, hml, hown, hts⟩ (kX4_isSentence l G m0 dO sl ct0 st0 fs0 jn0 rw0 fd0 af0 kO dr kr sa (0 : Int32) mr po mf sp DD ctf stf fsf jnf rwf fdf aff KP sn sq p2 h) (cwV 1 hts (gdV q1148 q1150 qs20 q6 q1151) rfl rfl rfl (by decide +kernel) ⟨Nat.le_of_ble_eq_true rfl, Nat.le_of_ble_eq_true rfl⟩) (preVs hPc hKK hSSc (va_recv hK hPc (ci := 7) (q0 := 0) rfl rfl)) rfl rfl hl.1 rfl (lv_room (Nat.le_of_ble_eq_true rfl)) dX4_say_41 ⟨Nat.zero_le _, Nat.zero_le _⟩) (fun r_25 h => ?_)
        refine lv_goto (tgt := 63) hx hb dX4_say_44 (by decide) ?_
        refine lv_istore hx hb dX4_say_63 hl (Nat.le_of_ble_eq_true rfl) rfl (fun ls hl => ?_)
        have hl : lv_has ls 6 [(4, .int r_25), (0, .ref m0), (1, .int p1), (2, .int p2), (3, .int p3)] := hl
        have hl := lv_sub (l' := [(0, .ref m0), (1, .int p1), (2, .int p2), (3, .int p3), (4, .int r_25)]) hl [1, 2, 3, 4, 0] rfl
        exact cut65 r_25 _ _ _ hl hP hD hS h
    · have h := h.2 hc
      refine lv_iload_n hx hb dX4_say_25 rfl (lv_at hl 2 rfl) ?_
      refine lv_iconst (v := 0) hx hb dX4_say_26 (by decide) ?_
      refine lv_iconst (v := 5) hx hb dX4_say_27 (by decide) ?_
      have hPc := va_P.sub (ws' := []) hP [] rfl
      refine rdI (va_runS (As := [.int p2, .int (0 : Int32), .int (5 : Int32)]) (rest := []) ⟨hx, hb, hml, hown, hts⟩ (kX4_in l G p2 (0 : Int32) (5 : Int32) h) (va_cwS 3 hts (gdS q1060 q1061 q6 q1062) rfl rfl rfl (by decide +kernel) ⟨Nat.le_of_ble_eq_true rfl, Nat.le_of_ble_eq_true rfl⟩) (preS hPc hKK) rfl rfl hl.1 rfl (lv_room (Nat.le_of_ble_eq_true rfl)) dX4_say_28 ⟨Nat.zero_le _, Nat.zero_le _⟩) (fun r_26 h => ?_)
      refine lv_goto (tgt := 63) hx hb dX4_say_31 (by decide) ?_
      refine lv_istore hx hb dX4_say_63 hl (Nat.le_of_ble_eq_true rfl) rfl (fun ls hl => ?_)
      have hl : lv_has ls 6 [(4, .int r_26), (0, .ref m0), (1, .int p1), (2, .int p2), (3, .int p3)] := hl
      have hl := lv_sub (l' := [(0, .ref m0), (1, .int p1), (2, .int p2), (3, .int p3), (4, .int r_26)]) hl [1, 2, 3, 4, 0] rfl
      exact cut65 r_26 _ _ _ hl hP hD hS h
  · have h := h.2 hc
    exact False.elim h
def wnJx4a65c_grow_92f84E (post : Nat × (Nat → Option Nat) → Prop) (p1 : Int32) : Prop :=
  (¬ (if (10 : Int32) < p1 then p1 else (10 : Int32)) < 0 ∧ (if (10 : Int32) < p1 then p1 else (10 : Int32)).toNatClampNeg ≤ 60) ∧
  post ((if (10 : Int32) < p1 then p1 else (10 : Int32)).toNatClampNeg, (fun _ => none))
abbrev wl_nJx4a65c_grow_92f84E : List Cond := .code yJx4a65c_grow_92f84 cJx4a65c_grow_92f84 4 (some (.array (.object "java/lang/Object"))) :: lwg
abbrev rm_nJx4a65c_grow_92f84E : Room := { frames := 1, cells := 1, slots := 60, locals := 24 }
set_option maxHeartbeats 4000000 in
set_option maxRecDepth 100000 in
theorem knJx4a65c_grow_92f84E {post : Nat × (Nat → Option Nat) → Prop} (l : Launch) (G : GT) (l0 : Nat) (je : Nat) (lm : Int32) (ln : Int32) (p1 : Int32) (sz : Nat) (h : wnJx4a65c_grow_92f84E post p1) : Met l yJx4a65c_grow_92f84 wl_nJx4a65c_grow_92f84E rm_nJx4a65c_grow_92f84E (va_Pc [.ref l0, .int p1] (fun U => U.heap.size = sz ∧ PP G [(l0, .inr (2, [.int lm, .ref je, .int ln]))] U.heap ∧ KK G U ∧ va_D (fun _ => True) [(l0, .inr (2, [.int lm, .ref je, .int ln]))] ∧ ZE je (va_A [(l0, .inr (2, [.int lm, .ref je, .int ln]))] sz) U U.heap)) (va_Qr post (fun u ra t => ∃ jeE : Nat, ra = jeE ∧ PP G [(l0, .inr (2, [.int lm, .ref jeE, .int ln])), (jeE, .inl (G.2 5, u.1, .inr (.inr (.inr (.inr (u.2))))))] t.heap ∧ va_D (va_A [(l0, .inr (2, [.int lm, .ref je, .int ln]))] sz) [(l0, .inr (2, [.int lm, .ref jeE, .int ln])), (jeE, .inl (G.2 5, u.1, .inr (.inr (.inr (.inr (u.2))))))]) (va_A [(l0, .inr (2, [.int lm, .ref je, .int ln]))] sz)) 1 60 (va_A [(l0, .inr (2, [.int lm, .ref je, .int ln]))] sz) := by
  refine Met.ofW (cc := cJx4a65c_grow_92f84) (maxL := 4) (ret := (some (.array (.object "java/lang/Object")))) (by decide) rfl ?_
  intro p e s m args below meth c s₁ B hml hv
  obtain ⟨rfl, hsz, hP, hKK, hD0, hF_ze⟩ := hv
  obtain ⟨hK, hN, hR, hFW, hNC⟩ := id hKK
  have hx := B.exec
  have hb := B.bytes
  have hr := B.returns
  have hts0 := atoms_spec (ws := wl_nJx4a65c_grow_92f84E) B.pre
  have hts : ∀ w ∈ lwg, w.before ([.ref l0, .int p1] : List Value).toArray s = true := fun w hw => hts0 w (List.mem_cons_of_mem _ hw)
  have hown : s.vm.findClass RJx4a65c = some m.cls := findClass_of_methodNamed B.named
  have hlocks := B.notSynchronized
  subst hsz
  have hD := hD0.self (sz := s.heap.size)
  generalize hAe : va_A [(l0, .inr (2, [.int lm, .ref je, .int ln]))] s.heap.size = A at hD hF_ze ⊢
  have hA : ∀ q : Nat, s.heap.size ≤ q → A q := fun q h => by rw [← hAe]; exact Or.inr h
  have hS : va_S A s.heap s.heap [] := va_S.rf
  obtain ⟨QC, hQC⟩ : ∃ Z, Z = (va_Qr post (fun u ra t => ∃ jeE : Nat, ra = jeE ∧ PP G [(l0, .inr (2, [.int lm, .ref jeE, .int ln])), (jeE, .inl (G.2 5, u.1, .inr (.inr (.inr (.inr (u.2))))))] t.heap ∧ va_D A [(l0, .inr (2, [.int lm, .ref jeE, .int ln])), (jeE, .inl (G.2 5, u.1, .inr (.inr (.inr (.inr (u.2))))))]) A) := ⟨_, rfl⟩
  rw [← hQC]
  have hP : PP G [(l0, .inr (2, [.int lm, .ref je, .int ln]))] s.heap := hP
  have hl := lv_entry ([.ref l0, .int p1]) (n := 4) (Nat.le_of_ble_eq_true rfl)
  rw [lg_entry_eq]
  generalize (lg_sl ([.ref l0, .int p1]) ++ List.replicate (4 - (lg_sl ([.ref l0, .int p1])).length) Slot.unset).toArray = ls at hl ⊢
  have hl : lv_has ls 4 [(0, .ref l0), (1, .int p1)] := hl
  refine lv_aload_n hx hb dJx4a65c_grow_92f84_0 rfl (lv_at hl 0 rfl) ?_
  refine va_get (D := G.1) (ci := 2) (v := .ref je) (C := RJx4a65c) (T := TJx4a65c) (N := 3) hx hb hts igJx4a65c hown hK hP 0 rfl rfl 1 (by decide) (hts _ q993) (fun _ h9 => h9) rfl dJx4a65c_grow_92f84_1 ?_
  refine va_tlen hx hb hF_ze.2 hS (v := 0) rfl dJx4a65c_grow_92f84_4 ?_
  refine lv_istore_n hx hb dJx4a65c_grow_92f84_5 rfl hl (Nat.le_of_ble_eq_true rfl) rfl (fun ls hl => ?_)
  have hl : lv_has ls 4 [(2, .int (0 : Int32)), (0, .ref l0), (1, .int p1)] := hl
  refine lv_iload_n hx hb dJx4a65c_grow_92f84_6 rfl (lv_at hl 0 rfl) ?_
  refine lv_if_gt (tgt := 20) hx hb dJx4a65c_grow_92f84_7 (by decide) (fun hc => absurd hc (by decide)) (fun _ => ?_)
  refine lv_aload_n hx hb dJx4a65c_grow_92f84_10 rfl (lv_at hl 1 rfl) ?_
  refine va_get (D := G.1) (ci := 2) (v := .ref je) (C := RJx4a65c) (T := TJx4a65c) (N := 3) hx hb hts igJx4a65c hown hK hP 0 rfl rfl 1 (by decide) (hts _ q993) (fun _ h9 => h9) rfl dJx4a65c_grow_92f84_11 ?_
  refine va_gets hx hb hF_ze.1 hS hown (hts _ q991) (fun _ h9 => h9) dJx4a65c_grow_92f84_14 ?_
  refine lv_acmp_eq (rx := some je) (ry := some je) (tgt := 45) hx hb dJx4a65c_grow_92f84_17 (by decide) (fun _ => ?_) (fun hc => absurd rfl hc)
  refine lv_aload_n hx hb dJx4a65c_grow_92f84_45 rfl (lv_at hl 1 rfl) ?_
  refine lv_bipush (v := 10) hx hb dJx4a65c_grow_92f84_46 (by decide) ?_
  refine lv_iload_n hx hb dJx4a65c_grow_92f84_48 rfl (lv_at hl 2 rfl) ?_
  refine va_mmax hx hb (by rw [hml]; exact hl.1.symm) hown (hts _ q1209) (hts _ q562) (hts _ q18) (hts _ q563) (Nat.le_of_ble_eq_true rfl) (Nat.le_of_ble_eq_true rfl) (Nat.zero_le _) (Nat.zero_le _) dJx4a65c_grow_92f84_49 ?_
  obtain ⟨⟨hn0, hn40⟩, h⟩ := h
  refine va_newq (D := G.1) hx hb hown (hts _ q1210) hR.2.2.1 hK hP hD hS hA hn0 rfl (Nat.le_trans (Nat.mul_le_mul_right _ hn40) (by decide)) (Nat.le_of_ble_eq_true rfl) (Nat.le_trans (Nat.add_le_add_left hn40 _) (Nat.le_of_ble_eq_true rfl)) dJx4a65c_grow_92f84_52 (fun q_1 cA H hK2 hP hD hS => ?_)
  obtain rfl : cA = G.2 5 := Option.some.inj ((va_nmO (hK2.2 6 _ rfl).2 rfl).symm.trans (va_nmO (hK.2 5 _ rfl).2 rfl))
  refine W.widen (k := 1) (n := 60) (Nat.le_of_ble_eq_true rfl) (Nat.add_le_add_left hn40 _) ?_
  have hP : PP G [(l0, .inr (2, [.int lm, .ref je, .int ln])), (q_1, .inl (G.2 5, (if (10 : Int32) < p1 then p1 else (10 : Int32)).toNatClampNeg, .inr (.inr (.inr (.inr (fun _ => none))))))] H := hP
  have hD : va_D A [(l0, .inr (2, [.int lm, .ref je, .int ln])), (q_1, .inl (G.2 5, (if (10 : Int32) < p1 then p1 else (10 : Int32)).toNatClampNeg, .inr (.inr (.inr (.inr (fun _ => none))))))] := hD
  refine lv_dup_x1 hx hb dJx4a65c_grow_92f84_55 rfl rfl ?_
  refine va_put (D := G.1) (ci := 2) (v := .ref q_1) (ty := .array (.object "java/lang/Object")) (C := RJx4a65c) (T := TJx4a65c) (N := 3) hx hb hts igJx4a65c tyJx4a65c tyJx4a65c_ok nmJx4a65c hown hK hP hD hS 0 rfl rfl 1 (by decide) (hts _ q993) (fun _ h9 => h9) rfl (by decide +kernel) rfl rfl (Nat.le_of_ble_eq_true rfl) dJx4a65c_grow_92f84_56 (fun H locs hP hD hS => ?_)
  have hP : PP G [(l0, .inr (2, [.int lm, .ref q_1, .int ln])), (q_1, .inl (G.2 5, (if (10 : Int32) < p1 then p1 else (10 : Int32)).toNatClampNeg, .inr (.inr (.inr (.inr (fun _ => none))))))] H := hP
  have hD : va_D A [(l0, .inr (2, [.int lm, .ref q_1, .int ln])), (q_1, .inl (G.2 5, (if (10 : Int32) < p1 then p1 else (10 : Int32)).toNatClampNeg, .inr (.inr (.inr (.inr (fun _ => none))))))] := hD
  subst hQC; exact W.aret (v := .ref q_1) hx hb hr (by first | exact Or.inl ⟨_, rfl⟩ | exact Or.inr ⟨_, rfl⟩) (Or.inr ⟨_, rfl⟩) (fun t ht hW => ⟨⟨((if (10 : Int32) < p1 then p1 else (10 : Int32)).toNatClampNeg, (fun _ => none)), q_1, rfl, h, q_1, rfl, by rw [ht]; exact hP, hD⟩, hS.F ht⟩) hS.2.2 dJx4a65c_grow_92f84_59
def wnJx4a65c_grow_d5877E (post : Nat × (Nat → Option Nat) → Prop) (ln : Int32) : Prop :=
  wnJx4a65c_grow_92f84E (fun (z_1 : Nat × (Nat → Option Nat)) =>
    post (z_1.1, z_1.2)
    ) (ln + (1 : Int32))
abbrev wl_nJx4a65c_grow_d5877E : List Cond := .code yJx4a65c_grow_d5877 cJx4a65c_grow_d5877 1 (some (.array (.object "java/lang/Object"))) :: lwg
abbrev rm_nJx4a65c_grow_d5877E : Room := { frames := 2, cells := 1, slots := 60, locals := 47 }
set_option maxHeartbeats 4000000 in
set_option maxRecDepth 100000 in
theorem knJx4a65c_grow_d5877E {post : Nat × (Nat → Option Nat) → Prop} (l : Launch) (G : GT) (l0 : Nat) (je : Nat) (lm : Int32) (ln : Int32) (sz : Nat) (h : wnJx4a65c_grow_d5877E post ln) : Met l yJx4a65c_grow_d5877 wl_nJx4a65c_grow_d5877E rm_nJx4a65c_grow_d5877E (va_Pc [.ref l0] (fun U => U.heap.size = sz ∧ PP G [(l0, .inr (2, [.int lm, .ref je, .int ln]))] U.heap ∧ KK G U ∧ va_D (fun _ => True) [(l0, .inr (2, [.int lm, .ref je, .int ln]))] ∧ ZE je (va_A [(l0, .inr (2, [.int lm, .ref je, .int ln]))] sz) U U.heap)) (va_Qr post (fun u ra t => ∃ jeE : Nat, ra = jeE ∧ PP G [(l0, .inr (2, [.int lm, .ref jeE, .int ln])), (jeE, .inl (G.2 5, u.1, .inr (.inr (.inr (.inr (u.2))))))] t.heap ∧ va_D (va_A [(l0, .inr (2, [.int lm, .ref je, .int ln]))] sz) [(l0, .inr (2, [.int lm, .ref jeE, .int ln])), (jeE, .inl (G.2 5, u.1, .inr (.inr (.inr (.inr (u.2))))))]) (va_A [(l0, .inr (2, [.int lm, .ref je, .int ln]))] sz)) 1 60 (va_A [(l0, .inr (2, [.int lm, .ref je, .int ln]))] sz) := by
  refine Met.ofW (cc := cJx4a65c_grow_d5877) (maxL := 1) (ret := (some (.array (.object "java/lang/Object")))) (by decide) rfl ?_
  intro p e s m args below meth c s₁ B hml hv
  obtain ⟨rfl, hsz, hP, hKK, hD0, hF_ze⟩ := hv
  obtain ⟨hK, hN, hR, hFW, hNC⟩ := id hKK
  have hx := B.exec
  have hb := B.bytes
  have hr := B.returns
  have hts0 := atoms_spec (ws := wl_nJx4a65c_grow_d5877E) B.pre
  have hts : ∀ w ∈ lwg, w.before ([.ref l0] : List Value).toArray s = true := fun w hw => hts0 w (List.mem_cons_of_mem _ hw)
  have hown : s.vm.findClass RJx4a65c = some m.cls := findClass_of_methodNamed B.named
  have hlocks := B.notSynchronized
  subst hsz
  have hD := hD0.self (sz := s.heap.size)
  generalize hAe : va_A [(l0, .inr (2, [.int lm, .ref je, .int ln]))] s.heap.size = A at hD hF_ze ⊢
  have hA : ∀ q : Nat, s.heap.size ≤ q → A q := fun q h => by rw [← hAe]; exact Or.inr h
  have hS : va_S A s.heap s.heap [] := va_S.rf
  obtain ⟨QC, hQC⟩ : ∃ Z, Z = (va_Qr post (fun u ra t => ∃ jeE : Nat, ra = jeE ∧ PP G [(l0, .inr (2, [.int lm, .ref jeE, .int ln])), (jeE, .inl (G.2 5, u.1, .inr (.inr (.inr (.inr (u.2))))))] t.heap ∧ va_D A [(l0, .inr (2, [.int lm, .ref jeE, .int ln])), (jeE, .inl (G.2 5, u.1, .inr (.inr (.inr (.inr (u.2))))))]) A) := ⟨_, rfl⟩
  rw [← hQC]
  have hP : PP G [(l0, .inr (2, [.int lm, .ref je, .int ln]))] s.heap := hP
  have hl := lv_entry ([.ref l0]) (n := 1) (Nat.le_of_ble_eq_true rfl)
  rw [lg_entry_eq]
  generalize (lg_sl ([.ref l0]) ++ List.replicate (1 - (lg_sl ([.ref l0])).length) Slot.unset).toArray = ls at hl ⊢
  have hl : lv_has ls 1 [(0, .ref l0)] := hl
  refine lv_aload_n hx hb dJx4a65c_grow_d5877_0 rfl (lv_at hl 0 rfl) ?_
  refine lv_aload_n hx hb dJx4a65c_grow_d5877_1 rfl (lv_at hl 0 rfl) ?_
  refine va_get (D := G.1) (ci := 2) (v := .int ln) (C := RJx4a65c) (T := TJx4a65c) (N := 3) hx hb hts igJx4a65c hown hK hP 0 rfl rfl 2 (by decide) (hts _ q994) (fun _ h9 => h9) rfl dJx4a65c_grow_d5877_2 ?_
  refine lv_iconst (v := 1) hx hb dJx4a65c_grow_d5877_5 (by decide) ?_
  refine lv_iadd hx hb dJx4a65c_grow_d5877_6 ?_
  have hPc := hP
  have hDc := hD.sub (ws' := [(l0, .inr (2, [.int lm, .ref je, .int ln]))]) [0] (by decide) rfl
  have hFc := va_free (wc := [(l0, .inr (2, [.int lm, .ref je, .int ln]))]) hD hS hA [0] rfl
  have hf_ze := (hF_ze.kept hS.2.1).narrow hFc
  refine va_callr (va_runV (C := RJx4a65c) (As := [.int (ln + (1 : Int32))]) (rest := []) ⟨hx, hb, hml, hown, hts⟩ (knJx4a65c_grow_92f84E l G l0 je lm ln (ln + (1 : Int32)) _ h) (cwV 1 hts (gdV q1180 q1182 qs24 q9 q1183) rfl rfl rfl (by decide +kernel) ⟨Nat.le_of_ble_eq_true rfl, Nat.le_of_ble_eq_true rfl⟩) (preVwe (E := fun U H => ZE je _ U H) (fun u U H hv h => h.moved hv) hPc hKK hDc hf_ze (va_recv hK hPc (ci := 2) (q0 := 0) rfl rfl)) rfl rfl hl.1 rfl (lv_room (Nat.le_of_ble_eq_true rfl)) dJx4a65c_grow_d5877_7 ⟨Nat.le_of_ble_eq_true rfl, Nat.le_of_ble_eq_true rfl⟩) hS (fun q _ h => hFc q h) hFc (fun u ra t H1 locs ht hvm h hB hz1 hk1 hS => ?_)
  obtain ⟨c_1, c_2⟩ := u
  obtain ⟨je_1, hB⟩ := hB
  obtain ⟨era, hB⟩ := hB
  rw [era]
  obtain ⟨hP1, hD1⟩ := hB
  rw [ht] at hP1
  have hP := hP1
  have hD : va_D A [(l0, .inr (2, [.int lm, .ref je_1, .int ln])), (je_1, .inl (G.2 5, c_1, .inr (.inr (.inr (.inr c_2)))))] := hD1.weaken (fun _ _ _ h => hFc _ h)
  generalize H1 = H at hP hS ⊢
  have hP : PP G [(l0, .inr (2, [.int lm, .ref je_1, .int ln])), (je_1, .inl (G.2 5, c_1, .inr (.inr (.inr (.inr c_2)))))] H := hP
  subst hQC; exact W.aret (v := .ref je_1) hx hb hr (by first | exact Or.inl ⟨_, rfl⟩ | exact Or.inr ⟨_, rfl⟩) (Or.inr ⟨_, rfl⟩) (fun t ht hW => ⟨⟨(c_1, c_2), je_1, rfl, h, je_1, rfl, by rw [ht]; exact hP, hD⟩, hS.F ht⟩) hS.2.2 dJx4a65c_grow_d5877_10
def wnJx4a65c_add_72be8E (post : Int32 × Nat × (Nat → Option Nat) → Prop) (ew : Nat) (ln : Int32) (p3 : Int32) : Prop :=
  ((¬ p3 = (0 : Int32)) →
    False
  ) ∧ ((p3 = (0 : Int32)) →
    wnJx4a65c_grow_d5877E (fun (z_1 : Nat × (Nat → Option Nat)) =>
      vp_in p3 z_1.1 ∧
      post ((p3 + (1 : Int32)), z_1.1, (va_up z_1.2 p3.toNatClampNeg (some ew)))
      ) ln
  )
abbrev wl_nJx4a65c_add_72be8E : List Cond := .code yJx4a65c_add_72be8 cJx4a65c_add_72be8 4 none :: lwg
abbrev rm_nJx4a65c_add_72be8E : Room := { frames := 3, cells := 1, slots := 60, locals := 67 }
set_option maxHeartbeats 4000000 in
set_option maxRecDepth 100000 in
theorem knJx4a65c_add_72be8E {post : Int32 × Nat × (Nat → Option Nat) → Prop} (l : Launch) (G : GT) (l0 : Nat) (je : Nat) (ew : Nat) (lm : Int32) (ln : Int32) (p3 : Int32) (sz : Nat) (h : wnJx4a65c_add_72be8E post ew ln p3) : Met l yJx4a65c_add_72be8 wl_nJx4a65c_add_72be8E rm_nJx4a65c_add_72be8E (va_Pc [.ref l0, .ref ew, .ref je, .int p3] (fun U => U.heap.size = sz ∧ PP G [(l0, .inr (2, [.int lm, .ref je, .int ln]))] U.heap ∧ KK G U ∧ va_D (fun _ => True) [(l0, .inr (2, [.int lm, .ref je, .int ln]))] ∧ ZE je (va_A [(l0, .inr (2, [.int lm, .ref je, .int ln]))] sz) U U.heap ∧ EW ew (va_A [(l0, .inr (2, [.int lm, .ref je, .int ln]))] sz) U U.heap)) (va_Qv post (fun u t => ∃ jeE : Nat, PP G [(l0, .inr (2, [.int lm, .ref jeE, .int (u.1)])), (jeE, .inl (G.2 5, u.2.1, .inr (.inr (.inr (.inr (u.2.2))))))] t.heap ∧ va_D (va_A [(l0, .inr (2, [.int lm, .ref je, .int ln]))] sz) [(l0, .inr (2, [.int lm, .ref jeE, .int (u.1)])), (jeE, .inl (G.2 5, u.2.1, .inr (.inr (.inr (.inr (u.2.2))))))]) (va_A [(l0, .inr (2, [.int lm, .ref je, .int ln]))] sz)) 1 60 (va_A [(l0, .inr (2, [.int lm, .ref je, .int ln]))] sz) := by
  refine Met.ofW (cc := cJx4a65c_add_72be8) (maxL := 4) (ret := none) (by decide) rfl ?_
  intro p e s m args below meth c s₁ B hml hv
  obtain ⟨rfl, hsz, hP, hKK, hD0, hF_ze, hF_ew⟩ := hv
  obtain ⟨hK, hN, hR, hFW, hNC⟩ := id hKK
  have hx := B.exec
  have hb := B.bytes
  have hr := B.returns
  have hts0 := atoms_spec (ws := wl_nJx4a65c_add_72be8E) B.pre
  have hts : ∀ w ∈ lwg, w.before ([.ref l0, .ref ew, .ref je, .int p3] : List Value).toArray s = true := fun w hw => hts0 w (List.mem_cons_of_mem _ hw)
  have hown : s.vm.findClass RJx4a65c = some m.cls := findClass_of_methodNamed B.named
  have hlocks := B.notSynchronized
  subst hsz
  have hD := hD0.self (sz := s.heap.size)
  generalize hAe : va_A [(l0, .inr (2, [.int lm, .ref je, .int ln]))] s.heap.size = A at hD hF_ze hF_ew ⊢
  have hA : ∀ q : Nat, s.heap.size ≤ q → A q := fun q h => by rw [← hAe]; exact Or.inr h
  have hS : va_S A s.heap s.heap [] := va_S.rf
  obtain ⟨QC, hQC⟩ : ∃ Z, Z = (va_Qv post (fun u t => ∃ jeE : Nat, PP G [(l0, .inr (2, [.int lm, .ref jeE, .int (u.1)])), (jeE, .inl (G.2 5, u.2.1, .inr (.inr (.inr (.inr (u.2.2))))))] t.heap ∧ va_D A [(l0, .inr (2, [.int lm, .ref jeE, .int (u.1)])), (jeE, .inl (G.2 5, u.2.1, .inr (.inr (.inr (.inr (u.2.2))))))]) A) := ⟨_, rfl⟩
  rw [← hQC]
  have hP : PP G [(l0, .inr (2, [.int lm, .ref je, .int ln]))] s.heap := hP
  have hl := lv_entry ([.ref l0, .ref ew, .ref je, .int p3]) (n := 4) (Nat.le_of_ble_eq_true rfl)
  rw [lg_entry_eq]
  generalize (lg_sl ([.ref l0, .ref ew, .ref je, .int p3]) ++ List.replicate (4 - (lg_sl ([.ref l0, .ref ew, .ref je, .int p3])).length) Slot.unset).toArray = ls at hl ⊢
  have hl : lv_has ls 4 [(0, .ref l0), (1, .ref ew), (2, .ref je), (3, .int p3)] := hl
  refine lv_iload_n hx hb dJx4a65c_add_72be8_0 rfl (lv_at hl 3 rfl) ?_
  refine lv_aload_n hx hb dJx4a65c_add_72be8_1 rfl (lv_at hl 2 rfl) ?_
  refine va_tlen hx hb hF_ze.2 hS (v := 0) rfl dJx4a65c_add_72be8_2 ?_
  refine lv_icmp_ne (tgt := 11) hx hb dJx4a65c_add_72be8_3 (by decide) (fun hc => ?_) (fun hc => ?_)
  · have h := h.1 hc
    exact False.elim h
  · have h := h.2 hc
    refine lv_aload_n hx hb dJx4a65c_add_72be8_6 rfl (lv_at hl 0 rfl) ?_
    have hPc := hP
    have hDc := hD.sub (ws' := [(l0, .inr (2, [.int lm, .ref je, .int ln]))]) [0] (by decide) rfl
    have hFc := va_free (wc := [(l0, .inr (2, [.int lm, .ref je, .int ln]))]) hD hS hA [0] rfl
    have hf_ze := (hF_ze.kept hS.2.1).narrow hFc
    refine va_callr (va_runV (C := RJx4a65c) (As := []) (rest := []) ⟨hx, hb, hml, hown, hts⟩ (knJx4a65c_grow_d5877E l G l0 je lm ln _ h) (cwV 0 hts (gdV q1176 q1178 qs23 q9 q1179) rfl rfl rfl (by decide +kernel) ⟨Nat.le_of_ble_eq_true rfl, Nat.le_of_ble_eq_true rfl⟩) (preVwe (E := fun U H => ZE je _ U H) (fun u U H hv h => h.moved hv) hPc hKK hDc hf_ze (va_recv hK hPc (ci := 2) (q0 := 0) rfl rfl)) rfl rfl hl.1 rfl (lv_room (Nat.le_of_ble_eq_true rfl)) dJx4a65c_add_72be8_7 ⟨Nat.le_of_ble_eq_true rfl, Nat.le_of_ble_eq_true rfl⟩) hS (fun q _ h => hFc q h) hFc (fun u ra t H1 locs ht hvm h hB hz1 hk1 hS => ?_)
    obtain ⟨c_1, c_2⟩ := u
    obtain ⟨je_1, hB⟩ := hB
    obtain ⟨era, hB⟩ := hB
    rw [era]
    obtain ⟨hP1, hD1⟩ := hB
    rw [ht] at hP1
    have hP := hP1
    have hD : va_D A [(l0, .inr (2, [.int lm, .ref je_1, .int ln])), (je_1, .inl (G.2 5, c_1, .inr (.inr (.inr (.inr c_2)))))] := hD1.weaken (fun _ _ _ h => hFc _ h)
    generalize H1 = H at hP hS ⊢
    have hP : PP G [(l0, .inr (2, [.int lm, .ref je_1, .int ln])), (je_1, .inl (G.2 5, c_1, .inr (.inr (.inr (.inr c_2)))))] H := hP
    refine lv_astore_n hx hb dJx4a65c_add_72be8_10 rfl hl (Nat.le_of_ble_eq_true rfl) rfl (fun ls hl => ?_)
    have hl : lv_has ls 4 [(2, .ref je_1), (0, .ref l0), (1, .ref ew), (3, .int p3)] := hl
    refine lv_aload_n hx hb dJx4a65c_add_72be8_11 rfl (lv_at hl 0 rfl) ?_
    refine lv_iload_n hx hb dJx4a65c_add_72be8_12 rfl (lv_at hl 3 rfl) ?_
    refine lv_aload_n hx hb dJx4a65c_add_72be8_13 rfl (lv_at hl 2 rfl) ?_
    obtain ⟨hin, h⟩ := h
    refine va_astqM (D := G.1) hx hb hK hP hD hS 1 5 rfl rfl (hF_ew.kept hS.2.1).1 hin dJx4a65c_add_72be8_14 (fun H locs hP hD hS => ?_)
    have hP : PP G [(l0, .inr (2, [.int lm, .ref je_1, .int ln])), (je_1, .inl (G.2 5, c_1, .inr (.inr (.inr (.inr (va_up c_2 p3.toNatClampNeg (some ew)))))))] H := hP
    have hD : va_D A [(l0, .inr (2, [.int lm, .ref je_1, .int ln])), (je_1, .inl (G.2 5, c_1, .inr (.inr (.inr (.inr (va_up c_2 p3.toNatClampNeg (some ew)))))))] := hD
    refine lv_aload_n hx hb dJx4a65c_add_72be8_15 rfl (lv_at hl 1 rfl) ?_
    refine lv_iload_n hx hb dJx4a65c_add_72be8_16 rfl (lv_at hl 3 rfl) ?_
    refine lv_iconst (v := 1) hx hb dJx4a65c_add_72be8_17 (by decide) ?_
    refine lv_iadd hx hb dJx4a65c_add_72be8_18 ?_
    refine va_put (D := G.1) (ci := 2) (v := .int (p3 + (1 : Int32))) (ty := .int) (C := RJx4a65c) (T := TJx4a65c) (N := 3) hx hb hts igJx4a65c tyJx4a65c tyJx4a65c_ok nmJx4a65c hown hK hP hD hS 0 rfl rfl 2 (by decide) (hts _ q994) (fun _ h9 => h9) rfl (by decide +kernel) rfl rfl (Nat.le_of_ble_eq_true rfl) dJx4a65c_add_72be8_19 (fun H locs hP hD hS => ?_)
    have hP : PP G [(l0, .inr (2, [.int lm, .ref je_1, .int (p3 + (1 : Int32))])), (je_1, .inl (G.2 5, c_1, .inr (.inr (.inr (.inr (va_up c_2 p3.toNatClampNeg (some ew)))))))] H := hP
    have hD : va_D A [(l0, .inr (2, [.int lm, .ref je_1, .int (p3 + (1 : Int32))])), (je_1, .inl (G.2 5, c_1, .inr (.inr (.inr (.inr (va_up c_2 p3.toNatClampNeg (some ew)))))))] := hD
    subst hQC; exact W.vret hx hb hr (fun t ht hW => ⟨⟨((p3 + (1 : Int32)), c_1, (va_up c_2 p3.toNatClampNeg (some ew))), rfl, h, je_1, by rw [ht]; exact hP, hD⟩, hS.F ht⟩) hS.2.2 dJx4a65c_add_72be8_22
def wnJx4a65c_add_9ea2dE (post : Int32 → Int32 × Int32 × Nat × (Nat → Option Nat) → Prop) (ew : Nat) (lm : Int32) (ln : Int32) : Prop :=
  wnJx4a65c_add_72be8E (fun (z_1 : Int32 × Nat × (Nat → Option Nat)) =>
    post (1 : Int32) ((lm + (1 : Int32)), z_1.1, z_1.2.1, z_1.2.2)
    ) ew ln ln
abbrev wl_nJx4a65c_add_9ea2dE : List Cond := .code yJx4a65c_add_9ea2d cJx4a65c_add_9ea2d 2 (some .boolean) :: lwg
abbrev rm_nJx4a65c_add_9ea2dE : Room := { frames := 4, cells := 1, slots := 60, locals := 90 }
set_option maxHeartbeats 4000000 in
set_option maxRecDepth 100000 in
theorem knJx4a65c_add_9ea2dE {post : Int32 → Int32 × Int32 × Nat × (Nat → Option Nat) → Prop} (l : Launch) (G : GT) (l0 : Nat) (je : Nat) (ew : Nat) (lm : Int32) (ln : Int32) (sz : Nat) (h : wnJx4a65c_add_9ea2dE post ew lm ln) : Met l yJx4a65c_add_9ea2d wl_nJx4a65c_add_9ea2dE rm_nJx4a65c_add_9ea2dE (va_Pc [.ref l0, .ref ew] (fun U => U.heap.size = sz ∧ PP G [(l0, .inr (2, [.int lm, .ref je, .int ln]))] U.heap ∧ KK G U ∧ va_D (fun _ => True) [(l0, .inr (2, [.int lm, .ref je, .int ln]))] ∧ ZE je (va_A [(l0, .inr (2, [.int lm, .ref je, .int ln]))] sz) U U.heap ∧ EW ew (va_A [(l0, .inr (2, [.int lm, .ref je, .int ln]))] sz) U U.heap)) (va_Qi post (fun u t => ∃ jeE : Nat, PP G [(l0, .inr (2, [.int (u.1), .ref jeE, .int (u.2.1)])), (jeE, .inl (G.2 5, u.2.2.1, .inr (.inr (.inr (.inr (u.2.2.2))))))] t.heap ∧ va_D (va_A [(l0, .inr (2, [.int lm, .ref je, .int ln]))] sz) [(l0, .inr (2, [.int (u.1), .ref jeE, .int (u.2.1)])), (jeE, .inl (G.2 5, u.2.2.1, .inr (.inr (.inr (.inr (u.2.2.2))))))]) (va_A [(l0, .inr (2, [.int lm, .ref je, .int ln]))] sz)) 1 60 (va_A [(l0, .inr (2, [.int lm, .ref je, .int ln]))] sz) := by
  refine Met.ofW (cc := cJx4a65c_add_9ea2d) (maxL := 2) (ret := (some .boolean)) (by decide) rfl ?_
  intro p e s m args below meth c s₁ B hml hv
  obtain ⟨rfl, hsz, hP, hKK, hD0, hF_ze, hF_ew⟩ := hv
  obtain ⟨hK, hN, hR, hFW, hNC⟩ := id hKK
  have hx := B.exec
  have hb := B.bytes
  have hr := B.returns
  have hts0 := atoms_spec (ws := wl_nJx4a65c_add_9ea2dE) B.pre
  have hts : ∀ w ∈ lwg, w.before ([.ref l0, .ref ew] : List Value).toArray s = true := fun w hw => hts0 w (List.mem_cons_of_mem _ hw)
  have hown : s.vm.findClass RJx4a65c = some m.cls := findClass_of_methodNamed B.named
  have hlocks := B.notSynchronized
  subst hsz
  have hD := hD0.self (sz := s.heap.size)
  generalize hAe : va_A [(l0, .inr (2, [.int lm, .ref je, .int ln]))] s.heap.size = A at hD hF_ze hF_ew ⊢
  have hA : ∀ q : Nat, s.heap.size ≤ q → A q := fun q h => by rw [← hAe]; exact Or.inr h
  have hS : va_S A s.heap s.heap [] := va_S.rf
  obtain ⟨QC, hQC⟩ : ∃ Z, Z = (va_Qi post (fun u t => ∃ jeE : Nat, PP G [(l0, .inr (2, [.int (u.1), .ref jeE, .int (u.2.1)])), (jeE, .inl (G.2 5, u.2.2.1, .inr (.inr (.inr (.inr (u.2.2.2))))))] t.heap ∧ va_D A [(l0, .inr (2, [.int (u.1), .ref jeE, .int (u.2.1)])), (jeE, .inl (G.2 5, u.2.2.1, .inr (.inr (.inr (.inr (u.2.2.2))))))]) A) := ⟨_, rfl⟩
  rw [← hQC]
  have hP : PP G [(l0, .inr (2, [.int lm, .ref je, .int ln]))] s.heap := hP
  have hl := lv_entry ([.ref l0, .ref ew]) (n := 2) (Nat.le_of_ble_eq_true rfl)
  rw [lg_entry_eq]
  generalize (lg_sl ([.ref l0, .ref ew]) ++ List.replicate (2 - (lg_sl ([.ref l0, .ref ew])).length) Slot.unset).toArray = ls at hl ⊢
  have hl : lv_has ls 2 [(0, .ref l0), (1, .ref ew)] := hl
  refine lv_aload_n hx hb dJx4a65c_add_9ea2d_0 rfl (lv_at hl 0 rfl) ?_
  refine lv_dup hx hb dJx4a65c_add_9ea2d_1 rfl ?_
  refine va_get (D := G.1) (ci := 2) (v := .int lm) (C := RJx4a65c) (T := TJx4a65c) (N := 3) hx hb hts igJx4a65c hown hK hP 0 rfl rfl 0 (by decide) (hts _ q996) (fun x9 h9 => u_same (hts _ q997) x9 h9) rfl dJx4a65c_add_9ea2d_2 ?_
  refine lv_iconst (v := 1) hx hb dJx4a65c_add_9ea2d_5 (by decide) ?_
  refine lv_iadd hx hb dJx4a65c_add_9ea2d_6 ?_
  refine va_put (D := G.1) (ci := 2) (v := .int (lm + (1 : Int32))) (ty := .int) (C := RJx4a65c) (T := TJx4a65c) (N := 3) hx hb hts igJx4a65c tyJx4a65c tyJx4a65c_ok nmJx4a65c hown hK hP hD hS 0 rfl rfl 0 (by decide) (hts _ q996) (fun x9 h9 => u_same (hts _ q997) x9 h9) rfl (by decide +kernel) rfl rfl (Nat.le_of_ble_eq_true rfl) dJx4a65c_add_9ea2d_7 (fun H locs hP hD hS => ?_)
  have hP : PP G [(l0, .inr (2, [.int (lm + (1 : Int32)), .ref je, .int ln]))] H := hP
  have hD : va_D A [(l0, .inr (2, [.int (lm + (1 : Int32)), .ref je, .int ln]))] := hD
  refine lv_aload_n hx hb dJx4a65c_add_9ea2d_10 rfl (lv_at hl 0 rfl) ?_
  refine lv_aload_n hx hb dJx4a65c_add_9ea2d_11 rfl (lv_at hl 1 rfl) ?_
  refine lv_aload_n hx hb dJx4a65c_add_9ea2d_12 rfl (lv_at hl 0 rfl) ?_
  refine va_get (D := G.1) (ci := 2) (v := .ref je) (C := RJx4a65c) (T := TJx4a65c) (N := 3) hx hb hts igJx4a65c hown hK hP 0 rfl rfl 1 (by decide) (hts _ q993) (fun _ h9 => h9) rfl dJx4a65c_add_9ea2d_13 ?_
  refine lv_aload_n hx hb dJx4a65c_add_9ea2d_16 rfl (lv_at hl 0 rfl) ?_
  refine va_get (D := G.1) (ci := 2) (v := .int ln) (C := RJx4a65c) (T := TJx4a65c) (N := 3) hx hb hts igJx4a65c hown hK hP 0 rfl rfl 2 (by decide) (hts _ q994) (fun _ h9 => h9) rfl dJx4a65c_add_9ea2d_17 ?_
  have hPc := hP
  have hDc := hD.sub (ws' := [(l0, .inr (2, [.int (lm + (1 : Int32)), .ref je, .int ln]))]) [0] (by decide) rfl
  have hFc := va_free (wc := [(l0, .inr (2, [.int (lm + (1 : Int32)), .ref je, .int ln]))]) hD hS hA [0] rfl
  have hf_ze := (hF_ze.kept hS.2.1).narrow hFc
  have hf_ew := (hF_ew.kept hS.2.1).narrow hFc
  refine va_callv (va_runV (C := RJx4a65c) (As := [.ref ew, .ref je, .int ln]) (rest := []) ⟨hx, hb, hml, hown, hts⟩ (knJx4a65c_add_72be8E l G l0 je ew (lm + (1 : Int32)) ln ln _ h) (cwV 3 hts (gdV q1172 q1174 qs22 q9 q1175) rfl rfl rfl (by decide +kernel) ⟨Nat.le_of_ble_eq_true rfl, Nat.le_of_ble_eq_true rfl⟩) (preVwe (E := fun U H => ZE je _ U H ∧ EW ew _ U H) (fun u U H hv h => ⟨h.1.moved hv, h.2.moved hv⟩) hPc hKK hDc ⟨hf_ze, hf_ew⟩ (va_recv hK hPc (ci := 2) (q0 := 0) rfl rfl)) rfl rfl hl.1 rfl (lv_room (Nat.le_of_ble_eq_true rfl)) dJx4a65c_add_9ea2d_20 ⟨Nat.le_of_ble_eq_true rfl, Nat.le_of_ble_eq_true rfl⟩) hS (fun q _ h => hFc q h) hFc (fun u t H1 locs ht hvm h hB hz1 hk1 hS => ?_)
  obtain ⟨ln_1, c_1, c_2⟩ := u
  obtain ⟨je_1, hB⟩ := hB
  obtain ⟨hP1, hD1⟩ := hB
  rw [ht] at hP1
  have hP := hP1
  have hD : va_D A [(l0, .inr (2, [.int (lm + (1 : Int32)), .ref je_1, .int ln_1])), (je_1, .inl (G.2 5, c_1, .inr (.inr (.inr (.inr c_2)))))] := hD1.weaken (fun _ _ _ h => hFc _ h)
  generalize H1 = H at hP hS ⊢
  have hP : PP G [(l0, .inr (2, [.int (lm + (1 : Int32)), .ref je_1, .int ln_1])), (je_1, .inl (G.2 5, c_1, .inr (.inr (.inr (.inr c_2)))))] H := hP
  refine lv_iconst (v := 1) hx hb dJx4a65c_add_9ea2d_23 (by decide) ?_
  subst hQC; exact W.zret (v := (1 : Int32)) hx hb hr (by decide) (fun t ht hW => ⟨⟨_, ((lm + (1 : Int32)), ln_1, c_1, c_2), rfl, h, je_1, by rw [ht]; exact hP, hD⟩, hS.F ht⟩) hS.2.2 dJx4a65c_add_9ea2d_24
def wnX4_sayE_C157 (post : Int32 → Int32 × Int32 × Int32 × Nat × (Nat → Option Nat) × Nat × (Nat → Int32) → Prop) (lm : Int32) (ln : Int32) (p1 : Int32) (p2 : Int32) (p3 : Int32) (i5 : Int32) : Prop :=
  ∀ q_1 : Nat,
  wnJx4a65c_add_9ea2dE (fun (r_4 : Int32) (z_1 : Int32 × Int32 × Nat × (Nat → Option Nat)) =>
    wJx4a65c_size_8abf5 (fun r_5 : Int32 =>
      post (r_5 - (1 : Int32)) ((0 : Int32), z_1.1, z_1.2.1, z_1.2.2.1, z_1.2.2.2, q_1, (upd (upd (upd (upd (fun _ => (0 : Int32)) (0 : Int32).toNatClampNeg p1) (1 : Int32).toNatClampNeg p2) (2 : Int32).toNatClampNeg p3) (3 : Int32).toNatClampNeg i5))
      ) z_1.2.1
    ) q_1 lm ln
def wnX4_sayE_C65 (post : Int32 → Int32 × Int32 × Int32 × Nat × (Nat → Option Nat) × Nat × (Nat → Int32) → Prop) (sn : Nat) (sq : Nat → Nat → Int32) (lm : Int32) (ln : Int32) (p1 : Int32) (p2 : Int32) (p3 : Int32) (i4 : Int32) : Prop :=
  ((i4 = 0) →
    False
  ) ∧ (¬ (i4 = 0) →
    ((p1 ≤ (1 : Int32)) →
      wJx4a65c_size_8abf5 (fun r_3 : Int32 =>
        ((¬ r_3 = (40 : Int32)) →
          ((¬ p1 = 0) →
            ((p1 ≤ 0) →
              ((p1 ≤ (1 : Int32)) →
                wnX4_sayE_C157 post lm ln p1 p2 p3 (1 : Int32)
              ) ∧ (¬ (p1 ≤ (1 : Int32)) →
                wX4_built (fun r_6 : Int32 =>
                  ∀ x_1 : Int32, x_1 = (if (1 : Int32) < ((1 : Int32) + r_6) then ((1 : Int32) + r_6) else (1 : Int32)) →
                  wnX4_sayE_C157 post lm ln p1 p2 p3 x_1
                  ) sn sq p3
              )
            ) ∧ (¬ (p1 ≤ 0) →
              (((4 : Int32) ≤ p1) →
                ((p1 ≤ (1 : Int32)) →
                  wnX4_sayE_C157 post lm ln p1 p2 p3 (1 : Int32)
                ) ∧ (¬ (p1 ≤ (1 : Int32)) →
                  wX4_built (fun r_7 : Int32 =>
                    ∀ x_2 : Int32, x_2 = (if (1 : Int32) < ((1 : Int32) + r_7) then ((1 : Int32) + r_7) else (1 : Int32)) →
                    wnX4_sayE_C157 post lm ln p1 p2 p3 x_2
                    ) sn sq p3
                )
              ) ∧ (¬ ((4 : Int32) ≤ p1) →
                wX4_built (fun r_8 : Int32 =>
                  ((p1 ≤ (1 : Int32)) →
                    wnX4_sayE_C157 post lm ln p1 p2 p3 ((1 : Int32) + r_8)
                  ) ∧ (¬ (p1 ≤ (1 : Int32)) →
                    wX4_built (fun r_9 : Int32 =>
                      ∀ x_3 : Int32, x_3 = (if ((1 : Int32) + r_8) < ((1 : Int32) + r_9) then ((1 : Int32) + r_9) else ((1 : Int32) + r_8)) →
                      wnX4_sayE_C157 post lm ln p1 p2 p3 x_3
                      ) sn sq p3
                  )
                  ) sn sq p2
              )
            )
          ) ∧ ((p1 = 0) →
            ((p1 ≤ 0) →
              ((p1 ≤ (1 : Int32)) →
                wnX4_sayE_C157 post lm ln p1 p2 p3 (0 : Int32)
              ) ∧ (¬ (p1 ≤ (1 : Int32)) →
                wX4_built (fun r_10 : Int32 =>
                  ∀ x_4 : Int32, x_4 = (if (0 : Int32) < ((1 : Int32) + r_10) then ((1 : Int32) + r_10) else (0 : Int32)) →
                  wnX4_sayE_C157 post lm ln p1 p2 p3 x_4
                  ) sn sq p3
              )
            ) ∧ (¬ (p1 ≤ 0) →
              (((4 : Int32) ≤ p1) →
                ((p1 ≤ (1 : Int32)) →
                  wnX4_sayE_C157 post lm ln p1 p2 p3 (0 : Int32)
                ) ∧ (¬ (p1 ≤ (1 : Int32)) →
                  wX4_built (fun r_11 : Int32 =>
                    ∀ x_5 : Int32, x_5 = (if (0 : Int32) < ((1 : Int32) + r_11) then ((1 : Int32) + r_11) else (0 : Int32)) →
                    wnX4_sayE_C157 post lm ln p1 p2 p3 x_5
                    ) sn sq p3
                )
              ) ∧ (¬ ((4 : Int32) ≤ p1) →
                wX4_built (fun r_12 : Int32 =>
                  ((p1 ≤ (1 : Int32)) →
                    wnX4_sayE_C157 post lm ln p1 p2 p3 ((1 : Int32) + r_12)
                  ) ∧ (¬ (p1 ≤ (1 : Int32)) →
                    wX4_built (fun r_13 : Int32 =>
                      ∀ x_6 : Int32, x_6 = (if ((1 : Int32) + r_12) < ((1 : Int32) + r_13) then ((1 : Int32) + r_13) else ((1 : Int32) + r_12)) →
                      wnX4_sayE_C157 post lm ln p1 p2 p3 x_6
                      ) sn sq p3
                  )
                  ) sn sq p2
              )
            )
          )
        ) ∧ ((r_3 = (40 : Int32)) →
          False
        )
        ) ln
    ) ∧ (¬ (p1 ≤ (1 : Int32)) →
      wX4_isSentence (fun r_14 : Int32 =>
        ((¬ r_14 = 0) →
          wJx4a65c_size_8abf5 (fun r_15 : Int32 =>
            ((¬ r_15 = (40 : Int32)) →
              ((¬ p1 = 0) →
                ((p1 ≤ 0) →
                  ((p1 ≤ (1 : Int32)) →
                    wnX4_sayE_C157 post lm ln p1 p2 p3 (1 : Int32)
                  ) ∧ (¬ (p1 ≤ (1 : Int32)) →
                    wX4_built (fun r_16 : Int32 =>
                      ∀ x_7 : Int32, x_7 = (if (1 : Int32) < ((1 : Int32) + r_16) then ((1 : Int32) + r_16) else (1 : Int32)) →
                      wnX4_sayE_C157 post lm ln p1 p2 p3 x_7
                      ) sn sq p3
                  )
                ) ∧ (¬ (p1 ≤ 0) →
                  (((4 : Int32) ≤ p1) →
                    ((p1 ≤ (1 : Int32)) →
                      wnX4_sayE_C157 post lm ln p1 p2 p3 (1 : Int32)
                    ) ∧ (¬ (p1 ≤ (1 : Int32)) →
                      wX4_built (fun r_17 : Int32 =>
                        ∀ x_8 : Int32, x_8 = (if (1 : Int32) < ((1 : Int32) + r_17) then ((1 : Int32) + r_17) else (1 : Int32)) →
                        wnX4_sayE_C157 post lm ln p1 p2 p3 x_8
                        ) sn sq p3
                    )
                  ) ∧ (¬ ((4 : Int32) ≤ p1) →
                    wX4_built (fun r_18 : Int32 =>
                      ((p1 ≤ (1 : Int32)) →
                        wnX4_sayE_C157 post lm ln p1 p2 p3 ((1 : Int32) + r_18)
                      ) ∧ (¬ (p1 ≤ (1 : Int32)) →
                        wX4_built (fun r_19 : Int32 =>
                          ∀ x_9 : Int32, x_9 = (if ((1 : Int32) + r_18) < ((1 : Int32) + r_19) then ((1 : Int32) + r_19) else ((1 : Int32) + r_18)) →
                          wnX4_sayE_C157 post lm ln p1 p2 p3 x_9
                          ) sn sq p3
                      )
                      ) sn sq p2
                  )
                )
              ) ∧ ((p1 = 0) →
                ((p1 ≤ 0) →
                  ((p1 ≤ (1 : Int32)) →
                    wnX4_sayE_C157 post lm ln p1 p2 p3 (0 : Int32)
                  ) ∧ (¬ (p1 ≤ (1 : Int32)) →
                    wX4_built (fun r_20 : Int32 =>
                      ∀ x_10 : Int32, x_10 = (if (0 : Int32) < ((1 : Int32) + r_20) then ((1 : Int32) + r_20) else (0 : Int32)) →
                      wnX4_sayE_C157 post lm ln p1 p2 p3 x_10
                      ) sn sq p3
                  )
                ) ∧ (¬ (p1 ≤ 0) →
                  (((4 : Int32) ≤ p1) →
                    ((p1 ≤ (1 : Int32)) →
                      wnX4_sayE_C157 post lm ln p1 p2 p3 (0 : Int32)
                    ) ∧ (¬ (p1 ≤ (1 : Int32)) →
                      wX4_built (fun r_21 : Int32 =>
                        ∀ x_11 : Int32, x_11 = (if (0 : Int32) < ((1 : Int32) + r_21) then ((1 : Int32) + r_21) else (0 : Int32)) →
                        wnX4_sayE_C157 post lm ln p1 p2 p3 x_11
                        ) sn sq p3
                    )
                  ) ∧ (¬ ((4 : Int32) ≤ p1) →
                    wX4_built (fun r_22 : Int32 =>
                      ((p1 ≤ (1 : Int32)) →
                        wnX4_sayE_C157 post lm ln p1 p2 p3 ((1 : Int32) + r_22)
                      ) ∧ (¬ (p1 ≤ (1 : Int32)) →
                        wX4_built (fun r_23 : Int32 =>
                          ∀ x_12 : Int32, x_12 = (if ((1 : Int32) + r_22) < ((1 : Int32) + r_23) then ((1 : Int32) + r_23) else ((1 : Int32) + r_22)) →
                          wnX4_sayE_C157 post lm ln p1 p2 p3 x_12
                          ) sn sq p3
                      )
                      ) sn sq p2
                  )
                )
              )
            ) ∧ ((r_15 = (40 : Int32)) →
              False
            )
            ) ln
        ) ∧ ((r_14 = 0) →
          False
        )
        ) sn p3
    )
  )
def wnX4_sayE (post : Int32 → Int32 × Int32 × Int32 × Nat × (Nat → Option Nat) × Nat × (Nat → Int32) → Prop) (th : Int32) (sn : Nat) (sq : Nat → Nat → Int32) (lm : Int32) (ln : Int32) (p1 : Int32) (p2 : Int32) (p3 : Int32) : Prop :=
  wX4_in (fun r_1 : Int32 =>
    ((¬ r_1 = 0) →
      ((¬ p1 = 0) →
        (((4 : Int32) ≤ p1) →
          ((¬ p1 = (4 : Int32)) →
            wX4_isSet (fun r_2 : Int32 =>
              wnX4_sayE_C65 post sn sq lm ln p1 p2 p3 r_2
              ) p2
          ) ∧ ((p1 = (4 : Int32)) →
            wX4_isGuard (fun r_24 : Int32 =>
              wnX4_sayE_C65 post sn sq lm ln p1 p2 p3 r_24
              ) p2
          )
        ) ∧ (¬ ((4 : Int32) ≤ p1) →
          wX4_isSentence (fun r_25 : Int32 =>
            wnX4_sayE_C65 post sn sq lm ln p1 p2 p3 r_25
            ) sn p2
        )
      ) ∧ ((p1 = 0) →
        wX4_in (fun r_26 : Int32 =>
          wnX4_sayE_C65 post sn sq lm ln p1 p2 p3 r_26
          ) p2 (0 : Int32) (5 : Int32)
      )
    ) ∧ ((r_1 = 0) →
      False
    )
    ) p1 (0 : Int32) (7 : Int32)
abbrev wl_nX4_sayE : List Cond := .code yX4_say cX4_say 6 (some .int) :: lwg
abbrev rm_nX4_sayE : Room := { frames := 7, cells := 2, slots := 64, locals := 161 }
set_option maxHeartbeats 4000000 in
set_option maxRecDepth 100000 in
theorem knX4_sayE {post : Int32 → Int32 × Int32 × Int32 × Nat × (Nat → Option Nat) × Nat × (Nat → Int32) → Prop} (l : Launch) (G : GT) (m0 : Nat) (dO : Nat) (sl : Nat) (ct0 : Nat) (st0 : Nat) (fs0 : Nat) (jn0 : Nat) (rw0 : Nat) (fd0 : Nat) (af0 : Nat) (kO : Nat) (dr : Nat → Nat) (kr : Nat → Nat) (sa : Nat → Nat) (je : Nat) (th : Int32) (mr : Int32) (po : Int64) (mf : Int32) (sp : Int32) (DD : Nat → Nat → Int32) (ctf : Nat → Int32) (stf : Nat → Int32) (fsf : Nat → Int32) (jnf : Nat → Int32) (rwf : Nat → Int32) (fdf : Nat → Int64) (aff : Nat → Int32) (KP : Nat → Nat → Int32) (sn : Nat) (sq : Nat → Nat → Int32) (lm : Int32) (ln : Int32) (p1 : Int32) (p2 : Int32) (p3 : Int32) (hln : ln = nI sn) (hs0 : sn = 0) (sz : Nat) (h : wnX4_sayE post th sn sq lm ln p1 p2 p3) : Met l yX4_say wl_nX4_sayE rm_nX4_sayE (va_Pc [.ref m0, .int p1, .int p2, .int p3] (fun U => U.heap.size = sz ∧ PP G [(m0, .inr (7, [.int th, .int mr, .long po, .ref dO, .ref sl, .ref ct0, .int mf, .int sp, .ref st0, .ref fs0, .ref jn0, .ref rw0, .ref fd0, .ref af0, .ref kO])), (dO, .inl (G.2 4, 6, .inr (.inr (.inr (.inr (fun k => if k < 6 then some (dr k) else none)))))), (dr 0, .inl (G.2 0, 64, .inl (DD 0))), (dr 1, .inl (G.2 0, 64, .inl (DD 1))), (dr 2, .inl (G.2 0, 64, .inl (DD 2))), (dr 3, .inl (G.2 0, 64, .inl (DD 3))), (dr 4, .inl (G.2 0, 64, .inl (DD 4))), (dr 5, .inl (G.2 0, 64, .inl (DD 5))), (ct0, .inl (G.2 0, 6, .inl ctf)), (st0, .inl (G.2 0, 4096, .inl stf)), (fs0, .inl (G.2 0, 4096, .inl fsf)), (jn0, .inl (G.2 0, 64, .inl jnf)), (rw0, .inl (G.2 0, 64, .inl rwf)), (fd0, .inl (G.2 1, 40, .inr (.inl fdf))), (af0, .inl (G.2 3, 40, .inl aff)), (kO, .inl (G.2 4, 4, .inr (.inr (.inr (.inr (fun k => if k < 4 then some (kr k) else none)))))), (kr 0, .inl (G.2 0, 64, .inl (KP 0))), (kr 1, .inl (G.2 0, 64, .inl (KP 1))), (kr 2, .inl (G.2 0, 64, .inl (KP 2))), (kr 3, .inl (G.2 0, 64, .inl (KP 3))), (sl, .inr (2, [.int lm, .ref je, .int ln]))] U.heap ∧ KK G U ∧ va_D (fun _ => True) [(m0, .inr (7, [.int th, .int mr, .long po, .ref dO, .ref sl, .ref ct0, .int mf, .int sp, .ref st0, .ref fs0, .ref jn0, .ref rw0, .ref fd0, .ref af0, .ref kO])), (dO, .inl (G.2 4, 6, .inr (.inr (.inr (.inr (fun k => if k < 6 then some (dr k) else none)))))), (dr 0, .inl (G.2 0, 64, .inl (DD 0))), (dr 1, .inl (G.2 0, 64, .inl (DD 1))), (dr 2, .inl (G.2 0, 64, .inl (DD 2))), (dr 3, .inl (G.2 0, 64, .inl (DD 3))), (dr 4, .inl (G.2 0, 64, .inl (DD 4))), (dr 5, .inl (G.2 0, 64, .inl (DD 5))), (ct0, .inl (G.2 0, 6, .inl ctf)), (st0, .inl (G.2 0, 4096, .inl stf)), (fs0, .inl (G.2 0, 4096, .inl fsf)), (jn0, .inl (G.2 0, 64, .inl jnf)), (rw0, .inl (G.2 0, 64, .inl rwf)), (fd0, .inl (G.2 1, 40, .inr (.inl fdf))), (af0, .inl (G.2 3, 40, .inl aff)), (kO, .inl (G.2 4, 4, .inr (.inr (.inr (.inr (fun k => if k < 4 then some (kr k) else none)))))), (kr 0, .inl (G.2 0, 64, .inl (KP 0))), (kr 1, .inl (G.2 0, 64, .inl (KP 1))), (kr 2, .inl (G.2 0, 64, .inl (KP 2))), (kr 3, .inl (G.2 0, 64, .inl (KP 3))), (sl, .inr (2, [.int lm, .ref je, .int ln]))] ∧ ZE je (va_A [(m0, .inr (7, [.int th, .int mr, .long po, .ref dO, .ref sl, .ref ct0, .int mf, .int sp, .ref st0, .ref fs0, .ref jn0, .ref rw0, .ref fd0, .ref af0, .ref kO])), (dO, .inl (G.2 4, 6, .inr (.inr (.inr (.inr (fun k => if k < 6 then some (dr k) else none)))))), (dr 0, .inl (G.2 0, 64, .inl (DD 0))), (dr 1, .inl (G.2 0, 64, .inl (DD 1))), (dr 2, .inl (G.2 0, 64, .inl (DD 2))), (dr 3, .inl (G.2 0, 64, .inl (DD 3))), (dr 4, .inl (G.2 0, 64, .inl (DD 4))), (dr 5, .inl (G.2 0, 64, .inl (DD 5))), (ct0, .inl (G.2 0, 6, .inl ctf)), (st0, .inl (G.2 0, 4096, .inl stf)), (fs0, .inl (G.2 0, 4096, .inl fsf)), (jn0, .inl (G.2 0, 64, .inl jnf)), (rw0, .inl (G.2 0, 64, .inl rwf)), (fd0, .inl (G.2 1, 40, .inr (.inl fdf))), (af0, .inl (G.2 3, 40, .inl aff)), (kO, .inl (G.2 4, 4, .inr (.inr (.inr (.inr (fun k => if k < 4 then some (kr k) else none)))))), (kr 0, .inl (G.2 0, 64, .inl (KP 0))), (kr 1, .inl (G.2 0, 64, .inl (KP 1))), (kr 2, .inl (G.2 0, 64, .inl (KP 2))), (kr 3, .inl (G.2 0, 64, .inl (KP 3))), (sl, .inr (2, [.int lm, .ref je, .int ln]))] sz) U U.heap)) (va_Qi post (fun u t => ∃ jeE : Nat, PP G [(m0, .inr (7, [.int (u.1), .int mr, .long po, .ref dO, .ref sl, .ref ct0, .int mf, .int sp, .ref st0, .ref fs0, .ref jn0, .ref rw0, .ref fd0, .ref af0, .ref kO])), (dO, .inl (G.2 4, 6, .inr (.inr (.inr (.inr (fun k => if k < 6 then some (dr k) else none)))))), (dr 0, .inl (G.2 0, 64, .inl (DD 0))), (dr 1, .inl (G.2 0, 64, .inl (DD 1))), (dr 2, .inl (G.2 0, 64, .inl (DD 2))), (dr 3, .inl (G.2 0, 64, .inl (DD 3))), (dr 4, .inl (G.2 0, 64, .inl (DD 4))), (dr 5, .inl (G.2 0, 64, .inl (DD 5))), (ct0, .inl (G.2 0, 6, .inl ctf)), (st0, .inl (G.2 0, 4096, .inl stf)), (fs0, .inl (G.2 0, 4096, .inl fsf)), (jn0, .inl (G.2 0, 64, .inl jnf)), (rw0, .inl (G.2 0, 64, .inl rwf)), (fd0, .inl (G.2 1, 40, .inr (.inl fdf))), (af0, .inl (G.2 3, 40, .inl aff)), (kO, .inl (G.2 4, 4, .inr (.inr (.inr (.inr (fun k => if k < 4 then some (kr k) else none)))))), (kr 0, .inl (G.2 0, 64, .inl (KP 0))), (kr 1, .inl (G.2 0, 64, .inl (KP 1))), (kr 2, .inl (G.2 0, 64, .inl (KP 2))), (kr 3, .inl (G.2 0, 64, .inl (KP 3))), (sl, .inr (2, [.int (u.2.1), .ref jeE, .int (u.2.2.1)])), (jeE, .inl (G.2 5, u.2.2.2.1, .inr (.inr (.inr (.inr (u.2.2.2.2.1)))))), (u.2.2.2.2.2.1, .inl (G.2 0, 4, .inl (u.2.2.2.2.2.2)))] t.heap ∧ va_D (va_A [(m0, .inr (7, [.int th, .int mr, .long po, .ref dO, .ref sl, .ref ct0, .int mf, .int sp, .ref st0, .ref fs0, .ref jn0, .ref rw0, .ref fd0, .ref af0, .ref kO])), (dO, .inl (G.2 4, 6, .inr (.inr (.inr (.inr (fun k => if k < 6 then some (dr k) else none)))))), (dr 0, .inl (G.2 0, 64, .inl (DD 0))), (dr 1, .inl (G.2 0, 64, .inl (DD 1))), (dr 2, .inl (G.2 0, 64, .inl (DD 2))), (dr 3, .inl (G.2 0, 64, .inl (DD 3))), (dr 4, .inl (G.2 0, 64, .inl (DD 4))), (dr 5, .inl (G.2 0, 64, .inl (DD 5))), (ct0, .inl (G.2 0, 6, .inl ctf)), (st0, .inl (G.2 0, 4096, .inl stf)), (fs0, .inl (G.2 0, 4096, .inl fsf)), (jn0, .inl (G.2 0, 64, .inl jnf)), (rw0, .inl (G.2 0, 64, .inl rwf)), (fd0, .inl (G.2 1, 40, .inr (.inl fdf))), (af0, .inl (G.2 3, 40, .inl aff)), (kO, .inl (G.2 4, 4, .inr (.inr (.inr (.inr (fun k => if k < 4 then some (kr k) else none)))))), (kr 0, .inl (G.2 0, 64, .inl (KP 0))), (kr 1, .inl (G.2 0, 64, .inl (KP 1))), (kr 2, .inl (G.2 0, 64, .inl (KP 2))), (kr 3, .inl (G.2 0, 64, .inl (KP 3))), (sl, .inr (2, [.int lm, .ref je, .int ln]))] sz) [(m0, .inr (7, [.int (u.1), .int mr, .long po, .ref dO, .ref sl, .ref ct0, .int mf, .int sp, .ref st0, .ref fs0, .ref jn0, .ref rw0, .ref fd0, .ref af0, .ref kO])), (dO, .inl (G.2 4, 6, .inr (.inr (.inr (.inr (fun k => if k < 6 then some (dr k) else none)))))), (dr 0, .inl (G.2 0, 64, .inl (DD 0))), (dr 1, .inl (G.2 0, 64, .inl (DD 1))), (dr 2, .inl (G.2 0, 64, .inl (DD 2))), (dr 3, .inl (G.2 0, 64, .inl (DD 3))), (dr 4, .inl (G.2 0, 64, .inl (DD 4))), (dr 5, .inl (G.2 0, 64, .inl (DD 5))), (ct0, .inl (G.2 0, 6, .inl ctf)), (st0, .inl (G.2 0, 4096, .inl stf)), (fs0, .inl (G.2 0, 4096, .inl fsf)), (jn0, .inl (G.2 0, 64, .inl jnf)), (rw0, .inl (G.2 0, 64, .inl rwf)), (fd0, .inl (G.2 1, 40, .inr (.inl fdf))), (af0, .inl (G.2 3, 40, .inl aff)), (kO, .inl (G.2 4, 4, .inr (.inr (.inr (.inr (fun k => if k < 4 then some (kr k) else none)))))), (kr 0, .inl (G.2 0, 64, .inl (KP 0))), (kr 1, .inl (G.2 0, 64, .inl (KP 1))), (kr 2, .inl (G.2 0, 64, .inl (KP 2))), (kr 3, .inl (G.2 0, 64, .inl (KP 3))), (sl, .inr (2, [.int (u.2.1), .ref jeE, .int (u.2.2.1)])), (jeE, .inl (G.2 5, u.2.2.2.1, .inr (.inr (.inr (.inr (u.2.2.2.2.1)))))), (u.2.2.2.2.2.1, .inl (G.2 0, 4, .inl (u.2.2.2.2.2.2)))]) (va_A [(m0, .inr (7, [.int th, .int mr, .long po, .ref dO, .ref sl, .ref ct0, .int mf, .int sp, .ref st0, .ref fs0, .ref jn0, .ref rw0, .ref fd0, .ref af0, .ref kO])), (dO, .inl (G.2 4, 6, .inr (.inr (.inr (.inr (fun k => if k < 6 then some (dr k) else none)))))), (dr 0, .inl (G.2 0, 64, .inl (DD 0))), (dr 1, .inl (G.2 0, 64, .inl (DD 1))), (dr 2, .inl (G.2 0, 64, .inl (DD 2))), (dr 3, .inl (G.2 0, 64, .inl (DD 3))), (dr 4, .inl (G.2 0, 64, .inl (DD 4))), (dr 5, .inl (G.2 0, 64, .inl (DD 5))), (ct0, .inl (G.2 0, 6, .inl ctf)), (st0, .inl (G.2 0, 4096, .inl stf)), (fs0, .inl (G.2 0, 4096, .inl fsf)), (jn0, .inl (G.2 0, 64, .inl jnf)), (rw0, .inl (G.2 0, 64, .inl rwf)), (fd0, .inl (G.2 1, 40, .inr (.inl fdf))), (af0, .inl (G.2 3, 40, .inl aff)), (kO, .inl (G.2 4, 4, .inr (.inr (.inr (.inr (fun k => if k < 4 then some (kr k) else none)))))), (kr 0, .inl (G.2 0, 64, .inl (KP 0))), (kr 1, .inl (G.2 0, 64, .inl (KP 1))), (kr 2, .inl (G.2 0, 64, .inl (KP 2))), (kr 3, .inl (G.2 0, 64, .inl (KP 3))), (sl, .inr (2, [.int lm, .ref je, .int ln]))] sz)) 2 64 (va_A [(m0, .inr (7, [.int th, .int mr, .long po, .ref dO, .ref sl, .ref ct0, .int mf, .int sp, .ref st0, .ref fs0, .ref jn0, .ref rw0, .ref fd0, .ref af0, .ref kO])), (dO, .inl (G.2 4, 6, .inr (.inr (.inr (.inr (fun k => if k < 6 then some (dr k) else none)))))), (dr 0, .inl (G.2 0, 64, .inl (DD 0))), (dr 1, .inl (G.2 0, 64, .inl (DD 1))), (dr 2, .inl (G.2 0, 64, .inl (DD 2))), (dr 3, .inl (G.2 0, 64, .inl (DD 3))), (dr 4, .inl (G.2 0, 64, .inl (DD 4))), (dr 5, .inl (G.2 0, 64, .inl (DD 5))), (ct0, .inl (G.2 0, 6, .inl ctf)), (st0, .inl (G.2 0, 4096, .inl stf)), (fs0, .inl (G.2 0, 4096, .inl fsf)), (jn0, .inl (G.2 0, 64, .inl jnf)), (rw0, .inl (G.2 0, 64, .inl rwf)), (fd0, .inl (G.2 1, 40, .inr (.inl fdf))), (af0, .inl (G.2 3, 40, .inl aff)), (kO, .inl (G.2 4, 4, .inr (.inr (.inr (.inr (fun k => if k < 4 then some (kr k) else none)))))), (kr 0, .inl (G.2 0, 64, .inl (KP 0))), (kr 1, .inl (G.2 0, 64, .inl (KP 1))), (kr 2, .inl (G.2 0, 64, .inl (KP 2))), (kr 3, .inl (G.2 0, 64, .inl (KP 3))), (sl, .inr (2, [.int lm, .ref je, .int ln]))] sz) := by
  refine Met.ofW (cc := cX4_say) (maxL := 6) (ret := (some .int)) (by decide) rfl ?_
  intro p e s m args below meth c s₁ B hml hv
  obtain ⟨rfl, hsz, hP, hKK, hD0, hF_ze⟩ := hv
  obtain ⟨hK, hN, hR, hFW, hNC⟩ := id hKK
  have hx := B.exec
  have hb := B.bytes
  have hr := B.returns
  have hts0 := atoms_spec (ws := wl_nX4_sayE) B.pre
  have hts : ∀ w ∈ lwg, w.before ([.ref m0, .int p1, .int p2, .int p3] : List Value).toArray s = true := fun w hw => hts0 w (List.mem_cons_of_mem _ hw)
  have hown : s.vm.findClass RX4 = some m.cls := findClass_of_methodNamed B.named
  have hlocks := B.notSynchronized
  subst hsz
  have hD := hD0.self (sz := s.heap.size)
  generalize hAe : va_A [(m0, .inr (7, [.int th, .int mr, .long po, .ref dO, .ref sl, .ref ct0, .int mf, .int sp, .ref st0, .ref fs0, .ref jn0, .ref rw0, .ref fd0, .ref af0, .ref kO])), (dO, .inl (G.2 4, 6, .inr (.inr (.inr (.inr (fun k => if k < 6 then some (dr k) else none)))))), (dr 0, .inl (G.2 0, 64, .inl (DD 0))), (dr 1, .inl (G.2 0, 64, .inl (DD 1))), (dr 2, .inl (G.2 0, 64, .inl (DD 2))), (dr 3, .inl (G.2 0, 64, .inl (DD 3))), (dr 4, .inl (G.2 0, 64, .inl (DD 4))), (dr 5, .inl (G.2 0, 64, .inl (DD 5))), (ct0, .inl (G.2 0, 6, .inl ctf)), (st0, .inl (G.2 0, 4096, .inl stf)), (fs0, .inl (G.2 0, 4096, .inl fsf)), (jn0, .inl (G.2 0, 64, .inl jnf)), (rw0, .inl (G.2 0, 64, .inl rwf)), (fd0, .inl (G.2 1, 40, .inr (.inl fdf))), (af0, .inl (G.2 3, 40, .inl aff)), (kO, .inl (G.2 4, 4, .inr (.inr (.inr (.inr (fun k => if k < 4 then some (kr k) else none)))))), (kr 0, .inl (G.2 0, 64, .inl (KP 0))), (kr 1, .inl (G.2 0, 64, .inl (KP 1))), (kr 2, .inl (G.2 0, 64, .inl (KP 2))), (kr 3, .inl (G.2 0, 64, .inl (KP 3))), (sl, .inr (2, [.int lm, .ref je, .int ln]))] s.heap.size = A at hD hF_ze ⊢
  have hA : ∀ q : Nat, s.heap.size ≤ q → A q := fun q h => by rw [← hAe]; exact Or.inr h
  have hS : va_S A s.heap s.heap [] := va_S.rf
  obtain ⟨QC, hQC⟩ : ∃ Z, Z = (va_Qi post (fun u t => ∃ jeE : Nat, PP G [(m0, .inr (7, [.int (u.1), .int mr, .long po, .ref dO, .ref sl, .ref ct0, .int mf, .int sp, .ref st0, .ref fs0, .ref jn0, .ref rw0, .ref fd0, .ref af0, .ref kO])), (dO, .inl (G.2 4, 6, .inr (.inr (.inr (.inr (fun k => if k < 6 then some (dr k) else none)))))), (dr 0, .inl (G.2 0, 64, .inl (DD 0))), (dr 1, .inl (G.2 0, 64, .inl (DD 1))), (dr 2, .inl (G.2 0, 64, .inl (DD 2))), (dr 3, .inl (G.2 0, 64, .inl (DD 3))), (dr 4, .inl (G.2 0, 64, .inl (DD 4))), (dr 5, .inl (G.2 0, 64, .inl (DD 5))), (ct0, .inl (G.2 0, 6, .inl ctf)), (st0, .inl (G.2 0, 4096, .inl stf)), (fs0, .inl (G.2 0, 4096, .inl fsf)), (jn0, .inl (G.2 0, 64, .inl jnf)), (rw0, .inl (G.2 0, 64, .inl rwf)), (fd0, .inl (G.2 1, 40, .inr (.inl fdf))), (af0, .inl (G.2 3, 40, .inl aff)), (kO, .inl (G.2 4, 4, .inr (.inr (.inr (.inr (fun k => if k < 4 then some (kr k) else none)))))), (kr 0, .inl (G.2 0, 64, .inl (KP 0))), (kr 1, .inl (G.2 0, 64, .inl (KP 1))), (kr 2, .inl (G.2 0, 64, .inl (KP 2))), (kr 3, .inl (G.2 0, 64, .inl (KP 3))), (sl, .inr (2, [.int (u.2.1), .ref jeE, .int (u.2.2.1)])), (jeE, .inl (G.2 5, u.2.2.2.1, .inr (.inr (.inr (.inr (u.2.2.2.2.1)))))), (u.2.2.2.2.2.1, .inl (G.2 0, 4, .inl (u.2.2.2.2.2.2)))] t.heap ∧ va_D A [(m0, .inr (7, [.int (u.1), .int mr, .long po, .ref dO, .ref sl, .ref ct0, .int mf, .int sp, .ref st0, .ref fs0, .ref jn0, .ref rw0, .ref fd0, .ref af0, .ref kO])), (dO, .inl (G.2 4, 6, .inr (.inr (.inr (.inr (fun k => if k < 6 then some (dr k) else none)))))), (dr 0, .inl (G.2 0, 64, .inl (DD 0))), (dr 1, .inl (G.2 0, 64, .inl (DD 1))), (dr 2, .inl (G.2 0, 64, .inl (DD 2))), (dr 3, .inl (G.2 0, 64, .inl (DD 3))), (dr 4, .inl (G.2 0, 64, .inl (DD 4))), (dr 5, .inl (G.2 0, 64, .inl (DD 5))), (ct0, .inl (G.2 0, 6, .inl ctf)), (st0, .inl (G.2 0, 4096, .inl stf)), (fs0, .inl (G.2 0, 4096, .inl fsf)), (jn0, .inl (G.2 0, 64, .inl jnf)), (rw0, .inl (G.2 0, 64, .inl rwf)), (fd0, .inl (G.2 1, 40, .inr (.inl fdf))), (af0, .inl (G.2 3, 40, .inl aff)), (kO, .inl (G.2 4, 4, .inr (.inr (.inr (.inr (fun k => if k < 4 then some (kr k) else none)))))), (kr 0, .inl (G.2 0, 64, .inl (KP 0))), (kr 1, .inl (G.2 0, 64, .inl (KP 1))), (kr 2, .inl (G.2 0, 64, .inl (KP 2))), (kr 3, .inl (G.2 0, 64, .inl (KP 3))), (sl, .inr (2, [.int (u.2.1), .ref jeE, .int (u.2.2.1)])), (jeE, .inl (G.2 5, u.2.2.2.1, .inr (.inr (.inr (.inr (u.2.2.2.2.1)))))), (u.2.2.2.2.2.1, .inl (G.2 0, 4, .inl (u.2.2.2.2.2.2)))]) A) := ⟨_, rfl⟩
  rw [← hQC]
  have hP : PP G [(m0, .inr (7, [.int th, .int mr, .long po, .ref dO, .ref sl, .ref ct0, .int mf, .int sp, .ref st0, .ref fs0, .ref jn0, .ref rw0, .ref fd0, .ref af0, .ref kO])), (dO, .inl (G.2 4, 6, .inr (.inr (.inr (.inr (fun k => if k < 6 then some (dr k) else none)))))), (dr 0, .inl (G.2 0, 64, .inl (DD 0))), (dr 1, .inl (G.2 0, 64, .inl (DD 1))), (dr 2, .inl (G.2 0, 64, .inl (DD 2))), (dr 3, .inl (G.2 0, 64, .inl (DD 3))), (dr 4, .inl (G.2 0, 64, .inl (DD 4))), (dr 5, .inl (G.2 0, 64, .inl (DD 5))), (ct0, .inl (G.2 0, 6, .inl ctf)), (st0, .inl (G.2 0, 4096, .inl stf)), (fs0, .inl (G.2 0, 4096, .inl fsf)), (jn0, .inl (G.2 0, 64, .inl jnf)), (rw0, .inl (G.2 0, 64, .inl rwf)), (fd0, .inl (G.2 1, 40, .inr (.inl fdf))), (af0, .inl (G.2 3, 40, .inl aff)), (kO, .inl (G.2 4, 4, .inr (.inr (.inr (.inr (fun k => if k < 4 then some (kr k) else none)))))), (kr 0, .inl (G.2 0, 64, .inl (KP 0))), (kr 1, .inl (G.2 0, 64, .inl (KP 1))), (kr 2, .inl (G.2 0, 64, .inl (KP 2))), (kr 3, .inl (G.2 0, 64, .inl (KP 3))), (sl, .inr (2, [.int lm, .ref je, .int ln]))] s.heap := hP
  have hl := lv_entry ([.ref m0, .int p1, .int p2, .int p3]) (n := 6) (Nat.le_of_ble_eq_true rfl)
  rw [lg_entry_eq]
  generalize (lg_sl ([.ref m0, .int p1, .int p2, .int p3]) ++ List.replicate (6 - (lg_sl ([.ref m0, .int p1, .int p2, .int p3])).length) Slot.unset).toArray = ls at hl ⊢
  have hl : lv_has ls 6 [(0, .ref m0), (1, .int p1), (2, .int p2), (3, .int p3)] := hl
  have cut157 : ∀ (i4 : Int32) (i5 : Int32) (ls : Array Slot) (H : Heap) (locs : List Loc), lv_has ls 6 [(0, .ref m0), (1, .int p1), (2, .int p2), (3, .int p3), (4, .int i4), (5, .int i5)] → PP G [(m0, .inr (7, [.int (0 : Int32), .int mr, .long po, .ref dO, .ref sl, .ref ct0, .int mf, .int sp, .ref st0, .ref fs0, .ref jn0, .ref rw0, .ref fd0, .ref af0, .ref kO])), (dO, .inl (G.2 4, 6, .inr (.inr (.inr (.inr (fun k => if k < 6 then some (dr k) else none)))))), (dr 0, .inl (G.2 0, 64, .inl (DD 0))), (dr 1, .inl (G.2 0, 64, .inl (DD 1))), (dr 2, .inl (G.2 0, 64, .inl (DD 2))), (dr 3, .inl (G.2 0, 64, .inl (DD 3))), (dr 4, .inl (G.2 0, 64, .inl (DD 4))), (dr 5, .inl (G.2 0, 64, .inl (DD 5))), (ct0, .inl (G.2 0, 6, .inl ctf)), (st0, .inl (G.2 0, 4096, .inl stf)), (fs0, .inl (G.2 0, 4096, .inl fsf)), (jn0, .inl (G.2 0, 64, .inl jnf)), (rw0, .inl (G.2 0, 64, .inl rwf)), (fd0, .inl (G.2 1, 40, .inr (.inl fdf))), (af0, .inl (G.2 3, 40, .inl aff)), (kO, .inl (G.2 4, 4, .inr (.inr (.inr (.inr (fun k => if k < 4 then some (kr k) else none)))))), (kr 0, .inl (G.2 0, 64, .inl (KP 0))), (kr 1, .inl (G.2 0, 64, .inl (KP 1))), (kr 2, .inl (G.2 0, 64, .inl (KP 2))), (kr 3, .inl (G.2 0, 64, .inl (KP 3))), (sl, .inr (2, [.int lm, .ref je, .int ln]))] H → va_D A [(m0, .inr (7, [.int (0 : Int32), .int mr, .long po, .ref dO, .ref sl, .ref ct0, .int mf, .int sp, .ref st0, .ref fs0, .ref jn0, .ref rw0, .ref fd0, .ref af0, .ref kO])), (dO, .inl (G.2 4, 6, .inr (.inr (.inr (.inr (fun k => if k < 6 then some (dr k) else none)))))), (dr 0, .inl (G.2 0, 64, .inl (DD 0))), (dr 1, .inl (G.2 0, 64, .inl (DD 1))), (dr 2, .inl (G.2 0, 64, .inl (DD 2))), (dr 3, .inl (G.2 0, 64, .inl (DD 3))), (dr 4, .inl (G.2 0, 64, .inl (DD 4))), (dr 5, .inl (G.2 0, 64, .inl (DD 5))), (ct0, .inl (G.2 0, 6, .inl ctf)), (st0, .inl (G.2 0, 4096, .inl stf)), (fs0, .inl (G.2 0, 4096, .inl fsf)), (jn0, .inl (G.2 0, 64, .inl jnf)), (rw0, .inl (G.2 0, 64, .inl rwf)), (fd0, .inl (G.2 1, 40, .inr (.inl fdf))), (af0, .inl (G.2 3, 40, .inl aff)), (kO, .inl (G.2 4, 4, .inr (.inr (.inr (.inr (fun k => if k < 4 then some (kr k) else none)))))), (kr 0, .inl (G.2 0, 64, .inl (KP 0))), (kr 1, .inl (G.2 0, 64, .inl (KP 1))), (kr 2, .inl (G.2 0, 64, .inl (KP 2))), (kr 3, .inl (G.2 0, 64, .inl (KP 3))), (sl, .inr (2, [.int lm, .ref je, .int ln]))] → va_S A s.heap H locs → wnX4_sayE_C157 post lm ln p1 p2 p3 i5 → W p l e (headSpec (wl_nX4_sayE) rm_nX4_sayE).room s m ([.ref m0, .int p1, .int p2, .int p3] : List Value).toArray below meth c H locs 0 0 (MQ below QC ([.ref m0, .int p1, .int p2, .int p3] : List Value).toArray s 2 64 A) (F0 m 157 ls []) := by
    intro i4 i5 ls H locs hl hP hD hS h
    refine lv_aload_n hx hb dX4_say_157 rfl (lv_at hl 0 rfl) ?_
    refine va_get (D := G.1) (ci := 7) (v := .ref sl) (C := RX4) (T := TX4) (N := 15) hx hb hts igX4 hown hK hP 0 rfl rfl 4 (by decide) (hts _ q1009) (fun _ h9 => h9) rfl dX4_say_158 ?_
    refine lv_iconst (v := 4) hx hb dX4_say_161 (by decide) ?_
    refine va_newa (D := G.1) (atype := .int) (N' := 4) (a0 := (4, .inl (fun _ => 0))) hx hb (hts _ q65) rfl hK hP hD hS hA (fun _ => rfl) (by decide) (by decide) (Nat.le_of_ble_eq_true rfl) (Nat.le_of_ble_eq_true rfl) (Nat.le_of_ble_eq_true rfl) dX4_say_162 (fun q_1 cA H hK2 hP hD hS => ?_)
    obtain rfl : cA = G.2 0 := Option.some.inj ((hK2.2 6 _ rfl).2.symm.trans (hK.2 0 _ rfl).2)
    refine W.widen (k := 1) (n := 4) (Nat.le_of_ble_eq_true rfl) (Nat.le_of_ble_eq_true rfl) ?_
    have hP : PP G [(m0, .inr (7, [.int (0 : Int32), .int mr, .long po, .ref dO, .ref sl, .ref ct0, .int mf, .int sp, .ref st0, .ref fs0, .ref jn0, .ref rw0, .ref fd0, .ref af0, .ref kO])), (dO, .inl (G.2 4, 6, .inr (.inr (.inr (.inr (fun k => if k < 6 then some (dr k) else none)))))), (dr 0, .inl (G.2 0, 64, .inl (DD 0))), (dr 1, .inl (G.2 0, 64, .inl (DD 1))), (dr 2, .inl (G.2 0, 64, .inl (DD 2))), (dr 3, .inl (G.2 0, 64, .inl (DD 3))), (dr 4, .inl (G.2 0, 64, .inl (DD 4))), (dr 5, .inl (G.2 0, 64, .inl (DD 5))), (ct0, .inl (G.2 0, 6, .inl ctf)), (st0, .inl (G.2 0, 4096, .inl stf)), (fs0, .inl (G.2 0, 4096, .inl fsf)), (jn0, .inl (G.2 0, 64, .inl jnf)), (rw0, .inl (G.2 0, 64, .inl rwf)), (fd0, .inl (G.2 1, 40, .inr (.inl fdf))), (af0, .inl (G.2 3, 40, .inl aff)), (kO, .inl (G.2 4, 4, .inr (.inr (.inr (.inr (fun k => if k < 4 then some (kr k) else none)))))), (kr 0, .inl (G.2 0, 64, .inl (KP 0))), (kr 1, .inl (G.2 0, 64, .inl (KP 1))), (kr 2, .inl (G.2 0, 64, .inl (KP 2))), (kr 3, .inl (G.2 0, 64, .inl (KP 3))), (sl, .inr (2, [.int lm, .ref je, .int ln])), (q_1, .inl (G.2 0, 4, .inl (fun _ => (0 : Int32))))] H := hP
    have hD : va_D A [(m0, .inr (7, [.int (0 : Int32), .int mr, .long po, .ref dO, .ref sl, .ref ct0, .int mf, .int sp, .ref st0, .ref fs0, .ref jn0, .ref rw0, .ref fd0, .ref af0, .ref kO])), (dO, .inl (G.2 4, 6, .inr (.inr (.inr (.inr (fun k => if k < 6 then some (dr k) else none)))))), (dr 0, .inl (G.2 0, 64, .inl (DD 0))), (dr 1, .inl (G.2 0, 64, .inl (DD 1))), (dr 2, .inl (G.2 0, 64, .inl (DD 2))), (dr 3, .inl (G.2 0, 64, .inl (DD 3))), (dr 4, .inl (G.2 0, 64, .inl (DD 4))), (dr 5, .inl (G.2 0, 64, .inl (DD 5))), (ct0, .inl (G.2 0, 6, .inl ctf)), (st0, .inl (G.2 0, 4096, .inl stf)), (fs0, .inl (G.2 0, 4096, .inl fsf)), (jn0, .inl (G.2 0, 64, .inl jnf)), (rw0, .inl (G.2 0, 64, .inl rwf)), (fd0, .inl (G.2 1, 40, .inr (.inl fdf))), (af0, .inl (G.2 3, 40, .inl aff)), (kO, .inl (G.2 4, 4, .inr (.inr (.inr (.inr (fun k => if k < 4 then some (kr k) else none)))))), (kr 0, .inl (G.2 0, 64, .inl (KP 0))), (kr 1, .inl (G.2 0, 64, .inl (KP 1))), (kr 2, .inl (G.2 0, 64, .inl (KP 2))), (kr 3, .inl (G.2 0, 64, .inl (KP 3))), (sl, .inr (2, [.int lm, .ref je, .int ln])), (q_1, .inl (G.2 0, 4, .inl (fun _ => (0 : Int32))))] := hD
    have h := h q_1
    refine lv_dup hx hb dX4_say_164 rfl ?_
    refine lv_iconst (v := 0) hx hb dX4_say_165 (by decide) ?_
    refine lv_iload_n hx hb dX4_say_166 rfl (lv_at hl 1 rfl) ?_
    have hin : vp_in (0 : Int32) 4 := show ¬ ((0 : Int32) < 0 ∨ 4 ≤ ((0 : Int32)).toNatClampNeg) from by decide
    refine va_iast (D := G.1) hx hb hK hP hD hS 21 0 rfl rfl hin dX4_say_167 (fun H locs hP hD hS => ?_)
    have hP : PP G [(m0, .inr (7, [.int (0 : Int32), .int mr, .long po, .ref dO, .ref sl, .ref ct0, .int mf, .int sp, .ref st0, .ref fs0, .ref jn0, .ref rw0, .ref fd0, .ref af0, .ref kO])), (dO, .inl (G.2 4, 6, .inr (.inr (.inr (.inr (fun k => if k < 6 then some (dr k) else none)))))), (dr 0, .inl (G.2 0, 64, .inl (DD 0))), (dr 1, .inl (G.2 0, 64, .inl (DD 1))), (dr 2, .inl (G.2 0, 64, .inl (DD 2))), (dr 3, .inl (G.2 0, 64, .inl (DD 3))), (dr 4, .inl (G.2 0, 64, .inl (DD 4))), (dr 5, .inl (G.2 0, 64, .inl (DD 5))), (ct0, .inl (G.2 0, 6, .inl ctf)), (st0, .inl (G.2 0, 4096, .inl stf)), (fs0, .inl (G.2 0, 4096, .inl fsf)), (jn0, .inl (G.2 0, 64, .inl jnf)), (rw0, .inl (G.2 0, 64, .inl rwf)), (fd0, .inl (G.2 1, 40, .inr (.inl fdf))), (af0, .inl (G.2 3, 40, .inl aff)), (kO, .inl (G.2 4, 4, .inr (.inr (.inr (.inr (fun k => if k < 4 then some (kr k) else none)))))), (kr 0, .inl (G.2 0, 64, .inl (KP 0))), (kr 1, .inl (G.2 0, 64, .inl (KP 1))), (kr 2, .inl (G.2 0, 64, .inl (KP 2))), (kr 3, .inl (G.2 0, 64, .inl (KP 3))), (sl, .inr (2, [.int lm, .ref je, .int ln])), (q_1, .inl (G.2 0, 4, .inl (upd (fun _ => (0 : Int32)) (0 : Int32).toNatClampNeg p1)))] H := hP
    have hD : va_D A [(m0, .inr (7, [.int (0 : Int32), .int mr, .long po, .ref dO, .ref sl, .ref ct0, .int mf, .int sp, .ref st0, .ref fs0, .ref jn0, .ref rw0, .ref fd0, .ref af0, .ref kO])), (dO, .inl (G.2 4, 6, .inr (.inr (.inr (.inr (fun k => if k < 6 then some (dr k) else none)))))), (dr 0, .inl (G.2 0, 64, .inl (DD 0))), (dr 1, .inl (G.2 0, 64, .inl (DD 1))), (dr 2, .inl (G.2 0, 64, .inl (DD 2))), (dr 3, .inl (G.2 0, 64, .inl (DD 3))), (dr 4, .inl (G.2 0, 64, .inl (DD 4))), (dr 5, .inl (G.2 0, 64, .inl (DD 5))), (ct0, .inl (G.2 0, 6, .inl ctf)), (st0, .inl (G.2 0, 4096, .inl stf)), (fs0, .inl (G.2 0, 4096, .inl fsf)), (jn0, .inl (G.2 0, 64, .inl jnf)), (rw0, .inl (G.2 0, 64, .inl rwf)), (fd0, .inl (G.2 1, 40, .inr (.inl fdf))), (af0, .inl (G.2 3, 40, .inl aff)), (kO, .inl (G.2 4, 4, .inr (.inr (.inr (.inr (fun k => if k < 4 then some (kr k) else none)))))), (kr 0, .inl (G.2 0, 64, .inl (KP 0))), (kr 1, .inl (G.2 0, 64, .inl (KP 1))), (kr 2, .inl (G.2 0, 64, .inl (KP 2))), (kr 3, .inl (G.2 0, 64, .inl (KP 3))), (sl, .inr (2, [.int lm, .ref je, .int ln])), (q_1, .inl (G.2 0, 4, .inl (upd (fun _ => (0 : Int32)) (0 : Int32).toNatClampNeg p1)))] := hD
    refine lv_dup hx hb dX4_say_168 rfl ?_
    refine lv_iconst (v := 1) hx hb dX4_say_169 (by decide) ?_
    refine lv_iload_n hx hb dX4_say_170 rfl (lv_at hl 2 rfl) ?_
    have hin : vp_in (1 : Int32) 4 := show ¬ ((1 : Int32) < 0 ∨ 4 ≤ ((1 : Int32)).toNatClampNeg) from by decide
    refine va_iast (D := G.1) hx hb hK hP hD hS 21 0 rfl rfl hin dX4_say_171 (fun H locs hP hD hS => ?_)
    have hP : PP G [(m0, .inr (7, [.int (0 : Int32), .int mr, .long po, .ref dO, .ref sl, .ref ct0, .int mf, .int sp, .ref st0, .ref fs0, .ref jn0, .ref rw0, .ref fd0, .ref af0, .ref kO])), (dO, .inl (G.2 4, 6, .inr (.inr (.inr (.inr (fun k => if k < 6 then some (dr k) else none)))))), (dr 0, .inl (G.2 0, 64, .inl (DD 0))), (dr 1, .inl (G.2 0, 64, .inl (DD 1))), (dr 2, .inl (G.2 0, 64, .inl (DD 2))), (dr 3, .inl (G.2 0, 64, .inl (DD 3))), (dr 4, .inl (G.2 0, 64, .inl (DD 4))), (dr 5, .inl (G.2 0, 64, .inl (DD 5))), (ct0, .inl (G.2 0, 6, .inl ctf)), (st0, .inl (G.2 0, 4096, .inl stf)), (fs0, .inl (G.2 0, 4096, .inl fsf)), (jn0, .inl (G.2 0, 64, .inl jnf)), (rw0, .inl (G.2 0, 64, .inl rwf)), (fd0, .inl (G.2 1, 40, .inr (.inl fdf))), (af0, .inl (G.2 3, 40, .inl aff)), (kO, .inl (G.2 4, 4, .inr (.inr (.inr (.inr (fun k => if k < 4 then some (kr k) else none)))))), (kr 0, .inl (G.2 0, 64, .inl (KP 0))), (kr 1, .inl (G.2 0, 64, .inl (KP 1))), (kr 2, .inl (G.2 0, 64, .inl (KP 2))), (kr 3, .inl (G.2 0, 64, .inl (KP 3))), (sl, .inr (2, [.int lm, .ref je, .int ln])), (q_1, .inl (G.2 0, 4, .inl (upd (upd (fun _ => (0 : Int32)) (0 : Int32).toNatClampNeg p1) (1 : Int32).toNatClampNeg p2)))] H := hP
    have hD : va_D A [(m0, .inr (7, [.int (0 : Int32), .int mr, .long po, .ref dO, .ref sl, .ref ct0, .int mf, .int sp, .ref st0, .ref fs0, .ref jn0, .ref rw0, .ref fd0, .ref af0, .ref kO])), (dO, .inl (G.2 4, 6, .inr (.inr (.inr (.inr (fun k => if k < 6 then some (dr k) else none)))))), (dr 0, .inl (G.2 0, 64, .inl (DD 0))), (dr 1, .inl (G.2 0, 64, .inl (DD 1))), (dr 2, .inl (G.2 0, 64, .inl (DD 2))), (dr 3, .inl (G.2 0, 64, .inl (DD 3))), (dr 4, .inl (G.2 0, 64, .inl (DD 4))), (dr 5, .inl (G.2 0, 64, .inl (DD 5))), (ct0, .inl (G.2 0, 6, .inl ctf)), (st0, .inl (G.2 0, 4096, .inl stf)), (fs0, .inl (G.2 0, 4096, .inl fsf)), (jn0, .inl (G.2 0, 64, .inl jnf)), (rw0, .inl (G.2 0, 64, .inl rwf)), (fd0, .inl (G.2 1, 40, .inr (.inl fdf))), (af0, .inl (G.2 3, 40, .inl aff)), (kO, .inl (G.2 4, 4, .inr (.inr (.inr (.inr (fun k => if k < 4 then some (kr k) else none)))))), (kr 0, .inl (G.2 0, 64, .inl (KP 0))), (kr 1, .inl (G.2 0, 64, .inl (KP 1))), (kr 2, .inl (G.2 0, 64, .inl (KP 2))), (kr 3, .inl (G.2 0, 64, .inl (KP 3))), (sl, .inr (2, [.int lm, .ref je, .int ln])), (q_1, .inl (G.2 0, 4, .inl (upd (upd (fun _ => (0 : Int32)) (0 : Int32).toNatClampNeg p1) (1 : Int32).toNatClampNeg p2)))] := hD
    refine lv_dup hx hb dX4_say_172 rfl ?_
    refine lv_iconst (v := 2) hx hb dX4_say_173 (by decide) ?_
    refine lv_iload_n hx hb dX4_say_174 rfl (lv_at hl 3 rfl) ?_
    have hin : vp_in (2 : Int32) 4 := show ¬ ((2 : Int32) < 0 ∨ 4 ≤ ((2 : Int32)).toNatClampNeg) from by decide
    refine va_iast (D := G.1) hx hb hK hP hD hS 21 0 rfl rfl hin dX4_say_175 (fun H locs hP hD hS => ?_)
    have hP : PP G [(m0, .inr (7, [.int (0 : Int32), .int mr, .long po, .ref dO, .ref sl, .ref ct0, .int mf, .int sp, .ref st0, .ref fs0, .ref jn0, .ref rw0, .ref fd0, .ref af0, .ref kO])), (dO, .inl (G.2 4, 6, .inr (.inr (.inr (.inr (fun k => if k < 6 then some (dr k) else none)))))), (dr 0, .inl (G.2 0, 64, .inl (DD 0))), (dr 1, .inl (G.2 0, 64, .inl (DD 1))), (dr 2, .inl (G.2 0, 64, .inl (DD 2))), (dr 3, .inl (G.2 0, 64, .inl (DD 3))), (dr 4, .inl (G.2 0, 64, .inl (DD 4))), (dr 5, .inl (G.2 0, 64, .inl (DD 5))), (ct0, .inl (G.2 0, 6, .inl ctf)), (st0, .inl (G.2 0, 4096, .inl stf)), (fs0, .inl (G.2 0, 4096, .inl fsf)), (jn0, .inl (G.2 0, 64, .inl jnf)), (rw0, .inl (G.2 0, 64, .inl rwf)), (fd0, .inl (G.2 1, 40, .inr (.inl fdf))), (af0, .inl (G.2 3, 40, .inl aff)), (kO, .inl (G.2 4, 4, .inr (.inr (.inr (.inr (fun k => if k < 4 then some (kr k) else none)))))), (kr 0, .inl (G.2 0, 64, .inl (KP 0))), (kr 1, .inl (G.2 0, 64, .inl (KP 1))), (kr 2, .inl (G.2 0, 64, .inl (KP 2))), (kr 3, .inl (G.2 0, 64, .inl (KP 3))), (sl, .inr (2, [.int lm, .ref je, .int ln])), (q_1, .inl (G.2 0, 4, .inl (upd (upd (upd (fun _ => (0 : Int32)) (0 : Int32).toNatClampNeg p1) (1 : Int32).toNatClampNeg p2) (2 : Int32).toNatClampNeg p3)))] H := hP
    have hD : va_D A [(m0, .inr (7, [.int (0 : Int32), .int mr, .long po, .ref dO, .ref sl, .ref ct0, .int mf, .int sp, .ref st0, .ref fs0, .ref jn0, .ref rw0, .ref fd0, .ref af0, .ref kO])), (dO, .inl (G.2 4, 6, .inr (.inr (.inr (.inr (fun k => if k < 6 then some (dr k) else none)))))), (dr 0, .inl (G.2 0, 64, .inl (DD 0))), (dr 1, .inl (G.2 0, 64, .inl (DD 1))), (dr 2, .inl (G.2 0, 64, .inl (DD 2))), (dr 3, .inl (G.2 0, 64, .inl (DD 3))), (dr 4, .inl (G.2 0, 64, .inl (DD 4))), (dr 5, .inl (G.2 0, 64, .inl (DD 5))), (ct0, .inl (G.2 0, 6, .inl ctf)), (st0, .inl (G.2 0, 4096, .inl stf)), (fs0, .inl (G.2 0, 4096, .inl fsf)), (jn0, .inl (G.2 0, 64, .inl jnf)), (rw0, .inl (G.2 0, 64, .inl rwf)), (fd0, .inl (G.2 1, 40, .inr (.inl fdf))), (af0, .inl (G.2 3, 40, .inl aff)), (kO, .inl (G.2 4, 4, .inr (.inr (.inr (.inr (fun k => if k < 4 then some (kr k) else none)))))), (kr 0, .inl (G.2 0, 64, .inl (KP 0))), (kr 1, .inl (G.2 0, 64, .inl (KP 1))), (kr 2, .inl (G.2 0, 64, .inl (KP 2))), (kr 3, .inl (G.2 0, 64, .inl (KP 3))), (sl, .inr (2, [.int lm, .ref je, .int ln])), (q_1, .inl (G.2 0, 4, .inl (upd (upd (upd (fun _ => (0 : Int32)) (0 : Int32).toNatClampNeg p1) (1 : Int32).toNatClampNeg p2) (2 : Int32).toNatClampNeg p3)))] := hD
    refine lv_dup hx hb dX4_say_176 rfl ?_
    refine lv_iconst (v := 3) hx hb dX4_say_177 (by decide) ?_
    refine lv_iload hx hb dX4_say_178 (lv_at hl 5 rfl) ?_
    have hin : vp_in (3 : Int32) 4 := show ¬ ((3 : Int32) < 0 ∨ 4 ≤ ((3 : Int32)).toNatClampNeg) from by decide
    refine va_iast (D := G.1) hx hb hK hP hD hS 21 0 rfl rfl hin dX4_say_180 (fun H locs hP hD hS => ?_)
    have hP : PP G [(m0, .inr (7, [.int (0 : Int32), .int mr, .long po, .ref dO, .ref sl, .ref ct0, .int mf, .int sp, .ref st0, .ref fs0, .ref jn0, .ref rw0, .ref fd0, .ref af0, .ref kO])), (dO, .inl (G.2 4, 6, .inr (.inr (.inr (.inr (fun k => if k < 6 then some (dr k) else none)))))), (dr 0, .inl (G.2 0, 64, .inl (DD 0))), (dr 1, .inl (G.2 0, 64, .inl (DD 1))), (dr 2, .inl (G.2 0, 64, .inl (DD 2))), (dr 3, .inl (G.2 0, 64, .inl (DD 3))), (dr 4, .inl (G.2 0, 64, .inl (DD 4))), (dr 5, .inl (G.2 0, 64, .inl (DD 5))), (ct0, .inl (G.2 0, 6, .inl ctf)), (st0, .inl (G.2 0, 4096, .inl stf)), (fs0, .inl (G.2 0, 4096, .inl fsf)), (jn0, .inl (G.2 0, 64, .inl jnf)), (rw0, .inl (G.2 0, 64, .inl rwf)), (fd0, .inl (G.2 1, 40, .inr (.inl fdf))), (af0, .inl (G.2 3, 40, .inl aff)), (kO, .inl (G.2 4, 4, .inr (.inr (.inr (.inr (fun k => if k < 4 then some (kr k) else none)))))), (kr 0, .inl (G.2 0, 64, .inl (KP 0))), (kr 1, .inl (G.2 0, 64, .inl (KP 1))), (kr 2, .inl (G.2 0, 64, .inl (KP 2))), (kr 3, .inl (G.2 0, 64, .inl (KP 3))), (sl, .inr (2, [.int lm, .ref je, .int ln])), (q_1, .inl (G.2 0, 4, .inl (upd (upd (upd (upd (fun _ => (0 : Int32)) (0 : Int32).toNatClampNeg p1) (1 : Int32).toNatClampNeg p2) (2 : Int32).toNatClampNeg p3) (3 : Int32).toNatClampNeg i5)))] H := hP
    have hD : va_D A [(m0, .inr (7, [.int (0 : Int32), .int mr, .long po, .ref dO, .ref sl, .ref ct0, .int mf, .int sp, .ref st0, .ref fs0, .ref jn0, .ref rw0, .ref fd0, .ref af0, .ref kO])), (dO, .inl (G.2 4, 6, .inr (.inr (.inr (.inr (fun k => if k < 6 then some (dr k) else none)))))), (dr 0, .inl (G.2 0, 64, .inl (DD 0))), (dr 1, .inl (G.2 0, 64, .inl (DD 1))), (dr 2, .inl (G.2 0, 64, .inl (DD 2))), (dr 3, .inl (G.2 0, 64, .inl (DD 3))), (dr 4, .inl (G.2 0, 64, .inl (DD 4))), (dr 5, .inl (G.2 0, 64, .inl (DD 5))), (ct0, .inl (G.2 0, 6, .inl ctf)), (st0, .inl (G.2 0, 4096, .inl stf)), (fs0, .inl (G.2 0, 4096, .inl fsf)), (jn0, .inl (G.2 0, 64, .inl jnf)), (rw0, .inl (G.2 0, 64, .inl rwf)), (fd0, .inl (G.2 1, 40, .inr (.inl fdf))), (af0, .inl (G.2 3, 40, .inl aff)), (kO, .inl (G.2 4, 4, .inr (.inr (.inr (.inr (fun k => if k < 4 then some (kr k) else none)))))), (kr 0, .inl (G.2 0, 64, .inl (KP 0))), (kr 1, .inl (G.2 0, 64, .inl (KP 1))), (kr 2, .inl (G.2 0, 64, .inl (KP 2))), (kr 3, .inl (G.2 0, 64, .inl (KP 3))), (sl, .inr (2, [.int lm, .ref je, .int ln])), (q_1, .inl (G.2 0, 4, .inl (upd (upd (upd (upd (fun _ => (0 : Int32)) (0 : Int32).toNatClampNeg p1) (1 : Int32).toNatClampNeg p2) (2 : Int32).toNatClampNeg p3) (3 : Int32).toNatClampNeg i5)))] := hD
    have hPc := va_P.sub (ws' := [(sl, .inr (2, [.int lm, .ref je, .int ln]))]) hP [20] rfl
    have hDc := hD.sub (ws' := [(sl, .inr (2, [.int lm, .ref je, .int ln]))]) [20] (by decide) rfl
    have hFc := va_free (wc := [(sl, .inr (2, [.int lm, .ref je, .int ln]))]) hD hS hA [20] rfl
    have hf_ze := (hF_ze.kept hS.2.1).narrow hFc
    have hf_ew := ewRow (wc := [(sl, .inr (2, [.int lm, .ref je, .int ln]))]) (va_Nw.use (A := #[]) rfl (hN _ n1467)) hK hP hD [20] 21 rfl (by decide) rfl
    refine va_callFi (va_runF (C := RJx4a65c) (x := xAdd) (As := [.ref q_1]) (rest := []) (hK.1 2 _ rfl).2 ⟨hx, hb, hml, hown, hts⟩ (knJx4a65c_add_9ea2dE l G sl je q_1 lm ln _ h) (va_cwF 1 hts (gdF q1164 q1167 q1169 q9 q1171) rfl rfl rfl hKK.2.2.2.1.2.2 (by decide +kernel) ⟨Nat.le_of_ble_eq_true rfl, Nat.le_of_ble_eq_true rfl⟩) (preVwe (E := fun U H => ZE je _ U H ∧ EW q_1 _ U H) (fun u U H hv h => ⟨h.1.moved hv, h.2.moved hv⟩) hPc hKK hDc ⟨hf_ze, hf_ew⟩ (va_recv hK hPc (ci := 2) (q0 := 0) rfl rfl)) rfl rfl hl.1 rfl (lv_room (Nat.le_of_ble_eq_true rfl)) dX4_say_181 ⟨Nat.le_of_ble_eq_true rfl, Nat.le_of_ble_eq_true rfl⟩) hS (fun q _ h => hFc q h) hFc (fun r_4 u t H1 locs ht hvm h hB hz1 hk1 hS => ?_)
    obtain ⟨lm_1, ln_1, c_1, c_2⟩ := u
    obtain ⟨je_1, hB⟩ := hB
    obtain ⟨hP1, hD1⟩ := hB
    rw [ht] at hP1
    obtain ⟨hP, hD⟩ := va_join (wr := [(m0, .inr (7, [.int (0 : Int32), .int mr, .long po, .ref dO, .ref sl, .ref ct0, .int mf, .int sp, .ref st0, .ref fs0, .ref jn0, .ref rw0, .ref fd0, .ref af0, .ref kO])), (dO, .inl (G.2 4, 6, .inr (.inr (.inr (.inr (fun k => if k < 6 then some (dr k) else none)))))), (dr 0, .inl (G.2 0, 64, .inl (DD 0))), (dr 1, .inl (G.2 0, 64, .inl (DD 1))), (dr 2, .inl (G.2 0, 64, .inl (DD 2))), (dr 3, .inl (G.2 0, 64, .inl (DD 3))), (dr 4, .inl (G.2 0, 64, .inl (DD 4))), (dr 5, .inl (G.2 0, 64, .inl (DD 5))), (ct0, .inl (G.2 0, 6, .inl ctf)), (st0, .inl (G.2 0, 4096, .inl stf)), (fs0, .inl (G.2 0, 4096, .inl fsf)), (jn0, .inl (G.2 0, 64, .inl jnf)), (rw0, .inl (G.2 0, 64, .inl rwf)), (fd0, .inl (G.2 1, 40, .inr (.inl fdf))), (af0, .inl (G.2 3, 40, .inl aff)), (kO, .inl (G.2 4, 4, .inr (.inr (.inr (.inr (fun k => if k < 4 then some (kr k) else none)))))), (kr 0, .inl (G.2 0, 64, .inl (KP 0))), (kr 1, .inl (G.2 0, 64, .inl (KP 1))), (kr 2, .inl (G.2 0, 64, .inl (KP 2))), (kr 3, .inl (G.2 0, 64, .inl (KP 3))), (q_1, .inl (G.2 0, 4, .inl (upd (upd (upd (upd (fun _ => (0 : Int32)) (0 : Int32).toNatClampNeg p1) (1 : Int32).toNatClampNeg p2) (2 : Int32).toNatClampNeg p3) (3 : Int32).toNatClampNeg i5)))]) (w1 := [(sl, .inr (2, [.int lm_1, .ref je_1, .int ln_1])), (je_1, .inl (G.2 5, c_1, .inr (.inr (.inr (.inr c_2)))))]) hP hD [20] [0, 1, 2, 3, 4, 5, 6, 7, 8, 9, 10, 11, 12, 13, 14, 15, 16, 17, 18, 19, 21] rfl rfl (by decide) (by decide) hk1 hFc hP1 hD1
    generalize H1 = H at hP hS ⊢
    have hP : PP G [(m0, .inr (7, [.int (0 : Int32), .int mr, .long po, .ref dO, .ref sl, .ref ct0, .int mf, .int sp, .ref st0, .ref fs0, .ref jn0, .ref rw0, .ref fd0, .ref af0, .ref kO])), (dO, .inl (G.2 4, 6, .inr (.inr (.inr (.inr (fun k => if k < 6 then some (dr k) else none)))))), (dr 0, .inl (G.2 0, 64, .inl (DD 0))), (dr 1, .inl (G.2 0, 64, .inl (DD 1))), (dr 2, .inl (G.2 0, 64, .inl (DD 2))), (dr 3, .inl (G.2 0, 64, .inl (DD 3))), (dr 4, .inl (G.2 0, 64, .inl (DD 4))), (dr 5, .inl (G.2 0, 64, .inl (DD 5))), (ct0, .inl (G.2 0, 6, .inl ctf)), (st0, .inl (G.2 0, 4096, .inl stf)), (fs0, .inl (G.2 0, 4096, .inl fsf)), (jn0, .inl (G.2 0, 64, .inl jnf)), (rw0, .inl (G.2 0, 64, .inl rwf)), (fd0, .inl (G.2 1, 40, .inr (.inl fdf))), (af0, .inl (G.2 3, 40, .inl aff)), (kO, .inl (G.2 4, 4, .inr (.inr (.inr (.inr (fun k => if k < 4 then some (kr k) else none)))))), (kr 0, .inl (G.2 0, 64, .inl (KP 0))), (kr 1, .inl (G.2 0, 64, .inl (KP 1))), (kr 2, .inl (G.2 0, 64, .inl (KP 2))), (kr 3, .inl (G.2 0, 64, .inl (KP 3))), (sl, .inr (2, [.int lm_1, .ref je_1, .int ln_1])), (q_1, .inl (G.2 0, 4, .inl (upd (upd (upd (upd (fun _ => (0 : Int32)) (0 : Int32).toNatClampNeg p1) (1 : Int32).toNatClampNeg p2) (2 : Int32).toNatClampNeg p3) (3 : Int32).toNatClampNeg i5))), (je_1, .inl (G.2 5, c_1, .inr (.inr (.inr (.inr c_2)))))] H := va_P.sub hP [0, 1, 2, 3, 4, 5, 6, 7, 8, 9, 10, 11, 12, 13, 14, 15, 16, 17, 18, 19, 21, 20, 22] rfl
    have hD : va_D A [(m0, .inr (7, [.int (0 : Int32), .int mr, .long po, .ref dO, .ref sl, .ref ct0, .int mf, .int sp, .ref st0, .ref fs0, .ref jn0, .ref rw0, .ref fd0, .ref af0, .ref kO])), (dO, .inl (G.2 4, 6, .inr (.inr (.inr (.inr (fun k => if k < 6 then some (dr k) else none)))))), (dr 0, .inl (G.2 0, 64, .inl (DD 0))), (dr 1, .inl (G.2 0, 64, .inl (DD 1))), (dr 2, .inl (G.2 0, 64, .inl (DD 2))), (dr 3, .inl (G.2 0, 64, .inl (DD 3))), (dr 4, .inl (G.2 0, 64, .inl (DD 4))), (dr 5, .inl (G.2 0, 64, .inl (DD 5))), (ct0, .inl (G.2 0, 6, .inl ctf)), (st0, .inl (G.2 0, 4096, .inl stf)), (fs0, .inl (G.2 0, 4096, .inl fsf)), (jn0, .inl (G.2 0, 64, .inl jnf)), (rw0, .inl (G.2 0, 64, .inl rwf)), (fd0, .inl (G.2 1, 40, .inr (.inl fdf))), (af0, .inl (G.2 3, 40, .inl aff)), (kO, .inl (G.2 4, 4, .inr (.inr (.inr (.inr (fun k => if k < 4 then some (kr k) else none)))))), (kr 0, .inl (G.2 0, 64, .inl (KP 0))), (kr 1, .inl (G.2 0, 64, .inl (KP 1))), (kr 2, .inl (G.2 0, 64, .inl (KP 2))), (kr 3, .inl (G.2 0, 64, .inl (KP 3))), (sl, .inr (2, [.int lm_1, .ref je_1, .int ln_1])), (q_1, .inl (G.2 0, 4, .inl (upd (upd (upd (upd (fun _ => (0 : Int32)) (0 : Int32).toNatClampNeg p1) (1 : Int32).toNatClampNeg p2) (2 : Int32).toNatClampNeg p3) (3 : Int32).toNatClampNeg i5))), (je_1, .inl (G.2 5, c_1, .inr (.inr (.inr (.inr c_2)))))] := hD.sub [0, 1, 2, 3, 4, 5, 6, 7, 8, 9, 10, 11, 12, 13, 14, 15, 16, 17, 18, 19, 21, 20, 22] (by decide) rfl
    refine lv_pop hx hb dX4_say_186 rfl ?_
    refine lv_aload_n hx hb dX4_say_187 rfl (lv_at hl 0 rfl) ?_
    refine va_get (D := G.1) (ci := 7) (v := .ref sl) (C := RX4) (T := TX4) (N := 15) hx hb hts igX4 hown hK hP 0 rfl rfl 4 (by decide) (hts _ q1009) (fun _ h9 => h9) rfl dX4_say_188 ?_
    have hPc := va_P.sub (ws' := [(sl, .inr (2, [.int lm_1, .ref je_1, .int ln_1]))]) hP [20] rfl
    refine va_csFi (va_runF (C := RJx4a65c) (x := xSize) (As := []) (rest := []) (hK.1 2 _ rfl).2 ⟨hx, hb, hml, hown, hts⟩ (kJx4a65c_size_8abf5 l G sl je_1 lm_1 ln_1 h) (va_cwF 0 hts (gdF q1072 q1076 q1078 q9 q1080) rfl rfl rfl hKK.2.2.2.1.1 (by decide +kernel) ⟨Nat.le_of_ble_eq_true rfl, Nat.le_of_ble_eq_true rfl⟩) (preV hPc hKK (va_recv hK hPc (ci := 2) (q0 := 0) rfl rfl)) rfl rfl hl.1 rfl (lv_room (Nat.le_of_ble_eq_true rfl)) dX4_say_191 ⟨Nat.le_of_ble_eq_true rfl, Nat.le_of_ble_eq_true rfl⟩) (fun r_5 h => ?_)
    refine lv_iconst (v := 1) hx hb dX4_say_196 (by decide) ?_
    refine lv_isub hx hb dX4_say_197 ?_
    have hP : PP G [(m0, .inr (7, [.int (0 : Int32), .int mr, .long po, .ref dO, .ref sl, .ref ct0, .int mf, .int sp, .ref st0, .ref fs0, .ref jn0, .ref rw0, .ref fd0, .ref af0, .ref kO])), (dO, .inl (G.2 4, 6, .inr (.inr (.inr (.inr (fun k => if k < 6 then some (dr k) else none)))))), (dr 0, .inl (G.2 0, 64, .inl (DD 0))), (dr 1, .inl (G.2 0, 64, .inl (DD 1))), (dr 2, .inl (G.2 0, 64, .inl (DD 2))), (dr 3, .inl (G.2 0, 64, .inl (DD 3))), (dr 4, .inl (G.2 0, 64, .inl (DD 4))), (dr 5, .inl (G.2 0, 64, .inl (DD 5))), (ct0, .inl (G.2 0, 6, .inl ctf)), (st0, .inl (G.2 0, 4096, .inl stf)), (fs0, .inl (G.2 0, 4096, .inl fsf)), (jn0, .inl (G.2 0, 64, .inl jnf)), (rw0, .inl (G.2 0, 64, .inl rwf)), (fd0, .inl (G.2 1, 40, .inr (.inl fdf))), (af0, .inl (G.2 3, 40, .inl aff)), (kO, .inl (G.2 4, 4, .inr (.inr (.inr (.inr (fun k => if k < 4 then some (kr k) else none)))))), (kr 0, .inl (G.2 0, 64, .inl (KP 0))), (kr 1, .inl (G.2 0, 64, .inl (KP 1))), (kr 2, .inl (G.2 0, 64, .inl (KP 2))), (kr 3, .inl (G.2 0, 64, .inl (KP 3))), (sl, .inr (2, [.int lm_1, .ref je_1, .int ln_1])), (je_1, .inl (G.2 5, c_1, .inr (.inr (.inr (.inr c_2))))), (q_1, .inl (G.2 0, 4, .inl (upd (upd (upd (upd (fun _ => (0 : Int32)) (0 : Int32).toNatClampNeg p1) (1 : Int32).toNatClampNeg p2) (2 : Int32).toNatClampNeg p3) (3 : Int32).toNatClampNeg i5)))] _ := hP.sub [0, 1, 2, 3, 4, 5, 6, 7, 8, 9, 10, 11, 12, 13, 14, 15, 16, 17, 18, 19, 20, 22, 21] rfl
    have hD : va_D A [(m0, .inr (7, [.int (0 : Int32), .int mr, .long po, .ref dO, .ref sl, .ref ct0, .int mf, .int sp, .ref st0, .ref fs0, .ref jn0, .ref rw0, .ref fd0, .ref af0, .ref kO])), (dO, .inl (G.2 4, 6, .inr (.inr (.inr (.inr (fun k => if k < 6 then some (dr k) else none)))))), (dr 0, .inl (G.2 0, 64, .inl (DD 0))), (dr 1, .inl (G.2 0, 64, .inl (DD 1))), (dr 2, .inl (G.2 0, 64, .inl (DD 2))), (dr 3, .inl (G.2 0, 64, .inl (DD 3))), (dr 4, .inl (G.2 0, 64, .inl (DD 4))), (dr 5, .inl (G.2 0, 64, .inl (DD 5))), (ct0, .inl (G.2 0, 6, .inl ctf)), (st0, .inl (G.2 0, 4096, .inl stf)), (fs0, .inl (G.2 0, 4096, .inl fsf)), (jn0, .inl (G.2 0, 64, .inl jnf)), (rw0, .inl (G.2 0, 64, .inl rwf)), (fd0, .inl (G.2 1, 40, .inr (.inl fdf))), (af0, .inl (G.2 3, 40, .inl aff)), (kO, .inl (G.2 4, 4, .inr (.inr (.inr (.inr (fun k => if k < 4 then some (kr k) else none)))))), (kr 0, .inl (G.2 0, 64, .inl (KP 0))), (kr 1, .inl (G.2 0, 64, .inl (KP 1))), (kr 2, .inl (G.2 0, 64, .inl (KP 2))), (kr 3, .inl (G.2 0, 64, .inl (KP 3))), (sl, .inr (2, [.int lm_1, .ref je_1, .int ln_1])), (je_1, .inl (G.2 5, c_1, .inr (.inr (.inr (.inr c_2))))), (q_1, .inl (G.2 0, 4, .inl (upd (upd (upd (upd (fun _ => (0 : Int32)) (0 : Int32).toNatClampNeg p1) (1 : Int32).toNatClampNeg p2) (2 : Int32).toNatClampNeg p3) (3 : Int32).toNatClampNeg i5)))] := hD.sub [0, 1, 2, 3, 4, 5, 6, 7, 8, 9, 10, 11, 12, 13, 14, 15, 16, 17, 18, 19, 20, 22, 21] (by decide) rfl
    subst hQC; exact W.iret (v := (r_5 - (1 : Int32))) hx hb hr (fun t ht hW => ⟨⟨_, ((0 : Int32), lm_1, ln_1, c_1, c_2, q_1, (upd (upd (upd (upd (fun _ => (0 : Int32)) (0 : Int32).toNatClampNeg p1) (1 : Int32).toNatClampNeg p2) (2 : Int32).toNatClampNeg p3) (3 : Int32).toNatClampNeg i5)), rfl, h, je_1, by rw [ht]; exact hP, hD⟩, hS.F ht⟩) hS.2.2 dX4_say_198
  have cut65 : ∀ (i4 : Int32) (ls : Array Slot) (H : Heap) (locs : List Loc), lv_has ls 6 [(0, .ref m0), (1, .int p1), (2, .int p2), (3, .int p3), (4, .int i4)] → PP G [(m0, .inr (7, [.int (0 : Int32), .int mr, .long po, .ref dO, .ref sl, .ref ct0, .int mf, .int sp, .ref st0, .ref fs0, .ref jn0, .ref rw0, .ref fd0, .ref af0, .ref kO])), (dO, .inl (G.2 4, 6, .inr (.inr (.inr (.inr (fun k => if k < 6 then some (dr k) else none)))))), (dr 0, .inl (G.2 0, 64, .inl (DD 0))), (dr 1, .inl (G.2 0, 64, .inl (DD 1))), (dr 2, .inl (G.2 0, 64, .inl (DD 2))), (dr 3, .inl (G.2 0, 64, .inl (DD 3))), (dr 4, .inl (G.2 0, 64, .inl (DD 4))), (dr 5, .inl (G.2 0, 64, .inl (DD 5))), (ct0, .inl (G.2 0, 6, .inl ctf)), (st0, .inl (G.2 0, 4096, .inl stf)), (fs0, .inl (G.2 0, 4096, .inl fsf)), (jn0, .inl (G.2 0, 64, .inl jnf)), (rw0, .inl (G.2 0, 64, .inl rwf)), (fd0, .inl (G.2 1, 40, .inr (.inl fdf))), (af0, .inl (G.2 3, 40, .inl aff)), (kO, .inl (G.2 4, 4, .inr (.inr (.inr (.inr (fun k => if k < 4 then some (kr k) else none)))))), (kr 0, .inl (G.2 0, 64, .inl (KP 0))), (kr 1, .inl (G.2 0, 64, .inl (KP 1))), (kr 2, .inl (G.2 0, 64, .inl (KP 2))), (kr 3, .inl (G.2 0, 64, .inl (KP 3))), (sl, .inr (2, [.int lm, .ref je, .int ln]))] H → va_D A [(m0, .inr (7, [.int (0 : Int32), .int mr, .long po, .ref dO, .ref sl, .ref ct0, .int mf, .int sp, .ref st0, .ref fs0, .ref jn0, .ref rw0, .ref fd0, .ref af0, .ref kO])), (dO, .inl (G.2 4, 6, .inr (.inr (.inr (.inr (fun k => if k < 6 then some (dr k) else none)))))), (dr 0, .inl (G.2 0, 64, .inl (DD 0))), (dr 1, .inl (G.2 0, 64, .inl (DD 1))), (dr 2, .inl (G.2 0, 64, .inl (DD 2))), (dr 3, .inl (G.2 0, 64, .inl (DD 3))), (dr 4, .inl (G.2 0, 64, .inl (DD 4))), (dr 5, .inl (G.2 0, 64, .inl (DD 5))), (ct0, .inl (G.2 0, 6, .inl ctf)), (st0, .inl (G.2 0, 4096, .inl stf)), (fs0, .inl (G.2 0, 4096, .inl fsf)), (jn0, .inl (G.2 0, 64, .inl jnf)), (rw0, .inl (G.2 0, 64, .inl rwf)), (fd0, .inl (G.2 1, 40, .inr (.inl fdf))), (af0, .inl (G.2 3, 40, .inl aff)), (kO, .inl (G.2 4, 4, .inr (.inr (.inr (.inr (fun k => if k < 4 then some (kr k) else none)))))), (kr 0, .inl (G.2 0, 64, .inl (KP 0))), (kr 1, .inl (G.2 0, 64, .inl (KP 1))), (kr 2, .inl (G.2 0, 64, .inl (KP 2))), (kr 3, .inl (G.2 0, 64, .inl (KP 3))), (sl, .inr (2, [.int lm, .ref je, .int ln]))] → va_S A s.heap H locs → wnX4_sayE_C65 post sn sq lm ln p1 p2 p3 i4 → W p l e (headSpec (wl_nX4_sayE) rm_nX4_sayE).room s m ([.ref m0, .int p1, .int p2, .int p3] : List Value).toArray below meth c H locs 0 0 (MQ below QC ([.ref m0, .int p1, .int p2, .int p3] : List Value).toArray s 2 64 A) (F0 m 65 ls []) := by
    intro i4 ls H locs hl hP hD hS h
    refine lv_iload hx hb dX4_say_65 (lv_at hl 4 rfl) ?_
    refine lv_if_eq (tgt := 83) hx hb dX4_say_67 (by decide) (fun hc => ?_) (fun hc => ?_)
    · have h := h.1 hc
      exact False.elim h
    · have h := h.2 hc
      refine lv_iload_n hx hb dX4_say_70 rfl (lv_at hl 1 rfl) ?_
      refine lv_iconst (v := 1) hx hb dX4_say_71 (by decide) ?_
      refine lv_icmp_le (tgt := 89) hx hb dX4_say_72 (by decide) (fun hc => ?_) (fun hc => ?_)
      · have h := h.1 hc
        refine lv_aload_n hx hb dX4_say_89 rfl (lv_at hl 0 rfl) ?_
        refine va_get (D := G.1) (ci := 7) (v := .ref sl) (C := RX4) (T := TX4) (N := 15) hx hb hts igX4 hown hK hP 0 rfl rfl 4 (by decide) (hts _ q1009) (fun _ h9 => h9) rfl dX4_say_90 ?_
        have hPc := va_P.sub (ws' := [(sl, .inr (2, [.int lm, .ref je, .int ln]))]) hP [20] rfl
        refine va_csFi (va_runF (C := RJx4a65c) (x := xSize) (As := []) (rest := []) (hK.1 2 _ rfl).2 ⟨hx, hb, hml, hown, hts⟩ (kJx4a65c_size_8abf5 l G sl je lm ln h) (va_cwF 0 hts (gdF q1072 q1076 q1078 q9 q1080) rfl rfl rfl hKK.2.2.2.1.1 (by decide +kernel) ⟨Nat.le_of_ble_eq_true rfl, Nat.le_of_ble_eq_true rfl⟩) (preV hPc hKK (va_recv hK hPc (ci := 2) (q0 := 0) rfl rfl)) rfl rfl hl.1 rfl (lv_room (Nat.le_of_ble_eq_true rfl)) dX4_say_93 ⟨Nat.zero_le _, Nat.zero_le _⟩) (fun r_3 h => ?_)
        refine lv_bipush (v := 40) hx hb dX4_say_98 (by decide) ?_
        refine lv_icmp_ne (tgt := 109) hx hb dX4_say_100 (by decide) (fun hc => ?_) (fun hc => ?_)
        · have h := h.1 hc
          refine lv_iload_n hx hb dX4_say_109 rfl (lv_at hl 1 rfl) ?_
          refine lv_if_ne (tgt := 117) hx hb dX4_say_110 (by decide) (fun hc => ?_) (fun hc => ?_)
          · have h := h.1 hc
            refine lv_iconst (v := 1) hx hb dX4_say_117 (by decide) ?_
            refine lv_istore hx hb dX4_say_118 hl (Nat.le_of_ble_eq_true rfl) rfl (fun ls hl => ?_)
            have hl : lv_has ls 6 [(5, .int (1 : Int32)), (0, .ref m0), (1, .int p1), (2, .int p2), (3, .int p3), (4, .int i4)] := hl
            refine lv_iload_n hx hb dX4_say_120 rfl (lv_at hl 2 rfl) ?_
            refine lv_if_le (tgt := 138) hx hb dX4_say_121 (by decide) (fun hc => ?_) (fun hc => ?_)
            · have h := h.1 hc
              refine lv_iload_n hx hb dX4_say_138 rfl (lv_at hl 2 rfl) ?_
              refine lv_iconst (v := 1) hx hb dX4_say_139 (by decide) ?_
              refine lv_icmp_le (tgt := 157) hx hb dX4_say_140 (by decide) (fun hc => ?_) (fun hc => ?_)
              · have h := h.1 hc
                have hl := lv_sub (l' := [(0, .ref m0), (1, .int p1), (2, .int p2), (3, .int p3), (4, .int i4), (5, .int (1 : Int32))]) hl [1, 2, 3, 4, 5, 0] rfl
                exact cut157 i4 (1 : Int32) _ _ _ hl hP hD hS h
              · have h := h.2 hc
                refine lv_iload hx hb dX4_say_143 (lv_at hl 0 rfl) ?_
                refine lv_iconst (v := 1) hx hb dX4_say_145 (by decide) ?_
                refine lv_aload_n hx hb dX4_say_146 rfl (lv_at hl 1 rfl) ?_
                refine lv_iload_n hx hb dX4_say_147 rfl (lv_at hl 4 rfl) ?_
                have hPc := va_P.sub (ws' := [(m0, .inr (7, [.int (0 : Int32), .int mr, .long po, .ref dO, .ref sl, .ref ct0, .int mf, .int sp, .ref st0, .ref fs0, .ref jn0, .ref rw0, .ref fd0, .ref af0, .ref kO])), (dO, .inl (G.2 4, 6, .inr (.inr (.inr (.inr (fun k => if k < 6 then some (dr k) else none)))))), (dr 0, .inl (G.2 0, 64, .inl (DD 0))), (dr 1, .inl (G.2 0, 64, .inl (DD 1))), (dr 2, .inl (G.2 0, 64, .inl (DD 2))), (dr 3, .inl (G.2 0, 64, .inl (DD 3))), (dr 4, .inl (G.2 0, 64, .inl (DD 4))), (dr 5, .inl (G.2 0, 64, .inl (DD 5))), (ct0, .inl (G.2 0, 6, .inl ctf)), (st0, .inl (G.2 0, 4096, .inl stf)), (fs0, .inl (G.2 0, 4096, .inl fsf)), (jn0, .inl (G.2 0, 64, .inl jnf)), (rw0, .inl (G.2 0, 64, .inl rwf)), (fd0, .inl (G.2 1, 40, .inr (.inl fdf))), (af0, .inl (G.2 3, 40, .inl aff)), (kO, .inl (G.2 4, 4, .inr (.inr (.inr (.inr (fun k => if k < 4 then some (kr k) else none)))))), (kr 0, .inl (G.2 0, 64, .inl (KP 0))), (kr 1, .inl (G.2 0, 64, .inl (KP 1))), (kr 2, .inl (G.2 0, 64, .inl (KP 2))), (kr 3, .inl (G.2 0, 64, .inl (KP 3)))]) hP [0, 1, 2, 3, 4, 5, 6, 7, 8, 9, 10, 11, 12, 13, 14, 15, 16, 17, 18, 19] rfl
                have hSSc : SS G sl sn sa sq (fun _ => False) s _ := ssE hP 20 rfl ((hF_ze.kept hS.2.1).narrow (fun _ (h : False) => False.elim h)) hln hs0
                refine rdI (va_runV (C := RX4) (As := [.int p3]) (rest := [.int (1 : Int32), .int (1 : Int32)]) ⟨hx, hb, hml, hown, hts⟩ (kX4_built l G m0 dO sl ct0 st0 fs0 jn0 rw0 fd0 af0 kO dr kr sa (0 : Int32) mr po mf sp DD ctf stf fsf jnf rwf fdf aff KP sn sq p3 h) (cwV 1 hts (gdV q1158 q1160 qs21 q6 q1161) rfl rfl rfl (by decide +kernel) ⟨Nat.le_of_ble_eq_true rfl, Nat.le_of_ble_eq_true rfl⟩) (preVs hPc hKK hSSc (va_recv hK hPc (ci := 7) (q0 := 0) rfl rfl)) rfl rfl hl.1 rfl (lv_room (Nat.le_of_ble_eq_true rfl)) dX4_say_148 ⟨Nat.zero_le _, Nat.zero_le _⟩) (fun r_6 h => ?_)
                refine lv_iadd hx hb dX4_say_151 ?_
                refine va_mmax hx hb (by rw [hml]; exact hl.1.symm) hown (hts _ q1162) (hts _ q562) (hts _ q18) (hts _ q563) (Nat.le_of_ble_eq_true rfl) (Nat.le_of_ble_eq_true rfl) (Nat.zero_le _) (Nat.zero_le _) dX4_say_152 ?_
                refine lv_topi (fun x_1 ex_1 => ?_)
                have h := h x_1 ex_1
                refine lv_istore hx hb dX4_say_155 hl (Nat.le_of_ble_eq_true rfl) rfl (fun ls hl => ?_)
                have hl : lv_has ls 6 [(5, .int x_1), (0, .ref m0), (1, .int p1), (2, .int p2), (3, .int p3), (4, .int i4)] := hl
                have hl := lv_sub (l' := [(0, .ref m0), (1, .int p1), (2, .int p2), (3, .int p3), (4, .int i4), (5, .int x_1)]) hl [1, 2, 3, 4, 5, 0] rfl
                exact cut157 i4 x_1 _ _ _ hl hP hD hS h
            · have h := h.2 hc
              refine lv_iload_n hx hb dX4_say_124 rfl (lv_at hl 2 rfl) ?_
              refine lv_iconst (v := 4) hx hb dX4_say_125 (by decide) ?_
              refine lv_icmp_ge (tgt := 138) hx hb dX4_say_126 (by decide) (fun hc => ?_) (fun hc => ?_)
              · have h := h.1 hc
                refine lv_iload_n hx hb dX4_say_138 rfl (lv_at hl 2 rfl) ?_
                refine lv_iconst (v := 1) hx hb dX4_say_139 (by decide) ?_
                refine lv_icmp_le (tgt := 157) hx hb dX4_say_140 (by decide) (fun hc => ?_) (fun hc => ?_)
                · have h := h.1 hc
                  have hl := lv_sub (l' := [(0, .ref m0), (1, .int p1), (2, .int p2), (3, .int p3), (4, .int i4), (5, .int (1 : Int32))]) hl [1, 2, 3, 4, 5, 0] rfl
                  exact cut157 i4 (1 : Int32) _ _ _ hl hP hD hS h
                · have h := h.2 hc
                  refine lv_iload hx hb dX4_say_143 (lv_at hl 0 rfl) ?_
                  refine lv_iconst (v := 1) hx hb dX4_say_145 (by decide) ?_
                  refine lv_aload_n hx hb dX4_say_146 rfl (lv_at hl 1 rfl) ?_
                  refine lv_iload_n hx hb dX4_say_147 rfl (lv_at hl 4 rfl) ?_
                  have hPc := va_P.sub (ws' := [(m0, .inr (7, [.int (0 : Int32), .int mr, .long po, .ref dO, .ref sl, .ref ct0, .int mf, .int sp, .ref st0, .ref fs0, .ref jn0, .ref rw0, .ref fd0, .ref af0, .ref kO])), (dO, .inl (G.2 4, 6, .inr (.inr (.inr (.inr (fun k => if k < 6 then some (dr k) else none)))))), (dr 0, .inl (G.2 0, 64, .inl (DD 0))), (dr 1, .inl (G.2 0, 64, .inl (DD 1))), (dr 2, .inl (G.2 0, 64, .inl (DD 2))), (dr 3, .inl (G.2 0, 64, .inl (DD 3))), (dr 4, .inl (G.2 0, 64, .inl (DD 4))), (dr 5, .inl (G.2 0, 64, .inl (DD 5))), (ct0, .inl (G.2 0, 6, .inl ctf)), (st0, .inl (G.2 0, 4096, .inl stf)), (fs0, .inl (G.2 0, 4096, .inl fsf)), (jn0, .inl (G.2 0, 64, .inl jnf)), (rw0, .inl (G.2 0, 64, .inl rwf)), (fd0, .inl (G.2 1, 40, .inr (.inl fdf))), (af0, .inl (G.2 3, 40, .inl aff)), (kO, .inl (G.2 4, 4, .inr (.inr (.inr (.inr (fun k => if k < 4 then some (kr k) else none)))))), (kr 0, .inl (G.2 0, 64, .inl (KP 0))), (kr 1, .inl (G.2 0, 64, .inl (KP 1))), (kr 2, .inl (G.2 0, 64, .inl (KP 2))), (kr 3, .inl (G.2 0, 64, .inl (KP 3)))]) hP [0, 1, 2, 3, 4, 5, 6, 7, 8, 9, 10, 11, 12, 13, 14, 15, 16, 17, 18, 19] rfl
                  have hSSc : SS G sl sn sa sq (fun _ => False) s _ := ssE hP 20 rfl ((hF_ze.kept hS.2.1).narrow (fun _ (h : False) => False.elim h)) hln hs0
                  refine rdI (va_runV (C := RX4) (As := [.int p3]) (rest := [.int (1 : Int32), .int (1 : Int32)]) ⟨hx, hb, hml, hown, hts⟩ (kX4_built l G m0 dO sl ct0 st0 fs0 jn0 rw0 fd0 af0 kO dr kr sa (0 : Int32) mr po mf sp DD ctf stf fsf jnf rwf fdf aff KP sn sq p3 h) (cwV 1 hts (gdV q1158 q1160 qs21 q6 q1161) rfl rfl rfl (by decide +kernel) ⟨Nat.le_of_ble_eq_true rfl, Nat.le_of_ble_eq_true rfl⟩) (preVs hPc hKK hSSc (va_recv hK hPc (ci := 7) (q0 := 0) rfl rfl)) rfl rfl hl.1 rfl (lv_room (Nat.le_of_ble_eq_true rfl)) dX4_say_148 ⟨Nat.zero_le _, Nat.zero_le _⟩) (fun r_7 h => ?_)
                  refine lv_iadd hx hb dX4_say_151 ?_
                  refine va_mmax hx hb (by rw [hml]; exact hl.1.symm) hown (hts _ q1162) (hts _ q562) (hts _ q18) (hts _ q563) (Nat.le_of_ble_eq_true rfl) (Nat.le_of_ble_eq_true rfl) (Nat.zero_le _) (Nat.zero_le _) dX4_say_152 ?_
                  refine lv_topi (fun x_2 ex_2 => ?_)
                  have h := h x_2 ex_2
                  refine lv_istore hx hb dX4_say_155 hl (Nat.le_of_ble_eq_true rfl) rfl (fun ls hl => ?_)
                  have hl : lv_has ls 6 [(5, .int x_2), (0, .ref m0), (1, .int p1), (2, .int p2), (3, .int p3), (4, .int i4)] := hl
                  have hl := lv_sub (l' := [(0, .ref m0), (1, .int p1), (2, .int p2), (3, .int p3), (4, .int i4), (5, .int x_2)]) hl [1, 2, 3, 4, 5, 0] rfl
                  exact cut157 i4 x_2 _ _ _ hl hP hD hS h
              · have h := h.2 hc
                refine lv_iconst (v := 1) hx hb dX4_say_129 (by decide) ?_
                refine lv_aload_n hx hb dX4_say_130 rfl (lv_at hl 1 rfl) ?_
                refine lv_iload_n hx hb dX4_say_131 rfl (lv_at hl 3 rfl) ?_
                have hPc := va_P.sub (ws' := [(m0, .inr (7, [.int (0 : Int32), .int mr, .long po, .ref dO, .ref sl, .ref ct0, .int mf, .int sp, .ref st0, .ref fs0, .ref jn0, .ref rw0, .ref fd0, .ref af0, .ref kO])), (dO, .inl (G.2 4, 6, .inr (.inr (.inr (.inr (fun k => if k < 6 then some (dr k) else none)))))), (dr 0, .inl (G.2 0, 64, .inl (DD 0))), (dr 1, .inl (G.2 0, 64, .inl (DD 1))), (dr 2, .inl (G.2 0, 64, .inl (DD 2))), (dr 3, .inl (G.2 0, 64, .inl (DD 3))), (dr 4, .inl (G.2 0, 64, .inl (DD 4))), (dr 5, .inl (G.2 0, 64, .inl (DD 5))), (ct0, .inl (G.2 0, 6, .inl ctf)), (st0, .inl (G.2 0, 4096, .inl stf)), (fs0, .inl (G.2 0, 4096, .inl fsf)), (jn0, .inl (G.2 0, 64, .inl jnf)), (rw0, .inl (G.2 0, 64, .inl rwf)), (fd0, .inl (G.2 1, 40, .inr (.inl fdf))), (af0, .inl (G.2 3, 40, .inl aff)), (kO, .inl (G.2 4, 4, .inr (.inr (.inr (.inr (fun k => if k < 4 then some (kr k) else none)))))), (kr 0, .inl (G.2 0, 64, .inl (KP 0))), (kr 1, .inl (G.2 0, 64, .inl (KP 1))), (kr 2, .inl (G.2 0, 64, .inl (KP 2))), (kr 3, .inl (G.2 0, 64, .inl (KP 3)))]) hP [0, 1, 2, 3, 4, 5, 6, 7, 8, 9, 10, 11, 12, 13, 14, 15, 16, 17, 18, 19] rfl
                have hSSc : SS G sl sn sa sq (fun _ => False) s _ := ssE hP 20 rfl ((hF_ze.kept hS.2.1).narrow (fun _ (h : False) => False.elim h)) hln hs0
                refine rdI (va_runV (C := RX4) (As := [.int p2]) (rest := [.int (1 : Int32)]) ⟨hx, hb, hml, hown, hts⟩ (kX4_built l G m0 dO sl ct0 st0 fs0 jn0 rw0 fd0 af0 kO dr kr sa (0 : Int32) mr po mf sp DD ctf stf fsf jnf rwf fdf aff KP sn sq p2 h) (cwV 1 hts (gdV q1158 q1160 qs21 q6 q1161) rfl rfl rfl (by decide +kernel) ⟨Nat.le_of_ble_eq_true rfl, Nat.le_of_ble_eq_true rfl⟩) (preVs hPc hKK hSSc (va_recv hK hPc (ci := 7) (q0 := 0) rfl rfl)) rfl rfl hl.1 rfl (lv_room (Nat.le_of_ble_eq_true rfl)) dX4_say_132 ⟨Nat.zero_le _, Nat.zero_le _⟩) (fun r_8 h => ?_)
                refine lv_iadd hx hb dX4_say_135 ?_
                refine lv_istore hx hb dX4_say_136 hl (Nat.le_of_ble_eq_true rfl) rfl (fun ls hl => ?_)
                have hl : lv_has ls 6 [(5, .int ((1 : Int32) + r_8)), (0, .ref m0), (1, .int p1), (2, .int p2), (3, .int p3), (4, .int i4)] := hl
                refine lv_iload_n hx hb dX4_say_138 rfl (lv_at hl 2 rfl) ?_
                refine lv_iconst (v := 1) hx hb dX4_say_139 (by decide) ?_
                refine lv_icmp_le (tgt := 157) hx hb dX4_say_140 (by decide) (fun hc => ?_) (fun hc => ?_)
                · have h := h.1 hc
                  have hl := lv_sub (l' := [(0, .ref m0), (1, .int p1), (2, .int p2), (3, .int p3), (4, .int i4), (5, .int ((1 : Int32) + r_8))]) hl [1, 2, 3, 4, 5, 0] rfl
                  exact cut157 i4 ((1 : Int32) + r_8) _ _ _ hl hP hD hS h
                · have h := h.2 hc
                  refine lv_iload hx hb dX4_say_143 (lv_at hl 0 rfl) ?_
                  refine lv_iconst (v := 1) hx hb dX4_say_145 (by decide) ?_
                  refine lv_aload_n hx hb dX4_say_146 rfl (lv_at hl 1 rfl) ?_
                  refine lv_iload_n hx hb dX4_say_147 rfl (lv_at hl 4 rfl) ?_
                  have hPc := va_P.sub (ws' := [(m0, .inr (7, [.int (0 : Int32), .int mr, .long po, .ref dO, .ref sl, .ref ct0, .int mf, .int sp, .ref st0, .ref fs0, .ref jn0, .ref rw0, .ref fd0, .ref af0, .ref kO])), (dO, .inl (G.2 4, 6, .inr (.inr (.inr (.inr (fun k => if k < 6 then some (dr k) else none)))))), (dr 0, .inl (G.2 0, 64, .inl (DD 0))), (dr 1, .inl (G.2 0, 64, .inl (DD 1))), (dr 2, .inl (G.2 0, 64, .inl (DD 2))), (dr 3, .inl (G.2 0, 64, .inl (DD 3))), (dr 4, .inl (G.2 0, 64, .inl (DD 4))), (dr 5, .inl (G.2 0, 64, .inl (DD 5))), (ct0, .inl (G.2 0, 6, .inl ctf)), (st0, .inl (G.2 0, 4096, .inl stf)), (fs0, .inl (G.2 0, 4096, .inl fsf)), (jn0, .inl (G.2 0, 64, .inl jnf)), (rw0, .inl (G.2 0, 64, .inl rwf)), (fd0, .inl (G.2 1, 40, .inr (.inl fdf))), (af0, .inl (G.2 3, 40, .inl aff)), (kO, .inl (G.2 4, 4, .inr (.inr (.inr (.inr (fun k => if k < 4 then some (kr k) else none)))))), (kr 0, .inl (G.2 0, 64, .inl (KP 0))), (kr 1, .inl (G.2 0, 64, .inl (KP 1))), (kr 2, .inl (G.2 0, 64, .inl (KP 2))), (kr 3, .inl (G.2 0, 64, .inl (KP 3)))]) hP [0, 1, 2, 3, 4, 5, 6, 7, 8, 9, 10, 11, 12, 13, 14, 15, 16, 17, 18, 19] rfl
                  have hSSc : SS G sl sn sa sq (fun _ => False) s _ := ssE hP 20 rfl ((hF_ze.kept hS.2.1).narrow (fun _ (h : False) => False.elim h)) hln hs0
                  refine rdI (va_runV (C := RX4) (As := [.int p3]) (rest := [.int (1 : Int32), .int ((1 : Int32) + r_8)]) ⟨hx, hb, hml, hown, hts⟩ (kX4_built l G m0 dO sl ct0 st0 fs0 jn0 rw0 fd0 af0 kO dr kr sa (0 : Int32) mr po mf sp DD ctf stf fsf jnf rwf fdf aff KP sn sq p3 h) (cwV 1 hts (gdV q1158 q1160 qs21 q6 q1161) rfl rfl rfl (by decide +kernel) ⟨Nat.le_of_ble_eq_true rfl, Nat.le_of_ble_eq_true rfl⟩) (preVs hPc hKK hSSc (va_recv hK hPc (ci := 7) (q0 := 0) rfl rfl)) rfl rfl hl.1 rfl (lv_room (Nat.le_of_ble_eq_true rfl)) dX4_say_148 ⟨Nat.zero_le _, Nat.zero_le _⟩) (fun r_9 h => ?_)
                  refine lv_iadd hx hb dX4_say_151 ?_
                  refine va_mmax hx hb (by rw [hml]; exact hl.1.symm) hown (hts _ q1162) (hts _ q562) (hts _ q18) (hts _ q563) (Nat.le_of_ble_eq_true rfl) (Nat.le_of_ble_eq_true rfl) (Nat.zero_le _) (Nat.zero_le _) dX4_say_152 ?_
                  refine lv_topi (fun x_3 ex_3 => ?_)
                  have h := h x_3 ex_3
                  refine lv_istore hx hb dX4_say_155 hl (Nat.le_of_ble_eq_true rfl) rfl (fun ls hl => ?_)
                  have hl : lv_has ls 6 [(5, .int x_3), (0, .ref m0), (1, .int p1), (2, .int p2), (3, .int p3), (4, .int i4)] := hl
                  have hl := lv_sub (l' := [(0, .ref m0), (1, .int p1), (2, .int p2), (3, .int p3), (4, .int i4), (5, .int x_3)]) hl [1, 2, 3, 4, 5, 0] rfl
                  exact cut157 i4 x_3 _ _ _ hl hP hD hS h
          · have h := h.2 hc
            refine lv_iconst (v := 0) hx hb dX4_say_113 (by decide) ?_
            refine lv_goto (tgt := 118) hx hb dX4_say_114 (by decide) ?_
            refine lv_istore hx hb dX4_say_118 hl (Nat.le_of_ble_eq_true rfl) rfl (fun ls hl => ?_)
            have hl : lv_has ls 6 [(5, .int (0 : Int32)), (0, .ref m0), (1, .int p1), (2, .int p2), (3, .int p3), (4, .int i4)] := hl
            refine lv_iload_n hx hb dX4_say_120 rfl (lv_at hl 2 rfl) ?_
            refine lv_if_le (tgt := 138) hx hb dX4_say_121 (by decide) (fun hc => ?_) (fun hc => ?_)
            · have h := h.1 hc
              refine lv_iload_n hx hb dX4_say_138 rfl (lv_at hl 2 rfl) ?_
              refine lv_iconst (v := 1) hx hb dX4_say_139 (by decide) ?_
              refine lv_icmp_le (tgt := 157) hx hb dX4_say_140 (by decide) (fun hc => ?_) (fun hc => ?_)
              · have h := h.1 hc
                have hl := lv_sub (l' := [(0, .ref m0), (1, .int p1), (2, .int p2), (3, .int p3), (4, .int i4), (5, .int (0 : Int32))]) hl [1, 2, 3, 4, 5, 0] rfl
                exact cut157 i4 (0 : Int32) _ _ _ hl hP hD hS h
              · have h := h.2 hc
                refine lv_iload hx hb dX4_say_143 (lv_at hl 0 rfl) ?_
                refine lv_iconst (v := 1) hx hb dX4_say_145 (by decide) ?_
                refine lv_aload_n hx hb dX4_say_146 rfl (lv_at hl 1 rfl) ?_
                refine lv_iload_n hx hb dX4_say_147 rfl (lv_at hl 4 rfl) ?_
                have hPc := va_P.sub (ws' := [(m0, .inr (7, [.int (0 : Int32), .int mr, .long po, .ref dO, .ref sl, .ref ct0, .int mf, .int sp, .ref st0, .ref fs0, .ref jn0, .ref rw0, .ref fd0, .ref af0, .ref kO])), (dO, .inl (G.2 4, 6, .inr (.inr (.inr (.inr (fun k => if k < 6 then some (dr k) else none)))))), (dr 0, .inl (G.2 0, 64, .inl (DD 0))), (dr 1, .inl (G.2 0, 64, .inl (DD 1))), (dr 2, .inl (G.2 0, 64, .inl (DD 2))), (dr 3, .inl (G.2 0, 64, .inl (DD 3))), (dr 4, .inl (G.2 0, 64, .inl (DD 4))), (dr 5, .inl (G.2 0, 64, .inl (DD 5))), (ct0, .inl (G.2 0, 6, .inl ctf)), (st0, .inl (G.2 0, 4096, .inl stf)), (fs0, .inl (G.2 0, 4096, .inl fsf)), (jn0, .inl (G.2 0, 64, .inl jnf)), (rw0, .inl (G.2 0, 64, .inl rwf)), (fd0, .inl (G.2 1, 40, .inr (.inl fdf))), (af0, .inl (G.2 3, 40, .inl aff)), (kO, .inl (G.2 4, 4, .inr (.inr (.inr (.inr (fun k => if k < 4 then some (kr k) else none)))))), (kr 0, .inl (G.2 0, 64, .inl (KP 0))), (kr 1, .inl (G.2 0, 64, .inl (KP 1))), (kr 2, .inl (G.2 0, 64, .inl (KP 2))), (kr 3, .inl (G.2 0, 64, .inl (KP 3)))]) hP [0, 1, 2, 3, 4, 5, 6, 7, 8, 9, 10, 11, 12, 13, 14, 15, 16, 17, 18, 19] rfl
                have hSSc : SS G sl sn sa sq (fun _ => False) s _ := ssE hP 20 rfl ((hF_ze.kept hS.2.1).narrow (fun _ (h : False) => False.elim h)) hln hs0
                refine rdI (va_runV (C := RX4) (As := [.int p3]) (rest := [.int (1 : Int32), .int (0 : Int32)]) ⟨hx, hb, hml, hown, hts⟩ (kX4_built l G m0 dO sl ct0 st0 fs0 jn0 rw0 fd0 af0 kO dr kr sa (0 : Int32) mr po mf sp DD ctf stf fsf jnf rwf fdf aff KP sn sq p3 h) (cwV 1 hts (gdV q1158 q1160 qs21 q6 q1161) rfl rfl rfl (by decide +kernel) ⟨Nat.le_of_ble_eq_true rfl, Nat.le_of_ble_eq_true rfl⟩) (preVs hPc hKK hSSc (va_recv hK hPc (ci := 7) (q0 := 0) rfl rfl)) rfl rfl hl.1 rfl (lv_room (Nat.le_of_ble_eq_true rfl)) dX4_say_148 ⟨Nat.zero_le _, Nat.zero_le _⟩) (fun r_10 h => ?_)
                refine lv_iadd hx hb dX4_say_151 ?_
                refine va_mmax hx hb (by rw [hml]; exact hl.1.symm) hown (hts _ q1162) (hts _ q562) (hts _ q18) (hts _ q563) (Nat.le_of_ble_eq_true rfl) (Nat.le_of_ble_eq_true rfl) (Nat.zero_le _) (Nat.zero_le _) dX4_say_152 ?_
                refine lv_topi (fun x_4 ex_4 => ?_)
                have h := h x_4 ex_4
                refine lv_istore hx hb dX4_say_155 hl (Nat.le_of_ble_eq_true rfl) rfl (fun ls hl => ?_)
                have hl : lv_has ls 6 [(5, .int x_4), (0, .ref m0), (1, .int p1), (2, .int p2), (3, .int p3), (4, .int i4)] := hl
                have hl := lv_sub (l' := [(0, .ref m0), (1, .int p1), (2, .int p2), (3, .int p3), (4, .int i4), (5, .int x_4)]) hl [1, 2, 3, 4, 5, 0] rfl
                exact cut157 i4 x_4 _ _ _ hl hP hD hS h
            · have h := h.2 hc
              refine lv_iload_n hx hb dX4_say_124 rfl (lv_at hl 2 rfl) ?_
              refine lv_iconst (v := 4) hx hb dX4_say_125 (by decide) ?_
              refine lv_icmp_ge (tgt := 138) hx hb dX4_say_126 (by decide) (fun hc => ?_) (fun hc => ?_)
              · have h := h.1 hc
                refine lv_iload_n hx hb dX4_say_138 rfl (lv_at hl 2 rfl) ?_
                refine lv_iconst (v := 1) hx hb dX4_say_139 (by decide) ?_
                refine lv_icmp_le (tgt := 157) hx hb dX4_say_140 (by decide) (fun hc => ?_) (fun hc => ?_)
                · have h := h.1 hc
                  have hl := lv_sub (l' := [(0, .ref m0), (1, .int p1), (2, .int p2), (3, .int p3), (4, .int i4), (5, .int (0 : Int32))]) hl [1, 2, 3, 4, 5, 0] rfl
                  exact cut157 i4 (0 : Int32) _ _ _ hl hP hD hS h
                · have h := h.2 hc
                  refine lv_iload hx hb dX4_say_143 (lv_at hl 0 rfl) ?_
                  refine lv_iconst (v := 1) hx hb dX4_say_145 (by decide) ?_
                  refine lv_aload_n hx hb dX4_say_146 rfl (lv_at hl 1 rfl) ?_
                  refine lv_iload_n hx hb dX4_say_147 rfl (lv_at hl 4 rfl) ?_
                  have hPc := va_P.sub (ws' := [(m0, .inr (7, [.int (0 : Int32), .int mr, .long po, .ref dO, .ref sl, .ref ct0, .int mf, .int sp, .ref st0, .ref fs0, .ref jn0, .ref rw0, .ref fd0, .ref af0, .ref kO])), (dO, .inl (G.2 4, 6, .inr (.inr (.inr (.inr (fun k => if k < 6 then some (dr k) else none)))))), (dr 0, .inl (G.2 0, 64, .inl (DD 0))), (dr 1, .inl (G.2 0, 64, .inl (DD 1))), (dr 2, .inl (G.2 0, 64, .inl (DD 2))), (dr 3, .inl (G.2 0, 64, .inl (DD 3))), (dr 4, .inl (G.2 0, 64, .inl (DD 4))), (dr 5, .inl (G.2 0, 64, .inl (DD 5))), (ct0, .inl (G.2 0, 6, .inl ctf)), (st0, .inl (G.2 0, 4096, .inl stf)), (fs0, .inl (G.2 0, 4096, .inl fsf)), (jn0, .inl (G.2 0, 64, .inl jnf)), (rw0, .inl (G.2 0, 64, .inl rwf)), (fd0, .inl (G.2 1, 40, .inr (.inl fdf))), (af0, .inl (G.2 3, 40, .inl aff)), (kO, .inl (G.2 4, 4, .inr (.inr (.inr (.inr (fun k => if k < 4 then some (kr k) else none)))))), (kr 0, .inl (G.2 0, 64, .inl (KP 0))), (kr 1, .inl (G.2 0, 64, .inl (KP 1))), (kr 2, .inl (G.2 0, 64, .inl (KP 2))), (kr 3, .inl (G.2 0, 64, .inl (KP 3)))]) hP [0, 1, 2, 3, 4, 5, 6, 7, 8, 9, 10, 11, 12, 13, 14, 15, 16, 17, 18, 19] rfl
                  have hSSc : SS G sl sn sa sq (fun _ => False) s _ := ssE hP 20 rfl ((hF_ze.kept hS.2.1).narrow (fun _ (h : False) => False.elim h)) hln hs0
                  refine rdI (va_runV (C := RX4) (As := [.int p3]) (rest := [.int (1 : Int32), .int (0 : Int32)]) ⟨hx, hb, hml, hown, hts⟩ (kX4_built l G m0 dO sl ct0 st0 fs0 jn0 rw0 fd0 af0 kO dr kr sa (0 : Int32) mr po mf sp DD ctf stf fsf jnf rwf fdf aff KP sn sq p3 h) (cwV 1 hts (gdV q1158 q1160 qs21 q6 q1161) rfl rfl rfl (by decide +kernel) ⟨Nat.le_of_ble_eq_true rfl, Nat.le_of_ble_eq_true rfl⟩) (preVs hPc hKK hSSc (va_recv hK hPc (ci := 7) (q0 := 0) rfl rfl)) rfl rfl hl.1 rfl (lv_room (Nat.le_of_ble_eq_true rfl)) dX4_say_148 ⟨Nat.zero_le _, Nat.zero_le _⟩) (fun r_11 h => ?_)
                  refine lv_iadd hx hb dX4_say_151 ?_
                  refine va_mmax hx hb (by rw [hml]; exact hl.1.symm) hown (hts _ q1162) (hts _ q562) (hts _ q18) (hts _ q563) (Nat.le_of_ble_eq_true rfl) (Nat.le_of_ble_eq_true rfl) (Nat.zero_le _) (Nat.zero_le _) dX4_say_152 ?_
                  refine lv_topi (fun x_5 ex_5 => ?_)
                  have h := h x_5 ex_5
                  refine lv_istore hx hb dX4_say_155 hl (Nat.le_of_ble_eq_true rfl) rfl (fun ls hl => ?_)
                  have hl : lv_has ls 6 [(5, .int x_5), (0, .ref m0), (1, .int p1), (2, .int p2), (3, .int p3), (4, .int i4)] := hl
                  have hl := lv_sub (l' := [(0, .ref m0), (1, .int p1), (2, .int p2), (3, .int p3), (4, .int i4), (5, .int x_5)]) hl [1, 2, 3, 4, 5, 0] rfl
                  exact cut157 i4 x_5 _ _ _ hl hP hD hS h
              · have h := h.2 hc
                refine lv_iconst (v := 1) hx hb dX4_say_129 (by decide) ?_
                refine lv_aload_n hx hb dX4_say_130 rfl (lv_at hl 1 rfl) ?_
                refine lv_iload_n hx hb dX4_say_131 rfl (lv_at hl 3 rfl) ?_
                have hPc := va_P.sub (ws' := [(m0, .inr (7, [.int (0 : Int32), .int mr, .long po, .ref dO, .ref sl, .ref ct0, .int mf, .int sp, .ref st0, .ref fs0, .ref jn0, .ref rw0, .ref fd0, .ref af0, .ref kO])), (dO, .inl (G.2 4, 6, .inr (.inr (.inr (.inr (fun k => if k < 6 then some (dr k) else none)))))), (dr 0, .inl (G.2 0, 64, .inl (DD 0))), (dr 1, .inl (G.2 0, 64, .inl (DD 1))), (dr 2, .inl (G.2 0, 64, .inl (DD 2))), (dr 3, .inl (G.2 0, 64, .inl (DD 3))), (dr 4, .inl (G.2 0, 64, .inl (DD 4))), (dr 5, .inl (G.2 0, 64, .inl (DD 5))), (ct0, .inl (G.2 0, 6, .inl ctf)), (st0, .inl (G.2 0, 4096, .inl stf)), (fs0, .inl (G.2 0, 4096, .inl fsf)), (jn0, .inl (G.2 0, 64, .inl jnf)), (rw0, .inl (G.2 0, 64, .inl rwf)), (fd0, .inl (G.2 1, 40, .inr (.inl fdf))), (af0, .inl (G.2 3, 40, .inl aff)), (kO, .inl (G.2 4, 4, .inr (.inr (.inr (.inr (fun k => if k < 4 then some (kr k) else none)))))), (kr 0, .inl (G.2 0, 64, .inl (KP 0))), (kr 1, .inl (G.2 0, 64, .inl (KP 1))), (kr 2, .inl (G.2 0, 64, .inl (KP 2))), (kr 3, .inl (G.2 0, 64, .inl (KP 3)))]) hP [0, 1, 2, 3, 4, 5, 6, 7, 8, 9, 10, 11, 12, 13, 14, 15, 16, 17, 18, 19] rfl
                have hSSc : SS G sl sn sa sq (fun _ => False) s _ := ssE hP 20 rfl ((hF_ze.kept hS.2.1).narrow (fun _ (h : False) => False.elim h)) hln hs0
                refine rdI (va_runV (C := RX4) (As := [.int p2]) (rest := [.int (1 : Int32)]) ⟨hx, hb, hml, hown, hts⟩ (kX4_built l G m0 dO sl ct0 st0 fs0 jn0 rw0 fd0 af0 kO dr kr sa (0 : Int32) mr po mf sp DD ctf stf fsf jnf rwf fdf aff KP sn sq p2 h) (cwV 1 hts (gdV q1158 q1160 qs21 q6 q1161) rfl rfl rfl (by decide +kernel) ⟨Nat.le_of_ble_eq_true rfl, Nat.le_of_ble_eq_true rfl⟩) (preVs hPc hKK hSSc (va_recv hK hPc (ci := 7) (q0 := 0) rfl rfl)) rfl rfl hl.1 rfl (lv_room (Nat.le_of_ble_eq_true rfl)) dX4_say_132 ⟨Nat.zero_le _, Nat.zero_le _⟩) (fun r_12 h => ?_)
                refine lv_iadd hx hb dX4_say_135 ?_
                refine lv_istore hx hb dX4_say_136 hl (Nat.le_of_ble_eq_true rfl) rfl (fun ls hl => ?_)
                have hl : lv_has ls 6 [(5, .int ((1 : Int32) + r_12)), (0, .ref m0), (1, .int p1), (2, .int p2), (3, .int p3), (4, .int i4)] := hl
                refine lv_iload_n hx hb dX4_say_138 rfl (lv_at hl 2 rfl) ?_
                refine lv_iconst (v := 1) hx hb dX4_say_139 (by decide) ?_
                refine lv_icmp_le (tgt := 157) hx hb dX4_say_140 (by decide) (fun hc => ?_) (fun hc => ?_)
                · have h := h.1 hc
                  have hl := lv_sub (l' := [(0, .ref m0), (1, .int p1), (2, .int p2), (3, .int p3), (4, .int i4), (5, .int ((1 : Int32) + r_12))]) hl [1, 2, 3, 4, 5, 0] rfl
                  exact cut157 i4 ((1 : Int32) + r_12) _ _ _ hl hP hD hS h
                · have h := h.2 hc
                  refine lv_iload hx hb dX4_say_143 (lv_at hl 0 rfl) ?_
                  refine lv_iconst (v := 1) hx hb dX4_say_145 (by decide) ?_
                  refine lv_aload_n hx hb dX4_say_146 rfl (lv_at hl 1 rfl) ?_
                  refine lv_iload_n hx hb dX4_say_147 rfl (lv_at hl 4 rfl) ?_
                  have hPc := va_P.sub (ws' := [(m0, .inr (7, [.int (0 : Int32), .int mr, .long po, .ref dO, .ref sl, .ref ct0, .int mf, .int sp, .ref st0, .ref fs0, .ref jn0, .ref rw0, .ref fd0, .ref af0, .ref kO])), (dO, .inl (G.2 4, 6, .inr (.inr (.inr (.inr (fun k => if k < 6 then some (dr k) else none)))))), (dr 0, .inl (G.2 0, 64, .inl (DD 0))), (dr 1, .inl (G.2 0, 64, .inl (DD 1))), (dr 2, .inl (G.2 0, 64, .inl (DD 2))), (dr 3, .inl (G.2 0, 64, .inl (DD 3))), (dr 4, .inl (G.2 0, 64, .inl (DD 4))), (dr 5, .inl (G.2 0, 64, .inl (DD 5))), (ct0, .inl (G.2 0, 6, .inl ctf)), (st0, .inl (G.2 0, 4096, .inl stf)), (fs0, .inl (G.2 0, 4096, .inl fsf)), (jn0, .inl (G.2 0, 64, .inl jnf)), (rw0, .inl (G.2 0, 64, .inl rwf)), (fd0, .inl (G.2 1, 40, .inr (.inl fdf))), (af0, .inl (G.2 3, 40, .inl aff)), (kO, .inl (G.2 4, 4, .inr (.inr (.inr (.inr (fun k => if k < 4 then some (kr k) else none)))))), (kr 0, .inl (G.2 0, 64, .inl (KP 0))), (kr 1, .inl (G.2 0, 64, .inl (KP 1))), (kr 2, .inl (G.2 0, 64, .inl (KP 2))), (kr 3, .inl (G.2 0, 64, .inl (KP 3)))]) hP [0, 1, 2, 3, 4, 5, 6, 7, 8, 9, 10, 11, 12, 13, 14, 15, 16, 17, 18, 19] rfl
                  have hSSc : SS G sl sn sa sq (fun _ => False) s _ := ssE hP 20 rfl ((hF_ze.kept hS.2.1).narrow (fun _ (h : False) => False.elim h)) hln hs0
                  refine rdI (va_runV (C := RX4) (As := [.int p3]) (rest := [.int (1 : Int32), .int ((1 : Int32) + r_12)]) ⟨hx, hb, hml, hown, hts⟩ (kX4_built l G m0 dO sl ct0 st0 fs0 jn0 rw0 fd0 af0 kO dr kr sa (0 : Int32) mr po mf sp DD ctf stf fsf jnf rwf fdf aff KP sn sq p3 h) (cwV 1 hts (gdV q1158 q1160 qs21 q6 q1161) rfl rfl rfl (by decide +kernel) ⟨Nat.le_of_ble_eq_true rfl, Nat.le_of_ble_eq_true rfl⟩) (preVs hPc hKK hSSc (va_recv hK hPc (ci := 7) (q0 := 0) rfl rfl)) rfl rfl hl.1 rfl (lv_room (Nat.le_of_ble_eq_true rfl)) dX4_say_148 ⟨Nat.zero_le _, Nat.zero_le _⟩) (fun r_13 h => ?_)
                  refine lv_iadd hx hb dX4_say_151 ?_
                  refine va_mmax hx hb (by rw [hml]; exact hl.1.symm) hown (hts _ q1162) (hts _ q562) (hts _ q18) (hts _ q563) (Nat.le_of_ble_eq_true rfl) (Nat.le_of_ble_eq_true rfl) (Nat.zero_le _) (Nat.zero_le _) dX4_say_152 ?_
                  refine lv_topi (fun x_6 ex_6 => ?_)
                  have h := h x_6 ex_6
                  refine lv_istore hx hb dX4_say_155 hl (Nat.le_of_ble_eq_true rfl) rfl (fun ls hl => ?_)
                  have hl : lv_has ls 6 [(5, .int x_6), (0, .ref m0), (1, .int p1), (2, .int p2), (3, .int p3), (4, .int i4)] := hl
                  have hl := lv_sub (l' := [(0, .ref m0), (1, .int p1), (2, .int p2), (3, .int p3), (4, .int i4), (5, .int x_6)]) hl [1, 2, 3, 4, 5, 0] rfl
                  exact cut157 i4 x_6 _ _ _ hl hP hD hS h
        · have h := h.2 hc
          exact False.elim h
      · have h := h.2 hc
        refine lv_aload_n hx hb dX4_say_75 rfl (lv_at hl 0 rfl) ?_
        refine lv_iload_n hx hb dX4_say_76 rfl (lv_at hl 3 rfl) ?_
        have hPc := va_P.sub (ws' := [(m0, .inr (7, [.int (0 : Int32), .int mr, .long po, .ref dO, .ref sl, .ref ct0, .int mf, .int sp, .ref st0, .ref fs0, .ref jn0, .ref rw0, .ref fd0, .ref af0, .ref kO])), (dO, .inl (G.2 4, 6, .inr (.inr (.inr (.inr (fun k => if k < 6 then some (dr k) else none)))))), (dr 0, .inl (G.2 0, 64, .inl (DD 0))), (dr 1, .inl (G.2 0, 64, .inl (DD 1))), (dr 2, .inl (G.2 0, 64, .inl (DD 2))), (dr 3, .inl (G.2 0, 64, .inl (DD 3))), (dr 4, .inl (G.2 0, 64, .inl (DD 4))), (dr 5, .inl (G.2 0, 64, .inl (DD 5))), (ct0, .inl (G.2 0, 6, .inl ctf)), (st0, .inl (G.2 0, 4096, .inl stf)), (fs0, .inl (G.2 0, 4096, .inl fsf)), (jn0, .inl (G.2 0, 64, .inl jnf)), (rw0, .inl (G.2 0, 64, .inl rwf)), (fd0, .inl (G.2 1, 40, .inr (.inl fdf))), (af0, .inl (G.2 3, 40, .inl aff)), (kO, .inl (G.2 4, 4, .inr (.inr (.inr (.inr (fun k => if k < 4 then some (kr k) else none)))))), (kr 0, .inl (G.2 0, 64, .inl (KP 0))), (kr 1, .inl (G.2 0, 64, .inl (KP 1))), (kr 2, .inl (G.2 0, 64, .inl (KP 2))), (kr 3, .inl (G.2 0, 64, .inl (KP 3)))]) hP [0, 1, 2, 3, 4, 5, 6, 7, 8, 9, 10, 11, 12, 13, 14, 15, 16, 17, 18, 19] rfl
        have hSSc : SS G sl sn sa sq (fun _ => False) s _ := ssE hP 20 rfl ((hF_ze.kept hS.2.1).narrow (fun _ (h : False) => False.elim h)) hln hs0
        refine rdI (va_runV (C := RX4) (As := [.int p3]) (rest := []) ⟨hx, hb, hml, hown, hts⟩ (kX4_isSentence l G m0 dO sl ct0 st0 fs0 jn0 rw0 fd0 af0 kO dr kr sa (0 : Int32) mr po mf sp DD ctf stf fsf jnf rwf fdf aff KP sn sq p3 h) (cwV 1 hts (gdV q1148 q1150 qs20 q6 q1151) rfl rfl rfl (by decide +kernel) ⟨Nat.le_of_ble_eq_true rfl, Nat.le_of_ble_eq_true rfl⟩) (preVs hPc hKK hSSc (va_recv hK hPc (ci := 7) (q0 := 0) rfl rfl)) rfl rfl hl.1 rfl (lv_room (Nat.le_of_ble_eq_true rfl)) dX4_say_77 ⟨Nat.zero_le _, Nat.zero_le _⟩) (fun r_14 h => ?_)
        refine lv_if_ne (tgt := 89) hx hb dX4_say_80 (by decide) (fun hc => ?_) (fun hc => ?_)
        · have h := h.1 hc
          refine lv_aload_n hx hb dX4_say_89 rfl (lv_at hl 0 rfl) ?_
          refine va_get (D := G.1) (ci := 7) (v := .ref sl) (C := RX4) (T := TX4) (N := 15) hx hb hts igX4 hown hK hP 0 rfl rfl 4 (by decide) (hts _ q1009) (fun _ h9 => h9) rfl dX4_say_90 ?_
          have hPc := va_P.sub (ws' := [(sl, .inr (2, [.int lm, .ref je, .int ln]))]) hP [20] rfl
          refine va_csFi (va_runF (C := RJx4a65c) (x := xSize) (As := []) (rest := []) (hK.1 2 _ rfl).2 ⟨hx, hb, hml, hown, hts⟩ (kJx4a65c_size_8abf5 l G sl je lm ln h) (va_cwF 0 hts (gdF q1072 q1076 q1078 q9 q1080) rfl rfl rfl hKK.2.2.2.1.1 (by decide +kernel) ⟨Nat.le_of_ble_eq_true rfl, Nat.le_of_ble_eq_true rfl⟩) (preV hPc hKK (va_recv hK hPc (ci := 2) (q0 := 0) rfl rfl)) rfl rfl hl.1 rfl (lv_room (Nat.le_of_ble_eq_true rfl)) dX4_say_93 ⟨Nat.zero_le _, Nat.zero_le _⟩) (fun r_15 h => ?_)
          refine lv_bipush (v := 40) hx hb dX4_say_98 (by decide) ?_
          refine lv_icmp_ne (tgt := 109) hx hb dX4_say_100 (by decide) (fun hc => ?_) (fun hc => ?_)
          · have h := h.1 hc
            refine lv_iload_n hx hb dX4_say_109 rfl (lv_at hl 1 rfl) ?_
            refine lv_if_ne (tgt := 117) hx hb dX4_say_110 (by decide) (fun hc => ?_) (fun hc => ?_)
            · have h := h.1 hc
              refine lv_iconst (v := 1) hx hb dX4_say_117 (by decide) ?_
              refine lv_istore hx hb dX4_say_118 hl (Nat.le_of_ble_eq_true rfl) rfl (fun ls hl => ?_)
              have hl : lv_has ls 6 [(5, .int (1 : Int32)), (0, .ref m0), (1, .int p1), (2, .int p2), (3, .int p3), (4, .int i4)] := hl
              refine lv_iload_n hx hb dX4_say_120 rfl (lv_at hl 2 rfl) ?_
              refine lv_if_le (tgt := 138) hx hb dX4_say_121 (by decide) (fun hc => ?_) (fun hc => ?_)
              · have h := h.1 hc
                refine lv_iload_n hx hb dX4_say_138 rfl (lv_at hl 2 rfl) ?_
                refine lv_iconst (v := 1) hx hb dX4_say_139 (by decide) ?_
                refine lv_icmp_le (tgt := 157) hx hb dX4_say_140 (by decide) (fun hc => ?_) (fun hc => ?_)
                · have h := h.1 hc
                  have hl := lv_sub (l' := [(0, .ref m0), (1, .int p1), (2, .int p2), (3, .int p3), (4, .int i4), (5, .int (1 : Int32))]) hl [1, 2, 3, 4, 5, 0] rfl
                  exact cut157 i4 (1 : Int32) _ _ _ hl hP hD hS h
                · have h := h.2 hc
                  refine lv_iload hx hb dX4_say_143 (lv_at hl 0 rfl) ?_
                  refine lv_iconst (v := 1) hx hb dX4_say_145 (by decide) ?_
                  refine lv_aload_n hx hb dX4_say_146 rfl (lv_at hl 1 rfl) ?_
                  refine lv_iload_n hx hb dX4_say_147 rfl (lv_at hl 4 rfl) ?_
                  have hPc := va_P.sub (ws' := [(m0, .inr (7, [.int (0 : Int32), .int mr, .long po, .ref dO, .ref sl, .ref ct0, .int mf, .int sp, .ref st0, .ref fs0, .ref jn0, .ref rw0, .ref fd0, .ref af0, .ref kO])), (dO, .inl (G.2 4, 6, .inr (.inr (.inr (.inr (fun k => if k < 6 then some (dr k) else none)))))), (dr 0, .inl (G.2 0, 64, .inl (DD 0))), (dr 1, .inl (G.2 0, 64, .inl (DD 1))), (dr 2, .inl (G.2 0, 64, .inl (DD 2))), (dr 3, .inl (G.2 0, 64, .inl (DD 3))), (dr 4, .inl (G.2 0, 64, .inl (DD 4))), (dr 5, .inl (G.2 0, 64, .inl (DD 5))), (ct0, .inl (G.2 0, 6, .inl ctf)), (st0, .inl (G.2 0, 4096, .inl stf)), (fs0, .inl (G.2 0, 4096, .inl fsf)), (jn0, .inl (G.2 0, 64, .inl jnf)), (rw0, .inl (G.2 0, 64, .inl rwf)), (fd0, .inl (G.2 1, 40, .inr (.inl fdf))), (af0, .inl (G.2 3, 40, .inl aff)), (kO, .inl (G.2 4, 4, .inr (.inr (.inr (.inr (fun k => if k < 4 then some (kr k) else none)))))), (kr 0, .inl (G.2 0, 64, .inl (KP 0))), (kr 1, .inl (G.2 0, 64, .inl (KP 1))), (kr 2, .inl (G.2 0, 64, .inl (KP 2))), (kr 3, .inl (G.2 0, 64, .inl (KP 3)))]) hP [0, 1, 2, 3, 4, 5, 6, 7, 8, 9, 10, 11, 12, 13, 14, 15, 16, 17, 18, 19] rfl
                  have hSSc : SS G sl sn sa sq (fun _ => False) s _ := ssE hP 20 rfl ((hF_ze.kept hS.2.1).narrow (fun _ (h : False) => False.elim h)) hln hs0
                  refine rdI (va_runV (C := RX4) (As := [.int p3]) (rest := [.int (1 : Int32), .int (1 : Int32)]) ⟨hx, hb, hml, hown, hts⟩ (kX4_built l G m0 dO sl ct0 st0 fs0 jn0 rw0 fd0 af0 kO dr kr sa (0 : Int32) mr po mf sp DD ctf stf fsf jnf rwf fdf aff KP sn sq p3 h) (cwV 1 hts (gdV q1158 q1160 qs21 q6 q1161) rfl rfl rfl (by decide +kernel) ⟨Nat.le_of_ble_eq_true rfl, Nat.le_of_ble_eq_true rfl⟩) (preVs hPc hKK hSSc (va_recv hK hPc (ci := 7) (q0 := 0) rfl rfl)) rfl rfl hl.1 rfl (lv_room (Nat.le_of_ble_eq_true rfl)) dX4_say_148 ⟨Nat.zero_le _, Nat.zero_le _⟩) (fun r_16 h => ?_)
                  refine lv_iadd hx hb dX4_say_151 ?_
                  refine va_mmax hx hb (by rw [hml]; exact hl.1.symm) hown (hts _ q1162) (hts _ q562) (hts _ q18) (hts _ q563) (Nat.le_of_ble_eq_true rfl) (Nat.le_of_ble_eq_true rfl) (Nat.zero_le _) (Nat.zero_le _) dX4_say_152 ?_
                  refine lv_topi (fun x_7 ex_7 => ?_)
                  have h := h x_7 ex_7
                  refine lv_istore hx hb dX4_say_155 hl (Nat.le_of_ble_eq_true rfl) rfl (fun ls hl => ?_)
                  have hl : lv_has ls 6 [(5, .int x_7), (0, .ref m0), (1, .int p1), (2, .int p2), (3, .int p3), (4, .int i4)] := hl
                  have hl := lv_sub (l' := [(0, .ref m0), (1, .int p1), (2, .int p2), (3, .int p3), (4, .int i4), (5, .int x_7)]) hl [1, 2, 3, 4, 5, 0] rfl
                  exact cut157 i4 x_7 _ _ _ hl hP hD hS h
              · have h := h.2 hc
                refine lv_iload_n hx hb dX4_say_124 rfl (lv_at hl 2 rfl) ?_
                refine lv_iconst (v := 4) hx hb dX4_say_125 (by decide) ?_
                refine lv_icmp_ge (tgt := 138) hx hb dX4_say_126 (by decide) (fun hc => ?_) (fun hc => ?_)
                · have h := h.1 hc
                  refine lv_iload_n hx hb dX4_say_138 rfl (lv_at hl 2 rfl) ?_
                  refine lv_iconst (v := 1) hx hb dX4_say_139 (by decide) ?_
                  refine lv_icmp_le (tgt := 157) hx hb dX4_say_140 (by decide) (fun hc => ?_) (fun hc => ?_)
                  · have h := h.1 hc
                    have hl := lv_sub (l' := [(0, .ref m0), (1, .int p1), (2, .int p2), (3, .int p3), (4, .int i4), (5, .int (1 : Int32))]) hl [1, 2, 3, 4, 5, 0] rfl
                    exact cut157 i4 (1 : Int32) _ _ _ hl hP hD hS h
                  · have h := h.2 hc
                    refine lv_iload hx hb dX4_say_143 (lv_at hl 0 rfl) ?_
                    refine lv_iconst (v := 1) hx hb dX4_say_145 (by decide) ?_
                    refine lv_aload_n hx hb dX4_say_146 rfl (lv_at hl 1 rfl) ?_
                    refine lv_iload_n hx hb dX4_say_147 rfl (lv_at hl 4 rfl) ?_
                    have hPc := va_P.sub (ws' := [(m0, .inr (7, [.int (0 : Int32), .int mr, .long po, .ref dO, .ref sl, .ref ct0, .int mf, .int sp, .ref st0, .ref fs0, .ref jn0, .ref rw0, .ref fd0, .ref af0, .ref kO])), (dO, .inl (G.2 4, 6, .inr (.inr (.inr (.inr (fun k => if k < 6 then some (dr k) else none)))))), (dr 0, .inl (G.2 0, 64, .inl (DD 0))), (dr 1, .inl (G.2 0, 64, .inl (DD 1))), (dr 2, .inl (G.2 0, 64, .inl (DD 2))), (dr 3, .inl (G.2 0, 64, .inl (DD 3))), (dr 4, .inl (G.2 0, 64, .inl (DD 4))), (dr 5, .inl (G.2 0, 64, .inl (DD 5))), (ct0, .inl (G.2 0, 6, .inl ctf)), (st0, .inl (G.2 0, 4096, .inl stf)), (fs0, .inl (G.2 0, 4096, .inl fsf)), (jn0, .inl (G.2 0, 64, .inl jnf)), (rw0, .inl (G.2 0, 64, .inl rwf)), (fd0, .inl (G.2 1, 40, .inr (.inl fdf))), (af0, .inl (G.2 3, 40, .inl aff)), (kO, .inl (G.2 4, 4, .inr (.inr (.inr (.inr (fun k => if k < 4 then some (kr k) else none)))))), (kr 0, .inl (G.2 0, 64, .inl (KP 0))), (kr 1, .inl (G.2 0, 64, .inl (KP 1))), (kr 2, .inl (G.2 0, 64, .inl (KP 2))), (kr 3, .inl (G.2 0, 64, .inl (KP 3)))]) hP [0, 1, 2, 3, 4, 5, 6, 7, 8, 9, 10, 11, 12, 13, 14, 15, 16, 17, 18, 19] rfl
                    have hSSc : SS G sl sn sa sq (fun _ => False) s _ := ssE hP 20 rfl ((hF_ze.kept hS.2.1).narrow (fun _ (h : False) => False.elim h)) hln hs0
                    refine rdI (va_runV (C := RX4) (As := [.int p3]) (rest := [.int (1 : Int32), .int (1 : Int32)]) ⟨hx, hb, hml, hown, hts⟩ (kX4_built l G m0 dO sl ct0 st0 fs0 jn0 rw0 fd0 af0 kO dr kr sa (0 : Int32) mr po mf sp DD ctf stf fsf jnf rwf fdf aff KP sn sq p3 h) (cwV 1 hts (gdV q1158 q1160 qs21 q6 q1161) rfl rfl rfl (by decide +kernel) ⟨Nat.le_of_ble_eq_true rfl, Nat.le_of_ble_eq_true rfl⟩) (preVs hPc hKK hSSc (va_recv hK hPc (ci := 7) (q0 := 0) rfl rfl)) rfl rfl hl.1 rfl (lv_room (Nat.le_of_ble_eq_true rfl)) dX4_say_148 ⟨Nat.zero_le _, Nat.zero_le _⟩) (fun r_17 h => ?_)
                    refine lv_iadd hx hb dX4_say_151 ?_
                    refine va_mmax hx hb (by rw [hml]; exact hl.1.symm) hown (hts _ q1162) (hts _ q562) (hts _ q18) (hts _ q563) (Nat.le_of_ble_eq_true rfl) (Nat.le_of_ble_eq_true rfl) (Nat.zero_le _) (Nat.zero_le _) dX4_say_152 ?_
                    refine lv_topi (fun x_8 ex_8 => ?_)
                    have h := h x_8 ex_8
                    refine lv_istore hx hb dX4_say_155 hl (Nat.le_of_ble_eq_true rfl) rfl (fun ls hl => ?_)
                    have hl : lv_has ls 6 [(5, .int x_8), (0, .ref m0), (1, .int p1), (2, .int p2), (3, .int p3), (4, .int i4)] := hl
                    have hl := lv_sub (l' := [(0, .ref m0), (1, .int p1), (2, .int p2), (3, .int p3), (4, .int i4), (5, .int x_8)]) hl [1, 2, 3, 4, 5, 0] rfl
                    exact cut157 i4 x_8 _ _ _ hl hP hD hS h
                · have h := h.2 hc
                  refine lv_iconst (v := 1) hx hb dX4_say_129 (by decide) ?_
                  refine lv_aload_n hx hb dX4_say_130 rfl (lv_at hl 1 rfl) ?_
                  refine lv_iload_n hx hb dX4_say_131 rfl (lv_at hl 3 rfl) ?_
                  have hPc := va_P.sub (ws' := [(m0, .inr (7, [.int (0 : Int32), .int mr, .long po, .ref dO, .ref sl, .ref ct0, .int mf, .int sp, .ref st0, .ref fs0, .ref jn0, .ref rw0, .ref fd0, .ref af0, .ref kO])), (dO, .inl (G.2 4, 6, .inr (.inr (.inr (.inr (fun k => if k < 6 then some (dr k) else none)))))), (dr 0, .inl (G.2 0, 64, .inl (DD 0))), (dr 1, .inl (G.2 0, 64, .inl (DD 1))), (dr 2, .inl (G.2 0, 64, .inl (DD 2))), (dr 3, .inl (G.2 0, 64, .inl (DD 3))), (dr 4, .inl (G.2 0, 64, .inl (DD 4))), (dr 5, .inl (G.2 0, 64, .inl (DD 5))), (ct0, .inl (G.2 0, 6, .inl ctf)), (st0, .inl (G.2 0, 4096, .inl stf)), (fs0, .inl (G.2 0, 4096, .inl fsf)), (jn0, .inl (G.2 0, 64, .inl jnf)), (rw0, .inl (G.2 0, 64, .inl rwf)), (fd0, .inl (G.2 1, 40, .inr (.inl fdf))), (af0, .inl (G.2 3, 40, .inl aff)), (kO, .inl (G.2 4, 4, .inr (.inr (.inr (.inr (fun k => if k < 4 then some (kr k) else none)))))), (kr 0, .inl (G.2 0, 64, .inl (KP 0))), (kr 1, .inl (G.2 0, 64, .inl (KP 1))), (kr 2, .inl (G.2 0, 64, .inl (KP 2))), (kr 3, .inl (G.2 0, 64, .inl (KP 3)))]) hP [0, 1, 2, 3, 4, 5, 6, 7, 8, 9, 10, 11, 12, 13, 14, 15, 16, 17, 18, 19] rfl
                  have hSSc : SS G sl sn sa sq (fun _ => False) s _ := ssE hP 20 rfl ((hF_ze.kept hS.2.1).narrow (fun _ (h : False) => False.elim h)) hln hs0
                  refine rdI (va_runV (C := RX4) (As := [.int p2]) (rest := [.int (1 : Int32)]) ⟨hx, hb, hml, hown, hts⟩ (kX4_built l G m0 dO sl ct0 st0 fs0 jn0 rw0 fd0 af0 kO dr kr sa (0 : Int32) mr po mf sp DD ctf stf fsf jnf rwf fdf aff KP sn sq p2 h) (cwV 1 hts (gdV q1158 q1160 qs21 q6 q1161) rfl rfl rfl (by decide +kernel) ⟨Nat.le_of_ble_eq_true rfl, Nat.le_of_ble_eq_true rfl⟩) (preVs hPc hKK hSSc (va_recv hK hPc (ci := 7) (q0 := 0) rfl rfl)) rfl rfl hl.1 rfl (lv_room (Nat.le_of_ble_eq_true rfl)) dX4_say_132 ⟨Nat.zero_le _, Nat.zero_le _⟩) (fun r_18 h => ?_)
                  refine lv_iadd hx hb dX4_say_135 ?_
                  refine lv_istore hx hb dX4_say_136 hl (Nat.le_of_ble_eq_true rfl) rfl (fun ls hl => ?_)
                  have hl : lv_has ls 6 [(5, .int ((1 : Int32) + r_18)), (0, .ref m0), (1, .int p1), (2, .int p2), (3, .int p3), (4, .int i4)] := hl
                  refine lv_iload_n hx hb dX4_say_138 rfl (lv_at hl 2 rfl) ?_
                  refine lv_iconst (v := 1) hx hb dX4_say_139 (by decide) ?_
                  refine lv_icmp_le (tgt := 157) hx hb dX4_say_140 (by decide) (fun hc => ?_) (fun hc => ?_)
                  · have h := h.1 hc
                    have hl := lv_sub (l' := [(0, .ref m0), (1, .int p1), (2, .int p2), (3, .int p3), (4, .int i4), (5, .int ((1 : Int32) + r_18))]) hl [1, 2, 3, 4, 5, 0] rfl
                    exact cut157 i4 ((1 : Int32) + r_18) _ _ _ hl hP hD hS h
                  · have h := h.2 hc
                    refine lv_iload hx hb dX4_say_143 (lv_at hl 0 rfl) ?_
                    refine lv_iconst (v := 1) hx hb dX4_say_145 (by decide) ?_
                    refine lv_aload_n hx hb dX4_say_146 rfl (lv_at hl 1 rfl) ?_
                    refine lv_iload_n hx hb dX4_say_147 rfl (lv_at hl 4 rfl) ?_
                    have hPc := va_P.sub (ws' := [(m0, .inr (7, [.int (0 : Int32), .int mr, .long po, .ref dO, .ref sl, .ref ct0, .int mf, .int sp, .ref st0, .ref fs0, .ref jn0, .ref rw0, .ref fd0, .ref af0, .ref kO])), (dO, .inl (G.2 4, 6, .inr (.inr (.inr (.inr (fun k => if k < 6 then some (dr k) else none)))))), (dr 0, .inl (G.2 0, 64, .inl (DD 0))), (dr 1, .inl (G.2 0, 64, .inl (DD 1))), (dr 2, .inl (G.2 0, 64, .inl (DD 2))), (dr 3, .inl (G.2 0, 64, .inl (DD 3))), (dr 4, .inl (G.2 0, 64, .inl (DD 4))), (dr 5, .inl (G.2 0, 64, .inl (DD 5))), (ct0, .inl (G.2 0, 6, .inl ctf)), (st0, .inl (G.2 0, 4096, .inl stf)), (fs0, .inl (G.2 0, 4096, .inl fsf)), (jn0, .inl (G.2 0, 64, .inl jnf)), (rw0, .inl (G.2 0, 64, .inl rwf)), (fd0, .inl (G.2 1, 40, .inr (.inl fdf))), (af0, .inl (G.2 3, 40, .inl aff)), (kO, .inl (G.2 4, 4, .inr (.inr (.inr (.inr (fun k => if k < 4 then some (kr k) else none)))))), (kr 0, .inl (G.2 0, 64, .inl (KP 0))), (kr 1, .inl (G.2 0, 64, .inl (KP 1))), (kr 2, .inl (G.2 0, 64, .inl (KP 2))), (kr 3, .inl (G.2 0, 64, .inl (KP 3)))]) hP [0, 1, 2, 3, 4, 5, 6, 7, 8, 9, 10, 11, 12, 13, 14, 15, 16, 17, 18, 19] rfl
                    have hSSc : SS G sl sn sa sq (fun _ => False) s _ := ssE hP 20 rfl ((hF_ze.kept hS.2.1).narrow (fun _ (h : False) => False.elim h)) hln hs0
                    refine rdI (va_runV (C := RX4) (As := [.int p3]) (rest := [.int (1 : Int32), .int ((1 : Int32) + r_18)]) ⟨hx, hb, hml, hown, hts⟩ (kX4_built l G m0 dO sl ct0 st0 fs0 jn0 rw0 fd0 af0 kO dr kr sa (0 : Int32) mr po mf sp DD ctf stf fsf jnf rwf fdf aff KP sn sq p3 h) (cwV 1 hts (gdV q1158 q1160 qs21 q6 q1161) rfl rfl rfl (by decide +kernel) ⟨Nat.le_of_ble_eq_true rfl, Nat.le_of_ble_eq_true rfl⟩) (preVs hPc hKK hSSc (va_recv hK hPc (ci := 7) (q0 := 0) rfl rfl)) rfl rfl hl.1 rfl (lv_room (Nat.le_of_ble_eq_true rfl)) dX4_say_148 ⟨Nat.zero_le _, Nat.zero_le _⟩) (fun r_19 h => ?_)
                    refine lv_iadd hx hb dX4_say_151 ?_
                    refine va_mmax hx hb (by rw [hml]; exact hl.1.symm) hown (hts _ q1162) (hts _ q562) (hts _ q18) (hts _ q563) (Nat.le_of_ble_eq_true rfl) (Nat.le_of_ble_eq_true rfl) (Nat.zero_le _) (Nat.zero_le _) dX4_say_152 ?_
                    refine lv_topi (fun x_9 ex_9 => ?_)
                    have h := h x_9 ex_9
                    refine lv_istore hx hb dX4_say_155 hl (Nat.le_of_ble_eq_true rfl) rfl (fun ls hl => ?_)
                    have hl : lv_has ls 6 [(5, .int x_9), (0, .ref m0), (1, .int p1), (2, .int p2), (3, .int p3), (4, .int i4)] := hl
                    have hl := lv_sub (l' := [(0, .ref m0), (1, .int p1), (2, .int p2), (3, .int p3), (4, .int i4), (5, .int x_9)]) hl [1, 2, 3, 4, 5, 0] rfl
                    exact cut157 i4 x_9 _ _ _ hl hP hD hS h
            · have h := h.2 hc
              refine lv_iconst (v := 0) hx hb dX4_say_113 (by decide) ?_
              refine lv_goto (tgt := 118) hx hb dX4_say_114 (by decide) ?_
              refine lv_istore hx hb dX4_say_118 hl (Nat.le_of_ble_eq_true rfl) rfl (fun ls hl => ?_)
              have hl : lv_has ls 6 [(5, .int (0 : Int32)), (0, .ref m0), (1, .int p1), (2, .int p2), (3, .int p3), (4, .int i4)] := hl
              refine lv_iload_n hx hb dX4_say_120 rfl (lv_at hl 2 rfl) ?_
              refine lv_if_le (tgt := 138) hx hb dX4_say_121 (by decide) (fun hc => ?_) (fun hc => ?_)
              · have h := h.1 hc
                refine lv_iload_n hx hb dX4_say_138 rfl (lv_at hl 2 rfl) ?_
                refine lv_iconst (v := 1) hx hb dX4_say_139 (by decide) ?_
                refine lv_icmp_le (tgt := 157) hx hb dX4_say_140 (by decide) (fun hc => ?_) (fun hc => ?_)
                · have h := h.1 hc
                  have hl := lv_sub (l' := [(0, .ref m0), (1, .int p1), (2, .int p2), (3, .int p3), (4, .int i4), (5, .int (0 : Int32))]) hl [1, 2, 3, 4, 5, 0] rfl
                  exact cut157 i4 (0 : Int32) _ _ _ hl hP hD hS h
                · have h := h.2 hc
                  refine lv_iload hx hb dX4_say_143 (lv_at hl 0 rfl) ?_
                  refine lv_iconst (v := 1) hx hb dX4_say_145 (by decide) ?_
                  refine lv_aload_n hx hb dX4_say_146 rfl (lv_at hl 1 rfl) ?_
                  refine lv_iload_n hx hb dX4_say_147 rfl (lv_at hl 4 rfl) ?_
                  have hPc := va_P.sub (ws' := [(m0, .inr (7, [.int (0 : Int32), .int mr, .long po, .ref dO, .ref sl, .ref ct0, .int mf, .int sp, .ref st0, .ref fs0, .ref jn0, .ref rw0, .ref fd0, .ref af0, .ref kO])), (dO, .inl (G.2 4, 6, .inr (.inr (.inr (.inr (fun k => if k < 6 then some (dr k) else none)))))), (dr 0, .inl (G.2 0, 64, .inl (DD 0))), (dr 1, .inl (G.2 0, 64, .inl (DD 1))), (dr 2, .inl (G.2 0, 64, .inl (DD 2))), (dr 3, .inl (G.2 0, 64, .inl (DD 3))), (dr 4, .inl (G.2 0, 64, .inl (DD 4))), (dr 5, .inl (G.2 0, 64, .inl (DD 5))), (ct0, .inl (G.2 0, 6, .inl ctf)), (st0, .inl (G.2 0, 4096, .inl stf)), (fs0, .inl (G.2 0, 4096, .inl fsf)), (jn0, .inl (G.2 0, 64, .inl jnf)), (rw0, .inl (G.2 0, 64, .inl rwf)), (fd0, .inl (G.2 1, 40, .inr (.inl fdf))), (af0, .inl (G.2 3, 40, .inl aff)), (kO, .inl (G.2 4, 4, .inr (.inr (.inr (.inr (fun k => if k < 4 then some (kr k) else none)))))), (kr 0, .inl (G.2 0, 64, .inl (KP 0))), (kr 1, .inl (G.2 0, 64, .inl (KP 1))), (kr 2, .inl (G.2 0, 64, .inl (KP 2))), (kr 3, .inl (G.2 0, 64, .inl (KP 3)))]) hP [0, 1, 2, 3, 4, 5, 6, 7, 8, 9, 10, 11, 12, 13, 14, 15, 16, 17, 18, 19] rfl
                  have hSSc : SS G sl sn sa sq (fun _ => False) s _ := ssE hP 20 rfl ((hF_ze.kept hS.2.1).narrow (fun _ (h : False) => False.elim h)) hln hs0
                  refine rdI (va_runV (C := RX4) (As := [.int p3]) (rest := [.int (1 : Int32), .int (0 : Int32)]) ⟨hx, hb, hml, hown, hts⟩ (kX4_built l G m0 dO sl ct0 st0 fs0 jn0 rw0 fd0 af0 kO dr kr sa (0 : Int32) mr po mf sp DD ctf stf fsf jnf rwf fdf aff KP sn sq p3 h) (cwV 1 hts (gdV q1158 q1160 qs21 q6 q1161) rfl rfl rfl (by decide +kernel) ⟨Nat.le_of_ble_eq_true rfl, Nat.le_of_ble_eq_true rfl⟩) (preVs hPc hKK hSSc (va_recv hK hPc (ci := 7) (q0 := 0) rfl rfl)) rfl rfl hl.1 rfl (lv_room (Nat.le_of_ble_eq_true rfl)) dX4_say_148 ⟨Nat.zero_le _, Nat.zero_le _⟩) (fun r_20 h => ?_)
                  refine lv_iadd hx hb dX4_say_151 ?_
                  refine va_mmax hx hb (by rw [hml]; exact hl.1.symm) hown (hts _ q1162) (hts _ q562) (hts _ q18) (hts _ q563) (Nat.le_of_ble_eq_true rfl) (Nat.le_of_ble_eq_true rfl) (Nat.zero_le _) (Nat.zero_le _) dX4_say_152 ?_
                  refine lv_topi (fun x_10 ex_10 => ?_)
                  have h := h x_10 ex_10
                  refine lv_istore hx hb dX4_say_155 hl (Nat.le_of_ble_eq_true rfl) rfl (fun ls hl => ?_)
                  have hl : lv_has ls 6 [(5, .int x_10), (0, .ref m0), (1, .int p1), (2, .int p2), (3, .int p3), (4, .int i4)] := hl
                  have hl := lv_sub (l' := [(0, .ref m0), (1, .int p1), (2, .int p2), (3, .int p3), (4, .int i4), (5, .int x_10)]) hl [1, 2, 3, 4, 5, 0] rfl
                  exact cut157 i4 x_10 _ _ _ hl hP hD hS h
              · have h := h.2 hc
                refine lv_iload_n hx hb dX4_say_124 rfl (lv_at hl 2 rfl) ?_
                refine lv_iconst (v := 4) hx hb dX4_say_125 (by decide) ?_
                refine lv_icmp_ge (tgt := 138) hx hb dX4_say_126 (by decide) (fun hc => ?_) (fun hc => ?_)
                · have h := h.1 hc
                  refine lv_iload_n hx hb dX4_say_138 rfl (lv_at hl 2 rfl) ?_
                  refine lv_iconst (v := 1) hx hb dX4_say_139 (by decide) ?_
                  refine lv_icmp_le (tgt := 157) hx hb dX4_say_140 (by decide) (fun hc => ?_) (fun hc => ?_)
                  · have h := h.1 hc
                    have hl := lv_sub (l' := [(0, .ref m0), (1, .int p1), (2, .int p2), (3, .int p3), (4, .int i4), (5, .int (0 : Int32))]) hl [1, 2, 3, 4, 5, 0] rfl
                    exact cut157 i4 (0 : Int32) _ _ _ hl hP hD hS h
                  · have h := h.2 hc
                    refine lv_iload hx hb dX4_say_143 (lv_at hl 0 rfl) ?_
                    refine lv_iconst (v := 1) hx hb dX4_say_145 (by decide) ?_
                    refine lv_aload_n hx hb dX4_say_146 rfl (lv_at hl 1 rfl) ?_
                    refine lv_iload_n hx hb dX4_say_147 rfl (lv_at hl 4 rfl) ?_
                    have hPc := va_P.sub (ws' := [(m0, .inr (7, [.int (0 : Int32), .int mr, .long po, .ref dO, .ref sl, .ref ct0, .int mf, .int sp, .ref st0, .ref fs0, .ref jn0, .ref rw0, .ref fd0, .ref af0, .ref kO])), (dO, .inl (G.2 4, 6, .inr (.inr (.inr (.inr (fun k => if k < 6 then some (dr k) else none)))))), (dr 0, .inl (G.2 0, 64, .inl (DD 0))), (dr 1, .inl (G.2 0, 64, .inl (DD 1))), (dr 2, .inl (G.2 0, 64, .inl (DD 2))), (dr 3, .inl (G.2 0, 64, .inl (DD 3))), (dr 4, .inl (G.2 0, 64, .inl (DD 4))), (dr 5, .inl (G.2 0, 64, .inl (DD 5))), (ct0, .inl (G.2 0, 6, .inl ctf)), (st0, .inl (G.2 0, 4096, .inl stf)), (fs0, .inl (G.2 0, 4096, .inl fsf)), (jn0, .inl (G.2 0, 64, .inl jnf)), (rw0, .inl (G.2 0, 64, .inl rwf)), (fd0, .inl (G.2 1, 40, .inr (.inl fdf))), (af0, .inl (G.2 3, 40, .inl aff)), (kO, .inl (G.2 4, 4, .inr (.inr (.inr (.inr (fun k => if k < 4 then some (kr k) else none)))))), (kr 0, .inl (G.2 0, 64, .inl (KP 0))), (kr 1, .inl (G.2 0, 64, .inl (KP 1))), (kr 2, .inl (G.2 0, 64, .inl (KP 2))), (kr 3, .inl (G.2 0, 64, .inl (KP 3)))]) hP [0, 1, 2, 3, 4, 5, 6, 7, 8, 9, 10, 11, 12, 13, 14, 15, 16, 17, 18, 19] rfl
                    have hSSc : SS G sl sn sa sq (fun _ => False) s _ := ssE hP 20 rfl ((hF_ze.kept hS.2.1).narrow (fun _ (h : False) => False.elim h)) hln hs0
                    refine rdI (va_runV (C := RX4) (As := [.int p3]) (rest := [.int (1 : Int32), .int (0 : Int32)]) ⟨hx, hb, hml, hown, hts⟩ (kX4_built l G m0 dO sl ct0 st0 fs0 jn0 rw0 fd0 af0 kO dr kr sa (0 : Int32) mr po mf sp DD ctf stf fsf jnf rwf fdf aff KP sn sq p3 h) (cwV 1 hts (gdV q1158 q1160 qs21 q6 q1161) rfl rfl rfl (by decide +kernel) ⟨Nat.le_of_ble_eq_true rfl, Nat.le_of_ble_eq_true rfl⟩) (preVs hPc hKK hSSc (va_recv hK hPc (ci := 7) (q0 := 0) rfl rfl)) rfl rfl hl.1 rfl (lv_room (Nat.le_of_ble_eq_true rfl)) dX4_say_148 ⟨Nat.zero_le _, Nat.zero_le _⟩) (fun r_21 h => ?_)
                    refine lv_iadd hx hb dX4_say_151 ?_
                    refine va_mmax hx hb (by rw [hml]; exact hl.1.symm) hown (hts _ q1162) (hts _ q562) (hts _ q18) (hts _ q563) (Nat.le_of_ble_eq_true rfl) (Nat.le_of_ble_eq_true rfl) (Nat.zero_le _) (Nat.zero_le _) dX4_say_152 ?_
                    refine lv_topi (fun x_11 ex_11 => ?_)
                    have h := h x_11 ex_11
                    refine lv_istore hx hb dX4_say_155 hl (Nat.le_of_ble_eq_true rfl) rfl (fun ls hl => ?_)
                    have hl : lv_has ls 6 [(5, .int x_11), (0, .ref m0), (1, .int p1), (2, .int p2), (3, .int p3), (4, .int i4)] := hl
                    have hl := lv_sub (l' := [(0, .ref m0), (1, .int p1), (2, .int p2), (3, .int p3), (4, .int i4), (5, .int x_11)]) hl [1, 2, 3, 4, 5, 0] rfl
                    exact cut157 i4 x_11 _ _ _ hl hP hD hS h
                · have h := h.2 hc
                  refine lv_iconst (v := 1) hx hb dX4_say_129 (by decide) ?_
                  refine lv_aload_n hx hb dX4_say_130 rfl (lv_at hl 1 rfl) ?_
                  refine lv_iload_n hx hb dX4_say_131 rfl (lv_at hl 3 rfl) ?_
                  have hPc := va_P.sub (ws' := [(m0, .inr (7, [.int (0 : Int32), .int mr, .long po, .ref dO, .ref sl, .ref ct0, .int mf, .int sp, .ref st0, .ref fs0, .ref jn0, .ref rw0, .ref fd0, .ref af0, .ref kO])), (dO, .inl (G.2 4, 6, .inr (.inr (.inr (.inr (fun k => if k < 6 then some (dr k) else none)))))), (dr 0, .inl (G.2 0, 64, .inl (DD 0))), (dr 1, .inl (G.2 0, 64, .inl (DD 1))), (dr 2, .inl (G.2 0, 64, .inl (DD 2))), (dr 3, .inl (G.2 0, 64, .inl (DD 3))), (dr 4, .inl (G.2 0, 64, .inl (DD 4))), (dr 5, .inl (G.2 0, 64, .inl (DD 5))), (ct0, .inl (G.2 0, 6, .inl ctf)), (st0, .inl (G.2 0, 4096, .inl stf)), (fs0, .inl (G.2 0, 4096, .inl fsf)), (jn0, .inl (G.2 0, 64, .inl jnf)), (rw0, .inl (G.2 0, 64, .inl rwf)), (fd0, .inl (G.2 1, 40, .inr (.inl fdf))), (af0, .inl (G.2 3, 40, .inl aff)), (kO, .inl (G.2 4, 4, .inr (.inr (.inr (.inr (fun k => if k < 4 then some (kr k) else none)))))), (kr 0, .inl (G.2 0, 64, .inl (KP 0))), (kr 1, .inl (G.2 0, 64, .inl (KP 1))), (kr 2, .inl (G.2 0, 64, .inl (KP 2))), (kr 3, .inl (G.2 0, 64, .inl (KP 3)))]) hP [0, 1, 2, 3, 4, 5, 6, 7, 8, 9, 10, 11, 12, 13, 14, 15, 16, 17, 18, 19] rfl
                  have hSSc : SS G sl sn sa sq (fun _ => False) s _ := ssE hP 20 rfl ((hF_ze.kept hS.2.1).narrow (fun _ (h : False) => False.elim h)) hln hs0
                  refine rdI (va_runV (C := RX4) (As := [.int p2]) (rest := [.int (1 : Int32)]) ⟨hx, hb, hml, hown, hts⟩ (kX4_built l G m0 dO sl ct0 st0 fs0 jn0 rw0 fd0 af0 kO dr kr sa (0 : Int32) mr po mf sp DD ctf stf fsf jnf rwf fdf aff KP sn sq p2 h) (cwV 1 hts (gdV q1158 q1160 qs21 q6 q1161) rfl rfl rfl (by decide +kernel) ⟨Nat.le_of_ble_eq_true rfl, Nat.le_of_ble_eq_true rfl⟩) (preVs hPc hKK hSSc (va_recv hK hPc (ci := 7) (q0 := 0) rfl rfl)) rfl rfl hl.1 rfl (lv_room (Nat.le_of_ble_eq_true rfl)) dX4_say_132 ⟨Nat.zero_le _, Nat.zero_le _⟩) (fun r_22 h => ?_)
                  refine lv_iadd hx hb dX4_say_135 ?_
                  refine lv_istore hx hb dX4_say_136 hl (Nat.le_of_ble_eq_true rfl) rfl (fun ls hl => ?_)
                  have hl : lv_has ls 6 [(5, .int ((1 : Int32) + r_22)), (0, .ref m0), (1, .int p1), (2, .int p2), (3, .int p3), (4, .int i4)] := hl
                  refine lv_iload_n hx hb dX4_say_138 rfl (lv_at hl 2 rfl) ?_
                  refine lv_iconst (v := 1) hx hb dX4_say_139 (by decide) ?_
                  refine lv_icmp_le (tgt := 157) hx hb dX4_say_140 (by decide) (fun hc => ?_) (fun hc => ?_)
                  · have h := h.1 hc
                    have hl := lv_sub (l' := [(0, .ref m0), (1, .int p1), (2, .int p2), (3, .int p3), (4, .int i4), (5, .int ((1 : Int32) + r_22))]) hl [1, 2, 3, 4, 5, 0] rfl
                    exact cut157 i4 ((1 : Int32) + r_22) _ _ _ hl hP hD hS h
                  · have h := h.2 hc
                    refine lv_iload hx hb dX4_say_143 (lv_at hl 0 rfl) ?_
                    refine lv_iconst (v := 1) hx hb dX4_say_145 (by decide) ?_
                    refine lv_aload_n hx hb dX4_say_146 rfl (lv_at hl 1 rfl) ?_
                    refine lv_iload_n hx hb dX4_say_147 rfl (lv_at hl 4 rfl) ?_
                    have hPc := va_P.sub (ws' := [(m0, .inr (7, [.int (0 : Int32), .int mr, .long po, .ref dO, .ref sl, .ref ct0, .int mf, .int sp, .ref st0, .ref fs0, .ref jn0, .ref rw0, .ref fd0, .ref af0, .ref kO])), (dO, .inl (G.2 4, 6, .inr (.inr (.inr (.inr (fun k => if k < 6 then some (dr k) else none)))))), (dr 0, .inl (G.2 0, 64, .inl (DD 0))), (dr 1, .inl (G.2 0, 64, .inl (DD 1))), (dr 2, .inl (G.2 0, 64, .inl (DD 2))), (dr 3, .inl (G.2 0, 64, .inl (DD 3))), (dr 4, .inl (G.2 0, 64, .inl (DD 4))), (dr 5, .inl (G.2 0, 64, .inl (DD 5))), (ct0, .inl (G.2 0, 6, .inl ctf)), (st0, .inl (G.2 0, 4096, .inl stf)), (fs0, .inl (G.2 0, 4096, .inl fsf)), (jn0, .inl (G.2 0, 64, .inl jnf)), (rw0, .inl (G.2 0, 64, .inl rwf)), (fd0, .inl (G.2 1, 40, .inr (.inl fdf))), (af0, .inl (G.2 3, 40, .inl aff)), (kO, .inl (G.2 4, 4, .inr (.inr (.inr (.inr (fun k => if k < 4 then some (kr k) else none)))))), (kr 0, .inl (G.2 0, 64, .inl (KP 0))), (kr 1, .inl (G.2 0, 64, .inl (KP 1))), (kr 2, .inl (G.2 0, 64, .inl (KP 2))), (kr 3, .inl (G.2 0, 64, .inl (KP 3)))]) hP [0, 1, 2, 3, 4, 5, 6, 7, 8, 9, 10, 11, 12, 13, 14, 15, 16, 17, 18, 19] rfl
                    have hSSc : SS G sl sn sa sq (fun _ => False) s _ := ssE hP 20 rfl ((hF_ze.kept hS.2.1).narrow (fun _ (h : False) => False.elim h)) hln hs0
                    refine rdI (va_runV (C := RX4) (As := [.int p3]) (rest := [.int (1 : Int32), .int ((1 : Int32) + r_22)]) ⟨hx, hb, hml, hown, hts⟩ (kX4_built l G m0 dO sl ct0 st0 fs0 jn0 rw0 fd0 af0 kO dr kr sa (0 : Int32) mr po mf sp DD ctf stf fsf jnf rwf fdf aff KP sn sq p3 h) (cwV 1 hts (gdV q1158 q1160 qs21 q6 q1161) rfl rfl rfl (by decide +kernel) ⟨Nat.le_of_ble_eq_true rfl, Nat.le_of_ble_eq_true rfl⟩) (preVs hPc hKK hSSc (va_recv hK hPc (ci := 7) (q0 := 0) rfl rfl)) rfl rfl hl.1 rfl (lv_room (Nat.le_of_ble_eq_true rfl)) dX4_say_148 ⟨Nat.zero_le _, Nat.zero_le _⟩) (fun r_23 h => ?_)
                    refine lv_iadd hx hb dX4_say_151 ?_
                    refine va_mmax hx hb (by rw [hml]; exact hl.1.symm) hown (hts _ q1162) (hts _ q562) (hts _ q18) (hts _ q563) (Nat.le_of_ble_eq_true rfl) (Nat.le_of_ble_eq_true rfl) (Nat.zero_le _) (Nat.zero_le _) dX4_say_152 ?_
                    refine lv_topi (fun x_12 ex_12 => ?_)
                    have h := h x_12 ex_12
                    refine lv_istore hx hb dX4_say_155 hl (Nat.le_of_ble_eq_true rfl) rfl (fun ls hl => ?_)
                    have hl : lv_has ls 6 [(5, .int x_12), (0, .ref m0), (1, .int p1), (2, .int p2), (3, .int p3), (4, .int i4)] := hl
                    have hl := lv_sub (l' := [(0, .ref m0), (1, .int p1), (2, .int p2), (3, .int p3), (4, .int i4), (5, .int x_12)]) hl [1, 2, 3, 4, 5, 0] rfl
                    exact cut157 i4 x_12 _ _ _ hl hP hD hS h
          · have h := h.2 hc
            exact False.elim h
        · have h := h.2 hc
          exact False.elim h
  refine lv_aload_n hx hb dX4_say_0 rfl (lv_at hl 0 rfl) ?_
  refine lv_iconst (v := 0) hx hb dX4_say_1 (by decide) ?_
  refine va_put (D := G.1) (ci := 7) (v := .int (0 : Int32)) (ty := .int) (C := RX4) (T := TX4) (N := 15) hx hb hts igX4 tyX4 tyX4_ok nmX4 hown hK hP hD hS 0 rfl rfl 0 (by decide) (hts _ q1005) (fun _ h9 => h9) rfl (by decide +kernel) rfl rfl (Nat.le_of_ble_eq_true rfl) dX4_say_2 (fun H locs hP hD hS => ?_)
  have hP : PP G [(m0, .inr (7, [.int (0 : Int32), .int mr, .long po, .ref dO, .ref sl, .ref ct0, .int mf, .int sp, .ref st0, .ref fs0, .ref jn0, .ref rw0, .ref fd0, .ref af0, .ref kO])), (dO, .inl (G.2 4, 6, .inr (.inr (.inr (.inr (fun k => if k < 6 then some (dr k) else none)))))), (dr 0, .inl (G.2 0, 64, .inl (DD 0))), (dr 1, .inl (G.2 0, 64, .inl (DD 1))), (dr 2, .inl (G.2 0, 64, .inl (DD 2))), (dr 3, .inl (G.2 0, 64, .inl (DD 3))), (dr 4, .inl (G.2 0, 64, .inl (DD 4))), (dr 5, .inl (G.2 0, 64, .inl (DD 5))), (ct0, .inl (G.2 0, 6, .inl ctf)), (st0, .inl (G.2 0, 4096, .inl stf)), (fs0, .inl (G.2 0, 4096, .inl fsf)), (jn0, .inl (G.2 0, 64, .inl jnf)), (rw0, .inl (G.2 0, 64, .inl rwf)), (fd0, .inl (G.2 1, 40, .inr (.inl fdf))), (af0, .inl (G.2 3, 40, .inl aff)), (kO, .inl (G.2 4, 4, .inr (.inr (.inr (.inr (fun k => if k < 4 then some (kr k) else none)))))), (kr 0, .inl (G.2 0, 64, .inl (KP 0))), (kr 1, .inl (G.2 0, 64, .inl (KP 1))), (kr 2, .inl (G.2 0, 64, .inl (KP 2))), (kr 3, .inl (G.2 0, 64, .inl (KP 3))), (sl, .inr (2, [.int lm, .ref je, .int ln]))] H := hP
  have hD : va_D A [(m0, .inr (7, [.int (0 : Int32), .int mr, .long po, .ref dO, .ref sl, .ref ct0, .int mf, .int sp, .ref st0, .ref fs0, .ref jn0, .ref rw0, .ref fd0, .ref af0, .ref kO])), (dO, .inl (G.2 4, 6, .inr (.inr (.inr (.inr (fun k => if k < 6 then some (dr k) else none)))))), (dr 0, .inl (G.2 0, 64, .inl (DD 0))), (dr 1, .inl (G.2 0, 64, .inl (DD 1))), (dr 2, .inl (G.2 0, 64, .inl (DD 2))), (dr 3, .inl (G.2 0, 64, .inl (DD 3))), (dr 4, .inl (G.2 0, 64, .inl (DD 4))), (dr 5, .inl (G.2 0, 64, .inl (DD 5))), (ct0, .inl (G.2 0, 6, .inl ctf)), (st0, .inl (G.2 0, 4096, .inl stf)), (fs0, .inl (G.2 0, 4096, .inl fsf)), (jn0, .inl (G.2 0, 64, .inl jnf)), (rw0, .inl (G.2 0, 64, .inl rwf)), (fd0, .inl (G.2 1, 40, .inr (.inl fdf))), (af0, .inl (G.2 3, 40, .inl aff)), (kO, .inl (G.2 4, 4, .inr (.inr (.inr (.inr (fun k => if k < 4 then some (kr k) else none)))))), (kr 0, .inl (G.2 0, 64, .inl (KP 0))), (kr 1, .inl (G.2 0, 64, .inl (KP 1))), (kr 2, .inl (G.2 0, 64, .inl (KP 2))), (kr 3, .inl (G.2 0, 64, .inl (KP 3))), (sl, .inr (2, [.int lm, .ref je, .int ln]))] := hD
  refine lv_iload_n hx hb dX4_say_5 rfl (lv_at hl 1 rfl) ?_
  refine lv_iconst (v := 0) hx hb dX4_say_6 (by decide) ?_
  refine lv_bipush (v := 7) hx hb dX4_say_7 (by decide) ?_
  have hPc := va_P.sub (ws' := []) hP [] rfl
  refine rdI (va_runS (As := [.int p1, .int (0 : Int32), .int (7 : Int32)]) (rest := []) ⟨hx, hb, hml, hown, hts⟩ (kX4_in l G p1 (0 : Int32) (7 : Int32) h) (va_cwS 3 hts (gdS q1060 q1061 q6 q1062) rfl rfl rfl (by decide +kernel) ⟨Nat.le_of_ble_eq_true rfl, Nat.le_of_ble_eq_true rfl⟩) (preS hPc hKK) rfl rfl hl.1 rfl (lv_room (Nat.le_of_ble_eq_true rfl)) dX4_say_9 ⟨Nat.zero_le _, Nat.zero_le _⟩) (fun r_1 h => ?_)
  refine lv_if_ne (tgt := 21) hx hb dX4_say_12 (by decide) (fun hc => ?_) (fun hc => ?_)
  · have h := h.1 hc
    refine lv_iload_n hx hb dX4_say_21 rfl (lv_at hl 1 rfl) ?_
    refine lv_if_ne (tgt := 34) hx hb dX4_say_22 (by decide) (fun hc => ?_) (fun hc => ?_)
    · have h := h.1 hc
      refine lv_iload_n hx hb dX4_say_34 rfl (lv_at hl 1 rfl) ?_
      refine lv_iconst (v := 4) hx hb dX4_say_35 (by decide) ?_
      refine lv_icmp_ge (tgt := 47) hx hb dX4_say_36 (by decide) (fun hc => ?_) (fun hc => ?_)
      · have h := h.1 hc
        refine lv_iload_n hx hb dX4_say_47 rfl (lv_at hl 1 rfl) ?_
        refine lv_iconst (v := 4) hx hb dX4_say_48 (by decide) ?_
        refine lv_icmp_ne (tgt := 59) hx hb dX4_say_49 (by decide) (fun hc => ?_) (fun hc => ?_)
        · have h := h.1 hc
          refine lv_iload_n hx hb dX4_say_59 rfl (lv_at hl 2 rfl) ?_
          have hPc := va_P.sub (ws' := []) hP [] rfl
          refine rdI (va_runS (As := [.int p2]) (rest := []) ⟨hx, hb, hml, hown, hts⟩ (kX4_isSet l G p2 h) (va_cwS 1 hts (gdS q1155 q1156 q6 q1157) rfl rfl rfl (by decide +kernel) ⟨Nat.le_of_ble_eq_true rfl, Nat.le_of_ble_eq_true rfl⟩) (preS hPc hKK) rfl rfl hl.1 rfl (lv_room (Nat.le_of_ble_eq_true rfl)) dX4_say_60 ⟨Nat.zero_le _, Nat.zero_le _⟩) (fun r_2 h => ?_)
          refine lv_istore hx hb dX4_say_63 hl (Nat.le_of_ble_eq_true rfl) rfl (fun ls hl => ?_)
          have hl : lv_has ls 6 [(4, .int r_2), (0, .ref m0), (1, .int p1), (2, .int p2), (3, .int p3)] := hl
          have hl := lv_sub (l' := [(0, .ref m0), (1, .int p1), (2, .int p2), (3, .int p3), (4, .int r_2)]) hl [1, 2, 3, 4, 0] rfl
          exact cut65 r_2 _ _ _ hl hP hD hS h
        · have h := h.2 hc
          refine lv_iload_n hx hb dX4_say_52 rfl (lv_at hl 2 rfl) ?_
          have hPc := va_P.sub (ws' := []) hP [] rfl
          refine rdI (va_runS (As := [.int p2]) (rest := []) ⟨hx, hb, hml, hown, hts⟩ (kX4_isGuard l G p2 h) (va_cwS 1 hts (gdS q1152 q1153 q6 q1154) rfl rfl rfl (by decide +kernel) ⟨Nat.le_of_ble_eq_true rfl, Nat.le_of_ble_eq_true rfl⟩) (preS hPc hKK) rfl rfl hl.1 rfl (lv_room (Nat.le_of_ble_eq_true rfl)) dX4_say_53 ⟨Nat.zero_le _, Nat.zero_le _⟩) (fun r_24 h => ?_)
          refine lv_goto (tgt := 63) hx hb dX4_say_56 (by decide) ?_
          refine lv_istore hx hb dX4_say_63 hl (Nat.le_of_ble_eq_true rfl) rfl (fun ls hl => ?_)
          have hl : lv_has ls 6 [(4, .int r_24), (0, .ref m0), (1, .int p1), (2, .int p2), (3, .int p3)] := hl
          have hl := lv_sub (l' := [(0, .ref m0), (1, .int p1), (2, .int p2), (3, .int p3), (4, .int r_24)]) hl [1, 2, 3, 4, 0] rfl
          exact cut65 r_24 _ _ _ hl hP hD hS h
      · have h := h.2 hc
        refine lv_aload_n hx hb dX4_say_39 rfl (lv_at hl 0 rfl) ?_
        refine lv_iload_n hx hb dX4_say_40 rfl (lv_at hl 2 rfl) ?_
        have hPc := va_P.sub (ws' := [(m0, .inr (7, [.int (0 : Int32), .int mr, .long po, .ref dO, .ref sl, .ref ct0, .int mf, .int sp, .ref st0, .ref fs0, .ref jn0, .ref rw0, .ref fd0, .ref af0, .ref kO])), (dO, .inl (G.2 4, 6, .inr (.inr (.inr (.inr (fun k => if k < 6 then some (dr k) else none)))))), (dr 0, .inl (G.2 0, 64, .inl (DD 0))), (dr 1, .inl (G.2 0, 64, .inl (DD 1))), (dr 2, .inl (G.2 0, 64, .inl (DD 2))), (dr 3, .inl (G.2 0, 64, .inl (DD 3))), (dr 4, .inl (G.2 0, 64, .inl (DD 4))), (dr 5, .inl (G.2 0, 64, .inl (DD 5))), (ct0, .inl (G.2 0, 6, .inl ctf)), (st0, .inl (G.2 0, 4096, .inl stf)), (fs0, .inl (G.2 0, 4096, .inl fsf)), (jn0, .inl (G.2 0, 64, .inl jnf)), (rw0, .inl (G.2 0, 64, .inl rwf)), (fd0, .inl (G.2 1, 40, .inr (.inl fdf))), (af0, .inl (G.2 3, 40, .inl aff)), (kO, .inl (G.2 4, 4, .inr (.inr (.inr (.inr (fun k => if k < 4 then some (kr k) else none)))))), (kr 0, .inl (G.2 0, 64, .inl (KP 0))), (kr 1, .inl (G.2 0, 64, .inl (KP 1))), (kr 2, .inl (G.2 0, 64, .inl (KP 2))), (kr 3, .inl (G.2 0, 64, .inl (KP 3)))]) hP [0, 1, 2, 3, 4, 5, 6, 7, 8, 9, 10, 11, 12, 13, 14, 15, 16, 17, 18, 19] rfl
        have hSSc : SS G sl sn sa sq (fun _ => False) s _ := ssE hP 20 rfl ((hF_ze.kept hS.2.1).narrow (fun _ (h : False) => False.elim h)) hln hs0
        refine rdI (va_runV (C := RX4) (As := [.int p2]) (rest := []) ⟨hx, hb, hml, hown, hts⟩ (kX4_isSentence l G m0 dO sl ct0 st0 fs0 jn0 rw0 fd0 af0 kO dr kr sa (0 : Int32) mr po mf sp DD ctf stf fsf jnf rwf fdf aff KP sn sq p2 h) (cwV 1 hts (gdV q1148 q1150 qs20 q6 q1151) rfl rfl rfl (by decide +kernel) ⟨Nat.le_of_ble_eq_true rfl, Nat.le_of_ble_eq_true rfl⟩) (preVs hPc hKK hSSc (va_recv hK hPc (ci := 7) (q0 := 0) rfl rfl)) rfl rfl hl.1 rfl (lv_room (Nat.le_of_ble_eq_true rfl)) dX4_say_41 ⟨Nat.zero_le _, Nat.zero_le _⟩) (fun r_25 h => ?_)
        refine lv_goto (tgt := 63) hx hb dX4_say_44 (by decide) ?_
        refine lv_istore hx hb dX4_say_63 hl (Nat.le_of_ble_eq_true rfl) rfl (fun ls hl => ?_)
        have hl : lv_has ls 6 [(4, .int r_25), (0, .ref m0), (1, .int p1), (2, .int p2), (3, .int p3)] := hl
        have hl := lv_sub (l' := [(0, .ref m0), (1, .int p1), (2, .int p2), (3, .int p3), (4, .int r_25)]) hl [1, 2, 3, 4, 0] rfl
        exact cut65 r_25 _ _ _ hl hP hD hS h
    · have h := h.2 hc
      refine lv_iload_n hx hb dX4_say_25 rfl (lv_at hl 2 rfl) ?_
      refine lv_iconst (v := 0) hx hb dX4_say_26 (by decide) ?_
      refine lv_iconst (v := 5) hx hb dX4_say_27 (by decide) ?_
      have hPc := va_P.sub (ws' := []) hP [] rfl
      refine rdI (va_runS (As := [.int p2, .int (0 : Int32), .int (5 : Int32)]) (rest := []) ⟨hx, hb, hml, hown, hts⟩ (kX4_in l G p2 (0 : Int32) (5 : Int32) h) (va_cwS 3 hts (gdS q1060 q1061 q6 q1062) rfl rfl rfl (by decide +kernel) ⟨Nat.le_of_ble_eq_true rfl, Nat.le_of_ble_eq_true rfl⟩) (preS hPc hKK) rfl rfl hl.1 rfl (lv_room (Nat.le_of_ble_eq_true rfl)) dX4_say_28 ⟨Nat.zero_le _, Nat.zero_le _⟩) (fun r_26 h => ?_)
      refine lv_goto (tgt := 63) hx hb dX4_say_31 (by decide) ?_
      refine lv_istore hx hb dX4_say_63 hl (Nat.le_of_ble_eq_true rfl) rfl (fun ls hl => ?_)
      have hl : lv_has ls 6 [(4, .int r_26), (0, .ref m0), (1, .int p1), (2, .int p2), (3, .int p3)] := hl
      have hl := lv_sub (l' := [(0, .ref m0), (1, .int p1), (2, .int p2), (3, .int p3), (4, .int r_26)]) hl [1, 2, 3, 4, 0] rfl
      exact cut65 r_26 _ _ _ hl hP hD hS h
  · have h := h.2 hc
    exact False.elim h
def wX4_sayF_C65 (post : Int32 → Int32 → Prop) (sn : Nat) (p1 : Int32) (p3 : Int32) (i4 : Int32) : Prop :=
  ((i4 = 0) →
    wX4_no (fun (r_3 : Int32) (th_1 : Int32) =>
      post r_3 th_1
      ) (0 : Int32) (1 : Int32)
  ) ∧ (¬ (i4 = 0) →
    ((p1 ≤ (1 : Int32)) →
      ((¬ (nI sn) = (40 : Int32)) →
        False
      ) ∧ (((nI sn) = (40 : Int32)) →
        wX4_no (fun (r_4 : Int32) (th_2 : Int32) =>
          post r_4 th_2
          ) (0 : Int32) (2 : Int32)
      )
    ) ∧ (¬ (p1 ≤ (1 : Int32)) →
      wX4_isSentence (fun r_5 : Int32 =>
        ((¬ r_5 = 0) →
          ((¬ (nI sn) = (40 : Int32)) →
            False
          ) ∧ (((nI sn) = (40 : Int32)) →
            wX4_no (fun (r_6 : Int32) (th_3 : Int32) =>
              post r_6 th_3
              ) (0 : Int32) (2 : Int32)
          )
        ) ∧ ((r_5 = 0) →
          wX4_no (fun (r_7 : Int32) (th_4 : Int32) =>
            post r_7 th_4
            ) (0 : Int32) (1 : Int32)
        )
        ) sn p3
    )
  )
def wX4_sayF (post : Int32 → Int32 → Prop) (th : Int32) (sn : Nat) (p1 : Int32) (p2 : Int32) (p3 : Int32) : Prop :=
  wX4_in (fun r_1 : Int32 =>
    ((¬ r_1 = 0) →
      ((¬ p1 = 0) →
        (((4 : Int32) ≤ p1) →
          ((¬ p1 = (4 : Int32)) →
            wX4_isSet (fun r_2 : Int32 =>
              wX4_sayF_C65 post sn p1 p3 r_2
              ) p2
          ) ∧ ((p1 = (4 : Int32)) →
            wX4_isGuard (fun r_8 : Int32 =>
              wX4_sayF_C65 post sn p1 p3 r_8
              ) p2
          )
        ) ∧ (¬ ((4 : Int32) ≤ p1) →
          wX4_isSentence (fun r_9 : Int32 =>
            wX4_sayF_C65 post sn p1 p3 r_9
            ) sn p2
        )
      ) ∧ ((p1 = 0) →
        wX4_in (fun r_10 : Int32 =>
          wX4_sayF_C65 post sn p1 p3 r_10
          ) p2 (0 : Int32) (5 : Int32)
      )
    ) ∧ ((r_1 = 0) →
      wX4_no (fun (r_11 : Int32) (th_5 : Int32) =>
        post r_11 th_5
        ) (0 : Int32) (1 : Int32)
    )
    ) p1 (0 : Int32) (7 : Int32)
abbrev wl_X4_sayF : List Cond := .code yX4_say cX4_say 6 (some .int) :: lwg
abbrev rm_X4_sayF : Room := { frames := 7, cells := 0, slots := 0, locals := 161 }
set_option maxHeartbeats 4000000 in
set_option maxRecDepth 100000 in
theorem kX4_sayF {post : Int32 → Int32 → Prop} (l : Launch) (G : GT) (m0 : Nat) (dO : Nat) (sl : Nat) (ct0 : Nat) (st0 : Nat) (fs0 : Nat) (jn0 : Nat) (rw0 : Nat) (fd0 : Nat) (af0 : Nat) (kO : Nat) (dr : Nat → Nat) (kr : Nat → Nat) (sa : Nat → Nat) (th : Int32) (mr : Int32) (po : Int64) (mf : Int32) (sp : Int32) (DD : Nat → Nat → Int32) (ctf : Nat → Int32) (stf : Nat → Int32) (fsf : Nat → Int32) (jnf : Nat → Int32) (rwf : Nat → Int32) (fdf : Nat → Int64) (aff : Nat → Int32) (KP : Nat → Nat → Int32) (sn : Nat) (sq : Nat → Nat → Int32) (p1 : Int32) (p2 : Int32) (p3 : Int32) (sz : Nat) (h : wX4_sayF post th sn p1 p2 p3) : Met l yX4_say wl_X4_sayF rm_X4_sayF (va_Pc [.ref m0, .int p1, .int p2, .int p3] (fun U => U.heap.size = sz ∧ PP G [(m0, .inr (7, [.int th, .int mr, .long po, .ref dO, .ref sl, .ref ct0, .int mf, .int sp, .ref st0, .ref fs0, .ref jn0, .ref rw0, .ref fd0, .ref af0, .ref kO])), (dO, .inl (G.2 4, 6, .inr (.inr (.inr (.inr (fun k => if k < 6 then some (dr k) else none)))))), (dr 0, .inl (G.2 0, 64, .inl (DD 0))), (dr 1, .inl (G.2 0, 64, .inl (DD 1))), (dr 2, .inl (G.2 0, 64, .inl (DD 2))), (dr 3, .inl (G.2 0, 64, .inl (DD 3))), (dr 4, .inl (G.2 0, 64, .inl (DD 4))), (dr 5, .inl (G.2 0, 64, .inl (DD 5))), (ct0, .inl (G.2 0, 6, .inl ctf)), (st0, .inl (G.2 0, 4096, .inl stf)), (fs0, .inl (G.2 0, 4096, .inl fsf)), (jn0, .inl (G.2 0, 64, .inl jnf)), (rw0, .inl (G.2 0, 64, .inl rwf)), (fd0, .inl (G.2 1, 40, .inr (.inl fdf))), (af0, .inl (G.2 3, 40, .inl aff)), (kO, .inl (G.2 4, 4, .inr (.inr (.inr (.inr (fun k => if k < 4 then some (kr k) else none)))))), (kr 0, .inl (G.2 0, 64, .inl (KP 0))), (kr 1, .inl (G.2 0, 64, .inl (KP 1))), (kr 2, .inl (G.2 0, 64, .inl (KP 2))), (kr 3, .inl (G.2 0, 64, .inl (KP 3)))] U.heap ∧ KK G U ∧ va_D (fun _ => True) [(m0, .inr (7, [.int th, .int mr, .long po, .ref dO, .ref sl, .ref ct0, .int mf, .int sp, .ref st0, .ref fs0, .ref jn0, .ref rw0, .ref fd0, .ref af0, .ref kO])), (dO, .inl (G.2 4, 6, .inr (.inr (.inr (.inr (fun k => if k < 6 then some (dr k) else none)))))), (dr 0, .inl (G.2 0, 64, .inl (DD 0))), (dr 1, .inl (G.2 0, 64, .inl (DD 1))), (dr 2, .inl (G.2 0, 64, .inl (DD 2))), (dr 3, .inl (G.2 0, 64, .inl (DD 3))), (dr 4, .inl (G.2 0, 64, .inl (DD 4))), (dr 5, .inl (G.2 0, 64, .inl (DD 5))), (ct0, .inl (G.2 0, 6, .inl ctf)), (st0, .inl (G.2 0, 4096, .inl stf)), (fs0, .inl (G.2 0, 4096, .inl fsf)), (jn0, .inl (G.2 0, 64, .inl jnf)), (rw0, .inl (G.2 0, 64, .inl rwf)), (fd0, .inl (G.2 1, 40, .inr (.inl fdf))), (af0, .inl (G.2 3, 40, .inl aff)), (kO, .inl (G.2 4, 4, .inr (.inr (.inr (.inr (fun k => if k < 4 then some (kr k) else none)))))), (kr 0, .inl (G.2 0, 64, .inl (KP 0))), (kr 1, .inl (G.2 0, 64, .inl (KP 1))), (kr 2, .inl (G.2 0, 64, .inl (KP 2))), (kr 3, .inl (G.2 0, 64, .inl (KP 3)))] ∧ SS G sl sn sa sq (va_A [(m0, .inr (7, [.int th, .int mr, .long po, .ref dO, .ref sl, .ref ct0, .int mf, .int sp, .ref st0, .ref fs0, .ref jn0, .ref rw0, .ref fd0, .ref af0, .ref kO])), (dO, .inl (G.2 4, 6, .inr (.inr (.inr (.inr (fun k => if k < 6 then some (dr k) else none)))))), (dr 0, .inl (G.2 0, 64, .inl (DD 0))), (dr 1, .inl (G.2 0, 64, .inl (DD 1))), (dr 2, .inl (G.2 0, 64, .inl (DD 2))), (dr 3, .inl (G.2 0, 64, .inl (DD 3))), (dr 4, .inl (G.2 0, 64, .inl (DD 4))), (dr 5, .inl (G.2 0, 64, .inl (DD 5))), (ct0, .inl (G.2 0, 6, .inl ctf)), (st0, .inl (G.2 0, 4096, .inl stf)), (fs0, .inl (G.2 0, 4096, .inl fsf)), (jn0, .inl (G.2 0, 64, .inl jnf)), (rw0, .inl (G.2 0, 64, .inl rwf)), (fd0, .inl (G.2 1, 40, .inr (.inl fdf))), (af0, .inl (G.2 3, 40, .inl aff)), (kO, .inl (G.2 4, 4, .inr (.inr (.inr (.inr (fun k => if k < 4 then some (kr k) else none)))))), (kr 0, .inl (G.2 0, 64, .inl (KP 0))), (kr 1, .inl (G.2 0, 64, .inl (KP 1))), (kr 2, .inl (G.2 0, 64, .inl (KP 2))), (kr 3, .inl (G.2 0, 64, .inl (KP 3)))] sz) U U.heap)) (va_Qi post (fun u t => PP G [(m0, .inr (7, [.int u, .int mr, .long po, .ref dO, .ref sl, .ref ct0, .int mf, .int sp, .ref st0, .ref fs0, .ref jn0, .ref rw0, .ref fd0, .ref af0, .ref kO])), (dO, .inl (G.2 4, 6, .inr (.inr (.inr (.inr (fun k => if k < 6 then some (dr k) else none)))))), (dr 0, .inl (G.2 0, 64, .inl (DD 0))), (dr 1, .inl (G.2 0, 64, .inl (DD 1))), (dr 2, .inl (G.2 0, 64, .inl (DD 2))), (dr 3, .inl (G.2 0, 64, .inl (DD 3))), (dr 4, .inl (G.2 0, 64, .inl (DD 4))), (dr 5, .inl (G.2 0, 64, .inl (DD 5))), (ct0, .inl (G.2 0, 6, .inl ctf)), (st0, .inl (G.2 0, 4096, .inl stf)), (fs0, .inl (G.2 0, 4096, .inl fsf)), (jn0, .inl (G.2 0, 64, .inl jnf)), (rw0, .inl (G.2 0, 64, .inl rwf)), (fd0, .inl (G.2 1, 40, .inr (.inl fdf))), (af0, .inl (G.2 3, 40, .inl aff)), (kO, .inl (G.2 4, 4, .inr (.inr (.inr (.inr (fun k => if k < 4 then some (kr k) else none)))))), (kr 0, .inl (G.2 0, 64, .inl (KP 0))), (kr 1, .inl (G.2 0, 64, .inl (KP 1))), (kr 2, .inl (G.2 0, 64, .inl (KP 2))), (kr 3, .inl (G.2 0, 64, .inl (KP 3)))] t.heap ∧ va_D (va_A [(m0, .inr (7, [.int th, .int mr, .long po, .ref dO, .ref sl, .ref ct0, .int mf, .int sp, .ref st0, .ref fs0, .ref jn0, .ref rw0, .ref fd0, .ref af0, .ref kO])), (dO, .inl (G.2 4, 6, .inr (.inr (.inr (.inr (fun k => if k < 6 then some (dr k) else none)))))), (dr 0, .inl (G.2 0, 64, .inl (DD 0))), (dr 1, .inl (G.2 0, 64, .inl (DD 1))), (dr 2, .inl (G.2 0, 64, .inl (DD 2))), (dr 3, .inl (G.2 0, 64, .inl (DD 3))), (dr 4, .inl (G.2 0, 64, .inl (DD 4))), (dr 5, .inl (G.2 0, 64, .inl (DD 5))), (ct0, .inl (G.2 0, 6, .inl ctf)), (st0, .inl (G.2 0, 4096, .inl stf)), (fs0, .inl (G.2 0, 4096, .inl fsf)), (jn0, .inl (G.2 0, 64, .inl jnf)), (rw0, .inl (G.2 0, 64, .inl rwf)), (fd0, .inl (G.2 1, 40, .inr (.inl fdf))), (af0, .inl (G.2 3, 40, .inl aff)), (kO, .inl (G.2 4, 4, .inr (.inr (.inr (.inr (fun k => if k < 4 then some (kr k) else none)))))), (kr 0, .inl (G.2 0, 64, .inl (KP 0))), (kr 1, .inl (G.2 0, 64, .inl (KP 1))), (kr 2, .inl (G.2 0, 64, .inl (KP 2))), (kr 3, .inl (G.2 0, 64, .inl (KP 3)))] sz) [(m0, .inr (7, [.int u, .int mr, .long po, .ref dO, .ref sl, .ref ct0, .int mf, .int sp, .ref st0, .ref fs0, .ref jn0, .ref rw0, .ref fd0, .ref af0, .ref kO])), (dO, .inl (G.2 4, 6, .inr (.inr (.inr (.inr (fun k => if k < 6 then some (dr k) else none)))))), (dr 0, .inl (G.2 0, 64, .inl (DD 0))), (dr 1, .inl (G.2 0, 64, .inl (DD 1))), (dr 2, .inl (G.2 0, 64, .inl (DD 2))), (dr 3, .inl (G.2 0, 64, .inl (DD 3))), (dr 4, .inl (G.2 0, 64, .inl (DD 4))), (dr 5, .inl (G.2 0, 64, .inl (DD 5))), (ct0, .inl (G.2 0, 6, .inl ctf)), (st0, .inl (G.2 0, 4096, .inl stf)), (fs0, .inl (G.2 0, 4096, .inl fsf)), (jn0, .inl (G.2 0, 64, .inl jnf)), (rw0, .inl (G.2 0, 64, .inl rwf)), (fd0, .inl (G.2 1, 40, .inr (.inl fdf))), (af0, .inl (G.2 3, 40, .inl aff)), (kO, .inl (G.2 4, 4, .inr (.inr (.inr (.inr (fun k => if k < 4 then some (kr k) else none)))))), (kr 0, .inl (G.2 0, 64, .inl (KP 0))), (kr 1, .inl (G.2 0, 64, .inl (KP 1))), (kr 2, .inl (G.2 0, 64, .inl (KP 2))), (kr 3, .inl (G.2 0, 64, .inl (KP 3)))]) (va_A [(m0, .inr (7, [.int th, .int mr, .long po, .ref dO, .ref sl, .ref ct0, .int mf, .int sp, .ref st0, .ref fs0, .ref jn0, .ref rw0, .ref fd0, .ref af0, .ref kO])), (dO, .inl (G.2 4, 6, .inr (.inr (.inr (.inr (fun k => if k < 6 then some (dr k) else none)))))), (dr 0, .inl (G.2 0, 64, .inl (DD 0))), (dr 1, .inl (G.2 0, 64, .inl (DD 1))), (dr 2, .inl (G.2 0, 64, .inl (DD 2))), (dr 3, .inl (G.2 0, 64, .inl (DD 3))), (dr 4, .inl (G.2 0, 64, .inl (DD 4))), (dr 5, .inl (G.2 0, 64, .inl (DD 5))), (ct0, .inl (G.2 0, 6, .inl ctf)), (st0, .inl (G.2 0, 4096, .inl stf)), (fs0, .inl (G.2 0, 4096, .inl fsf)), (jn0, .inl (G.2 0, 64, .inl jnf)), (rw0, .inl (G.2 0, 64, .inl rwf)), (fd0, .inl (G.2 1, 40, .inr (.inl fdf))), (af0, .inl (G.2 3, 40, .inl aff)), (kO, .inl (G.2 4, 4, .inr (.inr (.inr (.inr (fun k => if k < 4 then some (kr k) else none)))))), (kr 0, .inl (G.2 0, 64, .inl (KP 0))), (kr 1, .inl (G.2 0, 64, .inl (KP 1))), (kr 2, .inl (G.2 0, 64, .inl (KP 2))), (kr 3, .inl (G.2 0, 64, .inl (KP 3)))] sz)) 0 0 (va_A [(m0, .inr (7, [.int th, .int mr, .long po, .ref dO, .ref sl, .ref ct0, .int mf, .int sp, .ref st0, .ref fs0, .ref jn0, .ref rw0, .ref fd0, .ref af0, .ref kO])), (dO, .inl (G.2 4, 6, .inr (.inr (.inr (.inr (fun k => if k < 6 then some (dr k) else none)))))), (dr 0, .inl (G.2 0, 64, .inl (DD 0))), (dr 1, .inl (G.2 0, 64, .inl (DD 1))), (dr 2, .inl (G.2 0, 64, .inl (DD 2))), (dr 3, .inl (G.2 0, 64, .inl (DD 3))), (dr 4, .inl (G.2 0, 64, .inl (DD 4))), (dr 5, .inl (G.2 0, 64, .inl (DD 5))), (ct0, .inl (G.2 0, 6, .inl ctf)), (st0, .inl (G.2 0, 4096, .inl stf)), (fs0, .inl (G.2 0, 4096, .inl fsf)), (jn0, .inl (G.2 0, 64, .inl jnf)), (rw0, .inl (G.2 0, 64, .inl rwf)), (fd0, .inl (G.2 1, 40, .inr (.inl fdf))), (af0, .inl (G.2 3, 40, .inl aff)), (kO, .inl (G.2 4, 4, .inr (.inr (.inr (.inr (fun k => if k < 4 then some (kr k) else none)))))), (kr 0, .inl (G.2 0, 64, .inl (KP 0))), (kr 1, .inl (G.2 0, 64, .inl (KP 1))), (kr 2, .inl (G.2 0, 64, .inl (KP 2))), (kr 3, .inl (G.2 0, 64, .inl (KP 3)))] sz) := by
  refine Met.ofW (cc := cX4_say) (maxL := 6) (ret := (some .int)) (by decide) rfl ?_
  intro p e s m args below meth c s₁ B hml hv
  obtain ⟨rfl, hsz, hP, hKK, hD0, hSS⟩ := hv
  obtain ⟨hK, hN, hR, hFW, hNC⟩ := id hKK
  have hx := B.exec
  have hb := B.bytes
  have hr := B.returns
  have hts0 := atoms_spec (ws := wl_X4_sayF) B.pre
  have hts : ∀ w ∈ lwg, w.before ([.ref m0, .int p1, .int p2, .int p3] : List Value).toArray s = true := fun w hw => hts0 w (List.mem_cons_of_mem _ hw)
  have hown : s.vm.findClass RX4 = some m.cls := findClass_of_methodNamed B.named
  have hlocks := B.notSynchronized
  subst hsz
  have hD := hD0.self (sz := s.heap.size)
  generalize hAe : va_A [(m0, .inr (7, [.int th, .int mr, .long po, .ref dO, .ref sl, .ref ct0, .int mf, .int sp, .ref st0, .ref fs0, .ref jn0, .ref rw0, .ref fd0, .ref af0, .ref kO])), (dO, .inl (G.2 4, 6, .inr (.inr (.inr (.inr (fun k => if k < 6 then some (dr k) else none)))))), (dr 0, .inl (G.2 0, 64, .inl (DD 0))), (dr 1, .inl (G.2 0, 64, .inl (DD 1))), (dr 2, .inl (G.2 0, 64, .inl (DD 2))), (dr 3, .inl (G.2 0, 64, .inl (DD 3))), (dr 4, .inl (G.2 0, 64, .inl (DD 4))), (dr 5, .inl (G.2 0, 64, .inl (DD 5))), (ct0, .inl (G.2 0, 6, .inl ctf)), (st0, .inl (G.2 0, 4096, .inl stf)), (fs0, .inl (G.2 0, 4096, .inl fsf)), (jn0, .inl (G.2 0, 64, .inl jnf)), (rw0, .inl (G.2 0, 64, .inl rwf)), (fd0, .inl (G.2 1, 40, .inr (.inl fdf))), (af0, .inl (G.2 3, 40, .inl aff)), (kO, .inl (G.2 4, 4, .inr (.inr (.inr (.inr (fun k => if k < 4 then some (kr k) else none)))))), (kr 0, .inl (G.2 0, 64, .inl (KP 0))), (kr 1, .inl (G.2 0, 64, .inl (KP 1))), (kr 2, .inl (G.2 0, 64, .inl (KP 2))), (kr 3, .inl (G.2 0, 64, .inl (KP 3)))] s.heap.size = A at hD hSS ⊢
  have hA : ∀ q : Nat, s.heap.size ≤ q → A q := fun q h => by rw [← hAe]; exact Or.inr h
  have hS : va_S A s.heap s.heap [] := va_S.rf
  obtain ⟨QC, hQC⟩ : ∃ Z, Z = (va_Qi post (fun u t => PP G [(m0, .inr (7, [.int u, .int mr, .long po, .ref dO, .ref sl, .ref ct0, .int mf, .int sp, .ref st0, .ref fs0, .ref jn0, .ref rw0, .ref fd0, .ref af0, .ref kO])), (dO, .inl (G.2 4, 6, .inr (.inr (.inr (.inr (fun k => if k < 6 then some (dr k) else none)))))), (dr 0, .inl (G.2 0, 64, .inl (DD 0))), (dr 1, .inl (G.2 0, 64, .inl (DD 1))), (dr 2, .inl (G.2 0, 64, .inl (DD 2))), (dr 3, .inl (G.2 0, 64, .inl (DD 3))), (dr 4, .inl (G.2 0, 64, .inl (DD 4))), (dr 5, .inl (G.2 0, 64, .inl (DD 5))), (ct0, .inl (G.2 0, 6, .inl ctf)), (st0, .inl (G.2 0, 4096, .inl stf)), (fs0, .inl (G.2 0, 4096, .inl fsf)), (jn0, .inl (G.2 0, 64, .inl jnf)), (rw0, .inl (G.2 0, 64, .inl rwf)), (fd0, .inl (G.2 1, 40, .inr (.inl fdf))), (af0, .inl (G.2 3, 40, .inl aff)), (kO, .inl (G.2 4, 4, .inr (.inr (.inr (.inr (fun k => if k < 4 then some (kr k) else none)))))), (kr 0, .inl (G.2 0, 64, .inl (KP 0))), (kr 1, .inl (G.2 0, 64, .inl (KP 1))), (kr 2, .inl (G.2 0, 64, .inl (KP 2))), (kr 3, .inl (G.2 0, 64, .inl (KP 3)))] t.heap ∧ va_D A [(m0, .inr (7, [.int u, .int mr, .long po, .ref dO, .ref sl, .ref ct0, .int mf, .int sp, .ref st0, .ref fs0, .ref jn0, .ref rw0, .ref fd0, .ref af0, .ref kO])), (dO, .inl (G.2 4, 6, .inr (.inr (.inr (.inr (fun k => if k < 6 then some (dr k) else none)))))), (dr 0, .inl (G.2 0, 64, .inl (DD 0))), (dr 1, .inl (G.2 0, 64, .inl (DD 1))), (dr 2, .inl (G.2 0, 64, .inl (DD 2))), (dr 3, .inl (G.2 0, 64, .inl (DD 3))), (dr 4, .inl (G.2 0, 64, .inl (DD 4))), (dr 5, .inl (G.2 0, 64, .inl (DD 5))), (ct0, .inl (G.2 0, 6, .inl ctf)), (st0, .inl (G.2 0, 4096, .inl stf)), (fs0, .inl (G.2 0, 4096, .inl fsf)), (jn0, .inl (G.2 0, 64, .inl jnf)), (rw0, .inl (G.2 0, 64, .inl rwf)), (fd0, .inl (G.2 1, 40, .inr (.inl fdf))), (af0, .inl (G.2 3, 40, .inl aff)), (kO, .inl (G.2 4, 4, .inr (.inr (.inr (.inr (fun k => if k < 4 then some (kr k) else none)))))), (kr 0, .inl (G.2 0, 64, .inl (KP 0))), (kr 1, .inl (G.2 0, 64, .inl (KP 1))), (kr 2, .inl (G.2 0, 64, .inl (KP 2))), (kr 3, .inl (G.2 0, 64, .inl (KP 3)))]) A) := ⟨_, rfl⟩
  rw [← hQC]
  have hP : PP G [(m0, .inr (7, [.int th, .int mr, .long po, .ref dO, .ref sl, .ref ct0, .int mf, .int sp, .ref st0, .ref fs0, .ref jn0, .ref rw0, .ref fd0, .ref af0, .ref kO])), (dO, .inl (G.2 4, 6, .inr (.inr (.inr (.inr (fun k => if k < 6 then some (dr k) else none)))))), (dr 0, .inl (G.2 0, 64, .inl (DD 0))), (dr 1, .inl (G.2 0, 64, .inl (DD 1))), (dr 2, .inl (G.2 0, 64, .inl (DD 2))), (dr 3, .inl (G.2 0, 64, .inl (DD 3))), (dr 4, .inl (G.2 0, 64, .inl (DD 4))), (dr 5, .inl (G.2 0, 64, .inl (DD 5))), (ct0, .inl (G.2 0, 6, .inl ctf)), (st0, .inl (G.2 0, 4096, .inl stf)), (fs0, .inl (G.2 0, 4096, .inl fsf)), (jn0, .inl (G.2 0, 64, .inl jnf)), (rw0, .inl (G.2 0, 64, .inl rwf)), (fd0, .inl (G.2 1, 40, .inr (.inl fdf))), (af0, .inl (G.2 3, 40, .inl aff)), (kO, .inl (G.2 4, 4, .inr (.inr (.inr (.inr (fun k => if k < 4 then some (kr k) else none)))))), (kr 0, .inl (G.2 0, 64, .inl (KP 0))), (kr 1, .inl (G.2 0, 64, .inl (KP 1))), (kr 2, .inl (G.2 0, 64, .inl (KP 2))), (kr 3, .inl (G.2 0, 64, .inl (KP 3)))] s.heap := hP
  have hl := lv_entry ([.ref m0, .int p1, .int p2, .int p3]) (n := 6) (Nat.le_of_ble_eq_true rfl)
  rw [lg_entry_eq]
  generalize (lg_sl ([.ref m0, .int p1, .int p2, .int p3]) ++ List.replicate (6 - (lg_sl ([.ref m0, .int p1, .int p2, .int p3])).length) Slot.unset).toArray = ls at hl ⊢
  have hl : lv_has ls 6 [(0, .ref m0), (1, .int p1), (2, .int p2), (3, .int p3)] := hl
  have cut65 : ∀ (i4 : Int32) (ls : Array Slot) (H : Heap) (locs : List Loc), lv_has ls 6 [(0, .ref m0), (1, .int p1), (2, .int p2), (3, .int p3), (4, .int i4)] → PP G [(m0, .inr (7, [.int (0 : Int32), .int mr, .long po, .ref dO, .ref sl, .ref ct0, .int mf, .int sp, .ref st0, .ref fs0, .ref jn0, .ref rw0, .ref fd0, .ref af0, .ref kO])), (dO, .inl (G.2 4, 6, .inr (.inr (.inr (.inr (fun k => if k < 6 then some (dr k) else none)))))), (dr 0, .inl (G.2 0, 64, .inl (DD 0))), (dr 1, .inl (G.2 0, 64, .inl (DD 1))), (dr 2, .inl (G.2 0, 64, .inl (DD 2))), (dr 3, .inl (G.2 0, 64, .inl (DD 3))), (dr 4, .inl (G.2 0, 64, .inl (DD 4))), (dr 5, .inl (G.2 0, 64, .inl (DD 5))), (ct0, .inl (G.2 0, 6, .inl ctf)), (st0, .inl (G.2 0, 4096, .inl stf)), (fs0, .inl (G.2 0, 4096, .inl fsf)), (jn0, .inl (G.2 0, 64, .inl jnf)), (rw0, .inl (G.2 0, 64, .inl rwf)), (fd0, .inl (G.2 1, 40, .inr (.inl fdf))), (af0, .inl (G.2 3, 40, .inl aff)), (kO, .inl (G.2 4, 4, .inr (.inr (.inr (.inr (fun k => if k < 4 then some (kr k) else none)))))), (kr 0, .inl (G.2 0, 64, .inl (KP 0))), (kr 1, .inl (G.2 0, 64, .inl (KP 1))), (kr 2, .inl (G.2 0, 64, .inl (KP 2))), (kr 3, .inl (G.2 0, 64, .inl (KP 3)))] H → va_D A [(m0, .inr (7, [.int (0 : Int32), .int mr, .long po, .ref dO, .ref sl, .ref ct0, .int mf, .int sp, .ref st0, .ref fs0, .ref jn0, .ref rw0, .ref fd0, .ref af0, .ref kO])), (dO, .inl (G.2 4, 6, .inr (.inr (.inr (.inr (fun k => if k < 6 then some (dr k) else none)))))), (dr 0, .inl (G.2 0, 64, .inl (DD 0))), (dr 1, .inl (G.2 0, 64, .inl (DD 1))), (dr 2, .inl (G.2 0, 64, .inl (DD 2))), (dr 3, .inl (G.2 0, 64, .inl (DD 3))), (dr 4, .inl (G.2 0, 64, .inl (DD 4))), (dr 5, .inl (G.2 0, 64, .inl (DD 5))), (ct0, .inl (G.2 0, 6, .inl ctf)), (st0, .inl (G.2 0, 4096, .inl stf)), (fs0, .inl (G.2 0, 4096, .inl fsf)), (jn0, .inl (G.2 0, 64, .inl jnf)), (rw0, .inl (G.2 0, 64, .inl rwf)), (fd0, .inl (G.2 1, 40, .inr (.inl fdf))), (af0, .inl (G.2 3, 40, .inl aff)), (kO, .inl (G.2 4, 4, .inr (.inr (.inr (.inr (fun k => if k < 4 then some (kr k) else none)))))), (kr 0, .inl (G.2 0, 64, .inl (KP 0))), (kr 1, .inl (G.2 0, 64, .inl (KP 1))), (kr 2, .inl (G.2 0, 64, .inl (KP 2))), (kr 3, .inl (G.2 0, 64, .inl (KP 3)))] → va_S A s.heap H locs → wX4_sayF_C65 post sn p1 p3 i4 → W p l e (headSpec (wl_X4_sayF) rm_X4_sayF).room s m ([.ref m0, .int p1, .int p2, .int p3] : List Value).toArray below meth c H locs 0 0 (MQ below QC ([.ref m0, .int p1, .int p2, .int p3] : List Value).toArray s 0 0 A) (F0 m 65 ls []) := by
    intro i4 ls H locs hl hP hD hS h
    refine lv_iload hx hb dX4_say_65 (lv_at hl 4 rfl) ?_
    refine lv_if_eq (tgt := 83) hx hb dX4_say_67 (by decide) (fun hc => ?_) (fun hc => ?_)
    · have h := h.1 hc
      refine lv_aload_n hx hb dX4_say_83 rfl (lv_at hl 0 rfl) ?_
      refine lv_iconst (v := 1) hx hb dX4_say_84 (by decide) ?_
      have hPc := hP
      have hDc := hD.sub (ws' := [(m0, .inr (7, [.int (0 : Int32), .int mr, .long po, .ref dO, .ref sl, .ref ct0, .int mf, .int sp, .ref st0, .ref fs0, .ref jn0, .ref rw0, .ref fd0, .ref af0, .ref kO])), (dO, .inl (G.2 4, 6, .inr (.inr (.inr (.inr (fun k => if k < 6 then some (dr k) else none)))))), (dr 0, .inl (G.2 0, 64, .inl (DD 0))), (dr 1, .inl (G.2 0, 64, .inl (DD 1))), (dr 2, .inl (G.2 0, 64, .inl (DD 2))), (dr 3, .inl (G.2 0, 64, .inl (DD 3))), (dr 4, .inl (G.2 0, 64, .inl (DD 4))), (dr 5, .inl (G.2 0, 64, .inl (DD 5))), (ct0, .inl (G.2 0, 6, .inl ctf)), (st0, .inl (G.2 0, 4096, .inl stf)), (fs0, .inl (G.2 0, 4096, .inl fsf)), (jn0, .inl (G.2 0, 64, .inl jnf)), (rw0, .inl (G.2 0, 64, .inl rwf)), (fd0, .inl (G.2 1, 40, .inr (.inl fdf))), (af0, .inl (G.2 3, 40, .inl aff)), (kO, .inl (G.2 4, 4, .inr (.inr (.inr (.inr (fun k => if k < 4 then some (kr k) else none)))))), (kr 0, .inl (G.2 0, 64, .inl (KP 0))), (kr 1, .inl (G.2 0, 64, .inl (KP 1))), (kr 2, .inl (G.2 0, 64, .inl (KP 2))), (kr 3, .inl (G.2 0, 64, .inl (KP 3)))]) [0, 1, 2, 3, 4, 5, 6, 7, 8, 9, 10, 11, 12, 13, 14, 15, 16, 17, 18, 19] (by decide) rfl
      have hFc := va_free (wc := [(m0, .inr (7, [.int (0 : Int32), .int mr, .long po, .ref dO, .ref sl, .ref ct0, .int mf, .int sp, .ref st0, .ref fs0, .ref jn0, .ref rw0, .ref fd0, .ref af0, .ref kO])), (dO, .inl (G.2 4, 6, .inr (.inr (.inr (.inr (fun k => if k < 6 then some (dr k) else none)))))), (dr 0, .inl (G.2 0, 64, .inl (DD 0))), (dr 1, .inl (G.2 0, 64, .inl (DD 1))), (dr 2, .inl (G.2 0, 64, .inl (DD 2))), (dr 3, .inl (G.2 0, 64, .inl (DD 3))), (dr 4, .inl (G.2 0, 64, .inl (DD 4))), (dr 5, .inl (G.2 0, 64, .inl (DD 5))), (ct0, .inl (G.2 0, 6, .inl ctf)), (st0, .inl (G.2 0, 4096, .inl stf)), (fs0, .inl (G.2 0, 4096, .inl fsf)), (jn0, .inl (G.2 0, 64, .inl jnf)), (rw0, .inl (G.2 0, 64, .inl rwf)), (fd0, .inl (G.2 1, 40, .inr (.inl fdf))), (af0, .inl (G.2 3, 40, .inl aff)), (kO, .inl (G.2 4, 4, .inr (.inr (.inr (.inr (fun k => if k < 4 then some (kr k) else none)))))), (kr 0, .inl (G.2 0, 64, .inl (KP 0))), (kr 1, .inl (G.2 0, 64, .inl (KP 1))), (kr 2, .inl (G.2 0, 64, .inl (KP 2))), (kr 3, .inl (G.2 0, 64, .inl (KP 3)))]) hD hS hA [0, 1, 2, 3, 4, 5, 6, 7, 8, 9, 10, 11, 12, 13, 14, 15, 16, 17, 18, 19] rfl
      refine va_calli (va_runV (C := RX4) (As := [.int (1 : Int32)]) (rest := []) ⟨hx, hb, hml, hown, hts⟩ (kX4_no l G m0 dO sl ct0 st0 fs0 jn0 rw0 fd0 af0 kO dr kr sa (0 : Int32) mr po mf sp DD ctf stf fsf jnf rwf fdf aff KP sn sq (1 : Int32) _ h) (cwV 1 hts (gdV q1063 q1065 qs9 q6 q1066) rfl rfl rfl (by decide +kernel) ⟨Nat.le_of_ble_eq_true rfl, Nat.le_of_ble_eq_true rfl⟩) (preVw hPc hKK hDc (va_recv hK hPc (ci := 7) (q0 := 0) rfl rfl)) rfl rfl hl.1 rfl (lv_room (Nat.le_of_ble_eq_true rfl)) dX4_say_85 ⟨Nat.zero_le _, Nat.zero_le _⟩) hS (fun q _ h => hFc q h) hFc (fun r_3 u t H1 locs ht hvm h hB hz1 hk1 hS => ?_)
      obtain ⟨th_1, rfl⟩ : ∃ z, z = u := ⟨_, rfl⟩
      obtain ⟨hP1, hD1⟩ := hB
      rw [ht] at hP1
      have hP := hP1
      have hD : va_D A [(m0, .inr (7, [.int th_1, .int mr, .long po, .ref dO, .ref sl, .ref ct0, .int mf, .int sp, .ref st0, .ref fs0, .ref jn0, .ref rw0, .ref fd0, .ref af0, .ref kO])), (dO, .inl (G.2 4, 6, .inr (.inr (.inr (.inr (fun k => if k < 6 then some (dr k) else none)))))), (dr 0, .inl (G.2 0, 64, .inl (DD 0))), (dr 1, .inl (G.2 0, 64, .inl (DD 1))), (dr 2, .inl (G.2 0, 64, .inl (DD 2))), (dr 3, .inl (G.2 0, 64, .inl (DD 3))), (dr 4, .inl (G.2 0, 64, .inl (DD 4))), (dr 5, .inl (G.2 0, 64, .inl (DD 5))), (ct0, .inl (G.2 0, 6, .inl ctf)), (st0, .inl (G.2 0, 4096, .inl stf)), (fs0, .inl (G.2 0, 4096, .inl fsf)), (jn0, .inl (G.2 0, 64, .inl jnf)), (rw0, .inl (G.2 0, 64, .inl rwf)), (fd0, .inl (G.2 1, 40, .inr (.inl fdf))), (af0, .inl (G.2 3, 40, .inl aff)), (kO, .inl (G.2 4, 4, .inr (.inr (.inr (.inr (fun k => if k < 4 then some (kr k) else none)))))), (kr 0, .inl (G.2 0, 64, .inl (KP 0))), (kr 1, .inl (G.2 0, 64, .inl (KP 1))), (kr 2, .inl (G.2 0, 64, .inl (KP 2))), (kr 3, .inl (G.2 0, 64, .inl (KP 3)))] := hD1.weaken (fun _ _ _ h => hFc _ h)
      generalize H1 = H at hP hS ⊢
      have hP : PP G [(m0, .inr (7, [.int th_1, .int mr, .long po, .ref dO, .ref sl, .ref ct0, .int mf, .int sp, .ref st0, .ref fs0, .ref jn0, .ref rw0, .ref fd0, .ref af0, .ref kO])), (dO, .inl (G.2 4, 6, .inr (.inr (.inr (.inr (fun k => if k < 6 then some (dr k) else none)))))), (dr 0, .inl (G.2 0, 64, .inl (DD 0))), (dr 1, .inl (G.2 0, 64, .inl (DD 1))), (dr 2, .inl (G.2 0, 64, .inl (DD 2))), (dr 3, .inl (G.2 0, 64, .inl (DD 3))), (dr 4, .inl (G.2 0, 64, .inl (DD 4))), (dr 5, .inl (G.2 0, 64, .inl (DD 5))), (ct0, .inl (G.2 0, 6, .inl ctf)), (st0, .inl (G.2 0, 4096, .inl stf)), (fs0, .inl (G.2 0, 4096, .inl fsf)), (jn0, .inl (G.2 0, 64, .inl jnf)), (rw0, .inl (G.2 0, 64, .inl rwf)), (fd0, .inl (G.2 1, 40, .inr (.inl fdf))), (af0, .inl (G.2 3, 40, .inl aff)), (kO, .inl (G.2 4, 4, .inr (.inr (.inr (.inr (fun k => if k < 4 then some (kr k) else none)))))), (kr 0, .inl (G.2 0, 64, .inl (KP 0))), (kr 1, .inl (G.2 0, 64, .inl (KP 1))), (kr 2, .inl (G.2 0, 64, .inl (KP 2))), (kr 3, .inl (G.2 0, 64, .inl (KP 3)))] H := hP
      subst hQC; exact W.iret (v := r_3) hx hb hr (fun t ht hW => ⟨⟨_, th_1, rfl, h, by rw [ht]; exact hP, hD⟩, hS.F ht⟩) hS.2.2 dX4_say_88
    · have h := h.2 hc
      refine lv_iload_n hx hb dX4_say_70 rfl (lv_at hl 1 rfl) ?_
      refine lv_iconst (v := 1) hx hb dX4_say_71 (by decide) ?_
      refine lv_icmp_le (tgt := 89) hx hb dX4_say_72 (by decide) (fun hc => ?_) (fun hc => ?_)
      · have h := h.1 hc
        refine lv_aload_n hx hb dX4_say_89 rfl (lv_at hl 0 rfl) ?_
        refine va_get (D := G.1) (ci := 7) (v := .ref sl) (C := RX4) (T := TX4) (N := 15) hx hb hts igX4 hown hK hP 0 rfl rfl 4 (by decide) (hts _ q1009) (fun _ h9 => h9) rfl dX4_say_90 ?_
        refine listSize (rest := []) hSS hS.2.1 ⟨hx, hb, hml, hown, hts⟩ hKK hK q1072 hl.1 (lv_room (Nat.le_of_ble_eq_true rfl)) (Nat.le_of_ble_eq_true rfl) (Nat.le_of_ble_eq_true rfl) dX4_say_93 ?_
        refine lv_bipush (v := 40) hx hb dX4_say_98 (by decide) ?_
        refine lv_icmp_ne (tgt := 109) hx hb dX4_say_100 (by decide) (fun hc => ?_) (fun hc => ?_)
        · have h := h.1 hc
          exact False.elim h
        · have h := h.2 hc
          refine lv_aload_n hx hb dX4_say_103 rfl (lv_at hl 0 rfl) ?_
          refine lv_iconst (v := 2) hx hb dX4_say_104 (by decide) ?_
          have hPc := hP
          have hDc := hD.sub (ws' := [(m0, .inr (7, [.int (0 : Int32), .int mr, .long po, .ref dO, .ref sl, .ref ct0, .int mf, .int sp, .ref st0, .ref fs0, .ref jn0, .ref rw0, .ref fd0, .ref af0, .ref kO])), (dO, .inl (G.2 4, 6, .inr (.inr (.inr (.inr (fun k => if k < 6 then some (dr k) else none)))))), (dr 0, .inl (G.2 0, 64, .inl (DD 0))), (dr 1, .inl (G.2 0, 64, .inl (DD 1))), (dr 2, .inl (G.2 0, 64, .inl (DD 2))), (dr 3, .inl (G.2 0, 64, .inl (DD 3))), (dr 4, .inl (G.2 0, 64, .inl (DD 4))), (dr 5, .inl (G.2 0, 64, .inl (DD 5))), (ct0, .inl (G.2 0, 6, .inl ctf)), (st0, .inl (G.2 0, 4096, .inl stf)), (fs0, .inl (G.2 0, 4096, .inl fsf)), (jn0, .inl (G.2 0, 64, .inl jnf)), (rw0, .inl (G.2 0, 64, .inl rwf)), (fd0, .inl (G.2 1, 40, .inr (.inl fdf))), (af0, .inl (G.2 3, 40, .inl aff)), (kO, .inl (G.2 4, 4, .inr (.inr (.inr (.inr (fun k => if k < 4 then some (kr k) else none)))))), (kr 0, .inl (G.2 0, 64, .inl (KP 0))), (kr 1, .inl (G.2 0, 64, .inl (KP 1))), (kr 2, .inl (G.2 0, 64, .inl (KP 2))), (kr 3, .inl (G.2 0, 64, .inl (KP 3)))]) [0, 1, 2, 3, 4, 5, 6, 7, 8, 9, 10, 11, 12, 13, 14, 15, 16, 17, 18, 19] (by decide) rfl
          have hFc := va_free (wc := [(m0, .inr (7, [.int (0 : Int32), .int mr, .long po, .ref dO, .ref sl, .ref ct0, .int mf, .int sp, .ref st0, .ref fs0, .ref jn0, .ref rw0, .ref fd0, .ref af0, .ref kO])), (dO, .inl (G.2 4, 6, .inr (.inr (.inr (.inr (fun k => if k < 6 then some (dr k) else none)))))), (dr 0, .inl (G.2 0, 64, .inl (DD 0))), (dr 1, .inl (G.2 0, 64, .inl (DD 1))), (dr 2, .inl (G.2 0, 64, .inl (DD 2))), (dr 3, .inl (G.2 0, 64, .inl (DD 3))), (dr 4, .inl (G.2 0, 64, .inl (DD 4))), (dr 5, .inl (G.2 0, 64, .inl (DD 5))), (ct0, .inl (G.2 0, 6, .inl ctf)), (st0, .inl (G.2 0, 4096, .inl stf)), (fs0, .inl (G.2 0, 4096, .inl fsf)), (jn0, .inl (G.2 0, 64, .inl jnf)), (rw0, .inl (G.2 0, 64, .inl rwf)), (fd0, .inl (G.2 1, 40, .inr (.inl fdf))), (af0, .inl (G.2 3, 40, .inl aff)), (kO, .inl (G.2 4, 4, .inr (.inr (.inr (.inr (fun k => if k < 4 then some (kr k) else none)))))), (kr 0, .inl (G.2 0, 64, .inl (KP 0))), (kr 1, .inl (G.2 0, 64, .inl (KP 1))), (kr 2, .inl (G.2 0, 64, .inl (KP 2))), (kr 3, .inl (G.2 0, 64, .inl (KP 3)))]) hD hS hA [0, 1, 2, 3, 4, 5, 6, 7, 8, 9, 10, 11, 12, 13, 14, 15, 16, 17, 18, 19] rfl
          refine va_calli (va_runV (C := RX4) (As := [.int (2 : Int32)]) (rest := []) ⟨hx, hb, hml, hown, hts⟩ (kX4_no l G m0 dO sl ct0 st0 fs0 jn0 rw0 fd0 af0 kO dr kr sa (0 : Int32) mr po mf sp DD ctf stf fsf jnf rwf fdf aff KP sn sq (2 : Int32) _ h) (cwV 1 hts (gdV q1063 q1065 qs9 q6 q1066) rfl rfl rfl (by decide +kernel) ⟨Nat.le_of_ble_eq_true rfl, Nat.le_of_ble_eq_true rfl⟩) (preVw hPc hKK hDc (va_recv hK hPc (ci := 7) (q0 := 0) rfl rfl)) rfl rfl hl.1 rfl (lv_room (Nat.le_of_ble_eq_true rfl)) dX4_say_105 ⟨Nat.zero_le _, Nat.zero_le _⟩) hS (fun q _ h => hFc q h) hFc (fun r_4 u t H1 locs ht hvm h hB hz1 hk1 hS => ?_)
          obtain ⟨th_2, rfl⟩ : ∃ z, z = u := ⟨_, rfl⟩
          obtain ⟨hP1, hD1⟩ := hB
          rw [ht] at hP1
          have hP := hP1
          have hD : va_D A [(m0, .inr (7, [.int th_2, .int mr, .long po, .ref dO, .ref sl, .ref ct0, .int mf, .int sp, .ref st0, .ref fs0, .ref jn0, .ref rw0, .ref fd0, .ref af0, .ref kO])), (dO, .inl (G.2 4, 6, .inr (.inr (.inr (.inr (fun k => if k < 6 then some (dr k) else none)))))), (dr 0, .inl (G.2 0, 64, .inl (DD 0))), (dr 1, .inl (G.2 0, 64, .inl (DD 1))), (dr 2, .inl (G.2 0, 64, .inl (DD 2))), (dr 3, .inl (G.2 0, 64, .inl (DD 3))), (dr 4, .inl (G.2 0, 64, .inl (DD 4))), (dr 5, .inl (G.2 0, 64, .inl (DD 5))), (ct0, .inl (G.2 0, 6, .inl ctf)), (st0, .inl (G.2 0, 4096, .inl stf)), (fs0, .inl (G.2 0, 4096, .inl fsf)), (jn0, .inl (G.2 0, 64, .inl jnf)), (rw0, .inl (G.2 0, 64, .inl rwf)), (fd0, .inl (G.2 1, 40, .inr (.inl fdf))), (af0, .inl (G.2 3, 40, .inl aff)), (kO, .inl (G.2 4, 4, .inr (.inr (.inr (.inr (fun k => if k < 4 then some (kr k) else none)))))), (kr 0, .inl (G.2 0, 64, .inl (KP 0))), (kr 1, .inl (G.2 0, 64, .inl (KP 1))), (kr 2, .inl (G.2 0, 64, .inl (KP 2))), (kr 3, .inl (G.2 0, 64, .inl (KP 3)))] := hD1.weaken (fun _ _ _ h => hFc _ h)
          generalize H1 = H at hP hS ⊢
          have hP : PP G [(m0, .inr (7, [.int th_2, .int mr, .long po, .ref dO, .ref sl, .ref ct0, .int mf, .int sp, .ref st0, .ref fs0, .ref jn0, .ref rw0, .ref fd0, .ref af0, .ref kO])), (dO, .inl (G.2 4, 6, .inr (.inr (.inr (.inr (fun k => if k < 6 then some (dr k) else none)))))), (dr 0, .inl (G.2 0, 64, .inl (DD 0))), (dr 1, .inl (G.2 0, 64, .inl (DD 1))), (dr 2, .inl (G.2 0, 64, .inl (DD 2))), (dr 3, .inl (G.2 0, 64, .inl (DD 3))), (dr 4, .inl (G.2 0, 64, .inl (DD 4))), (dr 5, .inl (G.2 0, 64, .inl (DD 5))), (ct0, .inl (G.2 0, 6, .inl ctf)), (st0, .inl (G.2 0, 4096, .inl stf)), (fs0, .inl (G.2 0, 4096, .inl fsf)), (jn0, .inl (G.2 0, 64, .inl jnf)), (rw0, .inl (G.2 0, 64, .inl rwf)), (fd0, .inl (G.2 1, 40, .inr (.inl fdf))), (af0, .inl (G.2 3, 40, .inl aff)), (kO, .inl (G.2 4, 4, .inr (.inr (.inr (.inr (fun k => if k < 4 then some (kr k) else none)))))), (kr 0, .inl (G.2 0, 64, .inl (KP 0))), (kr 1, .inl (G.2 0, 64, .inl (KP 1))), (kr 2, .inl (G.2 0, 64, .inl (KP 2))), (kr 3, .inl (G.2 0, 64, .inl (KP 3)))] H := hP
          subst hQC; exact W.iret (v := r_4) hx hb hr (fun t ht hW => ⟨⟨_, th_2, rfl, h, by rw [ht]; exact hP, hD⟩, hS.F ht⟩) hS.2.2 dX4_say_108
      · have h := h.2 hc
        refine lv_aload_n hx hb dX4_say_75 rfl (lv_at hl 0 rfl) ?_
        refine lv_iload_n hx hb dX4_say_76 rfl (lv_at hl 3 rfl) ?_
        have hPc := hP
        have hSSc : SS G sl sn sa sq (fun _ => False) s _ := (hSS.kept hS.2.1).narrow (fun _ h => False.elim h)
        refine rdI (va_runV (C := RX4) (As := [.int p3]) (rest := []) ⟨hx, hb, hml, hown, hts⟩ (kX4_isSentence l G m0 dO sl ct0 st0 fs0 jn0 rw0 fd0 af0 kO dr kr sa (0 : Int32) mr po mf sp DD ctf stf fsf jnf rwf fdf aff KP sn sq p3 h) (cwV 1 hts (gdV q1148 q1150 qs20 q6 q1151) rfl rfl rfl (by decide +kernel) ⟨Nat.le_of_ble_eq_true rfl, Nat.le_of_ble_eq_true rfl⟩) (preVs hPc hKK hSSc (va_recv hK hPc (ci := 7) (q0 := 0) rfl rfl)) rfl rfl hl.1 rfl (lv_room (Nat.le_of_ble_eq_true rfl)) dX4_say_77 ⟨Nat.zero_le _, Nat.zero_le _⟩) (fun r_5 h => ?_)
        refine lv_if_ne (tgt := 89) hx hb dX4_say_80 (by decide) (fun hc => ?_) (fun hc => ?_)
        · have h := h.1 hc
          refine lv_aload_n hx hb dX4_say_89 rfl (lv_at hl 0 rfl) ?_
          refine va_get (D := G.1) (ci := 7) (v := .ref sl) (C := RX4) (T := TX4) (N := 15) hx hb hts igX4 hown hK hP 0 rfl rfl 4 (by decide) (hts _ q1009) (fun _ h9 => h9) rfl dX4_say_90 ?_
          refine listSize (rest := []) hSS hS.2.1 ⟨hx, hb, hml, hown, hts⟩ hKK hK q1072 hl.1 (lv_room (Nat.le_of_ble_eq_true rfl)) (Nat.le_of_ble_eq_true rfl) (Nat.le_of_ble_eq_true rfl) dX4_say_93 ?_
          refine lv_bipush (v := 40) hx hb dX4_say_98 (by decide) ?_
          refine lv_icmp_ne (tgt := 109) hx hb dX4_say_100 (by decide) (fun hc => ?_) (fun hc => ?_)
          · have h := h.1 hc
            exact False.elim h
          · have h := h.2 hc
            refine lv_aload_n hx hb dX4_say_103 rfl (lv_at hl 0 rfl) ?_
            refine lv_iconst (v := 2) hx hb dX4_say_104 (by decide) ?_
            have hPc := hP
            have hDc := hD.sub (ws' := [(m0, .inr (7, [.int (0 : Int32), .int mr, .long po, .ref dO, .ref sl, .ref ct0, .int mf, .int sp, .ref st0, .ref fs0, .ref jn0, .ref rw0, .ref fd0, .ref af0, .ref kO])), (dO, .inl (G.2 4, 6, .inr (.inr (.inr (.inr (fun k => if k < 6 then some (dr k) else none)))))), (dr 0, .inl (G.2 0, 64, .inl (DD 0))), (dr 1, .inl (G.2 0, 64, .inl (DD 1))), (dr 2, .inl (G.2 0, 64, .inl (DD 2))), (dr 3, .inl (G.2 0, 64, .inl (DD 3))), (dr 4, .inl (G.2 0, 64, .inl (DD 4))), (dr 5, .inl (G.2 0, 64, .inl (DD 5))), (ct0, .inl (G.2 0, 6, .inl ctf)), (st0, .inl (G.2 0, 4096, .inl stf)), (fs0, .inl (G.2 0, 4096, .inl fsf)), (jn0, .inl (G.2 0, 64, .inl jnf)), (rw0, .inl (G.2 0, 64, .inl rwf)), (fd0, .inl (G.2 1, 40, .inr (.inl fdf))), (af0, .inl (G.2 3, 40, .inl aff)), (kO, .inl (G.2 4, 4, .inr (.inr (.inr (.inr (fun k => if k < 4 then some (kr k) else none)))))), (kr 0, .inl (G.2 0, 64, .inl (KP 0))), (kr 1, .inl (G.2 0, 64, .inl (KP 1))), (kr 2, .inl (G.2 0, 64, .inl (KP 2))), (kr 3, .inl (G.2 0, 64, .inl (KP 3)))]) [0, 1, 2, 3, 4, 5, 6, 7, 8, 9, 10, 11, 12, 13, 14, 15, 16, 17, 18, 19] (by decide) rfl
            have hFc := va_free (wc := [(m0, .inr (7, [.int (0 : Int32), .int mr, .long po, .ref dO, .ref sl, .ref ct0, .int mf, .int sp, .ref st0, .ref fs0, .ref jn0, .ref rw0, .ref fd0, .ref af0, .ref kO])), (dO, .inl (G.2 4, 6, .inr (.inr (.inr (.inr (fun k => if k < 6 then some (dr k) else none)))))), (dr 0, .inl (G.2 0, 64, .inl (DD 0))), (dr 1, .inl (G.2 0, 64, .inl (DD 1))), (dr 2, .inl (G.2 0, 64, .inl (DD 2))), (dr 3, .inl (G.2 0, 64, .inl (DD 3))), (dr 4, .inl (G.2 0, 64, .inl (DD 4))), (dr 5, .inl (G.2 0, 64, .inl (DD 5))), (ct0, .inl (G.2 0, 6, .inl ctf)), (st0, .inl (G.2 0, 4096, .inl stf)), (fs0, .inl (G.2 0, 4096, .inl fsf)), (jn0, .inl (G.2 0, 64, .inl jnf)), (rw0, .inl (G.2 0, 64, .inl rwf)), (fd0, .inl (G.2 1, 40, .inr (.inl fdf))), (af0, .inl (G.2 3, 40, .inl aff)), (kO, .inl (G.2 4, 4, .inr (.inr (.inr (.inr (fun k => if k < 4 then some (kr k) else none)))))), (kr 0, .inl (G.2 0, 64, .inl (KP 0))), (kr 1, .inl (G.2 0, 64, .inl (KP 1))), (kr 2, .inl (G.2 0, 64, .inl (KP 2))), (kr 3, .inl (G.2 0, 64, .inl (KP 3)))]) hD hS hA [0, 1, 2, 3, 4, 5, 6, 7, 8, 9, 10, 11, 12, 13, 14, 15, 16, 17, 18, 19] rfl
            refine va_calli (va_runV (C := RX4) (As := [.int (2 : Int32)]) (rest := []) ⟨hx, hb, hml, hown, hts⟩ (kX4_no l G m0 dO sl ct0 st0 fs0 jn0 rw0 fd0 af0 kO dr kr sa (0 : Int32) mr po mf sp DD ctf stf fsf jnf rwf fdf aff KP sn sq (2 : Int32) _ h) (cwV 1 hts (gdV q1063 q1065 qs9 q6 q1066) rfl rfl rfl (by decide +kernel) ⟨Nat.le_of_ble_eq_true rfl, Nat.le_of_ble_eq_true rfl⟩) (preVw hPc hKK hDc (va_recv hK hPc (ci := 7) (q0 := 0) rfl rfl)) rfl rfl hl.1 rfl (lv_room (Nat.le_of_ble_eq_true rfl)) dX4_say_105 ⟨Nat.zero_le _, Nat.zero_le _⟩) hS (fun q _ h => hFc q h) hFc (fun r_6 u t H1 locs ht hvm h hB hz1 hk1 hS => ?_)
            obtain ⟨th_3, rfl⟩ : ∃ z, z = u := ⟨_, rfl⟩
            obtain ⟨hP1, hD1⟩ := hB
            rw [ht] at hP1
            have hP := hP1
            have hD : va_D A [(m0, .inr (7, [.int th_3, .int mr, .long po, .ref dO, .ref sl, .ref ct0, .int mf, .int sp, .ref st0, .ref fs0, .ref jn0, .ref rw0, .ref fd0, .ref af0, .ref kO])), (dO, .inl (G.2 4, 6, .inr (.inr (.inr (.inr (fun k => if k < 6 then some (dr k) else none)))))), (dr 0, .inl (G.2 0, 64, .inl (DD 0))), (dr 1, .inl (G.2 0, 64, .inl (DD 1))), (dr 2, .inl (G.2 0, 64, .inl (DD 2))), (dr 3, .inl (G.2 0, 64, .inl (DD 3))), (dr 4, .inl (G.2 0, 64, .inl (DD 4))), (dr 5, .inl (G.2 0, 64, .inl (DD 5))), (ct0, .inl (G.2 0, 6, .inl ctf)), (st0, .inl (G.2 0, 4096, .inl stf)), (fs0, .inl (G.2 0, 4096, .inl fsf)), (jn0, .inl (G.2 0, 64, .inl jnf)), (rw0, .inl (G.2 0, 64, .inl rwf)), (fd0, .inl (G.2 1, 40, .inr (.inl fdf))), (af0, .inl (G.2 3, 40, .inl aff)), (kO, .inl (G.2 4, 4, .inr (.inr (.inr (.inr (fun k => if k < 4 then some (kr k) else none)))))), (kr 0, .inl (G.2 0, 64, .inl (KP 0))), (kr 1, .inl (G.2 0, 64, .inl (KP 1))), (kr 2, .inl (G.2 0, 64, .inl (KP 2))), (kr 3, .inl (G.2 0, 64, .inl (KP 3)))] := hD1.weaken (fun _ _ _ h => hFc _ h)
            generalize H1 = H at hP hS ⊢
            have hP : PP G [(m0, .inr (7, [.int th_3, .int mr, .long po, .ref dO, .ref sl, .ref ct0, .int mf, .int sp, .ref st0, .ref fs0, .ref jn0, .ref rw0, .ref fd0, .ref af0, .ref kO])), (dO, .inl (G.2 4, 6, .inr (.inr (.inr (.inr (fun k => if k < 6 then some (dr k) else none)))))), (dr 0, .inl (G.2 0, 64, .inl (DD 0))), (dr 1, .inl (G.2 0, 64, .inl (DD 1))), (dr 2, .inl (G.2 0, 64, .inl (DD 2))), (dr 3, .inl (G.2 0, 64, .inl (DD 3))), (dr 4, .inl (G.2 0, 64, .inl (DD 4))), (dr 5, .inl (G.2 0, 64, .inl (DD 5))), (ct0, .inl (G.2 0, 6, .inl ctf)), (st0, .inl (G.2 0, 4096, .inl stf)), (fs0, .inl (G.2 0, 4096, .inl fsf)), (jn0, .inl (G.2 0, 64, .inl jnf)), (rw0, .inl (G.2 0, 64, .inl rwf)), (fd0, .inl (G.2 1, 40, .inr (.inl fdf))), (af0, .inl (G.2 3, 40, .inl aff)), (kO, .inl (G.2 4, 4, .inr (.inr (.inr (.inr (fun k => if k < 4 then some (kr k) else none)))))), (kr 0, .inl (G.2 0, 64, .inl (KP 0))), (kr 1, .inl (G.2 0, 64, .inl (KP 1))), (kr 2, .inl (G.2 0, 64, .inl (KP 2))), (kr 3, .inl (G.2 0, 64, .inl (KP 3)))] H := hP
            subst hQC; exact W.iret (v := r_6) hx hb hr (fun t ht hW => ⟨⟨_, th_3, rfl, h, by rw [ht]; exact hP, hD⟩, hS.F ht⟩) hS.2.2 dX4_say_108
        · have h := h.2 hc
          refine lv_aload_n hx hb dX4_say_83 rfl (lv_at hl 0 rfl) ?_
          refine lv_iconst (v := 1) hx hb dX4_say_84 (by decide) ?_
          have hPc := hP
          have hDc := hD.sub (ws' := [(m0, .inr (7, [.int (0 : Int32), .int mr, .long po, .ref dO, .ref sl, .ref ct0, .int mf, .int sp, .ref st0, .ref fs0, .ref jn0, .ref rw0, .ref fd0, .ref af0, .ref kO])), (dO, .inl (G.2 4, 6, .inr (.inr (.inr (.inr (fun k => if k < 6 then some (dr k) else none)))))), (dr 0, .inl (G.2 0, 64, .inl (DD 0))), (dr 1, .inl (G.2 0, 64, .inl (DD 1))), (dr 2, .inl (G.2 0, 64, .inl (DD 2))), (dr 3, .inl (G.2 0, 64, .inl (DD 3))), (dr 4, .inl (G.2 0, 64, .inl (DD 4))), (dr 5, .inl (G.2 0, 64, .inl (DD 5))), (ct0, .inl (G.2 0, 6, .inl ctf)), (st0, .inl (G.2 0, 4096, .inl stf)), (fs0, .inl (G.2 0, 4096, .inl fsf)), (jn0, .inl (G.2 0, 64, .inl jnf)), (rw0, .inl (G.2 0, 64, .inl rwf)), (fd0, .inl (G.2 1, 40, .inr (.inl fdf))), (af0, .inl (G.2 3, 40, .inl aff)), (kO, .inl (G.2 4, 4, .inr (.inr (.inr (.inr (fun k => if k < 4 then some (kr k) else none)))))), (kr 0, .inl (G.2 0, 64, .inl (KP 0))), (kr 1, .inl (G.2 0, 64, .inl (KP 1))), (kr 2, .inl (G.2 0, 64, .inl (KP 2))), (kr 3, .inl (G.2 0, 64, .inl (KP 3)))]) [0, 1, 2, 3, 4, 5, 6, 7, 8, 9, 10, 11, 12, 13, 14, 15, 16, 17, 18, 19] (by decide) rfl
          have hFc := va_free (wc := [(m0, .inr (7, [.int (0 : Int32), .int mr, .long po, .ref dO, .ref sl, .ref ct0, .int mf, .int sp, .ref st0, .ref fs0, .ref jn0, .ref rw0, .ref fd0, .ref af0, .ref kO])), (dO, .inl (G.2 4, 6, .inr (.inr (.inr (.inr (fun k => if k < 6 then some (dr k) else none)))))), (dr 0, .inl (G.2 0, 64, .inl (DD 0))), (dr 1, .inl (G.2 0, 64, .inl (DD 1))), (dr 2, .inl (G.2 0, 64, .inl (DD 2))), (dr 3, .inl (G.2 0, 64, .inl (DD 3))), (dr 4, .inl (G.2 0, 64, .inl (DD 4))), (dr 5, .inl (G.2 0, 64, .inl (DD 5))), (ct0, .inl (G.2 0, 6, .inl ctf)), (st0, .inl (G.2 0, 4096, .inl stf)), (fs0, .inl (G.2 0, 4096, .inl fsf)), (jn0, .inl (G.2 0, 64, .inl jnf)), (rw0, .inl (G.2 0, 64, .inl rwf)), (fd0, .inl (G.2 1, 40, .inr (.inl fdf))), (af0, .inl (G.2 3, 40, .inl aff)), (kO, .inl (G.2 4, 4, .inr (.inr (.inr (.inr (fun k => if k < 4 then some (kr k) else none)))))), (kr 0, .inl (G.2 0, 64, .inl (KP 0))), (kr 1, .inl (G.2 0, 64, .inl (KP 1))), (kr 2, .inl (G.2 0, 64, .inl (KP 2))), (kr 3, .inl (G.2 0, 64, .inl (KP 3)))]) hD hS hA [0, 1, 2, 3, 4, 5, 6, 7, 8, 9, 10, 11, 12, 13, 14, 15, 16, 17, 18, 19] rfl
          refine va_calli (va_runV (C := RX4) (As := [.int (1 : Int32)]) (rest := []) ⟨hx, hb, hml, hown, hts⟩ (kX4_no l G m0 dO sl ct0 st0 fs0 jn0 rw0 fd0 af0 kO dr kr sa (0 : Int32) mr po mf sp DD ctf stf fsf jnf rwf fdf aff KP sn sq (1 : Int32) _ h) (cwV 1 hts (gdV q1063 q1065 qs9 q6 q1066) rfl rfl rfl (by decide +kernel) ⟨Nat.le_of_ble_eq_true rfl, Nat.le_of_ble_eq_true rfl⟩) (preVw hPc hKK hDc (va_recv hK hPc (ci := 7) (q0 := 0) rfl rfl)) rfl rfl hl.1 rfl (lv_room (Nat.le_of_ble_eq_true rfl)) dX4_say_85 ⟨Nat.zero_le _, Nat.zero_le _⟩) hS (fun q _ h => hFc q h) hFc (fun r_7 u t H1 locs ht hvm h hB hz1 hk1 hS => ?_)
          obtain ⟨th_4, rfl⟩ : ∃ z, z = u := ⟨_, rfl⟩
          obtain ⟨hP1, hD1⟩ := hB
          rw [ht] at hP1
          have hP := hP1
          have hD : va_D A [(m0, .inr (7, [.int th_4, .int mr, .long po, .ref dO, .ref sl, .ref ct0, .int mf, .int sp, .ref st0, .ref fs0, .ref jn0, .ref rw0, .ref fd0, .ref af0, .ref kO])), (dO, .inl (G.2 4, 6, .inr (.inr (.inr (.inr (fun k => if k < 6 then some (dr k) else none)))))), (dr 0, .inl (G.2 0, 64, .inl (DD 0))), (dr 1, .inl (G.2 0, 64, .inl (DD 1))), (dr 2, .inl (G.2 0, 64, .inl (DD 2))), (dr 3, .inl (G.2 0, 64, .inl (DD 3))), (dr 4, .inl (G.2 0, 64, .inl (DD 4))), (dr 5, .inl (G.2 0, 64, .inl (DD 5))), (ct0, .inl (G.2 0, 6, .inl ctf)), (st0, .inl (G.2 0, 4096, .inl stf)), (fs0, .inl (G.2 0, 4096, .inl fsf)), (jn0, .inl (G.2 0, 64, .inl jnf)), (rw0, .inl (G.2 0, 64, .inl rwf)), (fd0, .inl (G.2 1, 40, .inr (.inl fdf))), (af0, .inl (G.2 3, 40, .inl aff)), (kO, .inl (G.2 4, 4, .inr (.inr (.inr (.inr (fun k => if k < 4 then some (kr k) else none)))))), (kr 0, .inl (G.2 0, 64, .inl (KP 0))), (kr 1, .inl (G.2 0, 64, .inl (KP 1))), (kr 2, .inl (G.2 0, 64, .inl (KP 2))), (kr 3, .inl (G.2 0, 64, .inl (KP 3)))] := hD1.weaken (fun _ _ _ h => hFc _ h)
          generalize H1 = H at hP hS ⊢
          have hP : PP G [(m0, .inr (7, [.int th_4, .int mr, .long po, .ref dO, .ref sl, .ref ct0, .int mf, .int sp, .ref st0, .ref fs0, .ref jn0, .ref rw0, .ref fd0, .ref af0, .ref kO])), (dO, .inl (G.2 4, 6, .inr (.inr (.inr (.inr (fun k => if k < 6 then some (dr k) else none)))))), (dr 0, .inl (G.2 0, 64, .inl (DD 0))), (dr 1, .inl (G.2 0, 64, .inl (DD 1))), (dr 2, .inl (G.2 0, 64, .inl (DD 2))), (dr 3, .inl (G.2 0, 64, .inl (DD 3))), (dr 4, .inl (G.2 0, 64, .inl (DD 4))), (dr 5, .inl (G.2 0, 64, .inl (DD 5))), (ct0, .inl (G.2 0, 6, .inl ctf)), (st0, .inl (G.2 0, 4096, .inl stf)), (fs0, .inl (G.2 0, 4096, .inl fsf)), (jn0, .inl (G.2 0, 64, .inl jnf)), (rw0, .inl (G.2 0, 64, .inl rwf)), (fd0, .inl (G.2 1, 40, .inr (.inl fdf))), (af0, .inl (G.2 3, 40, .inl aff)), (kO, .inl (G.2 4, 4, .inr (.inr (.inr (.inr (fun k => if k < 4 then some (kr k) else none)))))), (kr 0, .inl (G.2 0, 64, .inl (KP 0))), (kr 1, .inl (G.2 0, 64, .inl (KP 1))), (kr 2, .inl (G.2 0, 64, .inl (KP 2))), (kr 3, .inl (G.2 0, 64, .inl (KP 3)))] H := hP
          subst hQC; exact W.iret (v := r_7) hx hb hr (fun t ht hW => ⟨⟨_, th_4, rfl, h, by rw [ht]; exact hP, hD⟩, hS.F ht⟩) hS.2.2 dX4_say_88
  refine lv_aload_n hx hb dX4_say_0 rfl (lv_at hl 0 rfl) ?_
  refine lv_iconst (v := 0) hx hb dX4_say_1 (by decide) ?_
  refine va_put (D := G.1) (ci := 7) (v := .int (0 : Int32)) (ty := .int) (C := RX4) (T := TX4) (N := 15) hx hb hts igX4 tyX4 tyX4_ok nmX4 hown hK hP hD hS 0 rfl rfl 0 (by decide) (hts _ q1005) (fun _ h9 => h9) rfl (by decide +kernel) rfl rfl (Nat.le_of_ble_eq_true rfl) dX4_say_2 (fun H locs hP hD hS => ?_)
  have hP : PP G [(m0, .inr (7, [.int (0 : Int32), .int mr, .long po, .ref dO, .ref sl, .ref ct0, .int mf, .int sp, .ref st0, .ref fs0, .ref jn0, .ref rw0, .ref fd0, .ref af0, .ref kO])), (dO, .inl (G.2 4, 6, .inr (.inr (.inr (.inr (fun k => if k < 6 then some (dr k) else none)))))), (dr 0, .inl (G.2 0, 64, .inl (DD 0))), (dr 1, .inl (G.2 0, 64, .inl (DD 1))), (dr 2, .inl (G.2 0, 64, .inl (DD 2))), (dr 3, .inl (G.2 0, 64, .inl (DD 3))), (dr 4, .inl (G.2 0, 64, .inl (DD 4))), (dr 5, .inl (G.2 0, 64, .inl (DD 5))), (ct0, .inl (G.2 0, 6, .inl ctf)), (st0, .inl (G.2 0, 4096, .inl stf)), (fs0, .inl (G.2 0, 4096, .inl fsf)), (jn0, .inl (G.2 0, 64, .inl jnf)), (rw0, .inl (G.2 0, 64, .inl rwf)), (fd0, .inl (G.2 1, 40, .inr (.inl fdf))), (af0, .inl (G.2 3, 40, .inl aff)), (kO, .inl (G.2 4, 4, .inr (.inr (.inr (.inr (fun k => if k < 4 then some (kr k) else none)))))), (kr 0, .inl (G.2 0, 64, .inl (KP 0))), (kr 1, .inl (G.2 0, 64, .inl (KP 1))), (kr 2, .inl (G.2 0, 64, .inl (KP 2))), (kr 3, .inl (G.2 0, 64, .inl (KP 3)))] H := hP
  have hD : va_D A [(m0, .inr (7, [.int (0 : Int32), .int mr, .long po, .ref dO, .ref sl, .ref ct0, .int mf, .int sp, .ref st0, .ref fs0, .ref jn0, .ref rw0, .ref fd0, .ref af0, .ref kO])), (dO, .inl (G.2 4, 6, .inr (.inr (.inr (.inr (fun k => if k < 6 then some (dr k) else none)))))), (dr 0, .inl (G.2 0, 64, .inl (DD 0))), (dr 1, .inl (G.2 0, 64, .inl (DD 1))), (dr 2, .inl (G.2 0, 64, .inl (DD 2))), (dr 3, .inl (G.2 0, 64, .inl (DD 3))), (dr 4, .inl (G.2 0, 64, .inl (DD 4))), (dr 5, .inl (G.2 0, 64, .inl (DD 5))), (ct0, .inl (G.2 0, 6, .inl ctf)), (st0, .inl (G.2 0, 4096, .inl stf)), (fs0, .inl (G.2 0, 4096, .inl fsf)), (jn0, .inl (G.2 0, 64, .inl jnf)), (rw0, .inl (G.2 0, 64, .inl rwf)), (fd0, .inl (G.2 1, 40, .inr (.inl fdf))), (af0, .inl (G.2 3, 40, .inl aff)), (kO, .inl (G.2 4, 4, .inr (.inr (.inr (.inr (fun k => if k < 4 then some (kr k) else none)))))), (kr 0, .inl (G.2 0, 64, .inl (KP 0))), (kr 1, .inl (G.2 0, 64, .inl (KP 1))), (kr 2, .inl (G.2 0, 64, .inl (KP 2))), (kr 3, .inl (G.2 0, 64, .inl (KP 3)))] := hD
  refine lv_iload_n hx hb dX4_say_5 rfl (lv_at hl 1 rfl) ?_
  refine lv_iconst (v := 0) hx hb dX4_say_6 (by decide) ?_
  refine lv_bipush (v := 7) hx hb dX4_say_7 (by decide) ?_
  have hPc := va_P.sub (ws' := []) hP [] rfl
  refine rdI (va_runS (As := [.int p1, .int (0 : Int32), .int (7 : Int32)]) (rest := []) ⟨hx, hb, hml, hown, hts⟩ (kX4_in l G p1 (0 : Int32) (7 : Int32) h) (va_cwS 3 hts (gdS q1060 q1061 q6 q1062) rfl rfl rfl (by decide +kernel) ⟨Nat.le_of_ble_eq_true rfl, Nat.le_of_ble_eq_true rfl⟩) (preS hPc hKK) rfl rfl hl.1 rfl (lv_room (Nat.le_of_ble_eq_true rfl)) dX4_say_9 ⟨Nat.zero_le _, Nat.zero_le _⟩) (fun r_1 h => ?_)
  refine lv_if_ne (tgt := 21) hx hb dX4_say_12 (by decide) (fun hc => ?_) (fun hc => ?_)
  · have h := h.1 hc
    refine lv_iload_n hx hb dX4_say_21 rfl (lv_at hl 1 rfl) ?_
    refine lv_if_ne (tgt := 34) hx hb dX4_say_22 (by decide) (fun hc => ?_) (fun hc => ?_)
    · have h := h.1 hc
      refine lv_iload_n hx hb dX4_say_34 rfl (lv_at hl 1 rfl) ?_
      refine lv_iconst (v := 4) hx hb dX4_say_35 (by decide) ?_
      refine lv_icmp_ge (tgt := 47) hx hb dX4_say_36 (by decide) (fun hc => ?_) (fun hc => ?_)
      · have h := h.1 hc
        refine lv_iload_n hx hb dX4_say_47 rfl (lv_at hl 1 rfl) ?_
        refine lv_iconst (v := 4) hx hb dX4_say_48 (by decide) ?_
        refine lv_icmp_ne (tgt := 59) hx hb dX4_say_49 (by decide) (fun hc => ?_) (fun hc => ?_)
        · have h := h.1 hc
          refine lv_iload_n hx hb dX4_say_59 rfl (lv_at hl 2 rfl) ?_
          have hPc := va_P.sub (ws' := []) hP [] rfl
          refine rdI (va_runS (As := [.int p2]) (rest := []) ⟨hx, hb, hml, hown, hts⟩ (kX4_isSet l G p2 h) (va_cwS 1 hts (gdS q1155 q1156 q6 q1157) rfl rfl rfl (by decide +kernel) ⟨Nat.le_of_ble_eq_true rfl, Nat.le_of_ble_eq_true rfl⟩) (preS hPc hKK) rfl rfl hl.1 rfl (lv_room (Nat.le_of_ble_eq_true rfl)) dX4_say_60 ⟨Nat.zero_le _, Nat.zero_le _⟩) (fun r_2 h => ?_)
          refine lv_istore hx hb dX4_say_63 hl (Nat.le_of_ble_eq_true rfl) rfl (fun ls hl => ?_)
          have hl : lv_has ls 6 [(4, .int r_2), (0, .ref m0), (1, .int p1), (2, .int p2), (3, .int p3)] := hl
          have hl := lv_sub (l' := [(0, .ref m0), (1, .int p1), (2, .int p2), (3, .int p3), (4, .int r_2)]) hl [1, 2, 3, 4, 0] rfl
          exact cut65 r_2 _ _ _ hl hP hD hS h
        · have h := h.2 hc
          refine lv_iload_n hx hb dX4_say_52 rfl (lv_at hl 2 rfl) ?_
          have hPc := va_P.sub (ws' := []) hP [] rfl
          refine rdI (va_runS (As := [.int p2]) (rest := []) ⟨hx, hb, hml, hown, hts⟩ (kX4_isGuard l G p2 h) (va_cwS 1 hts (gdS q1152 q1153 q6 q1154) rfl rfl rfl (by decide +kernel) ⟨Nat.le_of_ble_eq_true rfl, Nat.le_of_ble_eq_true rfl⟩) (preS hPc hKK) rfl rfl hl.1 rfl (lv_room (Nat.le_of_ble_eq_true rfl)) dX4_say_53 ⟨Nat.zero_le _, Nat.zero_le _⟩) (fun r_8 h => ?_)
          refine lv_goto (tgt := 63) hx hb dX4_say_56 (by decide) ?_
          refine lv_istore hx hb dX4_say_63 hl (Nat.le_of_ble_eq_true rfl) rfl (fun ls hl => ?_)
          have hl : lv_has ls 6 [(4, .int r_8), (0, .ref m0), (1, .int p1), (2, .int p2), (3, .int p3)] := hl
          have hl := lv_sub (l' := [(0, .ref m0), (1, .int p1), (2, .int p2), (3, .int p3), (4, .int r_8)]) hl [1, 2, 3, 4, 0] rfl
          exact cut65 r_8 _ _ _ hl hP hD hS h
      · have h := h.2 hc
        refine lv_aload_n hx hb dX4_say_39 rfl (lv_at hl 0 rfl) ?_
        refine lv_iload_n hx hb dX4_say_40 rfl (lv_at hl 2 rfl) ?_
        have hPc := hP
        have hSSc : SS G sl sn sa sq (fun _ => False) s _ := (hSS.kept hS.2.1).narrow (fun _ h => False.elim h)
        refine rdI (va_runV (C := RX4) (As := [.int p2]) (rest := []) ⟨hx, hb, hml, hown, hts⟩ (kX4_isSentence l G m0 dO sl ct0 st0 fs0 jn0 rw0 fd0 af0 kO dr kr sa (0 : Int32) mr po mf sp DD ctf stf fsf jnf rwf fdf aff KP sn sq p2 h) (cwV 1 hts (gdV q1148 q1150 qs20 q6 q1151) rfl rfl rfl (by decide +kernel) ⟨Nat.le_of_ble_eq_true rfl, Nat.le_of_ble_eq_true rfl⟩) (preVs hPc hKK hSSc (va_recv hK hPc (ci := 7) (q0 := 0) rfl rfl)) rfl rfl hl.1 rfl (lv_room (Nat.le_of_ble_eq_true rfl)) dX4_say_41 ⟨Nat.zero_le _, Nat.zero_le _⟩) (fun r_9 h => ?_)
        refine lv_goto (tgt := 63) hx hb dX4_say_44 (by decide) ?_
        refine lv_istore hx hb dX4_say_63 hl (Nat.le_of_ble_eq_true rfl) rfl (fun ls hl => ?_)
        have hl : lv_has ls 6 [(4, .int r_9), (0, .ref m0), (1, .int p1), (2, .int p2), (3, .int p3)] := hl
        have hl := lv_sub (l' := [(0, .ref m0), (1, .int p1), (2, .int p2), (3, .int p3), (4, .int r_9)]) hl [1, 2, 3, 4, 0] rfl
        exact cut65 r_9 _ _ _ hl hP hD hS h
    · have h := h.2 hc
      refine lv_iload_n hx hb dX4_say_25 rfl (lv_at hl 2 rfl) ?_
      refine lv_iconst (v := 0) hx hb dX4_say_26 (by decide) ?_
      refine lv_iconst (v := 5) hx hb dX4_say_27 (by decide) ?_
      have hPc := va_P.sub (ws' := []) hP [] rfl
      refine rdI (va_runS (As := [.int p2, .int (0 : Int32), .int (5 : Int32)]) (rest := []) ⟨hx, hb, hml, hown, hts⟩ (kX4_in l G p2 (0 : Int32) (5 : Int32) h) (va_cwS 3 hts (gdS q1060 q1061 q6 q1062) rfl rfl rfl (by decide +kernel) ⟨Nat.le_of_ble_eq_true rfl, Nat.le_of_ble_eq_true rfl⟩) (preS hPc hKK) rfl rfl hl.1 rfl (lv_room (Nat.le_of_ble_eq_true rfl)) dX4_say_28 ⟨Nat.zero_le _, Nat.zero_le _⟩) (fun r_10 h => ?_)
      refine lv_goto (tgt := 63) hx hb dX4_say_31 (by decide) ?_
      refine lv_istore hx hb dX4_say_63 hl (Nat.le_of_ble_eq_true rfl) rfl (fun ls hl => ?_)
      have hl : lv_has ls 6 [(4, .int r_10), (0, .ref m0), (1, .int p1), (2, .int p2), (3, .int p3)] := hl
      have hl := lv_sub (l' := [(0, .ref m0), (1, .int p1), (2, .int p2), (3, .int p3), (4, .int r_10)]) hl [1, 2, 3, 4, 0] rfl
      exact cut65 r_10 _ _ _ hl hP hD hS h
  · have h := h.2 hc
    refine lv_aload_n hx hb dX4_say_15 rfl (lv_at hl 0 rfl) ?_
    refine lv_iconst (v := 1) hx hb dX4_say_16 (by decide) ?_
    have hPc := hP
    have hDc := hD.sub (ws' := [(m0, .inr (7, [.int (0 : Int32), .int mr, .long po, .ref dO, .ref sl, .ref ct0, .int mf, .int sp, .ref st0, .ref fs0, .ref jn0, .ref rw0, .ref fd0, .ref af0, .ref kO])), (dO, .inl (G.2 4, 6, .inr (.inr (.inr (.inr (fun k => if k < 6 then some (dr k) else none)))))), (dr 0, .inl (G.2 0, 64, .inl (DD 0))), (dr 1, .inl (G.2 0, 64, .inl (DD 1))), (dr 2, .inl (G.2 0, 64, .inl (DD 2))), (dr 3, .inl (G.2 0, 64, .inl (DD 3))), (dr 4, .inl (G.2 0, 64, .inl (DD 4))), (dr 5, .inl (G.2 0, 64, .inl (DD 5))), (ct0, .inl (G.2 0, 6, .inl ctf)), (st0, .inl (G.2 0, 4096, .inl stf)), (fs0, .inl (G.2 0, 4096, .inl fsf)), (jn0, .inl (G.2 0, 64, .inl jnf)), (rw0, .inl (G.2 0, 64, .inl rwf)), (fd0, .inl (G.2 1, 40, .inr (.inl fdf))), (af0, .inl (G.2 3, 40, .inl aff)), (kO, .inl (G.2 4, 4, .inr (.inr (.inr (.inr (fun k => if k < 4 then some (kr k) else none)))))), (kr 0, .inl (G.2 0, 64, .inl (KP 0))), (kr 1, .inl (G.2 0, 64, .inl (KP 1))), (kr 2, .inl (G.2 0, 64, .inl (KP 2))), (kr 3, .inl (G.2 0, 64, .inl (KP 3)))]) [0, 1, 2, 3, 4, 5, 6, 7, 8, 9, 10, 11, 12, 13, 14, 15, 16, 17, 18, 19] (by decide) rfl
    have hFc := va_free (wc := [(m0, .inr (7, [.int (0 : Int32), .int mr, .long po, .ref dO, .ref sl, .ref ct0, .int mf, .int sp, .ref st0, .ref fs0, .ref jn0, .ref rw0, .ref fd0, .ref af0, .ref kO])), (dO, .inl (G.2 4, 6, .inr (.inr (.inr (.inr (fun k => if k < 6 then some (dr k) else none)))))), (dr 0, .inl (G.2 0, 64, .inl (DD 0))), (dr 1, .inl (G.2 0, 64, .inl (DD 1))), (dr 2, .inl (G.2 0, 64, .inl (DD 2))), (dr 3, .inl (G.2 0, 64, .inl (DD 3))), (dr 4, .inl (G.2 0, 64, .inl (DD 4))), (dr 5, .inl (G.2 0, 64, .inl (DD 5))), (ct0, .inl (G.2 0, 6, .inl ctf)), (st0, .inl (G.2 0, 4096, .inl stf)), (fs0, .inl (G.2 0, 4096, .inl fsf)), (jn0, .inl (G.2 0, 64, .inl jnf)), (rw0, .inl (G.2 0, 64, .inl rwf)), (fd0, .inl (G.2 1, 40, .inr (.inl fdf))), (af0, .inl (G.2 3, 40, .inl aff)), (kO, .inl (G.2 4, 4, .inr (.inr (.inr (.inr (fun k => if k < 4 then some (kr k) else none)))))), (kr 0, .inl (G.2 0, 64, .inl (KP 0))), (kr 1, .inl (G.2 0, 64, .inl (KP 1))), (kr 2, .inl (G.2 0, 64, .inl (KP 2))), (kr 3, .inl (G.2 0, 64, .inl (KP 3)))]) hD hS hA [0, 1, 2, 3, 4, 5, 6, 7, 8, 9, 10, 11, 12, 13, 14, 15, 16, 17, 18, 19] rfl
    refine va_calli (va_runV (C := RX4) (As := [.int (1 : Int32)]) (rest := []) ⟨hx, hb, hml, hown, hts⟩ (kX4_no l G m0 dO sl ct0 st0 fs0 jn0 rw0 fd0 af0 kO dr kr sa (0 : Int32) mr po mf sp DD ctf stf fsf jnf rwf fdf aff KP sn sq (1 : Int32) _ h) (cwV 1 hts (gdV q1063 q1065 qs9 q6 q1066) rfl rfl rfl (by decide +kernel) ⟨Nat.le_of_ble_eq_true rfl, Nat.le_of_ble_eq_true rfl⟩) (preVw hPc hKK hDc (va_recv hK hPc (ci := 7) (q0 := 0) rfl rfl)) rfl rfl hl.1 rfl (lv_room (Nat.le_of_ble_eq_true rfl)) dX4_say_17 ⟨Nat.zero_le _, Nat.zero_le _⟩) hS (fun q _ h => hFc q h) hFc (fun r_11 u t H1 locs ht hvm h hB hz1 hk1 hS => ?_)
    obtain ⟨th_5, rfl⟩ : ∃ z, z = u := ⟨_, rfl⟩
    obtain ⟨hP1, hD1⟩ := hB
    rw [ht] at hP1
    have hP := hP1
    have hD : va_D A [(m0, .inr (7, [.int th_5, .int mr, .long po, .ref dO, .ref sl, .ref ct0, .int mf, .int sp, .ref st0, .ref fs0, .ref jn0, .ref rw0, .ref fd0, .ref af0, .ref kO])), (dO, .inl (G.2 4, 6, .inr (.inr (.inr (.inr (fun k => if k < 6 then some (dr k) else none)))))), (dr 0, .inl (G.2 0, 64, .inl (DD 0))), (dr 1, .inl (G.2 0, 64, .inl (DD 1))), (dr 2, .inl (G.2 0, 64, .inl (DD 2))), (dr 3, .inl (G.2 0, 64, .inl (DD 3))), (dr 4, .inl (G.2 0, 64, .inl (DD 4))), (dr 5, .inl (G.2 0, 64, .inl (DD 5))), (ct0, .inl (G.2 0, 6, .inl ctf)), (st0, .inl (G.2 0, 4096, .inl stf)), (fs0, .inl (G.2 0, 4096, .inl fsf)), (jn0, .inl (G.2 0, 64, .inl jnf)), (rw0, .inl (G.2 0, 64, .inl rwf)), (fd0, .inl (G.2 1, 40, .inr (.inl fdf))), (af0, .inl (G.2 3, 40, .inl aff)), (kO, .inl (G.2 4, 4, .inr (.inr (.inr (.inr (fun k => if k < 4 then some (kr k) else none)))))), (kr 0, .inl (G.2 0, 64, .inl (KP 0))), (kr 1, .inl (G.2 0, 64, .inl (KP 1))), (kr 2, .inl (G.2 0, 64, .inl (KP 2))), (kr 3, .inl (G.2 0, 64, .inl (KP 3)))] := hD1.weaken (fun _ _ _ h => hFc _ h)
    generalize H1 = H at hP hS ⊢
    have hP : PP G [(m0, .inr (7, [.int th_5, .int mr, .long po, .ref dO, .ref sl, .ref ct0, .int mf, .int sp, .ref st0, .ref fs0, .ref jn0, .ref rw0, .ref fd0, .ref af0, .ref kO])), (dO, .inl (G.2 4, 6, .inr (.inr (.inr (.inr (fun k => if k < 6 then some (dr k) else none)))))), (dr 0, .inl (G.2 0, 64, .inl (DD 0))), (dr 1, .inl (G.2 0, 64, .inl (DD 1))), (dr 2, .inl (G.2 0, 64, .inl (DD 2))), (dr 3, .inl (G.2 0, 64, .inl (DD 3))), (dr 4, .inl (G.2 0, 64, .inl (DD 4))), (dr 5, .inl (G.2 0, 64, .inl (DD 5))), (ct0, .inl (G.2 0, 6, .inl ctf)), (st0, .inl (G.2 0, 4096, .inl stf)), (fs0, .inl (G.2 0, 4096, .inl fsf)), (jn0, .inl (G.2 0, 64, .inl jnf)), (rw0, .inl (G.2 0, 64, .inl rwf)), (fd0, .inl (G.2 1, 40, .inr (.inl fdf))), (af0, .inl (G.2 3, 40, .inl aff)), (kO, .inl (G.2 4, 4, .inr (.inr (.inr (.inr (fun k => if k < 4 then some (kr k) else none)))))), (kr 0, .inl (G.2 0, 64, .inl (KP 0))), (kr 1, .inl (G.2 0, 64, .inl (KP 1))), (kr 2, .inl (G.2 0, 64, .inl (KP 2))), (kr 3, .inl (G.2 0, 64, .inl (KP 3)))] H := hP
    subst hQC; exact W.iret (v := r_11) hx hb hr (fun t ht hW => ⟨⟨_, th_5, rfl, h, by rw [ht]; exact hP, hD⟩, hS.F ht⟩) hS.2.2 dX4_say_20
