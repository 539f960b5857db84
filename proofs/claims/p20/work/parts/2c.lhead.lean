def R_law : String := "NightdeskRotaLaw"
def lw_P (b : Addr) (xs : List Int32) (args : Array Value) (s : State) : Prop := args = #[.ref b] ∧ s.IntsAt b xs ∧ xs.length ≤ 2048 ∧ (Jvm.Cond.and given_1 narrow_1).before args s = true
/-- what a walk over the start with the record d0 says of its end, said of the start itself -/
theorem lw_closed {s t : State} {o : Outcome} {d0 : Drawn} {L : List Loc} {k n : Nat} (hd0 : s.drawn.sameBut d0 lw_cs) (hv : ∃ v, o = .returned v) (hW : (s.setDrawn d0).WarmedH t.vm) (hs : (s.setDrawn d0).sameButNew ({ t with vm := s.vm } : State) L k n) : State.butDraws s t lw_cs (fun t1 => Framed s o t1 L k n) := by
  have h2 : t.drawn = d0 := congrArg State.drawn hs.1
  refine ⟨⟨hv, hW, State.sameButNew.setDrawn hs s.drawn⟩, ?_, by decide⟩
  rw [h2]
  exact hd0
def lw_Q (_ : Array Value) (s : State) (o : Outcome) (t : State) : Prop := o = .returned (some (.int 1)) ∧ State.butDraws s t lw_cs (fun t1 => Framed s o t1 [] 1201024 5493034)
def lw_Z (below : List Frame) (a : Array Value) (s : State) : State → Prop := fun t => ∃ o, t.status = .running ∧ Ended t below o ∧ lw_Q a s o t
/-- the law's own end, with 1 on the stack, nothing written that was there before, its room as the claim has it; d0: the record of draws at this point (at the entry s.drawn: begin with 'refine W.base ?_' and 'have hd0 := Drawn.sameBut.refl s.drawn lw_cs') -/
theorem lw_ret {p : Program} {l : Launch} {e : Env} {s : State} {m : MethodId} {below : List Frame} {meth : Method} {c : Code} {b : Nat} {d0 : Drawn} (hd0 : s.drawn.sameBut d0 lw_cs) (hx : p.tables.exec = Jvm.exec) (hb : c.code = code) (hr : meth.sig.returnType = ret) (hlocks : meth.locks = false) {pc : Nat} {H : Heap} {ls : Array Slot} (hdg : decode code pc = .ok (.ireturn, 1)) : W p l e room_1 (s.setDrawn d0) m #[Value.ref b] below meth c H [] 1201024 5493034 (lw_Z below #[Value.ref b] s) (F0 m pc ls [.int 1]) := by
  intro T hT X
  obtain ⟨fs, hret, hrun, hended, hW, hframe⟩ := X.leave (v := some (.int 1)) (hlocks := hlocks) (fun h => by rw [hr] at h; cases h)
  have hmeth' : T.vm.method? m = some meth := X.method'
  refine ⟨T.setFrames fs, ?_, .returned (some (.int 1)), hrun, hended, rfl, lw_closed hd0 ⟨_, rfl⟩ hW hframe⟩
  jvm_step X.here [X.here.top, hx, hb, hdg, hmeth', hr, ret, narrow_b1]
  (try refine ⟨rfl, ?_⟩); (try refine ⟨rfl, ?_⟩)
  first | (intro acts; rw [hret _ acts rfl rfl rfl]) | rw [hret _ _ rfl rfl rfl]
  exact Steps.refl _
/-- what holds at the law's entry: the machine, the code, the tables' words (any of lw_tbl by 'hts w (by decide +kernel)'), the script of L ints xs at the cell b, what the Statement gives of the start (any of its parts by flat_of_before) -/
def lw_At (p : Program) (s : State) (m : MethodId) (meth : Method) (c : Code) (b L : Nat) (xs : Nat → Int32) : Prop :=
  p.tables.exec = Jvm.exec ∧ c.code = code ∧ meth.sig.returnType = ret ∧ c.maxLocals = 8 ∧ s.vm.findClass R_law = some m.cls ∧ (∀ w ∈ lw_tbl, w.before #[Value.ref b] s = true) ∧ va_X b L xs s s.heap ∧ b < s.heap.size ∧ meth.locks = false ∧ (Jvm.Cond.and given_1 narrow_1).before #[Value.ref b] s = true
theorem vxNo {p : Program} {l : Launch} {e : Env} {R : Room} {s : State} {m : MethodId} {args : Array Value} {below : List Frame} {meth : Method} {c : Code} {H : Heap} {locs : List Loc} {cells slots mc ms : Nat} {g : JFrame} {rest : List Value} {Qa : State → Outcome → State → Prop} {free : Addr → Prop} (h : vx_Run p l e R s m args below meth c H locs cells slots mc ms g rest Qa (fun _ _ _ => False) free) : va_Run p l e R s m args below meth c H locs cells slots mc ms g rest Qa free := fun T hT X => by
  rcases h T hT X with h | ⟨_, _, _, _, _, _, _, _, _, _, _, _, h, _⟩
  · exact h
  · exact h.elim
/-- the sentences of the reference between calls: outside of the places B, inside of what the law made (A) -/
def SL (G : GT) (sl sn : Nat) (sa : Nat → Nat) (sq : Nat → Nat → Int32) (A B : Nat → Prop) (U : State) (H : Heap) : Prop :=
  ∃ (ed : Nat) (mcn : Int32), (PP G [(sl, .inr (2, [.int mcn, .ref ed, .int (nI sn)]))] H ∧ ¬ B sl) ∧ A sl ∧ RWS G sn sa sq (fun q => B q ∨ q = sl ∨ q = ed) U H ∧ (sn = 0 → ZE ed (fun q => B q ∨ q = sl) U H) ∧
    (0 < sn → ∃ (cap : Nat) (ef : Nat → Option Nat), (PP G [(ed, .inl (G.2 5, cap, .inr (.inr (.inr (.inr ef)))))] H ∧ ¬ B ed) ∧ A ed ∧ (∀ k, k < sn → ef k = some (sa k)) ∧ (∀ k, sn ≤ k → ef k = none) ∧ sn ≤ cap ∧ cap < 2 ^ 31)
theorem SL.ss {G : GT} {sl sn : Nat} {sa : Nat → Nat} {sq : Nat → Nat → Int32} {A B : Nat → Prop} {U : State} {H : Heap} (h : SL G sl sn sa sq A B U H) : SS G sl sn sa sq B U H := by
  obtain ⟨ed, mcn, h1, -, h2, h3, h4⟩ := h
  exact ⟨ed, mcn, h1, h2.narrow (fun _ h => Or.inl h), fun h0 => (h3 h0).narrow (fun _ h => Or.inl h), fun h0 => by
    obtain ⟨cap, ef, h5, -, h6, -, h7⟩ := h4 h0
    exact ⟨cap, ef, h5, h6, h7⟩⟩
theorem SL.kept {G : GT} {sl sn : Nat} {sa : Nat → Nat} {sq : Nat → Nat → Int32} {A B : Nat → Prop} {U : State} {H H1 : Heap} (h : SL G sl sn sa sq A B U H) (hq : ∀ a : Nat, a < H.size → ¬ B a → H1[a]? = H[a]?) : SL G sl sn sa sq A B U H1 := by
  obtain ⟨ed, mcn, h1, hA, h2, h3, h4⟩ := h
  refine ⟨ed, mcn, keep1 (x := (sl, _)) h1 hq, hA, h2.kept (fun a ha hb => hq a ha (fun q => hb (Or.inl q))), fun h0 => (h3 h0).kept (fun a ha hb => hq a ha (fun q => hb (Or.inl q))), fun h0 => ?_⟩
  obtain ⟨cap, ef, h5, h6⟩ := h4 h0
  exact ⟨cap, ef, keep1 (x := (ed, _)) h5 hq, h6⟩
theorem SL.narrow {G : GT} {sl sn : Nat} {sa : Nat → Nat} {sq : Nat → Nat → Int32} {A B C : Nat → Prop} {U : State} {H : Heap} (h : SL G sl sn sa sq A B U H) (hAB : ∀ q, C q → B q) : SL G sl sn sa sq A C U H := by
  obtain ⟨ed, mcn, h1, hA, h2, h3, h4⟩ := h
  refine ⟨ed, mcn, ⟨h1.1, fun q => h1.2 (hAB _ q)⟩, hA, h2.narrow (fun q h => h.elim (fun z => Or.inl (hAB q z)) Or.inr), fun h0 => (h3 h0).narrow (fun q h => h.elim (fun z => Or.inl (hAB q z)) Or.inr), fun h0 => ?_⟩
  obtain ⟨cap, ef, h5, h6⟩ := h4 h0
  exact ⟨cap, ef, ⟨h5.1, fun q => h5.2 (hAB _ q)⟩, h6⟩
abbrev BL (ad : List Nat) (H : Heap) : Nat → Prop := fun q => q ∈ ad ∨ H.size ≤ q
theorem subIn {W wc : va_W} {ad : List Nat} {H : Heap} (hW : W.map Prod.fst = ad) (pl : List Nat) (hC : pl.map (fun i => W[i]?) = wc.map some) : ∀ q, va_A wc H.size q → BL ad H q := by
  rintro q (⟨k, e, hk⟩ | h)
  · have h1 : (wc.map some)[k]? = some (some (q, e)) := by rw [List.getElem?_map, hk]; rfl
    rw [← hC, List.getElem?_map] at h1
    cases hp : pl[k]? with
    | none => rw [hp] at h1; cases h1
    | some j =>
      rw [hp] at h1
      have h2 : W[j]? = some (q, e) := Option.some.inj h1
      refine Or.inl ?_
      rw [← hW]
      exact List.mem_map.mpr ⟨(q, e), List.mem_of_getElem? h2, rfl⟩
  · exact Or.inr h
theorem slStep {G : GT} {sl sn : Nat} {sa : Nat → Nat} {sq : Nat → Nat → Int32} {A A1 : Nat → Prop} {ad : List Nat} {U : State} {H H1 : Heap} (h : SL G sl sn sa sq A (BL ad H) U H) (hF : ∀ q, A1 q → BL ad H q) (hz : H.size ≤ H1.size) (hk : ∀ q : Nat, q < H.size → ¬ A1 q → H1[q]? = H[q]?) : SL G sl sn sa sq A (BL ad H1) U H1 :=
  (h.kept (H1 := H1) (fun a ha hb => hk a ha (fun q => hb (hF a q)))).narrow (fun q hq => hq.elim Or.inl (fun h => Or.inr (Nat.le_trans hz h)))
theorem nI_eq0 {n : Nat} (hn : n < 2 ^ 31) (h : (0 : Int32) = nI n) : n = 0 := by
  have h1 := congrArg Int32.toInt h
  rw [nI_toInt hn] at h1
  have h2 : (0 : Int32).toInt = 0 := by decide
  omega
def EFO (cap : Nat) (ef : Nat → Option Nat) (sn : Nat) (sa : Nat → Nat) (rw' : Nat) : Prop := (∀ k, k < sn → ef k = some (sa k)) ∧ ef sn = some rw' ∧ (∀ k, sn < k → ef k = none) ∧ sn + 1 ≤ cap ∧ cap < 2 ^ 31
def upN (sa : Nat → Nat) (sn a : Nat) : Nat → Nat := fun k => if k = sn then a else sa k
def upF (sq : Nat → Nat → Int32) (sn : Nat) (f : Nat → Int32) : Nat → Nat → Int32 := fun k => if k = sn then f else sq k
theorem dPush {A : Nat → Prop} {W : va_W} {ad : List Nat} {x : Nat × va_E} (hD : va_D A W) (hW : W.map Prod.fst = ad) (hx : x.1 ∉ ad) (hA : A x.1) : va_D A (W ++ [x]) := by
  have hmem : ∀ (i : Nat) (p : Nat × va_E), W[i]? = some p → p.1 ∈ ad := fun i p h => by rw [← hW]; exact List.mem_map.mpr ⟨p, List.mem_of_getElem? h, rfl⟩
  have hcase : ∀ (i : Nat) (p : Nat × va_E), (W ++ [x])[i]? = some p → W[i]? = some p ∨ (i = W.length ∧ p = x) := fun i p h => by
    by_cases hl : i < W.length
    · rw [List.getElem?_append_left hl] at h
      exact Or.inl h
    · rw [List.getElem?_append_right (by omega)] at h
      have h1 : i - W.length < 1 := (List.getElem?_eq_some_iff.mp h).1
      have h2 : i - W.length = 0 := by omega
      rw [h2] at h
      cases h
      exact Or.inr ⟨by omega, rfl⟩
  refine ⟨fun i j p q hp hq e => ?_, fun k q hq => ?_⟩
  · rcases hcase i p hp with h1 | ⟨h1, rfl⟩ <;> rcases hcase j q hq with h2 | ⟨h2, rfl⟩
    · exact hD.1 i j p q h1 h2 e
    · exact absurd (e ▸ hmem i p h1) hx
    · exact absurd (e ▸ hmem j q h2) hx
    · omega
  · rcases hcase k q hq with h1 | ⟨-, rfl⟩
    · exact hD.2 k q h1
    · exact hA
/-- the list and its row are two things -/
theorem listNe {G : GT} {sl ed n : Nat} {fs : List Value} {f : Nat → Option Nat} {ci : Nat} {H : Heap} {U : State} (hK : va_K G.1 vwCl (TY G) U) (h1 : PP G [(sl, .inr (ci, fs))] H) (h2 : PP G [(ed, .inl (G.2 5, n, .inr (.inr (.inr (.inr f)))))] H) : ed ≠ sl := by
  rintro rfl
  obtain ⟨r, hc, cell, q1, q2, q3, q4⟩ := h1 0 _ rfl
  have h3 := h2 0 _ rfl
  have h4 : cell = vp_cell (G.2 5) (n, .inr (.inr (.inr (.inr f)))) := Option.some.inj (q1.symm.trans h3)
  have h5 : G.1.1 ci = G.2 5 := by rw [← q2, h4]; rfl
  obtain ⟨-, hfc, kC, hkC, hkind⟩ := hK.1 ci _ hc
  obtain ⟨kA, comp, k1, k2, -⟩ := (hK.2 5 _ rfl).2
  rw [h5] at hkC
  have h6 := Option.some.inj (hkC.symm.trans k1)
  rw [h6] at hkind
  rw [k2] at hkind
  cases hkind
/-- the sentences behind a sentence more: the law's world W, the list, its row and the new row -/
theorem slNew {G : GT} {sl sn cap e1 rw' : Nat} {sa : Nat → Nat} {sq : Nat → Nat → Int32} {lm ln : Int32} {ef : Nat → Option Nat} {f : Nat → Int32} {A B1 : Nat → Prop} {ad : List Nat} {s : State} {W : va_W} {H H1 : Heap} (hW : W.map Prod.fst = ad) (hP : PP G (W ++ [(sl, .inr (2, [.int lm, .ref e1, .int ln])), (e1, .inl (G.2 5, cap, .inr (.inr (.inr (.inr ef))))), (rw', .inl (G.2 0, 4, .inl f))]) H1) (hD : va_D A (W ++ [(sl, .inr (2, [.int lm, .ref e1, .int ln])), (e1, .inl (G.2 5, cap, .inr (.inr (.inr (.inr ef))))), (rw', .inl (G.2 0, 4, .inl f))])) (hRL : RWS G sn sa sq (fun q => BL ad H q ∨ B1 q) s H) (hz : H.size ≤ H1.size) (hk : ∀ q : Nat, q < H.size → ¬ B1 q → H1[q]? = H[q]?) (hB1 : B1 sl) (hB2 : B1 e1) (hln : ln = nI (sn + 1)) (hE : EFO cap ef sn sa rw') : SL G sl (sn + 1) (upN sa sn rw') (upF sq sn f) A (BL ad H1) s H1 := by
  subst hln
  have g0 : (W ++ [(sl, .inr (2, [.int lm, .ref e1, .int (nI (sn + 1))])), (e1, .inl (G.2 5, cap, .inr (.inr (.inr (.inr ef))))), (rw', .inl (G.2 0, 4, .inl f))] : va_W)[W.length]? = some (sl, .inr (2, [.int lm, .ref e1, .int (nI (sn + 1))])) := by simp
  have g1 : (W ++ [(sl, .inr (2, [.int lm, .ref e1, .int (nI (sn + 1))])), (e1, .inl (G.2 5, cap, .inr (.inr (.inr (.inr ef))))), (rw', .inl (G.2 0, 4, .inl f))] : va_W)[W.length + 1]? = some (e1, .inl (G.2 5, cap, .inr (.inr (.inr (.inr ef))))) := by simp
  have g2 : (W ++ [(sl, .inr (2, [.int lm, .ref e1, .int (nI (sn + 1))])), (e1, .inl (G.2 5, cap, .inr (.inr (.inr (.inr ef))))), (rw', .inl (G.2 0, 4, .inl f))] : va_W)[W.length + 2]? = some (rw', .inl (G.2 0, 4, .inl f)) := by simp
  have hout : ∀ (i : Nat) (p : Nat × va_E), W.length ≤ i → (W ++ [(sl, .inr (2, [.int lm, .ref e1, .int (nI (sn + 1))])), (e1, .inl (G.2 5, cap, .inr (.inr (.inr (.inr ef))))), (rw', .inl (G.2 0, 4, .inl f))] : va_W)[i]? = some p → ¬ BL ad H1 p.1 := by
    intro i p hi hp hb
    rcases hb with hb | hb
    · rw [← hW] at hb
      obtain ⟨q, hq, e⟩ := List.mem_map.mp hb
      obtain ⟨j, hj, hj2⟩ := List.mem_iff_getElem.mp hq
      have h1 : (W ++ [(sl, .inr (2, [.int lm, .ref e1, .int (nI (sn + 1))])), (e1, .inl (G.2 5, cap, .inr (.inr (.inr (.inr ef))))), (rw', .inl (G.2 0, 4, .inl f))] : va_W)[j]? = some q := by
        rw [List.getElem?_append_left hj, List.getElem?_eq_getElem hj, hj2]
      have h2 := hD.1 j i q p h1 hp e
      omega
    · exact Nat.not_lt.mpr hb (vx_lt hP hp)
  obtain ⟨e1h, e2h, e3h, e4h, e5h⟩ := hE
  refine ⟨e1, lm, ⟨hP.sub [W.length] (by simp), hout _ _ (Nat.le_refl _) g0⟩, hD.2 _ _ g0, ?_, fun h => absurd h (Nat.succ_ne_zero _), fun _ => ⟨cap, ef, ⟨hP.sub [W.length + 1] (by simp), hout _ _ (by omega) g1⟩, hD.2 _ _ g1, ?_, ?_, e4h, e5h⟩⟩
  · intro k hk1
    by_cases hkn : k = sn
    · subst hkn
      simp only [upN, upF, if_true]
      refine ⟨hP.sub [W.length + 2] (by simp), fun hb => ?_⟩
      rcases hb with hb | hb | hb
      · exact hout _ _ (by omega) g2 hb
      · have h2 := hD.1 _ _ _ _ g2 g0 hb
        omega
      · have h2 := hD.1 _ _ _ _ g2 g1 hb
        omega
    · have hk2 : k < sn := by omega
      obtain ⟨q1, q2⟩ := hRL k hk2
      simp only [upN, upF, if_neg hkn]
      refine ⟨va_P.kept q1 (fun j q hj => ?_), fun hb => ?_⟩
      · match j, hj with
        | 0, hj =>
          cases hj
          exact hk _ (vx_lt q1 (k := 0) rfl) (fun z => q2 (Or.inr z))
      · rcases hb with (hb | hb) | hb | hb
        · exact q2 (Or.inl (Or.inl hb))
        · exact q2 (Or.inl (Or.inr (Nat.le_trans hz hb)))
        · exact q2 (Or.inr (hb ▸ hB1))
        · exact q2 (Or.inr (hb ▸ hB2))
  · intro k hk1
    by_cases hkn : k = sn
    · subst hkn
      rw [e2h]
      simp [upN]
    · rw [e1h k (by omega)]
      simp [upN, hkn]
  · intro k hk1
    exact e3h k (by omega)
/-- room enough, whichever the claim has -/
theorem roC {a : Nat} (h : a ≤ 600900) : a ≤ room_1.cells := Nat.le_trans h (Nat.le_of_ble_eq_true rfl)
theorem roS {a : Nat} (h : a ≤ 5493000) : a ≤ room_1.slots := Nat.le_trans h (Nat.le_of_ble_eq_true rfl)
