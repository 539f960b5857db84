def PRT (sq : Nat → Nat → Int32) (k j : Nat) : Prop := ((sq k 0 = 1 ∨ sq k 0 = 2 ∨ sq k 0 = 3) ∧ j = (sq k 1).toNatClampNeg) ∨ (¬ sq k 0 = 0 ∧ ¬ sq k 0 = 1 ∧ j = (sq k 2).toNatClampNeg)
theorem uX4_truthOfF {post : Int64 → Int32 × (Nat → Int32) × (Nat → Int32) × (Nat → Int32) × (Nat → Int32) → Prop} {k c : Nat} {po : Int64} {sp : Int32} {DD : Nat → Nat → Int32} {stf fsf jnf rwf : Nat → Int32} {sq : Nat → Nat → Int32} {yf T : Nat → Int64} (hb : k ≤ 40) (hb2 : 40 ≤ 40) (hw : wfS k (sq k 0) (sq k 1) (sq k 2)) (hD : DOK DD) (hc : c + 6 < 2 ^ 31) (hS : STP c sp stf) (hf : RF fsf) (hj : R64 jnf) (hr : R64 rwf) (hT : SEM po (ED DD) (sq k 0) (sq k 1) (sq k 2) T (T k)) (hsub : ∀ j, j < k → SUBW (T j) po) (ha : ∀ j, PRT sq k j → yf j = T j) (h : ∀ (u : Int32 × (Nat → Int32) × (Nat → Int32) × (Nat → Int32) × (Nat → Int32)), STP (c + 6) u.1 u.2.1 → RF u.2.2.1 → R64 u.2.2.2.1 → R64 u.2.2.2.2 → post (T k) u) : wX4_truthOfF post k po sp DD stf fsf jnf rwf yf sq := by
  have hS6 : STP (c + 6) sp stf := hS.mono (by omega)
  have fin : ∀ r, (∀ w, w < 64 → (mw r w = true ↔ mw po w = true ∧ SB po (ED DD) (sq k 0) (sq k 1) (sq k 2) T w)) → r = T k := fun r hr2 => mwX (fun w hw => (hr2 w hw).trans (hT w hw).symm)
  have ha1 : (sq k 0 = 1 ∨ sq k 0 = 2 ∨ sq k 0 = 3) → yf (sq k 1).toNatClampNeg = T (sq k 1).toNatClampNeg := fun q => ha _ (Or.inl ⟨q, rfl⟩)
  have ha2 : ¬ sq k 0 = 0 → ¬ sq k 0 = 1 → yf (sq k 2).toNatClampNeg = T (sq k 2).toNatClampNeg := fun q q2 => ha _ (Or.inr ⟨q, q2, rfl⟩)
  unfold wX4_truthOfF
  rw [c0, c1, c2]
  obtain ⟨d, hd, hd2⟩ := hw.1
  rw [hd2] at hw ha1 ha2 fin
  rw [hd2]
  rcases (show d = 0 ∨ d = 1 ∨ d = 2 ∨ d = 3 ∨ d = 4 ∨ d = 5 ∨ d = 6 ∨ d = 7 from by omega) with rfl | rfl | rfl | rfl | rfl | rfl | rfl | rfl
  · obtain ⟨a, ha3, ea⟩ := wf0.mp hw
    rw [ea] at fin ⊢
    refine iT rfl (uX4_fact ha3 (fun r hr2 => ?_))
    rw [fin r (fun w hw => (hr2 w hw).trans (cong2 fun _ => ?_))]
    · exact h _ hS6 hf hj hr
    · refine Iff.trans ?_ sb0.symm
      rw [nI_clamp (show a < 2 ^ 31 by omega)]
  · obtain ⟨a, ha3, ea⟩ := wf1.mp hw
    have y1 := ha1 (Or.inl rfl)
    rw [ea] at y1 fin ⊢
    refine iF (by decide) (iT rfl ⟨nI_in (by omega) (by omega), ?_⟩)
    rw [y1, fin (po &&& (T (nI a).toNatClampNeg ^^^ (-1 : Int64))) (fun w hw => ?_)]
    · exact h _ hS6 hf hj hr
    · rw [mwA, mwN hw]
      exact cong2 fun _ => sb1.symm
  · obtain ⟨⟨a, ha3, ea⟩, ⟨b, hb3, eb⟩⟩ := wf2.mp hw
    have y1 := ha1 (Or.inr (Or.inl rfl))
    have y2 := ha2 (by decide) (by decide)
    have s1 : SUBW (T (nI a).toNatClampNeg) po := by
      rw [nI_clamp (show a < 2 ^ 31 by omega)]
      exact hsub a ha3
    have s2 : SUBW (T (nI b).toNatClampNeg) po := by
      rw [nI_clamp (show b < 2 ^ 31 by omega)]
      exact hsub b hb3
    rw [ea] at y1
    rw [eb] at y2
    rw [ea, eb] at fin
    rw [ea, eb]
    refine iF (by decide) (iF (by decide) (iT rfl ⟨nI_in (by omega) (by omega), nI_in (by omega) (by omega), ?_⟩))
    rw [y1, y2, fin (T (nI a).toNatClampNeg &&& T (nI b).toNatClampNeg) (fun w hw => ?_)]
    · exact h _ hS6 hf hj hr
    · rw [mwA]
      exact ⟨fun q => ⟨s1 w hw q.1, sb2.mpr q⟩, fun q => sb2.mp q.2⟩
  · obtain ⟨⟨a, ha3, ea⟩, ⟨b, hb3, eb⟩⟩ := wf3.mp hw
    have y1 := ha1 (Or.inr (Or.inr rfl))
    have y2 := ha2 (by decide) (by decide)
    have s1 : SUBW (T (nI a).toNatClampNeg) po := by
      rw [nI_clamp (show a < 2 ^ 31 by omega)]
      exact hsub a ha3
    have s2 : SUBW (T (nI b).toNatClampNeg) po := by
      rw [nI_clamp (show b < 2 ^ 31 by omega)]
      exact hsub b hb3
    rw [ea] at y1
    rw [eb] at y2
    rw [ea, eb] at fin
    rw [ea, eb]
    refine iF (by decide) (iF (by decide) (iF (by decide) (iT rfl ⟨nI_in (by omega) (by omega), nI_in (by omega) (by omega), ?_⟩)))
    rw [y1, y2, fin (T (nI a).toNatClampNeg ||| T (nI b).toNatClampNeg) (fun w hw => ?_)]
    · exact h _ hS6 hf hj hr
    · rw [mwO]
      exact ⟨fun q => ⟨q.elim (s1 w hw) (s2 w hw), sb3.mpr q⟩, fun q => sb3.mp q.2⟩
  · obtain ⟨⟨a, ha3, ea⟩, ⟨b, hb3, eb⟩⟩ := wf4.mp hw
    have y2 := ha2 (by decide) (by decide)
    rw [eb] at y2
    rw [ea, eb] at fin
    rw [ea, eb]
    refine iF (by decide) (iF (by decide) (iF (by decide) (iF (by decide) (iT rfl ⟨nI_in (by omega) (by omega), ?_⟩))))
    rw [y2]
    refine uX4_known hD ha3 (fun r hr2 => ?_)
    rw [fin r (fun w hw => (hr2 w hw).trans (cong2 fun _ => ?_))]
    · exact h _ hS6 hf hj hr
    · refine Iff.trans ?_ sb4.symm
      rw [nI_clamp (show a < 2 ^ 31 by omega)]
      exact Iff.rfl
  · obtain ⟨⟨a, _, ha3, ea⟩, ⟨b, hb3, eb⟩⟩ := wf5.mp hw
    have y2 := ha2 (by decide) (by decide)
    rw [eb] at y2
    rw [ea, eb] at fin
    rw [ea, eb]
    refine iF (by decide) (iF (by decide) (iF (by decide) (iF (by decide) (iF (by decide) (iT rfl ⟨nI_in (by omega) (by omega), ?_⟩)))))
    rw [y2]
    refine uX4_knownByAll hD ha3 (fun r hr2 => ?_)
    rw [fin r (fun w hw => (hr2 w hw).trans (cong2 fun _ => ?_))]
    · exact h _ hS6 hf hj hr
    · refine Iff.trans ?_ sb5.symm
      rw [nI_clamp (show a < 2 ^ 31 by omega)]
      exact Iff.rfl
  · obtain ⟨⟨a, _, ha3, ea⟩, ⟨b, hb3, eb⟩⟩ := wf6.mp hw
    have y2 := ha2 (by decide) (by decide)
    rw [eb] at y2
    rw [ea, eb] at fin
    rw [ea, eb]
    refine iF (by decide) (iF (by decide) (iF (by decide) (iF (by decide) (iF (by decide) (iF (by decide) (iT rfl ⟨nI_in (by omega) (by omega), ?_⟩))))))
    rw [y2]
    refine uX4_common hD ha3 (by rw [nI_clamp (show b < 2 ^ 31 by omega)]; exact hsub b hb3) (fun r hr2 => ?_)
    rw [fin r (fun w hw => (hr2 w hw).trans (cong2 fun _ => ?_))]
    · exact h _ hS6 hf hj hr
    · refine Iff.trans ?_ sb6.symm
      rw [nI_clamp (show a < 2 ^ 31 by omega)]
  · obtain ⟨⟨a, _, ha3, ea⟩, ⟨b, hb3, eb⟩⟩ := wf7.mp hw
    have y2 := ha2 (by decide) (by decide)
    rw [eb] at y2
    rw [ea, eb] at fin
    rw [ea, eb]
    refine iF (by decide) (iF (by decide) (iF (by decide) (iF (by decide) (iF (by decide) (iF (by decide) (iF (by decide) (⟨nI_in (by omega) (by omega), ?_⟩)))))))
    rw [y2]
    refine uX4_together hD ha3 hc hS hf hj (fun r sp2 st2 fs2 jn2 rw2 g1 g2 g3 g4 hr2 => ?_)
    rw [fin r (fun w hw => (hr2 w hw).trans (cong2 fun _ => ?_))]
    · exact h _ g1 g2 g3 g4
    · refine Iff.trans ?_ sb7.symm
      rw [nI_clamp (show a < 2 ^ 31 by omega)]
theorem uX4_truthOfA {post : Int64 → Int32 × (Nat → Int32) × (Nat → Int32) × (Nat → Int32) × (Nat → Int32) → Prop} {k c : Nat} {po : Int64} {sp : Int32} {DD : Nat → Nat → Int32} {stf fsf jnf rwf : Nat → Int32} {sq : Nat → Nat → Int32} {yn : Nat} {yf T : Nat → Int64} (hb : k ≤ yn) (hb2 : yn ≤ 40) (hw : wfS k (sq k 0) (sq k 1) (sq k 2)) (hD : DOK DD) (hc : c + 6 < 2 ^ 31) (hS : STP c sp stf) (hf : RF fsf) (hj : R64 jnf) (hr : R64 rwf) (hT : SEM po (ED DD) (sq k 0) (sq k 1) (sq k 2) T (T k)) (hsub : ∀ j, j < k → SUBW (T j) po) (ha : ∀ j, PRT sq k j → yf j = T j) (h : ∀ (u : Int32 × (Nat → Int32) × (Nat → Int32) × (Nat → Int32) × (Nat → Int32)), STP (c + 6) u.1 u.2.1 → RF u.2.2.1 → R64 u.2.2.2.1 → R64 u.2.2.2.2 → post (T k) u) : wX4_truthOfA post k po sp DD stf fsf jnf rwf sq yn yf := by
  have hS6 : STP (c + 6) sp stf := hS.mono (by omega)
  have fin : ∀ r, (∀ w, w < 64 → (mw r w = true ↔ mw po w = true ∧ SB po (ED DD) (sq k 0) (sq k 1) (sq k 2) T w)) → r = T k := fun r hr2 => mwX (fun w hw => (hr2 w hw).trans (hT w hw).symm)
  have ha1 : (sq k 0 = 1 ∨ sq k 0 = 2 ∨ sq k 0 = 3) → yf (sq k 1).toNatClampNeg = T (sq k 1).toNatClampNeg := fun q => ha _ (Or.inl ⟨q, rfl⟩)
  have ha2 : ¬ sq k 0 = 0 → ¬ sq k 0 = 1 → yf (sq k 2).toNatClampNeg = T (sq k 2).toNatClampNeg := fun q q2 => ha _ (Or.inr ⟨q, q2, rfl⟩)
  unfold wX4_truthOfA
  rw [c0, c1, c2]
  obtain ⟨d, hd, hd2⟩ := hw.1
  rw [hd2] at hw ha1 ha2 fin
  rw [hd2]
  rcases (show d = 0 ∨ d = 1 ∨ d = 2 ∨ d = 3 ∨ d = 4 ∨ d = 5 ∨ d = 6 ∨ d = 7 from by omega) with rfl | rfl | rfl | rfl | rfl | rfl | rfl | rfl
  · obtain ⟨a, ha3, ea⟩ := wf0.mp hw
    rw [ea] at fin ⊢
    refine iT rfl (uX4_fact ha3 (fun r hr2 => ?_))
    rw [fin r (fun w hw => (hr2 w hw).trans (cong2 fun _ => ?_))]
    · exact h _ hS6 hf hj hr
    · refine Iff.trans ?_ sb0.symm
      rw [nI_clamp (show a < 2 ^ 31 by omega)]
  · obtain ⟨a, ha3, ea⟩ := wf1.mp hw
    have y1 := ha1 (Or.inl rfl)
    rw [ea] at y1 fin ⊢
    refine iF (by decide) (iT rfl ⟨nI_in (by omega) (by omega), ?_⟩)
    rw [y1, fin (po &&& (T (nI a).toNatClampNeg ^^^ (-1 : Int64))) (fun w hw => ?_)]
    · exact h _ hS6 hf hj hr
    · rw [mwA, mwN hw]
      exact cong2 fun _ => sb1.symm
  · obtain ⟨⟨a, ha3, ea⟩, ⟨b, hb3, eb⟩⟩ := wf2.mp hw
    have y1 := ha1 (Or.inr (Or.inl rfl))
    have y2 := ha2 (by decide) (by decide)
    have s1 : SUBW (T (nI a).toNatClampNeg) po := by
      rw [nI_clamp (show a < 2 ^ 31 by omega)]
      exact hsub a ha3
    have s2 : SUBW (T (nI b).toNatClampNeg) po := by
      rw [nI_clamp (show b < 2 ^ 31 by omega)]
      exact hsub b hb3
    rw [ea] at y1
    rw [eb] at y2
    rw [ea, eb] at fin
    rw [ea, eb]
    refine iF (by decide) (iF (by decide) (iT rfl ⟨nI_in (by omega) (by omega), nI_in (by omega) (by omega), ?_⟩))
    rw [y1, y2, fin (T (nI a).toNatClampNeg &&& T (nI b).toNatClampNeg) (fun w hw => ?_)]
    · exact h _ hS6 hf hj hr
    · rw [mwA]
      exact ⟨fun q => ⟨s1 w hw q.1, sb2.mpr q⟩, fun q => sb2.mp q.2⟩
  · obtain ⟨⟨a, ha3, ea⟩, ⟨b, hb3, eb⟩⟩ := wf3.mp hw
    have y1 := ha1 (Or.inr (Or.inr rfl))
    have y2 := ha2 (by decide) (by decide)
    have s1 : SUBW (T (nI a).toNatClampNeg) po := by
      rw [nI_clamp (show a < 2 ^ 31 by omega)]
      exact hsub a ha3
    have s2 : SUBW (T (nI b).toNatClampNeg) po := by
      rw [nI_clamp (show b < 2 ^ 31 by omega)]
      exact hsub b hb3
    rw [ea] at y1
    rw [eb] at y2
    rw [ea, eb] at fin
    rw [ea, eb]
    refine iF (by decide) (iF (by decide) (iF (by decide) (iT rfl ⟨nI_in (by omega) (by omega), nI_in (by omega) (by omega), ?_⟩)))
    rw [y1, y2, fin (T (nI a).toNatClampNeg ||| T (nI b).toNatClampNeg) (fun w hw => ?_)]
    · exact h _ hS6 hf hj hr
    · rw [mwO]
      exact ⟨fun q => ⟨q.elim (s1 w hw) (s2 w hw), sb3.mpr q⟩, fun q => sb3.mp q.2⟩
  · obtain ⟨⟨a, ha3, ea⟩, ⟨b, hb3, eb⟩⟩ := wf4.mp hw
    have y2 := ha2 (by decide) (by decide)
    rw [eb] at y2
    rw [ea, eb] at fin
    rw [ea, eb]
    refine iF (by decide) (iF (by decide) (iF (by decide) (iF (by decide) (iT rfl ⟨nI_in (by omega) (by omega), ?_⟩))))
    rw [y2]
    refine uX4_known hD ha3 (fun r hr2 => ?_)
    rw [fin r (fun w hw => (hr2 w hw).trans (cong2 fun _ => ?_))]
    · exact h _ hS6 hf hj hr
    · refine Iff.trans ?_ sb4.symm
      rw [nI_clamp (show a < 2 ^ 31 by omega)]
      exact Iff.rfl
  · obtain ⟨⟨a, _, ha3, ea⟩, ⟨b, hb3, eb⟩⟩ := wf5.mp hw
    have y2 := ha2 (by decide) (by decide)
    rw [eb] at y2
    rw [ea, eb] at fin
    rw [ea, eb]
    refine iF (by decide) (iF (by decide) (iF (by decide) (iF (by decide) (iF (by decide) (iT rfl ⟨nI_in (by omega) (by omega), ?_⟩)))))
    rw [y2]
    refine uX4_knownByAll hD ha3 (fun r hr2 => ?_)
    rw [fin r (fun w hw => (hr2 w hw).trans (cong2 fun _ => ?_))]
    · exact h _ hS6 hf hj hr
    · refine Iff.trans ?_ sb5.symm
      rw [nI_clamp (show a < 2 ^ 31 by omega)]
      exact Iff.rfl
  · obtain ⟨⟨a, _, ha3, ea⟩, ⟨b, hb3, eb⟩⟩ := wf6.mp hw
    have y2 := ha2 (by decide) (by decide)
    rw [eb] at y2
    rw [ea, eb] at fin
    rw [ea, eb]
    refine iF (by decide) (iF (by decide) (iF (by decide) (iF (by decide) (iF (by decide) (iF (by decide) (iT rfl ⟨nI_in (by omega) (by omega), ?_⟩))))))
    rw [y2]
    refine uX4_common hD ha3 (by rw [nI_clamp (show b < 2 ^ 31 by omega)]; exact hsub b hb3) (fun r hr2 => ?_)
    rw [fin r (fun w hw => (hr2 w hw).trans (cong2 fun _ => ?_))]
    · exact h _ hS6 hf hj hr
    · refine Iff.trans ?_ sb6.symm
      rw [nI_clamp (show a < 2 ^ 31 by omega)]
  · obtain ⟨⟨a, _, ha3, ea⟩, ⟨b, hb3, eb⟩⟩ := wf7.mp hw
    have y2 := ha2 (by decide) (by decide)
    rw [eb] at y2
    rw [ea, eb] at fin
    rw [ea, eb]
    refine iF (by decide) (iF (by decide) (iF (by decide) (iF (by decide) (iF (by decide) (iF (by decide) (iF (by decide) (⟨nI_in (by omega) (by omega), ?_⟩)))))))
    rw [y2]
    refine uX4_together hD ha3 hc hS hf hj (fun r sp2 st2 fs2 jn2 rw2 g1 g2 g3 g4 hr2 => ?_)
    rw [fin r (fun w hw => (hr2 w hw).trans (cong2 fun _ => ?_))]
    · exact h _ g1 g2 g3 g4
    · refine Iff.trans ?_ sb7.symm
      rw [nI_clamp (show a < 2 ^ 31 by omega)]
theorem TRUs {op : Int64} {E : Nat → Nat → Nat → Bool} {kf ff sf : Nat → Int32} {n : Nat} {T : Nat → Int64} (h : TRU op E kf ff sf n T) {j : Nat} (hj : j < n) : SUBW (T j) op := fun w hw q => ((h j hj w hw).mp q).1
def TRM (op : Int64) (D : Nat → Nat → Int32) (sq : Nat → Nat → Int32) (n : Nat) (T : Nat → Int64) : Prop := ∀ s, s < n → SEM op (ED D) (sq s 0) (sq s 1) (sq s 2) T (T s)
theorem TRMs {op : Int64} {D : Nat → Nat → Int32} {sq : Nat → Nat → Int32} {n : Nat} {T : Nat → Int64} (h : TRM op D sq n T) {j : Nat} (hj : j < n) : SUBW (T j) op := fun w hw q => ((h j hj w hw).mp q).1
theorem PRTl {sn : Nat} {sq : Nat → Nat → Int32} (hn : sn ≤ 40) (hs : SOK sn sq) {k j : Nat} (hk : k < sn) (h : PRT sq k j) : j < k := by
  have hw := (hs k hk).1
  rcases h with ⟨q, rfl⟩ | ⟨q, q2, rfl⟩
  · exact (hw.2.2.1 q).lt (by omega)
  · exact (hw.2.2.2.2.2 q q2).lt (by omega)
theorem uX4_truths_L8 {post : Int32 × (Nat → Int32) × (Nat → Int32) × (Nat → Int32) × (Nat → Int32) × (Nat → Int64) → Prop} {K40 : Int32 → Int32 → (Nat → Int32) → (Nat → Int32) → (Nat → Int32) → (Nat → Int32) → (Nat → Int64) → Prop} {po : Int64} {DD : Nat → Nat → Int32} {sn c : Nat} {sq : Nat → Nat → Int32} {T : Nat → Int64} (hn : sn ≤ 40) (a0 : DOK DD) (a1 : SOK sn sq) (hT : TRM po DD sq sn T) (hc : c + 6 * sn < 2 ^ 31) (hK : ∀ i sp stf fsf jnf rwf cq, STP (c + 6 * sn) sp stf → RF fsf → R64 jnf → R64 rwf → (∀ j, j < sn → cq j = T j) → K40 i sp stf fsf jnf rwf cq) : ∀ (m k : Nat) (sp : Int32) (stf fsf jnf rwf : Nat → Int32) (cq : Nat → Int64), k + m = sn → STP (c + 6 * k) sp stf → RF fsf → R64 jnf → R64 rwf → (∀ j, j < k → cq j = T j) → wX4_truths_L8 post K40 po DD sn sq (nI sn - (1 : Int32)) (m + 1) (nI k) sp stf fsf jnf rwf cq := by
  intro m
  induction m with
  | zero =>
    intro k sp stf fsf jnf rwf cq h f0 f1 f2 f3 f4
    obtain rfl : k = sn := by omega
    exact ⟨fun _ => hK _ _ _ _ _ _ _ f0 f1 f2 f3 f4, fun q => absurd ((predLt k (by omega) k (by omega)).mpr (by omega)) q⟩
  | succ m ih =>
    intro k sp stf fsf jnf rwf cq h f0 f1 f2 f3 f4
    have hk : k < sn := by omega
    have e : (nI k).toNatClampNeg = k := nI_clamp (by omega)
    refine ⟨fun q => absurd ((predLt sn (by omega) k (by omega)).mp q) (by omega), fun _ => ⟨nI_in hk (by omega), ?_⟩⟩
    rw [e, predLe sn (by omega), nI_clamp (show sn < 2 ^ 31 by omega)]
    refine uX4_truthOfA (c := c + 6 * k) (T := T) (by omega) hn (a1 k hk).1 a0 (by omega) f0 f1 f2 f3 (hT k hk) (fun j hj => TRMs hT (by omega)) (fun j hj => f4 j (PRTl hn a1 hk hj)) (fun u g0 g1 g2 g3 => ⟨nI_in hk (by omega), ?_⟩)
    rw [← nI_succ]
    refine ih (k + 1) _ _ _ _ _ _ (by omega) (g0.mono (by omega)) g1 g2 g3 (fun j hj => ?_)
    by_cases e : j = k
    · subst e
      exact ulAt _ _ _
    · rw [ulNe _ _ e]
      exact f4 j (by omega)
theorem uX4_truths_ {post : Int32 × (Nat → Int32) × (Nat → Int32) × (Nat → Int32) × (Nat → Int32) × (Nat → Int64) → Prop} {po : Int64} {sp : Int32} {DD : Nat → Nat → Int32} {stf fsf jnf rwf : Nat → Int32} {sn c : Nat} {sq : Nat → Nat → Int32} {T : Nat → Int64} (a0 : DOK DD) (a1 : RF fsf) (a2 : R64 jnf) (a3 : R64 rwf) (a4 : sn ≤ 40) (a5 : SOK sn sq) (hT : TRM po DD sq sn T) (hc : c + 240 < 2 ^ 31) (hS : STP c sp stf) (hp : ∀ sp2 st2 fs2 jn2 rw2 (f : Nat → Int64), STP (c + 240) sp2 st2 → RF fs2 → R64 jn2 → R64 rw2 → (∀ j, j < sn → f j = T j) → post (sp2, st2, fs2, jn2, rw2, f)) : wX4_truths_ post po sp DD stf fsf jnf rwf sn sq := by
  refine ⟨?_, sn + 1, uX4_truths_L8 (c := c) a4 a0 a5 hT (by omega) (fun i sp stf fsf jnf rwf cq f0 f1 f2 f3 f4 => hp _ _ _ _ _ _ (f0.mono (by omega)) f1 f2 f3 f4) sn 0 _ _ _ _ _ _ (Nat.zero_add _) (hS.mono (by omega)) a1 a2 a3 (fun j hj => absurd hj (Nat.not_lt_zero j))⟩
  rw [predLe sn (by omega), nI_clamp (by omega)]
  exact ⟨nI_pos (by omega), a4⟩
/-! found once each -/
def unf : Nat → (Nat → Int32) → Nat
  | 0, _ => 0
  | n + 1, a => unf n a + (if a n = 0 then 1 else 0)
theorem unf_le : ∀ n a, unf n a ≤ n := by
  intro n
  induction n with
  | zero => exact fun _ => Nat.le_refl _
  | succ n ih =>
    intro a
    have := ih a
    rw [unf]
    split <;> omega
theorem unf_ne : ∀ (n : Nat) (a : Nat → Int32) (q : Nat) (x : Int32), n ≤ q → unf n (upd a q x) = unf n a := by
  intro n
  induction n with
  | zero => exact fun _ _ _ _ => rfl
  | succ n ih =>
    intro a q x h
    rw [unf, unf, ih a q x (by omega), updNe _ _ (by omega)]
theorem unf_up : ∀ (n : Nat) (a : Nat → Int32) (q : Nat) (x : Int32), q < n → a q = 0 → ¬ x = 0 → unf n (upd a q x) + 1 = unf n a := by
  intro n
  induction n with
  | zero => exact fun _ _ _ h => absurd h (Nat.not_lt_zero _)
  | succ n ih =>
    intro a q x h h0 hx
    rw [unf, unf]
    by_cases e : n = q
    · subst e
      rw [unf_ne n a n x (Nat.le_refl n), updAt, if_neg hx, if_pos h0]
    · have := ih a q x (by omega) h0 hx
      rw [updNe _ _ e]
      omega
theorem nar1 : ¬ vp_nar .boolean (1 : Int32) = 0 := by decide
theorem nar0 : vp_nar .boolean (0 : Int32) = 0 := by decide
/-- what is found is right -/
def FND (N : Nat) (aff : Nat → Int32) (fdf T : Nat → Int64) : Prop := ∀ k, k < N → ¬ aff k = 0 → fdf k = T k
theorem FND.put {N : Nat} {aff : Nat → Int32} {fdf T : Nat → Int64} (h : FND N aff fdf T) (q : Nat) : FND N (upd aff q (vp_nar .boolean (1 : Int32))) (vp_updL fdf q (T q)) T := fun k hk hn => by
  by_cases e : k = q
  · subst e
    exact ulAt _ _ _
  · rw [ulNe _ _ e]
    rw [updNe _ _ e] at hn
    exact h k hk hn
def keepA (a b : Nat → Int32) : Prop := ∀ k, ¬ a k = 0 → ¬ b k = 0
theorem keepA.put {a b : Nat → Int32} (h : keepA a b) (q : Nat) : keepA a (upd b q (vp_nar .boolean (1 : Int32))) := fun k hk => by
  by_cases e : k = q
  · subst e
    rw [updAt]
    exact nar1
  · rw [updNe _ _ e]
    exact h k hk
theorem cmpV : ∀ d, d < 8 → ((nI d ≤ 0 ↔ d = 0) ∧ (nI d ≤ (1 : Int32) ↔ d ≤ 1) ∧ ((4 : Int32) ≤ nI d ↔ 4 ≤ d) ∧ (nI d = 0 ↔ d = 0) ∧ (nI d = 1 ↔ d = 1) ∧ (nI d = 2 ↔ d = 2) ∧ (nI d = 3 ↔ d = 3)) := by decide +kernel
theorem uX4_find {th mr : Int32} {po : Int64} {mf : Int32} {DD : Nat → Nat → Int32} {ctf : Nat → Int32} {KP : Nat → Nat → Int32} {sn C N : Nat} {sq : Nat → Nat → Int32} {T : Nat → Int64} (hn : sn ≤ 40) (hs : SOK sn sq) (hD : DOK DD) (hT : TRM po DD sq sn T) (hC : C < 2 ^ 31) : ∀ (n q c : Nat) {post : Int32 × (Nat → Int32) × (Nat → Int32) × (Nat → Int32) × (Nat → Int32) × (Nat → Int64) × (Nat → Int32) → Prop} {sp : Int32} {stf fsf jnf rwf : Nat → Int32} {fdf : Nat → Int64} {aff : Nat → Int32}, q < n → q < sn → q < N → STP c sp stf → c + 6 * unf 40 aff ≤ C → RF fsf → R64 jnf → R64 rwf → FND N aff fdf T → (∀ c2 sp2 st2 fs2 jn2 rw2 fd2 af2, STP c2 sp2 st2 → c2 + 6 * unf 40 af2 ≤ C → RF fs2 → R64 jn2 → R64 rw2 → FND N af2 fd2 T → keepA aff af2 → ¬ af2 q = 0 → (∀ k, q < k → af2 k = aff k) → post (sp2, st2, fs2, jn2, rw2, fd2, af2)) → wX4_find n post th mr po mf sp DD ctf stf fsf jnf rwf fdf aff KP sn sq (nI q) := by
  intro n
  induction n with
  | zero =>
    intro q c _ _ _ _ _ _ _ _ h
    exact absurd h (Nat.not_lt_zero q)
  | succ n ih =>
    intro q c post sp stf fsf jnf rwf fdf aff hqn hqs hqN hS hc f1 f2 f3 hF hp
    have e : (nI q).toNatClampNeg = q := nI_clamp (by omega)
    have v40 : vp_in (nI q) 40 := nI_in (by omega) (by decide)
    have hw := (hs q hqs).1
    have fin : ∀ (c1 : Nat) (sp1 : Int32) (st1 fs1 jn1 rw1 : Nat → Int32) (fd1 : Nat → Int64) (af1 : Nat → Int32), STP c1 sp1 st1 → c1 + 6 * unf 40 af1 ≤ C → RF fs1 → R64 jn1 → R64 rw1 → FND N af1 fd1 T → keepA aff af1 → (∀ k, q < k → af1 k = aff k) → af1 q = 0 → (∀ j, PRT sq q j → ¬ af1 j = 0) → wX4_truthOfF (fun (r_1 : Int64) (z_1 : Int32 × (Nat → Int32) × (Nat → Int32) × (Nat → Int32) × (Nat → Int32)) => vp_in (nI q) 40 ∧ vp_in (nI q) 40 ∧ post (z_1.1, z_1.2.1, z_1.2.2.1, z_1.2.2.2.1, z_1.2.2.2.2, (vp_updL fd1 q r_1), (upd af1 q (vp_nar .boolean (1 : Int32))))) q po sp1 DD st1 fs1 jn1 rw1 fd1 sq := by
      intro c1 sp1 st1 fs1 jn1 rw1 fd1 af1 g0 g1 g2 g3 g4 g5 g6 g8 h0 g7
      have hu := unf_up 40 af1 q _ (by omega) h0 nar1
      exact uX4_truthOfF (c := c1) (T := T) (by omega) (by omega) hw hD (by omega) g0 g2 g3 g4 (hT q hqs) (fun j hj => TRMs hT (by omega)) (fun j hj => g5 j (by have := PRTl hn hs hqs hj; omega) (g7 j hj)) (fun u k0 k1 k2 k3 => ⟨v40, v40, hp (c1 + 6) _ _ _ _ _ _ _ k0 (by omega) k1 k2 k3 (g5.put q) (g6.put q) (by rw [updAt]; exact nar1) (fun k hk => by rw [updNe _ _ (by omega)]; exact g8 k hk)⟩)
    obtain ⟨d, hd, hd2⟩ := hw.1
    obtain ⟨v0, v1, v4, u0, u1, u2, u3⟩ := cmpV d hd
    have fst : (d = 1 ∨ d = 2 ∨ d = 3) → ∃ a, a < q ∧ sq q 1 = nI a := fun h => hw.2.2.1 (by rw [hd2, u1, u2, u3]; exact h)
    have snd : ¬ d = 0 → ¬ d = 1 → ∃ b, b < q ∧ sq q 2 = nI b := fun h h2 => hw.2.2.2.2.2 (by rw [hd2, u0]; exact h) (by rw [hd2, u1]; exact h2)
    have prt : ∀ j, PRT sq q j → ((d = 1 ∨ d = 2 ∨ d = 3) ∧ j = (sq q 1).toNatClampNeg) ∨ (¬ d = 0 ∧ ¬ d = 1 ∧ j = (sq q 2).toNatClampNeg) := fun j h => by
      unfold PRT at h
      rw [hd2, u0, u1, u2, u3] at h
      exact h
    rw [wX4_find, e, c0, c1, c2, hd2, v0, v1, v4]
    refine ⟨v40, fun h0 => ⟨nI_in hqs (by omega), fun k0 => ⟨fun k1 => ?_, fun k1 => absurd (show d ≤ 1 by omega) k1⟩, fun k0 => ⟨fun k4 => ⟨fun k1 => absurd k1 (by omega), fun k1 => ?_⟩, fun k4 => ?_⟩⟩, fun h0 => hp c sp _ _ _ _ _ _ hS hc f1 f2 f3 hF (fun k hk => hk) h0 (fun _ _ => rfl)⟩
    · exact fin c _ _ _ _ _ _ _ hS hc f1 f2 f3 hF (fun _ h => h) (fun _ _ => rfl) h0 (fun j hj => absurd (prt j hj) (by omega))
    · obtain ⟨b, hb, eb⟩ := snd k0 (by omega)
      rw [eb]
      refine ih b c (by omega) (by omega) (by omega) hS hc f1 f2 f3 hF (fun c2 sp2 st2 fs2 jn2 rw2 fd2 af2 g0 g1 g2 g3 g4 g5 g6 g7 g8 => ?_)
      refine fin c2 _ _ _ _ _ _ _ g0 g1 g2 g3 g4 g5 g6 (fun k hk => g8 k (by omega)) ((g8 q hb).trans h0) (fun j hj => ?_)
      rcases prt j hj with ⟨p, -⟩ | ⟨-, -, rfl⟩
      · omega
      · rw [eb, nI_clamp (show b < 2 ^ 31 by omega)]
        exact g7
    · obtain ⟨a, ha, ea⟩ := fst (by omega)
      rw [ea]
      refine ih a c (by omega) (by omega) (by omega) hS hc f1 f2 f3 hF (fun c2 sp2 st2 fs2 jn2 rw2 fd2 af2 g0 g1 g2 g3 g4 g5 g6 g7 g8 => ⟨fun k1 => ?_, fun k1 => ?_⟩)
      · refine fin c2 _ _ _ _ _ _ _ g0 g1 g2 g3 g4 g5 g6 (fun k hk => g8 k (by omega)) ((g8 q ha).trans h0) (fun j hj => ?_)
        rcases prt j hj with ⟨-, rfl⟩ | ⟨p, p2, -⟩
        · rw [ea, nI_clamp (show a < 2 ^ 31 by omega)]
          exact g7
        · omega
      · obtain ⟨b, hb, eb⟩ := snd k0 (by omega)
        rw [eb]
        refine ih b c2 (by omega) (by omega) (by omega) g0 g1 g2 g3 g4 g5 (fun c3 sp3 st3 fs3 jn3 rw3 fd3 af3 m0 m1 m2 m3 m4 m5 m6 m7 m8 => ?_)
        refine fin c3 _ _ _ _ _ _ _ m0 m1 m2 m3 m4 m5 (fun k hk => m6 k (g6 k hk)) (fun k hk => (m8 k (by omega)).trans (g8 k (by omega))) ((m8 q hb).trans ((g8 q ha).trans h0)) (fun j hj => ?_)
        rcases prt j hj with ⟨-, rfl⟩ | ⟨-, -, rfl⟩
        · rw [ea, nI_clamp (show a < 2 ^ 31 by omega)]
          exact m6 a g7
        · rw [eb, nI_clamp (show b < 2 ^ 31 by omega)]
          exact m7
theorem uX4_truthNow_L2 {post : Int64 → Int32 × (Nat → Int32) × (Nat → Int32) × (Nat → Int32) × (Nat → Int32) × (Nat → Int64) × (Nat → Int32) → Prop} {K20 : Int32 → (Nat → Int32) → Prop} {q : Nat} (hq : q < 40) (hK : ∀ i a, (∀ k, k ≤ q → a k = 0) → K20 i a) : ∀ (m k : Nat) (aff : Nat → Int32), k + m = q + 1 → (∀ j, j < k → aff j = 0) → wX4_truthNow_L2 post K20 (nI q) (m + 1) (nI k) aff := by
  intro m
  induction m with
  | zero =>
    intro k aff h ha
    exact ⟨fun _ => hK _ _ (fun j hj => ha j (by omega)), fun c => absurd ((nILt (by omega) (by omega)).mpr (by omega)) c⟩
  | succ m ih =>
    intro k aff h ha
    refine ⟨fun c => absurd ((nILt (by omega) (by omega)).mp c) (by omega), fun _ => ⟨nI_in (by omega) (by decide), ?_⟩⟩
    rw [← nI_succ, nI_clamp (show k < 2 ^ 31 by omega)]
    refine ih (k + 1) _ (by omega) (fun j hj => ?_)
    by_cases e : j = k
    · subst e
      rw [updAt]
      exact nar0
    · rw [updNe _ _ e]
      exact ha j (by omega)
theorem uX4_truthNow {post : Int64 → Int32 × (Nat → Int32) × (Nat → Int32) × (Nat → Int32) × (Nat → Int32) × (Nat → Int64) × (Nat → Int32) → Prop} {th mr : Int32} {po : Int64} {mf sp : Int32} {DD : Nat → Nat → Int32} {ctf stf fsf jnf rwf : Nat → Int32} {fdf : Nat → Int64} {aff : Nat → Int32} {KP : Nat → Nat → Int32} {sn : Nat} {sq : Nat → Nat → Int32} {q c : Nat} {T : Nat → Int64} (a0 : DOK DD) (a1 : RF fsf) (a2 : R64 jnf) (a3 : R64 rwf) (a4 : sn ≤ 40) (a5 : SOK sn sq) (hT : TRM po DD sq sn T) (hc : c + 240 < 2 ^ 31) (hS : STP c sp stf) (hq : q < sn) (hp : ∀ sp2 st2 fs2 jn2 rw2 (fd2 : Nat → Int64) (af2 : Nat → Int32), STP (c + 240) sp2 st2 → RF fs2 → R64 jn2 → R64 rw2 → post (T q) (sp2, st2, fs2, jn2, rw2, fd2, af2)) : wX4_truthNow post th mr po mf sp DD ctf stf fsf jnf rwf fdf aff KP sn sq (nI q) := by
  refine ⟨q + 2, uX4_truthNow_L2 (by omega) (fun _ a ha => ⟨41, Nat.le_refl _, uX4_find (N := q + 1) (C := c + 240) a4 a5 a0 hT hc 41 q c (by omega) hq (by omega) hS (by have := unf_le 40 a; omega) a1 a2 a3 (fun k hk hn => absurd (ha k (by omega)) hn) (fun c2 sp2 st2 fs2 jn2 rw2 fd2 af2 g0 g1 g2 g3 g4 g5 g6 g7 g8 => ⟨nI_in (by omega) (by decide), ?_⟩)⟩) (q + 1) 0 _ (Nat.zero_add _) (fun j hj => absurd hj (Nat.not_lt_zero j))⟩
  show post (fd2 (nI q).toNatClampNeg) _
  rw [nI_clamp (show q < 2 ^ 31 by omega), g5 q (by omega) g7]
  exact hp _ _ _ _ _ _ _ (g0.mono (by omega)) g2 g3 g4
