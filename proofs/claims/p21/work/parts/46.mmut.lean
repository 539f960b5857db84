/-! the reference's changes -/
/-- the first of its like -/
def FST (R : Nat → Nat → Prop) (w i : Nat) : Prop := i ≤ w ∧ R w i ∧ ∀ j, j < i → ¬ R w j
theorem FST.eq {R : Nat → Nat → Prop} {w v i j : Nat} (hs : ∀ a b, R a b → R b a) (ht : ∀ a b c, R a b → R b c → R a c) (h : FST R w i) (h2 : FST R v j) : i = j ↔ R w v := by
  constructor
  · intro e
    subst e
    exact ht _ _ _ h.2.1 (hs _ _ h2.2.1)
  · intro e
    rcases Nat.lt_trichotomy i j with q | q | q
    · exact absurd (ht _ _ _ (hs _ _ e) h.2.1) (h2.2.2 i q)
    · exact q
    · exact absurd (ht _ _ _ e h2.2.1) (h.2.2 j q)
theorem vfAt (D : Nat → Nat → Int32) (g : Nat) (f : Nat → Int32) : vf_upd D g f g = f := by
  show (if g = g then f else D g) = f
  rw [if_pos rfl]
theorem vfNe (D : Nat → Nat → Int32) {g h : Nat} (f : Nat → Int32) (q : ¬ h = g) : vf_upd D g f h = D h := by
  show (if h = g then f else D h) = D h
  rw [if_neg q]
/-- the rows of one desk are made anew, each the first of its like -/
def PTD (R : Nat → Nat → Prop) (g k : Nat) (D0 D : Nat → Nat → Int32) : Prop := (∀ w, w < k → ∃ i, FST R w i ∧ D g w = nI i) ∧ (∀ w, 64 ≤ w → D g w = D0 g w) ∧ (∀ w, k ≤ w → w < 64 → D g w = D0 g w) ∧ ∀ h, ¬ h = g → D h = D0 h
theorem PTD.step {R : Nat → Nat → Prop} {g k i : Nat} {D0 D : Nat → Nat → Int32} (hk : k < 64) (h : PTD R g k D0 D) (hi : FST R k i) : PTD R g (k + 1) D0 (vf_upd D g (upd (D g) k (nI i))) := by
  obtain ⟨h1, h2, h3, h4⟩ := h
  refine ⟨fun w hw => ?_, fun w hw => ?_, fun w hw hw2 => ?_, fun a ha => ?_⟩
  · rw [vfAt]
    by_cases e : w = k
    · subst e
      exact ⟨i, hi, updAt _ _ _⟩
    · rw [updNe _ _ e]
      exact h1 w (by omega)
  · rw [vfAt, updNe _ _ (by omega)]
    exact h2 w hw
  · rw [vfAt, updNe _ _ (by omega)]
    exact h3 w (by omega) hw2
  · rw [vfNe _ _ ha]
    exact h4 a ha
theorem PTD.zero {R : Nat → Nat → Prop} {g : Nat} {D0 : Nat → Nat → Int32} : PTD R g 0 D0 D0 := ⟨fun w hw => absurd hw (Nat.not_lt_zero w), fun _ _ => rfl, fun _ _ _ => rfl, fun _ _ => rfl⟩
theorem PTD.r64 {R : Nat → Nat → Prop} {g : Nat} {D0 D : Nat → Nat → Int32} (h : PTD R g 64 D0 D) : R64 (D g) := fun w hw => by
  obtain ⟨i, hi, e⟩ := h.1 w hw
  exact ⟨i, by have := hi.1; omega, e⟩
theorem PTD.dok {R : Nat → Nat → Prop} {g : Nat} {D0 D : Nat → Nat → Int32} (h : PTD R g 64 D0 D) (hD : DOK D0) : DOK D := fun a ha => by
  by_cases e : a = g
  · subst e
    exact h.r64
  · rw [h.2.2.2 a e]
    exact hD a ha
theorem PTD.eq {R : Nat → Nat → Prop} {g : Nat} {D0 D : Nat → Nat → Int32} (hs : ∀ a b, R a b → R b a) (ht : ∀ a b c, R a b → R b c → R a c) (h : PTD R g 64 D0 D) {w v : Nat} (hw : w < 64) (hv : v < 64) : D g w = D g v ↔ R w v := by
  obtain ⟨i, hi, ei⟩ := h.1 w hw
  obtain ⟨j, hj, ej⟩ := h.1 v hv
  rw [ei, ej, ← FST.eq hs ht hi hj]
  exact ⟨fun q => nIinj (by have := hi.1; omega) (by have := hj.1; omega) q, fun q => by rw [q]⟩
theorem uX4_part__L9 {post : (Nat → Nat → Int32) → Prop} {K : Int32 → (Nat → Int32) → Prop} {DD : Nat → Nat → Int32} {g : Nat} (hg : g < 6) (hK : ∀ i c, (∀ w, w < 64 → c w = DD g w) → K i c) : ∀ (m k : Nat) (c : Nat → Int32), k + m = 64 → (∀ w, w < k → c w = DD g w) → wX4_part__L9 post K DD (nI g) (m + 1) (nI k) c := by
  intro m
  induction m with
  | zero =>
    intro k c h hc
    obtain rfl : k = 64 := by omega
    exact ⟨fun _ => hK _ _ hc, fun q => absurd (by decide) q⟩
  | succ m ih =>
    intro k c h hc
    have hk : k < 64 := by omega
    refine ⟨fun q => absurd q (notLe (a := 64) hk (by decide)), fun _ => ⟨nI_in hg (by decide), nI_in hk (by decide), nI_in hk (by decide), ?_⟩⟩
    rw [← nI_succ, nI_clamp (show g < 2 ^ 31 by omega), nI_clamp (show k < 2 ^ 31 by omega)]
    refine ih (k + 1) _ (by omega) (fun w hw => ?_)
    by_cases e : w = k
    · subst e
      exact updAt _ _ _
    · rw [updNe _ _ e]
      exact hc w (by omega)
def SID (c : Nat → Int32) (side : Int64) : Nat → Nat → Prop := fun w v => c w = c v ∧ mw side w = mw side v
theorem uX4_part__L49 {post : (Nat → Nat → Int32) → Prop} {K : Int32 → Prop} {side : Int64} {c : Nat → Int32} {w : Nat} (hw : w < 64) (hK : ∀ i, FST (SID c side) w i → K (nI i)) : ∀ (m k : Nat), k + m = w → (∀ j, j < k → ¬ SID c side w j) → wX4_part__L49 post K side (nI w) c (m + 1) (nI k) := by
  intro m
  induction m with
  | zero =>
    intro k h hc
    obtain rfl : k = w := by omega
    have ek : (nI k).toNatClampNeg = k := nI_clamp (by omega)
    refine ⟨nI_in hw (by decide), nI_in hw (by decide), fun q => absurd rfl q, fun _ => tX4_has_ hw (fun q => tX4_has_ hw (fun q2 => ⟨fun _ => hK k ⟨Nat.le_refl k, ⟨rfl, rfl⟩, hc⟩, fun n => absurd rfl n⟩) (fun q2 => by rw [q] at q2; exact absurd q2 (by decide))) (fun q => tX4_has_ hw (fun q2 => by rw [q] at q2; exact absurd q2 (by decide)) (fun q2 => ⟨fun _ => hK k ⟨Nat.le_refl k, ⟨rfl, rfl⟩, hc⟩, fun n => absurd rfl n⟩))⟩
  | succ m ih =>
    intro k h hc
    have hk : k < 64 := by omega
    have ek : (nI k).toNatClampNeg = k := nI_clamp (by omega)
    have ew : (nI w).toNatClampNeg = w := nI_clamp (by omega)
    have no : ¬ SID c side w k → wX4_part__L49 post K side (nI w) c (m + 1) (nI k + 1) := fun hn => by
      rw [← nI_succ]
      refine ih (k + 1) (by omega) (fun j hj => ?_)
      rcases Nat.lt_succ_iff_lt_or_eq.mp hj with e | e
      · exact hc j e
      · subst e
        exact hn
    have yes : SID c side w k → K (nI k) := fun q => hK k ⟨by omega, q, hc⟩
    refine ⟨nI_in hk (by decide), nI_in hw (by decide), fun q => no (fun s => q ?_), fun q => ?_⟩
    · rw [ek, ew]
      exact s.1.symm
    · rw [ek, ew] at q
      exact tX4_has_ hk (fun a => tX4_has_ hw (fun b => ⟨fun _ => yes ⟨q.symm, b.trans a.symm⟩, fun n => absurd rfl n⟩) (fun b => ⟨fun n => absurd n (by decide), fun _ => no (fun s => by have := s.2; rw [a, b] at this; exact absurd this (by decide))⟩)) (fun a => tX4_has_ hw (fun b => ⟨fun n => absurd n (by decide), fun _ => no (fun s => by have := s.2; rw [a, b] at this; exact absurd this (by decide))⟩) (fun b => ⟨fun _ => yes ⟨q.symm, b.trans a.symm⟩, fun n => absurd rfl n⟩))
theorem uX4_part__L39 {post : (Nat → Nat → Int32) → Prop} {K : Int32 → (Nat → Nat → Int32) → Prop} {D0 : Nat → Nat → Int32} {side : Int64} {c : Nat → Int32} {g : Nat} (hg : g < 6) (hK : ∀ i D, PTD (SID c side) g 64 D0 D → K i D) : ∀ (m k : Nat) (D : Nat → Nat → Int32), k + m = 64 → PTD (SID c side) g k D0 D → wX4_part__L39 post K (nI g) side c (m + 1) (nI k) D := by
  intro m
  induction m with
  | zero =>
    intro k D h hD
    obtain rfl : k = 64 := by omega
    exact ⟨fun _ => hK _ _ hD, fun q => absurd (by decide) q⟩
  | succ m ih =>
    intro k D h hD
    have hk : k < 64 := by omega
    refine ⟨fun q => absurd q (notLe (a := 64) hk (by decide)), fun _ => ⟨k + 1, uX4_part__L49 hk (fun i hi => ⟨nI_in hg (by decide), nI_in hk (by decide), ?_⟩) k 0 (Nat.zero_add k) (fun j hj => absurd hj (Nat.not_lt_zero j))⟩⟩
    rw [← nI_succ, nI_clamp (show g < 2 ^ 31 by omega), nI_clamp (show k < 2 ^ 31 by omega)]
    exact ih (k + 1) _ (by omega) (hD.step hk hi)
theorem uX4_part_ {post : (Nat → Nat → Int32) → Prop} {DD : Nat → Nat → Int32} {side : Int64} {g : Nat} (hD : DOK DD) (hg : g < 6) (h : ∀ D, DOK D → (∀ a, a < 6 → ∀ w, w < 64 → ∀ v, v < 64 → ED D a w v = eTell (ED DD) g side a w v) → post D) : wX4_part_ post DD (nI g) side := by
  refine ⟨65, uX4_part__L9 hg (fun _ c hc => ⟨65, uX4_part__L39 hg (fun _ D hP => h D (hP.dok hD) (fun a ha w hw v hv => ?_)) 64 0 DD rfl PTD.zero⟩) 64 0 _ rfl (fun w hw => absurd hw (Nat.not_lt_zero w))⟩
  by_cases e : a = g
  · subst e
    have h1 := hP.eq (w := w) (v := v) (fun x y q => ⟨q.1.symm, q.2.symm⟩) (fun x y z q r => ⟨q.1.trans r.1, q.2.trans r.2⟩) hw hv
    apply Bool.eq_iff_iff.mpr
    rw [eTellT]
    unfold ED
    rw [decide_eq_true_iff, decide_eq_true_iff, h1]
    unfold SID
    rw [hc w hw, hc v hv]
  · rw [eTellF e]
    unfold ED
    rw [hP.2.2.2 a e]
theorem CDe {dk : Nat → Int64} {E E2 : Nat → Nat → Nat → Bool} (h : ∀ g, g < 6 → ∀ w, w < 64 → ∀ v, v < 64 → E2 g w v = E g w v) (hC : CD dk E) : CD dk E2 := CDc (fun g hg w hw v hv => (h g hg w hw v hv).symm) hC
theorem uX4_look_L32 {post : Int32 → Int32 × (Nat → Nat → Int32) × (Nat → Int32) → Prop} {K : Int64 → Int32 → Prop} {a : Nat} (ha : a < 6) (hK : ∀ x b, (∀ v, v < 64 → (mw x v = true ↔ v.testBit a = true)) → K x b) : ∀ (m k : Nat) (x : Int64), k + m = 64 → (∀ v, v < 64 → (mw x v = true ↔ v < k ∧ v.testBit a = true)) → wX4_look_L32 post K (nI a) (m + 1) x (nI k) := by
  intro m
  induction m with
  | zero =>
    intro k x h hx
    obtain rfl : k = 64 := by omega
    exact ⟨fun _ => hK _ _ (fun v hv => (hx v hv).trans ⟨fun q => q.2, fun q => ⟨hv, q⟩⟩), fun q => absurd (by decide) q⟩
  | succ m ih =>
    intro k x h hx
    have hk : k < 64 := by omega
    refine ⟨fun c => absurd c (notLe (a := 64) hk (by decide)), fun _ => uX4_has hk ha (fun hm => ⟨fun _ => ?_, fun c => absurd rfl c⟩) (fun hm => ⟨fun c => absurd c (by decide), fun _ => ?_⟩)⟩
    · rw [← nI_succ]
      refine ih (k + 1) _ (by omega) (fun v hv => ?_)
      rw [mwO, hx v hv]
      constructor
      · rintro (q | q)
        · exact ⟨by omega, q.2⟩
        · exact absurd q mwZ
      · rintro ⟨p, q⟩
        rcases Nat.lt_succ_iff_lt_or_eq.mp p with e | e
        · exact Or.inl ⟨e, q⟩
        · subst e
          exact absurd q hm
    · rw [← nI_succ]
      refine ih (k + 1) _ (by omega) (fun v hv => ?_)
      rw [mwO, hx v hv, mwB hk]
      constructor
      · rintro (q | q)
        · exact ⟨by omega, q.2⟩
        · subst q
          exact ⟨by omega, hm⟩
      · rintro ⟨p, q⟩
        rcases Nat.lt_succ_iff_lt_or_eq.mp p with e | e
        · exact Or.inl ⟨e, q⟩
        · exact Or.inr e.symm
/-! a note -/
theorem uX4_tell_L11 {post : Int32 × (Nat → Int32) × (Nat → Int32) × (Nat → Int32) × (Nat → Nat → Int32) × (Nat → Nat → Int32) → Prop} {K : Int32 → (Nat → Nat → Int32) → Prop} {DD K0 : Nat → Nat → Int32} {b lv : Nat} (hb : b < 6) (hl : lv < 4) (hK : ∀ i Q, (∀ w, w < 64 → Q lv w = DD b w) → (∀ l, ¬ l = lv → Q l = K0 l) → K i Q) : ∀ (m k : Nat) (Q : Nat → Nat → Int32), k + m = 64 → (∀ w, w < k → Q lv w = DD b w) → (∀ l, ¬ l = lv → Q l = K0 l) → wX4_tell_L11 post K DD (nI b) (nI lv) (m + 1) (nI k) Q := by
  intro m
  induction m with
  | zero =>
    intro k Q h h1 h2
    obtain rfl : k = 64 := by omega
    exact ⟨fun _ => hK _ _ h1 h2, fun q => absurd (by decide) q⟩
  | succ m ih =>
    intro k Q h h1 h2
    have hk : k < 64 := by omega
    refine ⟨fun q => absurd q (notLe (a := 64) hk (by decide)), fun _ => ⟨nI_in hb (by decide), nI_in hk (by decide), nI_in hk (by decide), ?_⟩⟩
    rw [← nI_succ, nI_clamp (show b < 2 ^ 31 by omega), nI_clamp (show k < 2 ^ 31 by omega), nI_clamp (show lv < 2 ^ 31 by omega)]
    refine ih (k + 1) _ (by omega) (fun w hw => ?_) (fun l q => ?_)
    · rw [vfAt]
      by_cases e : w = k
      · subst e
        exact updAt _ _ _
      · rw [updNe _ _ e]
        exact h1 w (by omega)
    · rw [vfNe _ _ q]
      exact h2 l q
/-- what a note leaves: the second one's desk is finer, its old rows lie at the level -/
def TLD (DD KP D Q : Nat → Nat → Int32) (a b lv : Nat) : Prop := DOK D ∧ KOK Q ∧ (∀ l, ¬ l = lv → Q l = KP l) ∧ (∀ w, w < 64 → Q lv w = DD b w) ∧ (∀ w, 64 ≤ w → D b w = DD b w) ∧ (∀ g, ¬ g = b → D g = DD g) ∧ ∀ g, g < 6 → ∀ w, w < 64 → ∀ v, v < 64 → ED D g w v = eNote (ED DD) a b g w v
theorem uX4_tell {post : Int32 × (Nat → Int32) × (Nat → Int32) × (Nat → Int32) × (Nat → Nat → Int32) × (Nat → Nat → Int32) → Prop} {sp : Int32} {DD : Nat → Nat → Int32} {stf fsf jnf : Nat → Int32} {KP : Nat → Nat → Int32} {a b lv c : Nat} (hD : DOK DD) (hQ : KOK KP) (ha : a < 6) (hb : b < 6) (hl : lv < 4) (hab : ¬ a = b) (hc : c + 1 < 2 ^ 31) (hS : STP c sp stf) (hf : RF fsf) (hj : R64 jnf) (h : ∀ sp2 st2 fs2 jn2 D Q, STP (c + 1) sp2 st2 → RF fs2 → R64 jn2 → TLD DD KP D Q a b lv → post (sp2, st2, fs2, jn2, D, Q)) : wX4_tell post sp DD stf fsf jnf KP (nI a) (nI b) (nI lv) := by
  refine ⟨nI_in hl (by decide), 65, uX4_tell_L11 hb hl (fun _ Q q1 q2 => ⟨nI_in ha (by decide), nI_in hb (by decide), ?_⟩) 64 0 KP rfl (fun w hw => absurd hw (Nat.not_lt_zero w)) (fun _ _ => rfl)⟩
  rw [nI_clamp (show a < 2 ^ 31 by omega), nI_clamp (show b < 2 ^ 31 by omega), nI_clamp (show lv < 2 ^ 31 by omega)]
  have hR : R64 (Q lv) := fun w hw => by
    rw [q1 w hw]
    exact hD b hb w hw
  refine uX4_joinK hc hS (hD a ha) hR hf hj (fun sp2 st2 fs2 jn2 D g1 g2 g3 g4 g5 g6 g7 => h sp2 st2 fs2 jn2 D Q g1 g2 g3 ⟨fun g hg => ?_, fun l hl2 => ?_, q2, q1, g6, g5, fun g hg w hw v hv => ?_⟩)
  · by_cases e : g = b
    · subst e
      exact g4
    · rw [g5 g e]
      exact hD g hg
  · by_cases e : l = lv
    · subst e
      exact hR
    · rw [q2 l e]
      exact hQ l hl2
  · by_cases e : g = b
    · subst e
      apply Bool.eq_iff_iff.mpr
      rw [eNoteT]
      unfold ED
      rw [decide_eq_true_iff, decide_eq_true_iff, decide_eq_true_iff, g7 w hw v hv, q1 w hw, q1 v hv]
    · rw [eNoteF e]
      unfold ED
      rw [g5 g e]
theorem uX4_restoreK_L2 {post : (Nat → Nat → Int32) → Prop} {K : Int32 → (Nat → Nat → Int32) → Prop} {KP D0 : Nat → Nat → Int32} {b lv : Nat} (hb : b < 6) (hK : ∀ i D, (∀ w, w < 64 → D b w = KP lv w) → (∀ w, 64 ≤ w → D b w = D0 b w) → (∀ g, ¬ g = b → D g = D0 g) → K i D) : ∀ (m k : Nat) (D : Nat → Nat → Int32), k + m = 64 → (∀ w, w < k → D b w = KP lv w) → (∀ w, 64 ≤ w → D b w = D0 b w) → (∀ g, ¬ g = b → D g = D0 g) → wX4_restoreK_L2 post K KP lv (nI b) (m + 1) (nI k) D := by
  intro m
  induction m with
  | zero =>
    intro k D h h1 h2 h3
    obtain rfl : k = 64 := by omega
    exact ⟨fun _ => hK _ _ h1 h2 h3, fun q => absurd (by decide) q⟩
  | succ m ih =>
    intro k D h h1 h2 h3
    have hk : k < 64 := by omega
    refine ⟨fun q => absurd q (notLe (a := 64) hk (by decide)), fun _ => ⟨nI_in hb (by decide), nI_in hk (by decide), nI_in hk (by decide), ?_⟩⟩
    rw [← nI_succ, nI_clamp (show b < 2 ^ 31 by omega), nI_clamp (show k < 2 ^ 31 by omega)]
    refine ih (k + 1) _ (by omega) (fun w hw => ?_) (fun w hw => ?_) (fun g q => ?_)
    · rw [vfAt]
      by_cases e : w = k
      · subst e
        exact updAt _ _ _
      · rw [updNe _ _ e]
        exact h1 w (by omega)
    · rw [vfAt, updNe _ _ (by omega)]
      exact h2 w hw
    · rw [vfNe _ _ q]
      exact h3 g q
/-- a note taken back: everything lies as before -/
theorem uX4_restoreK {post : (Nat → Nat → Int32) → Prop} {DD KP D Q : Nat → Nat → Int32} {a b lv : Nat} (hb : b < 6) (hT : TLD DD KP D Q a b lv) (h : post DD) : wX4_restoreK post lv D Q (nI b) := by
  obtain ⟨t1, t2, t3, t4, t5, t6, t7⟩ := hT
  refine ⟨65, uX4_restoreK_L2 hb (fun _ D2 d1 d2 d3 => ?_) 64 0 D rfl (fun w hw => absurd hw (Nat.not_lt_zero w)) (fun _ _ => rfl) (fun _ _ => rfl)⟩
  have e : D2 = DD := by
    funext g w
    by_cases q : g = b
    · subst q
      by_cases r : w < 64
      · rw [d1 w r, t4 w r]
      · rw [d2 w (Nat.le_of_not_lt r), t5 w (Nat.le_of_not_lt r)]
    · rw [d3 g q, t6 g q]
  rw [e]
  exact h
