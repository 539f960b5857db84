/-! the reference, exactly -/
theorem cong2 {P Q R : Prop} (h : P → (Q ↔ R)) : P ∧ Q ↔ P ∧ R := and_congr_right h
theorem tX4_part_L5 {post : Int64 → Prop} {K : Int64 → Int32 → Prop} {DD : Nat → Nat → Int32} {g w : Nat} (hg : g < 6) (hw : w < 64) (hK : ∀ a b, (∀ v, v < 64 → (mw a v = true ↔ DD g v = DD g w)) → K a b) : ∀ (m k : Nat) (a : Int64), k + m = 64 → (∀ v, v < 64 → (mw a v = true ↔ v < k ∧ DD g v = DD g w)) → wX4_part_L5 post K DD (nI g) (nI w) (m + 1) a (nI k) := by
  intro m
  induction m with
  | zero =>
    intro k a h ha
    obtain rfl : k = 64 := by omega
    exact ⟨fun _ => hK _ _ (fun v hv => (ha v hv).trans ⟨fun q => q.2, fun q => ⟨hv, q⟩⟩), fun q => absurd (by decide) q⟩
  | succ m ih =>
    intro k a h ha
    have hk : k < 64 := by omega
    have vg : vp_in (nI g) 6 := nI_in hg (by decide)
    refine ⟨fun c => absurd c (notLe (a := 64) hk (by decide)), fun _ => ⟨vg, nI_in hk (by decide), vg, nI_in hw (by decide), ?_⟩⟩
    rw [nI_clamp (show g < 2 ^ 31 by omega), nI_clamp (show k < 2 ^ 31 by omega), nI_clamp (show w < 2 ^ 31 by omega)]
    refine ⟨fun c => ?_, fun c => ?_⟩
    · rw [← nI_succ]
      refine ih (k + 1) _ (by omega) (fun v hv => ?_)
      rw [mwO, ha v hv]
      constructor
      · rintro (q | q)
        · exact ⟨by omega, q.2⟩
        · exact absurd q mwZ
      · rintro ⟨p, q⟩
        rcases Nat.lt_succ_iff_lt_or_eq.mp p with e | e
        · exact Or.inl ⟨e, q⟩
        · subst e
          exact absurd q c
    · rw [← nI_succ]
      refine ih (k + 1) _ (by omega) (fun v hv => ?_)
      rw [mwO, ha v hv, mwB hk]
      constructor
      · rintro (q | q)
        · exact ⟨by omega, q.2⟩
        · subst q
          exact ⟨by omega, c⟩
      · rintro ⟨p, q⟩
        rcases Nat.lt_succ_iff_lt_or_eq.mp p with e | e
        · exact Or.inl ⟨e, q⟩
        · exact Or.inr e.symm
theorem tX4_alikeNow {post : Int64 → Prop} {po : Int64} {DD : Nat → Nat → Int32} {g w : Nat} (hg : g < 6) (hw : w < 64) (h : ∀ r, (∀ v, v < 64 → (mw r v = true ↔ mw po w = true ∧ ED DD g w v = true ∧ mw po v = true)) → post r) : wX4_alikeNow post po DD (nI g) (nI w) := by
  refine tX4_has_ hw (fun hm => ⟨fun _ => h 0 (fun v hv => ⟨fun q => absurd q mwZ, fun q => ?_⟩), fun c => absurd rfl c⟩) (fun hm => ⟨fun c => absurd c (by decide), fun _ => ⟨65, tX4_part_L5 hg hw (fun a b ha => h _ (fun v hv => ?_)) 64 0 0 rfl (fun v hv => ⟨fun q => absurd q mwZ, fun q => absurd q.1 (Nat.not_lt_zero v)⟩)⟩⟩)
  · rw [hm] at q
    exact absurd q.1 (by decide)
  · rw [mwA, ha v hv]
    unfold ED
    rw [decide_eq_true_iff]
    exact ⟨fun q => ⟨hm, q.1.symm, q.2⟩, fun q => ⟨q.2.1.symm, q.2.2⟩⟩
theorem uX4_known_D_L6 {post : Int64 → Prop} {K : Int64 → Int32 → Prop} {po p : Int64} {DD : Nat → Nat → Int32} {g : Nat} (hD : R64 (DD g)) (hK : ∀ a b, (∀ u, u < 64 → (mw a u = true ↔ ∃ w, w < 64 ∧ mw po w = true ∧ ¬ mw p w = true ∧ DD g w = nI u)) → K a b) : ∀ (m k : Nat) (a : Int64), k + m = 64 → (∀ u, u < 64 → (mw a u = true ↔ ∃ w, w < k ∧ mw po w = true ∧ ¬ mw p w = true ∧ DD g w = nI u)) → wX4_known_D_L6 post K po DD g p (m + 1) a (nI k) := by
  intro m
  induction m with
  | zero =>
    intro k a h hs
    obtain rfl : k = 64 := by omega
    exact ⟨fun _ => hK _ _ hs, fun q => absurd (by decide) q⟩
  | succ m ih =>
    intro k a h hs
    have hk : k < 64 := by omega
    refine ⟨fun c => absurd c (notLe (a := 64) hk (by decide)), fun _ => tX4_has_ hk (fun hm => ⟨fun _ => ?_, fun c => absurd rfl c⟩) (fun hm => ⟨fun c => absurd c (by decide), fun _ => ⟨nI_in hk (by decide), fun x hx => ?_⟩⟩)⟩
    · rw [← nI_succ]
      refine ih (k + 1) a (by omega) (fun u hu => (hs u hu).trans ⟨?_, ?_⟩)
      · rintro ⟨w, q, r⟩
        exact ⟨w, by omega, r⟩
      · rintro ⟨w, q, r, s, t⟩
        rcases Nat.lt_succ_iff_lt_or_eq.mp q with e | e
        · exact ⟨w, e, r, s, t⟩
        · subst e
          have : mw (po &&& (p ^^^ (-1 : Int64))) w = true := mwA.mpr ⟨r, (mwN hk).mpr s⟩
          rw [hm] at this
          exact absurd this (by decide)
    · obtain ⟨y, hy, ey⟩ := hD k hk
      obtain ⟨p1, p2⟩ := mwA.mp hm
      rw [nI_clamp (show k < 2 ^ 31 by omega), ey] at hx
      rw [← nI_succ]
      refine ih (k + 1) x (by omega) (fun u hu => ?_)
      rw [hx, mwO, hs u hu, mwB hy]
      constructor
      · rintro (⟨w, q, r⟩ | e)
        · exact ⟨w, by omega, r⟩
        · subst e
          exact ⟨k, by omega, p1, (mwN hk).mp p2, ey⟩
      · rintro ⟨w, q, r, s, t⟩
        rcases Nat.lt_succ_iff_lt_or_eq.mp q with e | e
        · exact Or.inl ⟨w, e, r, s, t⟩
        · subst e
          exact Or.inr (nIinj (by omega) (by omega) (ey.symm.trans t))
theorem uX4_known_D_L54 {post : Int64 → Prop} {K : Int64 → Int32 → Prop} {po sp : Int64} {DD : Nat → Nat → Int32} {g : Nat} (hD : R64 (DD g)) (hK : ∀ a b, (∀ w, w < 64 → (mw a w = true ↔ mw po w = true ∧ ¬ mw sp (DD g w).toNatClampNeg = true)) → K a b) : ∀ (m k : Nat) (a : Int64), k + m = 64 → (∀ w, w < 64 → (mw a w = true ↔ w < k ∧ mw po w = true ∧ ¬ mw sp (DD g w).toNatClampNeg = true)) → wX4_known_D_L54 post K po DD g sp (m + 1) a (nI k) := by
  intro m
  induction m with
  | zero =>
    intro k a h hs
    obtain rfl : k = 64 := by omega
    exact ⟨fun _ => hK _ _ (fun w hw => (hs w hw).trans ⟨fun q => q.2, fun q => ⟨hw, q⟩⟩), fun q => absurd (by decide) q⟩
  | succ m ih =>
    intro k a h hs
    have hk : k < 64 := by omega
    obtain ⟨y, hy, ey⟩ := hD k hk
    have ek : (nI k).toNatClampNeg = k := nI_clamp (by omega)
    have no : ¬ (mw po k = true ∧ ¬ mw sp (DD g k).toNatClampNeg = true) → wX4_known_D_L54 post K po DD g sp (m + 1) a (nI k + 1) := fun hn => by
      rw [← nI_succ]
      refine ih (k + 1) a (by omega) (fun w hw => (hs w hw).trans ⟨fun q => ⟨by omega, q.2⟩, fun q => ⟨?_, q.2⟩⟩)
      rcases Nat.lt_succ_iff_lt_or_eq.mp q.1 with e | e
      · exact e
      · subst e
        exact absurd q.2 hn
    refine ⟨fun c => absurd c (notLe (a := 64) hk (by decide)), fun _ => tX4_has_ hk (fun hm => ⟨fun _ => no (fun q => by rw [hm] at q; exact absurd q.1 (by decide)), fun c => absurd rfl c⟩) (fun hm => ⟨fun c => absurd c (by decide), fun _ => ⟨nI_in hk (by decide), ?_⟩⟩)⟩
    rw [ek, ey]
    refine tX4_has_ hy (fun h0 => ⟨fun c => absurd rfl c, fun _ => ?_⟩) (fun h1 => ⟨fun _ => no (fun q => q.2 (by rw [ey, nI_clamp (show y < 2 ^ 31 by omega)]; exact h1)), fun c => absurd c (by decide)⟩)
    rw [← nI_succ]
    refine ih (k + 1) _ (by omega) (fun w hw => ?_)
    rw [mwO, hs w hw, mwB hk]
    constructor
    · rintro (q | e)
      · exact ⟨by omega, q.2⟩
      · subst e
        exact ⟨by omega, hm, fun q => by rw [ey, nI_clamp (show y < 2 ^ 31 by omega), h0] at q; exact absurd q (by decide)⟩
    · rintro ⟨p, q⟩
      rcases Nat.lt_succ_iff_lt_or_eq.mp p with e | e
      · exact Or.inl ⟨e, q⟩
      · exact Or.inr e.symm
theorem uX4_known_D {post : Int64 → Prop} {po p : Int64} {DD : Nat → Nat → Int32} {g : Nat} (hD : R64 (DD g)) (h : ∀ r, (∀ w, w < 64 → (mw r w = true ↔ mw po w = true ∧ ∀ v, v < 64 → mw po v = true → DD g w = DD g v → mw p v = true)) → post r) : wX4_known_D post g po DD p := by
  refine ⟨65, uX4_known_D_L6 hD (fun a b ha => ⟨65, uX4_known_D_L54 hD (fun c d hc => h c (fun w hw => (hc w hw).trans (cong2 fun _ => ?_))) 64 0 0 rfl (fun w hw => ⟨fun q => absurd q mwZ, fun q => absurd q.1 (Nat.not_lt_zero w)⟩)⟩) 64 0 0 rfl (fun u hu => ⟨fun q => absurd q mwZ, fun q => ?_⟩)⟩
  · obtain ⟨w, hw, -⟩ := q
    exact absurd hw (Nat.not_lt_zero w)
  · obtain ⟨y, hy, ey⟩ := hD w hw
    rw [ey, nI_clamp (show y < 2 ^ 31 by omega), ha y hy]
    constructor
    · intro q v hv ho e
      exact Classical.byContradiction fun n => q ⟨v, hv, ho, n, e.symm⟩
    · rintro q ⟨v, hv, ho, n, e⟩
      exact n (q v hv ho e.symm)
theorem uX4_known_R_L6 {post : Int64 → Prop} {K : Int64 → Int32 → Prop} {po p : Int64} {rwf : Nat → Int32} (hD : R64 rwf) (hK : ∀ a b, (∀ u, u < 64 → (mw a u = true ↔ ∃ w, w < 64 ∧ mw po w = true ∧ ¬ mw p w = true ∧ rwf w = nI u)) → K a b) : ∀ (m k : Nat) (a : Int64), k + m = 64 → (∀ u, u < 64 → (mw a u = true ↔ ∃ w, w < k ∧ mw po w = true ∧ ¬ mw p w = true ∧ rwf w = nI u)) → wX4_known_R_L6 post K po rwf p (m + 1) a (nI k) := by
  intro m
  induction m with
  | zero =>
    intro k a h hs
    obtain rfl : k = 64 := by omega
    exact ⟨fun _ => hK _ _ hs, fun q => absurd (by decide) q⟩
  | succ m ih =>
    intro k a h hs
    have hk : k < 64 := by omega
    refine ⟨fun c => absurd c (notLe (a := 64) hk (by decide)), fun _ => tX4_has_ hk (fun hm => ⟨fun _ => ?_, fun c => absurd rfl c⟩) (fun hm => ⟨fun c => absurd c (by decide), fun _ => ⟨nI_in hk (by decide), fun x hx => ?_⟩⟩)⟩
    · rw [← nI_succ]
      refine ih (k + 1) a (by omega) (fun u hu => (hs u hu).trans ⟨?_, ?_⟩)
      · rintro ⟨w, q, r⟩
        exact ⟨w, by omega, r⟩
      · rintro ⟨w, q, r, s, t⟩
        rcases Nat.lt_succ_iff_lt_or_eq.mp q with e | e
        · exact ⟨w, e, r, s, t⟩
        · subst e
          have : mw (po &&& (p ^^^ (-1 : Int64))) w = true := mwA.mpr ⟨r, (mwN hk).mpr s⟩
          rw [hm] at this
          exact absurd this (by decide)
    · obtain ⟨y, hy, ey⟩ := hD k hk
      obtain ⟨p1, p2⟩ := mwA.mp hm
      rw [nI_clamp (show k < 2 ^ 31 by omega), ey] at hx
      rw [← nI_succ]
      refine ih (k + 1) x (by omega) (fun u hu => ?_)
      rw [hx, mwO, hs u hu, mwB hy]
      constructor
      · rintro (⟨w, q, r⟩ | e)
        · exact ⟨w, by omega, r⟩
        · subst e
          exact ⟨k, by omega, p1, (mwN hk).mp p2, ey⟩
      · rintro ⟨w, q, r, s, t⟩
        rcases Nat.lt_succ_iff_lt_or_eq.mp q with e | e
        · exact Or.inl ⟨w, e, r, s, t⟩
        · subst e
          exact Or.inr (nIinj (by omega) (by omega) (ey.symm.trans t))
theorem uX4_known_R_L54 {post : Int64 → Prop} {K : Int64 → Int32 → Prop} {po sp : Int64} {rwf : Nat → Int32} (hD : R64 rwf) (hK : ∀ a b, (∀ w, w < 64 → (mw a w = true ↔ mw po w = true ∧ ¬ mw sp (rwf w).toNatClampNeg = true)) → K a b) : ∀ (m k : Nat) (a : Int64), k + m = 64 → (∀ w, w < 64 → (mw a w = true ↔ w < k ∧ mw po w = true ∧ ¬ mw sp (rwf w).toNatClampNeg = true)) → wX4_known_R_L54 post K po rwf sp (m + 1) a (nI k) := by
  intro m
  induction m with
  | zero =>
    intro k a h hs
    obtain rfl : k = 64 := by omega
    exact ⟨fun _ => hK _ _ (fun w hw => (hs w hw).trans ⟨fun q => q.2, fun q => ⟨hw, q⟩⟩), fun q => absurd (by decide) q⟩
  | succ m ih =>
    intro k a h hs
    have hk : k < 64 := by omega
    obtain ⟨y, hy, ey⟩ := hD k hk
    have ek : (nI k).toNatClampNeg = k := nI_clamp (by omega)
    have no : ¬ (mw po k = true ∧ ¬ mw sp (rwf k).toNatClampNeg = true) → wX4_known_R_L54 post K po rwf sp (m + 1) a (nI k + 1) := fun hn => by
      rw [← nI_succ]
      refine ih (k + 1) a (by omega) (fun w hw => (hs w hw).trans ⟨fun q => ⟨by omega, q.2⟩, fun q => ⟨?_, q.2⟩⟩)
      rcases Nat.lt_succ_iff_lt_or_eq.mp q.1 with e | e
      · exact e
      · subst e
        exact absurd q.2 hn
    refine ⟨fun c => absurd c (notLe (a := 64) hk (by decide)), fun _ => tX4_has_ hk (fun hm => ⟨fun _ => no (fun q => by rw [hm] at q; exact absurd q.1 (by decide)), fun c => absurd rfl c⟩) (fun hm => ⟨fun c => absurd c (by decide), fun _ => ⟨nI_in hk (by decide), ?_⟩⟩)⟩
    rw [ek, ey]
    refine tX4_has_ hy (fun h0 => ⟨fun c => absurd rfl c, fun _ => ?_⟩) (fun h1 => ⟨fun _ => no (fun q => q.2 (by rw [ey, nI_clamp (show y < 2 ^ 31 by omega)]; exact h1)), fun c => absurd c (by decide)⟩)
    rw [← nI_succ]
    refine ih (k + 1) _ (by omega) (fun w hw => ?_)
    rw [mwO, hs w hw, mwB hk]
    constructor
    · rintro (q | e)
      · exact ⟨by omega, q.2⟩
      · subst e
        exact ⟨by omega, hm, fun q => by rw [ey, nI_clamp (show y < 2 ^ 31 by omega), h0] at q; exact absurd q (by decide)⟩
    · rintro ⟨p, q⟩
      rcases Nat.lt_succ_iff_lt_or_eq.mp p with e | e
      · exact Or.inl ⟨e, q⟩
      · exact Or.inr e.symm
theorem uX4_known_R {post : Int64 → Prop} {po p : Int64} {rwf : Nat → Int32} (hD : R64 rwf) (h : ∀ r, (∀ w, w < 64 → (mw r w = true ↔ mw po w = true ∧ ∀ v, v < 64 → mw po v = true → rwf w = rwf v → mw p v = true)) → post r) : wX4_known_R post po rwf p := by
  refine ⟨65, uX4_known_R_L6 hD (fun a b ha => ⟨65, uX4_known_R_L54 hD (fun c d hc => h c (fun w hw => (hc w hw).trans (cong2 fun _ => ?_))) 64 0 0 rfl (fun w hw => ⟨fun q => absurd q mwZ, fun q => absurd q.1 (Nat.not_lt_zero w)⟩)⟩) 64 0 0 rfl (fun u hu => ⟨fun q => absurd q mwZ, fun q => ?_⟩)⟩
  · obtain ⟨w, hw, -⟩ := q
    exact absurd hw (Nat.not_lt_zero w)
  · obtain ⟨y, hy, ey⟩ := hD w hw
    rw [ey, nI_clamp (show y < 2 ^ 31 by omega), ha y hy]
    constructor
    · intro q v hv ho e
      exact Classical.byContradiction fun n => q ⟨v, hv, ho, n, e.symm⟩
    · rintro q ⟨v, hv, ho, n, e⟩
      exact n (q v hv ho e.symm)
/-- where a guard knows it -/
def KNW (op : Int64) (E : Nat → Nat → Nat → Bool) (g : Nat) (p : Int64) (w : Nat) : Prop := ∀ v, v < 64 → mw op v = true → E g w v = true → mw p v = true
theorem uX4_known {post : Int64 → Prop} {po p : Int64} {DD : Nat → Nat → Int32} {g : Nat} (hD : DOK DD) (hg : g < 6) (h : ∀ r, (∀ w, w < 64 → (mw r w = true ↔ mw po w = true ∧ KNW po (ED DD) g p w)) → post r) : wX4_known post po DD (nI g) p := by
  refine ⟨nI_in hg (by decide), ?_⟩
  rw [nI_clamp (show g < 2 ^ 31 by omega)]
  refine uX4_known_D (hD g hg) (fun r hr => h r (fun w hw => (hr w hw).trans (cong2 fun _ => ⟨fun q v hv ho e => q v hv ho (of_decide_eq_true e), fun q v hv ho e => q v hv ho (decide_eq_true e)⟩)))
theorem hiN : ∀ s, s < 64 → ∀ g, g < 6 → ((((nI s) >>> ((nI g) &&& 31)) &&& (1 : Int32)) = (1 : Int32) ↔ s.testBit g = true) := by decide +kernel
theorem uX4_has {post : Int32 → Prop} {s g : Nat} (hs : s < 64) (hg : g < 6) (h0 : ¬ s.testBit g = true → post 0) (h1 : s.testBit g = true → post 1) : wX4_has post (nI s) (nI g) := tX4_has (fun q => h0 (fun r => q ((hiN s hs g hg).mpr r))) (fun q => h1 ((hiN s hs g hg).mp q))
theorem uX4_knownByAll_L9 {post : Int64 → Prop} {K : Int64 → Int32 → Prop} {po p : Int64} {DD : Nat → Nat → Int32} {s : Nat} (hD : DOK DD) (hs : s < 64) (hK : ∀ a b, (∀ w, w < 64 → (mw a w = true ↔ mw po w = true ∧ ∀ g, g < 6 → s.testBit g = true → KNW po (ED DD) g p w)) → K a b) : ∀ (m k : Nat) (a : Int64), k + m = 6 → (∀ w, w < 64 → (mw a w = true ↔ mw po w = true ∧ ∀ g, g < k → s.testBit g = true → KNW po (ED DD) g p w)) → wX4_knownByAll_L9 post K po DD (nI s) p (m + 1) a (nI k) := by
  intro m
  induction m with
  | zero =>
    intro k a h ha
    obtain rfl : k = 6 := by omega
    exact ⟨fun _ => hK _ _ ha, fun q => absurd (by decide) q⟩
  | succ m ih =>
    intro k a h ha
    have hk : k < 6 := by omega
    refine ⟨fun c => absurd c (notLe (a := 6) hk (by decide)), fun _ => uX4_has hs hk (fun hm => ⟨fun _ => ?_, fun c => absurd rfl c⟩) (fun hm => ⟨fun c => absurd c (by decide), fun _ => uX4_known hD hk (fun r hr => ?_)⟩)⟩
    · rw [← nI_succ]
      refine ih (k + 1) _ (by omega) (fun w hw => ?_)
      rw [mwA, ha w hw]
      constructor
      · rintro ⟨⟨p1, p2⟩, -⟩
        refine ⟨p1, fun g hg hb => ?_⟩
        rcases Nat.lt_succ_iff_lt_or_eq.mp hg with e | e
        · exact p2 g e hb
        · subst e
          exact absurd hb hm
      · rintro ⟨p1, p2⟩
        exact ⟨⟨p1, fun g hg hb => p2 g (by omega) hb⟩, mwM hw⟩
    · rw [← nI_succ]
      refine ih (k + 1) _ (by omega) (fun w hw => ?_)
      rw [mwA, ha w hw, hr w hw]
      constructor
      · rintro ⟨⟨p1, p2⟩, -, p3⟩
        refine ⟨p1, fun g hg hb => ?_⟩
        rcases Nat.lt_succ_iff_lt_or_eq.mp hg with e | e
        · exact p2 g e hb
        · subst e
          exact p3
      · rintro ⟨p1, p2⟩
        exact ⟨⟨p1, fun g hg hb => p2 g (by omega) hb⟩, p1, p2 k (by omega) hm⟩
theorem uX4_knownByAll {post : Int64 → Prop} {po p : Int64} {DD : Nat → Nat → Int32} {s : Nat} (hD : DOK DD) (hs : s < 64) (h : ∀ r, (∀ w, w < 64 → (mw r w = true ↔ mw po w = true ∧ ∀ g, g < 6 → s.testBit g = true → KNW po (ED DD) g p w)) → post r) : wX4_knownByAll post po DD (nI s) p :=
  ⟨7, uX4_knownByAll_L9 hD hs (fun a _ q => h a q) 6 0 po rfl (fun w hw => ⟨fun q => ⟨q, fun g hg => absurd hg (Nat.not_lt_zero g)⟩, fun q => q.1⟩)⟩
theorem uX4_common_L11 {post : Int64 → Prop} {K : Int64 → Int64 → Prop} {po p : Int64} {DD : Nat → Nat → Int32} {s : Nat} (hD : DOK DD) (hs : s < 64) (hp : SUBW p po) (hK : ∀ a b, (∀ w, w < 64 → (mw a w = true ↔ mw po w = true ∧ COM po (ED DD) s p w)) → K a b) : ∀ (n : Nat) (a b : Int64), (a = b ∨ a.toBitVec.toNat + 1 ≤ n) → SUBW a p → (∀ w, w < 64 → COM po (ED DD) s p w → mw a w = true) → (b = a ^^^ (-1 : Int64) ∨ ∀ w, w < 64 → mw a w = true → ∀ g, g < 6 → s.testBit g = true → KNW po (ED DD) g b w) → wX4_common_L11 post K po DD (nI s) (n + 1) a b := by
  have fin : ∀ a b : Int64, a = b → SUBW a p → (∀ w, w < 64 → COM po (ED DD) s p w → mw a w = true) → (b = a ^^^ (-1 : Int64) ∨ ∀ w, w < 64 → mw a w = true → ∀ g, g < 6 → s.testBit g = true → KNW po (ED DD) g b w) → K a b := by
    intro a b e h1 h2 h3
    subst e
    have h4 := h3.resolve_left (fun q => by
      have := mw_not a (show 0 < 64 by decide)
      rw [← q] at this
      cases hh : mw a 0 <;> rw [hh] at this <;> exact absurd this (by decide))
    exact hK _ _ (fun w hw => ⟨fun q => ⟨hp w hw (h1 w hw q), fun v => mw a v = true, q, fun v hv hS => ⟨h1 v hv hS, fun g hg hb u hu ho he => h4 v hv hS g hg hb u hu ho he⟩⟩, fun q => h2 w hw q.2⟩)
  intro n
  induction n with
  | zero =>
    intro a b h h1 h2 h3
    have e : a = b := h.resolve_right (by omega)
    exact ⟨fun _ => fin a b e h1 h2 h3, fun c => absurd ((lg_cmp_eq _ _).mpr e) c⟩
  | succ n ih =>
    intro a b h h1 h2 h3
    refine ⟨fun c => fin a b ((lg_cmp_eq _ _).mp c) h1 h2 h3, fun c => uX4_knownByAll hD hs (fun r hr => ih _ _ ?_ (fun w hw q => h1 w hw (mwA.mp q).1) (fun w hw q => mwA.mpr ⟨h2 w hw q, (hr w hw).mpr ⟨hp w hw (h1 w hw (h2 w hw q)), ?_⟩⟩) (Or.inr fun w hw q => ((hr w hw).mp (mwA.mp q).2).2))⟩
    · have h4 : a.toBitVec.toNat + 1 ≤ n + 1 := h.resolve_left (fun e => c ((lg_cmp_eq _ _).mpr e))
      by_cases e : a &&& r = a
      · exact Or.inl e
      · have := andLt e
        exact Or.inr (by omega)
    · obtain ⟨S, s1, s2⟩ := q
      intro g hg hb u hu ho he
      exact h2 u hu ⟨S, (s2 w hw s1).2 g hg hb u hu ho he, s2⟩
theorem uX4_common {post : Int64 → Prop} {po p : Int64} {DD : Nat → Nat → Int32} {s : Nat} (hD : DOK DD) (hs : s < 64) (hp : SUBW p po) (h : ∀ r, (∀ w, w < 64 → (mw r w = true ↔ mw po w = true ∧ COM po (ED DD) s p w)) → post r) : wX4_common post po DD (nI s) p :=
  ⟨p.toBitVec.toNat + 2, uX4_common_L11 hD hs hp (fun a _ q => h a q) (p.toBitVec.toNat + 1) _ _ (Or.inr (Nat.le_refl _)) (fun _ _ q => q) (fun w hw q => by
    obtain ⟨S, s1, s2⟩ := q
    exact (s2 w hw s1).1) (Or.inl rfl)⟩
theorem hiW : ∀ w, w < 64 → ∀ a, a < 6 → ((((nI w) >>> ((nI a) &&& 31)) &&& (1 : Int32)) = (1 : Int32) ↔ w.testBit a = true) := hiN
theorem uX4_fact_L5 {post : Int64 → Prop} {K : Int64 → Int32 → Prop} {a : Nat} (ha : a < 6) (hK : ∀ x b, (∀ v, v < 64 → (mw x v = true ↔ v.testBit a = true)) → K x b) : ∀ (m k : Nat) (x : Int64), k + m = 64 → (∀ v, v < 64 → (mw x v = true ↔ v < k ∧ v.testBit a = true)) → wX4_fact_L5 post K (nI a) (m + 1) x (nI k) := by
  intro m
  induction m with
  | zero =>
    intro k x h hx
    obtain rfl : k = 64 := by omega
    exact ⟨fun _ => hK _ _ (fun v hv => (hx v hv).trans ⟨fun q => q.2, fun q => ⟨hv, q⟩⟩), fun q => absurd (by decide) q⟩
  | succ m ih =>
    intro k x h hx
    have hk : k < 64 := by omega
    refine ⟨fun c => absurd c (notLe (a := 64) hk (by decide)), fun _ => uX4_has hk ha (fun hm => ⟨fun _ => ?_, fun c => absurd rfl c⟩) (fun hm => ⟨fun c => absurd c (by decide), fun _ => ?_⟩)⟩
    · rw [← nI_succ]
      refine ih (k + 1) _ (by omega) (fun v hv => ?_)
      rw [mwO, hx v hv]
      constructor
      · rintro (q | q)
        · exact ⟨by omega, q.2⟩
        · exact absurd q mwZ
      · rintro ⟨p, q⟩
        rcases Nat.lt_succ_iff_lt_or_eq.mp p with e | e
        · exact Or.inl ⟨e, q⟩
        · subst e
          exact absurd q hm
    · rw [← nI_succ]
      refine ih (k + 1) _ (by omega) (fun v hv => ?_)
      rw [mwO, hx v hv, mwB hk]
      constructor
      · rintro (q | q)
        · exact ⟨by omega, q.2⟩
        · subst q
          exact ⟨by omega, hm⟩
      · rintro ⟨p, q⟩
        rcases Nat.lt_succ_iff_lt_or_eq.mp p with e | e
        · exact Or.inl ⟨e, q⟩
        · exact Or.inr e.symm
theorem uX4_fact {post : Int64 → Prop} {po : Int64} {a : Nat} (ha : a < 6) (h : ∀ r, (∀ v, v < 64 → (mw r v = true ↔ mw po v = true ∧ v.testBit a = true)) → post r) : wX4_fact post po (nI a) :=
  ⟨65, uX4_fact_L5 ha (fun x b hx => h _ (fun v hv => by rw [mwA, hx v hv]; exact and_comm)) 64 0 0 rfl (fun v hv => ⟨fun q => absurd q mwZ, fun q => absurd q.1 (Nat.not_lt_zero v)⟩)⟩
/-! the stamps -/
def STP (c : Nat) (sp : Int32) (stf : Nat → Int32) : Prop := ∃ d, d ≤ c ∧ sp = nI d ∧ ∀ y, y < 4096 → ∃ e, e ≤ d ∧ stf y = nI e
theorem STP.mono {c c2 : Nat} {sp : Int32} {stf : Nat → Int32} (h : STP c sp stf) (hc : c ≤ c2) : STP c2 sp stf := by
  obtain ⟨d, a, b⟩ := h
  exact ⟨d, by omega, b⟩
def kyv (one oth : Nat → Int32) (v : Nat) : Nat := (one v).toNatClampNeg * 64 + (oth v).toNatClampNeg
theorem kyI {one oth : Nat → Int32} (h1 : R64 one) (h2 : R64 oth) {v : Nat} (hv : v < 64) : kyv one oth v < 4096 ∧ (one v * (64 : Int32) + oth v) = nI (kyv one oth v) := by
  obtain ⟨a, ha, ea⟩ := h1 v hv
  obtain ⟨b, hb, eb⟩ := h2 v hv
  unfold kyv
  rw [ea, eb, nI_clamp (show a < 2 ^ 31 by omega), nI_clamp (show b < 2 ^ 31 by omega)]
  refine ⟨by omega, ?_⟩
  rw [show (64 : Int32) = nI 64 from rfl, show nI a * nI 64 = nI (a * 64) from (Int32.ofNat_mul a 64).symm, nI_add]
theorem kyE {one oth : Nat → Int32} (h1 : R64 one) (h2 : R64 oth) {w v : Nat} (hw : w < 64) (hv : v < 64) : kyv one oth w = kyv one oth v ↔ one w = one v ∧ oth w = oth v := by
  obtain ⟨a, ha, ea⟩ := h1 v hv
  obtain ⟨b, hb, eb⟩ := h2 v hv
  obtain ⟨a2, ha2, ea2⟩ := h1 w hw
  obtain ⟨b2, hb2, eb2⟩ := h2 w hw
  unfold kyv
  rw [ea, eb, ea2, eb2, nI_clamp (show a < 2 ^ 31 by omega), nI_clamp (show b < 2 ^ 31 by omega), nI_clamp (show a2 < 2 ^ 31 by omega), nI_clamp (show b2 < 2 ^ 31 by omega)]
  constructor
  · intro q
    obtain rfl : a2 = a := by omega
    obtain rfl : b2 = b := by omega
    exact ⟨rfl, rfl⟩
  · rintro ⟨p, q⟩
    rw [nIinj (by omega) (by omega) p, nIinj (by omega) (by omega) q]
def JN (one oth : Nat → Int32) (k : Nat) (s1 : Int32) (st0 st fs jn : Nat → Int32) : Prop := (∀ v, v < k → st (kyv one oth v) = s1) ∧ (∀ y, y < 4096 → st y = s1 → ∃ u, u < k ∧ kyv one oth u = y ∧ fs y = nI u) ∧ (∀ w, w < k → jn w = fs (kyv one oth w)) ∧ (∀ y, st y = s1 ∨ st y = st0 y) ∧ RF fs ∧ R64 jn
theorem uX4_joinR_L13 {post : Int32 × (Nat → Int32) × (Nat → Int32) × (Nat → Int32) × (Nat → Int32) → Prop} {K : Int32 → (Nat → Int32) → (Nat → Int32) → (Nat → Int32) → Prop} {sp : Int32} {DD : Nat → Nat → Int32} {rwf : Nat → Int32} {g : Nat} {st0 : Nat → Int32} (h1 : R64 rwf) (h2 : R64 (DD g)) (hfr : ∀ y, y < 4096 → ¬ st0 y = sp + (1 : Int32)) (hK : ∀ i st fs jn, JN rwf (DD g) 64 (sp + (1 : Int32)) st0 st fs jn → K i st fs jn) : ∀ (m k : Nat) (st fs jn : Nat → Int32), k + m = 64 → JN rwf (DD g) k (sp + (1 : Int32)) st0 st fs jn → wX4_joinR_L13 post K sp DD rwf g (m + 1) (nI k) st fs jn := by
  intro m
  induction m with
  | zero =>
    intro k st fs jn h hJ
    obtain rfl : k = 64 := by omega
    exact ⟨fun _ => hK _ _ _ _ hJ, fun q => absurd (by decide) q⟩
  | succ m ih =>
    intro k st fs jn h hJ
    have hk : k < 64 := by omega
    obtain ⟨A, B, C, D, F, R⟩ := hJ
    obtain ⟨k1, k2⟩ := kyI h1 h2 hk
    have ek : (nI k).toNatClampNeg = k := nI_clamp (by omega)
    refine ⟨fun c => absurd c (notLe (a := 64) hk (by decide)), fun _ => ⟨nI_in hk (by decide), nI_in hk (by decide), fun x hx => ?_⟩⟩
    rw [ek, k2] at hx
    have vx : vp_in x 4096 := by
      rw [hx]
      exact nI_in k1 (by decide)
    have ex : x.toNatClampNeg = kyv rwf (DD g) k := by
      rw [hx]
      exact nI_clamp (by omega)
    rw [ex, ek]
    refine ⟨vx, fun c => ⟨vx, nI_in hk (by decide), ?_⟩, fun c => ⟨vx, vx, vx, nI_in hk (by decide), ?_⟩⟩
    · rw [← nI_succ]
      obtain ⟨u, u1, u2, u3⟩ := B _ k1 c
      refine ih (k + 1) st fs _ (by omega) ⟨fun v hv => ?_, fun y hy q => ?_, fun w hw => ?_, D, F, R.upd (F _ k1)⟩
      · rcases Nat.lt_succ_iff_lt_or_eq.mp hv with e | e
        · exact A v e
        · subst e
          exact c
      · obtain ⟨u, p, q⟩ := B y hy q
        exact ⟨u, by omega, q⟩
      · by_cases e : w = k
        · subst e
          exact updAt _ _ _
        · rw [updNe _ _ e]
          exact C w (by omega)
    · rw [← nI_succ]
      have ne : ∀ v, v < k → ¬ kyv rwf (DD g) v = kyv rwf (DD g) k := fun v hv q => c (by rw [← q]; exact A v hv)
      refine ih (k + 1) _ _ _ (by omega) ⟨fun v hv => ?_, fun y hy q => ?_, fun w hw => ?_, fun y => ?_, F.upd ⟨k, hk, rfl⟩, R.upd ?_⟩
      · rcases Nat.lt_succ_iff_lt_or_eq.mp hv with e | e
        · rw [updNe _ _ (ne v e)]
          exact A v e
        · subst e
          exact updAt _ _ _
      · by_cases e : y = kyv rwf (DD g) k
        · subst e
          exact ⟨k, by omega, rfl, updAt _ _ _⟩
        · rw [updNe _ _ e] at q ⊢
          obtain ⟨u, p, q⟩ := B y hy q
          exact ⟨u, by omega, q⟩
      · by_cases e : w = k
        · subst e
          exact updAt _ _ _
        · rw [updNe _ _ e, updNe _ _ (ne w (by omega))]
          exact C w (by omega)
      · by_cases e : y = kyv rwf (DD g) k
        · subst e
          exact Or.inl (updAt _ _ _)
        · rw [updNe _ _ e]
          exact D y
      · rw [updAt]
        exact ⟨k, hk, rfl⟩
theorem uX4_joinK_L13 {post : Int32 × (Nat → Int32) × (Nat → Int32) × (Nat → Int32) × (Nat → Nat → Int32) → Prop} {K : Int32 → (Nat → Int32) → (Nat → Int32) → (Nat → Int32) → Prop} {sp : Int32} {DD : Nat → Nat → Int32} {KP : Nat → Nat → Int32} {lv gf : Nat} {st0 : Nat → Int32} (h1 : R64 (KP lv)) (h2 : R64 (DD gf)) (hfr : ∀ y, y < 4096 → ¬ st0 y = sp + (1 : Int32)) (hK : ∀ i st fs jn, JN (KP lv) (DD gf) 64 (sp + (1 : Int32)) st0 st fs jn → K i st fs jn) : ∀ (m k : Nat) (st fs jn : Nat → Int32), k + m = 64 → JN (KP lv) (DD gf) k (sp + (1 : Int32)) st0 st fs jn → wX4_joinK_L13 post K sp DD KP lv gf (m + 1) (nI k) st fs jn := by
  intro m
  induction m with
  | zero =>
    intro k st fs jn h hJ
    obtain rfl : k = 64 := by omega
    exact ⟨fun _ => hK _ _ _ _ hJ, fun q => absurd (by decide) q⟩
  | succ m ih =>
    intro k st fs jn h hJ
    have hk : k < 64 := by omega
    obtain ⟨A, B, C, D, F, R⟩ := hJ
    obtain ⟨k1, k2⟩ := kyI h1 h2 hk
    have ek : (nI k).toNatClampNeg = k := nI_clamp (by omega)
    refine ⟨fun c => absurd c (notLe (a := 64) hk (by decide)), fun _ => ⟨nI_in hk (by decide), nI_in hk (by decide), fun x hx => ?_⟩⟩
    rw [ek, k2] at hx
    have vx : vp_in x 4096 := by
      rw [hx]
      exact nI_in k1 (by decide)
    have ex : x.toNatClampNeg = kyv (KP lv) (DD gf) k := by
      rw [hx]
      exact nI_clamp (by omega)
    rw [ex, ek]
    refine ⟨vx, fun c => ⟨vx, nI_in hk (by decide), ?_⟩, fun c => ⟨vx, vx, vx, nI_in hk (by decide), ?_⟩⟩
    · rw [← nI_succ]
      obtain ⟨u, u1, u2, u3⟩ := B _ k1 c
      refine ih (k + 1) st fs _ (by omega) ⟨fun v hv => ?_, fun y hy q => ?_, fun w hw => ?_, D, F, R.upd (F _ k1)⟩
      · rcases Nat.lt_succ_iff_lt_or_eq.mp hv with e | e
        · exact A v e
        · subst e
          exact c
      · obtain ⟨u, p, q⟩ := B y hy q
        exact ⟨u, by omega, q⟩
      · by_cases e : w = k
        · subst e
          exact updAt _ _ _
        · rw [updNe _ _ e]
          exact C w (by omega)
    · rw [← nI_succ]
      have ne : ∀ v, v < k → ¬ kyv (KP lv) (DD gf) v = kyv (KP lv) (DD gf) k := fun v hv q => c (by rw [← q]; exact A v hv)
      refine ih (k + 1) _ _ _ (by omega) ⟨fun v hv => ?_, fun y hy q => ?_, fun w hw => ?_, fun y => ?_, F.upd ⟨k, hk, rfl⟩, R.upd ?_⟩
      · rcases Nat.lt_succ_iff_lt_or_eq.mp hv with e | e
        · rw [updNe _ _ (ne v e)]
          exact A v e
        · subst e
          exact updAt _ _ _
      · by_cases e : y = kyv (KP lv) (DD gf) k
        · subst e
          exact ⟨k, by omega, rfl, updAt _ _ _⟩
        · rw [updNe _ _ e] at q ⊢
          obtain ⟨u, p, q⟩ := B y hy q
          exact ⟨u, by omega, q⟩
      · by_cases e : w = k
        · subst e
          exact updAt _ _ _
        · rw [updNe _ _ e, updNe _ _ (ne w (by omega))]
          exact C w (by omega)
      · by_cases e : y = kyv (KP lv) (DD gf) k
        · subst e
          exact Or.inl (updAt _ _ _)
        · rw [updNe _ _ e]
          exact D y
      · rw [updAt]
        exact ⟨k, hk, rfl⟩
theorem JNe {one oth : Nat → Int32} {s1 : Int32} {st0 st fs jn : Nat → Int32} (h1 : R64 one) (h2 : R64 oth) (h : JN one oth 64 s1 st0 st fs jn) {w v : Nat} (hw : w < 64) (hv : v < 64) : jn w = jn v ↔ one w = one v ∧ oth w = oth v := by
  obtain ⟨A, B, C, D, F, R⟩ := h
  rw [← kyE h1 h2 hw hv, C w hw, C v hv]
  constructor
  · intro q
    obtain ⟨u, a1, a2, a3⟩ := B _ (kyI h1 h2 hw).1 (A w hw)
    obtain ⟨u2, b1, b2, b3⟩ := B _ (kyI h1 h2 hv).1 (A v hv)
    rw [a3, b3] at q
    rw [← a2, ← b2, nIinj (by omega) (by omega) q]
  · intro q
    rw [q]
theorem JNs {c : Nat} {sp : Int32} {one oth st0 st fs jn : Nat → Int32} {k : Nat} (hS : STP c sp st0) (h : JN one oth k (sp + (1 : Int32)) st0 st fs jn) : STP (c + 1) (sp + (1 : Int32)) st := by
  obtain ⟨d, d1, d2, d3⟩ := hS
  refine ⟨d + 1, by omega, by rw [d2, nI_succ], fun y hy => ?_⟩
  rcases h.2.2.2.1 y with e | e
  · exact ⟨d + 1, Nat.le_refl _, by rw [e, d2, nI_succ]⟩
  · obtain ⟨e2, f1, f2⟩ := d3 y hy
    exact ⟨e2, by omega, by rw [e, f2]⟩
theorem STPf {c : Nat} {sp : Int32} {stf : Nat → Int32} (hc : c + 1 < 2 ^ 31) (hS : STP c sp stf) : ∀ y, y < 4096 → ¬ stf y = sp + (1 : Int32) := by
  obtain ⟨d, d1, d2, d3⟩ := hS
  intro y hy q
  obtain ⟨e, e1, e2⟩ := d3 y hy
  rw [e2, d2, ← nI_succ] at q
  have := nIinj (by omega) (by omega) q
  omega
theorem uX4_joinR_L91 {post : Int32 × (Nat → Int32) × (Nat → Int32) × (Nat → Int32) × (Nat → Int32) → Prop} {K : Int32 → (Nat → Int32) → Prop} {jn : Nat → Int32} (hK : ∀ i r, (∀ w, w < 64 → r w = jn w) → K i r) : ∀ (m k : Nat) (r : Nat → Int32), k + m = 64 → (∀ w, w < k → r w = jn w) → wX4_joinR_L91 post K jn (m + 1) (nI k) r := by
  intro m
  induction m with
  | zero =>
    intro k r h hr
    obtain rfl : k = 64 := by omega
    exact ⟨fun _ => hK _ _ hr, fun q => absurd (by decide) q⟩
  | succ m ih =>
    intro k r h hr
    have hk : k < 64 := by omega
    refine ⟨fun c => absurd c (notLe (a := 64) hk (by decide)), fun _ => ⟨nI_in hk (by decide), nI_in hk (by decide), ?_⟩⟩
    rw [← nI_succ, nI_clamp (show k < 2 ^ 31 by omega)]
    refine ih (k + 1) _ (by omega) (fun w hw => ?_)
    by_cases e : w = k
    · subst e
      exact updAt _ _ _
    · rw [updNe _ _ e]
      exact hr w (by omega)
theorem uX4_joinR {post : Int32 × (Nat → Int32) × (Nat → Int32) × (Nat → Int32) × (Nat → Int32) → Prop} {g c : Nat} {sp : Int32} {DD : Nat → Nat → Int32} {stf fsf jnf rwf : Nat → Int32} (hc : c + 1 < 2 ^ 31) (hS : STP c sp stf) (h2 : R64 (DD g)) (h1 : R64 rwf) (hf : RF fsf) (hj : R64 jnf) (h : ∀ sp2 st2 fs2 jn2 rw2, STP (c + 1) sp2 st2 → RF fs2 → R64 jn2 → R64 rw2 → (∀ w, w < 64 → ∀ v, v < 64 → (rw2 w = rw2 v ↔ rwf w = rwf v ∧ DD g w = DD g v)) → post (sp2, st2, fs2, jn2, rw2)) : wX4_joinR post g sp DD stf fsf jnf rwf :=
  ⟨65, uX4_joinR_L13 h1 h2 (STPf hc hS) (fun i st fs jn hJ => ⟨65, uX4_joinR_L91 (fun i r hr => h _ _ _ _ _ (JNs hS hJ) hJ.2.2.2.2.1 hJ.2.2.2.2.2 (fun w hw => by rw [hr w hw]; exact hJ.2.2.2.2.2 w hw) (fun w hw v hv => by rw [hr w hw, hr v hv]; exact JNe h1 h2 hJ hw hv)) 64 0 rwf rfl (fun w hw => absurd hw (Nat.not_lt_zero w))⟩) 64 0 stf fsf jnf rfl ⟨fun v hv => absurd hv (Nat.not_lt_zero v), fun y hy q => absurd q (STPf hc hS y hy), fun w hw => absurd hw (Nat.not_lt_zero w), fun y => Or.inr rfl, hf, hj⟩⟩
theorem uX4_joinK_L91 {post : Int32 × (Nat → Int32) × (Nat → Int32) × (Nat → Int32) × (Nat → Nat → Int32) → Prop} {K : Int32 → (Nat → Nat → Int32) → Prop} {gt : Nat} {jn : Nat → Int32} {D0 : Nat → Nat → Int32} (hK : ∀ i D, (∀ w, w < 64 → D gt w = jn w) → (∀ w, 64 ≤ w → D gt w = D0 gt w) → (∀ g, ¬ g = gt → D g = D0 g) → K i D) : ∀ (m k : Nat) (D : Nat → Nat → Int32), k + m = 64 → (∀ w, w < k → D gt w = jn w) → (∀ w, 64 ≤ w → D gt w = D0 gt w) → (∀ g, ¬ g = gt → D g = D0 g) → wX4_joinK_L91 post K gt jn (m + 1) (nI k) D := by
  intro m
  induction m with
  | zero =>
    intro k D h h1 h2 h3
    obtain rfl : k = 64 := by omega
    exact ⟨fun _ => hK _ _ h1 h2 h3, fun q => absurd (by decide) q⟩
  | succ m ih =>
    intro k D h h1 h2 h3
    have hk : k < 64 := by omega
    have vfA : ∀ (f : Nat → Int32), vf_upd D gt f gt = f := fun f => by
      show (if gt = gt then f else D gt) = f
      rw [if_pos rfl]
    refine ⟨fun c => absurd c (notLe (a := 64) hk (by decide)), fun _ => ⟨nI_in hk (by decide), nI_in hk (by decide), ?_⟩⟩
    rw [← nI_succ, nI_clamp (show k < 2 ^ 31 by omega)]
    refine ih (k + 1) _ (by omega) (fun w hw => ?_) (fun w hw => ?_) (fun g hg => ?_)
    · rw [vfA]
      by_cases e : w = k
      · subst e
        exact updAt _ _ _
      · rw [updNe _ _ e]
        exact h1 w (by omega)
    · rw [vfA, updNe _ _ (by omega)]
      exact h2 w hw
    · show (if g = gt then _ else D g) = D0 g
      rw [if_neg hg]
      exact h3 g hg
theorem uX4_joinK {post : Int32 × (Nat → Int32) × (Nat → Int32) × (Nat → Int32) × (Nat → Nat → Int32) → Prop} {lv gf gt c : Nat} {sp : Int32} {DD : Nat → Nat → Int32} {stf fsf jnf : Nat → Int32} {KP : Nat → Nat → Int32} (hc : c + 1 < 2 ^ 31) (hS : STP c sp stf) (h2 : R64 (DD gf)) (h1 : R64 (KP lv)) (hf : RF fsf) (hj : R64 jnf) (h : ∀ sp2 st2 fs2 jn2 D, STP (c + 1) sp2 st2 → RF fs2 → R64 jn2 → R64 (D gt) → (∀ g, ¬ g = gt → D g = DD g) → (∀ w, 64 ≤ w → D gt w = DD gt w) → (∀ w, w < 64 → ∀ v, v < 64 → (D gt w = D gt v ↔ KP lv w = KP lv v ∧ DD gf w = DD gf v)) → post (sp2, st2, fs2, jn2, D)) : wX4_joinK post lv gf gt sp DD stf fsf jnf KP :=
  ⟨65, uX4_joinK_L13 h1 h2 (STPf hc hS) (fun i st fs jn hJ => ⟨65, uX4_joinK_L91 (fun i D d1 d2 d3 => h _ _ _ _ _ (JNs hS hJ) hJ.2.2.2.2.1 hJ.2.2.2.2.2 (fun w hw => by rw [d1 w hw]; exact hJ.2.2.2.2.2 w hw) d3 d2 (fun w hw v hv => by rw [d1 w hw, d1 v hv]; exact JNe h1 h2 hJ hw hv)) 64 0 DD rfl (fun w hw => absurd hw (Nat.not_lt_zero w)) (fun w _ => rfl) (fun g _ => rfl)⟩) 64 0 stf fsf jnf rfl ⟨fun v hv => absurd hv (Nat.not_lt_zero v), fun y hy q => absurd q (STPf hc hS y hy), fun w hw => absurd hw (Nat.not_lt_zero w), fun y => Or.inr rfl, hf, hj⟩⟩
theorem uX4_together_L3 {post : Int64 → Int32 × (Nat → Int32) × (Nat → Int32) × (Nat → Int32) × (Nat → Int32) → Prop} {K : Int32 → (Nat → Int32) → Prop} (hK : ∀ i r, (∀ w, w < 64 → r w = nI 0) → K i r) : ∀ (m k : Nat) (r : Nat → Int32), k + m = 64 → (∀ w, w < k → r w = nI 0) → wX4_together_L3 post K (m + 1) (nI k) r := by
  intro m
  induction m with
  | zero =>
    intro k r h hr
    obtain rfl : k = 64 := by omega
    exact ⟨fun _ => hK _ _ hr, fun q => absurd (by decide) q⟩
  | succ m ih =>
    intro k r h hr
    have hk : k < 64 := by omega
    refine ⟨fun c => absurd c (notLe (a := 64) hk (by decide)), fun _ => ⟨nI_in hk (by decide), ?_⟩⟩
    rw [← nI_succ, nI_clamp (show k < 2 ^ 31 by omega)]
    refine ih (k + 1) _ (by omega) (fun w hw => ?_)
    by_cases e : w = k
    · subst e
      exact updAt _ _ _
    · rw [updNe _ _ e]
      exact hr w (by omega)
theorem uX4_together_L27 {post : Int64 → Int32 × (Nat → Int32) × (Nat → Int32) × (Nat → Int32) × (Nat → Int32) → Prop} {K : Int32 → Int32 → (Nat → Int32) → (Nat → Int32) → (Nat → Int32) → (Nat → Int32) → Prop} {DD : Nat → Nat → Int32} {s c : Nat} (hD : DOK DD) (hs : s < 64) (hc : c + 6 < 2 ^ 31) (hK : ∀ i sp st fs jn r, STP (c + 6) sp st → RF fs → R64 jn → R64 r → (∀ w, w < 64 → ∀ v, v < 64 → (r w = r v ↔ ∀ g, g < 6 → s.testBit g = true → DD g w = DD g v)) → K i sp st fs jn r) : ∀ (m k : Nat) (sp : Int32) (st fs jn r : Nat → Int32), k + m = 6 → STP (c + k) sp st → RF fs → R64 jn → R64 r → (∀ w, w < 64 → ∀ v, v < 64 → (r w = r v ↔ ∀ g, g < k → s.testBit g = true → DD g w = DD g v)) → wX4_together_L27 post K DD (nI s) (m + 1) (nI k) sp st fs jn r := by
  intro m
  induction m with
  | zero =>
    intro k sp st fs jn r h h1 h2 h3 h4 h5
    obtain rfl : k = 6 := by omega
    exact ⟨fun _ => hK _ _ _ _ _ _ h1 h2 h3 h4 h5, fun q => absurd (by decide) q⟩
  | succ m ih =>
    intro k sp st fs jn r h h1 h2 h3 h4 h5
    have hk : k < 6 := by omega
    refine ⟨fun c => absurd c (notLe (a := 6) hk (by decide)), fun _ => uX4_has hs hk (fun hm => ⟨fun _ => ?_, fun c => absurd rfl c⟩) (fun hm => ⟨fun c => absurd c (by decide), fun _ => ⟨nI_in hk (by decide), ?_⟩⟩)⟩
    · rw [← nI_succ]
      refine ih (k + 1) sp st fs jn r (by omega) (h1.mono (by omega)) h2 h3 h4 (fun w hw v hv => (h5 w hw v hv).trans ⟨fun q g hg hb => ?_, fun q g hg hb => q g (by omega) hb⟩)
      rcases Nat.lt_succ_iff_lt_or_eq.mp hg with e | e
      · exact q g e hb
      · subst e
        exact absurd hb hm
    · rw [nI_clamp (show k < 2 ^ 31 by omega)]
      refine uX4_joinR (c := c + k) (by omega) h1 (hD k hk) h4 h2 h3 (fun sp2 st2 fs2 jn2 rw2 g1 g2 g3 g4 g5 => ?_)
      rw [← nI_succ]
      refine ih (k + 1) sp2 st2 fs2 jn2 rw2 (by omega) g1 g2 g3 g4 (fun w hw v hv => (g5 w hw v hv).trans ?_)
      rw [h5 w hw v hv]
      constructor
      · rintro ⟨p, q⟩ g hg hb
        rcases Nat.lt_succ_iff_lt_or_eq.mp hg with e | e
        · exact p g e hb
        · subst e
          exact q
      · intro q
        exact ⟨fun g hg hb => q g (by omega) hb, q k (by omega) hm⟩
theorem uX4_together {post : Int64 → Int32 × (Nat → Int32) × (Nat → Int32) × (Nat → Int32) × (Nat → Int32) → Prop} {po p : Int64} {sp : Int32} {DD : Nat → Nat → Int32} {stf fsf jnf rwf : Nat → Int32} {s c : Nat} (hD : DOK DD) (hs : s < 64) (hc : c + 6 < 2 ^ 31) (hS : STP c sp stf) (hf : RF fsf) (hj : R64 jnf) (h : ∀ r sp2 st2 fs2 jn2 rw2, STP (c + 6) sp2 st2 → RF fs2 → R64 jn2 → R64 rw2 → (∀ w, w < 64 → (mw r w = true ↔ mw po w = true ∧ ∀ v, v < 64 → mw po v = true → (∀ g, g < 6 → s.testBit g = true → ED DD g w v = true) → mw p v = true)) → post r (sp2, st2, fs2, jn2, rw2)) : wX4_together post po sp DD stf fsf jnf rwf (nI s) p := by
  refine ⟨65, uX4_together_L3 (fun i r0 h0 => ⟨7, uX4_together_L27 hD hs hc (fun i sp2 st2 fs2 jn2 rw2 g1 g2 g3 g4 g5 => uX4_known_R g4 (fun r hr => h r _ _ _ _ _ g1 g2 g3 g4 (fun w hw => (hr w hw).trans (cong2 fun _ => ?_)))) 6 0 sp stf fsf jnf r0 rfl hS hf hj (fun w hw => by rw [h0 w hw]; exact ⟨0, by decide, rfl⟩) (fun w hw v hv => ⟨fun _ g hg => absurd hg (Nat.not_lt_zero g), fun _ => by rw [h0 w hw, h0 v hv]⟩)⟩) 64 0 rwf rfl (fun w hw => absurd hw (Nat.not_lt_zero w))⟩
  constructor
  · intro q v hv ho hb
    exact q v hv ho ((g5 w hw v hv).mpr (fun g hg hbit => of_decide_eq_true (hb g hg hbit)))
  · intro q v hv ho e
    exact q v hv ho (fun g hg hbit => decide_eq_true ((g5 w hw v hv).mp e g hg hbit))
