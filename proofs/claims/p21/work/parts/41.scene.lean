/-! what the class's scene says, in words of the night: op the possible worlds, E g w v: the guard g cannot tell w and v apart -/
theorem mwO {a b : Int64} {w : Nat} : mw (a ||| b) w = true ↔ mw a w = true ∨ mw b w = true := by rw [mw_or, Bool.or_eq_true]
theorem mwA {a b : Int64} {w : Nat} : mw (a &&& b) w = true ↔ mw a w = true ∧ mw b w = true := by rw [mw_and, Bool.and_eq_true]
theorem mwN {a : Int64} {w : Nat} (hw : w < 64) : mw (a ^^^ (-1 : Int64)) w = true ↔ ¬ mw a w = true := by
  rw [mw_not a hw]
  cases mw a w <;> decide
theorem mwZ {w : Nat} : ¬ mw 0 w = true := by
  rw [mw_zero]
  decide
theorem mwB {k : Nat} (hk : k < 64) {w : Nat} : mw (jLshl 1 (nI k)) w = true ↔ k = w := by rw [mw_bit hk, decide_eq_true_iff]
theorem mwX {a b : Int64} (h : ∀ w, w < 64 → (mw a w = true ↔ mw b w = true)) : a = b := mw_ext (fun w hw => by
  have := h w hw
  cases h1 : mw a w <;> cases h2 : mw b w <;> simp_all)
theorem nT {b : Bool} (h : ¬ b = true) : b = false := Bool.eq_false_iff.mpr h
def CD (dk : Nat → Int64) (E : Nat → Nat → Nat → Bool) : Prop := ∀ g, g < 6 → ∀ w, w < 64 → ∀ v, v < 64 → mw (dk (g * 64 + w)) v = E g w v
def EQV (E : Nat → Nat → Nat → Bool) : Prop := (∀ g w, E g w w = true) ∧ (∀ g w v, E g w v = true → E g v w = true) ∧ (∀ g w v u, E g w v = true → E g v u = true → E g w u = true)
def ED (D : Nat → Nat → Int32) : Nat → Nat → Nat → Bool := fun g w v => decide (D g w = D g v)
theorem EDq (D : Nat → Nat → Int32) : EQV (ED D) := ⟨fun g w => decide_eq_true rfl, fun g w v h => decide_eq_true (of_decide_eq_true h).symm, fun g w v u h h2 => decide_eq_true ((of_decide_eq_true h).trans (of_decide_eq_true h2))⟩
theorem idxN {g w : Nat} (hg : g < 6) (hw : w < 64) : (nI g * (64 : Int32) + nI w).toNatClampNeg = g * 64 + w := by
  rw [show (64 : Int32) = nI 64 from rfl, show nI g * nI 64 = nI (g * 64) from (Int32.ofNat_mul g 64).symm, nI_add]
  exact nI_clamp (by omega)
theorem has_mw0 (p : Int64) {w : Nat} (hw : w < 64) : (lg_cmp ((jLushr p (nI w)) &&& (1 : Int64)) (0 : Int64)) = 0 ↔ ¬ mw p w = true := by
  rw [lg_cmp_eq]
  have hb := has_bit p hw
  constructor
  · intro h q
    rw [h, if_pos q] at hb
    exact absurd hb (by decide)
  · intro h
    apply bvEq
    rw [hb, if_neg h]
    decide
theorem tX2_has {post : Int32 → Prop} {p : Int64} {w : Nat} (hw : w < 64) (h0 : ¬ mw p w = true → post 0) (h1 : mw p w = true → post 1) : wX2_has post p (nI w) :=
  ⟨fun c => h0 ((has_mw0 p hw).mp c), fun c => h1 (Classical.byContradiction fun q => c ((has_mw0 p hw).mpr q))⟩
theorem subIff {a b : Int64} : (lg_cmp (a &&& (b ^^^ (-1 : Int64))) (0 : Int64)) = 0 ↔ SUBW a b := by
  rw [lg_cmp_eq]
  constructor
  · intro h w hw ha
    refine Classical.byContradiction fun q => ?_
    have : mw (a &&& (b ^^^ (-1 : Int64))) w = true := mwA.mpr ⟨ha, (mwN hw).mpr q⟩
    rw [h] at this
    exact mwZ this
  · intro h
    apply mwX
    intro w hw
    exact ⟨fun q => absurd (h w hw (mwA.mp q).1) ((mwN hw).mp (mwA.mp q).2), fun q => absurd q mwZ⟩
theorem tX2_isWithin {post : Int32 → Prop} {a b : Int64} (h0 : ¬ SUBW a b → post 0) (h1 : SUBW a b → post 1) : wX2_isWithin post a b := ⟨fun c => h0 (fun q => c (subIff.mpr q)), fun c => h1 (subIff.mp c)⟩
theorem mwI : ∀ s, s < 64 → ∀ g, g < 6 → mw ((nI s).toInt64) g = s.testBit g := by
  have h : ∀ s, s < 64 → ∀ g, g < 6 → ((nI s).toInt64).toBitVec.toNat.testBit g = s.testBit g := by decide +kernel
  exact h
theorem tX1_cell {post : Int64 → Prop} {dk : Nat → Int64} {op : Int64} {E : Nat → Nat → Nat → Bool} {g w : Nat} (hC : CD dk E) (hg : g < 6) (hw : w < 64) (h : ∀ r, (∀ v, v < 64 → (mw r v = true ↔ E g w v = true ∧ mw op v = true)) → post r) : wX1_cell post dk op (nI g) (nI w) := by
  refine ⟨fun c => absurd c (nI_pos (by omega)), fun _ => ⟨fun c => absurd c (notLe (a := 6) hg (by decide)), fun _ => ⟨fun c => absurd c (nI_pos (by omega)), fun _ => ⟨fun c => absurd c (notLe (a := 64) hw (by decide)), fun _ => ⟨(idx384 ⟨g, hg, rfl⟩ ⟨w, hw, rfl⟩).vp (by decide), h _ (fun v hv => ?_)⟩⟩⟩⟩⟩
  rw [idxN hg hw, mwA, hC g hg w hw v hv]
theorem tX1_cellTogether_L8 {post : Int64 → Prop} {K41 : Int64 → Int32 → Prop} {dk : Nat → Int64} {op : Int64} {E : Nat → Nat → Nat → Bool} {s w : Nat} (hC : CD dk E) (hs : s < 64) (hw : w < 64) (hK : ∀ a b, (∀ v, v < 64 → (mw a v = true ↔ mw op v = true ∧ ∀ g, g < 6 → s.testBit g = true → E g w v = true)) → K41 a b) : ∀ (m k : Nat) (i3 : Int64), k + m = 6 → (∀ v, v < 64 → (mw i3 v = true ↔ mw op v = true ∧ ∀ g, g < k → s.testBit g = true → E g w v = true)) → wX1_cellTogether_L8 post K41 dk op (nI s) (nI w) (m + 1) i3 (nI k) := by
  intro m
  induction m with
  | zero =>
    intro k i3 h hi
    obtain rfl : k = 6 := by omega
    exact ⟨fun _ => hK _ _ hi, fun q => absurd (by decide) q⟩
  | succ m ih =>
    intro k i3 h hi
    have hk : k < 6 := by omega
    refine ⟨fun c => absurd c (notLe (a := 6) hk (by decide)), fun _ => tX2_has (by omega) (fun hm => ⟨fun _ => ?_, fun c => absurd rfl c⟩) (fun hm => ⟨fun c => absurd c (by decide), fun _ => tX1_cell hC hk hw (fun r hr => ?_)⟩)⟩
    · rw [mwI s hs k hk] at hm
      rw [← nI_succ]
      refine ih (k + 1) i3 (by omega) (fun v hv => (hi v hv).trans ⟨fun q => ⟨q.1, fun g hg hb => ?_⟩, fun q => ⟨q.1, fun g hg hb => q.2 g (by omega) hb⟩⟩)
      rcases Nat.lt_succ_iff_lt_or_eq.mp hg with e | e
      · exact q.2 g e hb
      · subst e
        exact absurd hb hm
    · rw [mwI s hs k hk] at hm
      rw [← nI_succ]
      refine ih (k + 1) _ (by omega) (fun v hv => ?_)
      rw [mwA, hi v hv, hr v hv]
      constructor
      · rintro ⟨⟨a, b⟩, c, -⟩
        refine ⟨a, fun g hg hb => ?_⟩
        rcases Nat.lt_succ_iff_lt_or_eq.mp hg with e | e
        · exact b g e hb
        · subst e
          exact c
      · rintro ⟨a, b⟩
        exact ⟨⟨a, fun g hg hb => b g (by omega) hb⟩, b k (by omega) hm, a⟩
theorem tX1_cellTogether {post : Int64 → Prop} {dk : Nat → Int64} {op : Int64} {E : Nat → Nat → Nat → Bool} {s w : Nat} (hC : CD dk E) (hs : s < 64) (hw : w < 64) (h : ∀ r, (∀ v, v < 64 → (mw r v = true ↔ mw op v = true ∧ ∀ g, g < 6 → s.testBit g = true → E g w v = true)) → post r) : wX1_cellTogether post dk op (nI s) (nI w) :=
  ⟨7, tX1_cellTogether_L8 hC hs hw (fun a _ q => h a q) 6 0 _ rfl (fun v _ => ⟨fun q => ⟨q, fun g hg => absurd hg (Nat.not_lt_zero g)⟩, fun q => q.1⟩)⟩
theorem tX1_spread_L38 {post : Int64 → Prop} {K89 : Int64 → Int64 → Int32 → Prop} {dk : Nat → Int64} {op : Int64} {E : Nat → Nat → Nat → Bool} {g : Nat} {L0 o0 : Int64} (hC : CD dk E) (hq : EQV E) (hg : g < 6) (hL : SUBW L0 op) (hK : ∀ a b c, (∀ v, v < 64 → (mw a v = true ↔ mw o0 v = true ∨ (mw op v = true ∧ ∃ w, w < 64 ∧ mw L0 w = true ∧ E g w v = true))) → K89 a b c) : ∀ (m k : Nat) (i4 i7 : Int64), k + m = 64 → SUBW i7 L0 → pc i7 + k ≤ 64 → (∀ v, v < 64 → (mw i4 v = true ↔ mw o0 v = true ∨ (mw op v = true ∧ ∃ w, w < 64 ∧ mw L0 w = true ∧ ¬ mw i7 w = true ∧ E g w v = true))) → wX1_spread_L38 post K89 dk op (nI g) (m + 1) i4 i7 (nI k) := by
  have fin : ∀ (i4 i7 : Int64) (c : Int32), i7 = 0 → (∀ v, v < 64 → (mw i4 v = true ↔ mw o0 v = true ∨ (mw op v = true ∧ ∃ w, w < 64 ∧ mw L0 w = true ∧ ¬ mw i7 w = true ∧ E g w v = true))) → K89 i4 i7 c := by
    intro i4 i7 c e hi
    subst e
    refine hK _ _ _ (fun v hv => (hi v hv).trans ⟨?_, ?_⟩)
    · rintro (q | ⟨a, w, b, c, -, d⟩)
      · exact Or.inl q
      · exact Or.inr ⟨a, w, b, c, d⟩
    · rintro (q | ⟨a, w, b, c, d⟩)
      · exact Or.inl q
      · exact Or.inr ⟨a, w, b, c, mwZ, d⟩
  intro m
  induction m with
  | zero =>
    intro k i4 i7 h hs hp hi
    obtain rfl : k = 64 := by omega
    exact ⟨fun _ => fin _ _ _ (pc_eq0 (by omega)) hi, fun q => absurd (by decide) q⟩
  | succ m ih =>
    intro k i4 i7 h hs hp hi
    refine ⟨fun c => absurd c (notLe (a := 64) (by omega) (by decide)), fun _ => ⟨fun e => fin _ _ _ ((lg_cmp_eq _ _).mp e) hi, fun ne => tX2_smallestOf (fun e => ne ((lg_cmp_eq _ _).mpr e)) (fun t ht hm => tX1_cell hC hg ht (fun r hr => ?_))⟩⟩
    have hrt : mw r t = true := (hr t ht).mpr ⟨hq.1 g t, hL t ht (hs t ht hm)⟩
    have hd : ∀ w, w < 64 → (mw (i7 &&& (r ^^^ (-1 : Int64))) w = true ↔ mw i7 w = true ∧ ¬ mw r w = true) := fun w hw => mwA.trans (and_congr_right fun _ => mwN hw)
    rw [← nI_succ]
    refine ih (k + 1) _ _ (by omega) (fun w hw q => hs w hw ((hd w hw).mp q).1) ?_ (fun v hv => ?_)
    · have := pc_lt (x := i7 &&& (r ^^^ (-1 : Int64))) (y := i7) (fun w hw q => ((hd w hw).mp q).1) ht hm (nT (fun q => ((hd t ht).mp q).2 hrt))
      omega
    · rw [mwO, hi v hv, hr v hv]
      constructor
      · rintro ((q | ⟨a, w, b, c, d, f⟩) | ⟨a, b⟩)
        · exact Or.inl q
        · exact Or.inr ⟨a, w, b, c, fun q => d ((hd w b).mp q).1, f⟩
        · exact Or.inr ⟨b, t, ht, hs t ht hm, fun q => ((hd t ht).mp q).2 hrt, a⟩
      · rintro (q | ⟨a, w, b, c, d, f⟩)
        · exact Or.inl (Or.inl q)
        · by_cases q : mw i7 w = true
          · have hrw : mw r w = true := Classical.byContradiction fun q2 => d ((hd w b).mpr ⟨q, q2⟩)
            exact Or.inr ⟨hq.2.2 g t w v ((hr w b).mp hrw).1 f, a⟩
          · exact Or.inl (Or.inr ⟨a, w, b, c, q, f⟩)
theorem tX1_spread_L6 {post : Int64 → Prop} {K95 : Int64 → Int32 → Prop} {dk : Nat → Int64} {op : Int64} {E : Nat → Nat → Nat → Bool} {s : Nat} {p2 : Int64} (hC : CD dk E) (hq : EQV E) (hs : s < 64) (hK : ∀ a b, (∀ v, v < 64 → (mw a v = true ↔ mw op v = true ∧ ∃ g, g < 6 ∧ s.testBit g = true ∧ ∃ w, w < 64 ∧ mw p2 w = true ∧ mw op w = true ∧ E g w v = true)) → K95 a b) : ∀ (m k : Nat) (i4 : Int64), k + m = 6 → (∀ v, v < 64 → (mw i4 v = true ↔ mw op v = true ∧ ∃ g, g < k ∧ s.testBit g = true ∧ ∃ w, w < 64 ∧ mw p2 w = true ∧ mw op w = true ∧ E g w v = true)) → wX1_spread_L6 post K95 dk op (nI s) p2 (m + 1) i4 (nI k) := by
  intro m
  induction m with
  | zero =>
    intro k i4 h hi
    obtain rfl : k = 6 := by omega
    exact ⟨fun _ => hK _ _ hi, fun q => absurd (by decide) q⟩
  | succ m ih =>
    intro k i4 h hi
    have hk : k < 6 := by omega
    refine ⟨fun c => absurd c (notLe (a := 6) hk (by decide)), fun _ => tX2_has (by omega) (fun hm => ⟨fun _ => ⟨65, ?_⟩, fun c => absurd rfl c⟩) (fun hm => ⟨fun c => absurd c (by decide), fun _ => ⟨65, ?_⟩⟩)⟩
    · rw [mwI s hs k hk] at hm
      refine tX1_spread_L38 (o0 := i4) hC hq hk (fun w _ q => absurd q mwZ) (fun a b c ha => ?_) 64 0 i4 0 rfl (fun _ _ q => q) (by rw [pc_zero]; decide) (fun v hv => ⟨Or.inl, ?_⟩)
      · rw [← nI_succ]
        refine ih (k + 1) a (by omega) (fun v hv => (ha v hv).trans ?_)
        rw [hi v hv]
        constructor
        · rintro (⟨q, g, b, c⟩ | ⟨-, w, -, q, -⟩)
          · exact ⟨q, g, by omega, c⟩
          · exact absurd q mwZ
        · rintro ⟨q, g, b, c, d⟩
          rcases Nat.lt_succ_iff_lt_or_eq.mp b with e | e
          · exact Or.inl ⟨q, g, e, c, d⟩
          · subst e
            exact absurd c hm
      · rintro (q | ⟨-, w, -, q, -⟩)
        · exact q
        · exact absurd q mwZ
    · rw [mwI s hs k hk] at hm
      refine tX1_spread_L38 (o0 := i4) (L0 := p2 &&& op) hC hq hk (fun w _ q => (mwA.mp q).2) (fun a b c ha => ?_) 64 0 i4 (p2 &&& op) rfl (fun _ _ q => q) (by have := pc_le (p2 &&& op); omega) (fun v hv => ⟨Or.inl, ?_⟩)
      · rw [← nI_succ]
        refine ih (k + 1) a (by omega) (fun v hv => (ha v hv).trans ?_)
        rw [hi v hv]
        constructor
        · rintro (⟨q, g, b, c⟩ | ⟨q, w, b, c, d⟩)
          · exact ⟨q, g, by omega, c⟩
          · exact ⟨q, k, by omega, hm, w, b, (mwA.mp c).1, (mwA.mp c).2, d⟩
        · rintro ⟨q, g, b, c, w, d, e, f, i⟩
          rcases Nat.lt_succ_iff_lt_or_eq.mp b with j | j
          · exact Or.inl ⟨q, g, j, c, w, d, e, f, i⟩
          · subst j
            exact Or.inr ⟨q, w, d, mwA.mpr ⟨e, f⟩, i⟩
      · rintro (q | ⟨-, w, -, q, q2, -⟩)
        · exact q
        · exact absurd q q2
theorem tX1_spread {post : Int64 → Prop} {dk : Nat → Int64} {op : Int64} {E : Nat → Nat → Nat → Bool} {s : Nat} {p2 : Int64} (hC : CD dk E) (hq : EQV E) (hs : s < 64) (h : ∀ r, (∀ v, v < 64 → (mw r v = true ↔ mw op v = true ∧ ∃ g, g < 6 ∧ s.testBit g = true ∧ ∃ w, w < 64 ∧ mw p2 w = true ∧ mw op w = true ∧ E g w v = true)) → post r) : wX1_spread post dk op (nI s) p2 :=
  ⟨7, tX1_spread_L6 hC hq hs (fun a _ q => h a q) 6 0 _ rfl (fun v _ => ⟨fun q => absurd q mwZ, fun q => by
    obtain ⟨-, g, hg, -⟩ := q
    exact absurd hg (Nat.not_lt_zero g)⟩)⟩
/-- what can be reached: the least set that holds the start and is closed -/
def RCH (op : Int64) (E : Nat → Nat → Nat → Bool) (s : Nat) (p r : Int64) : Prop := (∀ v, v < 64 → mw p v = true → mw op v = true → mw r v = true) ∧ SUBW r op ∧ (∀ w, w < 64 → mw r w = true → ∀ g, g < 6 → s.testBit g = true → ∀ v, v < 64 → mw op v = true → E g w v = true → mw r v = true) ∧ (∀ S : Nat → Prop, (∀ v, v < 64 → mw p v = true → mw op v = true → S v) → (∀ w, w < 64 → S w → mw op w = true → ∀ g, g < 6 → s.testBit g = true → ∀ v, v < 64 → mw op v = true → E g w v = true → S v) → ∀ v, v < 64 → mw r v = true → S v)
theorem tX1_reached_L15 {post : Int64 → Prop} {K58 : Int64 → Int64 → Int32 → Prop} {dk : Nat → Int64} {op : Int64} {E : Nat → Nat → Nat → Bool} {s : Nat} {p : Int64} (hC : CD dk E) (hq : EQV E) (hs : s < 64) (hK : ∀ a b c, RCH op E s p a → K58 a b c) : ∀ (m k : Nat) (all fr : Int64), k + m = 64 → (∀ v, v < 64 → mw p v = true → mw op v = true → mw all v = true) → SUBW all op → SUBW fr all → (∀ w, w < 64 → mw all w = true → ¬ mw fr w = true → ∀ g, g < 6 → s.testBit g = true → ∀ v, v < 64 → mw op v = true → E g w v = true → mw all v = true) → (∀ S : Nat → Prop, (∀ v, v < 64 → mw p v = true → mw op v = true → S v) → (∀ w, w < 64 → S w → mw op w = true → ∀ g, g < 6 → s.testBit g = true → ∀ v, v < 64 → mw op v = true → E g w v = true → S v) → ∀ v, v < 64 → mw all v = true → S v) → (fr = 0 ∨ k + 1 ≤ pc all) → wX1_reached_L15 post K58 dk op (nI s) (m + 1) all fr (nI k) := by
  have fin : ∀ (all fr : Int64) (c : Int32), fr = 0 → (∀ v, v < 64 → mw p v = true → mw op v = true → mw all v = true) → SUBW all op → (∀ w, w < 64 → mw all w = true → ¬ mw fr w = true → ∀ g, g < 6 → s.testBit g = true → ∀ v, v < 64 → mw op v = true → E g w v = true → mw all v = true) → (∀ S : Nat → Prop, (∀ v, v < 64 → mw p v = true → mw op v = true → S v) → (∀ w, w < 64 → S w → mw op w = true → ∀ g, g < 6 → s.testBit g = true → ∀ v, v < 64 → mw op v = true → E g w v = true → S v) → ∀ v, v < 64 → mw all v = true → S v) → K58 all fr c := by
    intro all fr c e h1 h2 h4 h5
    subst e
    exact hK _ _ _ ⟨h1, h2, fun w hw ha => h4 w hw ha mwZ, h5⟩
  intro m
  induction m with
  | zero =>
    intro k all fr h h1 h2 h3 h4 h5 h6
    obtain rfl : k = 64 := by omega
    have := pc_le all
    exact ⟨fun _ => fin _ _ _ (h6.resolve_right (by omega)) h1 h2 h4 h5, fun q => absurd (by decide) q⟩
  | succ m ih =>
    intro k all fr h h1 h2 h3 h4 h5 h6
    refine ⟨fun c => absurd c (notLe (a := 64) (by omega) (by decide)), fun _ => ⟨fun e => fin _ _ _ ((lg_cmp_eq _ _).mp e) h1 h2 h4 h5, fun ne => tX1_spread hC hq hs (fun r hr => ?_)⟩⟩
    have hd : ∀ w, w < 64 → (mw (r &&& (all ^^^ (-1 : Int64))) w = true ↔ mw r w = true ∧ ¬ mw all w = true) := fun w hw => mwA.trans (and_congr_right fun _ => mwN hw)
    rw [← nI_succ]
    refine ih (k + 1) _ _ (by omega) (fun v hv a b => mwO.mpr (Or.inl (h1 v hv a b))) (fun v hv q => ?_) (fun v hv q => mwO.mpr (Or.inr q)) (fun w hw a b g hg hb v hv c d => ?_) (fun S s1 s2 v hv q => ?_) ?_
    · rcases mwO.mp q with q | q
      · exact h2 v hv q
      · exact ((hr v hv).mp ((hd v hv).mp q).1).1
    · have ha : mw all w = true := (mwO.mp a).resolve_right b
      by_cases hf : mw fr w = true
      · have hrv : mw r v = true := (hr v hv).mpr ⟨c, g, hg, hb, w, hw, hf, h2 w hw ha, d⟩
        by_cases q : mw all v = true
        · exact mwO.mpr (Or.inl q)
        · exact mwO.mpr (Or.inr ((hd v hv).mpr ⟨hrv, q⟩))
      · exact mwO.mpr (Or.inl (h4 w hw ha hf g hg hb v hv c d))
    · rcases mwO.mp q with q | q
      · exact h5 S s1 s2 v hv q
      · obtain ⟨c, g, hg, hb, w, hw, e1, e2, e3⟩ := (hr v hv).mp ((hd v hv).mp q).1
        exact s2 w hw (h5 S s1 s2 w hw (h3 w hw e1)) e2 g hg hb v hv c e3
    · by_cases e : (r &&& (all ^^^ (-1 : Int64))) = 0
      · exact Or.inl e
      · obtain ⟨w, hw, hm⟩ := mw_some e
        have hp : k + 1 ≤ pc all := h6.resolve_left (fun q => ne ((lg_cmp_eq _ _).mpr q))
        have := pc_lt (x := all) (y := all ||| (r &&& (all ^^^ (-1 : Int64)))) (fun v hv q => mwO.mpr (Or.inl q)) hw (mwO.mpr (Or.inr hm)) (nT ((hd w hw).mp hm).2)
        exact Or.inr (by omega)
theorem tX1_reached {post : Int64 → Prop} {dk : Nat → Int64} {op : Int64} {E : Nat → Nat → Nat → Bool} {s : Nat} {p : Int64} (hC : CD dk E) (hq : EQV E) (hs : s < 64) (h : ∀ r, RCH op E s p r → post r) : wX1_reached post dk op (nI s) p := by
  refine ⟨65, tX1_reached_L15 hC hq hs (fun a _ _ q => h a q) 64 0 (p &&& op) (p &&& op) rfl (fun v hv a b => mwA.mpr ⟨a, b⟩) (fun v hv q => (mwA.mp q).2) (fun v hv q => q) (fun w hw a b => absurd a b) (fun S s1 s2 v hv q => s1 v hv (mwA.mp q).1 (mwA.mp q).2) ?_⟩
  by_cases e : (p &&& op) = 0
  · exact Or.inl e
  · obtain ⟨w, hw, hm⟩ := mw_some e
    have := pc_lt (x := 0) (y := p &&& op) (fun v hv q => absurd q mwZ) hw hm (mw_zero w)
    exact Or.inr (by omega)
theorem tX1_knownToAll {post : Int64 → Prop} {dk : Nat → Int64} {op : Int64} {E : Nat → Nat → Nat → Bool} {s : Nat} {p : Int64} (hC : CD dk E) (hq : EQV E) (hs : s < 64) (h : ∀ r, (∀ w, w < 64 → (mw r w = true ↔ mw op w = true ∧ ∀ g, g < 6 → s.testBit g = true → ∀ v, v < 64 → mw op v = true → E g w v = true → mw p v = true)) → post r) : wX1_knownToAll post dk op (nI s) p := by
  refine tX1_spread hC hq hs (fun r hr => h _ (fun w hw => ?_))
  rw [mwA, mwN hw]
  refine and_congr_right fun ho => ⟨fun q g hg hb v hv c d => ?_, fun q q2 => ?_⟩
  · refine Classical.byContradiction fun n => q ((hr w hw).mpr ⟨ho, g, hg, hb, v, hv, (mwN hv).mpr n, c, hq.2.1 g w v d⟩)
  · obtain ⟨-, g, hg, hb, v, hv, e1, e2, e3⟩ := (hr w hw).mp q2
    exact (mwN hv).mp e1 (q g hg hb v hv e2 (hq.2.1 g v w e3))
