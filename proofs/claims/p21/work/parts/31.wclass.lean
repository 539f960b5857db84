theorem sX2_isGuard {post : Int32 → Prop} {p1 : Int32} (hp : ∀ r, vZ r → (¬ r = 0 → IN p1 6) → (r = 0 → ¬ IN p1 6) → post r) : wX2_isGuard post p1 := tX2_isGuard (fun r z h => hp r z h.mp (fun e q => h.mpr q e))
theorem sX2_isWorld {post : Int32 → Prop} {p1 : Int32} (hp : ∀ r, vZ r → (¬ r = 0 → IN p1 64) → (r = 0 → ¬ IN p1 64) → post r) : wX2_isWorld post p1 := ⟨fun c => hp _ (Or.inl rfl) (fun h => absurd rfl h) (fun _ q => ((inRng (n := 63) (by decide)).mpr q).1 c), fun a => ⟨fun c => hp _ (Or.inl rfl) (fun h => absurd rfl h) (fun _ q => by
  obtain ⟨k, hk, rfl⟩ := q
  exact absurd c (notLe (a := 64) hk (by decide))), fun b => hp _ (Or.inr rfl) (fun _ => IN.rng (by decide) a b) (fun e => absurd e (by decide))⟩⟩
theorem sX2_isFact {post : Int32 → Prop} {p1 : Int32} (hp : ∀ r, vZ r → (¬ r = 0 → IN p1 6) → (r = 0 → ¬ IN p1 6) → post r) : wX2_isFact post p1 := tX2_isFact (fun r z h => hp r z h.mp (fun e q => h.mpr q e))
theorem sX2_isSetOfGuards {post : Int32 → Prop} {p1 : Int32} (hp : ∀ r, vZ r → (¬ r = 0 → SETG p1) → (r = 0 → ¬ SETG p1) → post r) : wX2_isSetOfGuards post p1 := tX2_isSetOfGuards (fun r z h => hp r z h.mp (fun e q => h.mpr q e))
theorem sX2_has {post : Int32 → Prop} {p1 : Int64} {p2 : Int32} (hp : ∀ (r : Int32), vZ r → post r) : wX2_has post p1 p2 := by
  unfold wX2_has
  refine ⟨fun hc1 => ?_, fun hc1 => ?_⟩
  · exact hp _ (Or.inl rfl)
  · exact hp _ (Or.inr rfl)
theorem sX2_isWithin {post : Int32 → Prop} {p1 : Int64} {p2 : Int64} (hp : ∀ (r : Int32), vZ r → post r) : wX2_isWithin post p1 p2 := by
  unfold wX2_isWithin
  refine ⟨fun hc1 => ?_, fun hc1 => ?_⟩
  · exact hp _ (Or.inl rfl)
  · exact hp _ (Or.inr rfl)
theorem sX2_setOf {post : Int64 → Prop} {p1 : Int32} (hp : ∀ (r : Int64), post r) : wX2_setOf post p1 := by
  unfold wX2_setOf
  exact hp _
theorem sJ13_bitCount_95d88 {post : Int32 → Prop} {p1 : Int64} (hp : ∀ (r : Int32), post r) : wJ13_bitCount_95d88 post p1 := by
  unfold wJ13_bitCount_95d88
  intro x_1 ex_1
  intro x_2 ex_2
  intro x_3 ex_3
  intro x_4 ex_4
  exact hp _
theorem sJ6_bitCount_0f7a4 {post : Int32 → Prop} {p1 : Int32} (hp : ∀ (r : Int32), post r) : wJ6_bitCount_0f7a4 post p1 := by
  unfold wJ6_bitCount_0f7a4
  intro x_1 ex_1
  intro x_2 ex_2
  intro x_3 ex_3
  intro x_4 ex_4
  exact hp _
theorem sX2_smallestOf {post : Int32 → Prop} {p1 : Int64} (hp : ∀ (r : Int32), post r) : wX2_smallestOf post p1 := by
  unfold wX2_smallestOf
  refine sJ13_bitCount_95d88 (fun r_1 => ?_)
  exact hp _
theorem sX0_count {post : Int32 → Prop} {bn : Int32} (a0 : BN bn) (hp : ∀ (r : Int32), post r) : wX0_count post bn := by
  unfold wX0_count
  exact hp _
theorem sX0_isFull {post : Int32 → Prop} {bn : Int32} (hp : ∀ r, vZ r → post r) : wX0_isFull post bn := ⟨fun _ => hp _ (Or.inl rfl), fun _ => hp _ (Or.inr rfl)⟩
theorem sX0_holds {post : Int32 → Prop} {bn p1 : Int32} (a0 : BN bn) (hp : ∀ r, vZ r → (¬ r = 0 → IN p1 40) → (¬ r = 0 → INB p1 bn) → (r = 0 → ¬ INB p1 bn) → post r) : wX0_holds post bn p1 := by
  obtain ⟨n, hn, rfl⟩ := a0
  exact ⟨fun c => hp _ (Or.inl rfl) (fun h => absurd rfl h) (fun h => absurd rfl h) (fun _ q => q.1 c), fun a => ⟨fun c => hp _ (Or.inl rfl) (fun h => absurd rfl h) (fun h => absurd rfl h) (fun _ q => q.2 c), fun b => hp _ (Or.inr rfl) (fun _ => (IN.rng (by omega) a b).mono hn) (fun _ => ⟨a, b⟩) (fun e => absurd e (by decide))⟩⟩
theorem sX0_kindOf {post : Int32 → Prop} {kf : Nat → Int32} {bn : Int32} {p1 : Int32} (a0 : BN bn) (hp : ∀ (r : Int32), post r) : wX0_kindOf post kf bn p1 := by
  unfold wX0_kindOf
  refine sX0_holds a0 (fun r_1 f0_r_1 f1_r_1 f2_r_1 f3_r_1 => ?_)
  refine ⟨fun hc1 => ?_, fun hc1 => ?_⟩
  · exact hp _
  · refine ⟨(IN.vp (f1_r_1 hc1) (by decide)), ?_⟩
    exact hp _
theorem sX0_firstOf {post : Int32 → Prop} {ff : Nat → Int32} {bn : Int32} {p1 : Int32} (a0 : BN bn) (hp : ∀ (r : Int32), post r) : wX0_firstOf post ff bn p1 := by
  unfold wX0_firstOf
  refine sX0_holds a0 (fun r_1 f0_r_1 f1_r_1 f2_r_1 f3_r_1 => ?_)
  refine ⟨fun hc1 => ?_, fun hc1 => ?_⟩
  · exact hp _
  · refine ⟨(IN.vp (f1_r_1 hc1) (by decide)), ?_⟩
    exact hp _
theorem sX0_secondOf {post : Int32 → Prop} {sf : Nat → Int32} {bn : Int32} {p1 : Int32} (a0 : BN bn) (hp : ∀ (r : Int32), post r) : wX0_secondOf post sf bn p1 := by
  unfold wX0_secondOf
  refine sX0_holds a0 (fun r_1 f0_r_1 f1_r_1 f2_r_1 f3_r_1 => ?_)
  refine ⟨fun hc1 => ?_, fun hc1 => ?_⟩
  · exact hp _
  · refine ⟨(IN.vp (f1_r_1 hc1) (by decide)), ?_⟩
    exact hp _
theorem sX0_builtDeep {post : Int32 → Prop} {df : Nat → Int32} {bn : Int32} {p1 : Int32} (a0 : BN bn) (hp : ∀ (r : Int32), post r) : wX0_builtDeep post df bn p1 := by
  unfold wX0_builtDeep
  refine sX0_holds a0 (fun r_1 f0_r_1 f1_r_1 f2_r_1 f3_r_1 => ?_)
  refine ⟨fun hc1 => ?_, fun hc1 => ?_⟩
  · exact hp _
  · refine ⟨(IN.vp (f1_r_1 hc1) (by decide)), ?_⟩
    exact hp _
theorem sX0_partsOf {post : Int64 → Prop} {pf : Nat → Int64} {bn : Int32} {p1 : Int32} (a0 : BN bn) (hp : ∀ (r : Int64), post r) : wX0_partsOf post pf bn p1 := by
  unfold wX0_partsOf
  refine sX0_holds a0 (fun r_1 f0_r_1 f1_r_1 f2_r_1 f3_r_1 => ?_)
  refine ⟨fun hc1 => ?_, fun hc1 => ?_⟩
  · exact hp _
  · refine ⟨(IN.vp (f1_r_1 hc1) (by decide)), ?_⟩
    exact hp _
theorem sX0_everySentence {post : Int64 → Prop} {bn : Int32} (a0 : BN bn) (hp : ∀ (r : Int64), post r) : wX0_everySentence post bn := by
  unfold wX0_everySentence
  refine sX2_setOf (fun r_1 => ?_)
  exact hp _
theorem sX0_hangingOn {post : Int64 → Prop} {pf : Nat → Int64} {gf : Nat → Int64} {bn : Int32} {p1 : Int32} {p2 : Int32} (a0 : BN bn) (hp : ∀ (r : Int64), post r) : wX0_hangingOn post pf gf bn p1 p2 := by
  unfold wX0_hangingOn
  refine sX2_isGuard (fun r_1 f0_r_1 f1_r_1 f2_r_1 => ?_)
  refine ⟨fun hc1 => ?_, fun hc1 => ?_⟩
  · exact hp _
  · refine ⟨(IN.vp (f1_r_1 hc1) (by decide)), ?_⟩
    refine sX0_partsOf a0 (fun r_2 => ?_)
    exact hp _
theorem sX0_fits {post : Int32 → Prop} {bn : Int32} {p1 : Int32} {p2 : Int32} {p3 : Int32} (a0 : BN bn) (hp : ∀ (r : Int32), vZ r → post r) : wX0_fits post bn p1 p2 p3 := by
  unfold wX0_fits
  refine ⟨fun hc1 => ?_, fun hc1 => ?_⟩
  · refine sX2_isFact (fun r_1 f0_r_1 f1_r_1 f2_r_1 => ?_)
    refine ⟨(by assumption), ?_⟩
    exact hp _ f0_r_1
  · refine ⟨fun hc2 => ?_, fun hc2 => ?_⟩
    · refine sX0_holds a0 (fun r_2 f0_r_2 f1_r_2 f2_r_2 f3_r_2 => ?_)
      refine ⟨(by assumption), ?_⟩
      exact hp _ f0_r_2
    · refine ⟨fun hc3 => ?_, fun hc3 => ?_⟩
      · refine sX0_holds a0 (fun r_3 f0_r_3 f1_r_3 f2_r_3 f3_r_3 => ?_)
        refine ⟨fun hc4 => ?_, fun hc4 => ?_⟩
        · exact hp _ (Or.inl rfl)
        · refine sX0_holds a0 (fun r_4 f0_r_4 f1_r_4 f2_r_4 f3_r_4 => ?_)
          refine ⟨fun hc5 => ?_, fun hc5 => ?_⟩
          · exact hp _ (Or.inl rfl)
          · exact hp _ (Or.inr rfl)
      · refine ⟨fun hc6 => ?_, fun hc6 => ?_⟩
        · refine sX0_holds a0 (fun r_5 f0_r_5 f1_r_5 f2_r_5 f3_r_5 => ?_)
          refine ⟨fun hc7 => ?_, fun hc7 => ?_⟩
          · exact hp _ (Or.inl rfl)
          · refine sX0_holds a0 (fun r_6 f0_r_6 f1_r_6 f2_r_6 f3_r_6 => ?_)
            refine ⟨fun hc8 => ?_, fun hc8 => ?_⟩
            · exact hp _ (Or.inl rfl)
            · exact hp _ (Or.inr rfl)
        · refine ⟨fun hc9 => ?_, fun hc9 => ?_⟩
          · refine sX2_isGuard (fun r_7 f0_r_7 f1_r_7 f2_r_7 => ?_)
            refine ⟨fun hc10 => ?_, fun hc10 => ?_⟩
            · exact hp _ (Or.inl rfl)
            · refine sX0_holds a0 (fun r_8 f0_r_8 f1_r_8 f2_r_8 f3_r_8 => ?_)
              refine ⟨fun hc11 => ?_, fun hc11 => ?_⟩
              · exact hp _ (Or.inl rfl)
              · exact hp _ (Or.inr rfl)
          · refine ⟨fun hc12 => ?_, fun hc12 => ?_⟩
            · refine sX2_isSetOfGuards (fun r_9 f0_r_9 f1_r_9 f2_r_9 => ?_)
              refine ⟨fun hc13 => ?_, fun hc13 => ?_⟩
              · exact hp _ (Or.inl rfl)
              · refine sX0_holds a0 (fun r_10 f0_r_10 f1_r_10 f2_r_10 f3_r_10 => ?_)
                refine ⟨fun hc14 => ?_, fun hc14 => ?_⟩
                · exact hp _ (Or.inl rfl)
                · exact hp _ (Or.inr rfl)
            · refine ⟨fun hc15 => ?_, fun hc15 => ?_⟩
              · refine sX2_isSetOfGuards (fun r_11 f0_r_11 f1_r_11 f2_r_11 => ?_)
                refine ⟨fun hc16 => ?_, fun hc16 => ?_⟩
                · exact hp _ (Or.inl rfl)
                · refine sX0_holds a0 (fun r_12 f0_r_12 f1_r_12 f2_r_12 f3_r_12 => ?_)
                  refine ⟨fun hc17 => ?_, fun hc17 => ?_⟩
                  · exact hp _ (Or.inl rfl)
                  · exact hp _ (Or.inr rfl)
              · refine ⟨fun hc18 => ?_, fun hc18 => ?_⟩
                · refine sX2_isSetOfGuards (fun r_13 f0_r_13 f1_r_13 f2_r_13 => ?_)
                  refine ⟨fun hc19 => ?_, fun hc19 => ?_⟩
                  · exact hp _ (Or.inl rfl)
                  · refine sX0_holds a0 (fun r_14 f0_r_14 f1_r_14 f2_r_14 f3_r_14 => ?_)
                    refine ⟨fun hc20 => ?_, fun hc20 => ?_⟩
                    · exact hp _ (Or.inl rfl)
                    · exact hp _ (Or.inr rfl)
                · exact hp _ (Or.inl rfl)
theorem sX0_names {post : Int32 → Prop} {p1 : Int32} {p2 : Int32} {p3 : Int32} (hp : ∀ (r : Int32), vZ r → post r) : wX0_names post p1 p2 p3 := by
  unfold wX0_names
  refine ⟨fun hc1 => ?_, fun hc1 => ?_⟩
  · refine ⟨fun hc2 => ?_, fun hc2 => ?_⟩
    · exact hp _ (Or.inl rfl)
    · refine sX2_has (fun r_1 f0_r_1 => ?_)
      refine ⟨fun hc3 => ?_, fun hc3 => ?_⟩
      · exact hp _ (Or.inl rfl)
      · exact hp _ (Or.inr rfl)
  · refine ⟨fun hc4 => ?_, fun hc4 => ?_⟩
    · exact hp _ (Or.inl rfl)
    · exact hp _ (Or.inr rfl)
theorem sX0_letterOf {post : Int32 → Prop} {p1 : Int32} (hp : ∀ (r : Int32), post r) : wX0_letterOf post p1 := by
  unfold wX0_letterOf
  refine ⟨fun hc1 => ?_, fun hc1 => ?_⟩
  · exact hp _
  · refine ⟨fun hc2 => ?_, fun hc2 => ?_⟩
    · exact hp _
    · refine ⟨fun hc3 => ?_, fun hc3 => ?_⟩
      · exact hp _
      · exact hp _
theorem sX1_cell {post : Int64 → Prop} {dk : Nat → Int64} {op : Int64} {p1 : Int32} {p2 : Int32} (hp : ∀ (r : Int64), post r) : wX1_cell post dk op p1 p2 := by
  unfold wX1_cell
  refine ⟨fun hc1 => ?_, fun hc1 => ?_⟩
  · exact hp _
  · refine ⟨fun hc2 => ?_, fun hc2 => ?_⟩
    · exact hp _
    · refine ⟨fun hc3 => ?_, fun hc3 => ?_⟩
      · exact hp _
      · refine ⟨fun hc4 => ?_, fun hc4 => ?_⟩
        · exact hp _
        · refine ⟨(IN.vp (idx384 (IN.rng (by decide) hc1 hc2) (IN.rng (by decide) hc3 hc4)) (by decide)), ?_⟩
          exact hp _
theorem sX1_worldsOf {post : Int64 → Prop} {wg : Nat → Int64} {bn : Int32} {p1 : Int32} (a0 : BN bn) (hp : ∀ (r : Int64), post r) : wX1_worldsOf post wg bn p1 := by
  unfold wX1_worldsOf
  refine sX0_holds a0 (fun r_1 f0_r_1 f1_r_1 f2_r_1 f3_r_1 => ?_)
  refine ⟨fun hc1 => ?_, fun hc1 => ?_⟩
  · exact hp _
  · refine ⟨(IN.vp (f1_r_1 hc1) (by decide)), ?_⟩
    exact hp _
theorem sX1_isTrueInReal {post : Int32 → Prop} {wg : Nat → Int64} {re : Int32} {bn : Int32} {p1 : Int32} (a0 : BN bn) (hp : ∀ (r : Int32), vZ r → post r) : wX1_isTrueInReal post wg re bn p1 := by
  unfold wX1_isTrueInReal
  refine sX1_worldsOf a0 (fun r_1 => ?_)
  refine sX2_has (fun r_2 f0_r_2 => ?_)
  refine ⟨(by assumption), ?_⟩
  exact hp _ f0_r_2
theorem sX1_cellTogether_L8 {post : Int64 → Prop} {K41 : Int64 → Int32 → Prop} {dk : Nat → Int64} {op : Int64} {p1 : Int32} {p2 : Int32} (hp : ∀ (r : Int64), post r) (hK41 : ∀ (i3 : Int64) (i5 : Int32), K41 i3 i5) : ∀ (m k : Nat) (i3 : Int64), k + m = 6 → wX1_cellTogether_L8 post K41 dk op p1 p2 (m + 1) i3 (nI k) := by
  intro m
  induction m with
  | zero =>
    intro k i3 hkm
    refine ⟨fun _ => ?_, fun q => absurd (by rw [show k = 6 by omega]; decide) q⟩
    exact hK41 _ _
  | succ m ih =>
    intro k i3 hkm
    have hk : IN (nI k) 6 := ⟨k, by omega, rfl⟩
    refine ⟨fun _ => ?_, fun _ => ?_⟩
    · exact hK41 _ _
    · refine sX2_has (fun r_1 f0_r_1 => ?_)
      refine ⟨fun hc1 => ?_, fun hc1 => ?_⟩
      · rw [← nI_succ]
        exact ih (k + 1) _ (by omega)
      · refine sX1_cell (fun r_2 => ?_)
        rw [← nI_succ]
        exact ih (k + 1) _ (by omega)
theorem sX1_cellTogether {post : Int64 → Prop} {dk : Nat → Int64} {op : Int64} {p1 : Int32} {p2 : Int32} (hp : ∀ (r : Int64), post r) : wX1_cellTogether post dk op p1 p2 := by
  unfold wX1_cellTogether
  refine ⟨7, sX1_cellTogether_L8 hp (fun i3 i5 => ?_) 6 0 _ rfl⟩
  exact hp _
theorem sX1_spread_L38 {post : Int64 → Prop} {K89 : Int64 → Int64 → Int32 → Prop} {dk : Nat → Int64} {op : Int64} {i6 : Int32} (hp : ∀ (r : Int64), post r) (hK89 : ∀ (i4 : Int64) (i7 : Int64) (i9 : Int32), K89 i4 i7 i9) : ∀ (m k : Nat) (i4 : Int64) (i7 : Int64), k + m = 64 → wX1_spread_L38 post K89 dk op i6 (m + 1) i4 i7 (nI k) := by
  intro m
  induction m with
  | zero =>
    intro k i4 i7 hkm
    refine ⟨fun _ => ?_, fun q => absurd (by rw [show k = 64 by omega]; decide) q⟩
    exact hK89 _ _ _
  | succ m ih =>
    intro k i4 i7 hkm
    have hk : IN (nI k) 64 := ⟨k, by omega, rfl⟩
    refine ⟨fun _ => ?_, fun _ => ?_⟩
    · exact hK89 _ _ _
    · refine ⟨fun hc1 => ?_, fun hc1 => ?_⟩
      · exact hK89 _ _ _
      · refine sX2_smallestOf (fun r_2 => ?_)
        refine sX1_cell (fun r_3 => ?_)
        rw [← nI_succ]
        exact ih (k + 1) _ _ (by omega)
theorem sX1_spread_L6 {post : Int64 → Prop} {K95 : Int64 → Int32 → Prop} {dk : Nat → Int64} {op : Int64} {p1 : Int32} {p2 : Int64} (hp : ∀ (r : Int64), post r) (hK95 : ∀ (i4 : Int64) (i6 : Int32), K95 i4 i6) : ∀ (m k : Nat) (i4 : Int64), k + m = 6 → wX1_spread_L6 post K95 dk op p1 p2 (m + 1) i4 (nI k) := by
  intro m
  induction m with
  | zero =>
    intro k i4 hkm
    refine ⟨fun _ => ?_, fun q => absurd (by rw [show k = 6 by omega]; decide) q⟩
    exact hK95 _ _
  | succ m ih =>
    intro k i4 hkm
    have hk : IN (nI k) 6 := ⟨k, by omega, rfl⟩
    refine ⟨fun _ => ?_, fun _ => ?_⟩
    · exact hK95 _ _
    · refine sX2_has (fun r_1 f0_r_1 => ?_)
      refine ⟨fun hc1 => ?_, fun hc1 => ?_⟩
      · refine ⟨65, sX1_spread_L38 hp (fun i4 i7 i9 => ?_) 64 0 _ _ rfl⟩
        rw [← nI_succ]
        exact ih (k + 1) _ (by omega)
      · refine ⟨65, sX1_spread_L38 hp (fun i4 i7 i9 => ?_) 64 0 _ _ rfl⟩
        rw [← nI_succ]
        exact ih (k + 1) _ (by omega)
theorem sX1_spread {post : Int64 → Prop} {dk : Nat → Int64} {op : Int64} {p1 : Int32} {p2 : Int64} (hp : ∀ (r : Int64), post r) : wX1_spread post dk op p1 p2 := by
  unfold wX1_spread
  refine ⟨7, sX1_spread_L6 hp (fun i4 i6 => ?_) 6 0 _ rfl⟩
  exact hp _
theorem sX1_reached_L15 {post : Int64 → Prop} {K58 : Int64 → Int64 → Int32 → Prop} {dk : Nat → Int64} {op : Int64} {p1 : Int32} (hp : ∀ (r : Int64), post r) (hK58 : ∀ (i4 : Int64) (i6 : Int64) (i8 : Int32), K58 i4 i6 i8) : ∀ (m k : Nat) (i4 : Int64) (i6 : Int64), k + m = 64 → wX1_reached_L15 post K58 dk op p1 (m + 1) i4 i6 (nI k) := by
  intro m
  induction m with
  | zero =>
    intro k i4 i6 hkm
    refine ⟨fun _ => ?_, fun q => absurd (by rw [show k = 64 by omega]; decide) q⟩
    exact hK58 _ _ _
  | succ m ih =>
    intro k i4 i6 hkm
    have hk : IN (nI k) 64 := ⟨k, by omega, rfl⟩
    refine ⟨fun _ => ?_, fun _ => ?_⟩
    · exact hK58 _ _ _
    · refine ⟨fun hc1 => ?_, fun hc1 => ?_⟩
      · exact hK58 _ _ _
      · refine sX1_spread (fun r_1 => ?_)
        rw [← nI_succ]
        exact ih (k + 1) _ _ (by omega)
theorem sX1_reached {post : Int64 → Prop} {dk : Nat → Int64} {op : Int64} {p1 : Int32} {p2 : Int64} (hp : ∀ (r : Int64), post r) : wX1_reached post dk op p1 p2 := by
  unfold wX1_reached
  refine ⟨65, sX1_reached_L15 hp (fun i4 i6 i8 => ?_) 64 0 _ _ rfl⟩
  exact hp _
theorem sX1_reachedFromReal {post : Int64 → Prop} {dk : Nat → Int64} {op : Int64} {re : Int32} {p1 : Int32} (hp : ∀ (r : Int64), post r) : wX1_reachedFromReal post dk op re p1 := by
  unfold wX1_reachedFromReal
  refine sX2_setOf (fun r_1 => ?_)
  refine sX1_reached (fun r_2 => ?_)
  exact hp _
theorem sX1_knownToAll {post : Int64 → Prop} {dk : Nat → Int64} {op : Int64} {p1 : Int32} {p2 : Int64} (hp : ∀ (r : Int64), post r) : wX1_knownToAll post dk op p1 p2 := by
  unfold wX1_knownToAll
  refine sX1_spread (fun r_1 => ?_)
  exact hp _
theorem sX1_knownTogether_L12 {post : Int64 → Prop} {K71 : Int64 → Int64 → Int32 → Prop} {dk : Nat → Int64} {op : Int64} {p1 : Int32} {p2 : Int64} (hp : ∀ (r : Int64), post r) (hK71 : ∀ (i4 : Int64) (i6 : Int64) (i8 : Int32), K71 i4 i6 i8) : ∀ (m k : Nat) (i4 : Int64) (i6 : Int64), k + m = 64 → wX1_knownTogether_L12 post K71 dk op p1 p2 (m + 1) i4 i6 (nI k) := by
  intro m
  induction m with
  | zero =>
    intro k i4 i6 hkm
    refine ⟨fun _ => ?_, fun q => absurd (by rw [show k = 64 by omega]; decide) q⟩
    exact hK71 _ _ _
  | succ m ih =>
    intro k i4 i6 hkm
    have hk : IN (nI k) 64 := ⟨k, by omega, rfl⟩
    refine ⟨fun _ => ?_, fun _ => ?_⟩
    · exact hK71 _ _ _
    · refine ⟨fun hc1 => ?_, fun hc1 => ?_⟩
      · exact hK71 _ _ _
      · refine sX2_smallestOf (fun r_1 => ?_)
        refine sX1_cellTogether (fun r_2 => ?_)
        refine sX2_isWithin (fun r_3 f0_r_3 => ?_)
        refine ⟨fun hc2 => ?_, fun hc2 => ?_⟩
        · rw [← nI_succ]
          exact ih (k + 1) _ _ (by omega)
        · rw [← nI_succ]
          exact ih (k + 1) _ _ (by omega)
theorem sX1_knownTogether {post : Int64 → Prop} {dk : Nat → Int64} {op : Int64} {p1 : Int32} {p2 : Int64} (hp : ∀ (r : Int64), post r) : wX1_knownTogether post dk op p1 p2 := by
  unfold wX1_knownTogether
  refine ⟨65, sX1_knownTogether_L12 hp (fun i4 i6 i8 => ?_) 64 0 _ _ rfl⟩
  exact hp _
theorem sX1_knows {post : Int32 → Prop} {dk : Nat → Int64} {wg : Nat → Int64} {op : Int64} {re : Int32} {bn : Int32} {p1 : Int32} {p2 : Int32} (a0 : BN bn) (hp : ∀ (r : Int32), vZ r → post r) : wX1_knows post dk wg op re bn p1 p2 := by
  unfold wX1_knows
  refine sX1_cell (fun r_1 => ?_)
  refine sX1_worldsOf a0 (fun r_2 => ?_)
  refine sX2_isWithin (fun r_3 f0_r_3 => ?_)
  refine ⟨(by assumption), ?_⟩
  exact hp _ f0_r_3
theorem sX1_knowersOf_L4 {post : Int32 → Prop} {K31 : Int32 → Int32 → Prop} {dk : Nat → Int64} {wg : Nat → Int64} {op : Int64} {re : Int32} {bn : Int32} {p1 : Int32} (a0 : BN bn) (hp : ∀ (r : Int32), post r) (hK31 : ∀ (i2 : Int32) (i3 : Int32), K31 i2 i3) : ∀ (m k : Nat) (i2 : Int32), k + m = 6 → wX1_knowersOf_L4 post K31 dk wg op re bn p1 (m + 1) i2 (nI k) := by
  intro m
  induction m with
  | zero =>
    intro k i2 hkm
    refine ⟨fun _ => ?_, fun q => absurd (by rw [show k = 6 by omega]; decide) q⟩
    exact hK31 _ _
  | succ m ih =>
    intro k i2 hkm
    have hk : IN (nI k) 6 := ⟨k, by omega, rfl⟩
    refine ⟨fun _ => ?_, fun _ => ?_⟩
    · exact hK31 _ _
    · refine sX1_knows a0 (fun r_1 f0_r_1 => ?_)
      refine ⟨fun hc1 => ?_, fun hc1 => ?_⟩
      · rw [← nI_succ]
        exact ih (k + 1) _ (by omega)
      · rw [← nI_succ]
        exact ih (k + 1) _ (by omega)
theorem sX1_knowersOf {post : Int32 → Prop} {dk : Nat → Int64} {wg : Nat → Int64} {op : Int64} {re : Int32} {bn : Int32} {p1 : Int32} (a0 : BN bn) (hp : ∀ (r : Int32), post r) : wX1_knowersOf post dk wg op re bn p1 := by
  unfold wX1_knowersOf
  refine ⟨7, sX1_knowersOf_L4 a0 hp (fun i2 i3 => ?_) 6 0 _ rfl⟩
  exact hp _
theorem sX1_answeringAlike_L8 {post : Int64 → Prop} {K72 : Int64 → Int32 → Prop} {dk : Nat → Int64} {wg : Nat → Int64} {op : Int64} {re : Int32} {bn : Int32} {p1 : Int32} {p2 : Int32} (a0 : BN bn) (hp : ∀ (r : Int64), post r) (hK72 : ∀ (i3 : Int64) (i5 : Int32), K72 i3 i5) : ∀ (m k : Nat) (i3 : Int64), k + m = 6 → wX1_answeringAlike_L8 post K72 dk wg op re bn p1 p2 (m + 1) i3 (nI k) := by
  intro m
  induction m with
  | zero =>
    intro k i3 hkm
    refine ⟨fun _ => ?_, fun q => absurd (by rw [show k = 6 by omega]; decide) q⟩
    exact hK72 _ _
  | succ m ih =>
    intro k i3 hkm
    have hk : IN (nI k) 6 := ⟨k, by omega, rfl⟩
    refine ⟨fun _ => ?_, fun _ => ?_⟩
    · exact hK72 _ _
    · refine sX2_has (fun r_1 f0_r_1 => ?_)
      refine ⟨fun hc1 => ?_, fun hc1 => ?_⟩
      · rw [← nI_succ]
        exact ih (k + 1) _ (by omega)
      · refine sX1_worldsOf a0 (fun r_2 => ?_)
        refine sX1_knownToAll (fun r_3 => ?_)
        refine sX2_has (fun r_4 f0_r_4 => ?_)
        refine ⟨fun hc2 => ?_, fun hc2 => ?_⟩
        · rw [← nI_succ]
          exact ih (k + 1) _ (by omega)
        · rw [← nI_succ]
          exact ih (k + 1) _ (by omega)
theorem sX1_answeringAlike {post : Int64 → Prop} {dk : Nat → Int64} {wg : Nat → Int64} {op : Int64} {re : Int32} {bn : Int32} {p1 : Int32} {p2 : Int32} (a0 : BN bn) (hp : ∀ (r : Int64), post r) : wX1_answeringAlike post dk wg op re bn p1 p2 := by
  unfold wX1_answeringAlike
  refine ⟨7, sX1_answeringAlike_L8 a0 hp (fun i3 i5 => ?_) 6 0 _ rfl⟩
  exact hp _
theorem sX1_fewestFor_L8 {post : Int32 → Prop} {K61 : Int32 → Int32 → Int32 → Prop} {dk : Nat → Int64} {wg : Nat → Int64} {op : Int64} {re : Int32} {bn : Int32} {p1 : Int32} (a0 : BN bn) (hp : ∀ (r : Int32), post r) (hK61 : ∀ (i2 : Int32) (i3 : Int32) (i4 : Int32), K61 i2 i3 i4) : ∀ (m k : Nat) (i2 : Int32) (i3 : Int32), k + m = 64 → wX1_fewestFor_L8 post K61 dk wg op re bn p1 (m + 1) i2 i3 (nI k) := by
  intro m
  induction m with
  | zero =>
    intro k i2 i3 hkm
    refine ⟨fun _ => ?_, fun q => absurd (by rw [show k = 64 by omega]; decide) q⟩
    exact hK61 _ _ _
  | succ m ih =>
    intro k i2 i3 hkm
    have hk : IN (nI k) 64 := ⟨k, by omega, rfl⟩
    refine ⟨fun _ => ?_, fun _ => ?_⟩
    · exact hK61 _ _ _
    · refine sJ6_bitCount_0f7a4 (fun r_1 => ?_)
      refine ⟨fun hc1 => ?_, fun hc1 => ?_⟩
      · rw [← nI_succ]
        exact ih (k + 1) _ _ (by omega)
      · refine sX1_cellTogether (fun r_2 => ?_)
        refine sX1_worldsOf a0 (fun r_3 => ?_)
        refine sX2_isWithin (fun r_4 f0_r_4 => ?_)
        refine ⟨fun hc2 => ?_, fun hc2 => ?_⟩
        · rw [← nI_succ]
          exact ih (k + 1) _ _ (by omega)
        · rw [← nI_succ]
          exact ih (k + 1) _ _ (by omega)
theorem sX1_fewestFor {post : Int32 → Prop} {dk : Nat → Int64} {wg : Nat → Int64} {op : Int64} {re : Int32} {bn : Int32} {p1 : Int32} (a0 : BN bn) (hp : ∀ (r : Int32), post r) : wX1_fewestFor post dk wg op re bn p1 := by
  unfold wX1_fewestFor
  refine ⟨64, sX1_fewestFor_L8 a0 hp (fun i2 i3 i4 => ?_) 63 1 _ _ rfl⟩
  exact hp _
theorem sX1_depthFor_L19 {post : Int32 → Prop} {K71 : Int64 → Int32 → Prop} {dk : Nat → Int64} {op : Int64} {re : Int32} {p1 : Int32} (hp : ∀ (r : Int32), post r) (hK71 : ∀ (i4 : Int64) (i6 : Int32), K71 i4 i6) : ∀ (m k : Nat) (i4 : Int64), k + m = 64 → wX1_depthFor_L19 post K71 dk op re p1 (m + 1) i4 (nI k) := by
  intro m
  induction m with
  | zero =>
    intro k i4 hkm
    refine ⟨fun _ => ?_, fun q => absurd (by rw [show k = 64 by omega]; decide) q⟩
    exact hK71 _ _
  | succ m ih =>
    intro k i4 hkm
    have hk : IN (nI k) 64 := ⟨k, by omega, rfl⟩
    refine ⟨fun _ => ?_, fun _ => ?_⟩
    · exact hK71 _ _
    · refine sX1_knownToAll (fun r_2 => ?_)
      refine sX2_has (fun r_3 f0_r_3 => ?_)
      refine ⟨fun hc1 => ?_, fun hc1 => ?_⟩
      · refine ⟨fun hc2 => ?_, fun hc2 => ?_⟩
        · rw [← nI_succ]
          exact ih (k + 1) _ (by omega)
        · exact hp _
      · exact hp _
theorem sX1_depthFor {post : Int32 → Prop} {dk : Nat → Int64} {op : Int64} {re : Int32} {p1 : Int32} {p2 : Int64} (hp : ∀ (r : Int32), post r) : wX1_depthFor post dk op re p1 p2 := by
  unfold wX1_depthFor
  refine sX2_has (fun r_1 f0_r_1 => ?_)
  refine ⟨fun hc1 => ?_, fun hc1 => ?_⟩
  · refine ⟨65, sX1_depthFor_L19 hp (fun i4 i6 => ?_) 64 0 _ rfl⟩
    exact hp _
  · exact hp _
theorem sX1_countTrueInAllOf_L5 {post : Int32 → Prop} {K39 : Int32 → Int32 → Prop} {wg : Nat → Int64} {n : Nat} {p1 : Int64} (hn : n ≤ 40) (hK : ∀ a b, IN a (n + 1) → K39 a b) : ∀ (m k c : Nat), k + m = n → c ≤ k → wX1_countTrueInAllOf_L5 post K39 wg (nI n) p1 (m + 1) (nI c) (nI k) := by
  intro m
  induction m with
  | zero =>
    intro k c h hc
    obtain rfl : k = n := by omega
    exact ⟨fun _ => hK _ _ ⟨c, by omega, rfl⟩, fun q => absurd (Int32.le_refl _) q⟩
  | succ m ih =>
    intro k c h hc
    refine ⟨fun _ => hK _ _ ⟨c, by omega, rfl⟩, fun _ => sX1_worldsOf ⟨n, hn, rfl⟩ (fun r => sX2_isWithin (fun r3 _ => ⟨fun _ => ?_, fun _ => ?_⟩))⟩
    · rw [← nI_succ]
      exact ih (k + 1) c (by omega) (by omega)
    · rw [← nI_succ, ← nI_succ]
      exact ih (k + 1) (c + 1) (by omega) (by omega)
theorem sX1_countTrueInAllOf {post : Int32 → Prop} {wg : Nat → Int64} {bn : Int32} {p1 : Int64} (a0 : BN bn) (hp : ∀ (r : Int32), IN r 41 → post r) : wX1_countTrueInAllOf post wg bn p1 := by
  obtain ⟨n, hn, rfl⟩ := a0
  exact ⟨n + 1, sX1_countTrueInAllOf_L5 hn (fun a b h => hp a (h.mono (by omega))) n 0 0 (Nat.zero_add _) (Nat.le_refl _)⟩
theorem sX1_countTrueInReal {post : Int32 → Prop} {wg : Nat → Int64} {re : Int32} {bn : Int32} (a0 : BN bn) (hp : ∀ (r : Int32), IN r 41 → post r) : wX1_countTrueInReal post wg re bn := by
  unfold wX1_countTrueInReal
  refine sX2_setOf (fun r_1 => ?_)
  refine sX1_countTrueInAllOf a0 (fun r_2 f0_r_2 => ?_)
  exact hp _ f0_r_2
theorem sX1_countKnownBy {post : Int32 → Prop} {dk : Nat → Int64} {wg : Nat → Int64} {op : Int64} {re : Int32} {bn : Int32} {p1 : Int32} (a0 : BN bn) (hp : ∀ (r : Int32), IN r 41 → post r) : wX1_countKnownBy post dk wg op re bn p1 := by
  unfold wX1_countKnownBy
  refine sX1_cell (fun r_1 => ?_)
  refine sX1_countTrueInAllOf a0 (fun r_2 f0_r_2 => ?_)
  exact hp _ f0_r_2
theorem sX1_countCells_L10 {post : Int32 → Prop} {K48 : Int32 → Int64 → Int32 → Prop} {dk : Nat → Int64} {op : Int64} {p1 : Int32} (hp : ∀ (r : Int32), post r) (hK48 : ∀ (i2 : Int32) (i3 : Int64) (i5 : Int32), K48 i2 i3 i5) : ∀ (m k : Nat) (i2 : Int32) (i3 : Int64), k + m = 64 → wX1_countCells_L10 post K48 dk op p1 (m + 1) i2 i3 (nI k) := by
  intro m
  induction m with
  | zero =>
    intro k i2 i3 hkm
    refine ⟨fun _ => ?_, fun q => absurd (by rw [show k = 64 by omega]; decide) q⟩
    exact hK48 _ _ _
  | succ m ih =>
    intro k i2 i3 hkm
    have hk : IN (nI k) 64 := ⟨k, by omega, rfl⟩
    refine ⟨fun _ => ?_, fun _ => ?_⟩
    · exact hK48 _ _ _
    · refine ⟨fun hc1 => ?_, fun hc1 => ?_⟩
      · exact hK48 _ _ _
      · refine sX2_smallestOf (fun r_1 => ?_)
        refine sX1_cell (fun r_2 => ?_)
        rw [← nI_succ]
        exact ih (k + 1) _ _ (by omega)
theorem sX1_countCells {post : Int32 → Prop} {dk : Nat → Int64} {op : Int64} {p1 : Int32} (hp : ∀ (r : Int32), post r) : wX1_countCells post dk op p1 := by
  unfold wX1_countCells
  refine ⟨65, sX1_countCells_L10 hp (fun i2 i3 i5 => ?_) 64 0 _ _ rfl⟩
  exact hp _
theorem sX1_isAsSharpAs_L2 {post : Int32 → Prop} {K45 : Int32 → Prop} {dk : Nat → Int64} {op : Int64} {p1 : Int32} {p2 : Int32} (hp : ∀ (r : Int32), vZ r → post r) (hK45 : ∀ (i3 : Int32), K45 i3) : ∀ (m k : Nat), k + m = 64 → wX1_isAsSharpAs_L2 post K45 dk op p1 p2 (m + 1) (nI k) := by
  intro m
  induction m with
  | zero =>
    intro k hkm
    refine ⟨fun _ => ?_, fun q => absurd (by rw [show k = 64 by omega]; decide) q⟩
    exact hK45 _
  | succ m ih =>
    intro k hkm
    have hk : IN (nI k) 64 := ⟨k, by omega, rfl⟩
    refine ⟨fun _ => ?_, fun _ => ?_⟩
    · exact hK45 _
    · refine sX2_has (fun r_1 f0_r_1 => ?_)
      refine ⟨fun hc1 => ?_, fun hc1 => ?_⟩
      · rw [← nI_succ]
        exact ih (k + 1) (by omega)
      · refine sX1_cell (fun r_2 => ?_)
        refine sX1_cell (fun r_3 => ?_)
        refine sX2_isWithin (fun r_4 f0_r_4 => ?_)
        refine ⟨fun hc2 => ?_, fun hc2 => ?_⟩
        · rw [← nI_succ]
          exact ih (k + 1) (by omega)
        · exact hp _ (Or.inl rfl)
theorem sX1_isAsSharpAs {post : Int32 → Prop} {dk : Nat → Int64} {op : Int64} {p1 : Int32} {p2 : Int32} (hp : ∀ (r : Int32), vZ r → post r) : wX1_isAsSharpAs post dk op p1 p2 := by
  unfold wX1_isAsSharpAs
  refine ⟨65, sX1_isAsSharpAs_L2 hp (fun i3 => ?_) 64 0 rfl⟩
  exact hp _ (Or.inr rfl)
theorem sX1_asSharpAs_L4 {post : Int32 → Prop} {K31 : Int32 → Int32 → Prop} {dk : Nat → Int64} {op : Int64} {p1 : Int32} (hp : ∀ (r : Int32), post r) (hK31 : ∀ (i2 : Int32) (i3 : Int32), K31 i2 i3) : ∀ (m k : Nat) (i2 : Int32), k + m = 6 → wX1_asSharpAs_L4 post K31 dk op p1 (m + 1) i2 (nI k) := by
  intro m
  induction m with
  | zero =>
    intro k i2 hkm
    refine ⟨fun _ => ?_, fun q => absurd (by rw [show k = 6 by omega]; decide) q⟩
    exact hK31 _ _
  | succ m ih =>
    intro k i2 hkm
    have hk : IN (nI k) 6 := ⟨k, by omega, rfl⟩
    refine ⟨fun _ => ?_, fun _ => ?_⟩
    · exact hK31 _ _
    · refine sX1_isAsSharpAs (fun r_1 f0_r_1 => ?_)
      refine ⟨fun hc1 => ?_, fun hc1 => ?_⟩
      · rw [← nI_succ]
        exact ih (k + 1) _ (by omega)
      · rw [← nI_succ]
        exact ih (k + 1) _ (by omega)
theorem sX1_asSharpAs {post : Int32 → Prop} {dk : Nat → Int64} {op : Int64} {p1 : Int32} (hp : ∀ (r : Int32), post r) : wX1_asSharpAs post dk op p1 := by
  unfold wX1_asSharpAs
  refine ⟨7, sX1_asSharpAs_L4 hp (fun i2 i3 => ?_) 6 0 _ rfl⟩
  exact hp _
theorem sX1_nearestToReal_L4 {post : Int32 → Prop} {K45 : Int32 → Int32 → Prop} {dk : Nat → Int64} {op : Int64} {re : Int32} (hp : ∀ (r : Int32), post r) (hK45 : ∀ (i1 : Int32) (i2 : Int32), K45 i1 i2) : ∀ (m k : Nat) (i1 : Int32), k + m = 6 → wX1_nearestToReal_L4 post K45 dk op re (m + 1) i1 (nI k) := by
  intro m
  induction m with
  | zero =>
    intro k i1 hkm
    refine ⟨fun _ => ?_, fun q => absurd (by rw [show k = 6 by omega]; decide) q⟩
    exact hK45 _ _
  | succ m ih =>
    intro k i1 hkm
    have hk : IN (nI k) 6 := ⟨k, by omega, rfl⟩
    refine ⟨fun _ => ?_, fun _ => ?_⟩
    · exact hK45 _ _
    · refine sX1_cell (fun r_1 => ?_)
      refine sJ13_bitCount_95d88 (fun r_2 => ?_)
      refine sX1_cell (fun r_3 => ?_)
      refine sJ13_bitCount_95d88 (fun r_4 => ?_)
      refine ⟨fun hc1 => ?_, fun hc1 => ?_⟩
      · rw [← nI_succ]
        exact ih (k + 1) _ (by omega)
      · rw [← nI_succ]
        exact ih (k + 1) _ (by omega)
theorem sX1_nearestToReal {post : Int32 → Prop} {dk : Nat → Int64} {op : Int64} {re : Int32} (hp : ∀ (r : Int32), post r) : wX1_nearestToReal post dk op re := by
  unfold wX1_nearestToReal
  refine ⟨6, sX1_nearestToReal_L4 hp (fun i1 i2 => ?_) 5 1 _ rfl⟩
  exact hp _
theorem sX1_isSoundOf_L93 {post : Int32 → Prop} {K136 : Int32 → Prop} {dk : Nat → Int64} {wg : Nat → Int64} {op : Int64} {re : Int32} {bn : Int32} {p1 : Int32} {r_1 : Int32} (a0 : BN bn) (hp : ∀ (r : Int32), vZ r → post r) (hK136 : ∀ (i5 : Int32), K136 i5) : ∀ (m k : Nat), k + m = 64 → wX1_isSoundOf_L93 post K136 dk wg op re bn p1 r_1 (m + 1) (nI k) := by
  intro m
  induction m with
  | zero =>
    intro k hkm
    refine ⟨fun _ => ?_, fun q => absurd (by rw [show k = 64 by omega]; decide) q⟩
    exact hK136 _
  | succ m ih =>
    intro k hkm
    have hk : IN (nI k) 64 := ⟨k, by omega, rfl⟩
    refine ⟨fun _ => ?_, fun _ => ?_⟩
    · exact hK136 _
    · refine ⟨fun hc1 => ?_, fun hc1 => ?_⟩
      · rw [← nI_succ]
        exact ih (k + 1) (by omega)
      · refine sX1_cellTogether (fun r_4 => ?_)
        refine sX1_worldsOf a0 (fun r_5 => ?_)
        refine sX2_isWithin (fun r_6 f0_r_6 => ?_)
        refine ⟨fun hc2 => ?_, fun hc2 => ?_⟩
        · rw [← nI_succ]
          exact ih (k + 1) (by omega)
        · exact hp _ (Or.inl rfl)
theorem sX1_isSoundOf_C90 {post : Int32 → Prop} {dk : Nat → Int64} {wg : Nat → Int64} {op : Int64} {re : Int32} {bn : Int32} {p1 : Int32} {r_1 : Int32} (a0 : BN bn) (hp : ∀ (r : Int32), vZ r → post r) : wX1_isSoundOf_C90 post dk wg op re bn p1 r_1 := by
  unfold wX1_isSoundOf_C90
  refine ⟨64, sX1_isSoundOf_L93 a0 hp (fun i5 => ?_) 63 1 rfl⟩
  exact hp _ (Or.inr rfl)
theorem sX1_isSoundOf_C55 {post : Int32 → Prop} {dk : Nat → Int64} {wg : Nat → Int64} {op : Int64} {re : Int32} {ff : Nat → Int32} {sf : Nat → Int32} {bn : Int32} {p1 : Int32} {r_1 : Int32} {i4 : Int32} (a0 : BN bn) (hp : ∀ (r : Int32), vZ r → post r) : wX1_isSoundOf_C55 post dk wg op re ff sf bn p1 r_1 i4 := by
  unfold wX1_isSoundOf_C55
  refine ⟨fun hc1 => ?_, fun hc1 => ?_⟩
  · exact sX1_isSoundOf_C90 a0 hp
  · refine sX0_firstOf a0 (fun r_7 => ?_)
    refine sX0_secondOf a0 (fun r_8 => ?_)
    refine sX1_knowersOf a0 (fun r_9 => ?_)
    refine sX2_isWithin (fun r_10 f0_r_10 => ?_)
    refine ⟨fun hc2 => ?_, fun hc2 => ?_⟩
    · exact sX1_isSoundOf_C90 a0 hp
    · exact hp _ (Or.inl rfl)
theorem sX1_isSoundOf_L93_5 {post : Int32 → Prop} {K136 : Int32 → Prop} {dk : Nat → Int64} {wg : Nat → Int64} {op : Int64} {re : Int32} {bn : Int32} {p1 : Int32} {r_1 : Int32} (a0 : BN bn) (hp : ∀ (r : Int32), vZ r → post r) (hK136 : ∀ (i5 : Int32), K136 i5) : ∀ (m k : Nat), k + m = 64 → wX1_isSoundOf_L93_5 post K136 dk wg op re bn p1 r_1 (m + 1) (nI k) := by
  intro m
  induction m with
  | zero =>
    intro k hkm
    refine ⟨fun _ => ?_, fun q => absurd (by rw [show k = 64 by omega]; decide) q⟩
    exact hK136 _
  | succ m ih =>
    intro k hkm
    have hk : IN (nI k) 64 := ⟨k, by omega, rfl⟩
    refine ⟨fun _ => ?_, fun _ => ?_⟩
    · exact hK136 _
    · refine ⟨fun hc1 => ?_, fun hc1 => ?_⟩
      · rw [← nI_succ]
        exact ih (k + 1) (by omega)
      · refine sX1_cellTogether (fun r_15 => ?_)
        refine sX1_worldsOf a0 (fun r_16 => ?_)
        refine sX2_isWithin (fun r_17 f0_r_17 => ?_)
        refine ⟨fun hc2 => ?_, fun hc2 => ?_⟩
        · rw [← nI_succ]
          exact ih (k + 1) (by omega)
        · exact hp _ (Or.inl rfl)
theorem sX1_isSoundOf_C90x {post : Int32 → Prop} {dk : Nat → Int64} {wg : Nat → Int64} {op : Int64} {re : Int32} {bn : Int32} {p1 : Int32} {r_1 : Int32} (a0 : BN bn) (hp : ∀ (r : Int32), vZ r → post r) : wX1_isSoundOf_C90x post dk wg op re bn p1 r_1 := by
  unfold wX1_isSoundOf_C90x
  refine ⟨64, sX1_isSoundOf_L93_5 a0 hp (fun i5 => ?_) 63 1 rfl⟩
  exact hp _ (Or.inr rfl)
theorem sX1_isSoundOf_C55x {post : Int32 → Prop} {dk : Nat → Int64} {wg : Nat → Int64} {op : Int64} {re : Int32} {ff : Nat → Int32} {sf : Nat → Int32} {bn : Int32} {p1 : Int32} {r_1 : Int32} {i4 : Int32} (a0 : BN bn) (hp : ∀ (r : Int32), vZ r → post r) : wX1_isSoundOf_C55x post dk wg op re ff sf bn p1 r_1 i4 := by
  unfold wX1_isSoundOf_C55x
  refine ⟨fun hc1 => ?_, fun hc1 => ?_⟩
  · exact sX1_isSoundOf_C90x a0 hp
  · refine sX0_firstOf a0 (fun r_18 => ?_)
    refine sX0_secondOf a0 (fun r_19 => ?_)
    refine sX1_knowersOf a0 (fun r_20 => ?_)
    refine sX2_isWithin (fun r_21 f0_r_21 => ?_)
    refine ⟨fun hc2 => ?_, fun hc2 => ?_⟩
    · exact sX1_isSoundOf_C90x a0 hp
    · exact hp _ (Or.inl rfl)
theorem sX1_isSoundOf {post : Int32 → Prop} {dk : Nat → Int64} {wg : Nat → Int64} {op : Int64} {re : Int32} {kf : Nat → Int32} {ff : Nat → Int32} {sf : Nat → Int32} {bn : Int32} {p1 : Int32} (a0 : BN bn) (hp : ∀ (r : Int32), vZ r → post r) : wX1_isSoundOf post dk wg op re kf ff sf bn p1 := by
  unfold wX1_isSoundOf
  refine sX1_knowersOf a0 (fun r_1 => ?_)
  refine ⟨fun hc1 => ?_, fun hc1 => ?_⟩
  · refine sX0_kindOf a0 (fun r_2 => ?_)
    refine ⟨fun hc2 => ?_, fun hc2 => ?_⟩
    · refine sX1_isTrueInReal a0 (fun r_3 f0_r_3 => ?_)
      refine ⟨fun hc3 => ?_, fun hc3 => ?_⟩
      · exact sX1_isSoundOf_C55 a0 hp
      · exact sX1_isSoundOf_C55 a0 hp
    · refine ⟨fun hc4 => ?_, fun hc4 => ?_⟩
      · exact sX1_isSoundOf_C55 a0 hp
      · refine sX1_isTrueInReal a0 (fun r_11 f0_r_11 => ?_)
        refine ⟨fun hc5 => ?_, fun hc5 => ?_⟩
        · exact sX1_isSoundOf_C55 a0 hp
        · exact sX1_isSoundOf_C55 a0 hp
  · refine sX1_isTrueInReal a0 (fun r_12 f0_r_12 => ?_)
    refine ⟨fun hc6 => ?_, fun hc6 => ?_⟩
    · refine sX0_kindOf a0 (fun r_13 => ?_)
      refine ⟨fun hc7 => ?_, fun hc7 => ?_⟩
      · refine sX1_isTrueInReal a0 (fun r_14 f0_r_14 => ?_)
        refine ⟨fun hc8 => ?_, fun hc8 => ?_⟩
        · exact sX1_isSoundOf_C55x a0 hp
        · exact sX1_isSoundOf_C55x a0 hp
      · refine ⟨fun hc9 => ?_, fun hc9 => ?_⟩
        · exact sX1_isSoundOf_C55x a0 hp
        · refine sX1_isTrueInReal a0 (fun r_22 f0_r_22 => ?_)
          refine ⟨fun hc10 => ?_, fun hc10 => ?_⟩
          · exact sX1_isSoundOf_C55x a0 hp
          · exact sX1_isSoundOf_C55x a0 hp
    · exact hp _ (Or.inl rfl)
theorem sX2_worldsOfFact {post : Int64 → Prop} {p1 : Int32} (hp : ∀ (r : Int64), post r) : wX2_worldsOfFact post p1 := by
  unfold wX2_worldsOfFact
  refine sX2_isFact (fun r_1 f0_r_1 f1_r_1 f2_r_1 => ?_)
  refine ⟨fun hc1 => ?_, fun hc1 => ?_⟩
  · exact hp _
  · refine ⟨(IN.vp (f1_r_1 hc1) (by decide)), ?_⟩
    exact hp _
theorem sX2_turned {post : Int64 → Prop} {p1 : Int64} {p2 : Int32} (hp : ∀ (r : Int64), post r) : wX2_turned post p1 p2 := by
  unfold wX2_turned
  refine sX2_worldsOfFact (fun r_1 => ?_)
  exact hp _
theorem sX1_factsSettledFor_L16 {post : Int32 → Prop} {K67 : Int32 → Int32 → Prop} {r_1 : Int64} (hp : ∀ (r : Int32), post r) (hK67 : ∀ (i4 : Int32) (i5 : Int32), K67 i4 i5) : ∀ (m k : Nat) (i4 : Int32), k + m = 6 → wX1_factsSettledFor_L16 post K67 r_1 (m + 1) i4 (nI k) := by
  intro m
  induction m with
  | zero =>
    intro k i4 hkm
    refine ⟨fun _ => ?_, fun q => absurd (by rw [show k = 6 by omega]; decide) q⟩
    exact hK67 _ _
  | succ m ih =>
    intro k i4 hkm
    have hk : IN (nI k) 6 := ⟨k, by omega, rfl⟩
    refine ⟨fun _ => ?_, fun _ => ?_⟩
    · exact hK67 _ _
    · refine sX2_worldsOfFact (fun r_2 => ?_)
      refine sX2_isWithin (fun r_3 f0_r_3 => ?_)
      refine ⟨fun hc1 => ?_, fun hc1 => ?_⟩
      · rw [← nI_succ]
        exact ih (k + 1) _ (by omega)
      · refine sX2_isWithin (fun r_4 f0_r_4 => ?_)
        refine ⟨fun hc2 => ?_, fun hc2 => ?_⟩
        · rw [← nI_succ]
          exact ih (k + 1) _ (by omega)
        · rw [← nI_succ]
          exact ih (k + 1) _ (by omega)
theorem sX1_factsSettledFor {post : Int32 → Prop} {dk : Nat → Int64} {op : Int64} {re : Int32} {p1 : Int32} (hp : ∀ (r : Int32), post r) : wX1_factsSettledFor post dk op re p1 := by
  unfold wX1_factsSettledFor
  refine sX1_cell (fun r_1 => ?_)
  refine ⟨7, sX1_factsSettledFor_L16 hp (fun i4 i5 => ?_) 6 0 _ rfl⟩
  exact hp _
theorem sX1_keepOnly {post : Int64 → Prop} {op : Int64} {p1 : Int64} (hp : ∀ (u : Int64), post u) : wX1_keepOnly post op p1 := by
  unfold wX1_keepOnly
  exact hp _
theorem sX1_tellApart_L11 {post : (Nat → Int64) → Prop} {K57 : Int32 → (Nat → Int64) → Prop} {p1 : Int32} {p2 : Int64} (a0 : IN p1 6) (hp : ∀ (u : Nat → Int64), post u) (hK57 : ∀ (i4 : Int32) (dk' : Nat → Int64), K57 i4 dk') : ∀ (m k : Nat) (dk' : Nat → Int64), k + m = 64 → wX1_tellApart_L11 post K57 p1 p2 (m + 1) (nI k) dk' := by
  intro m
  induction m with
  | zero =>
    intro k dk' hkm
    refine ⟨fun _ => ?_, fun q => absurd (by rw [show k = 64 by omega]; decide) q⟩
    exact hK57 _ _
  | succ m ih =>
    intro k dk' hkm
    have hk : IN (nI k) 64 := ⟨k, by omega, rfl⟩
    refine ⟨fun _ => ?_, fun _ => ?_⟩
    · exact hK57 _ _
    · refine ⟨(IN.vp (idx384 a0 hk) (by decide)), ?_⟩
      refine sX2_has (fun r_2 f0_r_2 => ?_)
      refine ⟨fun hc1 => ?_, fun hc1 => ?_⟩
      · refine ⟨(IN.vp (idx384 a0 hk) (by decide)), ?_⟩
        rw [← nI_succ]
        exact ih (k + 1) _ (by omega)
      · refine ⟨(IN.vp (idx384 a0 hk) (by decide)), ?_⟩
        rw [← nI_succ]
        exact ih (k + 1) _ (by omega)
theorem sX1_tellApart {post : (Nat → Int64) → Prop} {dk : Nat → Int64} {p1 : Int32} {p2 : Int64} (hp : ∀ (u : Nat → Int64), post u) : wX1_tellApart post dk p1 p2 := by
  unfold wX1_tellApart
  refine sX2_isGuard (fun r_1 f0_r_1 f1_r_1 f2_r_1 => ?_)
  refine ⟨fun hc1 => ?_, fun hc1 => ?_⟩
  · refine ⟨65, sX1_tellApart_L11 (f1_r_1 hc1) hp (fun i4 dk' => ?_) 64 0 _ rfl⟩
    exact hp _
  · exact hp _
theorem sX1_passOn_L21 {post : Int32 → (Nat → Int64) → Prop} {K103 : Int64 → Int32 → (Nat → Int64) → Prop} {op : Int64} {p1 : Int32} {p2 : Int32} (a0 : IN p1 6) (a1 : IN p2 6) (hp : ∀ (r : Int32) (u : Nat → Int64), vZ r → post r u) (hK103 : ∀ (i3 : Int64) (i5 : Int32) (dk' : Nat → Int64), K103 i3 i5 dk') : ∀ (m k : Nat) (i3 : Int64) (dk' : Nat → Int64), k + m = 64 → wX1_passOn_L21 post K103 op p1 p2 (m + 1) i3 (nI k) dk' := by
  intro m
  induction m with
  | zero =>
    intro k i3 dk' hkm
    refine ⟨fun _ => ?_, fun q => absurd (by rw [show k = 64 by omega]; decide) q⟩
    exact hK103 _ _ _
  | succ m ih =>
    intro k i3 dk' hkm
    have hk : IN (nI k) 64 := ⟨k, by omega, rfl⟩
    refine ⟨fun _ => ?_, fun _ => ?_⟩
    · exact hK103 _ _ _
    · refine ⟨(IN.vp (idx384 a1 hk) (by decide)), ?_⟩
      intro x_1 ex_1
      refine ⟨(IN.vp (idx384 a0 hk) (by decide)), ?_⟩
      intro x_2 ex_2
      refine ⟨(IN.vp (idx384 a1 hk) (by decide)), ?_⟩
      refine sX2_has (fun r_3 f0_r_3 => ?_)
      refine ⟨fun hc1 => ?_, fun hc1 => ?_⟩
      · rw [← nI_succ]
        exact ih (k + 1) _ _ (by omega)
      · intro x_3 ex_3
        rw [← nI_succ]
        exact ih (k + 1) _ _ (by omega)
theorem sX1_passOn {post : Int32 → (Nat → Int64) → Prop} {dk : Nat → Int64} {op : Int64} {p1 : Int32} {p2 : Int32} (hp : ∀ (r : Int32) (u : Nat → Int64), vZ r → post r u) : wX1_passOn post dk op p1 p2 := by
  unfold wX1_passOn
  refine sX2_isGuard (fun r_1 f0_r_1 f1_r_1 f2_r_1 => ?_)
  refine ⟨fun hc1 => ?_, fun hc1 => ?_⟩
  · exact hp _ _ (Or.inl rfl)
  · refine sX2_isGuard (fun r_2 f0_r_2 f1_r_2 f2_r_2 => ?_)
    refine ⟨fun hc2 => ?_, fun hc2 => ?_⟩
    · refine ⟨65, sX1_passOn_L21 (f1_r_1 hc1) (f1_r_2 hc2) hp (fun i3 i5 dk' => ?_) 64 0 _ _ rfl⟩
      refine ⟨fun hc3 => ?_, fun hc3 => ?_⟩
      · exact hp _ _ (Or.inl rfl)
      · exact hp _ _ (Or.inr rfl)
    · exact hp _ _ (Or.inl rfl)
theorem sX1_turn_L45 {post : (Nat → Int64) × Int64 × Int32 → Prop} {K125 : Int32 → (Nat → Int64) → Prop} {p1 : Int32} {i3 : Int32} (a0 : IN i3 6) (a1 : IN p1 6) (hp : ∀ (u : (Nat → Int64) × Int64 × Int32), IN u.2.2 64 → post u) (hK125 : ∀ (i4 : Int32) (dk' : Nat → Int64), K125 i4 dk') : ∀ (m k : Nat) (dk' : Nat → Int64), k + m = 64 → wX1_turn_L45 post K125 p1 i3 (m + 1) (nI k) dk' := by
  intro m
  induction m with
  | zero =>
    intro k dk' hkm
    refine ⟨fun _ => ?_, fun q => absurd (by rw [show k = 64 by omega]; decide) q⟩
    exact hK125 _ _
  | succ m ih =>
    intro k dk' hkm
    have hk : IN (nI k) 64 := ⟨k, by omega, rfl⟩
    refine ⟨fun _ => ?_, fun _ => ?_⟩
    · exact hK125 _ _
    · refine ⟨fun hc1 => ?_, fun hc1 => ?_⟩
      · rw [← nI_succ]
        exact ih (k + 1) _ (by omega)
      · intro x_1 ex_1
        refine ⟨(IN.vp (idx384 a0 hk) (by decide)), ?_⟩
        refine sX2_turned (fun r_3 => ?_)
        refine ⟨(IN.vp (by rw [ex_1]; exact (idx384 a0 (IN.or hk (IN.sh a1)))) (by decide)), ?_⟩
        refine sX2_turned (fun r_4 => ?_)
        refine ⟨(IN.vp (idx384 a0 hk) (by decide)), ?_⟩
        refine ⟨(IN.vp (by rw [ex_1]; exact (idx384 a0 (IN.or hk (IN.sh a1)))) (by decide)), ?_⟩
        rw [← nI_succ]
        exact ih (k + 1) _ (by omega)
theorem sX1_turn_L36 {post : (Nat → Int64) × Int64 × Int32 → Prop} {K131 : Int32 → (Nat → Int64) → Prop} {p1 : Int32} (a0 : IN p1 6) (hp : ∀ (u : (Nat → Int64) × Int64 × Int32), IN u.2.2 64 → post u) (hK131 : ∀ (i3 : Int32) (dk' : Nat → Int64), K131 i3 dk') : ∀ (m k : Nat) (dk' : Nat → Int64), k + m = 6 → wX1_turn_L36 post K131 p1 (m + 1) (nI k) dk' := by
  intro m
  induction m with
  | zero =>
    intro k dk' hkm
    refine ⟨fun _ => ?_, fun q => absurd (by rw [show k = 6 by omega]; decide) q⟩
    exact hK131 _ _
  | succ m ih =>
    intro k dk' hkm
    have hk : IN (nI k) 6 := ⟨k, by omega, rfl⟩
    refine ⟨fun _ => ?_, fun _ => ?_⟩
    · exact hK131 _ _
    · refine ⟨65, sX1_turn_L45 hk a0 hp (fun i4 dk' => ?_) 64 0 _ rfl⟩
      rw [← nI_succ]
      exact ih (k + 1) _ (by omega)
theorem sX1_turn {post : (Nat → Int64) × Int64 × Int32 → Prop} {dk : Nat → Int64} {op : Int64} {re : Int32} {p1 : Int32} (a0 : IN re 64) (hp : ∀ (u : (Nat → Int64) × Int64 × Int32), IN u.2.2 64 → post u) : wX1_turn post dk op re p1 := by
  unfold wX1_turn
  refine sX2_isFact (fun r_1 f0_r_1 f1_r_1 f2_r_1 => ?_)
  refine ⟨fun hc1 => ?_, fun hc1 => ?_⟩
  · refine sX2_turned (fun r_2 => ?_)
    refine ⟨7, sX1_turn_L36 (f1_r_1 hc1) hp (fun i3 dk' => ?_) 6 0 _ rfl⟩
    exact hp _ (IN.xor a0 (IN.sh (f1_r_1 hc1)))
  · exact hp _ a0
theorem sX1_weigh_L2 {post : (Nat → Int64) → Prop} {K254 : Int32 → (Nat → Int64) → Prop} {dk : Nat → Int64} {op : Int64} {kf : Nat → Int32} {ff : Nat → Int32} {sf : Nat → Int32} {bn : Int32} {p1 : Int64} (a0 : BN bn) (hp : ∀ (u : Nat → Int64), post u) (hK254 : ∀ (i3 : Int32) (wg' : Nat → Int64), K254 i3 wg') : ∀ (m k : Nat) (wg' : Nat → Int64), k + m = 40 → wX1_weigh_L2 post K254 dk op kf ff sf bn p1 (m + 1) (nI k) wg' := by
  intro m
  induction m with
  | zero =>
    intro k wg' hkm
    refine ⟨fun _ => ?_, fun q => absurd (by rw [show k = 40 by omega]; decide) q⟩
    exact hK254 _ _
  | succ m ih =>
    intro k wg' hkm
    have hk : IN (nI k) 40 := ⟨k, by omega, rfl⟩
    refine ⟨fun _ => ?_, fun _ => ?_⟩
    · exact hK254 _ _
    · refine sX2_has (fun r_1 f0_r_1 => ?_)
      refine ⟨fun hc1 => ?_, fun hc1 => ?_⟩
      · refine sX0_firstOf a0 (fun r_2 => ?_)
        refine sX0_secondOf a0 (fun r_3 => ?_)
        refine sX0_kindOf a0 (fun r_4 => ?_)
        refine ⟨fun hc2 => ?_, fun hc2 => ?_⟩
        · refine sX2_worldsOfFact (fun r_5 => ?_)
          refine ⟨(IN.vp hk (by decide)), ?_⟩
          rw [← nI_succ]
          exact ih (k + 1) _ (by omega)
        · refine ⟨fun hc3 => ?_, fun hc3 => ?_⟩
          · refine sX1_worldsOf a0 (fun r_6 => ?_)
            refine ⟨(IN.vp hk (by decide)), ?_⟩
            rw [← nI_succ]
            exact ih (k + 1) _ (by omega)
          · refine ⟨fun hc4 => ?_, fun hc4 => ?_⟩
            · refine sX1_worldsOf a0 (fun r_7 => ?_)
              refine sX1_worldsOf a0 (fun r_8 => ?_)
              refine ⟨(IN.vp hk (by decide)), ?_⟩
              rw [← nI_succ]
              exact ih (k + 1) _ (by omega)
            · refine ⟨fun hc5 => ?_, fun hc5 => ?_⟩
              · refine sX1_worldsOf a0 (fun r_9 => ?_)
                refine sX1_worldsOf a0 (fun r_10 => ?_)
                refine ⟨(IN.vp hk (by decide)), ?_⟩
                rw [← nI_succ]
                exact ih (k + 1) _ (by omega)
              · refine ⟨fun hc6 => ?_, fun hc6 => ?_⟩
                · refine sX1_worldsOf a0 (fun r_11 => ?_)
                  refine sX1_knownToAll (fun r_12 => ?_)
                  refine ⟨(IN.vp hk (by decide)), ?_⟩
                  rw [← nI_succ]
                  exact ih (k + 1) _ (by omega)
                · refine ⟨fun hc7 => ?_, fun hc7 => ?_⟩
                  · refine sX1_worldsOf a0 (fun r_13 => ?_)
                    refine sX1_knownToAll (fun r_14 => ?_)
                    refine ⟨(IN.vp hk (by decide)), ?_⟩
                    rw [← nI_succ]
                    exact ih (k + 1) _ (by omega)
                  · refine ⟨fun hc8 => ?_, fun hc8 => ?_⟩
                    · refine sX1_worldsOf a0 (fun r_15 => ?_)
                      refine sX1_reached (fun r_16 => ?_)
                      refine ⟨(IN.vp hk (by decide)), ?_⟩
                      rw [← nI_succ]
                      exact ih (k + 1) _ (by omega)
                    · refine ⟨fun hc9 => ?_, fun hc9 => ?_⟩
                      · refine sX1_worldsOf a0 (fun r_17 => ?_)
                        refine sX1_knownTogether (fun r_18 => ?_)
                        refine ⟨(IN.vp hk (by decide)), ?_⟩
                        rw [← nI_succ]
                        exact ih (k + 1) _ (by omega)
                      · refine ⟨(IN.vp hk (by decide)), ?_⟩
                        rw [← nI_succ]
                        exact ih (k + 1) _ (by omega)
      · rw [← nI_succ]
        exact ih (k + 1) _ (by omega)
theorem sX1_weigh {post : (Nat → Int64) → Prop} {dk : Nat → Int64} {wg : Nat → Int64} {op : Int64} {kf : Nat → Int32} {ff : Nat → Int32} {sf : Nat → Int32} {bn : Int32} {p1 : Int64} (a0 : BN bn) (hp : ∀ (u : Nat → Int64), post u) : wX1_weigh post dk wg op kf ff sf bn p1 := by
  unfold wX1_weigh
  refine ⟨41, sX1_weigh_L2 a0 hp (fun i3 wg' => ?_) 40 0 _ rfl⟩
  exact hp _
theorem sX1_restart_L14 {post : (Nat → Int64) × (Nat → Int64) × Int64 × Int32 → Prop} {K36 : Int32 → (Nat → Int64) → Prop} (hp : ∀ (u : (Nat → Int64) × (Nat → Int64) × Int64 × Int32), IN u.2.2.2 64 → post u) (hK36 : ∀ (i2 : Int32) (dk' : Nat → Int64), K36 i2 dk') : ∀ (m k : Nat) (dk' : Nat → Int64), k + m = 384 → wX1_restart_L14 post K36 (m + 1) (nI k) dk' := by
  intro m
  induction m with
  | zero =>
    intro k dk' hkm
    refine ⟨fun _ => ?_, fun q => absurd (by rw [show k = 384 by omega]; decide) q⟩
    exact hK36 _ _
  | succ m ih =>
    intro k dk' hkm
    have hk : IN (nI k) 384 := ⟨k, by omega, rfl⟩
    refine ⟨fun _ => ?_, fun _ => ?_⟩
    · exact hK36 _ _
    · refine ⟨(IN.vp hk (by decide)), ?_⟩
      rw [← nI_succ]
      exact ih (k + 1) _ (by omega)
theorem sX1_restart {post : (Nat → Int64) × (Nat → Int64) × Int64 × Int32 → Prop} {dk : Nat → Int64} {wg : Nat → Int64} {op : Int64} {re : Int32} {kf : Nat → Int32} {ff : Nat → Int32} {sf : Nat → Int32} {bn : Int32} {p1 : Int32} (a0 : BN bn) (a1 : IN p1 64) (hp : ∀ (u : (Nat → Int64) × (Nat → Int64) × Int64 × Int32), IN u.2.2.2 64 → post u) : wX1_restart post dk wg op re kf ff sf bn p1 := by
  unfold wX1_restart
  refine ⟨385, sX1_restart_L14 hp (fun i2 dk' => ?_) 384 0 _ rfl⟩
  refine sX0_everySentence a0 (fun r_1 => ?_)
  refine sX1_weigh a0 (fun wg_1 => ?_)
  exact hp _ a1
theorem sX1_copyFrom {post : (Nat → Int64) × (Nat → Int64) × Int64 × Int32 → Prop} {dk : Nat → Int64} {wg : Nat → Int64} {op : Int64} {re : Int32} {ek : Nat → Int64} {xg : Nat → Int64} {oq : Int64} {rf : Int32} (hp : ∀ (u : (Nat → Int64) × (Nat → Int64) × Int64 × Int32), post u) : wX1_copyFrom post dk wg op re ek xg oq rf := by
  unfold wX1_copyFrom
  exact hp _
theorem sX0_add_L162 {post : Int32 → (Nat → Int32) × (Nat → Int32) × (Nat → Int32) × (Nat → Int32) × (Nat → Int64) × (Nat → Int64) × Int32 → Prop} {K : Int32 → (Nat → Int64) → Prop} {bn p1 p2 : Int32} {pf' : Nat → Int64} (hb : vp_in bn 40) (hK : ∀ i g, K i g) : ∀ (m k : Nat) (gf : Nat → Int64), k + m = 6 → wX0_add_L162 post K bn p1 p2 pf' (m + 1) (nI k) gf := by
  intro m
  induction m with
  | zero =>
    intro k gf h
    obtain rfl : k = 6 := by omega
    exact ⟨fun _ => hK _ _, fun q => absurd (by decide) q⟩
  | succ m ih =>
    intro k gf h
    have v : vp_in (nI k) 6 := nI_in (by omega) (by decide)
    have hr : ∀ g, wX0_add_L162 post K bn p1 p2 pf' (m + 1) (nI k + 1) g := fun g => by
      rw [← nI_succ]
      exact ih (k + 1) g (by omega)
    exact ⟨fun _ => hK _ _, fun _ => sX0_names (fun r _ => ⟨fun _ => ⟨v, sX2_setOf (fun _ => ⟨v, hr _⟩)⟩, fun _ => ⟨hb, v, fun _ => hr _, fun _ => ⟨v, sX2_setOf (fun _ => ⟨v, hr _⟩)⟩⟩⟩)⟩
theorem sX0_add {post : Int32 → (Nat → Int32) × (Nat → Int32) × (Nat → Int32) × (Nat → Int32) × (Nat → Int64) × (Nat → Int64) × Int32 → Prop} {kf ff sf df : Nat → Int32} {pf gf : Nat → Int64} {n : Nat} {p1 p2 p3 : Int32} (hn : n < 40) (hp : ∀ df pf gf, post (nI n) (upd kf n p1, upd ff n p2, upd sf n p3, df, pf, gf, nI (n + 1))) : wX0_add post kf ff sf df pf gf (nI n) p1 p2 p3 := by
  have hb : vp_in (nI n) 40 := nI_in hn (by decide)
  have hB : BN (nI n) := ⟨n, by omega, rfl⟩
  have e : (nI n).toNatClampNeg = n := nI_clamp (by omega)
  have h159 : ∀ i7 pf, wX0_add_C159 post kf ff sf df gf (nI n) p1 p2 p3 i7 pf := fun i7 pf => ⟨7, sX0_add_L162 hb (fun i g => by
    show post (nI n) (upd kf (nI n).toNatClampNeg p1, upd ff (nI n).toNatClampNeg p2, upd sf (nI n).toNatClampNeg p3, upd df (nI n).toNatClampNeg (i7 + (1 : Int32)), pf, g, (nI n + (1 : Int32)))
    rw [e, ← nI_succ]
    exact hp _ _ _) 6 0 _ rfl⟩
  have h106 : ∀ i5 i6 i7, wX0_add_C106 post kf ff sf df pf gf (nI n) p1 p2 p3 i5 i6 i7 := fun i5 i6 i7 => ⟨hb, sX2_setOf (fun r => ⟨fun _ => ⟨fun _ => ⟨hb, h159 _ _⟩, fun _ => sX0_partsOf hB (fun r => ⟨hb, h159 _ _⟩)⟩, fun _ => sX0_partsOf hB (fun r => ⟨fun _ => ⟨hb, h159 _ _⟩, fun _ => sX0_partsOf hB (fun r => ⟨hb, h159 _ _⟩)⟩)⟩)⟩
  have h49 : ∀ i5 i6, wX0_add_C49 post kf ff sf df pf gf (nI n) p1 p2 p3 i5 i6 := fun i5 i6 => ⟨hb, hb, hb, fun _ => ⟨fun _ x _ => h106 _ _ _, fun _ => sX0_builtDeep hB (fun r x _ => h106 _ _ _)⟩, fun _ => sX0_builtDeep hB (fun r => ⟨fun _ x _ => h106 _ _ _, fun _ => sX0_builtDeep hB (fun r => h106 _ _ _)⟩)⟩
  have h37 : ∀ i5, wX0_add_C37 post kf ff sf df pf gf (nI n) p1 p2 p3 i5 := fun i5 => ⟨fun _ => h49 _ _, fun _ => h49 _ _⟩
  refine ⟨fun _ => ⟨fun _ => ⟨fun _ => h37 _, fun _ => ⟨fun _ => h37 _, fun _ => ⟨fun _ => h37 _, fun _ => h37 _⟩⟩⟩, fun q => absurd rfl q⟩, fun q => absurd ?_ q⟩
  exact nI_lt hn (by decide)
def BOK (kf ff sf : Nat → Int32) (n : Nat) : Prop := n ≤ 40 ∧ ∀ k, k < n → wfS k (kf k) (ff k) (sf k)
theorem updAt (f : Nat → Int32) (n : Nat) (x : Int32) : upd f n x n = x := by
  show (if n = n then x else f n) = x
  rw [if_pos rfl]
theorem updNe (f : Nat → Int32) {n k : Nat} (x : Int32) (h : ¬ k = n) : upd f n x k = f k := by
  show (if k = n then x else f k) = f k
  rw [if_neg h]
theorem BOK.push {kf ff sf : Nat → Int32} {n : Nat} {a b c : Int32} (h : BOK kf ff sf n) (hn : n < 40) (hw : wfS n a b c) : BOK (upd kf n a) (upd ff n b) (upd sf n c) (n + 1) := ⟨hn, fun k hk => by
  by_cases e : k = n
  · subst e
    rw [updAt, updAt, updAt]
    exact hw
  · rw [updNe _ _ e, updNe _ _ e, updNe _ _ e]
    exact h.2 k (by omega)⟩
theorem sxX2_begin {post : Int32 → (Nat → Int64) × (Nat → Int64) × Int64 × Int32 → Prop} {postx : String → Prop} {dk : Nat → Int64} {wg : Nat → Int64} {op : Int64} {re : Int32} {kf : Nat → Int32} {ff : Nat → Int32} {sf : Nat → Int32} {bn : Int32} {p1 : Int32} (a0 : BN bn) (hp : ∀ (r : Int32) (u : (Nat → Int64) × (Nat → Int64) × Int64 × Int32), IN u.2.2.2 64 → post r u) (hx0 : postx "java/lang/IllegalArgumentException") : wxX2_begin post postx dk wg op re kf ff sf bn p1 := by
  unfold wxX2_begin
  refine sX2_isWorld (fun r_1 f0_r_1 f1_r_1 f2_r_1 => ?_)
  refine ⟨fun hc1 => ?_, fun hc1 => ?_⟩
  · refine sX1_restart a0 (f1_r_1 hc1) (fun z_1 f0_z_1 => ?_)
    refine sX1_countTrueInReal a0 (fun r_3 f0_r_3 => ?_)
    exact hp _ _ f0_z_1
  · exact hx0
theorem sxX2_look {post : Int32 → Int32 × (Nat → Int64) × (Nat → Int64) → Prop} {postx : String → Prop} {lK : Int32} {dk : Nat → Int64} {wg : Nat → Int64} {op : Int64} {re : Int32} {kf : Nat → Int32} {ff : Nat → Int32} {sf : Nat → Int32} {bn : Int32} {p1 : Int32} {p2 : Int32} (a0 : BN bn) (hp : ∀ (r : Int32) (u : Int32 × (Nat → Int64) × (Nat → Int64)), post r u) (hx0 : postx "java/lang/IndexOutOfBoundsException") : wxX2_look post postx lK dk wg op re kf ff sf bn p1 p2 := by
  unfold wxX2_look
  refine sX2_isGuard (fun r_1 f0_r_1 f1_r_1 f2_r_1 => ?_)
  refine ⟨fun hc1 => ?_, fun hc1 => ?_⟩
  · exact hx0
  · refine sX2_isFact (fun r_2 f0_r_2 f1_r_2 f2_r_2 => ?_)
    refine ⟨fun hc2 => ?_, fun hc2 => ?_⟩
    · refine sX2_worldsOfFact (fun r_3 => ?_)
      refine sX1_tellApart (fun dk_1 => ?_)
      refine sX0_everySentence a0 (fun r_5 => ?_)
      refine sX1_weigh a0 (fun wg_1 => ?_)
      refine sX1_cell (fun r_7 => ?_)
      refine sJ13_bitCount_95d88 (fun r_8 => ?_)
      exact hp _ _
    · exact hx0
theorem sxX2_aloud {post : Int32 → Int32 × Int64 × (Nat → Int64) → Prop} {postx : String → Prop} {tA : Int32} {dk : Nat → Int64} {wg : Nat → Int64} {op : Int64} {re : Int32} {kf : Nat → Int32} {ff : Nat → Int32} {sf : Nat → Int32} {bn : Int32} {p1 : Int32} (a0 : BN bn) (hp : ∀ (r : Int32) (u : Int32 × Int64 × (Nat → Int64)), post r u) (hx0 : postx "java/lang/IllegalStateException") (hx1 : postx "java/lang/IndexOutOfBoundsException") : wxX2_aloud post postx tA dk wg op re kf ff sf bn p1 := by
  unfold wxX2_aloud
  refine sX0_holds a0 (fun r_1 f0_r_1 f1_r_1 f2_r_1 f3_r_1 => ?_)
  refine ⟨fun hc1 => ?_, fun hc1 => ?_⟩
  · refine sX1_isTrueInReal a0 (fun r_2 f0_r_2 => ?_)
    refine ⟨fun hc2 => ?_, fun hc2 => ?_⟩
    · refine sX1_worldsOf a0 (fun r_3 => ?_)
      refine sX1_keepOnly (fun op_1 => ?_)
      refine sX0_everySentence a0 (fun r_5 => ?_)
      refine sX1_weigh a0 (fun wg_1 => ?_)
      refine sJ13_bitCount_95d88 (fun r_7 => ?_)
      exact hp _ _
    · exact hx0
  · exact hx1
theorem sxX2_whisper {post : Int32 → Int32 × (Nat → Int64) × (Nat → Int64) → Prop} {postx : String → Prop} {wP : Int32} {dk : Nat → Int64} {wg : Nat → Int64} {op : Int64} {re : Int32} {kf : Nat → Int32} {ff : Nat → Int32} {sf : Nat → Int32} {bn : Int32} {p1 : Int32} {p2 : Int32} (a0 : BN bn) (hp : ∀ (r : Int32) (u : Int32 × (Nat → Int64) × (Nat → Int64)), vZ r → post r u) (hx0 : postx "java/lang/IndexOutOfBoundsException") : wxX2_whisper post postx wP dk wg op re kf ff sf bn p1 p2 := by
  unfold wxX2_whisper
  refine sX2_isGuard (fun r_1 f0_r_1 f1_r_1 f2_r_1 => ?_)
  refine ⟨fun hc1 => ?_, fun hc1 => ?_⟩
  · exact hx0
  · refine sX0_holds a0 (fun r_2 f0_r_2 f1_r_2 f2_r_2 f3_r_2 => ?_)
    refine ⟨fun hc2 => ?_, fun hc2 => ?_⟩
    · refine sX1_isTrueInReal a0 (fun r_3 f0_r_3 => ?_)
      refine sX1_worldsOf a0 (fun r_4 => ?_)
      refine sX1_tellApart (fun dk_1 => ?_)
      refine sX0_everySentence a0 (fun r_6 => ?_)
      refine sX1_weigh a0 (fun wg_1 => ?_)
      refine ⟨(by assumption), ?_⟩
      exact hp _ _ f0_r_3
    · exact hx0
theorem sxX2_note {post : Int32 → Int32 × (Nat → Int64) × (Nat → Int64) → Prop} {postx : String → Prop} {nT : Int32} {dk : Nat → Int64} {wg : Nat → Int64} {op : Int64} {re : Int32} {kf : Nat → Int32} {ff : Nat → Int32} {sf : Nat → Int32} {bn : Int32} {p1 : Int32} {p2 : Int32} (a0 : BN bn) (hp : ∀ (r : Int32) (u : Int32 × (Nat → Int64) × (Nat → Int64)), post r u) (hx0 : postx "java/lang/IllegalArgumentException") (hx1 : postx "java/lang/IndexOutOfBoundsException") : wxX2_note post postx nT dk wg op re kf ff sf bn p1 p2 := by
  unfold wxX2_note
  refine sX2_isGuard (fun r_1 f0_r_1 f1_r_1 f2_r_1 => ?_)
  refine ⟨fun hc1 => ?_, fun hc1 => ?_⟩
  · exact hx1
  · refine sX2_isGuard (fun r_2 f0_r_2 f1_r_2 f2_r_2 => ?_)
    refine ⟨fun hc2 => ?_, fun hc2 => ?_⟩
    · refine ⟨fun hc3 => ?_, fun hc3 => ?_⟩
      · refine sX1_passOn (fun r_3 dk_1 f0_dk_1 => ?_)
        refine sX0_everySentence a0 (fun r_4 => ?_)
        refine sX1_weigh a0 (fun wg_1 => ?_)
        refine sX1_cell (fun r_6 => ?_)
        refine sJ13_bitCount_95d88 (fun r_7 => ?_)
        exact hp _ _
      · exact hx0
    · exact hx1
theorem sxX2_ask {post : Int32 → Int32 × Int64 × (Nat → Int64) → Prop} {postx : String → Prop} {aK : Int32} {dk : Nat → Int64} {wg : Nat → Int64} {op : Int64} {re : Int32} {kf : Nat → Int32} {ff : Nat → Int32} {sf : Nat → Int32} {bn : Int32} {p1 : Int32} {p2 : Int32} (a0 : BN bn) (hp : ∀ (r : Int32) (u : Int32 × Int64 × (Nat → Int64)), post r u) (hx0 : postx "java/lang/IllegalArgumentException") (hx1 : postx "java/lang/IndexOutOfBoundsException") : wxX2_ask post postx aK dk wg op re kf ff sf bn p1 p2 := by
  unfold wxX2_ask
  refine sX0_holds a0 (fun r_1 f0_r_1 f1_r_1 f2_r_1 f3_r_1 => ?_)
  refine ⟨fun hc1 => ?_, fun hc1 => ?_⟩
  · refine sX2_isSetOfGuards (fun r_2 f0_r_2 f1_r_2 f2_r_2 => ?_)
    refine ⟨fun hc2 => ?_, fun hc2 => ?_⟩
    · refine sX1_knowersOf a0 (fun r_3 => ?_)
      refine sX1_answeringAlike a0 (fun r_4 => ?_)
      refine sX1_keepOnly (fun op_1 => ?_)
      refine sX0_everySentence a0 (fun r_6 => ?_)
      refine sX1_weigh a0 (fun wg_1 => ?_)
      exact hp _ _
    · exact hx0
  · exact hx1
theorem sxX2_flip {post : Int32 → Int32 × (Nat → Int64) × Int64 × Int32 × (Nat → Int64) → Prop} {postx : String → Prop} {sW : Int32} {dk : Nat → Int64} {wg : Nat → Int64} {op : Int64} {re : Int32} {kf : Nat → Int32} {ff : Nat → Int32} {sf : Nat → Int32} {bn : Int32} {p1 : Int32} (a0 : BN bn) (a1 : IN re 64) (hp : ∀ (r : Int32) (u : Int32 × (Nat → Int64) × Int64 × Int32 × (Nat → Int64)), IN u.2.2.2.1 64 → post r u) (hx0 : postx "java/lang/IndexOutOfBoundsException") : wxX2_flip post postx sW dk wg op re kf ff sf bn p1 := by
  unfold wxX2_flip
  refine sX2_isFact (fun r_1 f0_r_1 f1_r_1 f2_r_1 => ?_)
  refine ⟨fun hc1 => ?_, fun hc1 => ?_⟩
  · refine sX1_turn a1 (fun z_1 f0_z_1 => ?_)
    refine sX0_everySentence a0 (fun r_3 => ?_)
    refine sX1_weigh a0 (fun wg_1 => ?_)
    exact hp _ _ f0_z_1
  · exact hx0
theorem sX2_call {post : Int32 → Int32 → Prop} {rF : Int32} (hp : ∀ (r : Int32) (u : Int32), post r u) : wX2_call post rF := by
  unfold wX2_call
  exact hp _ _
theorem sX2_possible {post : Int64 → Prop} {op : Int64} (hp : ∀ (r : Int64), post r) : wX2_possible post op := by
  unfold wX2_possible
  exact hp _
theorem sX2_isSound_L24 {post : Int32 → Prop} {K54 : Int32 → Prop} {dk wg : Nat → Int64} {op : Int64} {re : Int32} {kf ff sf : Nat → Int32} {n : Nat} (hn : n ≤ 40) (hp : ∀ r, vZ r → post r) (hK : ∀ a, K54 a) : ∀ (m k : Nat), k + m = n → wX2_isSound_L24 post K54 dk wg op re kf ff sf (nI n) (m + 1) (nI k) := by
  intro m
  induction m with
  | zero =>
    intro k h
    obtain rfl : k = n := by omega
    exact ⟨fun _ => hK _, fun q => absurd (Int32.le_refl _) q⟩
  | succ m ih =>
    intro k h
    refine ⟨fun _ => hK _, fun _ => sX1_isSoundOf ⟨n, hn, rfl⟩ (fun r _ => ⟨fun _ => ?_, fun _ => hp _ (Or.inl rfl)⟩)⟩
    rw [← nI_succ]
    exact ih (k + 1) (by omega)
theorem sX2_isSound {post : Int32 → Prop} {dk wg : Nat → Int64} {op : Int64} {re : Int32} {kf ff sf : Nat → Int32} {bn : Int32} (a0 : BN bn) (hp : ∀ (r : Int32), vZ r → post r) : wX2_isSound post dk wg op re kf ff sf bn := by
  obtain ⟨n, hn, rfl⟩ := a0
  exact sX2_has (fun r _ => ⟨fun _ => ⟨n + 1, sX2_isSound_L24 hn hp (fun _ => hp _ (Or.inr rfl)) n 0 (Nat.zero_add _)⟩, fun _ => hp _ (Or.inl rfl)⟩)
theorem sxX2_isTrue {post : Int32 → Unit → Prop} {postx : String → Prop} {wg : Nat → Int64} {bn : Int32} {p1 : Int32} {p2 : Int32} (a0 : BN bn) (hp : ∀ (r : Int32) (u : Unit), vZ r → post r u) (hx0 : postx "java/lang/IndexOutOfBoundsException") : wxX2_isTrue post postx wg bn p1 p2 := by
  unfold wxX2_isTrue
  refine sX0_holds a0 (fun r_1 f0_r_1 f1_r_1 f2_r_1 f3_r_1 => ?_)
  refine ⟨fun hc1 => ?_, fun hc1 => ?_⟩
  · exact hx0
  · refine sX2_isWorld (fun r_2 f0_r_2 f1_r_2 f2_r_2 => ?_)
    refine ⟨fun hc2 => ?_, fun hc2 => ?_⟩
    · refine sX1_worldsOf a0 (fun r_3 => ?_)
      refine sX2_has (fun r_4 f0_r_4 => ?_)
      refine ⟨(by assumption), ?_⟩
      exact hp _ _ f0_r_4
    · exact hx0
theorem snX2_isTrue {post : Int32 → Prop} {wg : Nat → Int64} {bn : Int32} {p1 : Int32} {p2 : Int32} (a0 : BN bn) (a1 : INB p1 bn) (a2 : IN p2 64) (hp : ∀ (r : Int32), vZ r → post r) : wnX2_isTrue post wg bn p1 p2 := by
  unfold wnX2_isTrue
  refine sX0_holds a0 (fun r_1 f0_r_1 f1_r_1 f2_r_1 f3_r_1 => ?_)
  refine ⟨fun hc1 => ?_, fun hc1 => ?_⟩
  · exact absurd a1 (f3_r_1 hc1)
  · refine sX2_isWorld (fun r_2 f0_r_2 f1_r_2 f2_r_2 => ?_)
    refine ⟨fun hc2 => ?_, fun hc2 => ?_⟩
    · refine sX1_worldsOf a0 (fun r_3 => ?_)
      refine sX2_has (fun r_4 f0_r_4 => ?_)
      refine ⟨(by assumption), ?_⟩
      exact hp _ f0_r_4
    · exact absurd a2 (f2_r_2 hc2)
theorem sxX2_truth {post : Int64 → Unit → Prop} {postx : String → Prop} {wg : Nat → Int64} {bn : Int32} {p1 : Int32} (a0 : BN bn) (hp : ∀ (r : Int64) (u : Unit), post r u) (hx0 : postx "java/lang/IndexOutOfBoundsException") : wxX2_truth post postx wg bn p1 := by
  unfold wxX2_truth
  refine sX0_holds a0 (fun r_1 f0_r_1 f1_r_1 f2_r_1 f3_r_1 => ?_)
  refine ⟨fun hc1 => ?_, fun hc1 => ?_⟩
  · refine sX1_worldsOf a0 (fun r_2 => ?_)
    exact hp _ _
  · exact hx0
theorem snX2_truth {post : Int64 → Prop} {wg : Nat → Int64} {bn : Int32} {p1 : Int32} (a0 : BN bn) (a1 : INB p1 bn) (hp : ∀ (r : Int64), post r) : wnX2_truth post wg bn p1 := by
  unfold wnX2_truth
  refine sX0_holds a0 (fun r_1 f0_r_1 f1_r_1 f2_r_1 f3_r_1 => ?_)
  refine ⟨fun hc1 => ?_, fun hc1 => ?_⟩
  · refine sX1_worldsOf a0 (fun r_2 => ?_)
    exact hp _
  · exact absurd a1 (f3_r_1 hc1)
theorem sxX2_of {post : Int32 → Unit → Prop} {postx : String → Prop} {dk : Nat → Int64} {wg : Nat → Int64} {op : Int64} {re : Int32} {kf : Nat → Int32} {ff : Nat → Int32} {sf : Nat → Int32} {df : Nat → Int32} {bn : Int32} {p1 : Int32} {p2 : Int32} (a0 : BN bn) (hp : ∀ (r : Int32) (u : Unit), post r u) (hx0 : postx "java/lang/IllegalArgumentException") (hx1 : postx "java/lang/IndexOutOfBoundsException") : wxX2_of post postx dk wg op re kf ff sf df bn p1 p2 := by
  unfold wxX2_of
  refine sX0_holds a0 (fun r_1 f0_r_1 f1_r_1 f2_r_1 f3_r_1 => ?_)
  refine ⟨fun hc1 => ?_, fun hc1 => ?_⟩
  · refine ⟨fun hc2 => ?_, fun hc2 => ?_⟩
    · refine sX0_kindOf a0 (fun r_2 => ?_)
      exact hp _ _
    · refine ⟨fun hc3 => ?_, fun hc3 => ?_⟩
      · refine sX0_firstOf a0 (fun r_3 => ?_)
        exact hp _ _
      · refine ⟨fun hc4 => ?_, fun hc4 => ?_⟩
        · refine sX0_secondOf a0 (fun r_4 => ?_)
          exact hp _ _
        · refine ⟨fun hc5 => ?_, fun hc5 => ?_⟩
          · refine sX1_worldsOf a0 (fun r_5 => ?_)
            refine sJ13_bitCount_95d88 (fun r_6 => ?_)
            exact hp _ _
          · refine ⟨fun hc6 => ?_, fun hc6 => ?_⟩
            · refine sX1_isTrueInReal a0 (fun r_7 f0_r_7 => ?_)
              refine ⟨fun hc7 => ?_, fun hc7 => ?_⟩
              · exact hp _ _
              · exact hp _ _
            · refine ⟨fun hc8 => ?_, fun hc8 => ?_⟩
              · refine sX1_knowersOf a0 (fun r_8 => ?_)
                refine sJ6_bitCount_0f7a4 (fun r_9 => ?_)
                exact hp _ _
              · refine ⟨fun hc9 => ?_, fun hc9 => ?_⟩
                · refine sX1_knowersOf a0 (fun r_10 => ?_)
                  exact hp _ _
                · refine ⟨fun hc10 => ?_, fun hc10 => ?_⟩
                  · refine sX1_reachedFromReal (fun r_11 => ?_)
                    refine sX1_worldsOf a0 (fun r_12 => ?_)
                    refine sX2_isWithin (fun r_13 f0_r_13 => ?_)
                    refine ⟨fun hc11 => ?_, fun hc11 => ?_⟩
                    · exact hp _ _
                    · exact hp _ _
                  · refine ⟨fun hc12 => ?_, fun hc12 => ?_⟩
                    · refine sX1_fewestFor a0 (fun r_14 => ?_)
                      exact hp _ _
                    · refine ⟨fun hc13 => ?_, fun hc13 => ?_⟩
                      · refine sX0_builtDeep a0 (fun r_15 => ?_)
                        exact hp _ _
                      · exact hx0
  · exact hx1
theorem snX2_of {post : Int32 → Prop} {dk : Nat → Int64} {wg : Nat → Int64} {op : Int64} {re : Int32} {kf : Nat → Int32} {ff : Nat → Int32} {sf : Nat → Int32} {df : Nat → Int32} {bn : Int32} {p1 : Int32} {p2 : Int32} (a0 : BN bn) (a1 : INB p1 bn) (a2 : IN p2 10) (hp : ∀ (r : Int32), post r) : wnX2_of post dk wg op re kf ff sf df bn p1 p2 := by
  unfold wnX2_of
  refine sX0_holds a0 (fun r_1 f0_r_1 f1_r_1 f2_r_1 f3_r_1 => ?_)
  refine ⟨fun hc1 => ?_, fun hc1 => ?_⟩
  · refine ⟨fun hc2 => ?_, fun hc2 => ?_⟩
    · refine sX0_kindOf a0 (fun r_2 => ?_)
      exact hp _
    · refine ⟨fun hc3 => ?_, fun hc3 => ?_⟩
      · refine sX0_firstOf a0 (fun r_3 => ?_)
        exact hp _
      · refine ⟨fun hc4 => ?_, fun hc4 => ?_⟩
        · refine sX0_secondOf a0 (fun r_4 => ?_)
          exact hp _
        · refine ⟨fun hc5 => ?_, fun hc5 => ?_⟩
          · refine sX1_worldsOf a0 (fun r_5 => ?_)
            refine sJ13_bitCount_95d88 (fun r_6 => ?_)
            exact hp _
          · refine ⟨fun hc6 => ?_, fun hc6 => ?_⟩
            · refine sX1_isTrueInReal a0 (fun r_7 f0_r_7 => ?_)
              refine ⟨fun hc7 => ?_, fun hc7 => ?_⟩
              · exact hp _
              · exact hp _
            · refine ⟨fun hc8 => ?_, fun hc8 => ?_⟩
              · refine sX1_knowersOf a0 (fun r_8 => ?_)
                refine sJ6_bitCount_0f7a4 (fun r_9 => ?_)
                exact hp _
              · refine ⟨fun hc9 => ?_, fun hc9 => ?_⟩
                · refine sX1_knowersOf a0 (fun r_10 => ?_)
                  exact hp _
                · refine ⟨fun hc10 => ?_, fun hc10 => ?_⟩
                  · refine sX1_reachedFromReal (fun r_11 => ?_)
                    refine sX1_worldsOf a0 (fun r_12 => ?_)
                    refine sX2_isWithin (fun r_13 f0_r_13 => ?_)
                    refine ⟨fun hc11 => ?_, fun hc11 => ?_⟩
                    · exact hp _
                    · exact hp _
                  · refine ⟨fun hc12 => ?_, fun hc12 => ?_⟩
                    · refine sX1_fewestFor a0 (fun r_14 => ?_)
                      exact hp _
                    · refine ⟨fun hc13 => ?_, fun hc13 => ?_⟩
                      · refine sX0_builtDeep a0 (fun r_15 => ?_)
                        exact hp _
                      · obtain ⟨k9, hk9, e9⟩ := a2
                        rcases (show k9 = 0 ∨ k9 = 1 ∨ k9 = 2 ∨ k9 = 3 ∨ k9 = 4 ∨ k9 = 5 ∨ k9 = 6 ∨ k9 = 7 ∨ k9 = 8 ∨ k9 = 9 from by omega) with rfl | rfl | rfl | rfl | rfl | rfl | rfl | rfl | rfl | rfl
                        all_goals first | exact absurd e9 hc2 | exact absurd e9 hc3 | exact absurd e9 hc4 | exact absurd e9 hc5 | exact absurd e9 hc6 | exact absurd e9 hc8 | exact absurd e9 hc9 | exact absurd e9 hc10 | exact absurd e9 hc12 | exact absurd e9 hc13
  · exact absurd a1 (f3_r_1 hc1)
theorem sxX2_alike {post : Int64 → Unit → Prop} {postx : String → Prop} {dk : Nat → Int64} {op : Int64} {p1 : Int32} {p2 : Int32} (hp : ∀ (r : Int64) (u : Unit), post r u) (hx0 : postx "java/lang/IndexOutOfBoundsException") : wxX2_alike post postx dk op p1 p2 := by
  unfold wxX2_alike
  refine sX2_isGuard (fun r_1 f0_r_1 f1_r_1 f2_r_1 => ?_)
  refine ⟨fun hc1 => ?_, fun hc1 => ?_⟩
  · exact hx0
  · refine sX2_isWorld (fun r_2 f0_r_2 f1_r_2 f2_r_2 => ?_)
    refine ⟨fun hc2 => ?_, fun hc2 => ?_⟩
    · refine sX2_has (fun r_3 f0_r_3 => ?_)
      refine ⟨fun hc3 => ?_, fun hc3 => ?_⟩
      · exact hp _ _
      · refine sX1_cell (fun r_4 => ?_)
        exact hp _ _
    · exact hx0
theorem snX2_alike {post : Int64 → Prop} {dk : Nat → Int64} {op : Int64} {p1 : Int32} {p2 : Int32} (a0 : IN p1 6) (a1 : IN p2 64) (hp : ∀ (r : Int64), post r) : wnX2_alike post dk op p1 p2 := by
  unfold wnX2_alike
  refine sX2_isGuard (fun r_1 f0_r_1 f1_r_1 f2_r_1 => ?_)
  refine ⟨fun hc1 => ?_, fun hc1 => ?_⟩
  · exact absurd a0 (f2_r_1 hc1)
  · refine sX2_isWorld (fun r_2 f0_r_2 f1_r_2 f2_r_2 => ?_)
    refine ⟨fun hc2 => ?_, fun hc2 => ?_⟩
    · refine sX2_has (fun r_3 f0_r_3 => ?_)
      refine ⟨fun hc3 => ?_, fun hc3 => ?_⟩
      · exact hp _
      · refine sX1_cell (fun r_4 => ?_)
        exact hp _
    · exact absurd a1 (f2_r_2 hc2)
theorem sxX2_ofGuard {post : Int32 → Unit → Prop} {postx : String → Prop} {dk : Nat → Int64} {wg : Nat → Int64} {op : Int64} {re : Int32} {bn : Int32} {p1 : Int32} {p2 : Int32} (a0 : BN bn) (hp : ∀ (r : Int32) (u : Unit), post r u) (hx0 : postx "java/lang/IllegalArgumentException") (hx1 : postx "java/lang/IndexOutOfBoundsException") : wxX2_ofGuard post postx dk wg op re bn p1 p2 := by
  unfold wxX2_ofGuard
  refine sX2_isGuard (fun r_1 f0_r_1 f1_r_1 f2_r_1 => ?_)
  refine ⟨fun hc1 => ?_, fun hc1 => ?_⟩
  · refine ⟨fun hc2 => ?_, fun hc2 => ?_⟩
    · refine sX1_countCells (fun r_2 => ?_)
      exact hp _ _
    · refine ⟨fun hc3 => ?_, fun hc3 => ?_⟩
      · refine sX1_cell (fun r_3 => ?_)
        refine sJ13_bitCount_95d88 (fun r_4 => ?_)
        exact hp _ _
      · refine ⟨fun hc4 => ?_, fun hc4 => ?_⟩
        · refine sX1_factsSettledFor (fun r_5 => ?_)
          exact hp _ _
        · refine ⟨fun hc5 => ?_, fun hc5 => ?_⟩
          · refine sX1_countKnownBy a0 (fun r_6 f0_r_6 => ?_)
            exact hp _ _
          · refine ⟨fun hc6 => ?_, fun hc6 => ?_⟩
            · refine sX1_asSharpAs (fun r_7 => ?_)
              exact hp _ _
            · exact hx0
  · exact hx1
theorem snX2_ofGuard {post : Int32 → Prop} {dk : Nat → Int64} {wg : Nat → Int64} {op : Int64} {re : Int32} {bn : Int32} {p1 : Int32} {p2 : Int32} (a0 : BN bn) (a1 : IN p1 6) (a2 : IN p2 5) (hp : ∀ (r : Int32), post r) : wnX2_ofGuard post dk wg op re bn p1 p2 := by
  unfold wnX2_ofGuard
  refine sX2_isGuard (fun r_1 f0_r_1 f1_r_1 f2_r_1 => ?_)
  refine ⟨fun hc1 => ?_, fun hc1 => ?_⟩
  · refine ⟨fun hc2 => ?_, fun hc2 => ?_⟩
    · refine sX1_countCells (fun r_2 => ?_)
      exact hp _
    · refine ⟨fun hc3 => ?_, fun hc3 => ?_⟩
      · refine sX1_cell (fun r_3 => ?_)
        refine sJ13_bitCount_95d88 (fun r_4 => ?_)
        exact hp _
      · refine ⟨fun hc4 => ?_, fun hc4 => ?_⟩
        · refine sX1_factsSettledFor (fun r_5 => ?_)
          exact hp _
        · refine ⟨fun hc5 => ?_, fun hc5 => ?_⟩
          · refine sX1_countKnownBy a0 (fun r_6 f0_r_6 => ?_)
            exact hp _
          · refine ⟨fun hc6 => ?_, fun hc6 => ?_⟩
            · refine sX1_asSharpAs (fun r_7 => ?_)
              exact hp _
            · obtain ⟨k9, hk9, e9⟩ := a2
              rcases (show k9 = 0 ∨ k9 = 1 ∨ k9 = 2 ∨ k9 = 3 ∨ k9 = 4 from by omega) with rfl | rfl | rfl | rfl | rfl
              all_goals first | exact absurd e9 hc2 | exact absurd e9 hc3 | exact absurd e9 hc4 | exact absurd e9 hc5 | exact absurd e9 hc6
  · exact absurd a1 (f2_r_1 hc1)
theorem sxX2_depth {post : Int32 → Unit → Prop} {postx : String → Prop} {dk : Nat → Int64} {wg : Nat → Int64} {op : Int64} {re : Int32} {bn : Int32} {p1 : Int32} {p2 : Int32} (a0 : BN bn) (hp : ∀ (r : Int32) (u : Unit), post r u) (hx0 : postx "java/lang/IllegalArgumentException") (hx1 : postx "java/lang/IndexOutOfBoundsException") : wxX2_depth post postx dk wg op re bn p1 p2 := by
  unfold wxX2_depth
  refine sX0_holds a0 (fun r_1 f0_r_1 f1_r_1 f2_r_1 f3_r_1 => ?_)
  refine ⟨fun hc1 => ?_, fun hc1 => ?_⟩
  · refine sX2_isSetOfGuards (fun r_2 f0_r_2 f1_r_2 f2_r_2 => ?_)
    refine ⟨fun hc2 => ?_, fun hc2 => ?_⟩
    · refine sX1_worldsOf a0 (fun r_3 => ?_)
      refine sX1_depthFor (fun r_4 => ?_)
      exact hp _ _
    · exact hx0
  · exact hx1
theorem snX2_depth {post : Int32 → Prop} {dk : Nat → Int64} {wg : Nat → Int64} {op : Int64} {re : Int32} {bn : Int32} {p1 : Int32} {p2 : Int32} (a0 : BN bn) (a1 : SETG p1) (a2 : INB p2 bn) (hp : ∀ (r : Int32), post r) : wnX2_depth post dk wg op re bn p1 p2 := by
  unfold wnX2_depth
  refine sX0_holds a0 (fun r_1 f0_r_1 f1_r_1 f2_r_1 f3_r_1 => ?_)
  refine ⟨fun hc1 => ?_, fun hc1 => ?_⟩
  · refine sX2_isSetOfGuards (fun r_2 f0_r_2 f1_r_2 f2_r_2 => ?_)
    refine ⟨fun hc2 => ?_, fun hc2 => ?_⟩
    · refine sX1_worldsOf a0 (fun r_3 => ?_)
      refine sX1_depthFor (fun r_4 => ?_)
      exact hp _
    · exact absurd a1 (f2_r_2 hc2)
  · exact absurd a2 (f3_r_1 hc1)
theorem sxX2_night {post : Int32 → Unit → Prop} {postx : String → Prop} {tA : Int32} {wP : Int32} {nT : Int32} {aK : Int32} {lK : Int32} {sW : Int32} {rF : Int32} {dk : Nat → Int64} {wg : Nat → Int64} {op : Int64} {re : Int32} {bn : Int32} {p1 : Int32} (a0 : BN bn) (hp : ∀ (r : Int32) (u : Unit), post r u) (hx0 : postx "java/lang/IllegalArgumentException") : wxX2_night post postx tA wP nT aK lK sW rF dk wg op re bn p1 := by
  unfold wxX2_night
  refine ⟨fun hc1 => ?_, fun hc1 => ?_⟩
  · exact hp _ _
  · refine ⟨fun hc2 => ?_, fun hc2 => ?_⟩
    · refine sJ13_bitCount_95d88 (fun r_1 => ?_)
      exact hp _ _
    · refine ⟨fun hc3 => ?_, fun hc3 => ?_⟩
      · refine sX0_count a0 (fun r_2 => ?_)
        exact hp _ _
      · refine ⟨fun hc4 => ?_, fun hc4 => ?_⟩
        · refine sX1_countTrueInReal a0 (fun r_3 f0_r_3 => ?_)
          exact hp _ _
        · refine ⟨fun hc5 => ?_, fun hc5 => ?_⟩
          · refine sX1_reachedFromReal (fun r_4 => ?_)
            refine sX1_countTrueInAllOf a0 (fun r_5 f0_r_5 => ?_)
            exact hp _ _
          · refine ⟨fun hc6 => ?_, fun hc6 => ?_⟩
            · exact hp _ _
            · refine ⟨fun hc7 => ?_, fun hc7 => ?_⟩
              · exact hp _ _
              · refine ⟨fun hc8 => ?_, fun hc8 => ?_⟩
                · exact hp _ _
                · refine ⟨fun hc9 => ?_, fun hc9 => ?_⟩
                  · exact hp _ _
                  · refine ⟨fun hc10 => ?_, fun hc10 => ?_⟩
                    · exact hp _ _
                    · refine ⟨fun hc11 => ?_, fun hc11 => ?_⟩
                      · exact hp _ _
                      · refine ⟨fun hc12 => ?_, fun hc12 => ?_⟩
                        · refine sX1_nearestToReal (fun r_6 => ?_)
                          exact hp _ _
                        · refine ⟨fun hc13 => ?_, fun hc13 => ?_⟩
                          · exact hp _ _
                          · exact hx0
theorem snX2_night {post : Int32 → Prop} {tA : Int32} {wP : Int32} {nT : Int32} {aK : Int32} {lK : Int32} {sW : Int32} {rF : Int32} {dk : Nat → Int64} {wg : Nat → Int64} {op : Int64} {re : Int32} {bn : Int32} {p1 : Int32} (a0 : BN bn) (a1 : IN p1 13) (hp : ∀ (r : Int32), post r) : wnX2_night post tA wP nT aK lK sW rF dk wg op re bn p1 := by
  unfold wnX2_night
  refine ⟨fun hc1 => ?_, fun hc1 => ?_⟩
  · exact hp _
  · refine ⟨fun hc2 => ?_, fun hc2 => ?_⟩
    · refine sJ13_bitCount_95d88 (fun r_1 => ?_)
      exact hp _
    · refine ⟨fun hc3 => ?_, fun hc3 => ?_⟩
      · refine sX0_count a0 (fun r_2 => ?_)
        exact hp _
      · refine ⟨fun hc4 => ?_, fun hc4 => ?_⟩
        · refine sX1_countTrueInReal a0 (fun r_3 f0_r_3 => ?_)
          exact hp _
        · refine ⟨fun hc5 => ?_, fun hc5 => ?_⟩
          · refine sX1_reachedFromReal (fun r_4 => ?_)
            refine sX1_countTrueInAllOf a0 (fun r_5 f0_r_5 => ?_)
            exact hp _
          · refine ⟨fun hc6 => ?_, fun hc6 => ?_⟩
            · exact hp _
            · refine ⟨fun hc7 => ?_, fun hc7 => ?_⟩
              · exact hp _
              · refine ⟨fun hc8 => ?_, fun hc8 => ?_⟩
                · exact hp _
                · refine ⟨fun hc9 => ?_, fun hc9 => ?_⟩
                  · exact hp _
                  · refine ⟨fun hc10 => ?_, fun hc10 => ?_⟩
                    · exact hp _
                    · refine ⟨fun hc11 => ?_, fun hc11 => ?_⟩
                      · exact hp _
                      · refine ⟨fun hc12 => ?_, fun hc12 => ?_⟩
                        · refine sX1_nearestToReal (fun r_6 => ?_)
                          exact hp _
                        · refine ⟨fun hc13 => ?_, fun hc13 => ?_⟩
                          · exact hp _
                          · obtain ⟨k9, hk9, e9⟩ := a1
                            rcases (show k9 = 0 ∨ k9 = 1 ∨ k9 = 2 ∨ k9 = 3 ∨ k9 = 4 ∨ k9 = 5 ∨ k9 = 6 ∨ k9 = 7 ∨ k9 = 8 ∨ k9 = 9 ∨ k9 = 10 ∨ k9 = 11 ∨ k9 = 12 from by omega) with rfl | rfl | rfl | rfl | rfl | rfl | rfl | rfl | rfl | rfl | rfl | rfl | rfl
                            all_goals first | exact absurd e9 hc1 | exact absurd e9 hc2 | exact absurd e9 hc3 | exact absurd e9 hc4 | exact absurd e9 hc5 | exact absurd e9 hc6 | exact absurd e9 hc7 | exact absurd e9 hc8 | exact absurd e9 hc9 | exact absurd e9 hc10 | exact absurd e9 hc11 | exact absurd e9 hc12 | exact absurd e9 hc13
theorem sxX2_wit {post : UInt64 → Unit → Prop} {postx : String → Prop} {dk wg : Nat → Int64} {op : Int64} {re bn p1 : Int32} (a0 : BN bn) (hp : ∀ (r : UInt64) (u : Unit), post r u) (hx0 : postx "java/lang/IndexOutOfBoundsException") : wxX2_wit post postx dk wg op re bn p1 := by
  obtain ⟨n, hn, rfl⟩ := a0
  exact tX2_isGuard (fun r _ hr => ⟨fun c => ⟨fun n0 => sX1_countKnownBy ⟨n, hn, rfl⟩ (fun r3 h3 => ⟨(witA h3 ⟨n, by omega, rfl⟩ n0).1, hp _ _⟩), fun _ => hp _ _⟩, fun _ => hx0⟩)
theorem snX2_wit {post : UInt64 → Prop} {dk wg : Nat → Int64} {op : Int64} {re bn p1 : Int32} (a0 : BN bn) (a1 : IN p1 6) (hp : ∀ (r : UInt64), WIT r → post r) : wnX2_wit post dk wg op re bn p1 := by
  obtain ⟨n, hn, rfl⟩ := a0
  exact tX2_isGuard (fun r _ hr => ⟨fun c => ⟨fun n0 => sX1_countKnownBy ⟨n, hn, rfl⟩ (fun r3 h3 => ⟨(witA h3 ⟨n, by omega, rfl⟩ n0).1, hp _ (witA h3 ⟨n, by omega, rfl⟩ n0).2⟩), fun _ => hp _ wit0⟩, fun q => absurd q (hr.mpr a1)⟩)
theorem sX2_oneNoteDoes_L42 {post : Int32 → (Nat → Int64) × (Nat → Int64) × Int64 × Int32 → Prop} {K102 : Int32 → (Nat → Int64) → (Nat → Int64) → Int64 → Int32 → Prop} {dk : Nat → Int64} {wg : Nat → Int64} {op : Int64} {re : Int32} {kf : Nat → Int32} {ff : Nat → Int32} {sf : Nat → Int32} {bn : Int32} {p3 : Int32} {p4 : Int32} {i5 : Int32} {r_1 : Int64} (a0 : BN bn) (hp : ∀ (r : Int32) (u : (Nat → Int64) × (Nat → Int64) × Int64 × Int32), vZ r → post r u) (hK102 : ∀ (i8 : Int32) (uk' : Nat → Int64) (uw' : Nat → Int64) (uo' : Int64) (ur' : Int32), K102 i8 uk' uw' uo' ur') : ∀ (m k : Nat) (uk' : Nat → Int64) (uw' : Nat → Int64) (uo' : Int64) (ur' : Int32), k + m = 6 → wX2_oneNoteDoes_L42 post K102 dk wg op re kf ff sf bn p3 p4 i5 r_1 (m + 1) (nI k) uk' uw' uo' ur' := by
  intro m
  induction m with
  | zero =>
    intro k uk' uw' uo' ur' hkm
    refine ⟨fun _ => ?_, fun q => absurd (by rw [show k = 6 by omega]; decide) q⟩
    exact hK102 _ _ _ _ _
  | succ m ih =>
    intro k uk' uw' uo' ur' hkm
    have hk : IN (nI k) 6 := ⟨k, by omega, rfl⟩
    refine ⟨fun _ => ?_, fun _ => ?_⟩
    · exact hK102 _ _ _ _ _
    · refine ⟨fun hc1 => ?_, fun hc1 => ?_⟩
      · refine sX1_copyFrom (fun z_1 => ?_)
        refine sX1_passOn (fun r_3 dk_2 f0_dk_2 => ?_)
        refine ⟨fun hc2 => ?_, fun hc2 => ?_⟩
        · refine sX1_weigh a0 (fun wg_2 => ?_)
          refine sX1_knows a0 (fun r_5 f0_r_5 => ?_)
          refine ⟨fun hc3 => ?_, fun hc3 => ?_⟩
          · rw [← nI_succ]
            exact ih (k + 1) _ _ _ _ (by omega)
          · exact hp _ _ (Or.inr rfl)
        · rw [← nI_succ]
          exact ih (k + 1) _ _ _ _ (by omega)
      · rw [← nI_succ]
        exact ih (k + 1) _ _ _ _ (by omega)
theorem sX2_oneNoteDoes_L3 {post : Int32 → (Nat → Int64) × (Nat → Int64) × Int64 × Int32 → Prop} {K108 : Int32 → (Nat → Int64) → (Nat → Int64) → Int64 → Int32 → Prop} {dk : Nat → Int64} {wg : Nat → Int64} {op : Int64} {re : Int32} {kf : Nat → Int32} {ff : Nat → Int32} {sf : Nat → Int32} {pf : Nat → Int64} {gf : Nat → Int64} {bn : Int32} {p3 : Int32} {p4 : Int32} (a0 : BN bn) (hp : ∀ (r : Int32) (u : (Nat → Int64) × (Nat → Int64) × Int64 × Int32), vZ r → post r u) (hK108 : ∀ (i5 : Int32) (uk' : Nat → Int64) (uw' : Nat → Int64) (uo' : Int64) (ur' : Int32), K108 i5 uk' uw' uo' ur') : ∀ (m k : Nat) (uk' : Nat → Int64) (uw' : Nat → Int64) (uo' : Int64) (ur' : Int32), k + m = 6 → wX2_oneNoteDoes_L3 post K108 dk wg op re kf ff sf pf gf bn p3 p4 (m + 1) (nI k) uk' uw' uo' ur' := by
  intro m
  induction m with
  | zero =>
    intro k uk' uw' uo' ur' hkm
    refine ⟨fun _ => ?_, fun q => absurd (by rw [show k = 6 by omega]; decide) q⟩
    exact hK108 _ _ _ _ _
  | succ m ih =>
    intro k uk' uw' uo' ur' hkm
    have hk : IN (nI k) 6 := ⟨k, by omega, rfl⟩
    refine ⟨fun _ => ?_, fun _ => ?_⟩
    · exact hK108 _ _ _ _ _
    · refine sX0_hangingOn a0 (fun r_1 => ?_)
      refine ⟨fun hc1 => ?_, fun hc1 => ?_⟩
      · refine ⟨7, sX2_oneNoteDoes_L42 a0 hp (fun i8 uk' uw' uo' ur' => ?_) 6 0 _ _ _ _ rfl⟩
        rw [← nI_succ]
        exact ih (k + 1) _ _ _ _ (by omega)
      · refine ⟨fun hc2 => ?_, fun hc2 => ?_⟩
        · refine ⟨7, sX2_oneNoteDoes_L42 a0 hp (fun i8 uk' uw' uo' ur' => ?_) 6 0 _ _ _ _ rfl⟩
          rw [← nI_succ]
          exact ih (k + 1) _ _ _ _ (by omega)
        · rw [← nI_succ]
          exact ih (k + 1) _ _ _ _ (by omega)
theorem sX2_oneNoteDoes {post : Int32 → (Nat → Int64) × (Nat → Int64) × Int64 × Int32 → Prop} {dk : Nat → Int64} {wg : Nat → Int64} {op : Int64} {re : Int32} {uk : Nat → Int64} {uw : Nat → Int64} {uo : Int64} {ur : Int32} {kf : Nat → Int32} {ff : Nat → Int32} {sf : Nat → Int32} {pf : Nat → Int64} {gf : Nat → Int64} {bn : Int32} {p3 : Int32} {p4 : Int32} (a0 : BN bn) (hp : ∀ (r : Int32) (u : (Nat → Int64) × (Nat → Int64) × Int64 × Int32), vZ r → post r u) : wX2_oneNoteDoes post dk wg op re uk uw uo ur kf ff sf pf gf bn p3 p4 := by
  unfold wX2_oneNoteDoes
  refine ⟨7, sX2_oneNoteDoes_L3 a0 hp (fun i5 uk' uw' uo' ur' => ?_) 6 0 _ _ _ _ rfl⟩
  exact hp _ _ (Or.inl rfl)
theorem sxX2_notes_L72 {post : Int32 → (Nat → Int64) × (Nat → Int64) × Int64 × Int32 × (Nat → Int64) × (Nat → Int64) × Int64 × Int32 → Prop} {postx : String → Prop} {K157 : Int32 → (Nat → Int64) → (Nat → Int64) → Int64 → Int32 → (Nat → Int64) → (Nat → Int64) → Int64 → Int32 → Prop} {dk : Nat → Int64} {wg : Nat → Int64} {op : Int64} {re : Int32} {kf : Nat → Int32} {ff : Nat → Int32} {sf : Nat → Int32} {pf : Nat → Int64} {gf : Nat → Int64} {bn : Int32} {p1 : Int32} {p2 : Int32} {i3 : Int32} (a0 : BN bn) (hp : ∀ (r : Int32) (u : (Nat → Int64) × (Nat → Int64) × Int64 × Int32 × (Nat → Int64) × (Nat → Int64) × Int64 × Int32), post r u) (hK157 : ∀ (i4 : Int32) (uk' : Nat → Int64) (uw' : Nat → Int64) (uo' : Int64) (ur' : Int32) (vk' : Nat → Int64) (vw' : Nat → Int64) (vo' : Int64) (vr' : Int32), K157 i4 uk' uw' uo' ur' vk' vw' vo' vr') : ∀ (m k : Nat) (uk' : Nat → Int64) (uw' : Nat → Int64) (uo' : Int64) (ur' : Int32) (vk' : Nat → Int64) (vw' : Nat → Int64) (vo' : Int64) (vr' : Int32), k + m = 6 → wxX2_notes_L72 post postx K157 dk wg op re kf ff sf pf gf bn p1 p2 i3 (m + 1) (nI k) uk' uw' uo' ur' vk' vw' vo' vr' := by
  intro m
  induction m with
  | zero =>
    intro k uk' uw' uo' ur' vk' vw' vo' vr' hkm
    refine ⟨fun _ => ?_, fun q => absurd (by rw [show k = 6 by omega]; decide) q⟩
    exact hK157 _ _ _ _ _ _ _ _ _
  | succ m ih =>
    intro k uk' uw' uo' ur' vk' vw' vo' vr' hkm
    have hk : IN (nI k) 6 := ⟨k, by omega, rfl⟩
    refine ⟨fun _ => ?_, fun _ => ?_⟩
    · exact hK157 _ _ _ _ _ _ _ _ _
    · refine ⟨fun hc1 => ?_, fun hc1 => ?_⟩
      · refine sX1_copyFrom (fun z_2 => ?_)
        refine sX1_passOn (fun r_6 dk_2 f0_dk_2 => ?_)
        refine ⟨fun hc2 => ?_, fun hc2 => ?_⟩
        · refine sX0_hangingOn a0 (fun r_7 => ?_)
          refine sX1_weigh a0 (fun wg_2 => ?_)
          refine sX2_oneNoteDoes a0 (fun r_9 z_3 f0_z_3 => ?_)
          refine ⟨fun hc3 => ?_, fun hc3 => ?_⟩
          · rw [← nI_succ]
            exact ih (k + 1) _ _ _ _ _ _ _ _ (by omega)
          · exact hp _ _
        · rw [← nI_succ]
          exact ih (k + 1) _ _ _ _ _ _ _ _ (by omega)
      · rw [← nI_succ]
        exact ih (k + 1) _ _ _ _ _ _ _ _ (by omega)
theorem sxX2_notes_L63 {post : Int32 → (Nat → Int64) × (Nat → Int64) × Int64 × Int32 × (Nat → Int64) × (Nat → Int64) × Int64 × Int32 → Prop} {postx : String → Prop} {K163 : Int32 → (Nat → Int64) → (Nat → Int64) → Int64 → Int32 → (Nat → Int64) → (Nat → Int64) → Int64 → Int32 → Prop} {dk : Nat → Int64} {wg : Nat → Int64} {op : Int64} {re : Int32} {kf : Nat → Int32} {ff : Nat → Int32} {sf : Nat → Int32} {pf : Nat → Int64} {gf : Nat → Int64} {bn : Int32} {p1 : Int32} {p2 : Int32} (a0 : BN bn) (hp : ∀ (r : Int32) (u : (Nat → Int64) × (Nat → Int64) × Int64 × Int32 × (Nat → Int64) × (Nat → Int64) × Int64 × Int32), post r u) (hK163 : ∀ (i3 : Int32) (uk' : Nat → Int64) (uw' : Nat → Int64) (uo' : Int64) (ur' : Int32) (vk' : Nat → Int64) (vw' : Nat → Int64) (vo' : Int64) (vr' : Int32), K163 i3 uk' uw' uo' ur' vk' vw' vo' vr') : ∀ (m k : Nat) (uk' : Nat → Int64) (uw' : Nat → Int64) (uo' : Int64) (ur' : Int32) (vk' : Nat → Int64) (vw' : Nat → Int64) (vo' : Int64) (vr' : Int32), k + m = 6 → wxX2_notes_L63 post postx K163 dk wg op re kf ff sf pf gf bn p1 p2 (m + 1) (nI k) uk' uw' uo' ur' vk' vw' vo' vr' := by
  intro m
  induction m with
  | zero =>
    intro k uk' uw' uo' ur' vk' vw' vo' vr' hkm
    refine ⟨fun _ => ?_, fun q => absurd (by rw [show k = 6 by omega]; decide) q⟩
    exact hK163 _ _ _ _ _ _ _ _ _
  | succ m ih =>
    intro k uk' uw' uo' ur' vk' vw' vo' vr' hkm
    have hk : IN (nI k) 6 := ⟨k, by omega, rfl⟩
    refine ⟨fun _ => ?_, fun _ => ?_⟩
    · exact hK163 _ _ _ _ _ _ _ _ _
    · refine ⟨7, sxX2_notes_L72 a0 hp (fun i4 uk' uw' uo' ur' vk' vw' vo' vr' => ?_) 6 0 _ _ _ _ _ _ _ _ rfl⟩
      rw [← nI_succ]
      exact ih (k + 1) _ _ _ _ _ _ _ _ (by omega)
theorem sxX2_notes {post : Int32 → (Nat → Int64) × (Nat → Int64) × Int64 × Int32 × (Nat → Int64) × (Nat → Int64) × Int64 × Int32 → Prop} {postx : String → Prop} {dk : Nat → Int64} {wg : Nat → Int64} {op : Int64} {re : Int32} {uk : Nat → Int64} {uw : Nat → Int64} {uo : Int64} {ur : Int32} {vk : Nat → Int64} {vw : Nat → Int64} {vo : Int64} {vr : Int32} {kf : Nat → Int32} {ff : Nat → Int32} {sf : Nat → Int32} {pf : Nat → Int64} {gf : Nat → Int64} {bn : Int32} {p1 : Int32} {p2 : Int32} (a0 : BN bn) (hp : ∀ (r : Int32) (u : (Nat → Int64) × (Nat → Int64) × Int64 × Int32 × (Nat → Int64) × (Nat → Int64) × Int64 × Int32), post r u) (hx0 : postx "java/lang/IndexOutOfBoundsException") : wxX2_notes post postx dk wg op re uk uw uo ur vk vw vo vr kf ff sf pf gf bn p1 p2 := by
  unfold wxX2_notes
  refine sX2_isGuard (fun r_1 f0_r_1 f1_r_1 f2_r_1 => ?_)
  refine ⟨fun hc1 => ?_, fun hc1 => ?_⟩
  · exact hx0
  · refine sX0_holds a0 (fun r_2 f0_r_2 f1_r_2 f2_r_2 f3_r_2 => ?_)
    refine ⟨fun hc2 => ?_, fun hc2 => ?_⟩
    · refine sX1_knows a0 (fun r_3 f0_r_3 => ?_)
      refine ⟨fun hc3 => ?_, fun hc3 => ?_⟩
      · refine sX2_oneNoteDoes a0 (fun r_4 z_1 f0_z_1 => ?_)
        refine ⟨fun hc4 => ?_, fun hc4 => ?_⟩
        · refine ⟨7, sxX2_notes_L63 a0 hp (fun i3 uk' uw' uo' ur' vk' vw' vo' vr' => ?_) 6 0 _ _ _ _ _ _ _ _ rfl⟩
          exact hp _ _
        · exact hp _ _
      · exact hp _ _
    · exact hx0
theorem snX2_notes_L72 {post : Int32 → (Nat → Int64) × (Nat → Int64) × Int64 × Int32 × (Nat → Int64) × (Nat → Int64) × Int64 × Int32 → Prop} {K157 : Int32 → (Nat → Int64) → (Nat → Int64) → Int64 → Int32 → (Nat → Int64) → (Nat → Int64) → Int64 → Int32 → Prop} {dk : Nat → Int64} {wg : Nat → Int64} {op : Int64} {re : Int32} {kf : Nat → Int32} {ff : Nat → Int32} {sf : Nat → Int32} {pf : Nat → Int64} {gf : Nat → Int64} {bn : Int32} {p1 : Int32} {p2 : Int32} {i3 : Int32} (a0 : BN bn) (hp : ∀ (r : Int32) (u : (Nat → Int64) × (Nat → Int64) × Int64 × Int32 × (Nat → Int64) × (Nat → Int64) × Int64 × Int32), post r u) (hK157 : ∀ (i4 : Int32) (uk' : Nat → Int64) (uw' : Nat → Int64) (uo' : Int64) (ur' : Int32) (vk' : Nat → Int64) (vw' : Nat → Int64) (vo' : Int64) (vr' : Int32), K157 i4 uk' uw' uo' ur' vk' vw' vo' vr') : ∀ (m k : Nat) (uk' : Nat → Int64) (uw' : Nat → Int64) (uo' : Int64) (ur' : Int32) (vk' : Nat → Int64) (vw' : Nat → Int64) (vo' : Int64) (vr' : Int32), k + m = 6 → wnX2_notes_L72 post K157 dk wg op re kf ff sf pf gf bn p1 p2 i3 (m + 1) (nI k) uk' uw' uo' ur' vk' vw' vo' vr' := by
  intro m
  induction m with
  | zero =>
    intro k uk' uw' uo' ur' vk' vw' vo' vr' hkm
    refine ⟨fun _ => ?_, fun q => absurd (by rw [show k = 6 by omega]; decide) q⟩
    exact hK157 _ _ _ _ _ _ _ _ _
  | succ m ih =>
    intro k uk' uw' uo' ur' vk' vw' vo' vr' hkm
    have hk : IN (nI k) 6 := ⟨k, by omega, rfl⟩
    refine ⟨fun _ => ?_, fun _ => ?_⟩
    · exact hK157 _ _ _ _ _ _ _ _ _
    · refine ⟨fun hc1 => ?_, fun hc1 => ?_⟩
      · refine sX1_copyFrom (fun z_2 => ?_)
        refine sX1_passOn (fun r_6 dk_2 f0_dk_2 => ?_)
        refine ⟨fun hc2 => ?_, fun hc2 => ?_⟩
        · refine sX0_hangingOn a0 (fun r_7 => ?_)
          refine sX1_weigh a0 (fun wg_2 => ?_)
          refine sX2_oneNoteDoes a0 (fun r_9 z_3 f0_z_3 => ?_)
          refine ⟨fun hc3 => ?_, fun hc3 => ?_⟩
          · rw [← nI_succ]
            exact ih (k + 1) _ _ _ _ _ _ _ _ (by omega)
          · exact hp _ _
        · rw [← nI_succ]
          exact ih (k + 1) _ _ _ _ _ _ _ _ (by omega)
      · rw [← nI_succ]
        exact ih (k + 1) _ _ _ _ _ _ _ _ (by omega)
theorem snX2_notes_L63 {post : Int32 → (Nat → Int64) × (Nat → Int64) × Int64 × Int32 × (Nat → Int64) × (Nat → Int64) × Int64 × Int32 → Prop} {K163 : Int32 → (Nat → Int64) → (Nat → Int64) → Int64 → Int32 → (Nat → Int64) → (Nat → Int64) → Int64 → Int32 → Prop} {dk : Nat → Int64} {wg : Nat → Int64} {op : Int64} {re : Int32} {kf : Nat → Int32} {ff : Nat → Int32} {sf : Nat → Int32} {pf : Nat → Int64} {gf : Nat → Int64} {bn : Int32} {p1 : Int32} {p2 : Int32} (a0 : BN bn) (hp : ∀ (r : Int32) (u : (Nat → Int64) × (Nat → Int64) × Int64 × Int32 × (Nat → Int64) × (Nat → Int64) × Int64 × Int32), post r u) (hK163 : ∀ (i3 : Int32) (uk' : Nat → Int64) (uw' : Nat → Int64) (uo' : Int64) (ur' : Int32) (vk' : Nat → Int64) (vw' : Nat → Int64) (vo' : Int64) (vr' : Int32), K163 i3 uk' uw' uo' ur' vk' vw' vo' vr') : ∀ (m k : Nat) (uk' : Nat → Int64) (uw' : Nat → Int64) (uo' : Int64) (ur' : Int32) (vk' : Nat → Int64) (vw' : Nat → Int64) (vo' : Int64) (vr' : Int32), k + m = 6 → wnX2_notes_L63 post K163 dk wg op re kf ff sf pf gf bn p1 p2 (m + 1) (nI k) uk' uw' uo' ur' vk' vw' vo' vr' := by
  intro m
  induction m with
  | zero =>
    intro k uk' uw' uo' ur' vk' vw' vo' vr' hkm
    refine ⟨fun _ => ?_, fun q => absurd (by rw [show k = 6 by omega]; decide) q⟩
    exact hK163 _ _ _ _ _ _ _ _ _
  | succ m ih =>
    intro k uk' uw' uo' ur' vk' vw' vo' vr' hkm
    have hk : IN (nI k) 6 := ⟨k, by omega, rfl⟩
    refine ⟨fun _ => ?_, fun _ => ?_⟩
    · exact hK163 _ _ _ _ _ _ _ _ _
    · refine ⟨7, snX2_notes_L72 a0 hp (fun i4 uk' uw' uo' ur' vk' vw' vo' vr' => ?_) 6 0 _ _ _ _ _ _ _ _ rfl⟩
      rw [← nI_succ]
      exact ih (k + 1) _ _ _ _ _ _ _ _ (by omega)
theorem snX2_notes {post : Int32 → (Nat → Int64) × (Nat → Int64) × Int64 × Int32 × (Nat → Int64) × (Nat → Int64) × Int64 × Int32 → Prop} {dk : Nat → Int64} {wg : Nat → Int64} {op : Int64} {re : Int32} {uk : Nat → Int64} {uw : Nat → Int64} {uo : Int64} {ur : Int32} {vk : Nat → Int64} {vw : Nat → Int64} {vo : Int64} {vr : Int32} {kf : Nat → Int32} {ff : Nat → Int32} {sf : Nat → Int32} {pf : Nat → Int64} {gf : Nat → Int64} {bn : Int32} {p1 : Int32} {p2 : Int32} (a0 : BN bn) (a1 : IN p1 6) (a2 : INB p2 bn) (hp : ∀ (r : Int32) (u : (Nat → Int64) × (Nat → Int64) × Int64 × Int32 × (Nat → Int64) × (Nat → Int64) × Int64 × Int32), post r u) : wnX2_notes post dk wg op re uk uw uo ur vk vw vo vr kf ff sf pf gf bn p1 p2 := by
  unfold wnX2_notes
  refine sX2_isGuard (fun r_1 f0_r_1 f1_r_1 f2_r_1 => ?_)
  refine ⟨fun hc1 => ?_, fun hc1 => ?_⟩
  · exact absurd a1 (f2_r_1 hc1)
  · refine sX0_holds a0 (fun r_2 f0_r_2 f1_r_2 f2_r_2 f3_r_2 => ?_)
    refine ⟨fun hc2 => ?_, fun hc2 => ?_⟩
    · refine sX1_knows a0 (fun r_3 f0_r_3 => ?_)
      refine ⟨fun hc3 => ?_, fun hc3 => ?_⟩
      · refine sX2_oneNoteDoes a0 (fun r_4 z_1 f0_z_1 => ?_)
        refine ⟨fun hc4 => ?_, fun hc4 => ?_⟩
        · refine ⟨7, snX2_notes_L63 a0 hp (fun i3 uk' uw' uo' ur' vk' vw' vo' vr' => ?_) 6 0 _ _ _ _ _ _ _ _ rfl⟩
          exact hp _ _
        · exact hp _ _
      · exact hp _ _
    · exact absurd a2 (f3_r_2 hc2)
theorem sxX2_rounds_L51 {post : Int32 → (Nat → Int64) × (Nat → Int64) × Int64 × Int32 → Prop} {postx : String → Prop} {K133 : Int32 → (Nat → Int64) → Int64 → Prop} {kf : Nat → Int32} {ff : Nat → Int32} {sf : Nat → Int32} {pf : Nat → Int64} {bn : Int32} {p1 : Int32} {p2 : Int32} {dk_1 : Nat → Int64} {re_1 : Int32} (a0 : BN bn) (hp : ∀ (r : Int32) (u : (Nat → Int64) × (Nat → Int64) × Int64 × Int32), post r u) (hK133 : ∀ (i3 : Int32) (uw' : Nat → Int64) (uo' : Int64), K133 i3 uw' uo') : ∀ (m k : Nat) (uw' : Nat → Int64) (uo' : Int64), k + m = 64 → wxX2_rounds_L51 post postx K133 kf ff sf pf bn p1 p2 dk_1 re_1 (m + 1) (nI k) uw' uo' := by
  intro m
  induction m with
  | zero =>
    intro k uw' uo' hkm
    refine ⟨fun _ => ?_, fun q => absurd (by rw [show k = 64 by omega]; decide) q⟩
    exact hK133 _ _ _
  | succ m ih =>
    intro k uw' uo' hkm
    have hk : IN (nI k) 64 := ⟨k, by omega, rfl⟩
    refine ⟨fun _ => ?_, fun _ => ?_⟩
    · exact hK133 _ _ _
    · refine sX1_knowersOf a0 (fun r_4 => ?_)
      refine ⟨fun hc1 => ?_, fun hc1 => ?_⟩
      · refine sX1_answeringAlike a0 (fun r_5 => ?_)
        refine sX1_keepOnly (fun op_2 => ?_)
        refine ⟨fun hc2 => ?_, fun hc2 => ?_⟩
        · refine sX0_partsOf a0 (fun r_7 => ?_)
          refine sX1_weigh a0 (fun wg_2 => ?_)
          rw [← nI_succ]
          exact ih (k + 1) _ _ (by omega)
        · exact hp _ _
      · exact hp _ _
theorem sxX2_rounds {post : Int32 → (Nat → Int64) × (Nat → Int64) × Int64 × Int32 → Prop} {postx : String → Prop} {dk : Nat → Int64} {wg : Nat → Int64} {op : Int64} {re : Int32} {uk : Nat → Int64} {uw : Nat → Int64} {uo : Int64} {ur : Int32} {kf : Nat → Int32} {ff : Nat → Int32} {sf : Nat → Int32} {pf : Nat → Int64} {bn : Int32} {p1 : Int32} {p2 : Int32} (a0 : BN bn) (hp : ∀ (r : Int32) (u : (Nat → Int64) × (Nat → Int64) × Int64 × Int32), post r u) (hx0 : postx "java/lang/IllegalArgumentException") (hx1 : postx "java/lang/IndexOutOfBoundsException") : wxX2_rounds post postx dk wg op re uk uw uo ur kf ff sf pf bn p1 p2 := by
  unfold wxX2_rounds
  refine sX0_holds a0 (fun r_1 f0_r_1 f1_r_1 f2_r_1 f3_r_1 => ?_)
  refine ⟨fun hc1 => ?_, fun hc1 => ?_⟩
  · refine sX2_isSetOfGuards (fun r_2 f0_r_2 f1_r_2 f2_r_2 => ?_)
    refine ⟨fun hc2 => ?_, fun hc2 => ?_⟩
    · refine sX1_copyFrom (fun z_1 => ?_)
      refine ⟨65, sxX2_rounds_L51 a0 hp (fun i3 uw' uo' => ?_) 64 0 _ _ rfl⟩
      exact hp _ _
    · exact hx0
  · exact hx1
theorem snX2_rounds_L51 {post : Int32 → (Nat → Int64) × (Nat → Int64) × Int64 × Int32 → Prop} {K133 : Int32 → (Nat → Int64) → Int64 → Prop} {kf : Nat → Int32} {ff : Nat → Int32} {sf : Nat → Int32} {pf : Nat → Int64} {bn : Int32} {p1 : Int32} {p2 : Int32} {dk_1 : Nat → Int64} {re_1 : Int32} (a0 : BN bn) (hp : ∀ (r : Int32) (u : (Nat → Int64) × (Nat → Int64) × Int64 × Int32), post r u) (hK133 : ∀ (i3 : Int32) (uw' : Nat → Int64) (uo' : Int64), K133 i3 uw' uo') : ∀ (m k : Nat) (uw' : Nat → Int64) (uo' : Int64), k + m = 64 → wnX2_rounds_L51 post K133 kf ff sf pf bn p1 p2 dk_1 re_1 (m + 1) (nI k) uw' uo' := by
  intro m
  induction m with
  | zero =>
    intro k uw' uo' hkm
    refine ⟨fun _ => ?_, fun q => absurd (by rw [show k = 64 by omega]; decide) q⟩
    exact hK133 _ _ _
  | succ m ih =>
    intro k uw' uo' hkm
    have hk : IN (nI k) 64 := ⟨k, by omega, rfl⟩
    refine ⟨fun _ => ?_, fun _ => ?_⟩
    · exact hK133 _ _ _
    · refine sX1_knowersOf a0 (fun r_4 => ?_)
      refine ⟨fun hc1 => ?_, fun hc1 => ?_⟩
      · refine sX1_answeringAlike a0 (fun r_5 => ?_)
        refine sX1_keepOnly (fun op_2 => ?_)
        refine ⟨fun hc2 => ?_, fun hc2 => ?_⟩
        · refine sX0_partsOf a0 (fun r_7 => ?_)
          refine sX1_weigh a0 (fun wg_2 => ?_)
          rw [← nI_succ]
          exact ih (k + 1) _ _ (by omega)
        · exact hp _ _
      · exact hp _ _
theorem snX2_rounds {post : Int32 → (Nat → Int64) × (Nat → Int64) × Int64 × Int32 → Prop} {dk : Nat → Int64} {wg : Nat → Int64} {op : Int64} {re : Int32} {uk : Nat → Int64} {uw : Nat → Int64} {uo : Int64} {ur : Int32} {kf : Nat → Int32} {ff : Nat → Int32} {sf : Nat → Int32} {pf : Nat → Int64} {bn : Int32} {p1 : Int32} {p2 : Int32} (a0 : BN bn) (a1 : SETG p1) (a2 : INB p2 bn) (hp : ∀ (r : Int32) (u : (Nat → Int64) × (Nat → Int64) × Int64 × Int32), post r u) : wnX2_rounds post dk wg op re uk uw uo ur kf ff sf pf bn p1 p2 := by
  unfold wnX2_rounds
  refine sX0_holds a0 (fun r_1 f0_r_1 f1_r_1 f2_r_1 f3_r_1 => ?_)
  refine ⟨fun hc1 => ?_, fun hc1 => ?_⟩
  · refine sX2_isSetOfGuards (fun r_2 f0_r_2 f1_r_2 f2_r_2 => ?_)
    refine ⟨fun hc2 => ?_, fun hc2 => ?_⟩
    · refine sX1_copyFrom (fun z_1 => ?_)
      refine ⟨65, snX2_rounds_L51 a0 hp (fun i3 uw' uo' => ?_) 64 0 _ _ rfl⟩
      exact hp _ _
    · exact absurd a1 (f2_r_2 hc2)
  · exact absurd a2 (f3_r_1 hc1)
theorem sxX2_wouldTell {post : Int32 → (Nat → Int64) × (Nat → Int64) × Int64 × Int32 → Prop} {postx : String → Prop} {dk : Nat → Int64} {wg : Nat → Int64} {op : Int64} {re : Int32} {uk : Nat → Int64} {uw : Nat → Int64} {uo : Int64} {ur : Int32} {kf : Nat → Int32} {ff : Nat → Int32} {sf : Nat → Int32} {bn : Int32} {p1 : Int32} (a0 : BN bn) (hp : ∀ (r : Int32) (u : (Nat → Int64) × (Nat → Int64) × Int64 × Int32), post r u) (hx0 : postx "java/lang/IndexOutOfBoundsException") : wxX2_wouldTell post postx dk wg op re uk uw uo ur kf ff sf bn p1 := by
  unfold wxX2_wouldTell
  refine sX0_holds a0 (fun r_1 f0_r_1 f1_r_1 f2_r_1 f3_r_1 => ?_)
  refine ⟨fun hc1 => ?_, fun hc1 => ?_⟩
  · refine sX1_isTrueInReal a0 (fun r_2 f0_r_2 => ?_)
    refine ⟨fun hc2 => ?_, fun hc2 => ?_⟩
    · refine sX1_copyFrom (fun z_1 => ?_)
      refine sX1_worldsOf a0 (fun r_4 => ?_)
      refine sX1_keepOnly (fun op_2 => ?_)
      refine sX0_everySentence a0 (fun r_6 => ?_)
      refine sX1_weigh a0 (fun wg_2 => ?_)
      refine sX1_countTrueInReal a0 (fun r_8 f0_r_8 => ?_)
      exact hp _ _
    · exact hp _ _
  · exact hx0
theorem sxX2_bestNote_L37 {post : Int32 → (Nat → Int64) × (Nat → Int64) × Int64 × Int32 → Prop} {postx : String → Prop} {K142 : Int32 → Int32 → Int32 → (Nat → Int64) → (Nat → Int64) → Int64 → Int32 → Prop} {dk : Nat → Int64} {wg : Nat → Int64} {op : Int64} {re : Int32} {kf : Nat → Int32} {ff : Nat → Int32} {sf : Nat → Int32} {pf : Nat → Int64} {bn : Int32} {p1 : Int32} {p2 : Int32} (a0 : BN bn) (hp : ∀ (r : Int32) (u : (Nat → Int64) × (Nat → Int64) × Int64 × Int32), post r u) (hK142 : ∀ (i3 : Int32) (i4 : Int32) (i5 : Int32) (uk' : Nat → Int64) (uw' : Nat → Int64) (uo' : Int64) (ur' : Int32), K142 i3 i4 i5 uk' uw' uo' ur') : ∀ (m k : Nat) (i3 : Int32) (i4 : Int32) (uk' : Nat → Int64) (uw' : Nat → Int64) (uo' : Int64) (ur' : Int32), k + m = 6 → wxX2_bestNote_L37 post postx K142 dk wg op re kf ff sf pf bn p1 p2 (m + 1) i3 i4 (nI k) uk' uw' uo' ur' := by
  intro m
  induction m with
  | zero =>
    intro k i3 i4 uk' uw' uo' ur' hkm
    refine ⟨fun _ => ?_, fun q => absurd (by rw [show k = 6 by omega]; decide) q⟩
    exact hK142 _ _ _ _ _ _ _
  | succ m ih =>
    intro k i3 i4 uk' uw' uo' ur' hkm
    have hk : IN (nI k) 6 := ⟨k, by omega, rfl⟩
    refine ⟨fun _ => ?_, fun _ => ?_⟩
    · exact hK142 _ _ _ _ _ _ _
    · refine ⟨fun hc1 => ?_, fun hc1 => ?_⟩
      · refine sX1_copyFrom (fun z_1 => ?_)
        refine sX1_passOn (fun r_4 dk_2 f0_dk_2 => ?_)
        refine sX0_partsOf a0 (fun r_5 => ?_)
        refine sX1_weigh a0 (fun wg_2 => ?_)
        refine sX1_cell (fun r_7 => ?_)
        refine sJ13_bitCount_95d88 (fun r_8 => ?_)
        refine sX1_knows a0 (fun r_9 f0_r_9 => ?_)
        refine ⟨fun hc2 => ?_, fun hc2 => ?_⟩
        · rw [← nI_succ]
          exact ih (k + 1) _ _ _ _ _ _ (by omega)
        · refine ⟨fun hc3 => ?_, fun hc3 => ?_⟩
          · rw [← nI_succ]
            exact ih (k + 1) _ _ _ _ _ _ (by omega)
          · rw [← nI_succ]
            exact ih (k + 1) _ _ _ _ _ _ (by omega)
      · rw [← nI_succ]
        exact ih (k + 1) _ _ _ _ _ _ (by omega)
theorem sxX2_bestNote {post : Int32 → (Nat → Int64) × (Nat → Int64) × Int64 × Int32 → Prop} {postx : String → Prop} {dk : Nat → Int64} {wg : Nat → Int64} {op : Int64} {re : Int32} {uk : Nat → Int64} {uw : Nat → Int64} {uo : Int64} {ur : Int32} {kf : Nat → Int32} {ff : Nat → Int32} {sf : Nat → Int32} {pf : Nat → Int64} {bn : Int32} {p1 : Int32} {p2 : Int32} (a0 : BN bn) (hp : ∀ (r : Int32) (u : (Nat → Int64) × (Nat → Int64) × Int64 × Int32), post r u) (hx0 : postx "java/lang/IndexOutOfBoundsException") : wxX2_bestNote post postx dk wg op re uk uw uo ur kf ff sf pf bn p1 p2 := by
  unfold wxX2_bestNote
  refine sX2_isGuard (fun r_1 f0_r_1 f1_r_1 f2_r_1 => ?_)
  refine ⟨fun hc1 => ?_, fun hc1 => ?_⟩
  · exact hx0
  · refine sX0_holds a0 (fun r_2 f0_r_2 f1_r_2 f2_r_2 f3_r_2 => ?_)
    refine ⟨fun hc2 => ?_, fun hc2 => ?_⟩
    · refine ⟨7, sxX2_bestNote_L37 a0 hp (fun i3 i4 i5 uk' uw' uo' ur' => ?_) 6 0 _ _ _ _ _ _ rfl⟩
      exact hp _ _
    · exact hx0
theorem sX2_digestOfSentence_L16 {post : Int64 → Prop} {K46 : Int64 → Int32 → Prop} {dk : Nat → Int64} {wg : Nat → Int64} {op : Int64} {re : Int32} {kf : Nat → Int32} {ff : Nat → Int32} {sf : Nat → Int32} {df : Nat → Int32} {bn : Int32} {p2 : Int32} (a0 : BN bn) (a1 : INB p2 bn) (hp : ∀ (r : Int64), post r) (hK46 : ∀ (i4 : Int64) (i6 : Int32), K46 i4 i6) : ∀ (m k : Nat) (i4 : Int64), k + m = 10 → wX2_digestOfSentence_L16 post K46 dk wg op re kf ff sf df bn p2 (m + 1) i4 (nI k) := by
  intro m
  induction m with
  | zero =>
    intro k i4 hkm
    refine ⟨fun _ => ?_, fun q => absurd (by rw [show k = 10 by omega]; decide) q⟩
    exact hK46 _ _
  | succ m ih =>
    intro k i4 hkm
    have hk : IN (nI k) 10 := ⟨k, by omega, rfl⟩
    refine ⟨fun _ => ?_, fun _ => ?_⟩
    · exact hK46 _ _
    · refine snX2_of a0 a1 hk (fun r_2 => ?_)
      rw [← nI_succ]
      exact ih (k + 1) _ (by omega)
theorem sX2_digestOfSentence {post : Int64 → Prop} {dk : Nat → Int64} {wg : Nat → Int64} {op : Int64} {re : Int32} {kf : Nat → Int32} {ff : Nat → Int32} {sf : Nat → Int32} {df : Nat → Int32} {bn : Int32} {p1 : Int64} {p2 : Int32} (a0 : BN bn) (a1 : INB p2 bn) (hp : ∀ (r : Int64), post r) : wX2_digestOfSentence post dk wg op re kf ff sf df bn p1 p2 := by
  unfold wX2_digestOfSentence
  refine snX2_truth a0 a1 (fun r_1 => ?_)
  refine ⟨11, sX2_digestOfSentence_L16 a0 a1 hp (fun i4 i6 => ?_) 10 0 _ rfl⟩
  refine snX2_depth a0 setg63 a1 (fun r_3 => ?_)
  exact hp _
theorem sX2_digest_L6 {post : Int64 → (Nat → Int64) × (Nat → Int64) × Int64 × Int32 × (Nat → Int64) × (Nat → Int64) × Int64 × Int32 → Prop} {K31 : Int64 → Int32 → Prop} {tA : Int32} {wP : Int32} {nT : Int32} {aK : Int32} {lK : Int32} {sW : Int32} {rF : Int32} {dk : Nat → Int64} {wg : Nat → Int64} {op : Int64} {re : Int32} {bn : Int32} (a0 : BN bn) (hp : ∀ (r : Int64) (u : (Nat → Int64) × (Nat → Int64) × Int64 × Int32 × (Nat → Int64) × (Nat → Int64) × Int64 × Int32), post r u) (hK31 : ∀ (i1 : Int64) (i3 : Int32), K31 i1 i3) : ∀ (m k : Nat) (i1 : Int64), k + m = 13 → wX2_digest_L6 post K31 tA wP nT aK lK sW rF dk wg op re bn (m + 1) i1 (nI k) := by
  intro m
  induction m with
  | zero =>
    intro k i1 hkm
    refine ⟨fun _ => ?_, fun q => absurd (by rw [show k = 13 by omega]; decide) q⟩
    exact hK31 _ _
  | succ m ih =>
    intro k i1 hkm
    have hk : IN (nI k) 13 := ⟨k, by omega, rfl⟩
    refine ⟨fun _ => ?_, fun _ => ?_⟩
    · exact hK31 _ _
    · refine snX2_night a0 hk (fun r_1 => ?_)
      rw [← nI_succ]
      exact ih (k + 1) _ (by omega)
theorem sX2_digest_L53 {post : Int64 → (Nat → Int64) × (Nat → Int64) × Int64 × Int32 × (Nat → Int64) × (Nat → Int64) × Int64 × Int32 → Prop} {K80 : Int64 → Int32 → Prop} {dk : Nat → Int64} {wg : Nat → Int64} {op : Int64} {re : Int32} {bn : Int32} {i3 : Int32} (a0 : BN bn) (a1 : IN i3 6) (hp : ∀ (r : Int64) (u : (Nat → Int64) × (Nat → Int64) × Int64 × Int32 × (Nat → Int64) × (Nat → Int64) × Int64 × Int32), post r u) (hK80 : ∀ (i1 : Int64) (i4 : Int32), K80 i1 i4) : ∀ (m k : Nat) (i1 : Int64), k + m = 5 → wX2_digest_L53 post K80 dk wg op re bn i3 (m + 1) i1 (nI k) := by
  intro m
  induction m with
  | zero =>
    intro k i1 hkm
    refine ⟨fun _ => ?_, fun q => absurd (by rw [show k = 5 by omega]; decide) q⟩
    exact hK80 _ _
  | succ m ih =>
    intro k i1 hkm
    have hk : IN (nI k) 5 := ⟨k, by omega, rfl⟩
    refine ⟨fun _ => ?_, fun _ => ?_⟩
    · exact hK80 _ _
    · refine snX2_ofGuard a0 a1 hk (fun r_3 => ?_)
      rw [← nI_succ]
      exact ih (k + 1) _ (by omega)
theorem sX2_digest_L44 {post : Int64 → (Nat → Int64) × (Nat → Int64) × Int64 × Int32 × (Nat → Int64) × (Nat → Int64) × Int64 × Int32 → Prop} {K105 : Int64 → Int32 → Prop} {dk : Nat → Int64} {wg : Nat → Int64} {op : Int64} {re : Int32} {bn : Int32} (a0 : BN bn) (a1 : IN re 64) (hp : ∀ (r : Int64) (u : (Nat → Int64) × (Nat → Int64) × Int64 × Int32 × (Nat → Int64) × (Nat → Int64) × Int64 × Int32), post r u) (hK105 : ∀ (i1 : Int64) (i3 : Int32), K105 i1 i3) : ∀ (m k : Nat) (i1 : Int64), k + m = 6 → wX2_digest_L44 post K105 dk wg op re bn (m + 1) i1 (nI k) := by
  intro m
  induction m with
  | zero =>
    intro k i1 hkm
    refine ⟨fun _ => ?_, fun q => absurd (by rw [show k = 6 by omega]; decide) q⟩
    exact hK105 _ _
  | succ m ih =>
    intro k i1 hkm
    have hk : IN (nI k) 6 := ⟨k, by omega, rfl⟩
    refine ⟨fun _ => ?_, fun _ => ?_⟩
    · exact hK105 _ _
    · refine ⟨6, sX2_digest_L53 a0 hk hp (fun i1 i4 => ?_) 5 0 _ rfl⟩
      refine snX2_alike hk a1 (fun r_4 => ?_)
      rw [← nI_succ]
      exact ih (k + 1) _ (by omega)
theorem sX2_digest_L107 {post : Int64 → (Nat → Int64) × (Nat → Int64) × Int64 × Int32 × (Nat → Int64) × (Nat → Int64) × Int64 × Int32 → Prop} {K131 : Int64 → Int32 → Prop} {dk wg : Nat → Int64} {op : Int64} {re : Int32} {kf ff sf df : Nat → Int32} {n : Nat} (hn : n ≤ 40) (hK : ∀ a b, K131 a b) : ∀ (m k : Nat) (i1 : Int64), k + m = n → wX2_digest_L107 post K131 dk wg op re kf ff sf df (nI n) (m + 1) i1 (nI k) := by
  intro m
  induction m with
  | zero =>
    intro k i1 h
    obtain rfl : k = n := by omega
    exact ⟨fun _ => hK _ _, fun q => absurd (Int32.le_refl _) q⟩
  | succ m ih =>
    intro k i1 h
    refine ⟨fun _ => hK _ _, fun hc => sX2_digestOfSentence ⟨n, hn, rfl⟩ ⟨nI_pos (by omega), hc⟩ (fun r => ?_)⟩
    rw [← nI_succ]
    exact ih (k + 1) _ (by omega)
theorem sX2_digest {post : Int64 → (Nat → Int64) × (Nat → Int64) × Int64 × Int32 × (Nat → Int64) × (Nat → Int64) × Int64 × Int32 → Prop} {tA wP nT aK lK sW rF : Int32} {dk wg : Nat → Int64} {op : Int64} {re : Int32} {uk uw : Nat → Int64} {uo : Int64} {ur : Int32} {vk vw : Nat → Int64} {vo : Int64} {vr : Int32} {kf ff sf df : Nat → Int32} {pf gf : Nat → Int64} {bn : Int32} (a0 : BN bn) (a1 : IN re 64) (hp : ∀ r u, post r u) : wX2_digest post tA wP nT aK lK sW rF dk wg op re uk uw uo ur vk vw vo vr kf ff sf df pf gf bn := by
  obtain ⟨n, hn, rfl⟩ := a0
  have hB : BN (nI n) := ⟨n, hn, rfl⟩
  have z6 : IN (0 : Int32) 6 := ⟨0, by decide, rfl⟩
  refine ⟨14, sX2_digest_L6 hB hp (fun i1 i3 => ⟨7, sX2_digest_L44 hB a1 hp (fun i1 i3 => ⟨n + 1, sX2_digest_L107 hn (fun i1 i3 => ?_) n 0 _ (Nat.zero_add _)⟩) 6 0 _ rfl⟩) 13 0 _ rfl⟩
  have hS : ∀ (x : Int64) (u : (Nat → Int64) × (Nat → Int64) × Int64 × Int32 × (Nat → Int64) × (Nat → Int64) × Int64 × Int32), wX2_isSound (fun r_9 : Int32 => ((r_9 = 0) → post ((x * (31 : Int64)) + (0 : Int64)) u) ∧ (¬ (r_9 = 0) → post ((x * (31 : Int64)) + (1 : Int64)) u)) dk wg op re kf ff sf (nI n) := fun x u => sX2_isSound hB (fun r _ => ⟨fun _ => hp _ _, fun _ => hp _ _⟩)
  refine ⟨fun _ => snX2_wit hB z6 (fun r hw => ⟨hw, fun x _ => hS _ _⟩), fun h0 => ?_⟩
  have h0n : 0 < n := Nat.pos_of_ne_zero (fun q => h0 (by rw [q]; exact Int32.le_refl _))
  have hb : INB (nI n - (1 : Int32)) (nI n) := by
    have e := nI_pred (n - 1)
    rw [show n - 1 + 1 = n by omega] at e
    rw [e]
    exact ⟨nI_pos (by omega), notLe (by omega) (by omega)⟩
  exact snX2_notes hB z6 hb (fun r11 z1 => snX2_rounds hB setg63 hb (fun r13 z2 => fun x _ => snX2_wit hB z6 (fun r hw => ⟨hw, fun x _ => hS _ _⟩)))
theorem sxL_begin {post : Int32 → (Nat → Int64) × (Nat → Int64) × Int64 × Int32 × Int64 → Prop} {dk : Nat → Int64} {wg : Nat → Int64} {op : Int64} {re : Int32} {kf : Nat → Int32} {ff : Nat → Int32} {sf : Nat → Int32} {bn : Int32} {on : Int64} {p1 : Int32} (a0 : BN bn) (a1 : IN re 64) (hp : ∀ (r : Int32) (u : (Nat → Int64) × (Nat → Int64) × Int64 × Int32 × Int64), IN u.2.2.2.1 64 → post r u) : wxL_begin post dk wg op re kf ff sf bn on p1 := by
  unfold wxL_begin
  refine sxX2_begin a0 (fun r_1 z_1 f0_z_1 => ?_) (⟨rfl, hp _ _ a1⟩)
  exact hp _ _ f0_z_1
theorem sxL_say {post : Int32 → (Nat → Int32) × (Nat → Int32) × (Nat → Int32) × (Nat → Int32) × (Nat → Int64) × (Nat → Int64) × Int32 × (Nat → Int64) × Int64 → Prop} {dk wg : Nat → Int64} {op : Int64} {kf ff sf df : Nat → Int32} {pf gf : Nat → Int64} {n : Nat} {on : Int64} {p1 p2 p3 : Int32} (hn : n ≤ 40) (h1 : wfS n p1 p2 p3 → n < 40 → ∀ df pf gf wg, post 0 (upd kf n p1, upd ff n p2, upd sf n p3, df, pf, gf, nI (n + 1), wg, (nI n).toInt64)) (h2 : ¬ wfS n p1 p2 p3 → post 1 (kf, ff, sf, df, pf, gf, nI n, wg, on)) (h3 : wfS n p1 p2 p3 → n = 40 → post 2 (kf, ff, sf, df, pf, gf, nI n, wg, on)) : wxL_say post dk wg op kf ff sf df pf gf (nI n) on p1 p2 p3 := by
  refine tX0_fits hn (fun r z h => ⟨fun c => ?_, fun c => Or.inl ⟨rfl, h2 (fun q => absurd c (h.mpr q))⟩⟩)
  have hw := h.mp c
  refine ⟨fun b => ⟨fun _ => ?_, fun q => absurd rfl q⟩, fun b => ⟨fun q => absurd q (by decide), fun _ => Or.inr ⟨rfl, h3 hw (Nat.le_antisymm hn (Nat.le_of_not_lt (fun q => b (nI_lt q (by decide)))))⟩⟩⟩
  have hlt : n < 40 := (nILt (by omega) (by decide)).mp b
  exact sX0_add hlt (fun df pf gf => sX2_setOf (fun r => sX1_weigh ⟨n + 1, hlt, rfl⟩ (fun wg => h1 hw hlt df pf gf wg)))
theorem sxL_look {post : Int32 → Int32 × (Nat → Int64) × (Nat → Int64) × Int64 → Prop} {lK : Int32} {dk : Nat → Int64} {wg : Nat → Int64} {op : Int64} {re : Int32} {kf : Nat → Int32} {ff : Nat → Int32} {sf : Nat → Int32} {bn : Int32} {on : Int64} {p1 : Int32} {p2 : Int32} (a0 : BN bn) (hp : ∀ (r : Int32) (u : Int32 × (Nat → Int64) × (Nat → Int64) × Int64), post r u) : wxL_look post lK dk wg op re kf ff sf bn on p1 p2 := by
  unfold wxL_look
  refine sxX2_look a0 (fun r_1 z_1 => ?_) (⟨rfl, hp _ _⟩)
  exact hp _ _
theorem sxL_aloud {post : Int32 → Int32 × Int64 × (Nat → Int64) × Int64 → Prop} {tA : Int32} {dk : Nat → Int64} {wg : Nat → Int64} {op : Int64} {re : Int32} {kf : Nat → Int32} {ff : Nat → Int32} {sf : Nat → Int32} {bn : Int32} {on : Int64} {p1 : Int32} (a0 : BN bn) (hp : ∀ (r : Int32) (u : Int32 × Int64 × (Nat → Int64) × Int64), post r u) : wxL_aloud post tA dk wg op re kf ff sf bn on p1 := by
  unfold wxL_aloud
  refine sxX2_aloud a0 (fun r_1 z_1 => ?_) (Or.inr (⟨rfl, hp _ _⟩)) (Or.inl ⟨rfl, hp _ _⟩)
  exact hp _ _
theorem sxL_whisper {post : Int32 → Int32 × (Nat → Int64) × (Nat → Int64) × Int64 → Prop} {wP : Int32} {dk : Nat → Int64} {wg : Nat → Int64} {op : Int64} {re : Int32} {kf : Nat → Int32} {ff : Nat → Int32} {sf : Nat → Int32} {bn : Int32} {on : Int64} {p1 : Int32} {p2 : Int32} (a0 : BN bn) (hp : ∀ (r : Int32) (u : Int32 × (Nat → Int64) × (Nat → Int64) × Int64), post r u) : wxL_whisper post wP dk wg op re kf ff sf bn on p1 p2 := by
  unfold wxL_whisper
  refine sxX2_whisper a0 (fun r_1 z_1 f0_z_1 => ?_) (⟨rfl, hp _ _⟩)
  refine ⟨fun hc1 => ?_, fun hc1 => ?_⟩
  · exact hp _ _
  · exact hp _ _
theorem sxL_note {post : Int32 → Int32 × (Nat → Int64) × (Nat → Int64) × Int64 → Prop} {nT : Int32} {dk : Nat → Int64} {wg : Nat → Int64} {op : Int64} {re : Int32} {kf : Nat → Int32} {ff : Nat → Int32} {sf : Nat → Int32} {bn : Int32} {on : Int64} {p1 : Int32} {p2 : Int32} (a0 : BN bn) (hp : ∀ (r : Int32) (u : Int32 × (Nat → Int64) × (Nat → Int64) × Int64), post r u) : wxL_note post nT dk wg op re kf ff sf bn on p1 p2 := by
  unfold wxL_note
  refine sxX2_note a0 (fun r_1 z_1 => ?_) (Or.inr (⟨rfl, hp _ _⟩)) (Or.inl ⟨rfl, hp _ _⟩)
  exact hp _ _
theorem sxL_ask {post : Int32 → Int32 × Int64 × (Nat → Int64) × Int64 → Prop} {aK : Int32} {dk : Nat → Int64} {wg : Nat → Int64} {op : Int64} {re : Int32} {kf : Nat → Int32} {ff : Nat → Int32} {sf : Nat → Int32} {bn : Int32} {on : Int64} {p1 : Int32} {p2 : Int32} (a0 : BN bn) (hp : ∀ (r : Int32) (u : Int32 × Int64 × (Nat → Int64) × Int64), post r u) : wxL_ask post aK dk wg op re kf ff sf bn on p1 p2 := by
  unfold wxL_ask
  refine sxX2_ask a0 (fun r_1 z_1 => ?_) (Or.inr (⟨rfl, hp _ _⟩)) (Or.inl ⟨rfl, hp _ _⟩)
  exact hp _ _
theorem sxL_flip {post : Int32 → Int32 × (Nat → Int64) × Int64 × Int32 × (Nat → Int64) × Int64 → Prop} {sW : Int32} {dk : Nat → Int64} {wg : Nat → Int64} {op : Int64} {re : Int32} {kf : Nat → Int32} {ff : Nat → Int32} {sf : Nat → Int32} {bn : Int32} {on : Int64} {p1 : Int32} (a0 : BN bn) (a1 : IN re 64) (hp : ∀ (r : Int32) (u : Int32 × (Nat → Int64) × Int64 × Int32 × (Nat → Int64) × Int64), IN u.2.2.2.1 64 → post r u) : wxL_flip post sW dk wg op re kf ff sf bn on p1 := by
  unfold wxL_flip
  refine sxX2_flip a0 a1 (fun r_1 z_1 f0_z_1 => ?_) (⟨rfl, hp _ _ a1⟩)
  exact hp _ _ f0_z_1
theorem sxL_isTrue {post : Int32 → Int64 → Prop} {wg : Nat → Int64} {bn : Int32} {on : Int64} {p1 : Int32} {p2 : Int32} (a0 : BN bn) (hp : ∀ (r : Int32) (u : Int64), post r u) : wxL_isTrue post wg bn on p1 p2 := by
  unfold wxL_isTrue
  refine sxX2_isTrue a0 (fun r_1 z_1 f0_z_1 => ?_) (⟨rfl, hp _ _⟩)
  refine ⟨fun hc1 => ?_, fun hc1 => ?_⟩
  · exact hp _ _
  · exact hp _ _
theorem sxL_truth {post : Int32 → Int64 → Prop} {wg : Nat → Int64} {bn : Int32} {on : Int64} {p1 : Int32} (a0 : BN bn) (hp : ∀ (r : Int32) (u : Int64), post r u) : wxL_truth post wg bn on p1 := by
  unfold wxL_truth
  refine sxX2_truth a0 (fun r_1 z_1 => ?_) (⟨rfl, hp _ _⟩)
  exact hp _ _
theorem sxL_of {post : Int32 → Int64 → Prop} {dk : Nat → Int64} {wg : Nat → Int64} {op : Int64} {re : Int32} {kf : Nat → Int32} {ff : Nat → Int32} {sf : Nat → Int32} {df : Nat → Int32} {bn : Int32} {on : Int64} {p1 : Int32} {p2 : Int32} (a0 : BN bn) (hp : ∀ (r : Int32) (u : Int64), post r u) : wxL_of post dk wg op re kf ff sf df bn on p1 p2 := by
  unfold wxL_of
  refine sxX2_of a0 (fun r_1 z_1 => ?_) (Or.inr (⟨rfl, hp _ _⟩)) (Or.inl ⟨rfl, hp _ _⟩)
  exact hp _ _
theorem sxL_alike {post : Int32 → Int64 → Prop} {dk : Nat → Int64} {op : Int64} {on : Int64} {p1 : Int32} {p2 : Int32} (hp : ∀ (r : Int32) (u : Int64), post r u) : wxL_alike post dk op on p1 p2 := by
  unfold wxL_alike
  refine sxX2_alike (fun r_1 z_1 => ?_) (⟨rfl, hp _ _⟩)
  exact hp _ _
theorem sxL_ofGuard {post : Int32 → Int64 → Prop} {dk : Nat → Int64} {wg : Nat → Int64} {op : Int64} {re : Int32} {bn : Int32} {on : Int64} {p1 : Int32} {p2 : Int32} (a0 : BN bn) (hp : ∀ (r : Int32) (u : Int64), post r u) : wxL_ofGuard post dk wg op re bn on p1 p2 := by
  unfold wxL_ofGuard
  refine sxX2_ofGuard a0 (fun r_1 z_1 => ?_) (Or.inr (⟨rfl, hp _ _⟩)) (Or.inl ⟨rfl, hp _ _⟩)
  exact hp _ _
theorem sxL_depth {post : Int32 → Int64 → Prop} {dk : Nat → Int64} {wg : Nat → Int64} {op : Int64} {re : Int32} {bn : Int32} {on : Int64} {p1 : Int32} {p2 : Int32} (a0 : BN bn) (hp : ∀ (r : Int32) (u : Int64), post r u) : wxL_depth post dk wg op re bn on p1 p2 := by
  unfold wxL_depth
  refine sxX2_depth a0 (fun r_1 z_1 => ?_) (Or.inr (⟨rfl, hp _ _⟩)) (Or.inl ⟨rfl, hp _ _⟩)
  exact hp _ _
theorem sxL_night {post : Int32 → Int64 → Prop} {tA : Int32} {wP : Int32} {nT : Int32} {aK : Int32} {lK : Int32} {sW : Int32} {rF : Int32} {dk : Nat → Int64} {wg : Nat → Int64} {op : Int64} {re : Int32} {bn : Int32} {on : Int64} {p1 : Int32} (a0 : BN bn) (hp : ∀ (r : Int32) (u : Int64), post r u) : wxL_night post tA wP nT aK lK sW rF dk wg op re bn on p1 := by
  unfold wxL_night
  refine sxX2_night a0 (fun r_1 z_1 => ?_) (⟨rfl, hp _ _⟩)
  exact hp _ _
theorem sxL_wit {post : Int32 → UInt64 → Prop} {dk : Nat → Int64} {wg : Nat → Int64} {op : Int64} {re : Int32} {bn : Int32} {od : UInt64} {p1 : Int32} (a0 : BN bn) (hp : ∀ (r : Int32) (u : UInt64), post r u) : wxL_wit post dk wg op re bn od p1 := by
  unfold wxL_wit
  refine sxX2_wit a0 (fun r_1 z_1 => ?_) (⟨rfl, hp _ _⟩)
  exact hp _ _
theorem sxL_notes {post : Int32 → (Nat → Int64) × (Nat → Int64) × Int64 × Int32 × (Nat → Int64) × (Nat → Int64) × Int64 × Int32 × Int64 → Prop} {dk : Nat → Int64} {wg : Nat → Int64} {op : Int64} {re : Int32} {uk : Nat → Int64} {uw : Nat → Int64} {uo : Int64} {ur : Int32} {vk : Nat → Int64} {vw : Nat → Int64} {vo : Int64} {vr : Int32} {kf : Nat → Int32} {ff : Nat → Int32} {sf : Nat → Int32} {pf : Nat → Int64} {gf : Nat → Int64} {bn : Int32} {on : Int64} {p1 : Int32} {p2 : Int32} (a0 : BN bn) (hp : ∀ (r : Int32) (u : (Nat → Int64) × (Nat → Int64) × Int64 × Int32 × (Nat → Int64) × (Nat → Int64) × Int64 × Int32 × Int64), post r u) : wxL_notes post dk wg op re uk uw uo ur vk vw vo vr kf ff sf pf gf bn on p1 p2 := by
  unfold wxL_notes
  refine sxX2_notes a0 (fun r_1 z_1 => ?_) (⟨rfl, hp _ _⟩)
  exact hp _ _
theorem sxL_rounds {post : Int32 → (Nat → Int64) × (Nat → Int64) × Int64 × Int32 × Int64 → Prop} {dk : Nat → Int64} {wg : Nat → Int64} {op : Int64} {re : Int32} {uk : Nat → Int64} {uw : Nat → Int64} {uo : Int64} {ur : Int32} {kf : Nat → Int32} {ff : Nat → Int32} {sf : Nat → Int32} {pf : Nat → Int64} {bn : Int32} {on : Int64} {p1 : Int32} {p2 : Int32} (a0 : BN bn) (hp : ∀ (r : Int32) (u : (Nat → Int64) × (Nat → Int64) × Int64 × Int32 × Int64), post r u) : wxL_rounds post dk wg op re uk uw uo ur kf ff sf pf bn on p1 p2 := by
  unfold wxL_rounds
  refine sxX2_rounds a0 (fun r_1 z_1 => ?_) (Or.inr (⟨rfl, hp _ _⟩)) (Or.inl ⟨rfl, hp _ _⟩)
  exact hp _ _
theorem sxL_wouldTell {post : Int32 → (Nat → Int64) × (Nat → Int64) × Int64 × Int32 × Int64 → Prop} {dk : Nat → Int64} {wg : Nat → Int64} {op : Int64} {re : Int32} {uk : Nat → Int64} {uw : Nat → Int64} {uo : Int64} {ur : Int32} {kf : Nat → Int32} {ff : Nat → Int32} {sf : Nat → Int32} {bn : Int32} {on : Int64} {p1 : Int32} (a0 : BN bn) (hp : ∀ (r : Int32) (u : (Nat → Int64) × (Nat → Int64) × Int64 × Int32 × Int64), post r u) : wxL_wouldTell post dk wg op re uk uw uo ur kf ff sf bn on p1 := by
  unfold wxL_wouldTell
  refine sxX2_wouldTell a0 (fun r_1 z_1 => ?_) (⟨rfl, hp _ _⟩)
  exact hp _ _
theorem sxL_bestNote {post : Int32 → (Nat → Int64) × (Nat → Int64) × Int64 × Int32 × Int64 → Prop} {dk : Nat → Int64} {wg : Nat → Int64} {op : Int64} {re : Int32} {uk : Nat → Int64} {uw : Nat → Int64} {uo : Int64} {ur : Int32} {kf : Nat → Int32} {ff : Nat → Int32} {sf : Nat → Int32} {pf : Nat → Int64} {bn : Int32} {on : Int64} {p1 : Int32} {p2 : Int32} (a0 : BN bn) (hp : ∀ (r : Int32) (u : (Nat → Int64) × (Nat → Int64) × Int64 × Int32 × Int64), post r u) : wxL_bestNote post dk wg op re uk uw uo ur kf ff sf pf bn on p1 p2 := by
  unfold wxL_bestNote
  refine sxX2_bestNote a0 (fun r_1 z_1 => ?_) (⟨rfl, hp _ _⟩)
  exact hp _ _
