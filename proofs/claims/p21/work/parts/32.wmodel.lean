theorem sX4_in {post : Int32 → Prop} {p1 p2 p3 : Int32} (hp : ∀ r, vZ r → (¬ r = 0 → ¬ p1 < p2 ∧ ¬ p3 < p1) → post r) : wX4_in post p1 p2 p3 := tX4_in (fun r z h => hp r z h.mp)
theorem sX4_has {post : Int32 → Prop} {p1 : Int32} {p2 : Int32} (hp : ∀ (r : Int32), vZ r → post r) : wX4_has post p1 p2 := by
  unfold wX4_has
  refine ⟨fun hc1 => ?_, fun hc1 => ?_⟩
  · exact hp _ (Or.inl rfl)
  · exact hp _ (Or.inr rfl)
theorem sX4_has_ {post : Int32 → Prop} {p1 : Int64} {p2 : Int32} (hp : ∀ (r : Int32), vZ r → post r) : wX4_has_ post p1 p2 := by
  unfold wX4_has_
  refine ⟨fun hc1 => ?_, fun hc1 => ?_⟩
  · exact hp _ (Or.inl rfl)
  · exact hp _ (Or.inr rfl)
theorem sX4_size_L4 {post : Int32 → Prop} {K21 : Int32 → Int32 → Prop} (hK : ∀ a b, K21 a b) : ∀ (n : Nat) (i1 i2 : Int32), i2.toInt < n → wX4_size_L4 post K21 (n + 1) i1 i2 := by
  have e0 : (0 : Int32).toInt = 0 := by decide
  have e2 : (2 : Int32).toInt = 2 := by decide
  intro n
  induction n with
  | zero =>
    intro i1 i2 h
    refine ⟨fun _ => hK _ _, fun c => absurd ?_ c⟩
    rw [Int32.le_iff_toInt_le, e0]
    omega
  | succ n ih =>
    intro i1 i2 h
    refine ⟨fun _ => hK _ _, fun c x _ => ih _ _ ?_⟩
    rw [Int32.le_iff_toInt_le, e0] at c
    have hb : i2.toInt < 2 ^ 31 := i2.toInt_lt
    rw [Int32.toInt_div, e2, Int.tdiv_eq_ediv_of_nonneg (by omega), Int.bmod_eq_of_le (by omega) (by omega)]
    omega
theorem sX4_size {post : Int32 → Prop} {p1 : Int32} (hp : ∀ r, post r) : wX4_size post p1 := ⟨p1.toInt.toNat + 2, sX4_size_L4 (fun _ _ => hp _) (p1.toInt.toNat + 1) _ _ (by omega)⟩
theorem sX4_size__L4 {post : Int32 → Prop} {K22 : Int32 → Int64 → Prop} (hK : ∀ a b, K22 a b) : ∀ (n : Nat) (i2 : Int32) (i3 : Int64), i3.toBitVec.toNat ≤ n → wX4_size__L4 post K22 (n + 1) i2 i3 := by
  intro n
  induction n with
  | zero =>
    intro i2 i3 h
    refine ⟨fun _ => hK _ _, fun c => absurd ((lg_cmp_eq _ _).mpr (bvEq ?_)) c⟩
    rw [show (0 : Int64).toBitVec.toNat = 0 from by decide]
    omega
  | succ n ih =>
    intro i2 i3 h
    refine ⟨fun _ => hK _ _, fun c => ih _ _ ?_⟩
    have := decLt (x := i3) (fun e => c ((lg_cmp_eq _ _).mpr e))
    omega
theorem sX4_size_ {post : Int32 → Prop} {p1 : Int64} (hp : ∀ r, post r) : wX4_size_ post p1 := ⟨p1.toBitVec.toNat + 1, sX4_size__L4 (fun _ _ => hp _) _ _ _ (Nat.le_refl _)⟩
theorem sX4_isGuard {post : Int32 → Prop} {p1 : Int32} (hp : ∀ r, vZ r → (¬ r = 0 → IN p1 6) → post r) : wX4_isGuard post p1 := tX4_isGuard (fun r z h => hp r z h.mp)
theorem sX4_isSet {post : Int32 → Prop} {p1 : Int32} (hp : ∀ r, vZ r → (¬ r = 0 → SETG p1) → post r) : wX4_isSet post p1 := tX4_isSet (fun r z h => hp r z h.mp)
theorem sX4_turned_L5 {post : Int64 → Prop} {K42 : Int64 → Int32 → Prop} {p1 : Int64} {p2 : Int32} (hp : ∀ (r : Int64), post r) (hK42 : ∀ (i3 : Int64) (i5 : Int32), K42 i3 i5) : ∀ (m k : Nat) (i3 : Int64), k + m = 64 → wX4_turned_L5 post K42 p1 p2 (m + 1) i3 (nI k) := by
  intro m
  induction m with
  | zero =>
    intro k i3 hkm
    refine ⟨fun _ => ?_, fun q => absurd (by rw [show k = 64 by omega]; decide) q⟩
    exact hK42 _ _
  | succ m ih =>
    intro k i3 hkm
    have hk : IN (nI k) 64 := ⟨k, by omega, rfl⟩
    refine ⟨fun _ => ?_, fun _ => ?_⟩
    · exact hK42 _ _
    · refine sX4_has_ (fun r_1 f0_r_1 => ?_)
      refine ⟨fun hc1 => ?_, fun hc1 => ?_⟩
      · rw [← nI_succ]
        exact ih (k + 1) _ (by omega)
      · intro x_1 ex_1
        rw [← nI_succ]
        exact ih (k + 1) _ (by omega)
theorem sX4_turned {post : Int64 → Prop} {p1 : Int64} {p2 : Int32} (hp : ∀ (r : Int64), post r) : wX4_turned post p1 p2 := by
  unfold wX4_turned
  refine ⟨65, sX4_turned_L5 hp (fun i3 i5 => ?_) 64 0 _ rfl⟩
  exact hp _
theorem sX4_part_L5 {post : Int64 → Prop} {K49 : Int64 → Int32 → Prop} {DD : Nat → Nat → Int32} {p1 : Int32} {p2 : Int32} (a0 : DOK DD) (a1 : IN p1 6) (a2 : IN p2 64) (hp : ∀ (r : Int64), post r) (hK49 : ∀ (i3 : Int64) (i5 : Int32), K49 i3 i5) : ∀ (m k : Nat) (i3 : Int64), k + m = 64 → wX4_part_L5 post K49 DD p1 p2 (m + 1) i3 (nI k) := by
  intro m
  induction m with
  | zero =>
    intro k i3 hkm
    refine ⟨fun _ => ?_, fun q => absurd (by rw [show k = 64 by omega]; decide) q⟩
    exact hK49 _ _
  | succ m ih =>
    intro k i3 hkm
    have hk : IN (nI k) 64 := ⟨k, by omega, rfl⟩
    refine ⟨fun _ => ?_, fun _ => ?_⟩
    · exact hK49 _ _
    · refine ⟨(IN.vp a1 (by decide)), ?_⟩
      refine ⟨(IN.vp hk (by decide)), ?_⟩
      refine ⟨(IN.vp a1 (by decide)), ?_⟩
      refine ⟨(IN.vp a2 (by decide)), ?_⟩
      refine ⟨fun hc1 => ?_, fun hc1 => ?_⟩
      · rw [← nI_succ]
        exact ih (k + 1) _ (by omega)
      · rw [← nI_succ]
        exact ih (k + 1) _ (by omega)
theorem sX4_part {post : Int64 → Prop} {DD : Nat → Nat → Int32} {p1 : Int32} {p2 : Int32} (a0 : DOK DD) (a1 : IN p1 6) (a2 : IN p2 64) (hp : ∀ (r : Int64), post r) : wX4_part post DD p1 p2 := by
  unfold wX4_part
  refine ⟨65, sX4_part_L5 a0 a1 a2 hp (fun i3 i5 => ?_) 64 0 _ rfl⟩
  exact hp _
theorem sX4_alikeNow {post : Int64 → Prop} {po : Int64} {DD : Nat → Nat → Int32} {p1 : Int32} {p2 : Int32} (a0 : DOK DD) (a1 : IN p1 6) (a2 : IN p2 64) (hp : ∀ (r : Int64), post r) : wX4_alikeNow post po DD p1 p2 := by
  unfold wX4_alikeNow
  refine sX4_has_ (fun r_1 f0_r_1 => ?_)
  refine ⟨fun hc1 => ?_, fun hc1 => ?_⟩
  · exact hp _
  · refine sX4_part a0 a1 a2 (fun r_2 => ?_)
    exact hp _
theorem sX4_known_D_L6 {post : Int64 → Prop} {K48 : Int64 → Int32 → Prop} {po : Int64} {DD : Nat → Nat → Int32} {g : Nat} {p2 : Int64} (a0 : DOK DD) (hp : ∀ (r : Int64), post r) (hK48 : ∀ (i4 : Int64) (i6 : Int32), K48 i4 i6) : ∀ (m k : Nat) (i4 : Int64), k + m = 64 → wX4_known_D_L6 post K48 po DD g p2 (m + 1) i4 (nI k) := by
  intro m
  induction m with
  | zero =>
    intro k i4 hkm
    refine ⟨fun _ => ?_, fun q => absurd (by rw [show k = 64 by omega]; decide) q⟩
    exact hK48 _ _
  | succ m ih =>
    intro k i4 hkm
    have hk : IN (nI k) 64 := ⟨k, by omega, rfl⟩
    refine ⟨fun _ => ?_, fun _ => ?_⟩
    · exact hK48 _ _
    · refine sX4_has_ (fun r_1 f0_r_1 => ?_)
      refine ⟨fun hc1 => ?_, fun hc1 => ?_⟩
      · rw [← nI_succ]
        exact ih (k + 1) _ (by omega)
      · refine ⟨(IN.vp hk (by decide)), ?_⟩
        intro x_1 ex_1
        rw [← nI_succ]
        exact ih (k + 1) _ (by omega)
theorem sX4_known_D_L54 {post : Int64 → Prop} {K100 : Int64 → Int32 → Prop} {po : Int64} {DD : Nat → Nat → Int32} {g : Nat} {i4 : Int64} (a0 : DOK DD) (hp : ∀ (r : Int64), post r) (hK100 : ∀ (i6' : Int64) (i8 : Int32), K100 i6' i8) : ∀ (m k : Nat) (i6' : Int64), k + m = 64 → wX4_known_D_L54 post K100 po DD g i4 (m + 1) i6' (nI k) := by
  intro m
  induction m with
  | zero =>
    intro k i6' hkm
    refine ⟨fun _ => ?_, fun q => absurd (by rw [show k = 64 by omega]; decide) q⟩
    exact hK100 _ _
  | succ m ih =>
    intro k i6' hkm
    have hk : IN (nI k) 64 := ⟨k, by omega, rfl⟩
    refine ⟨fun _ => ?_, fun _ => ?_⟩
    · exact hK100 _ _
    · refine sX4_has_ (fun r_2 f0_r_2 => ?_)
      refine ⟨fun hc1 => ?_, fun hc1 => ?_⟩
      · rw [← nI_succ]
        exact ih (k + 1) _ (by omega)
      · refine ⟨(IN.vp hk (by decide)), ?_⟩
        refine sX4_has_ (fun r_3 f0_r_3 => ?_)
        refine ⟨fun hc2 => ?_, fun hc2 => ?_⟩
        · rw [← nI_succ]
          exact ih (k + 1) _ (by omega)
        · rw [← nI_succ]
          exact ih (k + 1) _ (by omega)
theorem sX4_known_D {post : Int64 → Prop} {g : Nat} {po : Int64} {DD : Nat → Nat → Int32} {p2 : Int64} (a0 : DOK DD) (hp : ∀ (r : Int64), post r) : wX4_known_D post g po DD p2 := by
  unfold wX4_known_D
  refine ⟨65, sX4_known_D_L6 a0 hp (fun i4 i6 => ?_) 64 0 _ rfl⟩
  refine ⟨65, sX4_known_D_L54 a0 hp (fun i6' i8 => ?_) 64 0 _ rfl⟩
  exact hp _
theorem sX4_known_R_L6 {post : Int64 → Prop} {K48 : Int64 → Int32 → Prop} {po : Int64} {rwf : Nat → Int32} {p2 : Int64} (a0 : R64 rwf) (hp : ∀ (r : Int64), post r) (hK48 : ∀ (i4 : Int64) (i6 : Int32), K48 i4 i6) : ∀ (m k : Nat) (i4 : Int64), k + m = 64 → wX4_known_R_L6 post K48 po rwf p2 (m + 1) i4 (nI k) := by
  intro m
  induction m with
  | zero =>
    intro k i4 hkm
    refine ⟨fun _ => ?_, fun q => absurd (by rw [show k = 64 by omega]; decide) q⟩
    exact hK48 _ _
  | succ m ih =>
    intro k i4 hkm
    have hk : IN (nI k) 64 := ⟨k, by omega, rfl⟩
    refine ⟨fun _ => ?_, fun _ => ?_⟩
    · exact hK48 _ _
    · refine sX4_has_ (fun r_1 f0_r_1 => ?_)
      refine ⟨fun hc1 => ?_, fun hc1 => ?_⟩
      · rw [← nI_succ]
        exact ih (k + 1) _ (by omega)
      · refine ⟨(IN.vp hk (by decide)), ?_⟩
        intro x_1 ex_1
        rw [← nI_succ]
        exact ih (k + 1) _ (by omega)
theorem sX4_known_R_L54 {post : Int64 → Prop} {K100 : Int64 → Int32 → Prop} {po : Int64} {rwf : Nat → Int32} {i4 : Int64} (a0 : R64 rwf) (hp : ∀ (r : Int64), post r) (hK100 : ∀ (i6' : Int64) (i8 : Int32), K100 i6' i8) : ∀ (m k : Nat) (i6' : Int64), k + m = 64 → wX4_known_R_L54 post K100 po rwf i4 (m + 1) i6' (nI k) := by
  intro m
  induction m with
  | zero =>
    intro k i6' hkm
    refine ⟨fun _ => ?_, fun q => absurd (by rw [show k = 64 by omega]; decide) q⟩
    exact hK100 _ _
  | succ m ih =>
    intro k i6' hkm
    have hk : IN (nI k) 64 := ⟨k, by omega, rfl⟩
    refine ⟨fun _ => ?_, fun _ => ?_⟩
    · exact hK100 _ _
    · refine sX4_has_ (fun r_2 f0_r_2 => ?_)
      refine ⟨fun hc1 => ?_, fun hc1 => ?_⟩
      · rw [← nI_succ]
        exact ih (k + 1) _ (by omega)
      · refine ⟨(IN.vp hk (by decide)), ?_⟩
        refine sX4_has_ (fun r_3 f0_r_3 => ?_)
        refine ⟨fun hc2 => ?_, fun hc2 => ?_⟩
        · rw [← nI_succ]
          exact ih (k + 1) _ (by omega)
        · rw [← nI_succ]
          exact ih (k + 1) _ (by omega)
theorem sX4_known_R {post : Int64 → Prop} {po : Int64} {rwf : Nat → Int32} {p2 : Int64} (a0 : R64 rwf) (hp : ∀ (r : Int64), post r) : wX4_known_R post po rwf p2 := by
  unfold wX4_known_R
  refine ⟨65, sX4_known_R_L6 a0 hp (fun i4 i6 => ?_) 64 0 _ rfl⟩
  refine ⟨65, sX4_known_R_L54 a0 hp (fun i6' i8 => ?_) 64 0 _ rfl⟩
  exact hp _
def SPL (po p2 : Int64) (f : Nat → Int32) (i4 : Int64) (k : Nat) : Prop := ∀ w, w < k → mw po w = true → mw p2 w = false → mw i4 (f w).toNatClampNeg = true
theorem tX4_known_D_L6 {post : Int64 → Prop} {K48 : Int64 → Int32 → Prop} {po : Int64} {DD : Nat → Nat → Int32} {g : Nat} {p2 : Int64} (hD : R64 (DD g)) (hK : ∀ i4 i6, SPL po p2 (DD g) i4 64 → K48 i4 i6) : ∀ (m k : Nat) (i4 : Int64), k + m = 64 → SPL po p2 (DD g) i4 k → wX4_known_D_L6 post K48 po DD g p2 (m + 1) i4 (nI k) := by
  intro m
  induction m with
  | zero =>
    intro k i4 h hs
    obtain rfl : k = 64 := by omega
    exact ⟨fun _ => hK _ _ hs, fun q => absurd (by decide) q⟩
  | succ m ih =>
    intro k i4 h hs
    have hk : k < 64 := by omega
    refine ⟨fun c => absurd c (notLe (a := 64) hk (by decide)), fun _ => tX4_has_ hk (fun hm => ⟨fun _ => ?_, fun c => absurd rfl c⟩) (fun hm => ⟨fun c => absurd c (by decide), fun _ => ⟨nI_in hk (by decide), fun x hx => ?_⟩⟩)⟩
    · rw [← nI_succ]
      refine ih (k + 1) i4 (by omega) (fun w hw h1 h2 => ?_)
      by_cases e : w = k
      · subst e
        rw [mw_and, mw_not p2 hk, h1, h2] at hm
        exact absurd hm (by decide)
      · exact hs w (by omega) h1 h2
    · rw [← nI_succ]
      refine ih (k + 1) x (by omega) (fun w hw h1 h2 => ?_)
      rw [hx, mw_or]
      by_cases e : w = k
      · subst e
        obtain ⟨v, hv, ev⟩ := hD w hk
        rw [nI_clamp (by omega), ev, nI_clamp (by omega), mw_bit hv]
        simp
      · rw [hs w (by omega) h1 h2]
        rfl
theorem tX4_known_D_L54 {post : Int64 → Prop} {K100 : Int64 → Int32 → Prop} {po p2 : Int64} {DD : Nat → Nat → Int32} {g : Nat} {i4 : Int64} (hD : R64 (DD g)) (hs : SPL po p2 (DD g) i4 64) (hK : ∀ a b, SUBW a p2 → K100 a b) : ∀ (m k : Nat) (i6' : Int64), k + m = 64 → SUBW i6' p2 → wX4_known_D_L54 post K100 po DD g i4 (m + 1) i6' (nI k) := by
  intro m
  induction m with
  | zero =>
    intro k i6 h hu
    obtain rfl : k = 64 := by omega
    exact ⟨fun _ => hK _ _ hu, fun q => absurd (by decide) q⟩
  | succ m ih =>
    intro k i6 h hu
    have hk : k < 64 := by omega
    have hr : wX4_known_D_L54 post K100 po DD g i4 (m + 1) i6 (nI k + 1) := by
      rw [← nI_succ]
      exact ih (k + 1) i6 (by omega) hu
    refine ⟨fun c => absurd c (notLe (a := 64) hk (by decide)), fun _ => tX4_has_ hk (fun _ => ⟨fun _ => hr, fun c => absurd rfl c⟩) (fun hm => ⟨fun c => absurd c (by decide), fun _ => ⟨nI_in hk (by decide), ?_⟩⟩)⟩
    obtain ⟨v, hv, ev⟩ := hD k hk
    rw [nI_clamp (by omega), ev]
    refine tX4_has_ hv (fun h0 => ⟨fun c => absurd rfl c, fun _ => ?_⟩) (fun _ => ⟨fun _ => hr, fun c => absurd c (by decide)⟩)
    rw [← nI_succ]
    refine ih (k + 1) _ (by omega) (fun w hw h1 => ?_)
    rw [mw_or, mw_bit hk] at h1
    by_cases e : k = w
    · subst e
      cases h2 : mw p2 k with
      | true => rfl
      | false =>
        have := hs k hk hm h2
        rw [ev, nI_clamp (by omega), h0] at this
        exact absurd this (by decide)
    · rw [decide_eq_false e, Bool.or_false] at h1
      exact hu w hw h1
theorem tX4_known_D {post : Int64 → Prop} {g : Nat} {po : Int64} {DD : Nat → Nat → Int32} {p2 : Int64} (hD : R64 (DD g)) (hp : ∀ r, SUBW r p2 → post r) : wX4_known_D post g po DD p2 :=
  ⟨65, tX4_known_D_L6 hD (fun i4 _ hs => ⟨65, tX4_known_D_L54 hD hs (fun a _ h => hp a h) 64 0 _ rfl (fun w _ h => by rw [mw_zero] at h; exact absurd h (by decide))⟩) 64 0 _ rfl (fun w hw => absurd hw (Nat.not_lt_zero w))⟩
theorem tX4_known {post : Int64 → Prop} {po : Int64} {DD : Nat → Nat → Int32} {p1 : Int32} {p2 : Int64} (hD : DOK DD) (hg : IN p1 6) (hp : ∀ r, SUBW r p2 → post r) : wX4_known post po DD p1 p2 :=
  ⟨hg.vp (by decide), tX4_known_D (hD _ (hg.lt (by decide))) hp⟩
theorem sX4_known {post : Int64 → Prop} {po : Int64} {DD : Nat → Nat → Int32} {p1 : Int32} {p2 : Int64} (a0 : DOK DD) (a1 : IN p1 6) (hp : ∀ (r : Int64), post r) : wX4_known post po DD p1 p2 := tX4_known a0 a1 (fun r _ => hp r)
theorem tX4_knownByAll_L9 {post : Int64 → Prop} {K49 : Int64 → Int32 → Prop} {po : Int64} {DD : Nat → Nat → Int32} {p1 : Int32} {p2 : Int64} (hD : DOK DD) (hK : ∀ i4 i6, ((∃ g, g < 6 ∧ hi p1 g) → SUBW i4 p2) → K49 i4 i6) : ∀ (m k : Nat) (i4 : Int64), k + m = 6 → ((∃ g, g < k ∧ hi p1 g) → SUBW i4 p2) → wX4_knownByAll_L9 post K49 po DD p1 p2 (m + 1) i4 (nI k) := by
  intro m
  induction m with
  | zero =>
    intro k i4 h hs
    obtain rfl : k = 6 := by omega
    exact ⟨fun _ => hK _ _ hs, fun q => absurd (by decide) q⟩
  | succ m ih =>
    intro k i4 h hs
    have hk : k < 6 := by omega
    refine ⟨fun c => absurd c (notLe (a := 6) hk (by decide)), fun _ => tX4_has (fun hm => ⟨fun _ => ?_, fun c => absurd rfl c⟩) (fun hm => ⟨fun c => absurd c (by decide), fun _ => tX4_known hD ⟨k, hk, rfl⟩ (fun r hr => ?_)⟩)⟩
    · rw [← nI_succ]
      refine ih (k + 1) _ (by omega) ?_
      rintro ⟨g, hg, h1⟩ w hw h2
      rw [mw_and] at h2
      exact hs ⟨g, by
        rcases Nat.lt_succ_iff_lt_or_eq.mp hg with q | q
        · exact q
        · subst q
          exact absurd h1 hm, h1⟩ w hw (Bool.and_eq_true_iff.mp h2).1
    · rw [← nI_succ]
      refine ih (k + 1) _ (by omega) ?_
      rintro - w hw h2
      rw [mw_and] at h2
      exact hr w hw (Bool.and_eq_true_iff.mp h2).2
theorem tX4_knownByAll {post : Int64 → Prop} {po : Int64} {DD : Nat → Nat → Int32} {p1 : Int32} {p2 : Int64} (hD : DOK DD) (hp : ∀ r, ((∃ g, g < 6 ∧ hi p1 g) → SUBW r p2) → post r) : wX4_knownByAll post po DD p1 p2 :=
  ⟨7, tX4_knownByAll_L9 hD (fun i4 _ h => hp i4 h) 6 0 _ rfl (fun h => by
    obtain ⟨g, hg, _⟩ := h
    exact absurd hg (Nat.not_lt_zero g))⟩
theorem sX4_knownByAll {post : Int64 → Prop} {po : Int64} {DD : Nat → Nat → Int32} {p1 : Int32} {p2 : Int64} (a0 : DOK DD) (hp : ∀ (r : Int64), post r) : wX4_knownByAll post po DD p1 p2 := tX4_knownByAll a0 (fun r _ => hp r)
theorem sX4_common_L11 {post : Int64 → Prop} {K38 : Int64 → Int64 → Prop} {po : Int64} {DD : Nat → Nat → Int32} {p1 : Int32} (hD : DOK DD) (hK : ∀ a b, K38 a b) : ∀ (n : Nat) (i4 i6 : Int64), (i4 = i6 ∨ i4.toBitVec.toNat + 1 ≤ n) → wX4_common_L11 post K38 po DD p1 (n + 1) i4 i6 := by
  intro n
  induction n with
  | zero =>
    intro i4 i6 h
    refine ⟨fun _ => hK _ _, fun c => absurd ((lg_cmp_eq _ _).mpr ?_) c⟩
    rcases h with h | h
    · exact h
    · omega
  | succ n ih =>
    intro i4 i6 h
    refine ⟨fun _ => hK _ _, fun c => sX4_knownByAll hD (fun r => ih _ _ ?_)⟩
    have h1 : i4.toBitVec.toNat + 1 ≤ n + 1 := h.resolve_left (fun e => c ((lg_cmp_eq _ _).mpr e))
    by_cases e : i4 &&& r = i4
    · exact Or.inl e
    · have := andLt e
      exact Or.inr (by omega)
theorem sX4_common {post : Int64 → Prop} {po : Int64} {DD : Nat → Nat → Int32} {p1 : Int32} {p2 : Int64} (a0 : DOK DD) (hp : ∀ (r : Int64), post r) : wX4_common post po DD p1 p2 := ⟨p2.toBitVec.toNat + 2, sX4_common_L11 a0 (fun _ _ => hp _) (p2.toBitVec.toNat + 1) _ _ (Or.inr (Nat.le_refl _))⟩
theorem sX4_joinR_L13 {post : Int32 × (Nat → Int32) × (Nat → Int32) × (Nat → Int32) × (Nat → Int32) → Prop} {K88 : Int32 → (Nat → Int32) → (Nat → Int32) → (Nat → Int32) → Prop} {sp : Int32} {DD : Nat → Nat → Int32} {rwf : Nat → Int32} {g : Nat} (a0 : DOK DD) (a1 : R64 rwf) (a2 : g < 6) (hp : ∀ (u : Int32 × (Nat → Int32) × (Nat → Int32) × (Nat → Int32) × (Nat → Int32)), RF u.2.2.1 → R64 u.2.2.2.1 → R64 u.2.2.2.2 → post u) (hK88 : ∀ (i4 : Int32) (stf' : Nat → Int32) (fsf' : Nat → Int32) (jnf' : Nat → Int32), RF fsf' → R64 jnf' → K88 i4 stf' fsf' jnf') : ∀ (m k : Nat) (stf' : Nat → Int32) (fsf' : Nat → Int32) (jnf' : Nat → Int32), k + m = 64 → RF fsf' → R64 jnf' → wX4_joinR_L13 post K88 sp DD rwf g (m + 1) (nI k) stf' fsf' jnf' := by
  intro m
  induction m with
  | zero =>
    intro k stf' fsf' jnf' hkm b0 b1
    refine ⟨fun _ => ?_, fun q => absurd (by rw [show k = 64 by omega]; decide) q⟩
    exact hK88 _ _ _ _ b0 b1
  | succ m ih =>
    intro k stf' fsf' jnf' hkm b0 b1
    have hk : IN (nI k) 64 := ⟨k, by omega, rfl⟩
    refine ⟨fun _ => ?_, fun _ => ?_⟩
    · exact hK88 _ _ _ _ b0 b1
    · refine ⟨(IN.vp hk (by decide)), ?_⟩
      refine ⟨(IN.vp hk (by decide)), ?_⟩
      intro x_1 ex_1
      refine ⟨(IN.vp (by rw [ex_1]; exact (idx4096 (R64.at a1 hk) (R64.at (a0 _ a2) hk))) (by decide)), ?_⟩
      refine ⟨fun hc1 => ?_, fun hc1 => ?_⟩
      · refine ⟨(IN.vp (by rw [ex_1]; exact (idx4096 (R64.at a1 hk) (R64.at (a0 _ a2) hk))) (by decide)), ?_⟩
        refine ⟨(IN.vp hk (by decide)), ?_⟩
        rw [← nI_succ]
        exact ih (k + 1) _ _ _ (by omega) b0 (R64.upd b1 (RF.at b0 (by rw [ex_1]; exact (idx4096 (R64.at a1 hk) (R64.at (a0 _ a2) hk)))))
      · refine ⟨(IN.vp (by rw [ex_1]; exact (idx4096 (R64.at a1 hk) (R64.at (a0 _ a2) hk))) (by decide)), ?_⟩
        refine ⟨(IN.vp (by rw [ex_1]; exact (idx4096 (R64.at a1 hk) (R64.at (a0 _ a2) hk))) (by decide)), ?_⟩
        refine ⟨(IN.vp (by rw [ex_1]; exact (idx4096 (R64.at a1 hk) (R64.at (a0 _ a2) hk))) (by decide)), ?_⟩
        refine ⟨(IN.vp hk (by decide)), ?_⟩
        rw [← nI_succ]
        exact ih (k + 1) _ _ _ (by omega) (RF.upd b0 hk) (R64.upd b1 (RF.at (RF.upd b0 hk) (by rw [ex_1]; exact (idx4096 (R64.at a1 hk) (R64.at (a0 _ a2) hk)))))
theorem sX4_joinR_L91 {post : Int32 × (Nat → Int32) × (Nat → Int32) × (Nat → Int32) × (Nat → Int32) → Prop} {K115 : Int32 → (Nat → Int32) → Prop} {jnf' : Nat → Int32} (a0 : R64 jnf') (hp : ∀ (u : Int32 × (Nat → Int32) × (Nat → Int32) × (Nat → Int32) × (Nat → Int32)), RF u.2.2.1 → R64 u.2.2.2.1 → R64 u.2.2.2.2 → post u) (hK115 : ∀ (i4 : Int32) (rwf' : Nat → Int32), R64 rwf' → K115 i4 rwf') : ∀ (m k : Nat) (rwf' : Nat → Int32), k + m = 64 → R64 rwf' → wX4_joinR_L91 post K115 jnf' (m + 1) (nI k) rwf' := by
  intro m
  induction m with
  | zero =>
    intro k rwf' hkm b0
    refine ⟨fun _ => ?_, fun q => absurd (by rw [show k = 64 by omega]; decide) q⟩
    exact hK115 _ _ b0
  | succ m ih =>
    intro k rwf' hkm b0
    have hk : IN (nI k) 64 := ⟨k, by omega, rfl⟩
    refine ⟨fun _ => ?_, fun _ => ?_⟩
    · exact hK115 _ _ b0
    · refine ⟨(IN.vp hk (by decide)), ?_⟩
      refine ⟨(IN.vp hk (by decide)), ?_⟩
      rw [← nI_succ]
      exact ih (k + 1) _ (by omega) (R64.upd b0 (R64.at a0 hk))
theorem sX4_joinR {post : Int32 × (Nat → Int32) × (Nat → Int32) × (Nat → Int32) × (Nat → Int32) → Prop} {g : Nat} {sp : Int32} {DD : Nat → Nat → Int32} {stf : Nat → Int32} {fsf : Nat → Int32} {jnf : Nat → Int32} {rwf : Nat → Int32} (a0 : DOK DD) (a1 : RF fsf) (a2 : R64 jnf) (a3 : R64 rwf) (a4 : g < 6) (hp : ∀ (u : Int32 × (Nat → Int32) × (Nat → Int32) × (Nat → Int32) × (Nat → Int32)), RF u.2.2.1 → R64 u.2.2.2.1 → R64 u.2.2.2.2 → post u) : wX4_joinR post g sp DD stf fsf jnf rwf := by
  unfold wX4_joinR
  refine ⟨65, sX4_joinR_L13 a0 a3 a4 hp (fun i4 stf' fsf' jnf' g0_K88 g1_K88 => ?_) 64 0 _ _ _ rfl a1 a2⟩
  refine ⟨65, sX4_joinR_L91 g1_K88 hp (fun i4 rwf' g0_K115 => ?_) 64 0 _ rfl a3⟩
  exact hp _ g0_K88 g1_K88 g0_K115
theorem sX4_joinK_L13 {post : Int32 × (Nat → Int32) × (Nat → Int32) × (Nat → Int32) × (Nat → Nat → Int32) → Prop} {K88 : Int32 → (Nat → Int32) → (Nat → Int32) → (Nat → Int32) → Prop} {sp : Int32} {DD : Nat → Nat → Int32} {KP : Nat → Nat → Int32} {lv : Nat} {gf : Nat} (a0 : DOK DD) (a1 : KOK KP) (a2 : lv < 4) (a3 : gf < 6) (hp : ∀ (u : Int32 × (Nat → Int32) × (Nat → Int32) × (Nat → Int32) × (Nat → Nat → Int32)), RF u.2.2.1 → R64 u.2.2.2.1 → DOK u.2.2.2.2 → post u) (hK88 : ∀ (i4 : Int32) (stf' : Nat → Int32) (fsf' : Nat → Int32) (jnf' : Nat → Int32), RF fsf' → R64 jnf' → K88 i4 stf' fsf' jnf') : ∀ (m k : Nat) (stf' : Nat → Int32) (fsf' : Nat → Int32) (jnf' : Nat → Int32), k + m = 64 → RF fsf' → R64 jnf' → wX4_joinK_L13 post K88 sp DD KP lv gf (m + 1) (nI k) stf' fsf' jnf' := by
  intro m
  induction m with
  | zero =>
    intro k stf' fsf' jnf' hkm b0 b1
    refine ⟨fun _ => ?_, fun q => absurd (by rw [show k = 64 by omega]; decide) q⟩
    exact hK88 _ _ _ _ b0 b1
  | succ m ih =>
    intro k stf' fsf' jnf' hkm b0 b1
    have hk : IN (nI k) 64 := ⟨k, by omega, rfl⟩
    refine ⟨fun _ => ?_, fun _ => ?_⟩
    · exact hK88 _ _ _ _ b0 b1
    · refine ⟨(IN.vp hk (by decide)), ?_⟩
      refine ⟨(IN.vp hk (by decide)), ?_⟩
      intro x_1 ex_1
      refine ⟨(IN.vp (by rw [ex_1]; exact (idx4096 (R64.at (a1 _ a2) hk) (R64.at (a0 _ a3) hk))) (by decide)), ?_⟩
      refine ⟨fun hc1 => ?_, fun hc1 => ?_⟩
      · refine ⟨(IN.vp (by rw [ex_1]; exact (idx4096 (R64.at (a1 _ a2) hk) (R64.at (a0 _ a3) hk))) (by decide)), ?_⟩
        refine ⟨(IN.vp hk (by decide)), ?_⟩
        rw [← nI_succ]
        exact ih (k + 1) _ _ _ (by omega) b0 (R64.upd b1 (RF.at b0 (by rw [ex_1]; exact (idx4096 (R64.at (a1 _ a2) hk) (R64.at (a0 _ a3) hk)))))
      · refine ⟨(IN.vp (by rw [ex_1]; exact (idx4096 (R64.at (a1 _ a2) hk) (R64.at (a0 _ a3) hk))) (by decide)), ?_⟩
        refine ⟨(IN.vp (by rw [ex_1]; exact (idx4096 (R64.at (a1 _ a2) hk) (R64.at (a0 _ a3) hk))) (by decide)), ?_⟩
        refine ⟨(IN.vp (by rw [ex_1]; exact (idx4096 (R64.at (a1 _ a2) hk) (R64.at (a0 _ a3) hk))) (by decide)), ?_⟩
        refine ⟨(IN.vp hk (by decide)), ?_⟩
        rw [← nI_succ]
        exact ih (k + 1) _ _ _ (by omega) (RF.upd b0 hk) (R64.upd b1 (RF.at (RF.upd b0 hk) (by rw [ex_1]; exact (idx4096 (R64.at (a1 _ a2) hk) (R64.at (a0 _ a3) hk)))))
theorem sX4_joinK_L91 {post : Int32 × (Nat → Int32) × (Nat → Int32) × (Nat → Int32) × (Nat → Nat → Int32) → Prop} {K115 : Int32 → (Nat → Nat → Int32) → Prop} {gt : Nat} {jnf' : Nat → Int32} (a0 : R64 jnf') (a1 : gt < 6) (hp : ∀ (u : Int32 × (Nat → Int32) × (Nat → Int32) × (Nat → Int32) × (Nat → Nat → Int32)), RF u.2.2.1 → R64 u.2.2.2.1 → DOK u.2.2.2.2 → post u) (hK115 : ∀ (i4 : Int32) (DD' : Nat → Nat → Int32), DOK DD' → K115 i4 DD') : ∀ (m k : Nat) (DD' : Nat → Nat → Int32), k + m = 64 → DOK DD' → wX4_joinK_L91 post K115 gt jnf' (m + 1) (nI k) DD' := by
  intro m
  induction m with
  | zero =>
    intro k DD' hkm b0
    refine ⟨fun _ => ?_, fun q => absurd (by rw [show k = 64 by omega]; decide) q⟩
    exact hK115 _ _ b0
  | succ m ih =>
    intro k DD' hkm b0
    have hk : IN (nI k) 64 := ⟨k, by omega, rfl⟩
    refine ⟨fun _ => ?_, fun _ => ?_⟩
    · exact hK115 _ _ b0
    · refine ⟨(IN.vp hk (by decide)), ?_⟩
      refine ⟨(IN.vp hk (by decide)), ?_⟩
      rw [← nI_succ]
      exact ih (k + 1) _ (by omega) (DOK.upd b0 (R64.upd (b0 _ a1) (R64.at a0 hk)))
theorem sX4_joinK {post : Int32 × (Nat → Int32) × (Nat → Int32) × (Nat → Int32) × (Nat → Nat → Int32) → Prop} {lv : Nat} {gf : Nat} {gt : Nat} {sp : Int32} {DD : Nat → Nat → Int32} {stf : Nat → Int32} {fsf : Nat → Int32} {jnf : Nat → Int32} {KP : Nat → Nat → Int32} (a0 : DOK DD) (a1 : RF fsf) (a2 : R64 jnf) (a3 : KOK KP) (a4 : lv < 4) (a5 : gf < 6) (a6 : gt < 6) (hp : ∀ (u : Int32 × (Nat → Int32) × (Nat → Int32) × (Nat → Int32) × (Nat → Nat → Int32)), RF u.2.2.1 → R64 u.2.2.2.1 → DOK u.2.2.2.2 → post u) : wX4_joinK post lv gf gt sp DD stf fsf jnf KP := by
  unfold wX4_joinK
  refine ⟨65, sX4_joinK_L13 a0 a3 a4 a5 hp (fun i4 stf' fsf' jnf' g0_K88 g1_K88 => ?_) 64 0 _ _ _ rfl a1 a2⟩
  refine ⟨65, sX4_joinK_L91 g1_K88 a6 hp (fun i4 DD' g0_K115 => ?_) 64 0 _ rfl a0⟩
  exact hp _ g0_K88 g1_K88 g0_K115
theorem sX4_together_L3 {post : Int64 → Int32 × (Nat → Int32) × (Nat → Int32) × (Nat → Int32) × (Nat → Int32) → Prop} {K24 : Int32 → (Nat → Int32) → Prop} (hp : ∀ (r : Int64) (u : Int32 × (Nat → Int32) × (Nat → Int32) × (Nat → Int32) × (Nat → Int32)), RF u.2.2.1 → R64 u.2.2.2.1 → R64 u.2.2.2.2 → post r u) (hK24 : ∀ (i4 : Int32) (rwf' : Nat → Int32), R64 rwf' → K24 i4 rwf') : ∀ (m k : Nat) (rwf' : Nat → Int32), k + m = 64 → R64 rwf' → wX4_together_L3 post K24 (m + 1) (nI k) rwf' := by
  intro m
  induction m with
  | zero =>
    intro k rwf' hkm b0
    refine ⟨fun _ => ?_, fun q => absurd (by rw [show k = 64 by omega]; decide) q⟩
    exact hK24 _ _ b0
  | succ m ih =>
    intro k rwf' hkm b0
    have hk : IN (nI k) 64 := ⟨k, by omega, rfl⟩
    refine ⟨fun _ => ?_, fun _ => ?_⟩
    · exact hK24 _ _ b0
    · refine ⟨(IN.vp hk (by decide)), ?_⟩
      rw [← nI_succ]
      exact ih (k + 1) _ (by omega) (R64.upd b0 (⟨0, by decide, by decide⟩ : IN (0 : Int32) 64))
theorem sX4_together_L27 {post : Int64 → Int32 × (Nat → Int32) × (Nat → Int32) × (Nat → Int32) × (Nat → Int32) → Prop} {K68 : Int32 → Int32 → (Nat → Int32) → (Nat → Int32) → (Nat → Int32) → (Nat → Int32) → Prop} {DD : Nat → Nat → Int32} {p1 : Int32} (a0 : DOK DD) (hp : ∀ (r : Int64) (u : Int32 × (Nat → Int32) × (Nat → Int32) × (Nat → Int32) × (Nat → Int32)), RF u.2.2.1 → R64 u.2.2.2.1 → R64 u.2.2.2.2 → post r u) (hK68 : ∀ (i4 : Int32) (sp' : Int32) (stf' : Nat → Int32) (fsf' : Nat → Int32) (jnf' : Nat → Int32) (rwf' : Nat → Int32), RF fsf' → R64 jnf' → R64 rwf' → K68 i4 sp' stf' fsf' jnf' rwf') : ∀ (m k : Nat) (sp' : Int32) (stf' : Nat → Int32) (fsf' : Nat → Int32) (jnf' : Nat → Int32) (rwf' : Nat → Int32), k + m = 6 → RF fsf' → R64 jnf' → R64 rwf' → wX4_together_L27 post K68 DD p1 (m + 1) (nI k) sp' stf' fsf' jnf' rwf' := by
  intro m
  induction m with
  | zero =>
    intro k sp' stf' fsf' jnf' rwf' hkm b0 b1 b2
    refine ⟨fun _ => ?_, fun q => absurd (by rw [show k = 6 by omega]; decide) q⟩
    exact hK68 _ _ _ _ _ _ b0 b1 b2
  | succ m ih =>
    intro k sp' stf' fsf' jnf' rwf' hkm b0 b1 b2
    have hk : IN (nI k) 6 := ⟨k, by omega, rfl⟩
    refine ⟨fun _ => ?_, fun _ => ?_⟩
    · exact hK68 _ _ _ _ _ _ b0 b1 b2
    · refine sX4_has (fun r_1 f0_r_1 => ?_)
      refine ⟨fun hc1 => ?_, fun hc1 => ?_⟩
      · rw [← nI_succ]
        exact ih (k + 1) _ _ _ _ _ (by omega) b0 b1 b2
      · refine ⟨(IN.vp hk (by decide)), ?_⟩
        refine sX4_joinR a0 b0 b1 b2 (IN.lt hk (by decide)) (fun z_1 f0_z_1 f1_z_1 f2_z_1 => ?_)
        rw [← nI_succ]
        exact ih (k + 1) _ _ _ _ _ (by omega) f0_z_1 f1_z_1 f2_z_1
theorem sX4_together {post : Int64 → Int32 × (Nat → Int32) × (Nat → Int32) × (Nat → Int32) × (Nat → Int32) → Prop} {po : Int64} {sp : Int32} {DD : Nat → Nat → Int32} {stf : Nat → Int32} {fsf : Nat → Int32} {jnf : Nat → Int32} {rwf : Nat → Int32} {p1 : Int32} {p2 : Int64} (a0 : DOK DD) (a1 : RF fsf) (a2 : R64 jnf) (a3 : R64 rwf) (hp : ∀ (r : Int64) (u : Int32 × (Nat → Int32) × (Nat → Int32) × (Nat → Int32) × (Nat → Int32)), RF u.2.2.1 → R64 u.2.2.2.1 → R64 u.2.2.2.2 → post r u) : wX4_together post po sp DD stf fsf jnf rwf p1 p2 := by
  unfold wX4_together
  refine ⟨65, sX4_together_L3 hp (fun i4 rwf' g0_K24 => ?_) 64 0 _ rfl a3⟩
  refine ⟨7, sX4_together_L27 a0 hp (fun i4 sp' stf' fsf' jnf' rwf' g0_K68 g1_K68 g2_K68 => ?_) 6 0 _ _ _ _ _ rfl a1 a2 g0_K24⟩
  refine sX4_known_R g2_K68 (fun r_3 => ?_)
  exact hp _ _ g0_K68 g1_K68 g2_K68
theorem sX4_fact_L5 {post : Int64 → Prop} {K38 : Int64 → Int32 → Prop} {p1 : Int32} (hp : ∀ (r : Int64), post r) (hK38 : ∀ (i2 : Int64) (i4 : Int32), K38 i2 i4) : ∀ (m k : Nat) (i2 : Int64), k + m = 64 → wX4_fact_L5 post K38 p1 (m + 1) i2 (nI k) := by
  intro m
  induction m with
  | zero =>
    intro k i2 hkm
    refine ⟨fun _ => ?_, fun q => absurd (by rw [show k = 64 by omega]; decide) q⟩
    exact hK38 _ _
  | succ m ih =>
    intro k i2 hkm
    have hk : IN (nI k) 64 := ⟨k, by omega, rfl⟩
    refine ⟨fun _ => ?_, fun _ => ?_⟩
    · exact hK38 _ _
    · refine sX4_has (fun r_1 f0_r_1 => ?_)
      refine ⟨fun hc1 => ?_, fun hc1 => ?_⟩
      · rw [← nI_succ]
        exact ih (k + 1) _ (by omega)
      · rw [← nI_succ]
        exact ih (k + 1) _ (by omega)
theorem sX4_fact {post : Int64 → Prop} {po : Int64} {p1 : Int32} (hp : ∀ (r : Int64), post r) : wX4_fact post po p1 := by
  unfold wX4_fact
  refine ⟨65, sX4_fact_L5 hp (fun i2 i4 => ?_) 64 0 _ rfl⟩
  exact hp _
theorem tX4_asked_L9 {post : Int64 → Prop} {K71 : Int64 → Int32 → Prop} {mr : Int32} {po : Int64} {DD : Nat → Nat → Int32} {p1 : Int32} {p2 : Int64} (hD : DOK DD) (hK : ∀ a b, SUBW a po → K71 a b) : ∀ (m k : Nat) (i4 : Int64), k + m = 6 → SUBW i4 po → wX4_asked_L9 post K71 mr po DD p1 p2 (m + 1) i4 (nI k) := by
  intro m
  induction m with
  | zero =>
    intro k i4 h hs
    obtain rfl : k = 6 := by omega
    exact ⟨fun _ => hK _ _ hs, fun q => absurd (by decide) q⟩
  | succ m ih =>
    intro k i4 h hs
    have hr : ∀ x : Int64, SUBW x po → wX4_asked_L9 post K71 mr po DD p1 p2 (m + 1) x (nI k + 1) := fun x hx => by
      rw [← nI_succ]
      exact ih (k + 1) x (by omega) hx
    have ha : ∀ y : Int64, SUBW (i4 &&& y) po := fun y w hw h1 => by
      rw [mw_and] at h1
      exact hs w hw (Bool.and_eq_true_iff.mp h1).1
    exact ⟨fun _ => hK _ _ hs, fun _ => sX4_has (fun r _ => ⟨fun _ => sX4_known hD ⟨k, by omega, rfl⟩ (fun r2 => sX4_has_ (fun r3 _ => ⟨fun _ => hr _ (ha _), fun _ => hr _ (ha _)⟩)), fun _ => hr _ hs⟩)⟩
theorem tX4_asked {post : Int64 → Prop} {mr : Int32} {po : Int64} {DD : Nat → Nat → Int32} {p1 : Int32} {p2 : Int64} (a0 : DOK DD) (hp : ∀ r, SUBW r po → post r) : wX4_asked post mr po DD p1 p2 := ⟨7, tX4_asked_L9 a0 (fun a _ h => hp a h) 6 0 _ rfl (fun _ _ h => h)⟩
theorem sX4_asked {post : Int64 → Prop} {mr : Int32} {po : Int64} {DD : Nat → Nat → Int32} {p1 : Int32} {p2 : Int64} (a0 : IN mr 64) (a1 : DOK DD) (hp : ∀ (r : Int64), post r) : wX4_asked post mr po DD p1 p2 := tX4_asked a1 (fun r _ => hp r)
theorem sX4_who_L6 {post : Int32 → Prop} {K56 : Int32 → Int32 → Prop} {po : Int64} {DD : Nat → Nat → Int32} {p1 : Int32} {p2 : Int64} {p3 : Int32} (a0 : DOK DD) (hp : ∀ (r : Int32), post r) (hK56 : ∀ (i5 : Int32) (i6 : Int32), K56 i5 i6) : ∀ (m k : Nat) (i5 : Int32), k + m = 6 → wX4_who_L6 post K56 po DD p1 p2 p3 (m + 1) i5 (nI k) := by
  intro m
  induction m with
  | zero =>
    intro k i5 hkm
    refine ⟨fun _ => ?_, fun q => absurd (by rw [show k = 6 by omega]; decide) q⟩
    exact hK56 _ _
  | succ m ih =>
    intro k i5 hkm
    have hk : IN (nI k) 6 := ⟨k, by omega, rfl⟩
    refine ⟨fun _ => ?_, fun _ => ?_⟩
    · exact hK56 _ _
    · refine sX4_has (fun r_1 f0_r_1 => ?_)
      refine ⟨fun hc1 => ?_, fun hc1 => ?_⟩
      · rw [← nI_succ]
        exact ih (k + 1) _ (by omega)
      · refine sX4_known a0 hk (fun r_2 => ?_)
        refine sX4_has_ (fun r_3 f0_r_3 => ?_)
        refine ⟨fun hc2 => ?_, fun hc2 => ?_⟩
        · rw [← nI_succ]
          exact ih (k + 1) _ (by omega)
        · rw [← nI_succ]
          exact ih (k + 1) _ (by omega)
theorem sX4_who {post : Int32 → Prop} {po : Int64} {DD : Nat → Nat → Int32} {p1 : Int32} {p2 : Int64} {p3 : Int32} (a0 : DOK DD) (hp : ∀ (r : Int32), post r) : wX4_who post po DD p1 p2 p3 := by
  unfold wX4_who
  refine ⟨7, sX4_who_L6 a0 hp (fun i5 i6 => ?_) 6 0 _ rfl⟩
  exact hp _
theorem sX4_knowsTogether_L37 {post : Int32 → Prop} {K94 : Int32 → Int32 → Prop} {mr : Int32} {DD : Nat → Nat → Int32} {p1 : Int32} {i4 : Int32} (a0 : IN mr 64) (a1 : DOK DD) (a2 : IN i4 64) (hp : ∀ (r : Int32), vZ r → post r) (hK94 : ∀ (i5 : Int32) (i6 : Int32), K94 i5 i6) : ∀ (m k : Nat) (i5 : Int32), k + m = 6 → wX4_knowsTogether_L37 post K94 mr DD p1 i4 (m + 1) i5 (nI k) := by
  intro m
  induction m with
  | zero =>
    intro k i5 hkm
    refine ⟨fun _ => ?_, fun q => absurd (by rw [show k = 6 by omega]; decide) q⟩
    exact hK94 _ _
  | succ m ih =>
    intro k i5 hkm
    have hk : IN (nI k) 6 := ⟨k, by omega, rfl⟩
    refine ⟨fun _ => ?_, fun _ => ?_⟩
    · exact hK94 _ _
    · refine sX4_has (fun r_2 f0_r_2 => ?_)
      refine ⟨fun hc1 => ?_, fun hc1 => ?_⟩
      · rw [← nI_succ]
        exact ih (k + 1) _ (by omega)
      · refine ⟨(IN.vp hk (by decide)), ?_⟩
        refine ⟨(IN.vp a0 (by decide)), ?_⟩
        refine ⟨(IN.vp hk (by decide)), ?_⟩
        refine ⟨(IN.vp a2 (by decide)), ?_⟩
        refine ⟨fun hc2 => ?_, fun hc2 => ?_⟩
        · rw [← nI_succ]
          exact ih (k + 1) _ (by omega)
        · rw [← nI_succ]
          exact ih (k + 1) _ (by omega)
theorem sX4_knowsTogether_L3 {post : Int32 → Prop} {K107 : Int32 → Prop} {mr : Int32} {po : Int64} {DD : Nat → Nat → Int32} {p1 : Int32} {p2 : Int64} (a0 : IN mr 64) (a1 : DOK DD) (hp : ∀ (r : Int32), vZ r → post r) (hK107 : ∀ (i4 : Int32), K107 i4) : ∀ (m k : Nat), k + m = 64 → wX4_knowsTogether_L3 post K107 mr po DD p1 p2 (m + 1) (nI k) := by
  intro m
  induction m with
  | zero =>
    intro k hkm
    refine ⟨fun _ => ?_, fun q => absurd (by rw [show k = 64 by omega]; decide) q⟩
    exact hK107 _
  | succ m ih =>
    intro k hkm
    have hk : IN (nI k) 64 := ⟨k, by omega, rfl⟩
    refine ⟨fun _ => ?_, fun _ => ?_⟩
    · exact hK107 _
    · refine sX4_has_ (fun r_1 f0_r_1 => ?_)
      refine ⟨fun hc1 => ?_, fun hc1 => ?_⟩
      · refine ⟨7, sX4_knowsTogether_L37 a0 a1 hk hp (fun i5 i6 => ?_) 6 0 _ rfl⟩
        refine ⟨fun hc2 => ?_, fun hc2 => ?_⟩
        · rw [← nI_succ]
          exact ih (k + 1) (by omega)
        · exact hp _ (Or.inl rfl)
      · rw [← nI_succ]
        exact ih (k + 1) (by omega)
theorem sX4_knowsTogether {post : Int32 → Prop} {mr : Int32} {po : Int64} {DD : Nat → Nat → Int32} {p1 : Int32} {p2 : Int64} (a0 : IN mr 64) (a1 : DOK DD) (hp : ∀ (r : Int32), vZ r → post r) : wX4_knowsTogether post mr po DD p1 p2 := by
  unfold wX4_knowsTogether
  refine ⟨65, sX4_knowsTogether_L3 a0 a1 hp (fun i4 => ?_) 64 0 rfl⟩
  exact hp _ (Or.inr rfl)
theorem sX4_few_L5 {post : Int32 → Prop} {K48 : Int32 → Int32 → Prop} {mr : Int32} {po : Int64} {DD : Nat → Nat → Int32} {p1 : Int64} (a0 : IN mr 64) (a1 : DOK DD) (hp : ∀ (r : Int32), post r) (hK48 : ∀ (i3 : Int32) (i4 : Int32), K48 i3 i4) : ∀ (m k : Nat) (i3 : Int32), k + m = 64 → wX4_few_L5 post K48 mr po DD p1 (m + 1) i3 (nI k) := by
  intro m
  induction m with
  | zero =>
    intro k i3 hkm
    refine ⟨fun _ => ?_, fun q => absurd (by rw [show k = 64 by omega]; decide) q⟩
    exact hK48 _ _
  | succ m ih =>
    intro k i3 hkm
    have hk : IN (nI k) 64 := ⟨k, by omega, rfl⟩
    refine ⟨fun _ => ?_, fun _ => ?_⟩
    · exact hK48 _ _
    · refine ⟨fun hc1 => ?_, fun hc1 => ?_⟩
      · refine sX4_knowsTogether a0 a1 (fun r_1 f0_r_1 => ?_)
        refine ⟨fun hc2 => ?_, fun hc2 => ?_⟩
        · rw [← nI_succ]
          exact ih (k + 1) _ (by omega)
        · rw [← nI_succ]
          exact ih (k + 1) _ (by omega)
      · refine sX4_size (fun r_2 => ?_)
        refine sX4_size (fun r_3 => ?_)
        refine ⟨fun hc3 => ?_, fun hc3 => ?_⟩
        · rw [← nI_succ]
          exact ih (k + 1) _ (by omega)
        · refine sX4_knowsTogether a0 a1 (fun r_4 f0_r_4 => ?_)
          refine ⟨fun hc4 => ?_, fun hc4 => ?_⟩
          · rw [← nI_succ]
            exact ih (k + 1) _ (by omega)
          · rw [← nI_succ]
            exact ih (k + 1) _ (by omega)
theorem sX4_few {post : Int32 → Prop} {mr : Int32} {po : Int64} {DD : Nat → Nat → Int32} {p1 : Int64} (a0 : IN mr 64) (a1 : DOK DD) (hp : ∀ (r : Int32), post r) : wX4_few post mr po DD p1 := by
  unfold wX4_few
  refine ⟨64, sX4_few_L5 a0 a1 hp (fun i3 i4 => ?_) 63 1 _ rfl⟩
  exact hp _
theorem sX4_isFiner_L11 {post : Int32 → Prop} {K88 : Int32 → Prop} {po : Int64} {DD : Nat → Nat → Int32} {p1 : Int32} {p2 : Int32} {w : Nat} (hw : w < 64) (h1 : IN p1 6) (h2 : IN p2 6) (hp : ∀ r, vZ r → post r) (hK : ∀ i, K88 i) : ∀ (m k : Nat), k + m = w → wX4_isFiner_L11 post K88 po DD p1 p2 (nI w) (m + 1) (nI k) := by
  intro m
  induction m with
  | zero =>
    intro k h
    obtain rfl : k = w := by omega
    exact ⟨fun _ => hK _, fun q => absurd (Int32.le_refl _) q⟩
  | succ m ih =>
    intro k h
    have hr : wX4_isFiner_L11 post K88 po DD p1 p2 (nI w) (m + 1) (nI k + 1) := by
      rw [← nI_succ]
      exact ih (k + 1) (by omega)
    have v3 : vp_in (nI w) 64 := nI_in hw (by decide)
    have v4 : vp_in (nI k) 64 := nI_in (by omega) (by decide)
    exact ⟨fun _ => hK _, fun _ => sX4_has_ (fun r z => ⟨fun _ => hr, fun _ => sX4_has_ (fun r z => ⟨fun _ => hr, fun _ => ⟨h1.vp (by decide), v3, h1.vp (by decide), v4, fun _ => hr, fun _ => ⟨h2.vp (by decide), v3, h2.vp (by decide), v4, fun _ => hr, fun _ => hp _ (Or.inl rfl)⟩⟩⟩)⟩)⟩
theorem sX4_isFiner_L2 {post : Int32 → Prop} {K94 : Int32 → Prop} {po : Int64} {DD : Nat → Nat → Int32} {p1 : Int32} {p2 : Int32} (h1 : IN p1 6) (h2 : IN p2 6) (hp : ∀ r, vZ r → post r) (hK : ∀ i, K94 i) : ∀ (m k : Nat), k + m = 64 → wX4_isFiner_L2 post K94 po DD p1 p2 (m + 1) (nI k) := by
  intro m
  induction m with
  | zero =>
    intro k h
    obtain rfl : k = 64 := by omega
    exact ⟨fun _ => hK _, fun q => absurd (by decide) q⟩
  | succ m ih =>
    intro k h
    exact ⟨fun _ => hK _, fun _ => ⟨k + 1, sX4_isFiner_L11 (by omega) h1 h2 hp (fun _ => by
      rw [← nI_succ]
      exact ih (k + 1) (by omega)) k 0 (Nat.zero_add _)⟩⟩
theorem sX4_isFiner {post : Int32 → Prop} {po : Int64} {DD : Nat → Nat → Int32} {p1 : Int32} {p2 : Int32} (a1 : IN p1 6) (a2 : IN p2 6) (hp : ∀ r, vZ r → post r) : wX4_isFiner post po DD p1 p2 := ⟨65, sX4_isFiner_L2 a1 a2 hp (fun _ => hp _ (Or.inr rfl)) 64 0 rfl⟩
theorem sX4_depthNow_L19 {post : Int32 → Prop} {mr : Int32} {po : Int64} {DD : Nat → Nat → Int32} {p1 : Int32} (hD : DOK DD) (hg : ∃ g, g < 6 ∧ hi p1 g) (hp : ∀ r, post r) : ∀ (n : Nat) (i4 : Int64) (i6 : Int32), i4.toBitVec.toNat ≤ n → wX4_depthNow_L19 post mr po DD p1 (n + 1) i4 i6 := by
  intro n
  induction n with
  | zero =>
    intro i4 i6 h
    refine tX4_knownByAll hD (fun r hr => sX4_has_ (fun r3 _ => ⟨fun _ => ⟨fun c => ?_, fun _ => hp _⟩, fun _ => hp _⟩))
    have := subLt (hr hg) (fun e => c ((lg_cmp_eq _ _).mpr e))
    omega
  | succ n ih =>
    intro i4 i6 h
    refine tX4_knownByAll hD (fun r hr => sX4_has_ (fun r3 _ => ⟨fun _ => ⟨fun c => ih _ _ ?_, fun _ => hp _⟩, fun _ => hp _⟩))
    have := subLt (hr hg) (fun e => c ((lg_cmp_eq _ _).mpr e))
    omega
theorem sX4_depthNow {post : Int32 → Prop} {mr : Int32} {po : Int64} {DD : Nat → Nat → Int32} {p1 : Int32} {p2 : Int64} (a0 : DOK DD) (a1 : SETG p1) (hp : ∀ (r : Int32), post r) : wX4_depthNow post mr po DD p1 p2 :=
  sX4_has_ (fun r _ => ⟨fun _ => ⟨p2.toBitVec.toNat + 1, sX4_depthNow_L19 a0 a1.hi hp _ _ _ (Nat.le_refl _)⟩, fun _ => hp _⟩)
theorem sX4_restoreK_L2 {post : (Nat → Nat → Int32) → Prop} {K25 : Int32 → (Nat → Nat → Int32) → Prop} {KP : Nat → Nat → Int32} {lv : Nat} {p1 : Int32} (a0 : KOK KP) (a1 : lv < 4) (a2 : IN p1 6) (hp : ∀ (u : Nat → Nat → Int32), DOK u → post u) (hK25 : ∀ (i3 : Int32) (DD' : Nat → Nat → Int32), DOK DD' → K25 i3 DD') : ∀ (m k : Nat) (DD' : Nat → Nat → Int32), k + m = 64 → DOK DD' → wX4_restoreK_L2 post K25 KP lv p1 (m + 1) (nI k) DD' := by
  intro m
  induction m with
  | zero =>
    intro k DD' hkm b0
    refine ⟨fun _ => ?_, fun q => absurd (by rw [show k = 64 by omega]; decide) q⟩
    exact hK25 _ _ b0
  | succ m ih =>
    intro k DD' hkm b0
    have hk : IN (nI k) 64 := ⟨k, by omega, rfl⟩
    refine ⟨fun _ => ?_, fun _ => ?_⟩
    · exact hK25 _ _ b0
    · refine ⟨(IN.vp a2 (by decide)), ?_⟩
      refine ⟨(IN.vp hk (by decide)), ?_⟩
      refine ⟨(IN.vp hk (by decide)), ?_⟩
      rw [← nI_succ]
      exact ih (k + 1) _ (by omega) (DOK.upd b0 (R64.upd (b0 _ (IN.lt a2 (by decide))) (R64.at (a0 _ a1) hk)))
theorem sX4_restoreK {post : (Nat → Nat → Int32) → Prop} {lv : Nat} {DD : Nat → Nat → Int32} {KP : Nat → Nat → Int32} {p1 : Int32} (a0 : DOK DD) (a1 : KOK KP) (a2 : lv < 4) (a3 : IN p1 6) (hp : ∀ (u : Nat → Nat → Int32), DOK u → post u) : wX4_restoreK post lv DD KP p1 := by
  unfold wX4_restoreK
  refine ⟨65, sX4_restoreK_L2 a1 a2 a3 hp (fun i3 DD' g0_K25 => ?_) 64 0 _ rfl a0⟩
  exact hp _ g0_K25
theorem sX4_tell_L11 {post : Int32 × (Nat → Int32) × (Nat → Int32) × (Nat → Int32) × (Nat → Nat → Int32) × (Nat → Nat → Int32) → Prop} {K38 : Int32 → (Nat → Nat → Int32) → Prop} {DD : Nat → Nat → Int32} {p2 : Int32} {p3 : Int32} (a0 : DOK DD) (a1 : IN p2 6) (a2 : IN p3 4) (hp : ∀ (u : Int32 × (Nat → Int32) × (Nat → Int32) × (Nat → Int32) × (Nat → Nat → Int32) × (Nat → Nat → Int32)), RF u.2.2.1 → R64 u.2.2.2.1 → DOK u.2.2.2.2.1 → KOK u.2.2.2.2.2 → post u) (hK38 : ∀ (i5 : Int32) (KP' : Nat → Nat → Int32), KOK KP' → K38 i5 KP') : ∀ (m k : Nat) (KP' : Nat → Nat → Int32), k + m = 64 → KOK KP' → wX4_tell_L11 post K38 DD p2 p3 (m + 1) (nI k) KP' := by
  intro m
  induction m with
  | zero =>
    intro k KP' hkm b0
    refine ⟨fun _ => ?_, fun q => absurd (by rw [show k = 64 by omega]; decide) q⟩
    exact hK38 _ _ b0
  | succ m ih =>
    intro k KP' hkm b0
    have hk : IN (nI k) 64 := ⟨k, by omega, rfl⟩
    refine ⟨fun _ => ?_, fun _ => ?_⟩
    · exact hK38 _ _ b0
    · refine ⟨(IN.vp a1 (by decide)), ?_⟩
      refine ⟨(IN.vp hk (by decide)), ?_⟩
      refine ⟨(IN.vp hk (by decide)), ?_⟩
      rw [← nI_succ]
      exact ih (k + 1) _ (by omega) (KOK.upd b0 (R64.upd (b0 _ (IN.lt a2 (by decide))) (R64.at (a0 _ (IN.lt a1 (by decide))) hk)))
theorem sX4_tell {post : Int32 × (Nat → Int32) × (Nat → Int32) × (Nat → Int32) × (Nat → Nat → Int32) × (Nat → Nat → Int32) → Prop} {sp : Int32} {DD : Nat → Nat → Int32} {stf : Nat → Int32} {fsf : Nat → Int32} {jnf : Nat → Int32} {KP : Nat → Nat → Int32} {p1 : Int32} {p2 : Int32} {p3 : Int32} (a0 : DOK DD) (a1 : RF fsf) (a2 : R64 jnf) (a3 : KOK KP) (a4 : IN p1 6) (a5 : IN p2 6) (a6 : IN p3 4) (hp : ∀ (u : Int32 × (Nat → Int32) × (Nat → Int32) × (Nat → Int32) × (Nat → Nat → Int32) × (Nat → Nat → Int32)), RF u.2.2.1 → R64 u.2.2.2.1 → DOK u.2.2.2.2.1 → KOK u.2.2.2.2.2 → post u) : wX4_tell post sp DD stf fsf jnf KP p1 p2 p3 := by
  unfold wX4_tell
  refine ⟨(IN.vp a6 (by decide)), ?_⟩
  refine ⟨65, sX4_tell_L11 a0 a5 a6 hp (fun i5 KP' g0_K38 => ?_) 64 0 _ rfl a3⟩
  refine ⟨(IN.vp a4 (by decide)), ?_⟩
  refine ⟨(IN.vp a5 (by decide)), ?_⟩
  refine sX4_joinK a0 a1 a2 g0_K38 (IN.lt a6 (by decide)) (IN.lt a4 (by decide)) (IN.lt a5 (by decide)) (fun z_1 f0_z_1 f1_z_1 f2_z_1 => ?_)
  exact hp _ f0_z_1 f1_z_1 f2_z_1 g0_K38
theorem sX4_isSentence {post : Int32 → Prop} {sn : Nat} {p1 : Int32} (a0 : sn ≤ 40) (hp : ∀ r, vZ r → (¬ r = 0 → IN p1 sn) → post r) : wX4_isSentence post sn p1 := tX4_isSentence a0 (fun r z h => hp r z h.mp)
theorem sX4_built {post : Int32 → Prop} {sn : Nat} {sq : Nat → Nat → Int32} {p1 : Int32} (a0 : sn ≤ 40) (a1 : SOK sn sq) (a2 : IN p1 sn) (hp : ∀ (r : Int32), post r) : wX4_built post sn sq p1 := by
  unfold wX4_built
  refine ⟨(IN.vp a2 (by omega)), ?_⟩
  exact hp _
theorem sX4_no {post : Int32 → Int32 → Prop} {th : Int32} {p1 : Int32} (hp : ∀ (r : Int32) (u : Int32), post r u) : wX4_no post th p1 := by
  unfold wX4_no
  exact hp _ _
theorem sX4_truthOfF {post : Int64 → Int32 × (Nat → Int32) × (Nat → Int32) × (Nat → Int32) × (Nat → Int32) → Prop} {k : Nat} {po : Int64} {sp : Int32} {DD : Nat → Nat → Int32} {stf fsf jnf rwf : Nat → Int32} {sq : Nat → Nat → Int32} {yf : Nat → Int64} (hb : k ≤ 40) (hb2 : 40 ≤ 40) (hw : wfS k (sq k 0) (sq k 1) (sq k 2)) (a0 : DOK DD) (a1 : RF fsf) (a2 : R64 jnf) (a3 : R64 rwf) (hp : ∀ (r : Int64) (u : Int32 × (Nat → Int32) × (Nat → Int32) × (Nat → Int32) × (Nat → Int32)), RF u.2.2.1 → R64 u.2.2.2.1 → R64 u.2.2.2.2 → post r u) : wX4_truthOfF post k po sp DD stf fsf jnf rwf yf sq := by
  have hq : ∀ r, post r (sp, stf, fsf, jnf, rwf) := fun r => hp r _ a1 a2 a3
  obtain ⟨hk, h0, h1, h4, h5, h2⟩ := hw
  have v1 : (sq k 0 = 1 ∨ sq k 0 = 2 ∨ sq k 0 = 3) → vp_in (sq k (1 : Int32).toNatClampNeg) 40 := fun q => by
    rw [c1]
    exact ((h1 q).mono hb).vp (by omega)
  have v2 : ¬ sq k 0 = 0 → ¬ sq k 0 = 1 → vp_in (sq k (2 : Int32).toNatClampNeg) 40 := fun q q2 => by
    rw [c2]
    exact ((h2 q q2).mono hb).vp (by omega)
  have i4 : sq k 0 = 4 → IN (sq k (1 : Int32).toNatClampNeg) 6 := fun q => by
    rw [c1]
    exact h4 q
  refine ⟨fun _ => sX4_fact (fun r => hq r), fun n0 => ⟨fun e => ⟨v1 (Or.inl e), hq _⟩, fun n1 => ⟨fun e => ⟨v1 (Or.inr (Or.inl e)), v2 n0 n1, hq _⟩, fun n2 => ⟨fun e => ⟨v1 (Or.inr (Or.inr e)), v2 n0 n1, hq _⟩, fun n3 => ⟨fun e => ⟨v2 n0 n1, sX4_known a0 (i4 e) (fun r => hq r)⟩, fun n4 => ⟨fun e => ⟨v2 n0 n1, sX4_knownByAll a0 (fun r => hq r)⟩, fun n5 => ⟨fun e => ⟨v2 n0 n1, sX4_common a0 (fun r => hq r)⟩, fun n6 => ⟨v2 n0 n1, sX4_together a0 a1 a2 a3 (fun r u f1 f2 f3 => hp r _ f1 f2 f3)⟩⟩⟩⟩⟩⟩⟩⟩
theorem sX4_truthOfA {post : Int64 → Int32 × (Nat → Int32) × (Nat → Int32) × (Nat → Int32) × (Nat → Int32) → Prop} {k : Nat} {po : Int64} {sp : Int32} {DD : Nat → Nat → Int32} {stf fsf jnf rwf : Nat → Int32} {sq : Nat → Nat → Int32} {yn : Nat} {yf : Nat → Int64} (hb : k ≤ yn) (hb2 : yn ≤ 40) (hw : wfS k (sq k 0) (sq k 1) (sq k 2)) (a0 : DOK DD) (a1 : RF fsf) (a2 : R64 jnf) (a3 : R64 rwf) (hp : ∀ (r : Int64) (u : Int32 × (Nat → Int32) × (Nat → Int32) × (Nat → Int32) × (Nat → Int32)), RF u.2.2.1 → R64 u.2.2.2.1 → R64 u.2.2.2.2 → post r u) : wX4_truthOfA post k po sp DD stf fsf jnf rwf sq yn yf := by
  have hq : ∀ r, post r (sp, stf, fsf, jnf, rwf) := fun r => hp r _ a1 a2 a3
  obtain ⟨hk, h0, h1, h4, h5, h2⟩ := hw
  have v1 : (sq k 0 = 1 ∨ sq k 0 = 2 ∨ sq k 0 = 3) → vp_in (sq k (1 : Int32).toNatClampNeg) yn := fun q => by
    rw [c1]
    exact ((h1 q).mono hb).vp (by omega)
  have v2 : ¬ sq k 0 = 0 → ¬ sq k 0 = 1 → vp_in (sq k (2 : Int32).toNatClampNeg) yn := fun q q2 => by
    rw [c2]
    exact ((h2 q q2).mono hb).vp (by omega)
  have i4 : sq k 0 = 4 → IN (sq k (1 : Int32).toNatClampNeg) 6 := fun q => by
    rw [c1]
    exact h4 q
  refine ⟨fun _ => sX4_fact (fun r => hq r), fun n0 => ⟨fun e => ⟨v1 (Or.inl e), hq _⟩, fun n1 => ⟨fun e => ⟨v1 (Or.inr (Or.inl e)), v2 n0 n1, hq _⟩, fun n2 => ⟨fun e => ⟨v1 (Or.inr (Or.inr e)), v2 n0 n1, hq _⟩, fun n3 => ⟨fun e => ⟨v2 n0 n1, sX4_known a0 (i4 e) (fun r => hq r)⟩, fun n4 => ⟨fun e => ⟨v2 n0 n1, sX4_knownByAll a0 (fun r => hq r)⟩, fun n5 => ⟨fun e => ⟨v2 n0 n1, sX4_common a0 (fun r => hq r)⟩, fun n6 => ⟨v2 n0 n1, sX4_together a0 a1 a2 a3 (fun r u f1 f2 f3 => hp r _ f1 f2 f3)⟩⟩⟩⟩⟩⟩⟩⟩
theorem sX4_truths_L8 {post : Int32 × (Nat → Int32) × (Nat → Int32) × (Nat → Int32) × (Nat → Int32) × (Nat → Int64) → Prop} {K40 : Int32 → Int32 → (Nat → Int32) → (Nat → Int32) → (Nat → Int32) → (Nat → Int32) → (Nat → Int64) → Prop} {po : Int64} {DD : Nat → Nat → Int32} {sn : Nat} {sq : Nat → Nat → Int32} (hn : sn ≤ 40) (a0 : DOK DD) (a1 : SOK sn sq) (hK : ∀ i sp stf fsf jnf rwf cq, RF fsf → R64 jnf → R64 rwf → K40 i sp stf fsf jnf rwf cq) : ∀ (m k : Nat) (sp : Int32) (stf fsf jnf rwf : Nat → Int32) (cq : Nat → Int64), k + m = sn → RF fsf → R64 jnf → R64 rwf → wX4_truths_L8 post K40 po DD sn sq (nI sn - (1 : Int32)) (m + 1) (nI k) sp stf fsf jnf rwf cq := by
  intro m
  induction m with
  | zero =>
    intro k sp stf fsf jnf rwf cq h f1 f2 f3
    exact ⟨fun _ => hK _ _ _ _ _ _ _ f1 f2 f3, fun q => absurd ((predLt sn (by omega) k (by omega)).mpr (by omega)) q⟩
  | succ m ih =>
    intro k sp stf fsf jnf rwf cq h f1 f2 f3
    have hk : k < sn := by omega
    have e : (nI k).toNatClampNeg = k := nI_clamp (by omega)
    refine ⟨fun _ => hK _ _ _ _ _ _ _ f1 f2 f3, fun _ => ⟨nI_in hk (by omega), ?_⟩⟩
    rw [e, predLe sn (by omega), nI_clamp (show sn < 2 ^ 31 by omega)]
    refine sX4_truthOfA (by omega) hn (a1 k hk).1 a0 f1 f2 f3 (fun r u g1 g2 g3 => ⟨nI_in hk (by omega), ?_⟩)
    rw [← nI_succ]
    exact ih (k + 1) _ _ _ _ _ _ (by omega) g1 g2 g3
theorem sX4_truths_ {post : Int32 × (Nat → Int32) × (Nat → Int32) × (Nat → Int32) × (Nat → Int32) × (Nat → Int64) → Prop} {po : Int64} {sp : Int32} {DD : Nat → Nat → Int32} {stf fsf jnf rwf : Nat → Int32} {sn : Nat} {sq : Nat → Nat → Int32} (a0 : DOK DD) (a1 : RF fsf) (a2 : R64 jnf) (a3 : R64 rwf) (a4 : sn ≤ 40) (a5 : SOK sn sq) (hp : ∀ (u : Int32 × (Nat → Int32) × (Nat → Int32) × (Nat → Int32) × (Nat → Int32) × (Nat → Int64)), RF u.2.2.1 → R64 u.2.2.2.1 → R64 u.2.2.2.2.1 → post u) : wX4_truths_ post po sp DD stf fsf jnf rwf sn sq := by
  refine ⟨?_, sn + 1, sX4_truths_L8 a4 a0 a5 (fun i sp stf fsf jnf rwf cq f1 f2 f3 => hp _ f1 f2 f3) sn 0 _ _ _ _ _ _ (Nat.zero_add _) a1 a2 a3⟩
  rw [predLe sn (by omega), nI_clamp (by omega)]
  exact ⟨nI_pos (by omega), a4⟩
theorem sX4_part__L49 {post : (Nat → Nat → Int32) → Prop} {K83 : Int32 → Prop} {p2 : Int64} {w : Nat} {cq_1 : Nat → Int32} (hw : w < 64) (hK : ∀ i, IN i 64 → K83 i) : ∀ (m k : Nat), k + m = w → wX4_part__L49 post K83 p2 (nI w) cq_1 (m + 1) (nI k) := by
  intro m
  induction m with
  | zero =>
    intro k h
    obtain rfl : k = w := by omega
    exact ⟨nI_in hw (by decide), nI_in hw (by decide), fun c => absurd rfl c, fun _ => eX4_has_ (eX4_has_ ⟨fun _ => hK _ ⟨k, hw, rfl⟩, fun c => absurd rfl c⟩)⟩
  | succ m ih =>
    intro k h
    have hr : wX4_part__L49 post K83 p2 (nI w) cq_1 (m + 1) (nI k + 1) := by
      rw [← nI_succ]
      exact ih (k + 1) (by omega)
    exact ⟨nI_in (by omega) (by decide), nI_in hw (by decide), fun _ => hr, fun _ => eX4_has_ (eX4_has_ ⟨fun _ => hK _ ⟨k, by omega, rfl⟩, fun _ => hr⟩)⟩
theorem sX4_part__L39 {post : (Nat → Nat → Int32) → Prop} {K100 : Int32 → (Nat → Nat → Int32) → Prop} {p1 : Int32} {p2 : Int64} {cq_1 : Nat → Int32} (h1 : IN p1 6) (hK : ∀ i D, DOK D → K100 i D) : ∀ (m k : Nat) (D : Nat → Nat → Int32), k + m = 64 → DOK D → wX4_part__L39 post K100 p1 p2 cq_1 (m + 1) (nI k) D := by
  intro m
  induction m with
  | zero =>
    intro k D h hD
    obtain rfl : k = 64 := by omega
    exact ⟨fun _ => hK _ _ hD, fun q => absurd (by decide) q⟩
  | succ m ih =>
    intro k D h hD
    refine ⟨fun _ => hK _ _ hD, fun _ => ⟨k + 1, sX4_part__L49 (by omega) (fun i hi => ⟨h1.vp (by decide), nI_in (by omega) (by decide), ?_⟩) k 0 (Nat.zero_add _)⟩⟩
    rw [← nI_succ]
    exact ih (k + 1) _ (by omega) (hD.upd ((hD _ (h1.lt (by decide))).upd hi))
theorem sX4_part__L9 {post : (Nat → Nat → Int32) → Prop} {K36 : Int32 → (Nat → Int32) → Prop} {DD : Nat → Nat → Int32} {p1 : Int32} (h1 : IN p1 6) (hK : ∀ i c, K36 i c) : ∀ (m k : Nat) (c : Nat → Int32), k + m = 64 → wX4_part__L9 post K36 DD p1 (m + 1) (nI k) c := by
  intro m
  induction m with
  | zero =>
    intro k c h
    obtain rfl : k = 64 := by omega
    exact ⟨fun _ => hK _ _, fun q => absurd (by decide) q⟩
  | succ m ih =>
    intro k c h
    refine ⟨fun _ => hK _ _, fun _ => ⟨h1.vp (by decide), nI_in (by omega) (by decide), nI_in (by omega) (by decide), ?_⟩⟩
    rw [← nI_succ]
    exact ih (k + 1) _ (by omega)
theorem sX4_part_ {post : (Nat → Nat → Int32) → Prop} {DD : Nat → Nat → Int32} {p1 : Int32} {p2 : Int64} (a0 : DOK DD) (a1 : IN p1 6) (hp : ∀ (u : Nat → Nat → Int32), DOK u → post u) : wX4_part_ post DD p1 p2 := ⟨65, sX4_part__L9 a1 (fun _ _ => ⟨65, sX4_part__L39 a1 (fun _ D h => hp D h) 64 0 _ rfl a0⟩) 64 0 _ rfl⟩
theorem sX4_find {th mr : Int32} {po : Int64} {mf : Int32} {DD : Nat → Nat → Int32} {ctf : Nat → Int32} {KP : Nat → Nat → Int32} {sn : Nat} {sq : Nat → Nat → Int32} (hn : sn ≤ 40) (hs : SOK sn sq) (hD : DOK DD) : ∀ (n q : Nat) {post : Int32 × (Nat → Int32) × (Nat → Int32) × (Nat → Int32) × (Nat → Int32) × (Nat → Int64) × (Nat → Int32) → Prop} {sp : Int32} {stf fsf jnf rwf : Nat → Int32} {fdf : Nat → Int64} {aff : Nat → Int32}, q < n → q < sn → RF fsf → R64 jnf → R64 rwf → (∀ (u : Int32 × (Nat → Int32) × (Nat → Int32) × (Nat → Int32) × (Nat → Int32) × (Nat → Int64) × (Nat → Int32)), RF u.2.2.1 → R64 u.2.2.2.1 → R64 u.2.2.2.2.1 → post u) → wX4_find n post th mr po mf sp DD ctf stf fsf jnf rwf fdf aff KP sn sq (nI q) := by
  intro n
  induction n with
  | zero =>
    intro q _ _ _ _ _ _ _ _ h
    exact absurd h (Nat.not_lt_zero q)
  | succ n ih =>
    intro q post sp stf fsf jnf rwf fdf aff hqn hqs f1 f2 f3 hp
    have e : (nI q).toNatClampNeg = q := nI_clamp (by omega)
    have v40 : vp_in (nI q) 40 := nI_in (by omega) (by decide)
    have hw := (hs q hqs).1
    have T : ∀ {P : Int32 × (Nat → Int32) × (Nat → Int32) × (Nat → Int32) × (Nat → Int32) × (Nat → Int64) × (Nat → Int32) → Prop} (sp : Int32) (stf fsf jnf rwf : Nat → Int32) (fdf fdf2 : Nat → Int64) (aff : Nat → Int32), RF fsf → R64 jnf → R64 rwf → (∀ (u : Int32 × (Nat → Int32) × (Nat → Int32) × (Nat → Int32) × (Nat → Int32) × (Nat → Int64) × (Nat → Int32)), RF u.2.2.1 → R64 u.2.2.2.1 → R64 u.2.2.2.2.1 → P u) → wX4_truthOfF (fun (r_1 : Int64) (z_1 : Int32 × (Nat → Int32) × (Nat → Int32) × (Nat → Int32) × (Nat → Int32)) => vp_in (nI q) 40 ∧ vp_in (nI q) 40 ∧ P (z_1.1, z_1.2.1, z_1.2.2.1, z_1.2.2.2.1, z_1.2.2.2.2, (vp_updL fdf2 q r_1), aff)) q po sp DD stf fsf jnf rwf fdf sq := fun sp stf fsf jnf rwf fdf fdf2 aff g1 g2 g3 hP => sX4_truthOfF (by omega) (by omega) hw hD g1 g2 g3 (fun r u k1 k2 k3 => ⟨v40, v40, hP _ k1 k2 k3⟩)
    rw [wX4_find, e, c0, c1, c2]
    refine ⟨v40, fun _ => ⟨nI_in hqs (by omega), fun k0 => ⟨fun k1 => ?_, fun k1 => ?_⟩, fun k0 => ⟨fun k4 => ⟨fun k1 => ?_, fun k1 => ?_⟩, fun k4 => ?_⟩⟩, fun _ => hp _ f1 f2 f3⟩
    · exact T _ _ _ _ _ _ _ _ f1 f2 f3 hp
    · exact absurd (show sq q 0 ≤ (1 : Int32) from by
        rw [Int32.le_iff_toInt_le] at k0 ⊢
        have e0 : (0 : Int32).toInt = 0 := by decide
        have e1 : (1 : Int32).toInt = 1 := by decide
        omega) k1
    · exact absurd (show ¬ (4 : Int32) ≤ sq q 0 from by
        rw [Int32.le_iff_toInt_le] at k1 ⊢
        have e0 : (4 : Int32).toInt = 4 := by decide
        have e1 : (1 : Int32).toInt = 1 := by decide
        omega) (fun h => h k4)
    · have n0 : ¬ sq q 0 = 0 := fun q0 => k0 (by rw [q0]; decide)
      have n1 : ¬ sq q 0 = 1 := fun q0 => k1 (by rw [q0]; decide)
      obtain ⟨b, hb, eb⟩ := hw.2.2.2.2.2 n0 n1
      rw [eb]
      exact ih b (by omega) (by omega) f1 f2 f3 (fun u g1 g2 g3 => T _ _ _ _ _ _ _ _ g1 g2 g3 hp)
    · have n0 : ¬ sq q 0 = 0 := fun q0 => k0 (by rw [q0]; decide)
      have n3 : sq q 0 = 1 ∨ sq q 0 = 2 ∨ sq q 0 = 3 := by
        obtain ⟨k, hk, ek⟩ := hw.1
        rw [ek] at k4 n0 ⊢
        rw [Int32.le_iff_toInt_le, nI_toInt (by omega), show (4 : Int32).toInt = 4 from by decide] at k4
        match k, k4, n0 with
        | 0, _, h => exact absurd rfl h
        | 1, _, _ => exact Or.inl rfl
        | 2, _, _ => exact Or.inr (Or.inl rfl)
        | 3, _, _ => exact Or.inr (Or.inr rfl)
        | k + 4, h, _ => exact absurd (by omega) h
      obtain ⟨a, ha, ea⟩ := hw.2.2.1 n3
      rw [ea]
      refine ih a (by omega) (by omega) f1 f2 f3 (fun u g1 g2 g3 => ⟨fun k1 => T _ _ _ _ _ _ _ _ g1 g2 g3 hp, fun k1 => ?_⟩)
      have n1 : ¬ sq q 0 = 1 := fun q0 => k1 (by rw [q0]; decide)
      obtain ⟨b, hb, eb⟩ := hw.2.2.2.2.2 n0 n1
      rw [eb]
      exact ih b (by omega) (by omega) g1 g2 g3 (fun u g1 g2 g3 => T _ _ _ _ _ _ _ _ g1 g2 g3 hp)
theorem sX4_truthNow_L2 {post : Int64 → Int32 × (Nat → Int32) × (Nat → Int32) × (Nat → Int32) × (Nat → Int32) × (Nat → Int64) × (Nat → Int32) → Prop} {K20 : Int32 → (Nat → Int32) → Prop} {q : Nat} (hq : q < 40) (hK : ∀ i a, K20 i a) : ∀ (m k : Nat) (aff : Nat → Int32), k + m = q + 1 → wX4_truthNow_L2 post K20 (nI q) (m + 1) (nI k) aff := by
  intro m
  induction m with
  | zero =>
    intro k aff h
    exact ⟨fun _ => hK _ _, fun c => absurd ((nILt (by omega) (by omega)).mpr (by omega)) c⟩
  | succ m ih =>
    intro k aff h
    refine ⟨fun _ => hK _ _, fun _ => ⟨nI_in (by omega) (by decide), ?_⟩⟩
    rw [← nI_succ]
    exact ih (k + 1) _ (by omega)
theorem sX4_truthNow {post : Int64 → Int32 × (Nat → Int32) × (Nat → Int32) × (Nat → Int32) × (Nat → Int32) × (Nat → Int64) × (Nat → Int32) → Prop} {th mr : Int32} {po : Int64} {mf sp : Int32} {DD : Nat → Nat → Int32} {ctf stf fsf jnf rwf : Nat → Int32} {fdf : Nat → Int64} {aff : Nat → Int32} {KP : Nat → Nat → Int32} {sn : Nat} {sq : Nat → Nat → Int32} {p1 : Int32} (a0 : DOK DD) (a1 : RF fsf) (a2 : R64 jnf) (a3 : R64 rwf) (a4 : sn ≤ 40) (a5 : SOK sn sq) (a6 : IN p1 sn) (hp : ∀ (r : Int64) (u : Int32 × (Nat → Int32) × (Nat → Int32) × (Nat → Int32) × (Nat → Int32) × (Nat → Int64) × (Nat → Int32)), RF u.2.2.1 → R64 u.2.2.2.1 → R64 u.2.2.2.2.1 → post r u) : wX4_truthNow post th mr po mf sp DD ctf stf fsf jnf rwf fdf aff KP sn sq p1 := by
  obtain ⟨q, hq, rfl⟩ := a6
  exact ⟨q + 2, sX4_truthNow_L2 (by omega) (fun _ _ => ⟨41, Nat.le_refl _, sX4_find a4 a5 a0 41 q (by omega) hq a1 a2 a3 (fun u g1 g2 g3 => ⟨nI_in (by omega) (by decide), hp _ _ g1 g2 g3⟩)⟩) (q + 1) 0 _ (Nat.zero_add _)⟩
theorem sX4_knowsIt {post : Int32 → Int32 × (Nat → Int32) × (Nat → Int32) × (Nat → Int32) × (Nat → Int32) × (Nat → Int64) × (Nat → Int32) → Prop} {th : Int32} {mr : Int32} {po : Int64} {mf : Int32} {sp : Int32} {DD : Nat → Nat → Int32} {ctf : Nat → Int32} {stf : Nat → Int32} {fsf : Nat → Int32} {jnf : Nat → Int32} {rwf : Nat → Int32} {fdf : Nat → Int64} {aff : Nat → Int32} {KP : Nat → Nat → Int32} {sn : Nat} {sq : Nat → Nat → Int32} {p1 : Int32} {p2 : Int32} (a0 : IN mr 64) (a1 : DOK DD) (a2 : RF fsf) (a3 : R64 jnf) (a4 : R64 rwf) (a5 : KOK KP) (a6 : sn ≤ 40) (a7 : SOK sn sq) (a8 : IN p1 6) (a9 : IN p2 sn) (hp : ∀ (r : Int32) (u : Int32 × (Nat → Int32) × (Nat → Int32) × (Nat → Int32) × (Nat → Int32) × (Nat → Int64) × (Nat → Int32)), vZ r → RF u.2.2.1 → R64 u.2.2.2.1 → R64 u.2.2.2.2.1 → post r u) : wX4_knowsIt post th mr po mf sp DD ctf stf fsf jnf rwf fdf aff KP sn sq p1 p2 := by
  unfold wX4_knowsIt
  refine sX4_alikeNow a1 a8 a0 (fun r_1 => ?_)
  refine sX4_truthNow a1 a2 a3 a4 a6 a7 a9 (fun r_2 z_1 f0_z_1 f1_z_1 f2_z_1 => ?_)
  refine ⟨fun hc1 => ?_, fun hc1 => ?_⟩
  · exact hp _ _ (Or.inl rfl) f0_z_1 f1_z_1 f2_z_1
  · exact hp _ _ (Or.inr rfl) f0_z_1 f1_z_1 f2_z_1
theorem sX4_canBy0_L17 {post : Int32 → Int32 × (Nat → Int32) × (Nat → Int32) × (Nat → Int32) × (Nat → Int32) × (Nat → Int64) × (Nat → Int32) → Prop} {K95 : Int32 → Int32 → Prop} (hp : ∀ (r : Int32) (u : Int32 × (Nat → Int32) × (Nat → Int32) × (Nat → Int32) × (Nat → Int32) × (Nat → Int64) × (Nat → Int32)), vZ r → RF u.2.2.1 → R64 u.2.2.2.1 → R64 u.2.2.2.2.1 → post r u) (hK95 : ∀ (i4 : Int32) (i5 : Int32), vZ i4 → K95 i4 i5) : ∀ (m k : Nat) (i4 : Int32), k + m = 6 → vZ i4 → wX4_canBy0_L17 post K95 (m + 1) i4 (nI k) := by
  intro m
  induction m with
  | zero =>
    intro k i4 hkm b0
    refine ⟨fun _ => ?_, fun q => absurd (by rw [show k = 6 by omega]; decide) q⟩
    exact hK95 _ _ b0
  | succ m ih =>
    intro k i4 hkm b0
    have hk : IN (nI k) 6 := ⟨k, by omega, rfl⟩
    refine ⟨fun _ => ?_, fun _ => ?_⟩
    · exact hK95 _ _ b0
    · exact hK95 _ _ b0
theorem sX4_canBy0 {post : Int32 → Int32 × (Nat → Int32) × (Nat → Int32) × (Nat → Int32) × (Nat → Int32) × (Nat → Int64) × (Nat → Int32) → Prop} {th : Int32} {mr : Int32} {po : Int64} {mf : Int32} {sp : Int32} {DD : Nat → Nat → Int32} {ctf : Nat → Int32} {stf : Nat → Int32} {fsf : Nat → Int32} {jnf : Nat → Int32} {rwf : Nat → Int32} {fdf : Nat → Int64} {aff : Nat → Int32} {KP : Nat → Nat → Int32} {sn : Nat} {sq : Nat → Nat → Int32} {p1 : Int32} {p2 : Int32} (a0 : IN mr 64) (a1 : DOK DD) (a2 : RF fsf) (a3 : R64 jnf) (a4 : R64 rwf) (a5 : KOK KP) (a6 : sn ≤ 40) (a7 : SOK sn sq) (a8 : IN p1 6) (a9 : IN p2 sn) (hp : ∀ (r : Int32) (u : Int32 × (Nat → Int32) × (Nat → Int32) × (Nat → Int32) × (Nat → Int32) × (Nat → Int64) × (Nat → Int32)), vZ r → RF u.2.2.1 → R64 u.2.2.2.1 → R64 u.2.2.2.2.1 → post r u) : wX4_canBy0 post th mr po mf sp DD ctf stf fsf jnf rwf fdf aff KP sn sq p1 p2 := by
  unfold wX4_canBy0
  refine sX4_knowsIt a0 a1 a2 a3 a4 a5 a6 a7 a8 a9 (fun r_1 z_1 f0_z_1 f1_z_1 f2_z_1 f3_z_1 => ?_)
  refine ⟨fun hc1 => ?_, fun hc1 => ?_⟩
  · refine ⟨7, sX4_canBy0_L17 hp (fun i4 i5 g0_K95 => ?_) 6 0 _ rfl (Or.inl rfl)⟩
    refine ⟨(by assumption), ?_⟩
    exact hp _ _ g0_K95 f1_z_1 f2_z_1 f3_z_1
  · exact hp _ _ (Or.inr rfl) f1_z_1 f2_z_1 f3_z_1
theorem sX4_canBy1_L31 {post : Int32 → Int32 × (Nat → Int32) × (Nat → Int32) × (Nat → Int32) × (Nat → Int32) × (Nat → Int64) × (Nat → Int32) × (Nat → Nat → Int32) × (Nat → Nat → Int32) → Prop} {K89 : Int32 → Int32 → Int32 → (Nat → Int32) → (Nat → Int32) → (Nat → Int32) → (Nat → Int32) → (Nat → Int64) → (Nat → Int32) → (Nat → Nat → Int32) → (Nat → Nat → Int32) → Prop} {th : Int32} {mr : Int32} {po : Int64} {mf : Int32} {ctf : Nat → Int32} {sn : Nat} {sq : Nat → Nat → Int32} {p1 : Int32} {p2 : Int32} {i5 : Int32} (a0 : IN mr 64) (a1 : sn ≤ 40) (a2 : SOK sn sq) (a3 : IN p1 6) (a4 : IN p2 sn) (a5 : IN i5 6) (hp : ∀ (r : Int32) (u : Int32 × (Nat → Int32) × (Nat → Int32) × (Nat → Int32) × (Nat → Int32) × (Nat → Int64) × (Nat → Int32) × (Nat → Nat → Int32) × (Nat → Nat → Int32)), vZ r → RF u.2.2.1 → R64 u.2.2.2.1 → R64 u.2.2.2.2.1 → DOK u.2.2.2.2.2.2.2.1 → KOK u.2.2.2.2.2.2.2.2 → post r u) (hK89 : ∀ (i4 : Int32) (i6 : Int32) (sp' : Int32) (stf' : Nat → Int32) (fsf' : Nat → Int32) (jnf' : Nat → Int32) (rwf' : Nat → Int32) (fdf' : Nat → Int64) (aff' : Nat → Int32) (DD' : Nat → Nat → Int32) (KP' : Nat → Nat → Int32), RF fsf' → R64 jnf' → R64 rwf' → DOK DD' → KOK KP' → vZ i4 → K89 i4 i6 sp' stf' fsf' jnf' rwf' fdf' aff' DD' KP') : ∀ (m k : Nat) (i4 : Int32) (sp' : Int32) (stf' : Nat → Int32) (fsf' : Nat → Int32) (jnf' : Nat → Int32) (rwf' : Nat → Int32) (fdf' : Nat → Int64) (aff' : Nat → Int32) (DD' : Nat → Nat → Int32) (KP' : Nat → Nat → Int32), k + m = 6 → RF fsf' → R64 jnf' → R64 rwf' → DOK DD' → KOK KP' → vZ i4 → wX4_canBy1_L31 post K89 th mr po mf ctf sn sq p1 p2 i5 (m + 1) i4 (nI k) sp' stf' fsf' jnf' rwf' fdf' aff' DD' KP' := by
  intro m
  induction m with
  | zero =>
    intro k i4 sp' stf' fsf' jnf' rwf' fdf' aff' DD' KP' hkm b0 b1 b2 b3 b4 b5
    refine ⟨fun _ => ?_, fun q => absurd (by rw [show k = 6 by omega]; decide) q⟩
    exact hK89 _ _ _ _ _ _ _ _ _ _ _ b0 b1 b2 b3 b4 b5
  | succ m ih =>
    intro k i4 sp' stf' fsf' jnf' rwf' fdf' aff' DD' KP' hkm b0 b1 b2 b3 b4 b5
    have hk : IN (nI k) 6 := ⟨k, by omega, rfl⟩
    refine ⟨fun _ => ?_, fun _ => ?_⟩
    · exact hK89 _ _ _ _ _ _ _ _ _ _ _ b0 b1 b2 b3 b4 b5
    · refine ⟨fun hc1 => ?_, fun hc1 => ?_⟩
      · exact hK89 _ _ _ _ _ _ _ _ _ _ _ b0 b1 b2 b3 b4 b5
      · refine ⟨fun hc2 => ?_, fun hc2 => ?_⟩
        · refine sX4_tell b3 b0 b1 b4 a5 hk (⟨1, by decide, by decide⟩ : IN (1 : Int32) 4) (fun z_2 f0_z_2 f1_z_2 f2_z_2 f3_z_2 => ?_)
          refine sX4_canBy0 a0 f2_z_2 f0_z_2 f1_z_2 b2 f3_z_2 a1 a2 a3 a4 (fun r_3 z_3 f0_z_3 f1_z_3 f2_z_3 f3_z_3 => ?_)
          refine sX4_restoreK f2_z_2 f3_z_2 (IN.lt (⟨1, by decide, by decide⟩ : IN (1 : Int32) 4) (by decide)) hk (fun DD_2 f0_DD_2 => ?_)
          rw [← nI_succ]
          exact ih (k + 1) _ _ _ _ _ _ _ _ _ _ (by omega) f1_z_3 f2_z_3 f3_z_3 f0_DD_2 f3_z_2 f0_z_3
        · rw [← nI_succ]
          exact ih (k + 1) _ _ _ _ _ _ _ _ _ _ (by omega) b0 b1 b2 b3 b4 b5
theorem sX4_canBy1_L17 {post : Int32 → Int32 × (Nat → Int32) × (Nat → Int32) × (Nat → Int32) × (Nat → Int32) × (Nat → Int64) × (Nat → Int32) × (Nat → Nat → Int32) × (Nat → Nat → Int32) → Prop} {K95 : Int32 → Int32 → Int32 → (Nat → Int32) → (Nat → Int32) → (Nat → Int32) → (Nat → Int32) → (Nat → Int64) → (Nat → Int32) → (Nat → Nat → Int32) → (Nat → Nat → Int32) → Prop} {th : Int32} {mr : Int32} {po : Int64} {mf : Int32} {ctf : Nat → Int32} {sn : Nat} {sq : Nat → Nat → Int32} {p1 : Int32} {p2 : Int32} (a0 : IN mr 64) (a1 : sn ≤ 40) (a2 : SOK sn sq) (a3 : IN p1 6) (a4 : IN p2 sn) (hp : ∀ (r : Int32) (u : Int32 × (Nat → Int32) × (Nat → Int32) × (Nat → Int32) × (Nat → Int32) × (Nat → Int64) × (Nat → Int32) × (Nat → Nat → Int32) × (Nat → Nat → Int32)), vZ r → RF u.2.2.1 → R64 u.2.2.2.1 → R64 u.2.2.2.2.1 → DOK u.2.2.2.2.2.2.2.1 → KOK u.2.2.2.2.2.2.2.2 → post r u) (hK95 : ∀ (i4 : Int32) (i5 : Int32) (sp' : Int32) (stf' : Nat → Int32) (fsf' : Nat → Int32) (jnf' : Nat → Int32) (rwf' : Nat → Int32) (fdf' : Nat → Int64) (aff' : Nat → Int32) (DD' : Nat → Nat → Int32) (KP' : Nat → Nat → Int32), RF fsf' → R64 jnf' → R64 rwf' → DOK DD' → KOK KP' → vZ i4 → K95 i4 i5 sp' stf' fsf' jnf' rwf' fdf' aff' DD' KP') : ∀ (m k : Nat) (i4 : Int32) (sp' : Int32) (stf' : Nat → Int32) (fsf' : Nat → Int32) (jnf' : Nat → Int32) (rwf' : Nat → Int32) (fdf' : Nat → Int64) (aff' : Nat → Int32) (DD' : Nat → Nat → Int32) (KP' : Nat → Nat → Int32), k + m = 6 → RF fsf' → R64 jnf' → R64 rwf' → DOK DD' → KOK KP' → vZ i4 → wX4_canBy1_L17 post K95 th mr po mf ctf sn sq p1 p2 (m + 1) i4 (nI k) sp' stf' fsf' jnf' rwf' fdf' aff' DD' KP' := by
  intro m
  induction m with
  | zero =>
    intro k i4 sp' stf' fsf' jnf' rwf' fdf' aff' DD' KP' hkm b0 b1 b2 b3 b4 b5
    refine ⟨fun _ => ?_, fun q => absurd (by rw [show k = 6 by omega]; decide) q⟩
    exact hK95 _ _ _ _ _ _ _ _ _ _ _ b0 b1 b2 b3 b4 b5
  | succ m ih =>
    intro k i4 sp' stf' fsf' jnf' rwf' fdf' aff' DD' KP' hkm b0 b1 b2 b3 b4 b5
    have hk : IN (nI k) 6 := ⟨k, by omega, rfl⟩
    refine ⟨fun _ => ?_, fun _ => ?_⟩
    · exact hK95 _ _ _ _ _ _ _ _ _ _ _ b0 b1 b2 b3 b4 b5
    · refine ⟨7, sX4_canBy1_L31 a0 a1 a2 a3 a4 hk hp (fun i4 i6 sp' stf' fsf' jnf' rwf' fdf' aff' DD' KP' g0_K89 g1_K89 g2_K89 g3_K89 g4_K89 g5_K89 => ?_) 6 0 _ _ _ _ _ _ _ _ _ _ rfl b0 b1 b2 b3 b4 b5⟩
      rw [← nI_succ]
      exact ih (k + 1) _ _ _ _ _ _ _ _ _ _ (by omega) g0_K89 g1_K89 g2_K89 g3_K89 g4_K89 g5_K89
theorem sX4_canBy1 {post : Int32 → Int32 × (Nat → Int32) × (Nat → Int32) × (Nat → Int32) × (Nat → Int32) × (Nat → Int64) × (Nat → Int32) × (Nat → Nat → Int32) × (Nat → Nat → Int32) → Prop} {th : Int32} {mr : Int32} {po : Int64} {mf : Int32} {sp : Int32} {DD : Nat → Nat → Int32} {ctf : Nat → Int32} {stf : Nat → Int32} {fsf : Nat → Int32} {jnf : Nat → Int32} {rwf : Nat → Int32} {fdf : Nat → Int64} {aff : Nat → Int32} {KP : Nat → Nat → Int32} {sn : Nat} {sq : Nat → Nat → Int32} {p1 : Int32} {p2 : Int32} (a0 : IN mr 64) (a1 : DOK DD) (a2 : RF fsf) (a3 : R64 jnf) (a4 : R64 rwf) (a5 : KOK KP) (a6 : sn ≤ 40) (a7 : SOK sn sq) (a8 : IN p1 6) (a9 : IN p2 sn) (hp : ∀ (r : Int32) (u : Int32 × (Nat → Int32) × (Nat → Int32) × (Nat → Int32) × (Nat → Int32) × (Nat → Int64) × (Nat → Int32) × (Nat → Nat → Int32) × (Nat → Nat → Int32)), vZ r → RF u.2.2.1 → R64 u.2.2.2.1 → R64 u.2.2.2.2.1 → DOK u.2.2.2.2.2.2.2.1 → KOK u.2.2.2.2.2.2.2.2 → post r u) : wX4_canBy1 post th mr po mf sp DD ctf stf fsf jnf rwf fdf aff KP sn sq p1 p2 := by
  unfold wX4_canBy1
  refine sX4_knowsIt a0 a1 a2 a3 a4 a5 a6 a7 a8 a9 (fun r_1 z_1 f0_z_1 f1_z_1 f2_z_1 f3_z_1 => ?_)
  refine ⟨fun hc1 => ?_, fun hc1 => ?_⟩
  · refine ⟨7, sX4_canBy1_L17 a0 a6 a7 a8 a9 hp (fun i4 i5 sp' stf' fsf' jnf' rwf' fdf' aff' DD' KP' g0_K95 g1_K95 g2_K95 g3_K95 g4_K95 g5_K95 => ?_) 6 0 _ _ _ _ _ _ _ _ _ _ rfl f1_z_1 f2_z_1 f3_z_1 a1 a5 (Or.inl rfl)⟩
    refine ⟨(by assumption), ?_⟩
    exact hp _ _ g5_K95 g0_K95 g1_K95 g2_K95 g3_K95 g4_K95
  · exact hp _ _ (Or.inr rfl) f1_z_1 f2_z_1 f3_z_1 a1 a5
theorem sX4_canBy2_L31 {post : Int32 → Int32 × (Nat → Int32) × (Nat → Int32) × (Nat → Int32) × (Nat → Int32) × (Nat → Int64) × (Nat → Int32) × (Nat → Nat → Int32) × (Nat → Nat → Int32) → Prop} {K89 : Int32 → Int32 → Int32 → (Nat → Int32) → (Nat → Int32) → (Nat → Int32) → (Nat → Int32) → (Nat → Int64) → (Nat → Int32) → (Nat → Nat → Int32) → (Nat → Nat → Int32) → Prop} {th : Int32} {mr : Int32} {po : Int64} {mf : Int32} {ctf : Nat → Int32} {sn : Nat} {sq : Nat → Nat → Int32} {p1 : Int32} {p2 : Int32} {i5 : Int32} (a0 : IN mr 64) (a1 : sn ≤ 40) (a2 : SOK sn sq) (a3 : IN p1 6) (a4 : IN p2 sn) (a5 : IN i5 6) (hp : ∀ (r : Int32) (u : Int32 × (Nat → Int32) × (Nat → Int32) × (Nat → Int32) × (Nat → Int32) × (Nat → Int64) × (Nat → Int32) × (Nat → Nat → Int32) × (Nat → Nat → Int32)), vZ r → RF u.2.2.1 → R64 u.2.2.2.1 → R64 u.2.2.2.2.1 → DOK u.2.2.2.2.2.2.2.1 → KOK u.2.2.2.2.2.2.2.2 → post r u) (hK89 : ∀ (i4 : Int32) (i6 : Int32) (sp' : Int32) (stf' : Nat → Int32) (fsf' : Nat → Int32) (jnf' : Nat → Int32) (rwf' : Nat → Int32) (fdf' : Nat → Int64) (aff' : Nat → Int32) (DD' : Nat → Nat → Int32) (KP' : Nat → Nat → Int32), RF fsf' → R64 jnf' → R64 rwf' → DOK DD' → KOK KP' → vZ i4 → K89 i4 i6 sp' stf' fsf' jnf' rwf' fdf' aff' DD' KP') : ∀ (m k : Nat) (i4 : Int32) (sp' : Int32) (stf' : Nat → Int32) (fsf' : Nat → Int32) (jnf' : Nat → Int32) (rwf' : Nat → Int32) (fdf' : Nat → Int64) (aff' : Nat → Int32) (DD' : Nat → Nat → Int32) (KP' : Nat → Nat → Int32), k + m = 6 → RF fsf' → R64 jnf' → R64 rwf' → DOK DD' → KOK KP' → vZ i4 → wX4_canBy2_L31 post K89 th mr po mf ctf sn sq p1 p2 i5 (m + 1) i4 (nI k) sp' stf' fsf' jnf' rwf' fdf' aff' DD' KP' := by
  intro m
  induction m with
  | zero =>
    intro k i4 sp' stf' fsf' jnf' rwf' fdf' aff' DD' KP' hkm b0 b1 b2 b3 b4 b5
    refine ⟨fun _ => ?_, fun q => absurd (by rw [show k = 6 by omega]; decide) q⟩
    exact hK89 _ _ _ _ _ _ _ _ _ _ _ b0 b1 b2 b3 b4 b5
  | succ m ih =>
    intro k i4 sp' stf' fsf' jnf' rwf' fdf' aff' DD' KP' hkm b0 b1 b2 b3 b4 b5
    have hk : IN (nI k) 6 := ⟨k, by omega, rfl⟩
    refine ⟨fun _ => ?_, fun _ => ?_⟩
    · exact hK89 _ _ _ _ _ _ _ _ _ _ _ b0 b1 b2 b3 b4 b5
    · refine ⟨fun hc1 => ?_, fun hc1 => ?_⟩
      · exact hK89 _ _ _ _ _ _ _ _ _ _ _ b0 b1 b2 b3 b4 b5
      · refine ⟨fun hc2 => ?_, fun hc2 => ?_⟩
        · refine sX4_tell b3 b0 b1 b4 a5 hk (⟨2, by decide, by decide⟩ : IN (2 : Int32) 4) (fun z_2 f0_z_2 f1_z_2 f2_z_2 f3_z_2 => ?_)
          refine sX4_canBy1 a0 f2_z_2 f0_z_2 f1_z_2 b2 f3_z_2 a1 a2 a3 a4 (fun r_3 z_3 f0_z_3 f1_z_3 f2_z_3 f3_z_3 f4_z_3 f5_z_3 => ?_)
          refine sX4_restoreK f4_z_3 f5_z_3 (IN.lt (⟨2, by decide, by decide⟩ : IN (2 : Int32) 4) (by decide)) hk (fun DD_3 f0_DD_3 => ?_)
          rw [← nI_succ]
          exact ih (k + 1) _ _ _ _ _ _ _ _ _ _ (by omega) f1_z_3 f2_z_3 f3_z_3 f0_DD_3 f5_z_3 f0_z_3
        · rw [← nI_succ]
          exact ih (k + 1) _ _ _ _ _ _ _ _ _ _ (by omega) b0 b1 b2 b3 b4 b5
theorem sX4_canBy2_L17 {post : Int32 → Int32 × (Nat → Int32) × (Nat → Int32) × (Nat → Int32) × (Nat → Int32) × (Nat → Int64) × (Nat → Int32) × (Nat → Nat → Int32) × (Nat → Nat → Int32) → Prop} {K95 : Int32 → Int32 → Int32 → (Nat → Int32) → (Nat → Int32) → (Nat → Int32) → (Nat → Int32) → (Nat → Int64) → (Nat → Int32) → (Nat → Nat → Int32) → (Nat → Nat → Int32) → Prop} {th : Int32} {mr : Int32} {po : Int64} {mf : Int32} {ctf : Nat → Int32} {sn : Nat} {sq : Nat → Nat → Int32} {p1 : Int32} {p2 : Int32} (a0 : IN mr 64) (a1 : sn ≤ 40) (a2 : SOK sn sq) (a3 : IN p1 6) (a4 : IN p2 sn) (hp : ∀ (r : Int32) (u : Int32 × (Nat → Int32) × (Nat → Int32) × (Nat → Int32) × (Nat → Int32) × (Nat → Int64) × (Nat → Int32) × (Nat → Nat → Int32) × (Nat → Nat → Int32)), vZ r → RF u.2.2.1 → R64 u.2.2.2.1 → R64 u.2.2.2.2.1 → DOK u.2.2.2.2.2.2.2.1 → KOK u.2.2.2.2.2.2.2.2 → post r u) (hK95 : ∀ (i4 : Int32) (i5 : Int32) (sp' : Int32) (stf' : Nat → Int32) (fsf' : Nat → Int32) (jnf' : Nat → Int32) (rwf' : Nat → Int32) (fdf' : Nat → Int64) (aff' : Nat → Int32) (DD' : Nat → Nat → Int32) (KP' : Nat → Nat → Int32), RF fsf' → R64 jnf' → R64 rwf' → DOK DD' → KOK KP' → vZ i4 → K95 i4 i5 sp' stf' fsf' jnf' rwf' fdf' aff' DD' KP') : ∀ (m k : Nat) (i4 : Int32) (sp' : Int32) (stf' : Nat → Int32) (fsf' : Nat → Int32) (jnf' : Nat → Int32) (rwf' : Nat → Int32) (fdf' : Nat → Int64) (aff' : Nat → Int32) (DD' : Nat → Nat → Int32) (KP' : Nat → Nat → Int32), k + m = 6 → RF fsf' → R64 jnf' → R64 rwf' → DOK DD' → KOK KP' → vZ i4 → wX4_canBy2_L17 post K95 th mr po mf ctf sn sq p1 p2 (m + 1) i4 (nI k) sp' stf' fsf' jnf' rwf' fdf' aff' DD' KP' := by
  intro m
  induction m with
  | zero =>
    intro k i4 sp' stf' fsf' jnf' rwf' fdf' aff' DD' KP' hkm b0 b1 b2 b3 b4 b5
    refine ⟨fun _ => ?_, fun q => absurd (by rw [show k = 6 by omega]; decide) q⟩
    exact hK95 _ _ _ _ _ _ _ _ _ _ _ b0 b1 b2 b3 b4 b5
  | succ m ih =>
    intro k i4 sp' stf' fsf' jnf' rwf' fdf' aff' DD' KP' hkm b0 b1 b2 b3 b4 b5
    have hk : IN (nI k) 6 := ⟨k, by omega, rfl⟩
    refine ⟨fun _ => ?_, fun _ => ?_⟩
    · exact hK95 _ _ _ _ _ _ _ _ _ _ _ b0 b1 b2 b3 b4 b5
    · refine ⟨7, sX4_canBy2_L31 a0 a1 a2 a3 a4 hk hp (fun i4 i6 sp' stf' fsf' jnf' rwf' fdf' aff' DD' KP' g0_K89 g1_K89 g2_K89 g3_K89 g4_K89 g5_K89 => ?_) 6 0 _ _ _ _ _ _ _ _ _ _ rfl b0 b1 b2 b3 b4 b5⟩
      rw [← nI_succ]
      exact ih (k + 1) _ _ _ _ _ _ _ _ _ _ (by omega) g0_K89 g1_K89 g2_K89 g3_K89 g4_K89 g5_K89
theorem sX4_canBy2 {post : Int32 → Int32 × (Nat → Int32) × (Nat → Int32) × (Nat → Int32) × (Nat → Int32) × (Nat → Int64) × (Nat → Int32) × (Nat → Nat → Int32) × (Nat → Nat → Int32) → Prop} {th : Int32} {mr : Int32} {po : Int64} {mf : Int32} {sp : Int32} {DD : Nat → Nat → Int32} {ctf : Nat → Int32} {stf : Nat → Int32} {fsf : Nat → Int32} {jnf : Nat → Int32} {rwf : Nat → Int32} {fdf : Nat → Int64} {aff : Nat → Int32} {KP : Nat → Nat → Int32} {sn : Nat} {sq : Nat → Nat → Int32} {p1 : Int32} {p2 : Int32} (a0 : IN mr 64) (a1 : DOK DD) (a2 : RF fsf) (a3 : R64 jnf) (a4 : R64 rwf) (a5 : KOK KP) (a6 : sn ≤ 40) (a7 : SOK sn sq) (a8 : IN p1 6) (a9 : IN p2 sn) (hp : ∀ (r : Int32) (u : Int32 × (Nat → Int32) × (Nat → Int32) × (Nat → Int32) × (Nat → Int32) × (Nat → Int64) × (Nat → Int32) × (Nat → Nat → Int32) × (Nat → Nat → Int32)), vZ r → RF u.2.2.1 → R64 u.2.2.2.1 → R64 u.2.2.2.2.1 → DOK u.2.2.2.2.2.2.2.1 → KOK u.2.2.2.2.2.2.2.2 → post r u) : wX4_canBy2 post th mr po mf sp DD ctf stf fsf jnf rwf fdf aff KP sn sq p1 p2 := by
  unfold wX4_canBy2
  refine sX4_knowsIt a0 a1 a2 a3 a4 a5 a6 a7 a8 a9 (fun r_1 z_1 f0_z_1 f1_z_1 f2_z_1 f3_z_1 => ?_)
  refine ⟨fun hc1 => ?_, fun hc1 => ?_⟩
  · refine ⟨7, sX4_canBy2_L17 a0 a6 a7 a8 a9 hp (fun i4 i5 sp' stf' fsf' jnf' rwf' fdf' aff' DD' KP' g0_K95 g1_K95 g2_K95 g3_K95 g4_K95 g5_K95 => ?_) 6 0 _ _ _ _ _ _ _ _ _ _ rfl f1_z_1 f2_z_1 f3_z_1 a1 a5 (Or.inl rfl)⟩
    refine ⟨(by assumption), ?_⟩
    exact hp _ _ g5_K95 g0_K95 g1_K95 g2_K95 g3_K95 g4_K95
  · exact hp _ _ (Or.inr rfl) f1_z_1 f2_z_1 f3_z_1 a1 a5
theorem sX4_notesNow {post : Int32 → Int32 × (Nat → Int32) × (Nat → Int32) × (Nat → Int32) × (Nat → Int32) × (Nat → Int64) × (Nat → Int32) × (Nat → Nat → Int32) × (Nat → Nat → Int32) → Prop} {th : Int32} {mr : Int32} {po : Int64} {mf : Int32} {sp : Int32} {DD : Nat → Nat → Int32} {ctf : Nat → Int32} {stf : Nat → Int32} {fsf : Nat → Int32} {jnf : Nat → Int32} {rwf : Nat → Int32} {fdf : Nat → Int64} {aff : Nat → Int32} {KP : Nat → Nat → Int32} {sn : Nat} {sq : Nat → Nat → Int32} {p1 : Int32} {p2 : Int32} (a0 : IN mr 64) (a1 : DOK DD) (a2 : RF fsf) (a3 : R64 jnf) (a4 : R64 rwf) (a5 : KOK KP) (a6 : sn ≤ 40) (a7 : SOK sn sq) (a8 : IN p1 6) (a9 : IN p2 sn) (hp : ∀ (r : Int32) (u : Int32 × (Nat → Int32) × (Nat → Int32) × (Nat → Int32) × (Nat → Int32) × (Nat → Int64) × (Nat → Int32) × (Nat → Nat → Int32) × (Nat → Nat → Int32)), RF u.2.2.1 → R64 u.2.2.2.1 → R64 u.2.2.2.2.1 → DOK u.2.2.2.2.2.2.2.1 → KOK u.2.2.2.2.2.2.2.2 → post r u) : wX4_notesNow post th mr po mf sp DD ctf stf fsf jnf rwf fdf aff KP sn sq p1 p2 := by
  unfold wX4_notesNow
  refine sX4_canBy0 a0 a1 a2 a3 a4 a5 a6 a7 a8 a9 (fun r_1 z_1 f0_z_1 f1_z_1 f2_z_1 f3_z_1 => ?_)
  refine ⟨fun hc1 => ?_, fun hc1 => ?_⟩
  · refine sX4_canBy1 a0 a1 f1_z_1 f2_z_1 f3_z_1 a5 a6 a7 a8 a9 (fun r_2 z_2 f0_z_2 f1_z_2 f2_z_2 f3_z_2 f4_z_2 f5_z_2 => ?_)
    refine ⟨fun hc2 => ?_, fun hc2 => ?_⟩
    · refine sX4_canBy2 a0 f4_z_2 f1_z_2 f2_z_2 f3_z_2 f5_z_2 a6 a7 a8 a9 (fun r_3 z_3 f0_z_3 f1_z_3 f2_z_3 f3_z_3 f4_z_3 f5_z_3 => ?_)
      refine ⟨fun hc3 => ?_, fun hc3 => ?_⟩
      · exact hp _ _ f1_z_3 f2_z_3 f3_z_3 f4_z_3 f5_z_3
      · exact hp _ _ f1_z_3 f2_z_3 f3_z_3 f4_z_3 f5_z_3
    · exact hp _ _ f1_z_2 f2_z_2 f3_z_2 f4_z_2 f5_z_2
  · exact hp _ _ f1_z_1 f2_z_1 f3_z_1 a1 a5
theorem sX4_trueIn_L11 {post : Int32 → Prop} {K47 : Int32 → Int32 → Prop} {yn : Nat} {yf : Nat → Int64} {p2 : Int32} (a0 : yn ≤ 40) (hp : ∀ (r : Int32), post r) (hK47 : ∀ (i2 : Int32) (i5 : Int32), K47 i2 i5) : ∀ (m k : Nat) (i2 : Int32), k + m = yn → wX4_trueIn_L11 post K47 yn yf p2 (m + 1) i2 (nI k) := by
  intro m
  induction m with
  | zero =>
    intro k i2 hkm
    refine ⟨fun _ => ?_, fun q => absurd (by rw [show k = yn by omega]; exact Int32.le_refl _) q⟩
    exact hK47 _ _
  | succ m ih =>
    intro k i2 hkm
    have hk : IN (nI k) yn := ⟨k, by omega, rfl⟩
    refine ⟨fun _ => ?_, fun _ => ?_⟩
    · exact hK47 _ _
    · refine ⟨(IN.vp hk (by omega)), ?_⟩
      refine sX4_has_ (fun r_1 f0_r_1 => ?_)
      refine ⟨fun hc1 => ?_, fun hc1 => ?_⟩
      · rw [← nI_succ]
        exact ih (k + 1) _ (by omega)
      · rw [← nI_succ]
        exact ih (k + 1) _ (by omega)
theorem sX4_trueIn {post : Int32 → Prop} {yn : Nat} {yf : Nat → Int64} {p2 : Int32} (a0 : yn ≤ 40) (hp : ∀ (r : Int32), post r) : wX4_trueIn post yn yf p2 := by
  unfold wX4_trueIn
  refine ⟨yn + 1, sX4_trueIn_L11 a0 hp (fun i2 i5 => ?_) yn 0 _ (Nat.zero_add _)⟩
  exact hp _
theorem sX4_knows_L13 {post : Int32 → Prop} {K62 : Int32 → Int32 → Prop} {mr : Int32} {po : Int64} {DD : Nat → Nat → Int32} {yn : Nat} {yf : Nat → Int64} {p1 : Int32} (hm : IN mr 64) (hD : DOK DD) (hy : yn ≤ 40) (h1 : IN p1 6) (hK : ∀ a b, IN a 41 → K62 a b) : ∀ (m k c : Nat), k + m = yn → c ≤ k → wX4_knows_L13 post K62 mr po DD yn yf p1 (m + 1) (nI c) (nI k) := by
  intro m
  induction m with
  | zero =>
    intro k c h hc
    obtain rfl : k = yn := by omega
    exact ⟨fun _ => hK _ _ ⟨c, by omega, rfl⟩, fun q => absurd (Int32.le_refl _) q⟩
  | succ m ih =>
    intro k c h hc
    refine ⟨fun _ => hK _ _ ⟨c, by omega, rfl⟩, fun _ => ⟨nI_in (by omega) (by omega), sX4_alikeNow hD h1 hm (fun r => ⟨fun _ => ?_, fun _ => ?_⟩)⟩⟩
    · rw [← nI_succ, show nI c + (0 : Int32) = nI c from nI_add c 0]
      exact ih (k + 1) c (by omega) (by omega)
    · rw [← nI_succ, ← nI_succ]
      exact ih (k + 1) (c + 1) (by omega) (by omega)
theorem sX4_knows {post : Int32 → Prop} {mr : Int32} {po : Int64} {DD : Nat → Nat → Int32} {yn : Nat} {yf : Nat → Int64} {p1 : Int32} (a0 : IN mr 64) (a1 : DOK DD) (a2 : yn ≤ 40) (a3 : IN p1 6) (hp : ∀ (r : Int32), IN r 41 → post r) : wX4_knows post mr po DD yn yf p1 := ⟨yn + 1, sX4_knows_L13 a0 a1 a2 a3 (fun a _ h => hp a h) yn 0 0 (Nat.zero_add _) (Nat.le_refl _)⟩
theorem sX4_witNow {post : UInt64 → Prop} {mr : Int32} {po : Int64} {DD : Nat → Nat → Int32} {yn : Nat} {yf : Nat → Int64} {p1 : Int32} (a0 : IN mr 64) (a1 : DOK DD) (a2 : yn ≤ 40) (a3 : IN p1 6) (hp : ∀ (r : UInt64), WIT r → post r) : wX4_witNow post mr po DD yn yf p1 := ⟨fun n0 => sX4_knows a0 a1 a2 a3 (fun r h => ⟨(witA h ⟨yn, by omega, rfl⟩ n0).1, hp _ (witA h ⟨yn, by omega, rfl⟩ n0).2⟩), fun _ => hp _ wit0⟩
theorem sX4_nightNow_L111 {post : Int32 → Prop} {K157 : Int32 → Int32 → Prop} {mr : Int32} {po : Int64} {DD : Nat → Nat → Int32} {yn : Nat} {yf : Nat → Int64} (a0 : IN mr 64) (a1 : DOK DD) (a2 : yn ≤ 40) (hp : ∀ (r : Int32), post r) (hK157 : ∀ (i3 : Int32) (i6 : Int32), K157 i3 i6) : ∀ (m k : Nat) (i3 : Int32), k + m = yn → wX4_nightNow_L111 post K157 mr po DD yn yf (m + 1) i3 (nI k) := by
  intro m
  induction m with
  | zero =>
    intro k i3 hkm
    refine ⟨fun _ => ?_, fun q => absurd (by rw [show k = yn by omega]; exact Int32.le_refl _) q⟩
    exact hK157 _ _
  | succ m ih =>
    intro k i3 hkm
    have hk : IN (nI k) yn := ⟨k, by omega, rfl⟩
    refine ⟨fun _ => ?_, fun _ => ?_⟩
    · exact hK157 _ _
    · refine ⟨(IN.vp hk (by omega)), ?_⟩
      refine sX4_common a1 (fun r_3 => ?_)
      refine sX4_has_ (fun r_4 f0_r_4 => ?_)
      refine ⟨fun hc1 => ?_, fun hc1 => ?_⟩
      · rw [← nI_succ]
        exact ih (k + 1) _ (by omega)
      · rw [← nI_succ]
        exact ih (k + 1) _ (by omega)
theorem sX4_nightNow_L162 {post : Int32 → Prop} {K210 : Int32 → Int32 → Prop} {mr : Int32} {po : Int64} {DD : Nat → Nat → Int32} (a0 : IN mr 64) (a1 : DOK DD) (hp : ∀ (r : Int32), post r) (hK210 : ∀ (i3 : Int32) (i4 : Int32), IN i3 6 → K210 i3 i4) : ∀ (m k : Nat) (i3 : Int32), k + m = 6 → IN i3 6 → wX4_nightNow_L162 post K210 mr po DD (m + 1) i3 (nI k) := by
  intro m
  induction m with
  | zero =>
    intro k i3 hkm b0
    refine ⟨fun _ => ?_, fun q => absurd (by rw [show k = 6 by omega]; decide) q⟩
    exact hK210 _ _ b0
  | succ m ih =>
    intro k i3 hkm b0
    have hk : IN (nI k) 6 := ⟨k, by omega, rfl⟩
    refine ⟨fun _ => ?_, fun _ => ?_⟩
    · exact hK210 _ _ b0
    · refine sX4_alikeNow a1 hk a0 (fun r_5 => ?_)
      refine sX4_size_ (fun r_6 => ?_)
      refine sX4_alikeNow a1 b0 a0 (fun r_7 => ?_)
      refine sX4_size_ (fun r_8 => ?_)
      refine ⟨fun hc1 => ?_, fun hc1 => ?_⟩
      · rw [← nI_succ]
        exact ih (k + 1) _ (by omega) b0
      · rw [← nI_succ]
        exact ih (k + 1) _ (by omega) hk
theorem sX4_nightNow {post : Int32 → Prop} {mr : Int32} {po : Int64} {mf : Int32} {DD : Nat → Nat → Int32} {ctf : Nat → Int32} {sn : Nat} {yn : Nat} {yf : Nat → Int64} {p1 : Int32} (a0 : IN mr 64) (a1 : DOK DD) (a2 : sn ≤ 40) (a3 : yn ≤ 40) (a4 : IN p1 13) (hp : ∀ (r : Int32), post r) : wX4_nightNow post mr po mf DD ctf sn yn yf p1 := by
  unfold wX4_nightNow
  refine ⟨fun hc1 => ?_, fun hc1 => ?_⟩
  · exact hp _
  · refine ⟨fun hc2 => ?_, fun hc2 => ?_⟩
    · refine sX4_size_ (fun r_1 => ?_)
      exact hp _
    · refine ⟨fun hc3 => ?_, fun hc3 => ?_⟩
      · exact hp _
      · refine ⟨fun hc4 => ?_, fun hc4 => ?_⟩
        · refine sX4_trueIn a3 (fun r_2 => ?_)
          exact hp _
        · refine ⟨fun hc5 => ?_, fun hc5 => ?_⟩
          · refine ⟨yn + 1, sX4_nightNow_L111 a0 a1 a3 hp (fun i3 i6 => ?_) yn 0 _ (Nat.zero_add _)⟩
            exact hp _
          · refine ⟨fun hc6 => ?_, fun hc6 => ?_⟩
            · refine ⟨(by rw [hc6]; exact fun q => absurd q (by decide)), ?_⟩
              exact hp _
            · refine ⟨fun hc7 => ?_, fun hc7 => ?_⟩
              · refine ⟨(by rw [hc7]; exact fun q => absurd q (by decide)), ?_⟩
                exact hp _
              · refine ⟨fun hc8 => ?_, fun hc8 => ?_⟩
                · refine ⟨(by rw [hc8]; exact fun q => absurd q (by decide)), ?_⟩
                  exact hp _
                · refine ⟨fun hc9 => ?_, fun hc9 => ?_⟩
                  · refine ⟨(by rw [hc9]; exact fun q => absurd q (by decide)), ?_⟩
                    exact hp _
                  · refine ⟨fun hc10 => ?_, fun hc10 => ?_⟩
                    · refine ⟨(by rw [hc10]; exact fun q => absurd q (by decide)), ?_⟩
                      exact hp _
                    · refine ⟨fun hc11 => ?_, fun hc11 => ?_⟩
                      · refine ⟨(by rw [hc11]; exact fun q => absurd q (by decide)), ?_⟩
                        exact hp _
                      · refine ⟨fun hc12 => ?_, fun hc12 => ?_⟩
                        · refine ⟨6, sX4_nightNow_L162 a0 a1 hp (fun i3 i4 g0_K210 => ?_) 5 1 _ rfl (⟨0, by decide, by decide⟩ : IN (0 : Int32) 6)⟩
                          exact hp _
                        · refine ⟨fun hc13 => ?_, fun hc13 => ?_⟩
                          · exact hp _
                          · refine ⟨(nnB a4 hc1 hc2 hc3 hc4 hc5 hc12 hc13), ?_⟩
                            exact hp _
theorem sX4_guardNow_L50 {post : Int32 → Prop} {K95 : Int64 → Int32 → Prop} {po : Int64} {DD : Nat → Nat → Int32} {p1 : Int32} (a0 : DOK DD) (a1 : IN p1 6) (hp : ∀ (r : Int32), post r) (hK95 : ∀ (i7 : Int64) (i9 : Int32), K95 i7 i9) : ∀ (m k : Nat) (i7 : Int64), k + m = 64 → wX4_guardNow_L50 post K95 po DD p1 (m + 1) i7 (nI k) := by
  intro m
  induction m with
  | zero =>
    intro k i7 hkm
    refine ⟨fun _ => ?_, fun q => absurd (by rw [show k = 64 by omega]; decide) q⟩
    exact hK95 _ _
  | succ m ih =>
    intro k i7 hkm
    have hk : IN (nI k) 64 := ⟨k, by omega, rfl⟩
    refine ⟨fun _ => ?_, fun _ => ?_⟩
    · exact hK95 _ _
    · refine sX4_has_ (fun r_2 f0_r_2 => ?_)
      refine ⟨fun hc1 => ?_, fun hc1 => ?_⟩
      · rw [← nI_succ]
        exact ih (k + 1) _ (by omega)
      · refine ⟨(IN.vp a1 (by decide)), ?_⟩
        refine ⟨(IN.vp hk (by decide)), ?_⟩
        intro x_1 ex_1
        rw [← nI_succ]
        exact ih (k + 1) _ (by omega)
theorem sX4_guardNow_L110 {post : Int32 → Prop} {K168 : Int32 → Int32 → Prop} {po : Int64} {r_1 : Int64} (hp : ∀ (r : Int32), post r) (hK168 : ∀ (i4 : Int32) (i7' : Int32), K168 i4 i7') : ∀ (m k : Nat) (i4 : Int32), k + m = 6 → wX4_guardNow_L110 post K168 po r_1 (m + 1) i4 (nI k) := by
  intro m
  induction m with
  | zero =>
    intro k i4 hkm
    refine ⟨fun _ => ?_, fun q => absurd (by rw [show k = 6 by omega]; decide) q⟩
    exact hK168 _ _
  | succ m ih =>
    intro k i4 hkm
    have hk : IN (nI k) 6 := ⟨k, by omega, rfl⟩
    refine ⟨fun _ => ?_, fun _ => ?_⟩
    · exact hK168 _ _
    · refine sX4_fact (fun r_5 => ?_)
      refine ⟨fun hc1 => ?_, fun hc1 => ?_⟩
      · rw [← nI_succ]
        exact ih (k + 1) _ (by omega)
      · refine sX4_fact (fun r_6 => ?_)
        refine ⟨fun hc2 => ?_, fun hc2 => ?_⟩
        · rw [← nI_succ]
          exact ih (k + 1) _ (by omega)
        · rw [← nI_succ]
          exact ih (k + 1) _ (by omega)
theorem sX4_guardNow_L181 {post : Int32 → Prop} {K217 : Int32 → Int32 → Prop} {po : Int64} {DD : Nat → Nat → Int32} {p1 : Int32} (a0 : DOK DD) (a1 : IN p1 6) (hp : ∀ (r : Int32), post r) (hK217 : ∀ (i4 : Int32) (i7' : Int32), K217 i4 i7') : ∀ (m k : Nat) (i4 : Int32), k + m = 6 → wX4_guardNow_L181 post K217 po DD p1 (m + 1) i4 (nI k) := by
  intro m
  induction m with
  | zero =>
    intro k i4 hkm
    refine ⟨fun _ => ?_, fun q => absurd (by rw [show k = 6 by omega]; decide) q⟩
    exact hK217 _ _
  | succ m ih =>
    intro k i4 hkm
    have hk : IN (nI k) 6 := ⟨k, by omega, rfl⟩
    refine ⟨fun _ => ?_, fun _ => ?_⟩
    · exact hK217 _ _
    · refine sX4_isFiner hk a1 (fun r_8 f0_r_8 => ?_)
      refine ⟨fun hc1 => ?_, fun hc1 => ?_⟩
      · rw [← nI_succ]
        exact ih (k + 1) _ (by omega)
      · rw [← nI_succ]
        exact ih (k + 1) _ (by omega)
theorem sX4_guardNow {post : Int32 → Prop} {mr : Int32} {po : Int64} {DD : Nat → Nat → Int32} {yn : Nat} {yf : Nat → Int64} {p1 : Int32} {p2 : Int32} (a0 : IN mr 64) (a1 : DOK DD) (a2 : yn ≤ 40) (a3 : IN p1 6) (hp : ∀ (r : Int32), post r) : wX4_guardNow post mr po DD yn yf p1 p2 := by
  unfold wX4_guardNow
  refine sX4_alikeNow a1 a3 a0 (fun r_1 => ?_)
  refine ⟨fun hc1 => ?_, fun hc1 => ?_⟩
  · refine ⟨65, sX4_guardNow_L50 a1 a3 hp (fun i7 i9 => ?_) 64 0 _ rfl⟩
    refine sX4_size_ (fun r_3 => ?_)
    exact hp _
  · refine ⟨fun hc2 => ?_, fun hc2 => ?_⟩
    · refine sX4_size_ (fun r_4 => ?_)
      exact hp _
    · refine ⟨fun hc3 => ?_, fun hc3 => ?_⟩
      · refine ⟨7, sX4_guardNow_L110 hp (fun i4 i7' => ?_) 6 0 _ rfl⟩
        exact hp _
      · refine ⟨fun hc4 => ?_, fun hc4 => ?_⟩
        · refine sX4_knows a0 a1 a2 a3 (fun r_7 f0_r_7 => ?_)
          exact hp _
        · refine ⟨7, sX4_guardNow_L181 a1 a3 hp (fun i4 i7' => ?_) 6 0 _ rfl⟩
          exact hp _
theorem sX4_isSoundNow_L26 {post : Int32 → Prop} {K159 : Int32 → Prop} {mr : Int32} {po : Int64} {DD : Nat → Nat → Int32} {sn : Nat} {sq : Nat → Nat → Int32} {yn : Nat} {yf : Nat → Int64} {i2 : Int32} (a0 : IN mr 64) (a1 : DOK DD) (a2 : sn ≤ 40) (a3 : SOK sn sq) (a4 : yn ≤ 40) (a5 : yn = sn) (a6 : IN i2 yn) (hp : ∀ (r : Int32), vZ r → post r) (hK159 : ∀ (i3 : Int32), K159 i3) : ∀ (m k : Nat), k + m = 6 → wX4_isSoundNow_L26 post K159 mr po DD sn sq yn yf i2 (m + 1) (nI k) := by
  intro m
  induction m with
  | zero =>
    intro k hkm
    refine ⟨fun _ => ?_, fun q => absurd (by rw [show k = 6 by omega]; decide) q⟩
    exact hK159 _
  | succ m ih =>
    intro k hkm
    have hk : IN (nI k) 6 := ⟨k, by omega, rfl⟩
    refine ⟨fun _ => ?_, fun _ => ?_⟩
    · exact hK159 _
    · refine ⟨(IN.vp a6 (by omega)), ?_⟩
      refine sX4_known a1 hk (fun r_2 => ?_)
      refine ⟨(IN.vp a6 (by omega)), ?_⟩
      refine ⟨fun hc1 => ?_, fun hc1 => ?_⟩
      · exact hp _ (Or.inl rfl)
      · refine sX4_has_ (fun r_3 f0_r_3 => ?_)
        refine ⟨fun hc2 => ?_, fun hc2 => ?_⟩
        · refine ⟨(IN.vp (eqIN a5 a6) (by omega)), ?_⟩
          refine ⟨fun hc3 => ?_, fun hc3 => ?_⟩
          · rw [← nI_succ]
            exact ih (k + 1) (by omega)
          · refine ⟨fun hc4 => ?_, fun hc4 => ?_⟩
            · rw [← nI_succ]
              exact ih (k + 1) (by omega)
            · refine sX4_has (fun r_4 f0_r_4 => ?_)
              refine ⟨fun hc5 => ?_, fun hc5 => ?_⟩
              · rw [← nI_succ]
                exact ih (k + 1) (by omega)
              · refine ⟨(IN.vp a6 (by omega)), ?_⟩
                refine ⟨(IN.vp (eqIN a5.symm (SOK.b a3 a2 (eqIN a5 a6) hc3)) (by omega)), ?_⟩
                refine sX4_known a1 hk (fun r_5 => ?_)
                refine ⟨fun hc6 => ?_, fun hc6 => ?_⟩
                · rw [← nI_succ]
                  exact ih (k + 1) (by omega)
                · exact hp _ (Or.inl rfl)
        · refine ⟨(IN.vp a6 (by omega)), ?_⟩
          refine sX4_knowsTogether a0 a1 (fun r_6 f0_r_6 => ?_)
          refine ⟨fun hc7 => ?_, fun hc7 => ?_⟩
          · refine ⟨(IN.vp (eqIN a5 a6) (by omega)), ?_⟩
            refine ⟨fun hc8 => ?_, fun hc8 => ?_⟩
            · rw [← nI_succ]
              exact ih (k + 1) (by omega)
            · refine ⟨fun hc9 => ?_, fun hc9 => ?_⟩
              · rw [← nI_succ]
                exact ih (k + 1) (by omega)
              · refine sX4_has (fun r_7 f0_r_7 => ?_)
                refine ⟨fun hc10 => ?_, fun hc10 => ?_⟩
                · rw [← nI_succ]
                  exact ih (k + 1) (by omega)
                · refine ⟨(IN.vp a6 (by omega)), ?_⟩
                  refine ⟨(IN.vp (eqIN a5.symm (SOK.b a3 a2 (eqIN a5 a6) hc8)) (by omega)), ?_⟩
                  refine sX4_known a1 hk (fun r_8 => ?_)
                  refine ⟨fun hc11 => ?_, fun hc11 => ?_⟩
                  · rw [← nI_succ]
                    exact ih (k + 1) (by omega)
                  · exact hp _ (Or.inl rfl)
          · exact hp _ (Or.inl rfl)
theorem sX4_isSoundNow_L18 {post : Int32 → Prop} {K165 : Int32 → Prop} {mr : Int32} {po : Int64} {DD : Nat → Nat → Int32} {sn : Nat} {sq : Nat → Nat → Int32} {yn : Nat} {yf : Nat → Int64} (a0 : IN mr 64) (a1 : DOK DD) (a2 : sn ≤ 40) (a3 : SOK sn sq) (a4 : yn ≤ 40) (a5 : yn = sn) (hp : ∀ (r : Int32), vZ r → post r) (hK165 : ∀ (i2 : Int32), K165 i2) : ∀ (m k : Nat), k + m = yn → wX4_isSoundNow_L18 post K165 mr po DD sn sq yn yf (m + 1) (nI k) := by
  intro m
  induction m with
  | zero =>
    intro k hkm
    refine ⟨fun _ => ?_, fun q => absurd (by rw [show k = yn by omega]; exact Int32.le_refl _) q⟩
    exact hK165 _
  | succ m ih =>
    intro k hkm
    have hk : IN (nI k) yn := ⟨k, by omega, rfl⟩
    refine ⟨fun _ => ?_, fun _ => ?_⟩
    · exact hK165 _
    · refine ⟨7, sX4_isSoundNow_L26 a0 a1 a2 a3 a4 a5 hk hp (fun i3 => ?_) 6 0 rfl⟩
      rw [← nI_succ]
      exact ih (k + 1) (by omega)
theorem sX4_isSoundNow {post : Int32 → Prop} {mr : Int32} {po : Int64} {DD : Nat → Nat → Int32} {sn : Nat} {sq : Nat → Nat → Int32} {yn : Nat} {yf : Nat → Int64} (a0 : IN mr 64) (a1 : DOK DD) (a2 : sn ≤ 40) (a3 : SOK sn sq) (a4 : yn ≤ 40) (a5 : yn = sn) (hp : ∀ (r : Int32), vZ r → post r) : wX4_isSoundNow post mr po DD sn sq yn yf := by
  unfold wX4_isSoundNow
  refine sX4_has_ (fun r_1 f0_r_1 => ?_)
  refine ⟨fun hc1 => ?_, fun hc1 => ?_⟩
  · refine ⟨yn + 1, sX4_isSoundNow_L18 a0 a1 a2 a3 a4 a5 hp (fun i2 => ?_) yn 0 (Nat.zero_add _)⟩
    exact hp _ (Or.inr rfl)
  · exact hp _ (Or.inl rfl)
theorem sX4_ofNow {post : Int32 → Prop} {mr : Int32} {po : Int64} {DD : Nat → Nat → Int32} {sn : Nat} {sq : Nat → Nat → Int32} {p1 : Int32} {p2 : Int32} {p3 : Int64} (a0 : IN mr 64) (a1 : DOK DD) (a2 : sn ≤ 40) (a3 : SOK sn sq) (a4 : IN p1 sn) (hp : ∀ (r : Int32), post r) : wX4_ofNow post mr po DD sn sq p1 p2 p3 := by
  unfold wX4_ofNow
  refine ⟨(IN.vp a4 (by omega)), ?_⟩
  refine ⟨fun hc1 => ?_, fun hc1 => ?_⟩
  · refine ⟨(by rw [hc1]; exact fun q => absurd q (by decide)), ?_⟩
    exact hp _
  · refine ⟨fun hc2 => ?_, fun hc2 => ?_⟩
    · refine ⟨(by rw [hc2]; exact fun q => absurd q (by decide)), ?_⟩
      exact hp _
    · refine ⟨fun hc3 => ?_, fun hc3 => ?_⟩
      · refine ⟨(by rw [hc3]; exact fun q => absurd q (by decide)), ?_⟩
        exact hp _
      · refine ⟨fun hc4 => ?_, fun hc4 => ?_⟩
        · refine sX4_size_ (fun r_1 => ?_)
          exact hp _
        · refine ⟨fun hc5 => ?_, fun hc5 => ?_⟩
          · refine sX4_has_ (fun r_2 f0_r_2 => ?_)
            refine ⟨fun hc6 => ?_, fun hc6 => ?_⟩
            · exact hp _
            · exact hp _
          · refine ⟨fun hc7 => ?_, fun hc7 => ?_⟩
            · refine sX4_who a1 (fun r_3 => ?_)
              refine sX4_size (fun r_4 => ?_)
              exact hp _
            · refine ⟨fun hc8 => ?_, fun hc8 => ?_⟩
              · refine sX4_who a1 (fun r_5 => ?_)
                exact hp _
              · refine ⟨fun hc9 => ?_, fun hc9 => ?_⟩
                · refine sX4_common a1 (fun r_6 => ?_)
                  refine sX4_has_ (fun r_7 f0_r_7 => ?_)
                  refine ⟨fun hc10 => ?_, fun hc10 => ?_⟩
                  · exact hp _
                  · exact hp _
                · refine ⟨fun hc11 => ?_, fun hc11 => ?_⟩
                  · refine sX4_few a0 a1 (fun r_8 => ?_)
                    exact hp _
                  · refine sX4_built a2 a3 a4 (fun r_9 => ?_)
                    exact hp _
theorem sX4_roundsNow_L8 {post : Int32 → Int32 × (Nat → Int32) × (Nat → Int32) × (Nat → Int32) × (Nat → Int32) × (Nat → Int64) × (Nat → Int32) × Int64 → Prop} {K69 : Int32 → Int32 → (Nat → Int32) → (Nat → Int32) → (Nat → Int32) → (Nat → Int32) → (Nat → Int64) → (Nat → Int32) → Int64 → Prop} {th mr mf : Int32} {DD : Nat → Nat → Int32} {ctf : Nat → Int32} {KP : Nat → Nat → Int32} {sn : Nat} {sq : Nat → Nat → Int32} {p1 p2 : Int32} (a0 : DOK DD) (a4 : sn ≤ 40) (a5 : SOK sn sq) (a6 : IN p2 sn) (hK : ∀ i sp stf fsf jnf rwf fdf aff po, RF fsf → R64 jnf → R64 rwf → K69 i sp stf fsf jnf rwf fdf aff po) : ∀ (n : Nat) (i5 sp : Int32) (stf fsf jnf rwf : Nat → Int32) (fdf : Nat → Int64) (aff : Nat → Int32) (po : Int64), po.toBitVec.toNat ≤ n → RF fsf → R64 jnf → R64 rwf → wX4_roundsNow_L8 post K69 th mr mf DD ctf KP sn sq p1 p2 (n + 1) i5 sp stf fsf jnf rwf fdf aff po := by
  intro n
  induction n with
  | zero =>
    intro i5 sp stf fsf jnf rwf fdf aff po h f1 f2 f3
    refine sX4_truthNow a0 f1 f2 f3 a4 a5 a6 (fun r u g1 g2 g3 => sX4_who a0 (fun r2 => ⟨fun _ => tX4_asked a0 (fun r3 hr => ⟨fun c => ?_, fun _ => hK _ _ _ _ _ _ _ _ _ g1 g2 g3⟩), fun _ => hK _ _ _ _ _ _ _ _ _ g1 g2 g3⟩))
    have := subLt hr (fun e => c ((lg_cmp_eq _ _).mpr e))
    omega
  | succ n ih =>
    intro i5 sp stf fsf jnf rwf fdf aff po h f1 f2 f3
    refine sX4_truthNow a0 f1 f2 f3 a4 a5 a6 (fun r u g1 g2 g3 => sX4_who a0 (fun r2 => ⟨fun _ => tX4_asked a0 (fun r3 hr => ⟨fun c => ih _ _ _ _ _ _ _ _ _ ?_ g1 g2 g3, fun _ => hK _ _ _ _ _ _ _ _ _ g1 g2 g3⟩), fun _ => hK _ _ _ _ _ _ _ _ _ g1 g2 g3⟩))
    have := subLt hr (fun e => c ((lg_cmp_eq _ _).mpr e))
    omega
theorem sX4_roundsNow {post : Int32 → Int32 × (Nat → Int32) × (Nat → Int32) × (Nat → Int32) × (Nat → Int32) × (Nat → Int64) × (Nat → Int32) × Int64 → Prop} {th mr : Int32} {po : Int64} {mf sp : Int32} {DD : Nat → Nat → Int32} {ctf stf fsf jnf rwf : Nat → Int32} {fdf : Nat → Int64} {aff : Nat → Int32} {KP : Nat → Nat → Int32} {sn : Nat} {sq : Nat → Nat → Int32} {p1 p2 : Int32} (a0 : DOK DD) (a1 : RF fsf) (a2 : R64 jnf) (a3 : R64 rwf) (a4 : sn ≤ 40) (a5 : SOK sn sq) (a6 : IN p2 sn) (hp : ∀ (r : Int32) (u : Int32 × (Nat → Int32) × (Nat → Int32) × (Nat → Int32) × (Nat → Int32) × (Nat → Int64) × (Nat → Int32) × Int64), RF u.2.2.1 → R64 u.2.2.2.1 → R64 u.2.2.2.2.1 → post r u) : wX4_roundsNow post th mr po mf sp DD ctf stf fsf jnf rwf fdf aff KP sn sq p1 p2 :=
  ⟨po.toBitVec.toNat + 1, sX4_roundsNow_L8 a0 a4 a5 a6 (fun i sp stf fsf jnf rwf fdf aff p f1 f2 f3 => hp _ _ f1 f2 f3) _ _ _ _ _ _ _ _ _ _ (Nat.le_refl _) a1 a2 a3⟩
theorem sX4_thrown {post : Int32 → Prop} {th : Int32} (hp : ∀ (r : Int32), post r) : wX4_thrown post th := by
  unfold wX4_thrown
  exact hp _
theorem sX4_begin_L43 {post : Int32 → Int32 × Int32 × Int64 × (Nat → Nat → Int32) × Int32 × (Nat → Int32) × (Nat → Int32) × (Nat → Int32) × (Nat → Int32) → Prop} {K64 : Int32 → (Nat → Nat → Int32) → Prop} {i2 : Int32} (a0 : IN i2 6) (hp : ∀ (r : Int32) (u : Int32 × Int32 × Int64 × (Nat → Nat → Int32) × Int32 × (Nat → Int32) × (Nat → Int32) × (Nat → Int32) × (Nat → Int32)), IN u.2.1 64 → DOK u.2.2.2.1 → RF u.2.2.2.2.2.2.1 → R64 u.2.2.2.2.2.2.2.1 → R64 u.2.2.2.2.2.2.2.2 → post r u) (hK64 : ∀ (i3 : Int32) (DD' : Nat → Nat → Int32), DOK DD' → K64 i3 DD') : ∀ (m k : Nat) (DD' : Nat → Nat → Int32), k + m = 64 → DOK DD' → wX4_begin_L43 post K64 i2 (m + 1) (nI k) DD' := by
  intro m
  induction m with
  | zero =>
    intro k DD' hkm b0
    refine ⟨fun _ => ?_, fun q => absurd (by rw [show k = 64 by omega]; decide) q⟩
    exact hK64 _ _ b0
  | succ m ih =>
    intro k DD' hkm b0
    have hk : IN (nI k) 64 := ⟨k, by omega, rfl⟩
    refine ⟨fun _ => ?_, fun _ => ?_⟩
    · exact hK64 _ _ b0
    · refine ⟨(IN.vp a0 (by decide)), ?_⟩
      refine ⟨(IN.vp hk (by decide)), ?_⟩
      rw [← nI_succ]
      exact ih (k + 1) _ (by omega) (DOK.upd b0 (R64.upd (b0 _ (IN.lt a0 (by decide))) (⟨0, by decide, by decide⟩ : IN (0 : Int32) 64)))
theorem sX4_begin_L35 {post : Int32 → Int32 × Int32 × Int64 × (Nat → Nat → Int32) × Int32 × (Nat → Int32) × (Nat → Int32) × (Nat → Int32) × (Nat → Int32) → Prop} {K70 : Int32 → (Nat → Nat → Int32) → Prop} (hp : ∀ (r : Int32) (u : Int32 × Int32 × Int64 × (Nat → Nat → Int32) × Int32 × (Nat → Int32) × (Nat → Int32) × (Nat → Int32) × (Nat → Int32)), IN u.2.1 64 → DOK u.2.2.2.1 → RF u.2.2.2.2.2.2.1 → R64 u.2.2.2.2.2.2.2.1 → R64 u.2.2.2.2.2.2.2.2 → post r u) (hK70 : ∀ (i2 : Int32) (DD' : Nat → Nat → Int32), DOK DD' → K70 i2 DD') : ∀ (m k : Nat) (DD' : Nat → Nat → Int32), k + m = 6 → DOK DD' → wX4_begin_L35 post K70 (m + 1) (nI k) DD' := by
  intro m
  induction m with
  | zero =>
    intro k DD' hkm b0
    refine ⟨fun _ => ?_, fun q => absurd (by rw [show k = 6 by omega]; decide) q⟩
    exact hK70 _ _ b0
  | succ m ih =>
    intro k DD' hkm b0
    have hk : IN (nI k) 6 := ⟨k, by omega, rfl⟩
    refine ⟨fun _ => ?_, fun _ => ?_⟩
    · exact hK70 _ _ b0
    · refine ⟨65, sX4_begin_L43 hk hp (fun i3 DD' g0_K64 => ?_) 64 0 _ rfl b0⟩
      rw [← nI_succ]
      exact ih (k + 1) _ (by omega) g0_K64
theorem sX4_begin {post : Int32 → Int32 × Int32 × Int64 × (Nat → Nat → Int32) × Int32 × (Nat → Int32) × (Nat → Int32) × (Nat → Int32) × (Nat → Int32) → Prop} {th : Int32} {mr : Int32} {po : Int64} {sp : Int32} {DD : Nat → Nat → Int32} {stf : Nat → Int32} {fsf : Nat → Int32} {jnf : Nat → Int32} {rwf : Nat → Int32} {sn : Nat} {sq : Nat → Nat → Int32} {p1 : Int32} (a0 : IN mr 64) (a1 : DOK DD) (a2 : RF fsf) (a3 : R64 jnf) (a4 : R64 rwf) (a5 : sn ≤ 40) (a6 : SOK sn sq) (hp : ∀ (r : Int32) (u : Int32 × Int32 × Int64 × (Nat → Nat → Int32) × Int32 × (Nat → Int32) × (Nat → Int32) × (Nat → Int32) × (Nat → Int32)), IN u.2.1 64 → DOK u.2.2.2.1 → RF u.2.2.2.2.2.2.1 → R64 u.2.2.2.2.2.2.2.1 → R64 u.2.2.2.2.2.2.2.2 → post r u) : wX4_begin post th mr po sp DD stf fsf jnf rwf sn sq p1 := by
  unfold wX4_begin
  refine sX4_in (fun r_1 f0_r_1 f1_r_1 => ?_)
  refine ⟨fun hc1 => ?_, fun hc1 => ?_⟩
  · refine ⟨7, sX4_begin_L35 hp (fun i2 DD' g0_K70 => ?_) 6 0 _ rfl a1⟩
    refine sX4_truths_ g0_K70 a2 a3 a4 a5 a6 (fun z_1 f0_z_1 f1_z_1 f2_z_1 => ?_)
    refine sX4_trueIn (by rw [ynEq a5]; exact a5) (fun r_3 => ?_)
    exact hp _ _ ((inRng (n := 63) (by decide)).mp (f1_r_1 hc1)) g0_K70 f0_z_1 f1_z_1 f2_z_1
  · refine sX4_no (fun r_4 th_1 => ?_)
    exact hp _ _ a0 a1 a2 a3 a4
theorem sX4_look_L32 {post : Int32 → Int32 × (Nat → Nat → Int32) × (Nat → Int32) → Prop} {K65 : Int64 → Int32 → Prop} {p2 : Int32} (hp : ∀ (r : Int32) (u : Int32 × (Nat → Nat → Int32) × (Nat → Int32)), DOK u.2.1 → post r u) (hK65 : ∀ (i3 : Int64) (i5 : Int32), K65 i3 i5) : ∀ (m k : Nat) (i3 : Int64), k + m = 64 → wX4_look_L32 post K65 p2 (m + 1) i3 (nI k) := by
  intro m
  induction m with
  | zero =>
    intro k i3 hkm
    refine ⟨fun _ => ?_, fun q => absurd (by rw [show k = 64 by omega]; decide) q⟩
    exact hK65 _ _
  | succ m ih =>
    intro k i3 hkm
    have hk : IN (nI k) 64 := ⟨k, by omega, rfl⟩
    refine ⟨fun _ => ?_, fun _ => ?_⟩
    · exact hK65 _ _
    · refine sX4_has (fun r_4 f0_r_4 => ?_)
      refine ⟨fun hc1 => ?_, fun hc1 => ?_⟩
      · rw [← nI_succ]
        exact ih (k + 1) _ (by omega)
      · rw [← nI_succ]
        exact ih (k + 1) _ (by omega)
theorem sX4_look {post : Int32 → Int32 × (Nat → Nat → Int32) × (Nat → Int32) → Prop} {th : Int32} {mr : Int32} {po : Int64} {DD : Nat → Nat → Int32} {ctf : Nat → Int32} {p1 : Int32} {p2 : Int32} (a0 : IN mr 64) (a1 : DOK DD) (hp : ∀ (r : Int32) (u : Int32 × (Nat → Nat → Int32) × (Nat → Int32)), DOK u.2.1 → post r u) : wX4_look post th mr po DD ctf p1 p2 := by
  unfold wX4_look
  refine sX4_isGuard (fun r_1 f0_r_1 f1_r_1 => ?_)
  refine ⟨fun hc1 => ?_, fun hc1 => ?_⟩
  · refine sX4_no (fun r_2 th_1 => ?_)
    exact hp _ _ a1
  · refine sX4_in (fun r_3 f0_r_3 f1_r_3 => ?_)
    refine ⟨fun hc2 => ?_, fun hc2 => ?_⟩
    · refine ⟨65, sX4_look_L32 hp (fun i3 i5 => ?_) 64 0 _ rfl⟩
      refine sX4_part_ a1 (f1_r_1 hc1) (fun DD_1 f0_DD_1 => ?_)
      refine sX4_alikeNow f0_DD_1 (f1_r_1 hc1) a0 (fun r_6 => ?_)
      refine sX4_size_ (fun r_7 => ?_)
      exact hp _ _ f0_DD_1
    · refine sX4_no (fun r_8 th_2 => ?_)
      exact hp _ _ a1
theorem sX4_aloud {post : Int32 → Int32 × Int64 × (Nat → Int32) × Int32 × (Nat → Int32) × (Nat → Int32) × (Nat → Int32) × (Nat → Int32) × (Nat → Int64) × (Nat → Int32) → Prop} {th : Int32} {mr : Int32} {po : Int64} {mf : Int32} {sp : Int32} {DD : Nat → Nat → Int32} {ctf : Nat → Int32} {stf : Nat → Int32} {fsf : Nat → Int32} {jnf : Nat → Int32} {rwf : Nat → Int32} {fdf : Nat → Int64} {aff : Nat → Int32} {KP : Nat → Nat → Int32} {sn : Nat} {sq : Nat → Nat → Int32} {p1 : Int32} (a0 : IN mr 64) (a1 : DOK DD) (a2 : RF fsf) (a3 : R64 jnf) (a4 : R64 rwf) (a5 : KOK KP) (a6 : sn ≤ 40) (a7 : SOK sn sq) (hp : ∀ (r : Int32) (u : Int32 × Int64 × (Nat → Int32) × Int32 × (Nat → Int32) × (Nat → Int32) × (Nat → Int32) × (Nat → Int32) × (Nat → Int64) × (Nat → Int32)), RF u.2.2.2.2.2.1 → R64 u.2.2.2.2.2.2.1 → R64 u.2.2.2.2.2.2.2.1 → post r u) : wX4_aloud post th mr po mf sp DD ctf stf fsf jnf rwf fdf aff KP sn sq p1 := by
  unfold wX4_aloud
  refine sX4_isSentence a6 (fun r_1 f0_r_1 f1_r_1 => ?_)
  refine ⟨fun hc1 => ?_, fun hc1 => ?_⟩
  · refine sX4_truthNow a1 a2 a3 a4 a6 a7 (f1_r_1 hc1) (fun r_2 z_1 f0_z_1 f1_z_1 f2_z_1 => ?_)
    refine sX4_has_ (fun r_3 f0_r_3 => ?_)
    refine ⟨fun hc2 => ?_, fun hc2 => ?_⟩
    · refine sX4_size_ (fun r_4 => ?_)
      exact hp _ _ f0_z_1 f1_z_1 f2_z_1
    · refine sX4_no (fun r_5 th_1 => ?_)
      exact hp _ _ f0_z_1 f1_z_1 f2_z_1
  · refine sX4_no (fun r_6 th_2 => ?_)
    exact hp _ _ a2 a3 a4
theorem sX4_whisper {post : Int32 → Int32 × (Nat → Nat → Int32) × (Nat → Int32) × Int32 × (Nat → Int32) × (Nat → Int32) × (Nat → Int32) × (Nat → Int32) × (Nat → Int64) × (Nat → Int32) → Prop} {th : Int32} {mr : Int32} {po : Int64} {mf : Int32} {sp : Int32} {DD : Nat → Nat → Int32} {ctf : Nat → Int32} {stf : Nat → Int32} {fsf : Nat → Int32} {jnf : Nat → Int32} {rwf : Nat → Int32} {fdf : Nat → Int64} {aff : Nat → Int32} {KP : Nat → Nat → Int32} {sn : Nat} {sq : Nat → Nat → Int32} {p1 : Int32} {p2 : Int32} (a0 : IN mr 64) (a1 : DOK DD) (a2 : RF fsf) (a3 : R64 jnf) (a4 : R64 rwf) (a5 : KOK KP) (a6 : sn ≤ 40) (a7 : SOK sn sq) (hp : ∀ (r : Int32) (u : Int32 × (Nat → Nat → Int32) × (Nat → Int32) × Int32 × (Nat → Int32) × (Nat → Int32) × (Nat → Int32) × (Nat → Int32) × (Nat → Int64) × (Nat → Int32)), vZ r → DOK u.2.1 → RF u.2.2.2.2.2.1 → R64 u.2.2.2.2.2.2.1 → R64 u.2.2.2.2.2.2.2.1 → post r u) : wX4_whisper post th mr po mf sp DD ctf stf fsf jnf rwf fdf aff KP sn sq p1 p2 := by
  unfold wX4_whisper
  refine sX4_isGuard (fun r_1 f0_r_1 f1_r_1 => ?_)
  refine ⟨fun hc1 => ?_, fun hc1 => ?_⟩
  · refine sX4_no (fun r_2 th_1 => ?_)
    refine ⟨fun hc2 => ?_, fun hc2 => ?_⟩
    · exact hp _ _ (Or.inl rfl) a1 a2 a3 a4
    · exact hp _ _ (Or.inr rfl) a1 a2 a3 a4
  · refine sX4_isSentence a6 (fun r_3 f0_r_3 f1_r_3 => ?_)
    refine ⟨fun hc3 => ?_, fun hc3 => ?_⟩
    · refine sX4_truthNow a1 a2 a3 a4 a6 a7 (f1_r_3 hc3) (fun r_4 z_1 f0_z_1 f1_z_1 f2_z_1 => ?_)
      refine sX4_part_ a1 (f1_r_1 hc1) (fun DD_1 f0_DD_1 => ?_)
      refine sX4_has_ (fun r_6 f0_r_6 => ?_)
      refine ⟨(by assumption), ?_⟩
      exact hp _ _ f0_r_6 f0_DD_1 f0_z_1 f1_z_1 f2_z_1
    · refine sX4_no (fun r_7 th_2 => ?_)
      refine ⟨fun hc4 => ?_, fun hc4 => ?_⟩
      · exact hp _ _ (Or.inl rfl) a1 a2 a3 a4
      · exact hp _ _ (Or.inr rfl) a1 a2 a3 a4
theorem sX4_note {post : Int32 → Int32 × (Nat → Nat → Int32) × (Nat → Int32) × (Nat → Nat → Int32) × Int32 × (Nat → Int32) × (Nat → Int32) × (Nat → Int32) → Prop} {th : Int32} {mr : Int32} {po : Int64} {sp : Int32} {DD : Nat → Nat → Int32} {ctf : Nat → Int32} {stf : Nat → Int32} {fsf : Nat → Int32} {jnf : Nat → Int32} {KP : Nat → Nat → Int32} {p1 : Int32} {p2 : Int32} (a0 : IN mr 64) (a1 : DOK DD) (a2 : RF fsf) (a3 : R64 jnf) (a4 : KOK KP) (hp : ∀ (r : Int32) (u : Int32 × (Nat → Nat → Int32) × (Nat → Int32) × (Nat → Nat → Int32) × Int32 × (Nat → Int32) × (Nat → Int32) × (Nat → Int32)), DOK u.2.1 → KOK u.2.2.2.1 → RF u.2.2.2.2.2.2.1 → R64 u.2.2.2.2.2.2.2 → post r u) : wX4_note post th mr po sp DD ctf stf fsf jnf KP p1 p2 := by
  unfold wX4_note
  refine sX4_isGuard (fun r_1 f0_r_1 f1_r_1 => ?_)
  refine ⟨fun hc1 => ?_, fun hc1 => ?_⟩
  · refine sX4_no (fun r_2 th_1 => ?_)
    exact hp _ _ a1 a4 a2 a3
  · refine sX4_isGuard (fun r_3 f0_r_3 f1_r_3 => ?_)
    refine ⟨fun hc2 => ?_, fun hc2 => ?_⟩
    · refine ⟨fun hc3 => ?_, fun hc3 => ?_⟩
      · refine sX4_tell a1 a2 a3 a4 (f1_r_1 hc1) (f1_r_3 hc2) (⟨3, by decide, by decide⟩ : IN (3 : Int32) 4) (fun z_1 f0_z_1 f1_z_1 f2_z_1 f3_z_1 => ?_)
        refine sX4_alikeNow f2_z_1 (f1_r_3 hc2) a0 (fun r_5 => ?_)
        refine sX4_size_ (fun r_6 => ?_)
        exact hp _ _ f2_z_1 f3_z_1 f0_z_1 f1_z_1
      · refine sX4_no (fun r_7 th_2 => ?_)
        exact hp _ _ a1 a4 a2 a3
    · refine sX4_no (fun r_8 th_3 => ?_)
      exact hp _ _ a1 a4 a2 a3
theorem sX4_ask {post : Int32 → Int32 × Int64 × (Nat → Int32) × Int32 × (Nat → Int32) × (Nat → Int32) × (Nat → Int32) × (Nat → Int32) × (Nat → Int64) × (Nat → Int32) → Prop} {th : Int32} {mr : Int32} {po : Int64} {mf : Int32} {sp : Int32} {DD : Nat → Nat → Int32} {ctf : Nat → Int32} {stf : Nat → Int32} {fsf : Nat → Int32} {jnf : Nat → Int32} {rwf : Nat → Int32} {fdf : Nat → Int64} {aff : Nat → Int32} {KP : Nat → Nat → Int32} {sn : Nat} {sq : Nat → Nat → Int32} {p1 : Int32} {p2 : Int32} (a0 : IN mr 64) (a1 : DOK DD) (a2 : RF fsf) (a3 : R64 jnf) (a4 : R64 rwf) (a5 : KOK KP) (a6 : sn ≤ 40) (a7 : SOK sn sq) (hp : ∀ (r : Int32) (u : Int32 × Int64 × (Nat → Int32) × Int32 × (Nat → Int32) × (Nat → Int32) × (Nat → Int32) × (Nat → Int32) × (Nat → Int64) × (Nat → Int32)), RF u.2.2.2.2.2.1 → R64 u.2.2.2.2.2.2.1 → R64 u.2.2.2.2.2.2.2.1 → post r u) : wX4_ask post th mr po mf sp DD ctf stf fsf jnf rwf fdf aff KP sn sq p1 p2 := by
  unfold wX4_ask
  refine sX4_isSentence a6 (fun r_1 f0_r_1 f1_r_1 => ?_)
  refine ⟨fun hc1 => ?_, fun hc1 => ?_⟩
  · refine sX4_isSet (fun r_2 f0_r_2 f1_r_2 => ?_)
    refine ⟨fun hc2 => ?_, fun hc2 => ?_⟩
    · refine sX4_truthNow a1 a2 a3 a4 a6 a7 (f1_r_1 hc1) (fun r_3 z_1 f0_z_1 f1_z_1 f2_z_1 => ?_)
      refine sX4_who a1 (fun r_4 => ?_)
      refine sX4_asked a0 a1 (fun r_5 => ?_)
      exact hp _ _ f0_z_1 f1_z_1 f2_z_1
    · refine sX4_no (fun r_6 th_1 => ?_)
      exact hp _ _ a2 a3 a4
  · refine sX4_no (fun r_7 th_2 => ?_)
    exact hp _ _ a2 a3 a4
theorem sX4_flip_L36 {post : Int32 → Int32 × (Nat → Nat → Int32) × Int64 × Int32 × (Nat → Int32) → Prop} {K : Int32 → (Nat → Int32) → Prop} {DD : Nat → Nat → Int32} {p1 : Int32} (h1 : IN p1 6) (hK : ∀ i c, K i c) : ∀ (m k : Nat) (c : Nat → Int32), k + m = 64 → wX4_flip_L36 post K DD p1 (m + 1) (nI k) c := by
  intro m
  induction m with
  | zero =>
    intro k c h
    obtain rfl : k = 64 := by omega
    exact ⟨fun _ => hK _ _, fun q => absurd (by decide) q⟩
  | succ m ih =>
    intro k c h
    refine ⟨fun _ => hK _ _, fun _ => ⟨nI_in (by omega) (by decide), (IN.xor ⟨k, by omega, rfl⟩ h1.sh).vp (by decide), ?_⟩⟩
    rw [← nI_succ]
    exact ih (k + 1) _ (by omega)
theorem sX4_flip_L79 {post : Int32 → Int32 × (Nat → Nat → Int32) × Int64 × Int32 × (Nat → Int32) → Prop} {K : Int32 → Prop} {w : Nat} {cq : Nat → Int32} (hw : w < 64) (hK : ∀ i, IN i 64 → K i) : ∀ (m k : Nat), k + m = w → wX4_flip_L79 post K (nI w) cq (m + 1) (nI k) := by
  intro m
  induction m with
  | zero =>
    intro k h
    obtain rfl : k = w := by omega
    exact ⟨nI_in hw (by decide), nI_in hw (by decide), fun _ => hK _ ⟨k, hw, rfl⟩, fun c => absurd rfl c⟩
  | succ m ih =>
    intro k h
    refine ⟨nI_in (by omega) (by decide), nI_in hw (by decide), fun _ => hK _ ⟨k, by omega, rfl⟩, fun _ => ?_⟩
    rw [← nI_succ]
    exact ih (k + 1) (by omega)
theorem sX4_flip_L69 {post : Int32 → Int32 × (Nat → Nat → Int32) × Int64 × Int32 × (Nat → Int32) → Prop} {K : Int32 → (Nat → Nat → Int32) → Prop} {cq : Nat → Int32} (hK : ∀ i D, DOK D → K i D) : ∀ (m k : Nat) (D : Nat → Nat → Int32), k + m = 64 → DOK D → wX4_flip_L69 post K cq (m + 1) (nI k) D := by
  intro m
  induction m with
  | zero =>
    intro k D h hD
    obtain rfl : k = 64 := by omega
    exact ⟨fun _ => hK _ _ hD, fun q => absurd (by decide) q⟩
  | succ m ih =>
    intro k D h hD
    refine ⟨fun _ => hK _ _ hD, fun _ => ⟨k + 1, sX4_flip_L79 (by omega) (fun i hi => ⟨nI_in (by omega) (by decide), ?_⟩) k 0 (Nat.zero_add _)⟩⟩
    rw [← nI_succ]
    exact ih (k + 1) _ (by omega) (hD.upd ((hD 0 (by decide)).upd hi))
theorem sX4_flip_L36_3 {post : Int32 → Int32 × (Nat → Nat → Int32) × Int64 × Int32 × (Nat → Int32) → Prop} {K : Int32 → (Nat → Int32) → Prop} {DD : Nat → Nat → Int32} {p1 : Int32} (h1 : IN p1 6) (hK : ∀ i c, K i c) : ∀ (m k : Nat) (c : Nat → Int32), k + m = 64 → wX4_flip_L36_3 post K p1 DD (m + 1) (nI k) c := by
  intro m
  induction m with
  | zero =>
    intro k c h
    obtain rfl : k = 64 := by omega
    exact ⟨fun _ => hK _ _, fun q => absurd (by decide) q⟩
  | succ m ih =>
    intro k c h
    refine ⟨fun _ => hK _ _, fun _ => ⟨nI_in (by omega) (by decide), (IN.xor ⟨k, by omega, rfl⟩ h1.sh).vp (by decide), ?_⟩⟩
    rw [← nI_succ]
    exact ih (k + 1) _ (by omega)
theorem sX4_flip_L79_5 {post : Int32 → Int32 × (Nat → Nat → Int32) × Int64 × Int32 × (Nat → Int32) → Prop} {K : Int32 → Prop} {w : Nat} {cq : Nat → Int32} (hw : w < 64) (hK : ∀ i, IN i 64 → K i) : ∀ (m k : Nat), k + m = w → wX4_flip_L79_5 post K (nI w) cq (m + 1) (nI k) := by
  intro m
  induction m with
  | zero =>
    intro k h
    obtain rfl : k = w := by omega
    exact ⟨nI_in hw (by decide), nI_in hw (by decide), fun _ => hK _ ⟨k, hw, rfl⟩, fun c => absurd rfl c⟩
  | succ m ih =>
    intro k h
    refine ⟨nI_in (by omega) (by decide), nI_in hw (by decide), fun _ => hK _ ⟨k, by omega, rfl⟩, fun _ => ?_⟩
    rw [← nI_succ]
    exact ih (k + 1) (by omega)
theorem sX4_flip_L69_4 {post : Int32 → Int32 × (Nat → Nat → Int32) × Int64 × Int32 × (Nat → Int32) → Prop} {K : Int32 → (Nat → Nat → Int32) → Prop} {cq : Nat → Int32} (hK : ∀ i D, DOK D → K i D) : ∀ (m k : Nat) (D : Nat → Nat → Int32), k + m = 64 → DOK D → wX4_flip_L69_4 post K cq (m + 1) (nI k) D := by
  intro m
  induction m with
  | zero =>
    intro k D h hD
    obtain rfl : k = 64 := by omega
    exact ⟨fun _ => hK _ _ hD, fun q => absurd (by decide) q⟩
  | succ m ih =>
    intro k D h hD
    refine ⟨fun _ => hK _ _ hD, fun _ => ⟨k + 1, sX4_flip_L79_5 (by omega) (fun i hi => ⟨nI_in (by omega) (by decide), ?_⟩) k 0 (Nat.zero_add _)⟩⟩
    rw [← nI_succ]
    exact ih (k + 1) _ (by omega) (hD.upd ((hD 1 (by decide)).upd hi))
theorem sX4_flip_L36_6 {post : Int32 → Int32 × (Nat → Nat → Int32) × Int64 × Int32 × (Nat → Int32) → Prop} {K : Int32 → (Nat → Int32) → Prop} {DD : Nat → Nat → Int32} {p1 : Int32} (h1 : IN p1 6) (hK : ∀ i c, K i c) : ∀ (m k : Nat) (c : Nat → Int32), k + m = 64 → wX4_flip_L36_6 post K p1 DD (m + 1) (nI k) c := by
  intro m
  induction m with
  | zero =>
    intro k c h
    obtain rfl : k = 64 := by omega
    exact ⟨fun _ => hK _ _, fun q => absurd (by decide) q⟩
  | succ m ih =>
    intro k c h
    refine ⟨fun _ => hK _ _, fun _ => ⟨nI_in (by omega) (by decide), (IN.xor ⟨k, by omega, rfl⟩ h1.sh).vp (by decide), ?_⟩⟩
    rw [← nI_succ]
    exact ih (k + 1) _ (by omega)
theorem sX4_flip_L79_8 {post : Int32 → Int32 × (Nat → Nat → Int32) × Int64 × Int32 × (Nat → Int32) → Prop} {K : Int32 → Prop} {w : Nat} {cq : Nat → Int32} (hw : w < 64) (hK : ∀ i, IN i 64 → K i) : ∀ (m k : Nat), k + m = w → wX4_flip_L79_8 post K (nI w) cq (m + 1) (nI k) := by
  intro m
  induction m with
  | zero =>
    intro k h
    obtain rfl : k = w := by omega
    exact ⟨nI_in hw (by decide), nI_in hw (by decide), fun _ => hK _ ⟨k, hw, rfl⟩, fun c => absurd rfl c⟩
  | succ m ih =>
    intro k h
    refine ⟨nI_in (by omega) (by decide), nI_in hw (by decide), fun _ => hK _ ⟨k, by omega, rfl⟩, fun _ => ?_⟩
    rw [← nI_succ]
    exact ih (k + 1) (by omega)
theorem sX4_flip_L69_7 {post : Int32 → Int32 × (Nat → Nat → Int32) × Int64 × Int32 × (Nat → Int32) → Prop} {K : Int32 → (Nat → Nat → Int32) → Prop} {cq : Nat → Int32} (hK : ∀ i D, DOK D → K i D) : ∀ (m k : Nat) (D : Nat → Nat → Int32), k + m = 64 → DOK D → wX4_flip_L69_7 post K cq (m + 1) (nI k) D := by
  intro m
  induction m with
  | zero =>
    intro k D h hD
    obtain rfl : k = 64 := by omega
    exact ⟨fun _ => hK _ _ hD, fun q => absurd (by decide) q⟩
  | succ m ih =>
    intro k D h hD
    refine ⟨fun _ => hK _ _ hD, fun _ => ⟨k + 1, sX4_flip_L79_8 (by omega) (fun i hi => ⟨nI_in (by omega) (by decide), ?_⟩) k 0 (Nat.zero_add _)⟩⟩
    rw [← nI_succ]
    exact ih (k + 1) _ (by omega) (hD.upd ((hD 2 (by decide)).upd hi))
theorem sX4_flip_L36_9 {post : Int32 → Int32 × (Nat → Nat → Int32) × Int64 × Int32 × (Nat → Int32) → Prop} {K : Int32 → (Nat → Int32) → Prop} {DD : Nat → Nat → Int32} {p1 : Int32} (h1 : IN p1 6) (hK : ∀ i c, K i c) : ∀ (m k : Nat) (c : Nat → Int32), k + m = 64 → wX4_flip_L36_9 post K p1 DD (m + 1) (nI k) c := by
  intro m
  induction m with
  | zero =>
    intro k c h
    obtain rfl : k = 64 := by omega
    exact ⟨fun _ => hK _ _, fun q => absurd (by decide) q⟩
  | succ m ih =>
    intro k c h
    refine ⟨fun _ => hK _ _, fun _ => ⟨nI_in (by omega) (by decide), (IN.xor ⟨k, by omega, rfl⟩ h1.sh).vp (by decide), ?_⟩⟩
    rw [← nI_succ]
    exact ih (k + 1) _ (by omega)
theorem sX4_flip_L79_11 {post : Int32 → Int32 × (Nat → Nat → Int32) × Int64 × Int32 × (Nat → Int32) → Prop} {K : Int32 → Prop} {w : Nat} {cq : Nat → Int32} (hw : w < 64) (hK : ∀ i, IN i 64 → K i) : ∀ (m k : Nat), k + m = w → wX4_flip_L79_11 post K (nI w) cq (m + 1) (nI k) := by
  intro m
  induction m with
  | zero =>
    intro k h
    obtain rfl : k = w := by omega
    exact ⟨nI_in hw (by decide), nI_in hw (by decide), fun _ => hK _ ⟨k, hw, rfl⟩, fun c => absurd rfl c⟩
  | succ m ih =>
    intro k h
    refine ⟨nI_in (by omega) (by decide), nI_in hw (by decide), fun _ => hK _ ⟨k, by omega, rfl⟩, fun _ => ?_⟩
    rw [← nI_succ]
    exact ih (k + 1) (by omega)
theorem sX4_flip_L69_10 {post : Int32 → Int32 × (Nat → Nat → Int32) × Int64 × Int32 × (Nat → Int32) → Prop} {K : Int32 → (Nat → Nat → Int32) → Prop} {cq : Nat → Int32} (hK : ∀ i D, DOK D → K i D) : ∀ (m k : Nat) (D : Nat → Nat → Int32), k + m = 64 → DOK D → wX4_flip_L69_10 post K cq (m + 1) (nI k) D := by
  intro m
  induction m with
  | zero =>
    intro k D h hD
    obtain rfl : k = 64 := by omega
    exact ⟨fun _ => hK _ _ hD, fun q => absurd (by decide) q⟩
  | succ m ih =>
    intro k D h hD
    refine ⟨fun _ => hK _ _ hD, fun _ => ⟨k + 1, sX4_flip_L79_11 (by omega) (fun i hi => ⟨nI_in (by omega) (by decide), ?_⟩) k 0 (Nat.zero_add _)⟩⟩
    rw [← nI_succ]
    exact ih (k + 1) _ (by omega) (hD.upd ((hD 3 (by decide)).upd hi))
theorem sX4_flip_L36_12 {post : Int32 → Int32 × (Nat → Nat → Int32) × Int64 × Int32 × (Nat → Int32) → Prop} {K : Int32 → (Nat → Int32) → Prop} {DD : Nat → Nat → Int32} {p1 : Int32} (h1 : IN p1 6) (hK : ∀ i c, K i c) : ∀ (m k : Nat) (c : Nat → Int32), k + m = 64 → wX4_flip_L36_12 post K p1 DD (m + 1) (nI k) c := by
  intro m
  induction m with
  | zero =>
    intro k c h
    obtain rfl : k = 64 := by omega
    exact ⟨fun _ => hK _ _, fun q => absurd (by decide) q⟩
  | succ m ih =>
    intro k c h
    refine ⟨fun _ => hK _ _, fun _ => ⟨nI_in (by omega) (by decide), (IN.xor ⟨k, by omega, rfl⟩ h1.sh).vp (by decide), ?_⟩⟩
    rw [← nI_succ]
    exact ih (k + 1) _ (by omega)
theorem sX4_flip_L79_14 {post : Int32 → Int32 × (Nat → Nat → Int32) × Int64 × Int32 × (Nat → Int32) → Prop} {K : Int32 → Prop} {w : Nat} {cq : Nat → Int32} (hw : w < 64) (hK : ∀ i, IN i 64 → K i) : ∀ (m k : Nat), k + m = w → wX4_flip_L79_14 post K (nI w) cq (m + 1) (nI k) := by
  intro m
  induction m with
  | zero =>
    intro k h
    obtain rfl : k = w := by omega
    exact ⟨nI_in hw (by decide), nI_in hw (by decide), fun _ => hK _ ⟨k, hw, rfl⟩, fun c => absurd rfl c⟩
  | succ m ih =>
    intro k h
    refine ⟨nI_in (by omega) (by decide), nI_in hw (by decide), fun _ => hK _ ⟨k, by omega, rfl⟩, fun _ => ?_⟩
    rw [← nI_succ]
    exact ih (k + 1) (by omega)
theorem sX4_flip_L69_13 {post : Int32 → Int32 × (Nat → Nat → Int32) × Int64 × Int32 × (Nat → Int32) → Prop} {K : Int32 → (Nat → Nat → Int32) → Prop} {cq : Nat → Int32} (hK : ∀ i D, DOK D → K i D) : ∀ (m k : Nat) (D : Nat → Nat → Int32), k + m = 64 → DOK D → wX4_flip_L69_13 post K cq (m + 1) (nI k) D := by
  intro m
  induction m with
  | zero =>
    intro k D h hD
    obtain rfl : k = 64 := by omega
    exact ⟨fun _ => hK _ _ hD, fun q => absurd (by decide) q⟩
  | succ m ih =>
    intro k D h hD
    refine ⟨fun _ => hK _ _ hD, fun _ => ⟨k + 1, sX4_flip_L79_14 (by omega) (fun i hi => ⟨nI_in (by omega) (by decide), ?_⟩) k 0 (Nat.zero_add _)⟩⟩
    rw [← nI_succ]
    exact ih (k + 1) _ (by omega) (hD.upd ((hD 4 (by decide)).upd hi))
theorem sX4_flip_L36_15 {post : Int32 → Int32 × (Nat → Nat → Int32) × Int64 × Int32 × (Nat → Int32) → Prop} {K : Int32 → (Nat → Int32) → Prop} {DD : Nat → Nat → Int32} {p1 : Int32} (h1 : IN p1 6) (hK : ∀ i c, K i c) : ∀ (m k : Nat) (c : Nat → Int32), k + m = 64 → wX4_flip_L36_15 post K p1 DD (m + 1) (nI k) c := by
  intro m
  induction m with
  | zero =>
    intro k c h
    obtain rfl : k = 64 := by omega
    exact ⟨fun _ => hK _ _, fun q => absurd (by decide) q⟩
  | succ m ih =>
    intro k c h
    refine ⟨fun _ => hK _ _, fun _ => ⟨nI_in (by omega) (by decide), (IN.xor ⟨k, by omega, rfl⟩ h1.sh).vp (by decide), ?_⟩⟩
    rw [← nI_succ]
    exact ih (k + 1) _ (by omega)
theorem sX4_flip_L79_17 {post : Int32 → Int32 × (Nat → Nat → Int32) × Int64 × Int32 × (Nat → Int32) → Prop} {K : Int32 → Prop} {w : Nat} {cq : Nat → Int32} (hw : w < 64) (hK : ∀ i, IN i 64 → K i) : ∀ (m k : Nat), k + m = w → wX4_flip_L79_17 post K (nI w) cq (m + 1) (nI k) := by
  intro m
  induction m with
  | zero =>
    intro k h
    obtain rfl : k = w := by omega
    exact ⟨nI_in hw (by decide), nI_in hw (by decide), fun _ => hK _ ⟨k, hw, rfl⟩, fun c => absurd rfl c⟩
  | succ m ih =>
    intro k h
    refine ⟨nI_in (by omega) (by decide), nI_in hw (by decide), fun _ => hK _ ⟨k, by omega, rfl⟩, fun _ => ?_⟩
    rw [← nI_succ]
    exact ih (k + 1) (by omega)
theorem sX4_flip_L69_16 {post : Int32 → Int32 × (Nat → Nat → Int32) × Int64 × Int32 × (Nat → Int32) → Prop} {K : Int32 → (Nat → Nat → Int32) → Prop} {cq : Nat → Int32} (hK : ∀ i D, DOK D → K i D) : ∀ (m k : Nat) (D : Nat → Nat → Int32), k + m = 64 → DOK D → wX4_flip_L69_16 post K cq (m + 1) (nI k) D := by
  intro m
  induction m with
  | zero =>
    intro k D h hD
    obtain rfl : k = 64 := by omega
    exact ⟨fun _ => hK _ _ hD, fun q => absurd (by decide) q⟩
  | succ m ih =>
    intro k D h hD
    refine ⟨fun _ => hK _ _ hD, fun _ => ⟨k + 1, sX4_flip_L79_17 (by omega) (fun i hi => ⟨nI_in (by omega) (by decide), ?_⟩) k 0 (Nat.zero_add _)⟩⟩
    rw [← nI_succ]
    exact ih (k + 1) _ (by omega) (hD.upd ((hD 5 (by decide)).upd hi))
theorem sX4_flip {post : Int32 → Int32 × (Nat → Nat → Int32) × Int64 × Int32 × (Nat → Int32) → Prop} {th mr : Int32} {po : Int64} {DD : Nat → Nat → Int32} {ctf : Nat → Int32} {p1 : Int32} (a0 : IN mr 64) (a1 : DOK DD) (hp : ∀ (r : Int32) (u : Int32 × (Nat → Nat → Int32) × Int64 × Int32 × (Nat → Int32)), DOK u.2.1 → IN u.2.2.2.1 64 → post r u) : wX4_flip post th mr po DD ctf p1 := by
  refine tX4_in (fun r z h => ⟨fun c => ?_, fun _ => hp _ _ a1 a0⟩)
  have h1 : IN p1 6 := (inRng (n := 5) (by decide)).mp (h.mp c)
  exact ⟨65, sX4_flip_L36 h1 (fun _ _ => ⟨65, sX4_flip_L69 (fun _ _ D1 => ⟨65, sX4_flip_L36_3 h1 (fun _ _ => ⟨65, sX4_flip_L69_4 (fun _ _ D2 => ⟨65, sX4_flip_L36_6 h1 (fun _ _ => ⟨65, sX4_flip_L69_7 (fun _ _ D3 => ⟨65, sX4_flip_L36_9 h1 (fun _ _ => ⟨65, sX4_flip_L69_10 (fun _ _ D4 => ⟨65, sX4_flip_L36_12 h1 (fun _ _ => ⟨65, sX4_flip_L69_13 (fun _ _ D5 => ⟨65, sX4_flip_L36_15 h1 (fun _ _ => ⟨65, sX4_flip_L69_16 (fun _ _ D6 => sX4_turned (fun r2 => hp _ _ D6 (a0.xor h1.sh))) 64 0 _ rfl D5⟩) 64 0 _ rfl⟩) 64 0 _ rfl D4⟩) 64 0 _ rfl⟩) 64 0 _ rfl D3⟩) 64 0 _ rfl⟩) 64 0 _ rfl D2⟩) 64 0 _ rfl⟩) 64 0 _ rfl D1⟩) 64 0 _ rfl⟩) 64 0 _ rfl a1⟩) 64 0 _ rfl⟩
theorem sX4_call {post : Int32 → Int32 × Int32 → Prop} {th : Int32} {mf : Int32} (hp : ∀ (r : Int32) (u : Int32 × Int32), post r u) : wX4_call post th mf := by
  unfold wX4_call
  exact hp _ _
theorem sX4_isTrue {post : Int32 → Int32 × Int32 × (Nat → Int32) × (Nat → Int32) × (Nat → Int32) × (Nat → Int32) × (Nat → Int64) × (Nat → Int32) → Prop} {th : Int32} {mr : Int32} {po : Int64} {mf : Int32} {sp : Int32} {DD : Nat → Nat → Int32} {ctf : Nat → Int32} {stf : Nat → Int32} {fsf : Nat → Int32} {jnf : Nat → Int32} {rwf : Nat → Int32} {fdf : Nat → Int64} {aff : Nat → Int32} {KP : Nat → Nat → Int32} {sn : Nat} {sq : Nat → Nat → Int32} {p1 : Int32} {p2 : Int32} (a0 : IN mr 64) (a1 : DOK DD) (a2 : RF fsf) (a3 : R64 jnf) (a4 : R64 rwf) (a5 : KOK KP) (a6 : sn ≤ 40) (a7 : SOK sn sq) (hp : ∀ (r : Int32) (u : Int32 × Int32 × (Nat → Int32) × (Nat → Int32) × (Nat → Int32) × (Nat → Int32) × (Nat → Int64) × (Nat → Int32)), vZ r → RF u.2.2.2.1 → R64 u.2.2.2.2.1 → R64 u.2.2.2.2.2.1 → post r u) : wX4_isTrue post th mr po mf sp DD ctf stf fsf jnf rwf fdf aff KP sn sq p1 p2 := by
  unfold wX4_isTrue
  refine sX4_isSentence a6 (fun r_1 f0_r_1 f1_r_1 => ?_)
  refine ⟨fun hc1 => ?_, fun hc1 => ?_⟩
  · refine sX4_no (fun r_2 th_1 => ?_)
    refine ⟨fun hc2 => ?_, fun hc2 => ?_⟩
    · exact hp _ _ (Or.inl rfl) a2 a3 a4
    · exact hp _ _ (Or.inr rfl) a2 a3 a4
  · refine sX4_in (fun r_3 f0_r_3 f1_r_3 => ?_)
    refine ⟨fun hc3 => ?_, fun hc3 => ?_⟩
    · refine sX4_truthNow a1 a2 a3 a4 a6 a7 (f1_r_1 hc1) (fun r_4 z_1 f0_z_1 f1_z_1 f2_z_1 => ?_)
      refine sX4_has_ (fun r_5 f0_r_5 => ?_)
      refine ⟨(by assumption), ?_⟩
      exact hp _ _ f0_r_5 f0_z_1 f1_z_1 f2_z_1
    · refine sX4_no (fun r_6 th_2 => ?_)
      refine ⟨fun hc4 => ?_, fun hc4 => ?_⟩
      · exact hp _ _ (Or.inl rfl) a2 a3 a4
      · exact hp _ _ (Or.inr rfl) a2 a3 a4
theorem sX4_truth {post : Int64 → Int32 × Int32 × (Nat → Int32) × (Nat → Int32) × (Nat → Int32) × (Nat → Int32) × (Nat → Int64) × (Nat → Int32) → Prop} {th : Int32} {mr : Int32} {po : Int64} {mf : Int32} {sp : Int32} {DD : Nat → Nat → Int32} {ctf : Nat → Int32} {stf : Nat → Int32} {fsf : Nat → Int32} {jnf : Nat → Int32} {rwf : Nat → Int32} {fdf : Nat → Int64} {aff : Nat → Int32} {KP : Nat → Nat → Int32} {sn : Nat} {sq : Nat → Nat → Int32} {p1 : Int32} (a0 : IN mr 64) (a1 : DOK DD) (a2 : RF fsf) (a3 : R64 jnf) (a4 : R64 rwf) (a5 : KOK KP) (a6 : sn ≤ 40) (a7 : SOK sn sq) (hp : ∀ (r : Int64) (u : Int32 × Int32 × (Nat → Int32) × (Nat → Int32) × (Nat → Int32) × (Nat → Int32) × (Nat → Int64) × (Nat → Int32)), RF u.2.2.2.1 → R64 u.2.2.2.2.1 → R64 u.2.2.2.2.2.1 → post r u) : wX4_truth post th mr po mf sp DD ctf stf fsf jnf rwf fdf aff KP sn sq p1 := by
  unfold wX4_truth
  refine sX4_isSentence a6 (fun r_1 f0_r_1 f1_r_1 => ?_)
  refine ⟨fun hc1 => ?_, fun hc1 => ?_⟩
  · refine sX4_truthNow a1 a2 a3 a4 a6 a7 (f1_r_1 hc1) (fun r_2 z_1 f0_z_1 f1_z_1 f2_z_1 => ?_)
    exact hp _ _ f0_z_1 f1_z_1 f2_z_1
  · refine sX4_no (fun r_3 th_1 => ?_)
    exact hp _ _ a2 a3 a4
theorem sX4_of {post : Int32 → Int32 × Int32 × (Nat → Int32) × (Nat → Int32) × (Nat → Int32) × (Nat → Int32) × (Nat → Int64) × (Nat → Int32) → Prop} {th : Int32} {mr : Int32} {po : Int64} {mf : Int32} {sp : Int32} {DD : Nat → Nat → Int32} {ctf : Nat → Int32} {stf : Nat → Int32} {fsf : Nat → Int32} {jnf : Nat → Int32} {rwf : Nat → Int32} {fdf : Nat → Int64} {aff : Nat → Int32} {KP : Nat → Nat → Int32} {sn : Nat} {sq : Nat → Nat → Int32} {p1 : Int32} {p2 : Int32} (a0 : IN mr 64) (a1 : DOK DD) (a2 : RF fsf) (a3 : R64 jnf) (a4 : R64 rwf) (a5 : KOK KP) (a6 : sn ≤ 40) (a7 : SOK sn sq) (hp : ∀ (r : Int32) (u : Int32 × Int32 × (Nat → Int32) × (Nat → Int32) × (Nat → Int32) × (Nat → Int32) × (Nat → Int64) × (Nat → Int32)), RF u.2.2.2.1 → R64 u.2.2.2.2.1 → R64 u.2.2.2.2.2.1 → post r u) : wX4_of post th mr po mf sp DD ctf stf fsf jnf rwf fdf aff KP sn sq p1 p2 := by
  unfold wX4_of
  refine sX4_isSentence a6 (fun r_1 f0_r_1 f1_r_1 => ?_)
  refine ⟨fun hc1 => ?_, fun hc1 => ?_⟩
  · refine sX4_in (fun r_2 f0_r_2 f1_r_2 => ?_)
    refine ⟨fun hc2 => ?_, fun hc2 => ?_⟩
    · refine sX4_truthNow a1 a2 a3 a4 a6 a7 (f1_r_1 hc1) (fun r_3 z_1 f0_z_1 f1_z_1 f2_z_1 => ?_)
      refine sX4_ofNow a0 a1 a6 a7 (f1_r_1 hc1) (fun r_4 => ?_)
      exact hp _ _ f0_z_1 f1_z_1 f2_z_1
    · refine sX4_no (fun r_5 th_1 => ?_)
      exact hp _ _ a2 a3 a4
  · refine sX4_no (fun r_6 th_2 => ?_)
    exact hp _ _ a2 a3 a4
theorem sX4_depth {post : Int32 → Int32 × Int32 × (Nat → Int32) × (Nat → Int32) × (Nat → Int32) × (Nat → Int32) × (Nat → Int64) × (Nat → Int32) → Prop} {th : Int32} {mr : Int32} {po : Int64} {mf : Int32} {sp : Int32} {DD : Nat → Nat → Int32} {ctf : Nat → Int32} {stf : Nat → Int32} {fsf : Nat → Int32} {jnf : Nat → Int32} {rwf : Nat → Int32} {fdf : Nat → Int64} {aff : Nat → Int32} {KP : Nat → Nat → Int32} {sn : Nat} {sq : Nat → Nat → Int32} {p1 : Int32} {p2 : Int32} (a0 : IN mr 64) (a1 : DOK DD) (a2 : RF fsf) (a3 : R64 jnf) (a4 : R64 rwf) (a5 : KOK KP) (a6 : sn ≤ 40) (a7 : SOK sn sq) (hp : ∀ (r : Int32) (u : Int32 × Int32 × (Nat → Int32) × (Nat → Int32) × (Nat → Int32) × (Nat → Int32) × (Nat → Int64) × (Nat → Int32)), RF u.2.2.2.1 → R64 u.2.2.2.2.1 → R64 u.2.2.2.2.2.1 → post r u) : wX4_depth post th mr po mf sp DD ctf stf fsf jnf rwf fdf aff KP sn sq p1 p2 := by
  unfold wX4_depth
  refine sX4_isSentence a6 (fun r_1 f0_r_1 f1_r_1 => ?_)
  refine ⟨fun hc1 => ?_, fun hc1 => ?_⟩
  · refine sX4_isSet (fun r_2 f0_r_2 f1_r_2 => ?_)
    refine ⟨fun hc2 => ?_, fun hc2 => ?_⟩
    · refine sX4_truthNow a1 a2 a3 a4 a6 a7 (f1_r_1 hc1) (fun r_3 z_1 f0_z_1 f1_z_1 f2_z_1 => ?_)
      refine sX4_depthNow a1 (f1_r_2 hc2) (fun r_4 => ?_)
      exact hp _ _ f0_z_1 f1_z_1 f2_z_1
    · refine sX4_no (fun r_5 th_1 => ?_)
      exact hp _ _ a2 a3 a4
  · refine sX4_no (fun r_6 th_2 => ?_)
    exact hp _ _ a2 a3 a4
theorem sX4_alike {post : Int64 → Int32 → Prop} {th : Int32} {po : Int64} {DD : Nat → Nat → Int32} {p1 : Int32} {p2 : Int32} (a0 : DOK DD) (hp : ∀ (r : Int64) (u : Int32), post r u) : wX4_alike post th po DD p1 p2 := by
  unfold wX4_alike
  refine sX4_isGuard (fun r_1 f0_r_1 f1_r_1 => ?_)
  refine ⟨fun hc1 => ?_, fun hc1 => ?_⟩
  · refine sX4_no (fun r_2 th_1 => ?_)
    exact hp _ _
  · refine sX4_in (fun r_3 f0_r_3 f1_r_3 => ?_)
    refine ⟨fun hc2 => ?_, fun hc2 => ?_⟩
    · refine sX4_alikeNow a0 (f1_r_1 hc1) ((inRng (n := 63) (by decide)).mp (f1_r_3 hc2)) (fun r_4 => ?_)
      exact hp _ _
    · refine sX4_no (fun r_5 th_2 => ?_)
      exact hp _ _
theorem sX4_possible {post : Int64 → Int32 → Prop} {th : Int32} {po : Int64} (hp : ∀ (r : Int64) (u : Int32), post r u) : wX4_possible post th po := by
  unfold wX4_possible
  exact hp _ _
theorem sX4_ofGuard {post : Int32 → Int32 × Int32 × (Nat → Int32) × (Nat → Int32) × (Nat → Int32) × (Nat → Int32) → Prop} {th : Int32} {mr : Int32} {po : Int64} {sp : Int32} {DD : Nat → Nat → Int32} {stf : Nat → Int32} {fsf : Nat → Int32} {jnf : Nat → Int32} {rwf : Nat → Int32} {sn : Nat} {sq : Nat → Nat → Int32} {p1 : Int32} {p2 : Int32} (a0 : IN mr 64) (a1 : DOK DD) (a2 : RF fsf) (a3 : R64 jnf) (a4 : R64 rwf) (a5 : sn ≤ 40) (a6 : SOK sn sq) (hp : ∀ (r : Int32) (u : Int32 × Int32 × (Nat → Int32) × (Nat → Int32) × (Nat → Int32) × (Nat → Int32)), RF u.2.2.2.1 → R64 u.2.2.2.2.1 → R64 u.2.2.2.2.2 → post r u) : wX4_ofGuard post th mr po sp DD stf fsf jnf rwf sn sq p1 p2 := by
  unfold wX4_ofGuard
  refine sX4_isGuard (fun r_1 f0_r_1 f1_r_1 => ?_)
  refine ⟨fun hc1 => ?_, fun hc1 => ?_⟩
  · refine sX4_in (fun r_2 f0_r_2 f1_r_2 => ?_)
    refine ⟨fun hc2 => ?_, fun hc2 => ?_⟩
    · refine sX4_truths_ a1 a2 a3 a4 a5 a6 (fun z_1 f0_z_1 f1_z_1 f2_z_1 => ?_)
      refine sX4_guardNow a0 a1 (by rw [ynEq a5]; exact a5) (f1_r_1 hc1) (fun r_4 => ?_)
      exact hp _ _ f0_z_1 f1_z_1 f2_z_1
    · refine sX4_no (fun r_5 th_1 => ?_)
      exact hp _ _ a2 a3 a4
  · refine sX4_no (fun r_6 th_2 => ?_)
    exact hp _ _ a2 a3 a4
theorem sX4_night {post : Int32 → Int32 × Int32 × (Nat → Int32) × (Nat → Int32) × (Nat → Int32) × (Nat → Int32) → Prop} {th : Int32} {mr : Int32} {po : Int64} {mf : Int32} {sp : Int32} {DD : Nat → Nat → Int32} {ctf : Nat → Int32} {stf : Nat → Int32} {fsf : Nat → Int32} {jnf : Nat → Int32} {rwf : Nat → Int32} {sn : Nat} {sq : Nat → Nat → Int32} {p1 : Int32} (a0 : IN mr 64) (a1 : DOK DD) (a2 : RF fsf) (a3 : R64 jnf) (a4 : R64 rwf) (a5 : sn ≤ 40) (a6 : SOK sn sq) (hp : ∀ (r : Int32) (u : Int32 × Int32 × (Nat → Int32) × (Nat → Int32) × (Nat → Int32) × (Nat → Int32)), RF u.2.2.2.1 → R64 u.2.2.2.2.1 → R64 u.2.2.2.2.2 → post r u) : wX4_night post th mr po mf sp DD ctf stf fsf jnf rwf sn sq p1 := by
  unfold wX4_night
  refine sX4_in (fun r_1 f0_r_1 f1_r_1 => ?_)
  refine ⟨fun hc1 => ?_, fun hc1 => ?_⟩
  · refine sX4_truths_ a1 a2 a3 a4 a5 a6 (fun z_1 f0_z_1 f1_z_1 f2_z_1 => ?_)
    refine sX4_nightNow a0 a1 a5 (by rw [ynEq a5]; exact a5) ((inRng (n := 12) (by decide)).mp (f1_r_1 hc1)) (fun r_3 => ?_)
    exact hp _ _ f0_z_1 f1_z_1 f2_z_1
  · refine sX4_no (fun r_4 th_1 => ?_)
    exact hp _ _ a2 a3 a4
theorem sX4_wit {post : UInt64 → Int32 × Int32 × (Nat → Int32) × (Nat → Int32) × (Nat → Int32) × (Nat → Int32) → Prop} {th : Int32} {mr : Int32} {po : Int64} {sp : Int32} {DD : Nat → Nat → Int32} {stf : Nat → Int32} {fsf : Nat → Int32} {jnf : Nat → Int32} {rwf : Nat → Int32} {sn : Nat} {sq : Nat → Nat → Int32} {p1 : Int32} (a0 : IN mr 64) (a1 : DOK DD) (a2 : RF fsf) (a3 : R64 jnf) (a4 : R64 rwf) (a5 : sn ≤ 40) (a6 : SOK sn sq) (hp : ∀ (r : UInt64) (u : Int32 × Int32 × (Nat → Int32) × (Nat → Int32) × (Nat → Int32) × (Nat → Int32)), RF u.2.2.2.1 → R64 u.2.2.2.2.1 → R64 u.2.2.2.2.2 → post r u) : wX4_wit post th mr po sp DD stf fsf jnf rwf sn sq p1 := by
  unfold wX4_wit
  refine sX4_isGuard (fun r_1 f0_r_1 f1_r_1 => ?_)
  refine ⟨fun hc1 => ?_, fun hc1 => ?_⟩
  · refine sX4_truths_ a1 a2 a3 a4 a5 a6 (fun z_1 f0_z_1 f1_z_1 f2_z_1 => ?_)
    refine sX4_witNow a0 a1 (by rw [ynEq a5]; exact a5) (f1_r_1 hc1) (fun r_3 f0_r_3 => ?_)
    exact hp _ _ f0_z_1 f1_z_1 f2_z_1
  · exact hp _ _ a2 a3 a4
theorem sX4_isSound {post : Int32 → Int32 × Int32 × (Nat → Int32) × (Nat → Int32) × (Nat → Int32) × (Nat → Int32) → Prop} {th : Int32} {mr : Int32} {po : Int64} {sp : Int32} {DD : Nat → Nat → Int32} {stf : Nat → Int32} {fsf : Nat → Int32} {jnf : Nat → Int32} {rwf : Nat → Int32} {sn : Nat} {sq : Nat → Nat → Int32} (a0 : IN mr 64) (a1 : DOK DD) (a2 : RF fsf) (a3 : R64 jnf) (a4 : R64 rwf) (a5 : sn ≤ 40) (a6 : SOK sn sq) (hp : ∀ (r : Int32) (u : Int32 × Int32 × (Nat → Int32) × (Nat → Int32) × (Nat → Int32) × (Nat → Int32)), vZ r → RF u.2.2.2.1 → R64 u.2.2.2.2.1 → R64 u.2.2.2.2.2 → post r u) : wX4_isSound post th mr po sp DD stf fsf jnf rwf sn sq := by
  unfold wX4_isSound
  refine sX4_truths_ a1 a2 a3 a4 a5 a6 (fun z_1 f0_z_1 f1_z_1 f2_z_1 => ?_)
  refine sX4_isSoundNow a0 a1 a5 a6 (by rw [ynEq a5]; exact a5) (ynEq a5) (fun r_2 f0_r_2 => ?_)
  refine ⟨(by assumption), ?_⟩
  exact hp _ _ f0_r_2 f0_z_1 f1_z_1 f2_z_1
theorem sX4_notes {post : Int32 → Int32 × Int32 × (Nat → Int32) × (Nat → Int32) × (Nat → Int32) × (Nat → Int32) × (Nat → Int64) × (Nat → Int32) × (Nat → Nat → Int32) × (Nat → Nat → Int32) → Prop} {th : Int32} {mr : Int32} {po : Int64} {mf : Int32} {sp : Int32} {DD : Nat → Nat → Int32} {ctf : Nat → Int32} {stf : Nat → Int32} {fsf : Nat → Int32} {jnf : Nat → Int32} {rwf : Nat → Int32} {fdf : Nat → Int64} {aff : Nat → Int32} {KP : Nat → Nat → Int32} {sn : Nat} {sq : Nat → Nat → Int32} {p1 : Int32} {p2 : Int32} (a0 : IN mr 64) (a1 : DOK DD) (a2 : RF fsf) (a3 : R64 jnf) (a4 : R64 rwf) (a5 : KOK KP) (a6 : sn ≤ 40) (a7 : SOK sn sq) (hp : ∀ (r : Int32) (u : Int32 × Int32 × (Nat → Int32) × (Nat → Int32) × (Nat → Int32) × (Nat → Int32) × (Nat → Int64) × (Nat → Int32) × (Nat → Nat → Int32) × (Nat → Nat → Int32)), RF u.2.2.2.1 → R64 u.2.2.2.2.1 → R64 u.2.2.2.2.2.1 → DOK u.2.2.2.2.2.2.2.2.1 → KOK u.2.2.2.2.2.2.2.2.2 → post r u) : wX4_notes post th mr po mf sp DD ctf stf fsf jnf rwf fdf aff KP sn sq p1 p2 := by
  unfold wX4_notes
  refine sX4_isGuard (fun r_1 f0_r_1 f1_r_1 => ?_)
  refine ⟨fun hc1 => ?_, fun hc1 => ?_⟩
  · refine sX4_no (fun r_2 th_1 => ?_)
    exact hp _ _ a2 a3 a4 a1 a5
  · refine sX4_isSentence a6 (fun r_3 f0_r_3 f1_r_3 => ?_)
    refine ⟨fun hc2 => ?_, fun hc2 => ?_⟩
    · refine sX4_notesNow a0 a1 a2 a3 a4 a5 a6 a7 (f1_r_1 hc1) (f1_r_3 hc2) (fun r_4 z_1 f0_z_1 f1_z_1 f2_z_1 f3_z_1 f4_z_1 => ?_)
      exact hp _ _ f0_z_1 f1_z_1 f2_z_1 f3_z_1 f4_z_1
    · refine sX4_no (fun r_5 th_2 => ?_)
      exact hp _ _ a2 a3 a4 a1 a5
theorem sX4_rounds {post : Int32 → Int32 × Int64 × Int32 × (Nat → Int32) × (Nat → Int32) × (Nat → Int32) × (Nat → Int32) × (Nat → Int64) × (Nat → Int32) → Prop} {th : Int32} {mr : Int32} {po : Int64} {mf : Int32} {sp : Int32} {DD : Nat → Nat → Int32} {ctf : Nat → Int32} {stf : Nat → Int32} {fsf : Nat → Int32} {jnf : Nat → Int32} {rwf : Nat → Int32} {fdf : Nat → Int64} {aff : Nat → Int32} {KP : Nat → Nat → Int32} {sn : Nat} {sq : Nat → Nat → Int32} {p1 : Int32} {p2 : Int32} (a0 : IN mr 64) (a1 : DOK DD) (a2 : RF fsf) (a3 : R64 jnf) (a4 : R64 rwf) (a5 : KOK KP) (a6 : sn ≤ 40) (a7 : SOK sn sq) (hp : ∀ (r : Int32) (u : Int32 × Int64 × Int32 × (Nat → Int32) × (Nat → Int32) × (Nat → Int32) × (Nat → Int32) × (Nat → Int64) × (Nat → Int32)), RF u.2.2.2.2.1 → R64 u.2.2.2.2.2.1 → R64 u.2.2.2.2.2.2.1 → post r u) : wX4_rounds post th mr po mf sp DD ctf stf fsf jnf rwf fdf aff KP sn sq p1 p2 := by
  unfold wX4_rounds
  refine sX4_isSentence a6 (fun r_1 f0_r_1 f1_r_1 => ?_)
  refine ⟨fun hc1 => ?_, fun hc1 => ?_⟩
  · refine sX4_isSet (fun r_2 f0_r_2 f1_r_2 => ?_)
    refine ⟨fun hc2 => ?_, fun hc2 => ?_⟩
    · refine sX4_roundsNow a1 a2 a3 a4 a6 a7 (f1_r_1 hc1) (fun r_3 z_1 f0_z_1 f1_z_1 f2_z_1 => ?_)
      exact hp _ _ f0_z_1 f1_z_1 f2_z_1
    · refine sX4_no (fun r_4 th_1 => ?_)
      exact hp _ _ a2 a3 a4
  · refine sX4_no (fun r_5 th_2 => ?_)
    exact hp _ _ a2 a3 a4
theorem sX4_wouldTell {post : Int32 → Int32 × Int64 × Int32 × (Nat → Int32) × (Nat → Int32) × (Nat → Int32) × (Nat → Int32) × (Nat → Int64) × (Nat → Int32) → Prop} {th : Int32} {mr : Int32} {po : Int64} {mf : Int32} {sp : Int32} {DD : Nat → Nat → Int32} {ctf : Nat → Int32} {stf : Nat → Int32} {fsf : Nat → Int32} {jnf : Nat → Int32} {rwf : Nat → Int32} {fdf : Nat → Int64} {aff : Nat → Int32} {KP : Nat → Nat → Int32} {sn : Nat} {sq : Nat → Nat → Int32} {p1 : Int32} (a0 : IN mr 64) (a1 : DOK DD) (a2 : RF fsf) (a3 : R64 jnf) (a4 : R64 rwf) (a5 : KOK KP) (a6 : sn ≤ 40) (a7 : SOK sn sq) (hp : ∀ (r : Int32) (u : Int32 × Int64 × Int32 × (Nat → Int32) × (Nat → Int32) × (Nat → Int32) × (Nat → Int32) × (Nat → Int64) × (Nat → Int32)), RF u.2.2.2.2.1 → R64 u.2.2.2.2.2.1 → R64 u.2.2.2.2.2.2.1 → post r u) : wX4_wouldTell post th mr po mf sp DD ctf stf fsf jnf rwf fdf aff KP sn sq p1 := by
  unfold wX4_wouldTell
  refine sX4_isSentence a6 (fun r_1 f0_r_1 f1_r_1 => ?_)
  refine ⟨fun hc1 => ?_, fun hc1 => ?_⟩
  · refine sX4_truthNow a1 a2 a3 a4 a6 a7 (f1_r_1 hc1) (fun r_2 z_1 f0_z_1 f1_z_1 f2_z_1 => ?_)
    refine sX4_has_ (fun r_3 f0_r_3 => ?_)
    refine ⟨fun hc2 => ?_, fun hc2 => ?_⟩
    · refine sX4_truths_ a1 f0_z_1 f1_z_1 f2_z_1 a6 a7 (fun z_2 f0_z_2 f1_z_2 f2_z_2 => ?_)
      refine sX4_trueIn (by rw [ynEq a6]; exact a6) (fun r_5 => ?_)
      exact hp _ _ f0_z_2 f1_z_2 f2_z_2
    · exact hp _ _ f0_z_1 f1_z_1 f2_z_1
  · refine sX4_no (fun r_6 th_1 => ?_)
    exact hp _ _ a2 a3 a4
theorem sX4_bestNote_L35 {post : Int32 → Int32 × Int32 × (Nat → Int32) × (Nat → Int32) × (Nat → Int32) × (Nat → Int32) × (Nat → Int64) × (Nat → Int32) × (Nat → Nat → Int32) × (Nat → Nat → Int32) → Prop} {K111 : Int32 → Int32 → Int32 → Int32 → (Nat → Int32) → (Nat → Int32) → (Nat → Int32) → (Nat → Int32) → (Nat → Int64) → (Nat → Int32) → (Nat → Nat → Int32) → (Nat → Nat → Int32) → Prop} {mr : Int32} {po : Int64} {mf : Int32} {ctf : Nat → Int32} {sn : Nat} {sq : Nat → Nat → Int32} {p1 : Int32} {p2 : Int32} (a0 : IN mr 64) (a1 : sn ≤ 40) (a2 : SOK sn sq) (a3 : IN p1 6) (a4 : IN p2 sn) (hp : ∀ (r : Int32) (u : Int32 × Int32 × (Nat → Int32) × (Nat → Int32) × (Nat → Int32) × (Nat → Int32) × (Nat → Int64) × (Nat → Int32) × (Nat → Nat → Int32) × (Nat → Nat → Int32)), RF u.2.2.2.1 → R64 u.2.2.2.2.1 → R64 u.2.2.2.2.2.1 → DOK u.2.2.2.2.2.2.2.2.1 → KOK u.2.2.2.2.2.2.2.2.2 → post r u) (hK111 : ∀ (i3 : Int32) (i4 : Int32) (i5 : Int32) (sp' : Int32) (stf' : Nat → Int32) (fsf' : Nat → Int32) (jnf' : Nat → Int32) (rwf' : Nat → Int32) (fdf' : Nat → Int64) (aff' : Nat → Int32) (DD' : Nat → Nat → Int32) (KP' : Nat → Nat → Int32), RF fsf' → R64 jnf' → R64 rwf' → DOK DD' → KOK KP' → K111 i3 i4 i5 sp' stf' fsf' jnf' rwf' fdf' aff' DD' KP') : ∀ (m k : Nat) (i3 : Int32) (i4 : Int32) (sp' : Int32) (stf' : Nat → Int32) (fsf' : Nat → Int32) (jnf' : Nat → Int32) (rwf' : Nat → Int32) (fdf' : Nat → Int64) (aff' : Nat → Int32) (DD' : Nat → Nat → Int32) (KP' : Nat → Nat → Int32), k + m = 6 → RF fsf' → R64 jnf' → R64 rwf' → DOK DD' → KOK KP' → wX4_bestNote_L35 post K111 mr po mf ctf sn sq p1 p2 (m + 1) i3 i4 (nI k) sp' stf' fsf' jnf' rwf' fdf' aff' DD' KP' := by
  intro m
  induction m with
  | zero =>
    intro k i3 i4 sp' stf' fsf' jnf' rwf' fdf' aff' DD' KP' hkm b0 b1 b2 b3 b4
    refine ⟨fun _ => ?_, fun q => absurd (by rw [show k = 6 by omega]; decide) q⟩
    exact hK111 _ _ _ _ _ _ _ _ _ _ _ _ b0 b1 b2 b3 b4
  | succ m ih =>
    intro k i3 i4 sp' stf' fsf' jnf' rwf' fdf' aff' DD' KP' hkm b0 b1 b2 b3 b4
    have hk : IN (nI k) 6 := ⟨k, by omega, rfl⟩
    refine ⟨fun _ => ?_, fun _ => ?_⟩
    · exact hK111 _ _ _ _ _ _ _ _ _ _ _ _ b0 b1 b2 b3 b4
    · refine ⟨fun hc1 => ?_, fun hc1 => ?_⟩
      · refine sX4_tell b3 b0 b1 b4 hk a3 (⟨0, by decide, by decide⟩ : IN (0 : Int32) 4) (fun z_1 f0_z_1 f1_z_1 f2_z_1 f3_z_1 => ?_)
        refine sX4_alikeNow f2_z_1 a3 a0 (fun r_5 => ?_)
        refine sX4_size_ (fun r_6 => ?_)
        refine ⟨fun hc2 => ?_, fun hc2 => ?_⟩
        · refine sX4_restoreK f2_z_1 f3_z_1 (IN.lt (⟨0, by decide, by decide⟩ : IN (0 : Int32) 4) (by decide)) a3 (fun DD_2 f0_DD_2 => ?_)
          rw [← nI_succ]
          exact ih (k + 1) _ _ _ _ _ _ _ _ _ _ _ (by omega) f0_z_1 f1_z_1 b2 f0_DD_2 f3_z_1
        · refine sX4_knowsIt a0 f2_z_1 f0_z_1 f1_z_1 b2 f3_z_1 a1 a2 a3 a4 (fun r_8 z_2 f0_z_2 f1_z_2 f2_z_2 f3_z_2 => ?_)
          refine ⟨fun hc3 => ?_, fun hc3 => ?_⟩
          · refine sX4_restoreK f2_z_1 f3_z_1 (IN.lt (⟨0, by decide, by decide⟩ : IN (0 : Int32) 4) (by decide)) a3 (fun DD_3 f0_DD_3 => ?_)
            rw [← nI_succ]
            exact ih (k + 1) _ _ _ _ _ _ _ _ _ _ _ (by omega) f1_z_2 f2_z_2 f3_z_2 f0_DD_3 f3_z_1
          · refine sX4_restoreK f2_z_1 f3_z_1 (IN.lt (⟨0, by decide, by decide⟩ : IN (0 : Int32) 4) (by decide)) a3 (fun DD_4 f0_DD_4 => ?_)
            rw [← nI_succ]
            exact ih (k + 1) _ _ _ _ _ _ _ _ _ _ _ (by omega) f1_z_2 f2_z_2 f3_z_2 f0_DD_4 f3_z_1
      · rw [← nI_succ]
        exact ih (k + 1) _ _ _ _ _ _ _ _ _ _ _ (by omega) b0 b1 b2 b3 b4
theorem sX4_bestNote {post : Int32 → Int32 × Int32 × (Nat → Int32) × (Nat → Int32) × (Nat → Int32) × (Nat → Int32) × (Nat → Int64) × (Nat → Int32) × (Nat → Nat → Int32) × (Nat → Nat → Int32) → Prop} {th : Int32} {mr : Int32} {po : Int64} {mf : Int32} {sp : Int32} {DD : Nat → Nat → Int32} {ctf : Nat → Int32} {stf : Nat → Int32} {fsf : Nat → Int32} {jnf : Nat → Int32} {rwf : Nat → Int32} {fdf : Nat → Int64} {aff : Nat → Int32} {KP : Nat → Nat → Int32} {sn : Nat} {sq : Nat → Nat → Int32} {p1 : Int32} {p2 : Int32} (a0 : IN mr 64) (a1 : DOK DD) (a2 : RF fsf) (a3 : R64 jnf) (a4 : R64 rwf) (a5 : KOK KP) (a6 : sn ≤ 40) (a7 : SOK sn sq) (hp : ∀ (r : Int32) (u : Int32 × Int32 × (Nat → Int32) × (Nat → Int32) × (Nat → Int32) × (Nat → Int32) × (Nat → Int64) × (Nat → Int32) × (Nat → Nat → Int32) × (Nat → Nat → Int32)), RF u.2.2.2.1 → R64 u.2.2.2.2.1 → R64 u.2.2.2.2.2.1 → DOK u.2.2.2.2.2.2.2.2.1 → KOK u.2.2.2.2.2.2.2.2.2 → post r u) : wX4_bestNote post th mr po mf sp DD ctf stf fsf jnf rwf fdf aff KP sn sq p1 p2 := by
  unfold wX4_bestNote
  refine sX4_isGuard (fun r_1 f0_r_1 f1_r_1 => ?_)
  refine ⟨fun hc1 => ?_, fun hc1 => ?_⟩
  · refine sX4_no (fun r_2 th_1 => ?_)
    exact hp _ _ a2 a3 a4 a1 a5
  · refine sX4_isSentence a6 (fun r_3 f0_r_3 f1_r_3 => ?_)
    refine ⟨fun hc2 => ?_, fun hc2 => ?_⟩
    · refine ⟨7, sX4_bestNote_L35 a0 a6 a7 (f1_r_1 hc1) (f1_r_3 hc2) hp (fun i3 i4 i5 sp' stf' fsf' jnf' rwf' fdf' aff' DD' KP' g0_K111 g1_K111 g2_K111 g3_K111 g4_K111 => ?_) 6 0 _ _ _ _ _ _ _ _ _ _ _ rfl a2 a3 a4 a1 a5⟩
      exact hp _ _ g0_K111 g1_K111 g2_K111 g3_K111 g4_K111
    · refine sX4_no (fun r_11 th_2 => ?_)
      exact hp _ _ a2 a3 a4 a1 a5
theorem sX4_digest_L17 {post : Int64 → Int32 × Int64 × Int32 × (Nat → Int32) × (Nat → Int32) × (Nat → Int32) × (Nat → Int32) × (Nat → Int64) × (Nat → Int32) × (Nat → Nat → Int32) × (Nat → Nat → Int32) → Prop} {K45 : Int64 → Int32 → Prop} {mr : Int32} {po : Int64} {mf : Int32} {DD : Nat → Nat → Int32} {ctf : Nat → Int32} {sn : Nat} {nf_1 : Nat → Int64} (a0 : IN mr 64) (a1 : DOK DD) (a2 : sn ≤ 40) (hp : ∀ (r : Int64) (u : Int32 × Int64 × Int32 × (Nat → Int32) × (Nat → Int32) × (Nat → Int32) × (Nat → Int32) × (Nat → Int64) × (Nat → Int32) × (Nat → Nat → Int32) × (Nat → Nat → Int32)), RF u.2.2.2.2.1 → R64 u.2.2.2.2.2.1 → R64 u.2.2.2.2.2.2.1 → DOK u.2.2.2.2.2.2.2.2.2.1 → KOK u.2.2.2.2.2.2.2.2.2.2 → post r u) (hK45 : ∀ (i1 : Int64) (i4 : Int32), K45 i1 i4) : ∀ (m k : Nat) (i1 : Int64), k + m = 13 → wX4_digest_L17 post K45 mr po mf DD ctf sn nf_1 (m + 1) i1 (nI k) := by
  intro m
  induction m with
  | zero =>
    intro k i1 hkm
    refine ⟨fun _ => ?_, fun q => absurd (by rw [show k = 13 by omega]; decide) q⟩
    exact hK45 _ _
  | succ m ih =>
    intro k i1 hkm
    have hk : IN (nI k) 13 := ⟨k, by omega, rfl⟩
    refine ⟨fun _ => ?_, fun _ => ?_⟩
    · exact hK45 _ _
    · refine sX4_nightNow a0 a1 a2 (by rw [ynEq a2]; exact a2) hk (fun r_2 => ?_)
      rw [← nI_succ]
      exact ih (k + 1) _ (by omega)
theorem sX4_digest_L69 {post : Int64 → Int32 × Int64 × Int32 × (Nat → Int32) × (Nat → Int32) × (Nat → Int32) × (Nat → Int32) × (Nat → Int64) × (Nat → Int32) × (Nat → Nat → Int32) × (Nat → Nat → Int32) → Prop} {K98 : Int64 → Int32 → Prop} {mr : Int32} {po : Int64} {DD : Nat → Nat → Int32} {sn : Nat} {nf_1 : Nat → Int64} {i4 : Int32} (a0 : IN mr 64) (a1 : DOK DD) (a2 : sn ≤ 40) (a3 : IN i4 6) (hp : ∀ (r : Int64) (u : Int32 × Int64 × Int32 × (Nat → Int32) × (Nat → Int32) × (Nat → Int32) × (Nat → Int32) × (Nat → Int64) × (Nat → Int32) × (Nat → Nat → Int32) × (Nat → Nat → Int32)), RF u.2.2.2.2.1 → R64 u.2.2.2.2.2.1 → R64 u.2.2.2.2.2.2.1 → DOK u.2.2.2.2.2.2.2.2.2.1 → KOK u.2.2.2.2.2.2.2.2.2.2 → post r u) (hK98 : ∀ (i1 : Int64) (i5 : Int32), K98 i1 i5) : ∀ (m k : Nat) (i1 : Int64), k + m = 5 → wX4_digest_L69 post K98 mr po DD sn nf_1 i4 (m + 1) i1 (nI k) := by
  intro m
  induction m with
  | zero =>
    intro k i1 hkm
    refine ⟨fun _ => ?_, fun q => absurd (by rw [show k = 5 by omega]; decide) q⟩
    exact hK98 _ _
  | succ m ih =>
    intro k i1 hkm
    have hk : IN (nI k) 5 := ⟨k, by omega, rfl⟩
    refine ⟨fun _ => ?_, fun _ => ?_⟩
    · exact hK98 _ _
    · refine sX4_guardNow a0 a1 (by rw [ynEq a2]; exact a2) a3 (fun r_3 => ?_)
      rw [← nI_succ]
      exact ih (k + 1) _ (by omega)
theorem sX4_digest_L59 {post : Int64 → Int32 × Int64 × Int32 × (Nat → Int32) × (Nat → Int32) × (Nat → Int32) × (Nat → Int32) × (Nat → Int64) × (Nat → Int32) × (Nat → Nat → Int32) × (Nat → Nat → Int32) → Prop} {K121 : Int64 → Int32 → Prop} {mr : Int32} {po : Int64} {DD : Nat → Nat → Int32} {sn : Nat} {nf_1 : Nat → Int64} (a0 : IN mr 64) (a1 : DOK DD) (a2 : sn ≤ 40) (hp : ∀ (r : Int64) (u : Int32 × Int64 × Int32 × (Nat → Int32) × (Nat → Int32) × (Nat → Int32) × (Nat → Int32) × (Nat → Int64) × (Nat → Int32) × (Nat → Nat → Int32) × (Nat → Nat → Int32)), RF u.2.2.2.2.1 → R64 u.2.2.2.2.2.1 → R64 u.2.2.2.2.2.2.1 → DOK u.2.2.2.2.2.2.2.2.2.1 → KOK u.2.2.2.2.2.2.2.2.2.2 → post r u) (hK121 : ∀ (i1 : Int64) (i4 : Int32), K121 i1 i4) : ∀ (m k : Nat) (i1 : Int64), k + m = 6 → wX4_digest_L59 post K121 mr po DD sn nf_1 (m + 1) i1 (nI k) := by
  intro m
  induction m with
  | zero =>
    intro k i1 hkm
    refine ⟨fun _ => ?_, fun q => absurd (by rw [show k = 6 by omega]; decide) q⟩
    exact hK121 _ _
  | succ m ih =>
    intro k i1 hkm
    have hk : IN (nI k) 6 := ⟨k, by omega, rfl⟩
    refine ⟨fun _ => ?_, fun _ => ?_⟩
    · exact hK121 _ _
    · refine ⟨6, sX4_digest_L69 a0 a1 a2 hk hp (fun i1 i5 => ?_) 5 0 _ rfl⟩
      refine sX4_alikeNow a1 hk a0 (fun r_4 => ?_)
      rw [← nI_succ]
      exact ih (k + 1) _ (by omega)
theorem sX4_digest_L145 {post : Int64 → Int32 × Int64 × Int32 × (Nat → Int32) × (Nat → Int32) × (Nat → Int32) × (Nat → Int32) × (Nat → Int64) × (Nat → Int32) × (Nat → Nat → Int32) × (Nat → Nat → Int32) → Prop} {K178 : Int64 → Int32 → Prop} {mr : Int32} {po : Int64} {DD : Nat → Nat → Int32} {sn : Nat} {sq : Nat → Nat → Int32} {nf_1 : Nat → Int64} {i4 : Int32} (a0 : IN mr 64) (a1 : DOK DD) (a2 : sn ≤ 40) (a3 : SOK sn sq) (a4 : IN i4 sn) (hp : ∀ (r : Int64) (u : Int32 × Int64 × Int32 × (Nat → Int32) × (Nat → Int32) × (Nat → Int32) × (Nat → Int32) × (Nat → Int64) × (Nat → Int32) × (Nat → Nat → Int32) × (Nat → Nat → Int32)), RF u.2.2.2.2.1 → R64 u.2.2.2.2.2.1 → R64 u.2.2.2.2.2.2.1 → DOK u.2.2.2.2.2.2.2.2.2.1 → KOK u.2.2.2.2.2.2.2.2.2.2 → post r u) (hK178 : ∀ (i1 : Int64) (i5 : Int32), K178 i1 i5) : ∀ (m k : Nat) (i1 : Int64), k + m = 10 → wX4_digest_L145 post K178 mr po DD sn sq nf_1 i4 (m + 1) i1 (nI k) := by
  intro m
  induction m with
  | zero =>
    intro k i1 hkm
    refine ⟨fun _ => ?_, fun q => absurd (by rw [show k = 10 by omega]; decide) q⟩
    exact hK178 _ _
  | succ m ih =>
    intro k i1 hkm
    have hk : IN (nI k) 10 := ⟨k, by omega, rfl⟩
    refine ⟨fun _ => ?_, fun _ => ?_⟩
    · exact hK178 _ _
    · refine ⟨(IN.vp (by rw [ynEq a2]; exact a4) (by rw [ynEq a2]; omega)), ?_⟩
      refine sX4_ofNow a0 a1 a2 a3 a4 (fun r_5 => ?_)
      rw [← nI_succ]
      exact ih (k + 1) _ (by omega)
theorem sX4_digest_L124 {post : Int64 → Int32 × Int64 × Int32 × (Nat → Int32) × (Nat → Int32) × (Nat → Int32) × (Nat → Int32) × (Nat → Int64) × (Nat → Int32) × (Nat → Nat → Int32) × (Nat → Nat → Int32) → Prop} {K202 : Int64 → Int32 → Prop} {mr : Int32} {po : Int64} {DD : Nat → Nat → Int32} {sn : Nat} {sq : Nat → Nat → Int32} {nf_1 : Nat → Int64} (a0 : IN mr 64) (a1 : DOK DD) (a2 : sn ≤ 40) (a3 : SOK sn sq) (hp : ∀ (r : Int64) (u : Int32 × Int64 × Int32 × (Nat → Int32) × (Nat → Int32) × (Nat → Int32) × (Nat → Int32) × (Nat → Int64) × (Nat → Int32) × (Nat → Nat → Int32) × (Nat → Nat → Int32)), RF u.2.2.2.2.1 → R64 u.2.2.2.2.2.1 → R64 u.2.2.2.2.2.2.1 → DOK u.2.2.2.2.2.2.2.2.2.1 → KOK u.2.2.2.2.2.2.2.2.2.2 → post r u) (hK202 : ∀ (i1 : Int64) (i4 : Int32), K202 i1 i4) : ∀ (m k : Nat) (i1 : Int64), k + m = sn → wX4_digest_L124 post K202 mr po DD sn sq nf_1 (m + 1) i1 (nI k) := by
  intro m
  induction m with
  | zero =>
    intro k i1 hkm
    refine ⟨fun _ => ?_, fun q => absurd (by rw [show k = sn by omega]; rw [ynEq a2]; exact Int32.le_refl _) q⟩
    exact hK202 _ _
  | succ m ih =>
    intro k i1 hkm
    have hk : IN (nI k) sn := ⟨k, by omega, rfl⟩
    refine ⟨fun _ => ?_, fun _ => ?_⟩
    · exact hK202 _ _
    · refine ⟨(IN.vp (by rw [ynEq a2]; exact hk) (by rw [ynEq a2]; omega)), ?_⟩
      intro x_1 ex_1
      refine ⟨11, sX4_digest_L145 a0 a1 a2 a3 hk hp (fun i1 i5 => ?_) 10 0 _ rfl⟩
      refine ⟨(IN.vp (by rw [ynEq a2]; exact hk) (by rw [ynEq a2]; omega)), ?_⟩
      refine sX4_depthNow a1 setg63 (fun r_6 => ?_)
      rw [← nI_succ]
      exact ih (k + 1) _ (by omega)
theorem sX4_digest {post : Int64 → Int32 × Int64 × Int32 × (Nat → Int32) × (Nat → Int32) × (Nat → Int32) × (Nat → Int32) × (Nat → Int64) × (Nat → Int32) × (Nat → Nat → Int32) × (Nat → Nat → Int32) → Prop} {th : Int32} {mr : Int32} {po : Int64} {mf : Int32} {sp : Int32} {DD : Nat → Nat → Int32} {ctf : Nat → Int32} {stf : Nat → Int32} {fsf : Nat → Int32} {jnf : Nat → Int32} {rwf : Nat → Int32} {fdf : Nat → Int64} {aff : Nat → Int32} {KP : Nat → Nat → Int32} {sn : Nat} {sq : Nat → Nat → Int32} (a0 : IN mr 64) (a1 : DOK DD) (a2 : RF fsf) (a3 : R64 jnf) (a4 : R64 rwf) (a5 : KOK KP) (a6 : sn ≤ 40) (a7 : SOK sn sq) (hp : ∀ (r : Int64) (u : Int32 × Int64 × Int32 × (Nat → Int32) × (Nat → Int32) × (Nat → Int32) × (Nat → Int32) × (Nat → Int64) × (Nat → Int32) × (Nat → Nat → Int32) × (Nat → Nat → Int32)), RF u.2.2.2.2.1 → R64 u.2.2.2.2.2.1 → R64 u.2.2.2.2.2.2.1 → DOK u.2.2.2.2.2.2.2.2.2.1 → KOK u.2.2.2.2.2.2.2.2.2.2 → post r u) : wX4_digest post th mr po mf sp DD ctf stf fsf jnf rwf fdf aff KP sn sq := by
  unfold wX4_digest
  refine sX4_truths_ a1 a2 a3 a4 a6 a7 (fun z_1 f0_z_1 f1_z_1 f2_z_1 => ?_)
  refine ⟨14, sX4_digest_L17 a0 a1 a6 hp (fun i1 i4 => ?_) 13 0 _ rfl⟩
  refine ⟨7, sX4_digest_L59 a0 a1 a6 hp (fun i1 i4 => ?_) 6 0 _ rfl⟩
  refine ⟨sn + 1, sX4_digest_L124 a0 a1 a6 a7 hp (fun i1 i4 => ?_) sn 0 _ (Nat.zero_add _)⟩
  refine ⟨fun hc1 => ?_, fun hc1 => ?_⟩
  · refine sX4_witNow a0 a1 (by rw [ynEq a6]; exact a6) (⟨0, by decide, by decide⟩ : IN (0 : Int32) 6) (fun r_7 f0_r_7 => ?_)
    refine ⟨f0_r_7, ?_⟩
    intro x_2 ex_2
    refine sX4_isSoundNow a0 a1 a6 a7 (by rw [ynEq a6]; exact a6) (ynEq a6) (fun r_8 f0_r_8 => ?_)
    refine ⟨fun hc2 => ?_, fun hc2 => ?_⟩
    · exact hp _ _ f0_z_1 f1_z_1 f2_z_1 a1 a5
    · exact hp _ _ f0_z_1 f1_z_1 f2_z_1 a1 a5
  · refine sX4_notesNow a0 a1 f0_z_1 f1_z_1 f2_z_1 a5 a6 a7 (⟨0, by decide, by decide⟩ : IN (0 : Int32) 6) (predIN a6 hc1) (fun r_9 z_2 f0_z_2 f1_z_2 f2_z_2 f3_z_2 f4_z_2 => ?_)
    refine sX4_roundsNow f3_z_2 f0_z_2 f1_z_2 f2_z_2 a6 a7 (predIN a6 hc1) (fun r_10 z_3 f0_z_3 f1_z_3 f2_z_3 => ?_)
    intro x_3 ex_3
    refine sX4_witNow a0 f3_z_2 (by rw [ynEq a6]; exact a6) (⟨0, by decide, by decide⟩ : IN (0 : Int32) 6) (fun r_11 f0_r_11 => ?_)
    refine ⟨f0_r_11, ?_⟩
    intro x_4 ex_4
    refine sX4_isSoundNow a0 f3_z_2 a6 a7 (by rw [ynEq a6]; exact a6) (ynEq a6) (fun r_12 f0_r_12 => ?_)
    refine ⟨fun hc3 => ?_, fun hc3 => ?_⟩
    · exact hp _ _ f0_z_3 f1_z_3 f2_z_3 f3_z_2 f4_z_2
    · exact hp _ _ f0_z_3 f1_z_3 f2_z_3 f3_z_2 f4_z_2
