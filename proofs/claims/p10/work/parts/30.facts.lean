-- plain facts over the w's: any answer will do ('weak')
theorem rngI {p : Int32} {n : Nat} (hn : n < 2 ^ 31) (a : ¬ p < 0) (b : ¬ nI n ≤ p) : ∃ k, k < n ∧ p = nI k := by
  refine ⟨p.toNatClampNeg, ?_, (nIclamp a).symm⟩
  apply Nat.lt_of_not_le
  intro h
  apply b
  rw [← nIclamp a]
  have h2 : p.toNatClampNeg < 2 ^ 31 := by
    have h4 : p.toNatClampNeg = p.toInt.toNat := rfl
    have h3 : p.toInt < 2 ^ 31 := p.toInt_lt
    omega
  exact nI_le h h2
theorem sX2_isGuard {post : Int32 → Prop} {p : Int32} (h1 : ∀ k, k < 6 → p = nI k → post 1) (h0 : post 0) : wX2_isGuard post p :=
  ⟨fun _ => h0, fun a => ⟨fun _ => h0, fun b => by obtain ⟨k, h, e⟩ := rngI (n := 6) (by decide) a b; exact h1 k h e⟩⟩
theorem sX2_isFact {post : Int32 → Prop} {p : Int32} (h1 : ∀ k, k < 6 → p = nI k → post 1) (h0 : post 0) : wX2_isFact post p :=
  ⟨fun _ => h0, fun a => ⟨fun _ => h0, fun b => by obtain ⟨k, h, e⟩ := rngI (n := 6) (by decide) a b; exact h1 k h e⟩⟩
theorem sX2_isWorld {post : Int32 → Prop} {p : Int32} (h1 : ∀ k, k < 64 → p = nI k → post 1) (h0 : post 0) : wX2_isWorld post p :=
  ⟨fun _ => h0, fun a => ⟨fun _ => h0, fun b => by obtain ⟨k, h, e⟩ := rngI (n := 64) (by decide) a b; exact h1 k h e⟩⟩
theorem idx64 : ∀ g, g < 6 → ∀ w, w < 64 → ¬ ((nI g * 64 + nI w) < 0 ∨ 384 ≤ (nI g * 64 + nI w).toNatClampNeg) := by decide +kernel
theorem sX1_cell {post : Int64 → Prop} {dk : Nat → Int64} {op : Int64} {p1 p2 : Int32} (hp : ∀ r, post r) : wX1_cell post dk op p1 p2 := by
  refine sX2_isGuard (fun g hg eg => ⟨fun _ => hp _, fun _ => sX2_isWorld (fun w hw ew => ⟨fun _ => hp _, fun _ => ⟨?_, hp _⟩⟩) ⟨fun _ => hp _, fun h => absurd rfl h⟩⟩) ⟨fun _ => hp _, fun h => absurd rfl h⟩
  subst eg ew
  exact idx64 g hg w hw
theorem sX2_smallestOf {post : Int32 → Prop} {p : Int64} (hp : ∀ r, post r) : wX2_smallestOf post p := by
  unfold wX2_smallestOf wJ13_bitCount_95d88
  intros
  exact hp _
theorem sX2_has {post : Int32 → Prop} {p1 : Int64} {p2 : Int32} (hp : ∀ r, r = 0 ∨ r = 1 → post r) : wX2_has post p1 p2 :=
  ⟨fun _ => hp _ (Or.inl rfl), fun _ => hp _ (Or.inr rfl)⟩
theorem sX1_spread_L38 {post : Int64 → Prop} {K : Int64 → Int64 → Int32 → Prop} {dk : Nat → Int64} {op : Int64} {i6 : Int32} (hK : ∀ a b c, K a b c) : ∀ (m k : Nat) (i4 i7 : Int64), k + m = 64 → wX1_spread_L38 post K dk op i6 (m + 1) i4 i7 (nI k)
  | 0, k, i4, i7, h => ⟨fun _ => hK _ _ _, fun q => absurd (by rw [show k = 64 by omega]; decide) q⟩
  | m + 1, k, i4, i7, h => ⟨fun _ => hK _ _ _, fun _ => ⟨fun _ => hK _ _ _, fun _ => sX2_smallestOf (fun r => sX1_cell (fun r3 => by
      rw [← nI_succ]
      exact sX1_spread_L38 hK m (k + 1) _ _ (by omega)))⟩⟩
theorem sX1_spread_L6 {post : Int64 → Prop} {K : Int64 → Int32 → Prop} {dk : Nat → Int64} {op : Int64} {p1 : Int32} {p2 : Int64} (hK : ∀ a b, K a b) : ∀ (m k : Nat) (i4 : Int64), k + m = 6 → wX1_spread_L6 post K dk op p1 p2 (m + 1) i4 (nI k)
  | 0, k, i4, h => ⟨fun _ => hK _ _, fun q => absurd (by rw [show k = 6 by omega]; decide) q⟩
  | m + 1, k, i4, h => ⟨fun _ => hK _ _, fun _ => sX2_has (fun r _ => ⟨fun _ => ⟨65, sX1_spread_L38 (fun a b c => by
      rw [← nI_succ]
      exact sX1_spread_L6 hK m (k + 1) _ (by omega)) 64 0 _ _ rfl⟩, fun _ => ⟨65, sX1_spread_L38 (fun a b c => by
      rw [← nI_succ]
      exact sX1_spread_L6 hK m (k + 1) _ (by omega)) 64 0 _ _ rfl⟩⟩)⟩
theorem sX1_spread {post : Int64 → Prop} {dk : Nat → Int64} {op : Int64} {p1 : Int32} {p2 : Int64} (hp : ∀ r, post r) : wX1_spread post dk op p1 p2 := ⟨7, sX1_spread_L6 (fun a b => hp _) 6 0 _ rfl⟩
theorem sX0_holds {post : Int32 → Prop} {bn p : Int32} {nn : Nat} (hb : bn = nI nn) (hn : nn ≤ 40) (h1 : ∀ k, k < nn → p = nI k → post 1) (h0 : post 0) : wX0_holds post bn p :=
  ⟨fun _ => h0, fun a => ⟨fun _ => h0, fun b => by
    subst hb
    obtain ⟨k, h, e⟩ := rngI (n := nn) (by omega) a b
    exact h1 k h e⟩⟩
theorem sX0_kindOf {post : Int32 → Prop} {kf : Nat → Int32} {bn p : Int32} {nn : Nat} (hb : bn = nI nn) (hn : nn ≤ 40) (hp : ∀ r, post r) : wX0_kindOf post kf bn p := sX0_holds hb hn (fun k h e => ⟨fun q => absurd q (by decide), fun _ => ⟨by subst e; exact nI_in (by omega) (by decide), hp _⟩⟩) ⟨fun _ => hp _, fun q => absurd rfl q⟩
theorem sX0_firstOf {post : Int32 → Prop} {ff : Nat → Int32} {bn p : Int32} {nn : Nat} (hb : bn = nI nn) (hn : nn ≤ 40) (hp : ∀ r, post r) : wX0_firstOf post ff bn p := sX0_holds hb hn (fun k h e => ⟨fun q => absurd q (by decide), fun _ => ⟨by subst e; exact nI_in (by omega) (by decide), hp _⟩⟩) ⟨fun _ => hp _, fun q => absurd rfl q⟩
theorem sX0_secondOf {post : Int32 → Prop} {sf : Nat → Int32} {bn p : Int32} {nn : Nat} (hb : bn = nI nn) (hn : nn ≤ 40) (hp : ∀ r, post r) : wX0_secondOf post sf bn p := sX0_holds hb hn (fun k h e => ⟨fun q => absurd q (by decide), fun _ => ⟨by subst e; exact nI_in (by omega) (by decide), hp _⟩⟩) ⟨fun _ => hp _, fun q => absurd rfl q⟩
theorem sX0_builtDeep {post : Int32 → Prop} {df : Nat → Int32} {bn p : Int32} {nn : Nat} (hb : bn = nI nn) (hn : nn ≤ 40) (hp : ∀ r, post r) : wX0_builtDeep post df bn p := sX0_holds hb hn (fun k h e => ⟨fun q => absurd q (by decide), fun _ => ⟨by subst e; exact nI_in (by omega) (by decide), hp _⟩⟩) ⟨fun _ => hp _, fun q => absurd rfl q⟩
theorem sX0_partsOf {post : Int64 → Prop} {pf : Nat → Int64} {bn p : Int32} {nn : Nat} (hb : bn = nI nn) (hn : nn ≤ 40) (hp : ∀ r, post r) : wX0_partsOf post pf bn p := sX0_holds hb hn (fun k h e => ⟨fun q => absurd q (by decide), fun _ => ⟨by subst e; exact nI_in (by omega) (by decide), hp _⟩⟩) ⟨fun _ => hp _, fun q => absurd rfl q⟩
theorem sX1_worldsOf {post : Int64 → Prop} {wg : Nat → Int64} {bn p : Int32} {nn : Nat} (hb : bn = nI nn) (hn : nn ≤ 40) (hp : ∀ r, post r) : wX1_worldsOf post wg bn p := sX0_holds hb hn (fun k h e => ⟨fun q => absurd q (by decide), fun _ => ⟨by subst e; exact nI_in (by omega) (by decide), hp _⟩⟩) ⟨fun _ => hp _, fun q => absurd rfl q⟩
theorem sX2_isWithin {post : Int32 → Prop} {p1 p2 : Int64} (hp : ∀ r, vZ r → post r) : wX2_isWithin post p1 p2 := by
  unfold wX2_isWithin
  (repeat' (first
    | exact hp _ (Or.inl rfl)
    | exact hp _ (Or.inr rfl)
    | (with_reducible refine ⟨?_, ?_⟩)
    | intro _))
theorem sX2_setOf {post : Int64 → Prop} {p1 : Int32} (hp : ∀ r, post r) : wX2_setOf post p1 := hp _
theorem sJ13_bitCount_95d88 {post : Int32 → Prop} {p1 : Int64} (hp : ∀ r, post r) : wJ13_bitCount_95d88 post p1 := fun _ _ _ _ _ _ _ _ => hp _
theorem sJ6_bitCount_0f7a4 {post : Int32 → Prop} {p1 : Int32} (hp : ∀ r, post r) : wJ6_bitCount_0f7a4 post p1 := by
  unfold wJ6_bitCount_0f7a4
  intros
  exact hp _
theorem sX0_count {post : Int32 → Prop} {bn : Int32} (hp : post bn) : wX0_count post bn := hp
theorem sX1_countTrueInAllOf_L5 {post : Int32 → Prop} {K : Int32 → Int32 → Prop} {wg : Nat → Int64} {bn : Int32} {p1 : Int64} {nn : Nat} (hb : bn = nI nn) (hn : nn ≤ 40) (hK : ∀ a b, K a b) : ∀ (m k : Nat) (i3 : Int32), k + m = nn → wX1_countTrueInAllOf_L5 post K wg bn p1 (m + 1) i3 (nI k)
  | 0, k, i3, h => ⟨fun _ => hK _ _, fun q => absurd (by rw [hb, show k = nn by omega]; exact Int32.le_refl _) q⟩
  | m + 1, k, i3, h => ⟨fun _ => hK _ _, fun _ => sX1_worldsOf hb hn (fun r => sX2_isWithin (fun r3 _ => ⟨fun _ => by
      rw [← nI_succ]
      exact sX1_countTrueInAllOf_L5 hb hn hK m (k + 1) _ (by omega), fun _ => by
      rw [← nI_succ]
      exact sX1_countTrueInAllOf_L5 hb hn hK m (k + 1) _ (by omega)⟩))⟩
theorem sX1_countTrueInAllOf {post : Int32 → Prop} {wg : Nat → Int64} {bn : Int32} {p1 : Int64} {nn : Nat} (hb : bn = nI nn) (hn : nn ≤ 40) (hp : ∀ r, post r) : wX1_countTrueInAllOf post wg bn p1 := ⟨nn + 1, sX1_countTrueInAllOf_L5 hb hn (fun _ _ => hp _) nn 0 _ (by omega)⟩
