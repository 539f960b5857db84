-- plain facts over the w's: any answer will do ('weak')
theorem rngI {p : Int32} {n : Nat} (hn : n < 2 ^ 31) (a : ¬ p < 0) (b : ¬ nI n ≤ p) : ∃ k, k < n ∧ p = nI k := by
  refine ⟨p.toNatClampNeg, ?_, (nIclamp a).symm⟩
  apply Nat.lt_of_not_le
  intro h
  apply b
  rw [← nIclamp a]
  have h2 : p.toNatClampNeg < 2 ^ 31 := by
    have h4 : p.toNatClampNeg = p.toInt.toNat := rfl
    have h3 : p.toInt < 2 ^ 31 := p.toInt_lt
    omega
  exact nI_le h h2
theorem sX2_isGuard {post : Int32 → Prop} {p : Int32} (h1 : ∀ k, k < 6 → p = nI k → post 1) (h0 : post 0) : wX2_isGuard post p :=
  ⟨fun _ => h0, fun a => ⟨fun _ => h0, fun b => by obtain ⟨k, h, e⟩ := rngI (n := 6) (by decide) a b; exact h1 k h e⟩⟩
theorem sX2_isFact {post : Int32 → Prop} {p : Int32} (h1 : ∀ k, k < 6 → p = nI k → post 1) (h0 : post 0) : wX2_isFact post p :=
  ⟨fun _ => h0, fun a => ⟨fun _ => h0, fun b => by obtain ⟨k, h, e⟩ := rngI (n := 6) (by decide) a b; exact h1 k h e⟩⟩
theorem sX2_isWorld {post : Int32 → Prop} {p : Int32} (h1 : ∀ k, k < 64 → p = nI k → post 1) (h0 : post 0) : wX2_isWorld post p :=
  ⟨fun _ => h0, fun a => ⟨fun _ => h0, fun b => by obtain ⟨k, h, e⟩ := rngI (n := 64) (by decide) a b; exact h1 k h e⟩⟩
theorem idx64 : ∀ g, g < 6 → ∀ w, w < 64 → ¬ ((nI g * 64 + nI w) < 0 ∨ 384 ≤ (nI g * 64 + nI w).toNatClampNeg) := by decide +kernel
theorem sX1_cell {post : Int64 → Prop} {dk : Nat → Int64} {op : Int64} {p1 p2 : Int32} (hp : ∀ r, post r) : wX1_cell post dk op p1 p2 := by
  refine sX2_isGuard (fun g hg eg => ⟨fun _ => hp _, fun _ => sX2_isWorld (fun w hw ew => ⟨fun _ => hp _, fun _ => ⟨?_, hp _⟩⟩) ⟨fun _ => hp _, fun h => absurd rfl h⟩⟩) ⟨fun _ => hp _, fun h => absurd rfl h⟩
  subst eg ew
  exact idx64 g hg w hw
theorem sX2_smallestOf {post : Int32 → Prop} {p : Int64} (hp : ∀ r, post r) : wX2_smallestOf post p := by
  unfold wX2_smallestOf wJ13_bitCount_95d88
  intros
  exact hp _
theorem sX2_has {post : Int32 → Prop} {p1 : Int64} {p2 : Int32} (hp : ∀ r, r = 0 ∨ r = 1 → post r) : wX2_has post p1 p2 :=
  ⟨fun _ => hp _ (Or.inl rfl), fun _ => hp _ (Or.inr rfl)⟩
theorem sX1_spread_L38 {post : Int64 → Prop} {K : Int64 → Int64 → Int32 → Prop} {dk : Nat → Int64} {op : Int64} {i6 : Int32} (hK : ∀ a b c, K a b c) : ∀ (m k : Nat) (i4 i7 : Int64), k + m = 64 → wX1_spread_L38 post K dk op i6 (m + 1) i4 i7 (nI k)
  | 0, k, i4, i7, h => ⟨fun _ => hK _ _ _, fun q => absurd (by rw [show k = 64 by omega]; decide) q⟩
  | m + 1, k, i4, i7, h => ⟨fun _ => hK _ _ _, fun _ => ⟨fun _ => hK _ _ _, fun _ => sX2_smallestOf (fun r => sX1_cell (fun r3 => by
      rw [← nI_succ]
      exact sX1_spread_L38 hK m (k + 1) _ _ (by omega)))⟩⟩
theorem sX1_spread_L6 {post : Int64 → Prop} {K : Int64 → Int32 → Prop} {dk : Nat → Int64} {op : Int64} {p1 : Int32} {p2 : Int64} (hK : ∀ a b, K a b) : ∀ (m k : Nat) (i4 : Int64), k + m = 6 → wX1_spread_L6 post K dk op p1 p2 (m + 1) i4 (nI k)
  | 0, k, i4, h => ⟨fun _ => hK _ _, fun q => absurd (by rw [show k = 6 by omega]; decide) q⟩
  | m + 1, k, i4, h => ⟨fun _ => hK _ _, fun _ => sX2_has (fun r _ => ⟨fun _ => ⟨65, sX1_spread_L38 (fun a b c => by
      rw [← nI_succ]
      exact sX1_spread_L6 hK m (k + 1) _ (by omega)) 64 0 _ _ rfl⟩, fun _ => ⟨65, sX1_spread_L38 (fun a b c => by
      rw [← nI_succ]
      exact sX1_spread_L6 hK m (k + 1) _ (by omega)) 64 0 _ _ rfl⟩⟩)⟩
theorem sX1_spread {post : Int64 → Prop} {dk : Nat → Int64} {op : Int64} {p1 : Int32} {p2 : Int64} (hp : ∀ r, post r) : wX1_spread post dk op p1 p2 := ⟨7, sX1_spread_L6 (fun a b => hp _) 6 0 _ rfl⟩
