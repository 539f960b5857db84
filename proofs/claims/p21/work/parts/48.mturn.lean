/-! the reference's dark switch and its new beginning -/
theorem fxE : ∀ f, f < 6 → ∀ k, k < 64 → nI k ^^^ nI (2 ^ f) = nI (k ^^^ 2 ^ f) := by decide +kernel
def CQf (c : Nat → Int32) (D : Nat → Int32) (f k : Nat) : Prop := ∀ w, w < k → c (w ^^^ 2 ^ f) = D w
theorem CQf.step {c D : Nat → Int32} {f k : Nat} (hf : f < 6) (hk : k < 64) (h : CQf c D f k) : CQf (upd c (k ^^^ 2 ^ f) (D k)) D f (k + 1) := fun w hw => by
  by_cases e : w = k
  · subst e
    exact updAt _ _ _
  · rw [updNe _ _ (fun q => e (by
      have h1 := (fxV f hf w (by omega)).2.1
      rw [q, (fxV f hf k hk).2.1] at h1
      exact h1.symm))]
    exact h w (by omega)
theorem CQf.fin {c D : Nat → Int32} {f : Nat} (hf : f < 6) (h : CQf c D f 64) : ∀ w, w < 64 → c w = D (w ^^^ 2 ^ f) := fun w hw => by
  have h1 := h _ (fxV f hf w hw).1
  rw [(fxV f hf w hw).2.1] at h1
  exact h1
def SAM (c : Nat → Int32) : Nat → Nat → Prop := fun w v => c w = c v
theorem uX4_flip_L36 {post : Int32 → Int32 × (Nat → Nat → Int32) × Int64 × Int32 × (Nat → Int32) → Prop} {K66 : Int32 → (Nat → Int32) → Prop} {DD : Nat → Nat → Int32} {f : Nat} (hf : f < 6) (hK : ∀ i c, CQf c (DD 0) f 64 → K66 i c) : ∀ (m k : Nat) (c : Nat → Int32), k + m = 64 → CQf c (DD 0) f k → wX4_flip_L36 post K66 DD (nI f) (m + 1) (nI k) c := by
  intro m
  induction m with
  | zero =>
    intro k c h hc
    obtain rfl : k = 64 := by omega
    exact ⟨fun _ => hK _ _ hc, fun q => absurd (by decide) q⟩
  | succ m ih =>
    intro k c h hc
    have hk : k < 64 := by omega
    have hx := (fxV f hf k hk).1
    refine ⟨fun q => absurd q (notLe (a := 64) hk (by decide)), fun _ => ⟨nI_in hk (by decide), ?_⟩⟩
    rw [shB f hf, fxE f hf k hk, nI_clamp (show k < 2 ^ 31 by omega), nI_clamp (show k ^^^ 2 ^ f < 2 ^ 31 by omega), ← nI_succ]
    exact ⟨nI_in hx (by decide), ih (k + 1) _ (by omega) (hc.step hf hk)⟩
theorem uX4_flip_L79 {post : Int32 → Int32 × (Nat → Nat → Int32) × Int64 × Int32 × (Nat → Int32) → Prop} {K96 : Int32 → Prop} {c : Nat → Int32} {w : Nat} (hw : w < 64) (hK : ∀ i, FST (SAM c) w i → K96 (nI i)) : ∀ (m k : Nat), k + m = w → (∀ j, j < k → ¬ SAM c w j) → wX4_flip_L79 post K96 (nI w) c (m + 1) (nI k) := by
  intro m
  induction m with
  | zero =>
    intro k h hc
    obtain rfl : k = w := by omega
    exact ⟨nI_in hw (by decide), nI_in hw (by decide), fun _ => hK k ⟨Nat.le_refl k, rfl, hc⟩, fun q => absurd rfl q⟩
  | succ m ih =>
    intro k h hc
    have hk : k < 64 := by omega
    refine ⟨nI_in hk (by decide), nI_in hw (by decide), ?_⟩
    rw [nI_clamp (show k < 2 ^ 31 by omega), nI_clamp (show w < 2 ^ 31 by omega)]
    refine ⟨fun q => hK k ⟨by omega, q.symm, hc⟩, fun q => ?_⟩
    rw [← nI_succ]
    refine ih (k + 1) (by omega) (fun j hj => ?_)
    rcases Nat.lt_succ_iff_lt_or_eq.mp hj with e | e
    · exact hc j e
    · subst e
      exact fun r => q r.symm
theorem uX4_flip_L69 {post : Int32 → Int32 × (Nat → Nat → Int32) × Int64 × Int32 × (Nat → Int32) → Prop} {K113 : Int32 → (Nat → Nat → Int32) → Prop} {D0 : Nat → Nat → Int32} {c : Nat → Int32} (hK : ∀ i D, PTD (SAM c) 0 64 D0 D → K113 i D) : ∀ (m k : Nat) (D : Nat → Nat → Int32), k + m = 64 → PTD (SAM c) 0 k D0 D → wX4_flip_L69 post K113 c (m + 1) (nI k) D := by
  intro m
  induction m with
  | zero =>
    intro k D h hD
    obtain rfl : k = 64 := by omega
    exact ⟨fun _ => hK _ _ hD, fun q => absurd (by decide) q⟩
  | succ m ih =>
    intro k D h hD
    have hk : k < 64 := by omega
    refine ⟨fun q => absurd q (notLe (a := 64) hk (by decide)), fun _ => ⟨k + 1, uX4_flip_L79 hk (fun i hi => ⟨nI_in hk (by decide), ?_⟩) k 0 (Nat.zero_add k) (fun j hj => absurd hj (Nat.not_lt_zero j))⟩⟩
    rw [← nI_succ, nI_clamp (show k < 2 ^ 31 by omega)]
    exact ih (k + 1) _ (by omega) (hD.step hk hi)
theorem uX4_flip_L36_3 {post : Int32 → Int32 × (Nat → Nat → Int32) × Int64 × Int32 × (Nat → Int32) → Prop} {K66 : Int32 → (Nat → Int32) → Prop} {DD : Nat → Nat → Int32} {f : Nat} (hf : f < 6) (hK : ∀ i c, CQf c (DD 1) f 64 → K66 i c) : ∀ (m k : Nat) (c : Nat → Int32), k + m = 64 → CQf c (DD 1) f k → wX4_flip_L36_3 post K66 (nI f) DD (m + 1) (nI k) c := by
  intro m
  induction m with
  | zero =>
    intro k c h hc
    obtain rfl : k = 64 := by omega
    exact ⟨fun _ => hK _ _ hc, fun q => absurd (by decide) q⟩
  | succ m ih =>
    intro k c h hc
    have hk : k < 64 := by omega
    have hx := (fxV f hf k hk).1
    refine ⟨fun q => absurd q (notLe (a := 64) hk (by decide)), fun _ => ⟨nI_in hk (by decide), ?_⟩⟩
    rw [shB f hf, fxE f hf k hk, nI_clamp (show k < 2 ^ 31 by omega), nI_clamp (show k ^^^ 2 ^ f < 2 ^ 31 by omega), ← nI_succ]
    exact ⟨nI_in hx (by decide), ih (k + 1) _ (by omega) (hc.step hf hk)⟩
theorem uX4_flip_L79_5 {post : Int32 → Int32 × (Nat → Nat → Int32) × Int64 × Int32 × (Nat → Int32) → Prop} {K96 : Int32 → Prop} {c : Nat → Int32} {w : Nat} (hw : w < 64) (hK : ∀ i, FST (SAM c) w i → K96 (nI i)) : ∀ (m k : Nat), k + m = w → (∀ j, j < k → ¬ SAM c w j) → wX4_flip_L79_5 post K96 (nI w) c (m + 1) (nI k) := by
  intro m
  induction m with
  | zero =>
    intro k h hc
    obtain rfl : k = w := by omega
    exact ⟨nI_in hw (by decide), nI_in hw (by decide), fun _ => hK k ⟨Nat.le_refl k, rfl, hc⟩, fun q => absurd rfl q⟩
  | succ m ih =>
    intro k h hc
    have hk : k < 64 := by omega
    refine ⟨nI_in hk (by decide), nI_in hw (by decide), ?_⟩
    rw [nI_clamp (show k < 2 ^ 31 by omega), nI_clamp (show w < 2 ^ 31 by omega)]
    refine ⟨fun q => hK k ⟨by omega, q.symm, hc⟩, fun q => ?_⟩
    rw [← nI_succ]
    refine ih (k + 1) (by omega) (fun j hj => ?_)
    rcases Nat.lt_succ_iff_lt_or_eq.mp hj with e | e
    · exact hc j e
    · subst e
      exact fun r => q r.symm
theorem uX4_flip_L69_4 {post : Int32 → Int32 × (Nat → Nat → Int32) × Int64 × Int32 × (Nat → Int32) → Prop} {K113 : Int32 → (Nat → Nat → Int32) → Prop} {D0 : Nat → Nat → Int32} {c : Nat → Int32} (hK : ∀ i D, PTD (SAM c) 1 64 D0 D → K113 i D) : ∀ (m k : Nat) (D : Nat → Nat → Int32), k + m = 64 → PTD (SAM c) 1 k D0 D → wX4_flip_L69_4 post K113 c (m + 1) (nI k) D := by
  intro m
  induction m with
  | zero =>
    intro k D h hD
    obtain rfl : k = 64 := by omega
    exact ⟨fun _ => hK _ _ hD, fun q => absurd (by decide) q⟩
  | succ m ih =>
    intro k D h hD
    have hk : k < 64 := by omega
    refine ⟨fun q => absurd q (notLe (a := 64) hk (by decide)), fun _ => ⟨k + 1, uX4_flip_L79_5 hk (fun i hi => ⟨nI_in hk (by decide), ?_⟩) k 0 (Nat.zero_add k) (fun j hj => absurd hj (Nat.not_lt_zero j))⟩⟩
    rw [← nI_succ, nI_clamp (show k < 2 ^ 31 by omega)]
    exact ih (k + 1) _ (by omega) (hD.step hk hi)
theorem uX4_flip_L36_6 {post : Int32 → Int32 × (Nat → Nat → Int32) × Int64 × Int32 × (Nat → Int32) → Prop} {K66 : Int32 → (Nat → Int32) → Prop} {DD : Nat → Nat → Int32} {f : Nat} (hf : f < 6) (hK : ∀ i c, CQf c (DD 2) f 64 → K66 i c) : ∀ (m k : Nat) (c : Nat → Int32), k + m = 64 → CQf c (DD 2) f k → wX4_flip_L36_6 post K66 (nI f) DD (m + 1) (nI k) c := by
  intro m
  induction m with
  | zero =>
    intro k c h hc
    obtain rfl : k = 64 := by omega
    exact ⟨fun _ => hK _ _ hc, fun q => absurd (by decide) q⟩
  | succ m ih =>
    intro k c h hc
    have hk : k < 64 := by omega
    have hx := (fxV f hf k hk).1
    refine ⟨fun q => absurd q (notLe (a := 64) hk (by decide)), fun _ => ⟨nI_in hk (by decide), ?_⟩⟩
    rw [shB f hf, fxE f hf k hk, nI_clamp (show k < 2 ^ 31 by omega), nI_clamp (show k ^^^ 2 ^ f < 2 ^ 31 by omega), ← nI_succ]
    exact ⟨nI_in hx (by decide), ih (k + 1) _ (by omega) (hc.step hf hk)⟩
theorem uX4_flip_L79_8 {post : Int32 → Int32 × (Nat → Nat → Int32) × Int64 × Int32 × (Nat → Int32) → Prop} {K96 : Int32 → Prop} {c : Nat → Int32} {w : Nat} (hw : w < 64) (hK : ∀ i, FST (SAM c) w i → K96 (nI i)) : ∀ (m k : Nat), k + m = w → (∀ j, j < k → ¬ SAM c w j) → wX4_flip_L79_8 post K96 (nI w) c (m + 1) (nI k) := by
  intro m
  induction m with
  | zero =>
    intro k h hc
    obtain rfl : k = w := by omega
    exact ⟨nI_in hw (by decide), nI_in hw (by decide), fun _ => hK k ⟨Nat.le_refl k, rfl, hc⟩, fun q => absurd rfl q⟩
  | succ m ih =>
    intro k h hc
    have hk : k < 64 := by omega
    refine ⟨nI_in hk (by decide), nI_in hw (by decide), ?_⟩
    rw [nI_clamp (show k < 2 ^ 31 by omega), nI_clamp (show w < 2 ^ 31 by omega)]
    refine ⟨fun q => hK k ⟨by omega, q.symm, hc⟩, fun q => ?_⟩
    rw [← nI_succ]
    refine ih (k + 1) (by omega) (fun j hj => ?_)
    rcases Nat.lt_succ_iff_lt_or_eq.mp hj with e | e
    · exact hc j e
    · subst e
      exact fun r => q r.symm
theorem uX4_flip_L69_7 {post : Int32 → Int32 × (Nat → Nat → Int32) × Int64 × Int32 × (Nat → Int32) → Prop} {K113 : Int32 → (Nat → Nat → Int32) → Prop} {D0 : Nat → Nat → Int32} {c : Nat → Int32} (hK : ∀ i D, PTD (SAM c) 2 64 D0 D → K113 i D) : ∀ (m k : Nat) (D : Nat → Nat → Int32), k + m = 64 → PTD (SAM c) 2 k D0 D → wX4_flip_L69_7 post K113 c (m + 1) (nI k) D := by
  intro m
  induction m with
  | zero =>
    intro k D h hD
    obtain rfl : k = 64 := by omega
    exact ⟨fun _ => hK _ _ hD, fun q => absurd (by decide) q⟩
  | succ m ih =>
    intro k D h hD
    have hk : k < 64 := by omega
    refine ⟨fun q => absurd q (notLe (a := 64) hk (by decide)), fun _ => ⟨k + 1, uX4_flip_L79_8 hk (fun i hi => ⟨nI_in hk (by decide), ?_⟩) k 0 (Nat.zero_add k) (fun j hj => absurd hj (Nat.not_lt_zero j))⟩⟩
    rw [← nI_succ, nI_clamp (show k < 2 ^ 31 by omega)]
    exact ih (k + 1) _ (by omega) (hD.step hk hi)
theorem uX4_flip_L36_9 {post : Int32 → Int32 × (Nat → Nat → Int32) × Int64 × Int32 × (Nat → Int32) → Prop} {K66 : Int32 → (Nat → Int32) → Prop} {DD : Nat → Nat → Int32} {f : Nat} (hf : f < 6) (hK : ∀ i c, CQf c (DD 3) f 64 → K66 i c) : ∀ (m k : Nat) (c : Nat → Int32), k + m = 64 → CQf c (DD 3) f k → wX4_flip_L36_9 post K66 (nI f) DD (m + 1) (nI k) c := by
  intro m
  induction m with
  | zero =>
    intro k c h hc
    obtain rfl : k = 64 := by omega
    exact ⟨fun _ => hK _ _ hc, fun q => absurd (by decide) q⟩
  | succ m ih =>
    intro k c h hc
    have hk : k < 64 := by omega
    have hx := (fxV f hf k hk).1
    refine ⟨fun q => absurd q (notLe (a := 64) hk (by decide)), fun _ => ⟨nI_in hk (by decide), ?_⟩⟩
    rw [shB f hf, fxE f hf k hk, nI_clamp (show k < 2 ^ 31 by omega), nI_clamp (show k ^^^ 2 ^ f < 2 ^ 31 by omega), ← nI_succ]
    exact ⟨nI_in hx (by decide), ih (k + 1) _ (by omega) (hc.step hf hk)⟩
theorem uX4_flip_L79_11 {post : Int32 → Int32 × (Nat → Nat → Int32) × Int64 × Int32 × (Nat → Int32) → Prop} {K96 : Int32 → Prop} {c : Nat → Int32} {w : Nat} (hw : w < 64) (hK : ∀ i, FST (SAM c) w i → K96 (nI i)) : ∀ (m k : Nat), k + m = w → (∀ j, j < k → ¬ SAM c w j) → wX4_flip_L79_11 post K96 (nI w) c (m + 1) (nI k) := by
  intro m
  induction m with
  | zero =>
    intro k h hc
    obtain rfl : k = w := by omega
    exact ⟨nI_in hw (by decide), nI_in hw (by decide), fun _ => hK k ⟨Nat.le_refl k, rfl, hc⟩, fun q => absurd rfl q⟩
  | succ m ih =>
    intro k h hc
    have hk : k < 64 := by omega
    refine ⟨nI_in hk (by decide), nI_in hw (by decide), ?_⟩
    rw [nI_clamp (show k < 2 ^ 31 by omega), nI_clamp (show w < 2 ^ 31 by omega)]
    refine ⟨fun q => hK k ⟨by omega, q.symm, hc⟩, fun q => ?_⟩
    rw [← nI_succ]
    refine ih (k + 1) (by omega) (fun j hj => ?_)
    rcases Nat.lt_succ_iff_lt_or_eq.mp hj with e | e
    · exact hc j e
    · subst e
      exact fun r => q r.symm
theorem uX4_flip_L69_10 {post : Int32 → Int32 × (Nat → Nat → Int32) × Int64 × Int32 × (Nat → Int32) → Prop} {K113 : Int32 → (Nat → Nat → Int32) → Prop} {D0 : Nat → Nat → Int32} {c : Nat → Int32} (hK : ∀ i D, PTD (SAM c) 3 64 D0 D → K113 i D) : ∀ (m k : Nat) (D : Nat → Nat → Int32), k + m = 64 → PTD (SAM c) 3 k D0 D → wX4_flip_L69_10 post K113 c (m + 1) (nI k) D := by
  intro m
  induction m with
  | zero =>
    intro k D h hD
    obtain rfl : k = 64 := by omega
    exact ⟨fun _ => hK _ _ hD, fun q => absurd (by decide) q⟩
  | succ m ih =>
    intro k D h hD
    have hk : k < 64 := by omega
    refine ⟨fun q => absurd q (notLe (a := 64) hk (by decide)), fun _ => ⟨k + 1, uX4_flip_L79_11 hk (fun i hi => ⟨nI_in hk (by decide), ?_⟩) k 0 (Nat.zero_add k) (fun j hj => absurd hj (Nat.not_lt_zero j))⟩⟩
    rw [← nI_succ, nI_clamp (show k < 2 ^ 31 by omega)]
    exact ih (k + 1) _ (by omega) (hD.step hk hi)
theorem uX4_flip_L36_12 {post : Int32 → Int32 × (Nat → Nat → Int32) × Int64 × Int32 × (Nat → Int32) → Prop} {K66 : Int32 → (Nat → Int32) → Prop} {DD : Nat → Nat → Int32} {f : Nat} (hf : f < 6) (hK : ∀ i c, CQf c (DD 4) f 64 → K66 i c) : ∀ (m k : Nat) (c : Nat → Int32), k + m = 64 → CQf c (DD 4) f k → wX4_flip_L36_12 post K66 (nI f) DD (m + 1) (nI k) c := by
  intro m
  induction m with
  | zero =>
    intro k c h hc
    obtain rfl : k = 64 := by omega
    exact ⟨fun _ => hK _ _ hc, fun q => absurd (by decide) q⟩
  | succ m ih =>
    intro k c h hc
    have hk : k < 64 := by omega
    have hx := (fxV f hf k hk).1
    refine ⟨fun q => absurd q (notLe (a := 64) hk (by decide)), fun _ => ⟨nI_in hk (by decide), ?_⟩⟩
    rw [shB f hf, fxE f hf k hk, nI_clamp (show k < 2 ^ 31 by omega), nI_clamp (show k ^^^ 2 ^ f < 2 ^ 31 by omega), ← nI_succ]
    exact ⟨nI_in hx (by decide), ih (k + 1) _ (by omega) (hc.step hf hk)⟩
theorem uX4_flip_L79_14 {post : Int32 → Int32 × (Nat → Nat → Int32) × Int64 × Int32 × (Nat → Int32) → Prop} {K96 : Int32 → Prop} {c : Nat → Int32} {w : Nat} (hw : w < 64) (hK : ∀ i, FST (SAM c) w i → K96 (nI i)) : ∀ (m k : Nat), k + m = w → (∀ j, j < k → ¬ SAM c w j) → wX4_flip_L79_14 post K96 (nI w) c (m + 1) (nI k) := by
  intro m
  induction m with
  | zero =>
    intro k h hc
    obtain rfl : k = w := by omega
    exact ⟨nI_in hw (by decide), nI_in hw (by decide), fun _ => hK k ⟨Nat.le_refl k, rfl, hc⟩, fun q => absurd rfl q⟩
  | succ m ih =>
    intro k h hc
    have hk : k < 64 := by omega
    refine ⟨nI_in hk (by decide), nI_in hw (by decide), ?_⟩
    rw [nI_clamp (show k < 2 ^ 31 by omega), nI_clamp (show w < 2 ^ 31 by omega)]
    refine ⟨fun q => hK k ⟨by omega, q.symm, hc⟩, fun q => ?_⟩
    rw [← nI_succ]
    refine ih (k + 1) (by omega) (fun j hj => ?_)
    rcases Nat.lt_succ_iff_lt_or_eq.mp hj with e | e
    · exact hc j e
    · subst e
      exact fun r => q r.symm
theorem uX4_flip_L69_13 {post : Int32 → Int32 × (Nat → Nat → Int32) × Int64 × Int32 × (Nat → Int32) → Prop} {K113 : Int32 → (Nat → Nat → Int32) → Prop} {D0 : Nat → Nat → Int32} {c : Nat → Int32} (hK : ∀ i D, PTD (SAM c) 4 64 D0 D → K113 i D) : ∀ (m k : Nat) (D : Nat → Nat → Int32), k + m = 64 → PTD (SAM c) 4 k D0 D → wX4_flip_L69_13 post K113 c (m + 1) (nI k) D := by
  intro m
  induction m with
  | zero =>
    intro k D h hD
    obtain rfl : k = 64 := by omega
    exact ⟨fun _ => hK _ _ hD, fun q => absurd (by decide) q⟩
  | succ m ih =>
    intro k D h hD
    have hk : k < 64 := by omega
    refine ⟨fun q => absurd q (notLe (a := 64) hk (by decide)), fun _ => ⟨k + 1, uX4_flip_L79_14 hk (fun i hi => ⟨nI_in hk (by decide), ?_⟩) k 0 (Nat.zero_add k) (fun j hj => absurd hj (Nat.not_lt_zero j))⟩⟩
    rw [← nI_succ, nI_clamp (show k < 2 ^ 31 by omega)]
    exact ih (k + 1) _ (by omega) (hD.step hk hi)
theorem uX4_flip_L36_15 {post : Int32 → Int32 × (Nat → Nat → Int32) × Int64 × Int32 × (Nat → Int32) → Prop} {K66 : Int32 → (Nat → Int32) → Prop} {DD : Nat → Nat → Int32} {f : Nat} (hf : f < 6) (hK : ∀ i c, CQf c (DD 5) f 64 → K66 i c) : ∀ (m k : Nat) (c : Nat → Int32), k + m = 64 → CQf c (DD 5) f k → wX4_flip_L36_15 post K66 (nI f) DD (m + 1) (nI k) c := by
  intro m
  induction m with
  | zero =>
    intro k c h hc
    obtain rfl : k = 64 := by omega
    exact ⟨fun _ => hK _ _ hc, fun q => absurd (by decide) q⟩
  | succ m ih =>
    intro k c h hc
    have hk : k < 64 := by omega
    have hx := (fxV f hf k hk).1
    refine ⟨fun q => absurd q (notLe (a := 64) hk (by decide)), fun _ => ⟨nI_in hk (by decide), ?_⟩⟩
    rw [shB f hf, fxE f hf k hk, nI_clamp (show k < 2 ^ 31 by omega), nI_clamp (show k ^^^ 2 ^ f < 2 ^ 31 by omega), ← nI_succ]
    exact ⟨nI_in hx (by decide), ih (k + 1) _ (by omega) (hc.step hf hk)⟩
theorem uX4_flip_L79_17 {post : Int32 → Int32 × (Nat → Nat → Int32) × Int64 × Int32 × (Nat → Int32) → Prop} {K96 : Int32 → Prop} {c : Nat → Int32} {w : Nat} (hw : w < 64) (hK : ∀ i, FST (SAM c) w i → K96 (nI i)) : ∀ (m k : Nat), k + m = w → (∀ j, j < k → ¬ SAM c w j) → wX4_flip_L79_17 post K96 (nI w) c (m + 1) (nI k) := by
  intro m
  induction m with
  | zero =>
    intro k h hc
    obtain rfl : k = w := by omega
    exact ⟨nI_in hw (by decide), nI_in hw (by decide), fun _ => hK k ⟨Nat.le_refl k, rfl, hc⟩, fun q => absurd rfl q⟩
  | succ m ih =>
    intro k h hc
    have hk : k < 64 := by omega
    refine ⟨nI_in hk (by decide), nI_in hw (by decide), ?_⟩
    rw [nI_clamp (show k < 2 ^ 31 by omega), nI_clamp (show w < 2 ^ 31 by omega)]
    refine ⟨fun q => hK k ⟨by omega, q.symm, hc⟩, fun q => ?_⟩
    rw [← nI_succ]
    refine ih (k + 1) (by omega) (fun j hj => ?_)
    rcases Nat.lt_succ_iff_lt_or_eq.mp hj with e | e
    · exact hc j e
    · subst e
      exact fun r => q r.symm
theorem uX4_flip_L69_16 {post : Int32 → Int32 × (Nat → Nat → Int32) × Int64 × Int32 × (Nat → Int32) → Prop} {K113 : Int32 → (Nat → Nat → Int32) → Prop} {D0 : Nat → Nat → Int32} {c : Nat → Int32} (hK : ∀ i D, PTD (SAM c) 5 64 D0 D → K113 i D) : ∀ (m k : Nat) (D : Nat → Nat → Int32), k + m = 64 → PTD (SAM c) 5 k D0 D → wX4_flip_L69_16 post K113 c (m + 1) (nI k) D := by
  intro m
  induction m with
  | zero =>
    intro k D h hD
    obtain rfl : k = 64 := by omega
    exact ⟨fun _ => hK _ _ hD, fun q => absurd (by decide) q⟩
  | succ m ih =>
    intro k D h hD
    have hk : k < 64 := by omega
    refine ⟨fun q => absurd q (notLe (a := 64) hk (by decide)), fun _ => ⟨k + 1, uX4_flip_L79_17 hk (fun i hi => ⟨nI_in hk (by decide), ?_⟩) k 0 (Nat.zero_add k) (fun j hj => absurd hj (Nat.not_lt_zero j))⟩⟩
    rw [← nI_succ, nI_clamp (show k < 2 ^ 31 by omega)]
    exact ih (k + 1) _ (by omega) (hD.step hk hi)
/-- one desk is switched -/
theorem flipOne {D0 D D1 : Nat → Nat → Int32} {f g : Nat} {c : Nat → Int32} (hf : f < 6) (hg : g < 6) (hD : DOK D) (hr : ∀ h, g ≤ h → h < 6 → D h = D0 h) (hd : ∀ h, h < g → ∀ w, w < 64 → ∀ v, v < 64 → ED D h w v = eFlip (ED D0) f h w v) (hc : CQf c (D g) f 64) (hP : PTD (SAM c) g 64 D D1) : DOK D1 ∧ (∀ h, g + 1 ≤ h → h < 6 → D1 h = D0 h) ∧ ∀ h, h < g + 1 → ∀ w, w < 64 → ∀ v, v < 64 → ED D1 h w v = eFlip (ED D0) f h w v := by
  refine ⟨hP.dok hD, fun h a b => ?_, fun h a w hw v hv => ?_⟩
  · rw [hP.2.2.2 h (by omega)]
    exact hr h (by omega) b
  · by_cases e : h = g
    · subst e
      have h1 := hP.eq (w := w) (v := v) (fun x y q => q.symm) (fun x y z q r => q.trans r) hw hv
      unfold eFlip ED
      apply Bool.eq_iff_iff.mpr
      rw [decide_eq_true_iff, decide_eq_true_iff, h1]
      unfold SAM
      rw [hc.fin hf w hw, hc.fin hf v hv, hr h (Nat.le_refl h) hg]
    · have h1 := hd h (by omega) w hw v hv
      unfold ED at h1 ⊢
      rw [hP.2.2.2 h e]
      exact h1
theorem uX4_turned_L5 {post : Int64 → Prop} {K42 : Int64 → Int32 → Prop} {p : Int64} {f : Nat} (hf : f < 6) (hK : ∀ a b, (∀ v, v < 64 → (mw a v = true ↔ mw p (v ^^^ 2 ^ f) = true)) → K42 a b) : ∀ (m k : Nat) (a : Int64), k + m = 64 → (∀ v, v < 64 → (mw a v = true ↔ v ^^^ 2 ^ f < k ∧ mw p (v ^^^ 2 ^ f) = true)) → wX4_turned_L5 post K42 p (nI f) (m + 1) a (nI k) := by
  intro m
  induction m with
  | zero =>
    intro k a h ha
    obtain rfl : k = 64 := by omega
    exact ⟨fun _ => hK _ _ (fun v hv => (ha v hv).trans ⟨fun q => q.2, fun q => ⟨(fxV f hf v hv).1, q⟩⟩), fun q => absurd (by decide) q⟩
  | succ m ih =>
    intro k a h ha
    have hk : k < 64 := by omega
    have hx := (fxV f hf k hk).1
    refine ⟨fun q => absurd q (notLe (a := 64) hk (by decide)), fun _ => tX4_has_ hk (fun hm => ⟨fun _ => ?_, fun c => absurd rfl c⟩) (fun hm => ⟨fun c => absurd c (by decide), fun _ => fun x e => ?_⟩)⟩
    · rw [← nI_succ]
      refine ih (k + 1) _ (by omega) (fun v hv => ?_)
      rw [mwO, ha v hv]
      constructor
      · rintro (q | q)
        · exact ⟨by omega, q.2⟩
        · exact absurd q mwZ
      · rintro ⟨q, r⟩
        rcases Nat.lt_succ_iff_lt_or_eq.mp q with e | e
        · exact Or.inl ⟨e, r⟩
        · rw [e, hm] at r
          exact absurd r (by decide)
    · rw [shB f hf, fxE f hf k hk] at e
      rw [← nI_succ]
      refine ih (k + 1) _ (by omega) (fun v hv => ?_)
      rw [e, mwO, ha v hv, mwB hx]
      constructor
      · rintro (q | q)
        · exact ⟨by omega, q.2⟩
        · rw [← q, (fxV f hf k hk).2.1]
          exact ⟨by omega, hm⟩
      · rintro ⟨q, r⟩
        rcases Nat.lt_succ_iff_lt_or_eq.mp q with e | e
        · exact Or.inl ⟨e, r⟩
        · refine Or.inr ?_
          rw [← e]
          exact (fxV f hf v hv).2.1
theorem uX4_turned {post : Int64 → Prop} {p : Int64} {f : Nat} (hf : f < 6) (h : ∀ r, (∀ v, v < 64 → mw r v = mw p (v ^^^ 2 ^ f)) → post r) : wX4_turned post p (nI f) := ⟨65, uX4_turned_L5 hf (fun a _ ha => h a (fun v hv => Bool.eq_iff_iff.mpr (ha v hv))) 64 0 0 rfl (fun v hv => ⟨fun q => absurd q mwZ, fun q => absurd q.1 (Nat.not_lt_zero _)⟩)⟩
theorem uX4_flip {post : Int32 → Int32 × (Nat → Nat → Int32) × Int64 × Int32 × (Nat → Int32) → Prop} {th mr : Int32} {po : Int64} {DD : Nat → Nat → Int32} {ctf : Nat → Int32} {p1 : Int32} (hD : DOK DD) (h1 : ∀ f, f < 6 → p1 = nI f → ∀ D r, DOK D → (∀ g, g < 6 → ∀ w, w < 64 → ∀ v, v < 64 → ED D g w v = eFlip (ED DD) f g w v) → (∀ v, v < 64 → mw r v = mw po (v ^^^ 2 ^ f)) → post (mr ^^^ nI (2 ^ f)) (0, D, r, mr ^^^ nI (2 ^ f), upd ctf 5 (ctf 5 + 1))) (h2 : ¬ IN p1 6 → post 0 (1, DD, po, mr, ctf)) : wX4_flip post th mr po DD ctf p1 := by
  refine tX4_in (fun r z h => ⟨fun c => ?_, fun c => h2 (fun q => h.mpr ((inRng (n := 5) (by decide)).mpr q) c)⟩)
  obtain ⟨f, hf, rfl⟩ : IN p1 6 := (inRng (n := 5) (by decide)).mp (h.mp c)
  have h1 := h1 f hf rfl
  rw [← shB f hf] at h1
  have k0 : DOK DD ∧ (∀ h, 0 ≤ h → h < 6 → DD h = DD h) ∧ ∀ h, h < 0 → ∀ w, w < 64 → ∀ v, v < 64 → ED DD h w v = eFlip (ED DD) f h w v := ⟨hD, fun _ _ _ => rfl, fun h q => absurd q (Nat.not_lt_zero h)⟩
  exact ⟨65, uX4_flip_L36 hf (fun _ c0 C0 => ⟨65, uX4_flip_L69 (fun _ D1 P1 => by
    have k1 := flipOne (D0 := DD) hf (show 0 < 6 by decide) k0.1 k0.2.1 k0.2.2 C0 P1
    exact ⟨65, uX4_flip_L36_3 hf (fun _ c1 C1 => ⟨65, uX4_flip_L69_4 (fun _ D2 P2 => by
    have k2 := flipOne (D0 := DD) hf (show 1 < 6 by decide) k1.1 k1.2.1 k1.2.2 C1 P2
    exact ⟨65, uX4_flip_L36_6 hf (fun _ c2 C2 => ⟨65, uX4_flip_L69_7 (fun _ D3 P3 => by
    have k3 := flipOne (D0 := DD) hf (show 2 < 6 by decide) k2.1 k2.2.1 k2.2.2 C2 P3
    exact ⟨65, uX4_flip_L36_9 hf (fun _ c3 C3 => ⟨65, uX4_flip_L69_10 (fun _ D4 P4 => by
    have k4 := flipOne (D0 := DD) hf (show 3 < 6 by decide) k3.1 k3.2.1 k3.2.2 C3 P4
    exact ⟨65, uX4_flip_L36_12 hf (fun _ c4 C4 => ⟨65, uX4_flip_L69_13 (fun _ D5 P5 => by
    have k5 := flipOne (D0 := DD) hf (show 4 < 6 by decide) k4.1 k4.2.1 k4.2.2 C4 P5
    exact ⟨65, uX4_flip_L36_15 hf (fun _ c5 C5 => ⟨65, uX4_flip_L69_16 (fun _ D6 P6 => by
    have k6 := flipOne (D0 := DD) hf (show 5 < 6 by decide) k5.1 k5.2.1 k5.2.2 C5 P6
    exact uX4_turned hf (fun r hr => h1 D6 r (k6.1) (fun g hg w hw v hv => k6.2.2 g (by omega) w hw v hv) hr)) 64 0 _ rfl PTD.zero⟩) 64 0 _ rfl (fun w hw => absurd hw (Nat.not_lt_zero w))⟩) 64 0 _ rfl PTD.zero⟩) 64 0 _ rfl (fun w hw => absurd hw (Nat.not_lt_zero w))⟩) 64 0 _ rfl PTD.zero⟩) 64 0 _ rfl (fun w hw => absurd hw (Nat.not_lt_zero w))⟩) 64 0 _ rfl PTD.zero⟩) 64 0 _ rfl (fun w hw => absurd hw (Nat.not_lt_zero w))⟩) 64 0 _ rfl PTD.zero⟩) 64 0 _ rfl (fun w hw => absurd hw (Nat.not_lt_zero w))⟩) 64 0 _ rfl PTD.zero⟩) 64 0 _ rfl (fun w hw => absurd hw (Nat.not_lt_zero w))⟩
theorem uX4_begin_L43 {post : Int32 → Int32 × Int32 × Int64 × (Nat → Nat → Int32) × Int32 × (Nat → Int32) × (Nat → Int32) × (Nat → Int32) × (Nat → Int32) → Prop} {K64 : Int32 → (Nat → Nat → Int32) → Prop} {D0 : Nat → Nat → Int32} {g : Nat} (hg : g < 6) (hK : ∀ i D, (∀ w, w < 64 → D g w = 0) → (∀ h, ¬ h = g → D h = D0 h) → K64 i D) : ∀ (m k : Nat) (D : Nat → Nat → Int32), k + m = 64 → (∀ w, w < k → D g w = 0) → (∀ h, ¬ h = g → D h = D0 h) → wX4_begin_L43 post K64 (nI g) (m + 1) (nI k) D := by
  intro m
  induction m with
  | zero =>
    intro k D h h1 h2
    obtain rfl : k = 64 := by omega
    exact ⟨fun _ => hK _ _ h1 h2, fun q => absurd (by decide) q⟩
  | succ m ih =>
    intro k D h h1 h2
    have hk : k < 64 := by omega
    refine ⟨fun q => absurd q (notLe (a := 64) hk (by decide)), fun _ => ⟨nI_in hg (by decide), nI_in hk (by decide), ?_⟩⟩
    rw [← nI_succ, nI_clamp (show g < 2 ^ 31 by omega), nI_clamp (show k < 2 ^ 31 by omega)]
    refine ih (k + 1) _ (by omega) (fun w hw => ?_) (fun a q => ?_)
    · rw [vfAt]
      by_cases e : w = k
      · subst e
        exact updAt _ _ _
      · rw [updNe _ _ e]
        exact h1 w (by omega)
    · rw [vfNe _ _ q]
      exact h2 a q
theorem uX4_begin_L35 {post : Int32 → Int32 × Int32 × Int64 × (Nat → Nat → Int32) × Int32 × (Nat → Int32) × (Nat → Int32) × (Nat → Int32) × (Nat → Int32) → Prop} {K70 : Int32 → (Nat → Nat → Int32) → Prop} (hK : ∀ i D, (∀ g, g < 6 → ∀ w, w < 64 → D g w = 0) → K70 i D) : ∀ (m k : Nat) (D : Nat → Nat → Int32), k + m = 6 → (∀ g, g < k → ∀ w, w < 64 → D g w = 0) → wX4_begin_L35 post K70 (m + 1) (nI k) D := by
  intro m
  induction m with
  | zero =>
    intro k D h h1
    obtain rfl : k = 6 := by omega
    exact ⟨fun _ => hK _ _ h1, fun q => absurd (by decide) q⟩
  | succ m ih =>
    intro k D h h1
    have hk : k < 6 := by omega
    refine ⟨fun q => absurd q (notLe (a := 6) hk (by decide)), fun _ => ⟨65, uX4_begin_L43 hk (fun _ D2 d1 d2 => ?_) 64 0 D rfl (fun w hw => absurd hw (Nat.not_lt_zero w)) (fun _ _ => rfl)⟩⟩
    rw [← nI_succ]
    refine ih (k + 1) D2 (by omega) (fun g hg w hw => ?_)
    by_cases e : g = k
    · subst e
      exact d1 w hw
    · rw [d2 g e]
      exact h1 g (by omega) w hw
theorem uX4_begin {post : Int32 → Int32 × Int32 × Int64 × (Nat → Nat → Int32) × Int32 × (Nat → Int32) × (Nat → Int32) × (Nat → Int32) × (Nat → Int32) → Prop} {th mr : Int32} {po : Int64} {sp : Int32} {DD : Nat → Nat → Int32} {stf fsf jnf rwf : Nat → Int32} {sn c : Nat} {sq : Nat → Nat → Int32} {T : Nat → Int64} {p1 : Int32} (f1 : RF fsf) (f2 : R64 jnf) (f3 : R64 rwf) (hn : sn ≤ 40) (hs : SOK sn sq) (hc : c + 240 < 2 ^ 31) (hS : STP c sp stf) (h1 : ∀ w, w < 64 → p1 = nI w → ∀ D, DOK D → (∀ g, g < 6 → ∀ a, a < 64 → ∀ b, b < 64 → ED D g a b = eAll g a b) → ∀ sp2 st2 fs2 jn2 rw2, STP (c + 240) sp2 st2 → RF fs2 → R64 jn2 → R64 rw2 → post (nI (cntP (fun s => mw (T s) w = true) sn)) (0, p1, -1, D, sp2, st2, fs2, jn2, rw2)) (hT : ∀ D, DOK D → (∀ g, g < 6 → ∀ a, a < 64 → ∀ b, b < 64 → ED D g a b = eAll g a b) → TRM (-1) D sq sn T) (h2 : ¬ IN p1 64 → post 0 (1, mr, po, DD, sp, stf, fsf, jnf, rwf)) : wX4_begin post th mr po sp DD stf fsf jnf rwf sn sq p1 := by
  refine tX4_in (fun r z h => ⟨fun cc => ?_, fun cc => h2 (fun q => h.mpr ((inRng (n := 63) (by decide)).mpr q) cc)⟩)
  obtain ⟨w, hw, rfl⟩ : IN p1 64 := (inRng (n := 63) (by decide)).mp (h.mp cc)
  refine ⟨7, uX4_begin_L35 (fun _ D d1 => ?_) 6 0 DD rfl (fun g hg => absurd hg (Nat.not_lt_zero g))⟩
  have hD : DOK D := fun g hg w hw => ⟨0, by decide, d1 g hg w hw⟩
  have hE : ∀ g, g < 6 → ∀ a, a < 64 → ∀ b, b < 64 → ED D g a b = eAll g a b := fun g hg a ha b hb => by
    unfold ED eAll
    rw [d1 g hg a ha, d1 g hg b hb]
    exact decide_eq_true rfl
  refine uX4_truths_ (T := T) hD f1 f2 f3 hn hs (hT D hD hE) hc hS (fun sp2 st2 fs2 jn2 rw2 F g0 g1 g2 g3 g4 => ?_)
  show wX4_trueIn _ (((nI sn - (1 : Int32)) + (1 : Int32)).toNatClampNeg) F (nI w)
  rw [ynEq hn]
  refine uX4_trueIn hn hw ?_
  rw [cnt_ext sn (fun s hs => show mw (F s) w = true ↔ mw (T s) w = true by rw [g4 s hs])]
  exact h1 w hw rfl D hD hE _ _ _ _ _ g0 g1 g2 g3
