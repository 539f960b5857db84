/-! all is sound: both sides say so, always -/
theorem mwI2 : ∀ s, s < 64 → ∀ g, g < 64 → mw ((nI s).toInt64) g = s.testBit g := by
  have h : ∀ s, s < 64 → ∀ g, g < 64 → ((nI s).toInt64).toBitVec.toNat.testBit g = s.testBit g := by decide +kernel
  exact h
theorem subJ {s t : Nat} (hs : s < 64) (ht : t < 64) (h : ∀ g, g < 6 → s.testBit g = true → t.testBit g = true) : SUBW (nI s).toInt64 (nI t).toInt64 := fun w hw q => by
  rw [mwI2 s hs w hw] at q
  rw [mwI2 t ht w hw]
  by_cases h6 : w < 6
  · exact h w h6 q
  · rw [Nat.testBit_lt_two_pow (Nat.lt_of_lt_of_le (show s < 2 ^ 6 from hs) (Nat.pow_le_pow_right (by decide) (by omega)))] at q
    exact absurd q (by decide)
/-- what is known by all, or common, each knows -/
theorem sbKnown {op : Int64} {E : Nat → Nat → Nat → Bool} {a b : Nat} {T : Nat → Int64} {w : Nat} (hw : w < 64) (ha : a < 64) (hb : b < 40) {kd : Int32} (hk : kd = 5 ∨ kd = 6) (h : SB op E kd (nI a) (nI b) T w) {g : Nat} (hg : g < 6) (hbit : a.testBit g = true) : KNW op E g (T b) w := by
  rcases hk with rfl | rfl
  · have := sb5.mp h
    rw [nI_clamp (show a < 2 ^ 31 by omega), nI_clamp (show b < 2 ^ 31 by omega)] at this
    exact this g hg hbit
  · obtain ⟨S, s1, s2⟩ := sb6.mp h
    rw [nI_clamp (show a < 2 ^ 31 by omega), nI_clamp (show b < 2 ^ 31 by omega)] at s2
    exact fun v hv ho he => (s2 v hv ((s2 w hw s1).2 g hg hbit v hv ho he)).1
theorem andB : ∀ s, s < 64 → ∀ t, t < 64 → (nI s &&& nI t = 0 ↔ s &&& t = 0) := by decide +kernel
theorem andNZ {s t : Nat} (h : ¬ s &&& t = 0) (hs : s < 64) : ∃ g, g < 6 ∧ s.testBit g = true ∧ t.testBit g = true := Classical.byContradiction fun q => h (by
  apply Nat.eq_of_testBit_eq
  intro i
  rw [Nat.zero_testBit, Nat.testBit_and]
  by_cases hi : i < 6
  · cases h1 : s.testBit i with
    | false => rfl
    | true => cases h2 : t.testBit i with
      | false => rfl
      | true => exact absurd ⟨i, hi, h1, h2⟩ q
  · rw [Nat.testBit_lt_two_pow (Nat.lt_of_lt_of_le (show s < 2 ^ 6 from hs) (Nat.pow_le_pow_right (by decide) (by omega)))]
    rfl)
theorem tX1_isSoundOf_L93 {post : Int32 → Prop} {K136 : Int32 → Prop} {dk wg : Nat → Int64} {op : Int64} {E : Nat → Nat → Nat → Bool} {n s w t : Nat} (hC : CD dk E) (hn : n ≤ 40) (hs : s < n) (hw : w < 64) (ht : MSK (fun g => KNW op E g (wg s) w) 6 t) (hK : ∀ b, K136 b) : ∀ (m k : Nat), k + m = 64 → wX1_isSoundOf_L93 post K136 dk wg op (nI w) (nI n) (nI s) (nI t) (m + 1) (nI k) ∧ wX1_isSoundOf_L93_5 post K136 dk wg op (nI w) (nI n) (nI s) (nI t) (m + 1) (nI k) := by
  intro m
  induction m with
  | zero =>
    intro k h
    obtain rfl : k = 64 := by omega
    exact ⟨⟨fun _ => hK _, fun q => absurd (by decide) q⟩, ⟨fun _ => hK _, fun q => absurd (by decide) q⟩⟩
  | succ m ih =>
    intro k h
    have hk : k < 64 := by omega
    have i1 := ih (k + 1) (by omega)
    rw [nI_succ] at i1
    have no : ¬ (63 : Int32) < nI k := fun q => absurd ((nILt (by decide) (by omega)).mp (show nI 63 < nI k from q)) (by omega)
    have yes : ¬ nI k &&& nI t = 0 → ∀ r, (∀ v, v < 64 → (mw r v = true ↔ mw op v = true ∧ ∀ g, g < 6 → k.testBit g = true → E g w v = true)) → SUBW r (wg s) := fun q r hr => by
      obtain ⟨g, hg, b1, b2⟩ := andNZ (fun e => q ((andB k hk t ht.1).mpr e)) hk
      exact fun v hv a => (ht.2.1 g hg).mp b2 v hv ((hr v hv).mp a).1 (((hr v hv).mp a).2 g hg b1)
    exact ⟨⟨fun q => absurd q no, fun _ => ⟨fun _ => i1.1, fun q => tX1_cellTogether hC hk hw (fun r hr => tX1_worldsOf hs hn (tX2_isWithin (fun c => absurd (yes q r hr) c) (fun _ => ifY i1.1)))⟩⟩, ⟨fun q => absurd q no, fun _ => ⟨fun _ => i1.2, fun q => tX1_cellTogether hC hk hw (fun r hr => tX1_worldsOf hs hn (tX2_isWithin (fun c => absurd (yes q r hr) c) (fun _ => ifY i1.2)))⟩⟩⟩
theorem tX1_isSoundOf {post : Int32 → Prop} {dk wg : Nat → Int64} {op : Int64} {E : Nat → Nat → Nat → Bool} {kf ff sf : Nat → Int32} {n s w : Nat} (hC : CD dk E) (hq : EQV E) (hB : BOK kf ff sf n) (hT : TRU op E kf ff sf n wg) (hs : s < n) (hw : w < 64) (ho : mw op w = true) (h : post 1) : wX1_isSoundOf post dk wg op (nI w) kf ff sf (nI n) (nI s) := by
  have hn := hB.1
  have hwf := hB.2 s hs
  have c90 : ∀ t, MSK (fun g => KNW op E g (wg s) w) 6 t → wX1_isSoundOf_C90 post dk wg op (nI w) (nI n) (nI s) (nI t) ∧ wX1_isSoundOf_C90x post dk wg op (nI w) (nI n) (nI s) (nI t) := fun t ht => ⟨⟨64, (tX1_isSoundOf_L93 hC hn hs hw ht (fun _ => h) 63 1 rfl).1⟩, ⟨64, (tX1_isSoundOf_L93 hC hn hs hw ht (fun _ => h) 63 1 rfl).2⟩⟩
  have c55 : (kf s = 5 ∨ kf s = 6) → mw (wg s) w = true → ∀ t, MSK (fun g => KNW op E g (wg s) w) 6 t → wX1_isSoundOf_C55 post dk wg op (nI w) ff sf (nI n) (nI s) (nI t) 1 ∧ wX1_isSoundOf_C55x post dk wg op (nI w) ff sf (nI n) (nI s) (nI t) 1 := fun hk hm t ht => by
    have hsb := ((hT s hs w hw).mp hm).2
    obtain ⟨a, ha0, ha, ea⟩ : SETG (ff s) := hwf.2.2.2.2.1 (by rcases hk with e | e <;> rw [e] <;> decide)
    obtain ⟨b, hb, eb⟩ : IN (sf s) s := hwf.2.2.2.2.2 (by rcases hk with e | e <;> rw [e] <;> decide) (by rcases hk with e | e <;> rw [e] <;> decide)
    rw [ea, eb] at hsb
    have go : ∀ u, MSK (fun g => KNW op E g (wg b) w) 6 u → SUBW (nI a).toInt64 (nI u).toInt64 := fun u hu => subJ ha hu.1 (fun g hg hbit => (hu.2.1 g hg).mpr (sbKnown hw ha (by omega) hk hsb hg hbit))
    refine ⟨ifY2 (tX0_firstOf hs hn (tX0_secondOf hs hn ?_)), ifY2 (tX0_firstOf hs hn (tX0_secondOf hs hn ?_))⟩
    · rw [ea, eb]
      exact tX1_knowersOf hC hw (by omega) hn (fun u hu => tX2_isWithin (fun c => absurd (go u hu) c) (fun _ => ifY (c90 t ht).1))
    · rw [ea, eb]
      exact tX1_knowersOf hC hw (by omega) hn (fun u hu => tX2_isWithin (fun c => absurd (go u hu) c) (fun _ => ifY (c90 t ht).2))
  refine tX1_knowersOf hC hw hs hn (fun t ht => ⟨fun _ => tX0_kindOf hs hn ⟨fun k5 => ?_, fun n5 => ⟨fun n6 => ifN2 (c90 t ht).1, fun k6 => ?_⟩⟩, fun t0 => tX1_isTrueInReal hn hs hw (fun q => ?_) (fun q => ifY (tX0_kindOf hs hn ⟨fun k5 => ?_, fun n5 => ⟨fun n6 => ifN2 (c90 t ht).2, fun k6 => ?_⟩⟩))⟩)
  · exact tX1_isTrueInReal hn hs hw (fun q => ifN2 (ifN2 (c90 t ht).1)) (fun q => ifY2 (c55 (Or.inl k5) q t ht).1)
  · exact tX1_isTrueInReal hn hs hw (fun q => ifN2 (ifN2 (c90 t ht).1)) (fun q => ifY2 (c55 (Or.inr k6) q t ht).1)
  · have : ¬ t = 0 := fun e => t0 (by rw [e]; rfl)
    obtain ⟨g, hg, hb⟩ := bitEx (Nat.pos_of_ne_zero this) ht.1
    exact absurd ((ht.2.1 g hg).mp hb w hw ho (hq.1 g w)) q
  · exact tX1_isTrueInReal hn hs hw (fun q => ifN2 (ifN2 (c90 t ht).2)) (fun q => ifY2 (c55 (Or.inl k5) q t ht).2)
  · exact tX1_isTrueInReal hn hs hw (fun q => ifN2 (ifN2 (c90 t ht).2)) (fun q => ifY2 (c55 (Or.inr k6) q t ht).2)
theorem tX2_isSound_L24 {post : Int32 → Prop} {K54 : Int32 → Prop} {dk wg : Nat → Int64} {op : Int64} {E : Nat → Nat → Nat → Bool} {kf ff sf : Nat → Int32} {n w : Nat} (hC : CD dk E) (hq : EQV E) (hB : BOK kf ff sf n) (hT : TRU op E kf ff sf n wg) (hw : w < 64) (ho : mw op w = true) (hK : ∀ b, K54 b) : ∀ (m k : Nat), k + m = n → wX2_isSound_L24 post K54 dk wg op (nI w) kf ff sf (nI n) (m + 1) (nI k) := by
  intro m
  induction m with
  | zero =>
    intro k h
    obtain rfl : k = n := by omega
    exact ⟨fun _ => hK _, fun q => absurd (Int32.le_refl _) q⟩
  | succ m ih =>
    intro k h
    have hn := hB.1
    refine ⟨fun c => absurd c (notLe (a := n) (by omega) (by omega)), fun _ => tX1_isSoundOf hC hq hB hT (by omega) hw ho (ifY ?_)⟩
    rw [← nI_succ]
    exact ih (k + 1) (by omega)
theorem tX2_isSound {post : Int32 → Prop} {dk wg : Nat → Int64} {op : Int64} {E : Nat → Nat → Nat → Bool} {kf ff sf : Nat → Int32} {n w : Nat} (hC : CD dk E) (hq : EQV E) (hB : BOK kf ff sf n) (hT : TRU op E kf ff sf n wg) (hw : w < 64) (ho : mw op w = true) (h : post 1) : wX2_isSound post dk wg op (nI w) kf ff sf (nI n) := tX2_has hw (fun q => absurd ho q) (fun _ => ifY ⟨n + 1, tX2_isSound_L24 hC hq hB hT hw ho (fun _ => h) n 0 (Nat.zero_add n)⟩)
