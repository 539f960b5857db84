theorem tX1_knownTogether_L12 {post : Int64 → Prop} {K71 : Int64 → Int64 → Int32 → Prop} {dk : Nat → Int64} {op : Int64} {E : Nat → Nat → Nat → Bool} {s : Nat} {p : Int64} (hC : CD dk E) (hq : EQV E) (hs : s < 64) (hK : ∀ a b c, (∀ w, w < 64 → (mw a w = true ↔ mw op w = true ∧ ∀ v, v < 64 → mw op v = true → (∀ g, g < 6 → s.testBit g = true → E g w v = true) → mw p v = true)) → K71 a b c) : ∀ (m k : Nat) (i4 i6 : Int64), k + m = 64 → SUBW i6 op → pc i6 + k ≤ 64 → (∀ w, w < 64 → (mw i4 w = true ↔ mw op w = true ∧ ¬ mw i6 w = true ∧ ∀ v, v < 64 → mw op v = true → (∀ g, g < 6 → s.testBit g = true → E g w v = true) → mw p v = true)) → wX1_knownTogether_L12 post K71 dk op (nI s) p (m + 1) i4 i6 (nI k) := by
  have fin : ∀ (i4 i6 : Int64) (c : Int32), i6 = 0 → (∀ w, w < 64 → (mw i4 w = true ↔ mw op w = true ∧ ¬ mw i6 w = true ∧ ∀ v, v < 64 → mw op v = true → (∀ g, g < 6 → s.testBit g = true → E g w v = true) → mw p v = true)) → K71 i4 i6 c := by
    intro i4 i6 c e hi
    subst e
    exact hK _ _ _ (fun w hw => (hi w hw).trans ⟨fun q => ⟨q.1, q.2.2⟩, fun q => ⟨q.1, mwZ, q.2⟩⟩)
  intro m
  induction m with
  | zero =>
    intro k i4 i6 h h1 h2 hi
    obtain rfl : k = 64 := by omega
    exact ⟨fun _ => fin _ _ _ (pc_eq0 (by omega)) hi, fun q => absurd (by decide) q⟩
  | succ m ih =>
    intro k i4 i6 h h1 h2 hi
    refine ⟨fun c => absurd c (notLe (a := 64) (by omega) (by decide)), fun _ => ⟨fun e => fin _ _ _ ((lg_cmp_eq _ _).mp e) hi, fun ne => tX2_smallestOf (fun e => ne ((lg_cmp_eq _ _).mpr e)) (fun t ht hm => tX1_cellTogether hC hs ht (fun r hr => ?_))⟩⟩
    have ht2 : mw r t = true := (hr t ht).mpr ⟨h1 t ht hm, fun g _ _ => hq.1 g t⟩
    have hd : ∀ w, w < 64 → (mw (i6 &&& (r ^^^ (-1 : Int64))) w = true ↔ mw i6 w = true ∧ ¬ mw r w = true) := fun w hw => mwA.trans (and_congr_right fun _ => mwN hw)
    have hsub : SUBW (i6 &&& (r ^^^ (-1 : Int64))) op := fun w hw q => h1 w hw ((hd w hw).mp q).1
    have hpc := pc_lt (x := i6 &&& (r ^^^ (-1 : Int64))) (y := i6) (fun w hw q => ((hd w hw).mp q).1) ht hm (nT (fun q => ((hd t ht).mp q).2 ht2))
    refine tX2_isWithin (fun hn => ⟨fun _ => ?_, fun c => absurd rfl c⟩) (fun hn => ⟨fun c => absurd c (by decide), fun _ => ?_⟩)
    · rw [← nI_succ]
      refine ih (k + 1) _ _ (by omega) hsub (by omega) (fun w hw => (hi w hw).trans ⟨fun q => ⟨q.1, fun q2 => q.2.1 ((hd w hw).mp q2).1, q.2.2⟩, fun q => ⟨q.1, fun q2 => ?_, q.2.2⟩⟩)
      have hrw : mw r w = true := Classical.byContradiction fun n => q.2.1 ((hd w hw).mpr ⟨q2, n⟩)
      refine hn (fun v hv hrv => q.2.2 v hv ((hr v hv).mp hrv).1 (fun g hg hb => hq.2.2 g w t v (hq.2.1 g t w (((hr w hw).mp hrw).2 g hg hb)) (((hr v hv).mp hrv).2 g hg hb)))
    · rw [← nI_succ]
      refine ih (k + 1) _ _ (by omega) hsub (by omega) (fun w hw => ?_)
      rw [mwO, hi w hw]
      constructor
      · rintro (q | q)
        · exact ⟨q.1, fun q2 => q.2.1 ((hd w hw).mp q2).1, q.2.2⟩
        · exact ⟨((hr w hw).mp q).1, fun q2 => ((hd w hw).mp q2).2 q, fun v hv ho hb => hn v hv ((hr v hv).mpr ⟨ho, fun g hg hg2 => hq.2.2 g t w v (((hr w hw).mp q).2 g hg hg2) (hb g hg hg2)⟩)⟩
      · intro q
        by_cases q2 : mw i6 w = true
        · exact Or.inr (Classical.byContradiction fun n => q.2.1 ((hd w hw).mpr ⟨q2, n⟩))
        · exact Or.inl ⟨q.1, q2, q.2.2⟩
theorem tX1_knownTogether {post : Int64 → Prop} {dk : Nat → Int64} {op : Int64} {E : Nat → Nat → Nat → Bool} {s : Nat} {p : Int64} (hC : CD dk E) (hq : EQV E) (hs : s < 64) (h : ∀ r, (∀ w, w < 64 → (mw r w = true ↔ mw op w = true ∧ ∀ v, v < 64 → mw op v = true → (∀ g, g < 6 → s.testBit g = true → E g w v = true) → mw p v = true)) → post r) : wX1_knownTogether post dk op (nI s) p :=
  ⟨65, tX1_knownTogether_L12 hC hq hs (fun a _ _ q => h a q) 64 0 0 op rfl (fun _ _ q => q) (by have := pc_le op; omega) (fun w hw => ⟨fun q => absurd q mwZ, fun q => absurd q.1 q.2.1⟩)⟩
/-! what a sentence means -/
def COM (op : Int64) (E : Nat → Nat → Nat → Bool) (s : Nat) (p : Int64) (w : Nat) : Prop := ∃ S : Nat → Prop, S w ∧ ∀ v, v < 64 → S v → mw p v = true ∧ ∀ g, g < 6 → s.testBit g = true → ∀ u, u < 64 → mw op u = true → E g v u = true → S u
def SB (op : Int64) (E : Nat → Nat → Nat → Bool) (kd a b : Int32) (T : Nat → Int64) (w : Nat) : Prop := (kd = 0 → w.testBit a.toNatClampNeg = true) ∧ (kd = 1 → ¬ mw (T a.toNatClampNeg) w = true) ∧ (kd = 2 → mw (T a.toNatClampNeg) w = true ∧ mw (T b.toNatClampNeg) w = true) ∧ (kd = 3 → mw (T a.toNatClampNeg) w = true ∨ mw (T b.toNatClampNeg) w = true) ∧ (kd = 4 → ∀ v, v < 64 → mw op v = true → E a.toNatClampNeg w v = true → mw (T b.toNatClampNeg) v = true) ∧ (kd = 5 → ∀ g, g < 6 → a.toNatClampNeg.testBit g = true → ∀ v, v < 64 → mw op v = true → E g w v = true → mw (T b.toNatClampNeg) v = true) ∧ (kd = 6 → COM op E a.toNatClampNeg (T b.toNatClampNeg) w) ∧ (kd = 7 → ∀ v, v < 64 → mw op v = true → (∀ g, g < 6 → a.toNatClampNeg.testBit g = true → E g w v = true) → mw (T b.toNatClampNeg) v = true)
def SEM (op : Int64) (E : Nat → Nat → Nat → Bool) (kd a b : Int32) (T : Nat → Int64) (r : Int64) : Prop := ∀ w, w < 64 → (mw r w = true ↔ mw op w = true ∧ SB op E kd a b T w)
theorem sb0 {op : Int64} {E : Nat → Nat → Nat → Bool} {a b : Int32} {T : Nat → Int64} {w : Nat} : SB op E 0 a b T w ↔ (w.testBit a.toNatClampNeg = true) := ⟨fun h => h.1 rfl, fun h => ⟨fun _ => h, fun q => absurd q (by decide), fun q => absurd q (by decide), fun q => absurd q (by decide), fun q => absurd q (by decide), fun q => absurd q (by decide), fun q => absurd q (by decide), fun q => absurd q (by decide)⟩⟩
theorem sb1 {op : Int64} {E : Nat → Nat → Nat → Bool} {a b : Int32} {T : Nat → Int64} {w : Nat} : SB op E 1 a b T w ↔ (¬ mw (T a.toNatClampNeg) w = true) := ⟨fun h => h.2.1 rfl, fun h => ⟨fun q => absurd q (by decide), fun _ => h, fun q => absurd q (by decide), fun q => absurd q (by decide), fun q => absurd q (by decide), fun q => absurd q (by decide), fun q => absurd q (by decide), fun q => absurd q (by decide)⟩⟩
theorem sb2 {op : Int64} {E : Nat → Nat → Nat → Bool} {a b : Int32} {T : Nat → Int64} {w : Nat} : SB op E 2 a b T w ↔ (mw (T a.toNatClampNeg) w = true ∧ mw (T b.toNatClampNeg) w = true) := ⟨fun h => h.2.2.1 rfl, fun h => ⟨fun q => absurd q (by decide), fun q => absurd q (by decide), fun _ => h, fun q => absurd q (by decide), fun q => absurd q (by decide), fun q => absurd q (by decide), fun q => absurd q (by decide), fun q => absurd q (by decide)⟩⟩
theorem sb3 {op : Int64} {E : Nat → Nat → Nat → Bool} {a b : Int32} {T : Nat → Int64} {w : Nat} : SB op E 3 a b T w ↔ (mw (T a.toNatClampNeg) w = true ∨ mw (T b.toNatClampNeg) w = true) := ⟨fun h => h.2.2.2.1 rfl, fun h => ⟨fun q => absurd q (by decide), fun q => absurd q (by decide), fun q => absurd q (by decide), fun _ => h, fun q => absurd q (by decide), fun q => absurd q (by decide), fun q => absurd q (by decide), fun q => absurd q (by decide)⟩⟩
theorem sb4 {op : Int64} {E : Nat → Nat → Nat → Bool} {a b : Int32} {T : Nat → Int64} {w : Nat} : SB op E 4 a b T w ↔ (∀ v, v < 64 → mw op v = true → E a.toNatClampNeg w v = true → mw (T b.toNatClampNeg) v = true) := ⟨fun h => h.2.2.2.2.1 rfl, fun h => ⟨fun q => absurd q (by decide), fun q => absurd q (by decide), fun q => absurd q (by decide), fun q => absurd q (by decide), fun _ => h, fun q => absurd q (by decide), fun q => absurd q (by decide), fun q => absurd q (by decide)⟩⟩
theorem sb5 {op : Int64} {E : Nat → Nat → Nat → Bool} {a b : Int32} {T : Nat → Int64} {w : Nat} : SB op E 5 a b T w ↔ (∀ g, g < 6 → a.toNatClampNeg.testBit g = true → ∀ v, v < 64 → mw op v = true → E g w v = true → mw (T b.toNatClampNeg) v = true) := ⟨fun h => h.2.2.2.2.2.1 rfl, fun h => ⟨fun q => absurd q (by decide), fun q => absurd q (by decide), fun q => absurd q (by decide), fun q => absurd q (by decide), fun q => absurd q (by decide), fun _ => h, fun q => absurd q (by decide), fun q => absurd q (by decide)⟩⟩
theorem sb6 {op : Int64} {E : Nat → Nat → Nat → Bool} {a b : Int32} {T : Nat → Int64} {w : Nat} : SB op E 6 a b T w ↔ (COM op E a.toNatClampNeg (T b.toNatClampNeg) w) := ⟨fun h => h.2.2.2.2.2.2.1 rfl, fun h => ⟨fun q => absurd q (by decide), fun q => absurd q (by decide), fun q => absurd q (by decide), fun q => absurd q (by decide), fun q => absurd q (by decide), fun q => absurd q (by decide), fun _ => h, fun q => absurd q (by decide)⟩⟩
theorem sb7 {op : Int64} {E : Nat → Nat → Nat → Bool} {a b : Int32} {T : Nat → Int64} {w : Nat} : SB op E 7 a b T w ↔ (∀ v, v < 64 → mw op v = true → (∀ g, g < 6 → a.toNatClampNeg.testBit g = true → E g w v = true) → mw (T b.toNatClampNeg) v = true) := ⟨fun h => h.2.2.2.2.2.2.2 rfl, fun h => ⟨fun q => absurd q (by decide), fun q => absurd q (by decide), fun q => absurd q (by decide), fun q => absurd q (by decide), fun q => absurd q (by decide), fun q => absurd q (by decide), fun q => absurd q (by decide), fun _ => h⟩⟩
theorem SEMc {op : Int64} {E : Nat → Nat → Nat → Bool} {kd a b : Int32} {T T2 : Nat → Int64} {r : Int64} {n : Nat} (hw : wfS n kd a b) (hn : n ≤ 40) (h : ∀ j, j < n → T j = T2 j) (hs : SEM op E kd a b T r) : SEM op E kd a b T2 r := by
  intro w hw2
  refine (hs w hw2).trans (and_congr_right fun _ => ?_)
  obtain ⟨k, hk, rfl⟩ := hw.1
  have ha : ∀ {x : Int32}, IN x n → T x.toNatClampNeg = T2 x.toNatClampNeg := fun hx => h _ (hx.lt (by omega))
  rcases (show k = 0 ∨ k = 1 ∨ k = 2 ∨ k = 3 ∨ k = 4 ∨ k = 5 ∨ k = 6 ∨ k = 7 from by omega) with rfl | rfl | rfl | rfl | rfl | rfl | rfl | rfl
  · exact sb0.trans sb0.symm
  · refine sb1.trans (Iff.trans ?_ sb1.symm)
    rw [ha (wf1.mp hw)]
  · refine sb2.trans (Iff.trans ?_ sb2.symm)
    rw [ha (wf2.mp hw).1, ha (wf2.mp hw).2]
  · refine sb3.trans (Iff.trans ?_ sb3.symm)
    rw [ha (wf3.mp hw).1, ha (wf3.mp hw).2]
  · refine sb4.trans (Iff.trans ?_ sb4.symm)
    rw [ha (wf4.mp hw).2]
  · refine sb5.trans (Iff.trans ?_ sb5.symm)
    rw [ha (wf5.mp hw).2]
  · refine sb6.trans (Iff.trans ?_ sb6.symm)
    rw [ha (wf6.mp hw).2]
  · refine sb7.trans (Iff.trans ?_ sb7.symm)
    rw [ha (wf7.mp hw).2]
/-- the worlds from which nobody comes out of p -/
theorem rchCom {op : Int64} {E : Nat → Nat → Nat → Bool} {s : Nat} {p r : Int64} (hq : EQV E) (h : RCH op E s (p ^^^ (-1 : Int64)) r) {w : Nat} (hw : w < 64) (ho : mw op w = true) : ¬ mw r w = true ↔ COM op E s p w := by
  obtain ⟨r1, r2, r3, r4⟩ := h
  constructor
  · intro hn
    refine ⟨fun v => mw op v = true ∧ ¬ mw r v = true, ⟨ho, hn⟩, fun v hv hS => ⟨Classical.byContradiction fun q => hS.2 (r1 v hv ((mwN hv).mpr q) hS.1), fun g hg hb u hu hou he => ⟨hou, fun q => hS.2 (r3 u hu q g hg hb v hv hS.1 (hq.2.1 g v u he))⟩⟩⟩
  · rintro ⟨S, s1, s2⟩ hr
    exact r4 (fun v => ¬ S v) (fun v hv hp _ hS => (mwN hv).mp hp (s2 v hv hS).1) (fun w' hw' hS ho' g hg hb v hv _ he hv2 => hS ((s2 v hv hv2).2 g hg hb w' hw' ho' (hq.2.1 g w' v he))) w hw hr s1
theorem wofB2 : ∀ a, a < 6 → ∀ w, w < 64 → mw (wof a) w = w.testBit a := by
  have h : ∀ a, a < 6 → ∀ w, w < 64 → (wof a).toBitVec.toNat.testBit w = w.testBit a := by decide +kernel
  exact h
theorem tX2_worldsOfFact {post : Int64 → Prop} {a : Nat} (ha : a < 6) (h : post (wof a)) : wX2_worldsOfFact post (nI a) := tX2_isFact (fun r _ hr => ⟨fun q => absurd q (hr.mpr ⟨a, ha, rfl⟩), fun _ => ⟨nI_in ha (by decide), by rw [nI_clamp (show a < 2 ^ 31 by omega)]; exact h⟩⟩)
theorem tX1_worldsOf {post : Int64 → Prop} {wg : Nat → Int64} {n s : Nat} (hs : s < n) (hn : n ≤ 40) (h : post (wg s)) : wX1_worldsOf post wg (nI n) (nI s) := tX0_holds hn (fun r z hr => ⟨fun q => absurd q (hr.mpr ⟨s, hs, rfl⟩), fun _ => ⟨nI_in (by omega) (by decide), by rw [nI_clamp (show s < 2 ^ 31 by omega)]; exact h⟩⟩)
theorem ulAt (f : Nat → Int64) (n : Nat) (x : Int64) : vp_updL f n x n = x := by
  show (if n = n then x else f n) = x
  rw [if_pos rfl]
theorem ulNe (f : Nat → Int64) {n k : Nat} (x : Int64) (h : ¬ k = n) : vp_updL f n x k = f k := by
  show (if k = n then x else f k) = f k
  rw [if_neg h]
theorem tX1_weigh_L2 {post : (Nat → Int64) → Prop} {K : Int32 → (Nat → Int64) → Prop} {dk : Nat → Int64} {op : Int64} {E : Nat → Nat → Nat → Bool} {kf ff sf : Nat → Int32} {n : Nat} {st : Int64} {wg : Nat → Int64} (hC : CD dk E) (hq : EQV E) (hB : BOK kf ff sf n) (hst : ∀ s, s < 40 → mw st s = true → s < n) (hK : ∀ i wg2, (∀ s, s < 40 → ¬ mw st s = true → wg2 s = wg s) → (∀ s, s < 40 → mw st s = true → SEM op E (kf s) (ff s) (sf s) wg2 (wg2 s)) → K i wg2) : ∀ (m k : Nat) (wg2 : Nat → Int64), k + m = 40 → (∀ s, (k ≤ s ∨ ¬ mw st s = true) → wg2 s = wg s) → (∀ s, s < k → mw st s = true → SEM op E (kf s) (ff s) (sf s) wg2 (wg2 s)) → wX1_weigh_L2 post K dk op kf ff sf (nI n) st (m + 1) (nI k) wg2 := by
  intro m
  induction m with
  | zero =>
    intro k wg2 h h1 h2
    obtain rfl : k = 40 := by omega
    exact ⟨fun _ => hK _ _ (fun s _ q => h1 s (Or.inr q)) (fun s hs q => h2 s hs q), fun q => absurd (by decide) q⟩
  | succ m ih =>
    intro k wg2 h h1 h2
    have hk : k < 40 := by omega
    have hn := hB.1
    have v40 : vp_in (nI k) 40 := nI_in hk (by decide)
    have ek : (nI k).toNatClampNeg = k := nI_clamp (by omega)
    refine ⟨fun c => absurd c (notLe (a := 40) hk (by decide)), fun _ => tX2_has (by omega) (fun hm => ⟨fun c => absurd rfl c, fun _ => ?_⟩) (fun hm => ⟨fun _ => ?_, fun c => absurd c (by decide)⟩)⟩
    · rw [← nI_succ]
      refine ih (k + 1) wg2 (by omega) (fun s q => ?_) (fun s hs q => ?_)
      · by_cases e : s = k
        · subst e
          exact h1 s (Or.inr hm)
        · exact h1 s (q.imp (fun q => by omega) id)
      · by_cases e : s = k
        · subst e
          exact absurd q hm
        · exact h2 s (by omega) q
    · have hkn := hst k hk hm
      have hw := hB.2 k hkn
      have step : ∀ x : Int64, SEM op E (kf k) (ff k) (sf k) wg2 x → wX1_weigh_L2 post K dk op kf ff sf (nI n) st (m + 1) (nI k + 1) (vp_updL wg2 (nI k).toNatClampNeg x) := fun x hx => by
        rw [← nI_succ, ek]
        refine ih (k + 1) _ (by omega) (fun s q => ?_) (fun s hs q => ?_)
        · have e : ¬ s = k := fun e => by
            subst e
            rcases q with q | q
            · omega
            · exact q hm
          rw [ulNe _ _ e]
          exact h1 s (q.imp (fun q => by omega) id)
        · by_cases e : s = k
          · subst e
            rw [ulAt]
            exact SEMc hw (by omega) (fun j hj => (ulNe _ _ (by omega)).symm) hx
          · rw [ulNe _ _ e]
            exact SEMc (hB.2 s (by omega)) (by omega) (fun j hj => (ulNe _ _ (by omega)).symm) (h2 s (by omega) q)
      refine tX0_firstOf hkn hn (tX0_secondOf hkn hn (tX0_kindOf hkn hn ?_))
      obtain ⟨c, hc, hc2⟩ := hw.1
      rw [hc2] at hw step
      rw [hc2]
      rcases (show c = 0 ∨ c = 1 ∨ c = 2 ∨ c = 3 ∨ c = 4 ∨ c = 5 ∨ c = 6 ∨ c = 7 from by omega) with rfl | rfl | rfl | rfl | rfl | rfl | rfl | rfl
      · obtain ⟨a, ha, ea⟩ := wf0.mp hw
        rw [ea] at step ⊢
        refine iT rfl (tX2_worldsOfFact ha ⟨v40, step _ (fun w hw => ?_)⟩)
        rw [mwA, wofB2 a ha w hw]
        refine ⟨fun q => ⟨q.2, sb0.mpr (by rw [nI_clamp (show a < 2 ^ 31 by omega)]; exact q.1)⟩, fun q => ⟨?_, q.1⟩⟩
        have := sb0.mp q.2
        rw [nI_clamp (show a < 2 ^ 31 by omega)] at this
        exact this
      · obtain ⟨a, ha, ea⟩ := wf1.mp hw
        rw [ea] at step ⊢
        refine iF (by decide) (iT rfl (tX1_worldsOf (by omega) hn ⟨v40, step _ (fun w hw => ?_)⟩))
        rw [mwA, mwN hw]
        refine and_comm.trans (and_congr_right fun _ => Iff.trans ?_ sb1.symm)
        rw [nI_clamp (show a < 2 ^ 31 by omega)]
      · obtain ⟨⟨a, ha, ea⟩, ⟨b, hb, eb⟩⟩ := wf2.mp hw
        rw [ea, eb] at step ⊢
        refine iF (by decide) (iF (by decide) (iT rfl (tX1_worldsOf (by omega) hn (tX1_worldsOf (by omega) hn ⟨v40, step _ (fun w hw => ?_)⟩))))
        rw [mwA, mwA]
        refine and_comm.trans (and_congr_right fun _ => Iff.trans ?_ sb2.symm)
        rw [nI_clamp (show a < 2 ^ 31 by omega), nI_clamp (show b < 2 ^ 31 by omega)]
      · obtain ⟨⟨a, ha, ea⟩, ⟨b, hb, eb⟩⟩ := wf3.mp hw
        rw [ea, eb] at step ⊢
        refine iF (by decide) (iF (by decide) (iF (by decide) (iT rfl (tX1_worldsOf (by omega) hn (tX1_worldsOf (by omega) hn ⟨v40, step _ (fun w hw => ?_)⟩)))))
        rw [mwA, mwO]
        refine and_comm.trans (and_congr_right fun _ => Iff.trans ?_ sb3.symm)
        rw [nI_clamp (show a < 2 ^ 31 by omega), nI_clamp (show b < 2 ^ 31 by omega)]
      · obtain ⟨⟨a, ha, ea⟩, ⟨b, hb, eb⟩⟩ := wf4.mp hw
        rw [ea, eb] at step ⊢
        refine iF (by decide) (iF (by decide) (iF (by decide) (iF (by decide) (iT rfl (tX1_worldsOf (by omega) hn ?_)))))
        rw [shB a ha]
        refine tX1_knownToAll hC hq (shC a ha) (fun r hr => ⟨v40, step _ (fun w hw => ?_)⟩)
        rw [mwA, hr w hw]
        refine ⟨fun q => ⟨q.2, sb4.mpr ?_⟩, fun q => ⟨⟨q.1, fun g hg hgb => ?_⟩, q.1⟩⟩
        · rw [nI_clamp (show a < 2 ^ 31 by omega), nI_clamp (show b < 2 ^ 31 by omega)]
          exact q.1.2 a ha (by rw [Nat.testBit_two_pow]; exact decide_eq_true rfl)
        · rw [Nat.testBit_two_pow] at hgb
          obtain rfl : a = g := of_decide_eq_true hgb
          have := sb4.mp q.2
          rw [nI_clamp (show a < 2 ^ 31 by omega), nI_clamp (show b < 2 ^ 31 by omega)] at this
          exact this
      · obtain ⟨⟨a, _, ha, ea⟩, ⟨b, hb, eb⟩⟩ := wf5.mp hw
        rw [ea, eb] at step ⊢
        refine iF (by decide) (iF (by decide) (iF (by decide) (iF (by decide) (iF (by decide) (iT rfl (tX1_worldsOf (by omega) hn (tX1_knownToAll hC hq ha (fun r hr => ⟨v40, step _ (fun w hw => ?_)⟩))))))))
        rw [mwA, hr w hw]
        have e5 := sb5 (op := op) (E := E) (a := nI a) (b := nI b) (T := wg2) (w := w)
        rw [nI_clamp (show a < 2 ^ 31 by omega), nI_clamp (show b < 2 ^ 31 by omega)] at e5
        exact ⟨fun q => ⟨q.2, e5.mpr q.1.2⟩, fun q => ⟨⟨q.1, e5.mp q.2⟩, q.1⟩⟩
      · obtain ⟨⟨a, _, ha, ea⟩, ⟨b, hb, eb⟩⟩ := wf6.mp hw
        rw [ea, eb] at step ⊢
        refine iF (by decide) (iF (by decide) (iF (by decide) (iF (by decide) (iF (by decide) (iF (by decide) (iT rfl (tX1_worldsOf (by omega) hn (tX1_reached hC hq ha (fun r hr => ⟨v40, step _ (fun w hw => ?_)⟩)))))))))
        rw [mwA, mwN hw]
        have e6 := sb6 (op := op) (E := E) (a := nI a) (b := nI b) (T := wg2) (w := w)
        rw [nI_clamp (show a < 2 ^ 31 by omega), nI_clamp (show b < 2 ^ 31 by omega)] at e6
        exact ⟨fun q => ⟨q.2, e6.mpr ((rchCom hq hr hw q.2).mp q.1)⟩, fun q => ⟨(rchCom hq hr hw q.1).mpr (e6.mp q.2), q.1⟩⟩
      · obtain ⟨⟨a, _, ha, ea⟩, ⟨b, hb, eb⟩⟩ := wf7.mp hw
        rw [ea, eb] at step ⊢
        refine iF (by decide) (iF (by decide) (iF (by decide) (iF (by decide) (iF (by decide) (iF (by decide) (iF (by decide) (iT rfl (tX1_worldsOf (by omega) hn (tX1_knownTogether hC hq ha (fun r hr => ⟨v40, step _ (fun w hw => ?_)⟩))))))))))
        rw [mwA, hr w hw]
        have e7 := sb7 (op := op) (E := E) (a := nI a) (b := nI b) (T := wg2) (w := w)
        rw [nI_clamp (show a < 2 ^ 31 by omega), nI_clamp (show b < 2 ^ 31 by omega)] at e7
        exact ⟨fun q => ⟨q.2, e7.mpr q.1.2⟩, fun q => ⟨⟨q.1, e7.mp q.2⟩, q.1⟩⟩
theorem tX1_weigh {post : (Nat → Int64) → Prop} {dk wg : Nat → Int64} {op : Int64} {E : Nat → Nat → Nat → Bool} {kf ff sf : Nat → Int32} {n : Nat} {st : Int64} (hC : CD dk E) (hq : EQV E) (hB : BOK kf ff sf n) (hst : ∀ s, s < 40 → mw st s = true → s < n) (h : ∀ wg2, (∀ s, s < 40 → ¬ mw st s = true → wg2 s = wg s) → (∀ s, s < 40 → mw st s = true → SEM op E (kf s) (ff s) (sf s) wg2 (wg2 s)) → post wg2) : wX1_weigh post dk wg op kf ff sf (nI n) st :=
  ⟨41, tX1_weigh_L2 hC hq hB hst (fun _ wg2 a b => h wg2 a b) 40 0 wg rfl (fun s _ => rfl) (fun s hs => absurd hs (Nat.not_lt_zero s))⟩
/-- every sentence's set is the right one -/
def TRU (op : Int64) (E : Nat → Nat → Nat → Bool) (kf ff sf : Nat → Int32) (n : Nat) (T : Nat → Int64) : Prop := ∀ s, s < n → SEM op E (kf s) (ff s) (sf s) T (T s)
theorem evB : ∀ n, n < 41 → ∀ s, s < 40 → ((jLshl (1 : Int64) (nI n)) - (1 : Int64)).toBitVec.toNat.testBit s = decide (s < n) := by decide +kernel
theorem tX0_everySentence {post : Int64 → Prop} {n : Nat} (hn : n ≤ 40) (h : ∀ st, (∀ s, s < 40 → (mw st s = true ↔ s < n)) → post st) : wX0_everySentence post (nI n) := h _ (fun s hs => by
  show ((jLshl (1 : Int64) (nI n)) - (1 : Int64)).toBitVec.toNat.testBit s = true ↔ s < n
  rw [evB n (by omega) s hs, decide_eq_true_iff])
theorem weighAll {post : (Nat → Int64) → Prop} {dk wg : Nat → Int64} {op : Int64} {E : Nat → Nat → Nat → Bool} {kf ff sf : Nat → Int32} {n : Nat} {st : Int64} (hC : CD dk E) (hq : EQV E) (hB : BOK kf ff sf n) (hst : ∀ s, s < 40 → (mw st s = true ↔ s < n)) (h : ∀ wg2, TRU op E kf ff sf n wg2 → post wg2) : wX1_weigh post dk wg op kf ff sf (nI n) st := tX1_weigh hC hq hB (fun s hs q => (hst s hs).mp q) (fun wg2 _ b => h wg2 (fun s hs => b s (by have := hB.1; omega) ((hst s (by have := hB.1; omega)).mpr hs)))
