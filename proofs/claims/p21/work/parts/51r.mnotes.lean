/-! what notes would do: the reference -/
set_option maxRecDepth 16384 in
theorem zK0 {post : Int32 → Int32 × (Nat → Int32) × (Nat → Int32) × (Nat → Int32) × (Nat → Int32) × (Nat → Int64) × (Nat → Int32) → Prop} {th : Int32} {po : Int64} {mf sp : Int32} {DD : Nat → Nat → Int32} {ctf stf fsf jnf rwf : Nat → Int32} {fdf : Nat → Int64} {aff : Nat → Int32} {KP : Nat → Nat → Int32} {sn c : Nat} {sq : Nat → Nat → Int32} {w g s : Nat} (a0 : DOK DD) (hM : MSC c sp stf fsf jnf rwf) (a4 : sn ≤ 40) (a5 : SOK sn sq) (hw : w < 64) (ho : mw po w = true) (hg : g < 6) (hs : s < sn) (hc : c + 240 < 2 ^ 31) (h1 : ∀ r, vZ r → (¬ r = 0 ↔ K0 po sq sn s w g (ED DD)) → ∀ sp2 st2 fs2 jn2 rw2 (fd2 : Nat → Int64) (af2 : Nat → Int32), MSC (c + 240) sp2 st2 fs2 jn2 rw2 → post r (sp2, st2, fs2, jn2, rw2, fd2, af2)) : wX4_canBy0 post th (nI w) po mf sp DD ctf stf fsf jnf rwf fdf aff KP sn sq (nI g) (nI s) := vX4_canBy0 (T := TRX po (ED DD) sq sn) a0 hM a4 a5 (TRXs a4 a5) hw ho hg hs hc h1
set_option maxRecDepth 16384 in
theorem vX4_canBy1_L31 {post : Int32 → Int32 × (Nat → Int32) × (Nat → Int32) × (Nat → Int32) × (Nat → Int32) × (Nat → Int64) × (Nat → Int32) × (Nat → Nat → Int32) × (Nat → Nat → Int32) → Prop} {K : Int32 → Int32 → Int32 → (Nat → Int32) → (Nat → Int32) → (Nat → Int32) → (Nat → Int32) → (Nat → Int64) → (Nat → Int32) → (Nat → Nat → Int32) → (Nat → Nat → Int32) → Prop} {th : Int32} {po : Int64} {mf : Int32} {DD K0q : Nat → Nat → Int32} {ctf : Nat → Int32} {sn : Nat} {sq : Nat → Nat → Int32} {w g s a c0 : Nat} {F : Prop} (a0 : DOK DD) (a4 : sn ≤ 40) (a5 : SOK sn sq) (hw : w < 64) (ho : mw po w = true) (hg : g < 6) (hs : s < sn) (hi : a < 6) (hc : c0 + 6 * 241 < 2 ^ 31) (hK : ∀ i j sp st fs jn rw fd af Q, vZ i → (i = 0 → F) → (¬ i = 0 → (∃ i j, i < 6 ∧ j < 6 ∧ ¬ i = j ∧ K0 po sq sn s w g (eNote (ED DD) i j))) → (i = 0 → ∀ b, b < 6 → ¬ a = b → ¬ K0 po sq sn s w g (eNote (ED DD) a b)) → KOK Q → (∀ l, ¬ l = 1 → Q l = K0q l) → MSC (c0 + 6 * 241) sp st fs jn rw → K i j sp st fs jn rw fd af DD Q) : ∀ (m k : Nat) (i4 sp : Int32) (st fs jn rw : Nat → Int32) (fd : Nat → Int64) (af : Nat → Int32) (Q : Nat → Nat → Int32), k + m = 6 → vZ i4 → (i4 = 0 → F) → (¬ i4 = 0 → (∃ i j, i < 6 ∧ j < 6 ∧ ¬ i = j ∧ K0 po sq sn s w g (eNote (ED DD) i j))) → (i4 = 0 → ∀ b, b < k → ¬ a = b → ¬ K0 po sq sn s w g (eNote (ED DD) a b)) → KOK Q → (∀ l, ¬ l = 1 → Q l = K0q l) → MSC (c0 + 241 * k) sp st fs jn rw → wX4_canBy1_L31 post K th (nI w) po mf ctf sn sq (nI g) (nI s) (nI a) (m + 1) i4 (nI k) sp st fs jn rw fd af DD Q := by
  intro m
  induction m with
  | zero =>
    intro k i4 sp st fs jn rw fd af Q h z hF hy hn hQ hq hM
    obtain rfl : k = 6 := by omega
    exact ⟨fun _ => hK _ _ _ _ _ _ _ _ _ _ z hF hy hn hQ hq (hM.mono (by omega)), fun q => absurd (by decide) q⟩
  | succ m ih =>
    intro k i4 sp st fs jn rw fd af Q h z hF hy hn hQ hq hM
    have hj : k < 6 := by omega
    refine ⟨fun q => absurd q (notLe (a := 6) hj (by decide)), fun _ => ⟨fun n0 => hK _ _ _ _ _ _ _ _ _ _ z hF hy (fun q => absurd q n0) hQ hq (hM.mono (by omega)), fun i0 => ⟨fun ne => ?_, fun e => ?_⟩⟩⟩
    · have hak : ¬ a = k := fun e => ne (by rw [e])
      refine uX4_tell (lv := 1) a0 hQ hi hj (by decide) hak (by omega) hM.1 hM.2.1 hM.2.2.1 (fun sp2 st2 fs2 jn2 D Q2 g1 g2 g3 hL => ?_)
      have eq : TLD DD Q D Q2 a k 1 → (K0 po sq sn s w g (ED D) ↔ K0 po sq sn s w g (eNote (ED DD) a k)) := fun hL => K0same a4 a5 hs hg hw ho (EQE.eqo hL.2.2.2.2.2.2)
      exact zK0 hL.1 ⟨g1, g2, g3, hM.2.2.2⟩ a4 a5 hw ho hg hs (by omega) (fun r z hr sp3 st3 fs3 jn3 rw3 fd3 af3 g0 => restoreQ hj hL rfl (by
        show wX4_canBy1_L31 _ _ _ _ _ _ _ _ _ _ _ _ _ _ (nI k + 1) _ _ _ _ _ _ _ _ _
        rw [← nI_succ]
        have e := hr.trans (eq hL)
        refine ih (k + 1) r _ _ _ _ _ _ _ _ (by omega) z (fun _ => hF i0) (fun q => ⟨a, k, hi, hj, hak, e.mp q⟩) (fun q b hb hab r2 => ?_) hL.2.1 (fun l hl => (hL.2.2.1 l hl).trans (hq l hl)) (g0.mono (by omega))
        rcases Nat.lt_succ_iff_lt_or_eq.mp hb with x | x
        · exact hn i0 b x hab r2
        · subst x
          exact e.mpr r2 q))
    · have hak : a = k := nIinj (by omega) (by omega) e
      rw [← nI_succ]
      refine ih (k + 1) i4 _ _ _ _ _ _ _ _ (by omega) z hF hy (fun q b hb hab => ?_) hQ hq (hM.mono (by omega))
      rcases Nat.lt_succ_iff_lt_or_eq.mp hb with x | x
      · exact hn q b x hab
      · exact absurd (hak.trans x.symm) hab
set_option maxRecDepth 16384 in
theorem vX4_canBy1_L17 {post : Int32 → Int32 × (Nat → Int32) × (Nat → Int32) × (Nat → Int32) × (Nat → Int32) × (Nat → Int64) × (Nat → Int32) × (Nat → Nat → Int32) × (Nat → Nat → Int32) → Prop} {K : Int32 → Int32 → Int32 → (Nat → Int32) → (Nat → Int32) → (Nat → Int32) → (Nat → Int32) → (Nat → Int64) → (Nat → Int32) → (Nat → Nat → Int32) → (Nat → Nat → Int32) → Prop} {th : Int32} {po : Int64} {mf : Int32} {DD K0q : Nat → Nat → Int32} {ctf : Nat → Int32} {sn : Nat} {sq : Nat → Nat → Int32} {w g s c0 : Nat} (a0 : DOK DD) (a4 : sn ≤ 40) (a5 : SOK sn sq) (hw : w < 64) (ho : mw po w = true) (hg : g < 6) (hs : s < sn) (hc : c0 + 36 * 241 < 2 ^ 31) (hK : ∀ i j sp st fs jn rw fd af Q, vZ i → (¬ i = 0 → (∃ i j, i < 6 ∧ j < 6 ∧ ¬ i = j ∧ K0 po sq sn s w g (eNote (ED DD) i j))) → (i = 0 → ∀ a, a < 6 → ∀ b, b < 6 → ¬ a = b → ¬ K0 po sq sn s w g (eNote (ED DD) a b)) → KOK Q → (∀ l, ¬ l = 1 → Q l = K0q l) → MSC (c0 + 36 * 241) sp st fs jn rw → K i j sp st fs jn rw fd af DD Q) : ∀ (m k : Nat) (i4 sp : Int32) (st fs jn rw : Nat → Int32) (fd : Nat → Int64) (af : Nat → Int32) (Q : Nat → Nat → Int32), k + m = 6 → vZ i4 → (¬ i4 = 0 → (∃ i j, i < 6 ∧ j < 6 ∧ ¬ i = j ∧ K0 po sq sn s w g (eNote (ED DD) i j))) → (i4 = 0 → ∀ a, a < k → ∀ b, b < 6 → ¬ a = b → ¬ K0 po sq sn s w g (eNote (ED DD) a b)) → KOK Q → (∀ l, ¬ l = 1 → Q l = K0q l) → MSC (c0 + 6 * 241 * k) sp st fs jn rw → wX4_canBy1_L17 post K th (nI w) po mf ctf sn sq (nI g) (nI s) (m + 1) i4 (nI k) sp st fs jn rw fd af DD Q := by
  intro m
  induction m with
  | zero =>
    intro k i4 sp st fs jn rw fd af Q h z hy hn hQ hq hM
    obtain rfl : k = 6 := by omega
    exact ⟨fun _ => hK _ _ _ _ _ _ _ _ _ _ z hy hn hQ hq (hM.mono (by omega)), fun q => absurd (by decide) q⟩
  | succ m ih =>
    intro k i4 sp st fs jn rw fd af Q h z hy hn hQ hq hM
    have hj : k < 6 := by omega
    refine ⟨fun q => absurd q (notLe (a := 6) hj (by decide)), fun _ => ⟨7, vX4_canBy1_L31 (K0q := K0q) (c0 := c0 + 6 * 241 * k) (F := ∀ a, a < k → ∀ b, b < 6 → ¬ a = b → ¬ K0 po sq sn s w g (eNote (ED DD) a b)) a0 a4 a5 hw ho hg hs hj (by omega) (fun i j sp st fs jn rw fd af Q z2 hn3 hy2 hn2 hQ2 hq2 hM2 => ?_) 6 0 _ _ _ _ _ _ _ _ _ rfl z hn hy (fun _ b hb => absurd hb (Nat.not_lt_zero b)) hQ hq (hM.mono (by omega))⟩⟩
    rw [← nI_succ]
    refine ih (k + 1) i _ _ _ _ _ _ _ _ (by omega) z2 hy2 (fun q a ha => ?_) hQ2 hq2 (hM2.mono (by omega))
    rcases Nat.lt_succ_iff_lt_or_eq.mp ha with x | x
    · exact hn3 q a x
    · subst x
      exact hn2 q
set_option maxRecDepth 16384 in
theorem vX4_canBy1 {post : Int32 → Int32 × (Nat → Int32) × (Nat → Int32) × (Nat → Int32) × (Nat → Int32) × (Nat → Int64) × (Nat → Int32) × (Nat → Nat → Int32) × (Nat → Nat → Int32) → Prop} {th : Int32} {po : Int64} {mf sp : Int32} {DD : Nat → Nat → Int32} {ctf stf fsf jnf rwf : Nat → Int32} {fdf : Nat → Int64} {aff : Nat → Int32} {KP : Nat → Nat → Int32} {sn c : Nat} {sq : Nat → Nat → Int32} {w g s : Nat} (a0 : DOK DD) (hM : MSC c sp stf fsf jnf rwf) (a4 : sn ≤ 40) (a5 : SOK sn sq) (hQ : KOK KP) (hw : w < 64) (ho : mw po w = true) (hg : g < 6) (hs : s < sn) (hc : c + 8950 < 2 ^ 31) (hp : ∀ r, vZ r → (¬ r = 0 ↔ K1 po sq sn s w g (ED DD)) → ∀ sp2 st2 fs2 jn2 rw2 (fd2 : Nat → Int64) (af2 : Nat → Int32) Q, KOK Q → (∀ l, ¬ l = 1 → Q l = KP l) → MSC (c + 8950) sp2 st2 fs2 jn2 rw2 → post r (sp2, st2, fs2, jn2, rw2, fd2, af2, DD, Q)) : wX4_canBy1 post th (nI w) po mf sp DD ctf stf fsf jnf rwf fdf aff KP sn sq (nI g) (nI s) := by
  refine vX4_knowsIt (T := TRX po (ED DD) sq sn) a0 hM a4 a5 (TRXs a4 a5) hw ho hg hs (by omega) (fun r z hr sp2 st2 fs2 jn2 rw2 fd2 af2 g0 => ?_)
  have hr2 : ¬ r = 0 ↔ K0 po sq sn s w g (ED DD) := hr
  rcases z with rfl | rfl
  · have n0 : ¬ K0 po sq sn s w g (ED DD) := fun q => hr2.mpr q rfl
    refine ifN2 ⟨7, vX4_canBy1_L17 (K0q := KP) (c0 := c + 240) a0 a4 a5 hw ho hg hs (by omega) (fun i j sp st fs jn rw fd af Q z2 hy hn hQ2 hq2 hM2 => ⟨z2, hp i z2 ⟨fun q => Or.inr (hy q), fun q e => ?_⟩ _ _ _ _ _ _ _ Q hQ2 hq2 (hM2.mono (by omega))⟩) 6 0 _ _ _ _ _ _ _ _ _ rfl (Or.inl rfl) (fun q => absurd rfl q) (fun _ a ha => absurd ha (Nat.not_lt_zero a)) hQ (fun _ _ => rfl) (g0.mono (by omega))⟩
    rcases q with q | ⟨a, b, ha, hb, hab, q⟩
    · exact n0 q
    · exact hn e a ha b hb hab q
  · exact ifY2 (hp 1 (Or.inr rfl) ⟨fun _ => Or.inl (hr2.mp (by decide)), fun _ => by decide⟩ _ _ _ _ _ _ _ KP hQ (fun _ _ => rfl) (g0.mono (by omega)))
set_option maxRecDepth 16384 in
theorem vX4_canBy2_L31 {post : Int32 → Int32 × (Nat → Int32) × (Nat → Int32) × (Nat → Int32) × (Nat → Int32) × (Nat → Int64) × (Nat → Int32) × (Nat → Nat → Int32) × (Nat → Nat → Int32) → Prop} {K : Int32 → Int32 → Int32 → (Nat → Int32) → (Nat → Int32) → (Nat → Int32) → (Nat → Int32) → (Nat → Int64) → (Nat → Int32) → (Nat → Nat → Int32) → (Nat → Nat → Int32) → Prop} {th : Int32} {po : Int64} {mf : Int32} {DD K0q : Nat → Nat → Int32} {ctf : Nat → Int32} {sn : Nat} {sq : Nat → Nat → Int32} {w g s a c0 : Nat} {F : Prop} (a0 : DOK DD) (a4 : sn ≤ 40) (a5 : SOK sn sq) (hw : w < 64) (ho : mw po w = true) (hg : g < 6) (hs : s < sn) (hi : a < 6) (hc : c0 + 6 * 8951 < 2 ^ 31) (hK : ∀ i j sp st fs jn rw fd af Q, vZ i → (i = 0 → F) → (¬ i = 0 → (∃ i j, i < 6 ∧ j < 6 ∧ ¬ i = j ∧ K1 po sq sn s w g (eNote (ED DD) i j))) → (i = 0 → ∀ b, b < 6 → ¬ a = b → ¬ K1 po sq sn s w g (eNote (ED DD) a b)) → KOK Q → MSC (c0 + 6 * 8951) sp st fs jn rw → K i j sp st fs jn rw fd af DD Q) : ∀ (m k : Nat) (i4 sp : Int32) (st fs jn rw : Nat → Int32) (fd : Nat → Int64) (af : Nat → Int32) (Q : Nat → Nat → Int32), k + m = 6 → vZ i4 → (i4 = 0 → F) → (¬ i4 = 0 → (∃ i j, i < 6 ∧ j < 6 ∧ ¬ i = j ∧ K1 po sq sn s w g (eNote (ED DD) i j))) → (i4 = 0 → ∀ b, b < k → ¬ a = b → ¬ K1 po sq sn s w g (eNote (ED DD) a b)) → KOK Q → MSC (c0 + 8951 * k) sp st fs jn rw → wX4_canBy2_L31 post K th (nI w) po mf ctf sn sq (nI g) (nI s) (nI a) (m + 1) i4 (nI k) sp st fs jn rw fd af DD Q := by
  intro m
  induction m with
  | zero =>
    intro k i4 sp st fs jn rw fd af Q h z hF hy hn hQ hM
    obtain rfl : k = 6 := by omega
    exact ⟨fun _ => hK _ _ _ _ _ _ _ _ _ _ z hF hy hn hQ (hM.mono (by omega)), fun q => absurd (by decide) q⟩
  | succ m ih =>
    intro k i4 sp st fs jn rw fd af Q h z hF hy hn hQ hM
    have hj : k < 6 := by omega
    refine ⟨fun q => absurd q (notLe (a := 6) hj (by decide)), fun _ => ⟨fun n0 => hK _ _ _ _ _ _ _ _ _ _ z hF hy (fun q => absurd q n0) hQ (hM.mono (by omega)), fun i0 => ⟨fun ne => ?_, fun e => ?_⟩⟩⟩
    · have hak : ¬ a = k := fun e => ne (by rw [e])
      refine uX4_tell (lv := 2) a0 hQ hi hj (by decide) hak (by omega) hM.1 hM.2.1 hM.2.2.1 (fun sp2 st2 fs2 jn2 D Q2 g1 g2 g3 hL => ?_)
      have eq : TLD DD Q D Q2 a k 2 → (K1 po sq sn s w g (ED D) ↔ K1 po sq sn s w g (eNote (ED DD) a k)) := fun hL => K1same a4 a5 hs hg hw ho (EQE.eqo hL.2.2.2.2.2.2)
      exact vX4_canBy1 hL.1 ⟨g1, g2, g3, hM.2.2.2⟩ a4 a5 hL.2.1 hw ho hg hs (by omega) (fun r z hr sp3 st3 fs3 jn3 rw3 fd3 af3 Q3 q1 q2 g0 => restoreQ hj hL (q2 2 (by decide)) (by
        show wX4_canBy2_L31 _ _ _ _ _ _ _ _ _ _ _ _ _ _ (nI k + 1) _ _ _ _ _ _ _ _ _
        rw [← nI_succ]
        have e := hr.trans (eq hL)
        refine ih (k + 1) r _ _ _ _ _ _ _ _ (by omega) z (fun _ => hF i0) (fun q => ⟨a, k, hi, hj, hak, e.mp q⟩) (fun q b hb hab r2 => ?_) q1 (g0.mono (by omega))
        rcases Nat.lt_succ_iff_lt_or_eq.mp hb with x | x
        · exact hn i0 b x hab r2
        · subst x
          exact e.mpr r2 q))
    · have hak : a = k := nIinj (by omega) (by omega) e
      rw [← nI_succ]
      refine ih (k + 1) i4 _ _ _ _ _ _ _ _ (by omega) z hF hy (fun q b hb hab => ?_) hQ (hM.mono (by omega))
      rcases Nat.lt_succ_iff_lt_or_eq.mp hb with x | x
      · exact hn q b x hab
      · exact absurd (hak.trans x.symm) hab
set_option maxRecDepth 16384 in
theorem vX4_canBy2_L17 {post : Int32 → Int32 × (Nat → Int32) × (Nat → Int32) × (Nat → Int32) × (Nat → Int32) × (Nat → Int64) × (Nat → Int32) × (Nat → Nat → Int32) × (Nat → Nat → Int32) → Prop} {K : Int32 → Int32 → Int32 → (Nat → Int32) → (Nat → Int32) → (Nat → Int32) → (Nat → Int32) → (Nat → Int64) → (Nat → Int32) → (Nat → Nat → Int32) → (Nat → Nat → Int32) → Prop} {th : Int32} {po : Int64} {mf : Int32} {DD K0q : Nat → Nat → Int32} {ctf : Nat → Int32} {sn : Nat} {sq : Nat → Nat → Int32} {w g s c0 : Nat} (a0 : DOK DD) (a4 : sn ≤ 40) (a5 : SOK sn sq) (hw : w < 64) (ho : mw po w = true) (hg : g < 6) (hs : s < sn) (hc : c0 + 36 * 8951 < 2 ^ 31) (hK : ∀ i j sp st fs jn rw fd af Q, vZ i → (¬ i = 0 → (∃ i j, i < 6 ∧ j < 6 ∧ ¬ i = j ∧ K1 po sq sn s w g (eNote (ED DD) i j))) → (i = 0 → ∀ a, a < 6 → ∀ b, b < 6 → ¬ a = b → ¬ K1 po sq sn s w g (eNote (ED DD) a b)) → KOK Q → MSC (c0 + 36 * 8951) sp st fs jn rw → K i j sp st fs jn rw fd af DD Q) : ∀ (m k : Nat) (i4 sp : Int32) (st fs jn rw : Nat → Int32) (fd : Nat → Int64) (af : Nat → Int32) (Q : Nat → Nat → Int32), k + m = 6 → vZ i4 → (¬ i4 = 0 → (∃ i j, i < 6 ∧ j < 6 ∧ ¬ i = j ∧ K1 po sq sn s w g (eNote (ED DD) i j))) → (i4 = 0 → ∀ a, a < k → ∀ b, b < 6 → ¬ a = b → ¬ K1 po sq sn s w g (eNote (ED DD) a b)) → KOK Q → MSC (c0 + 6 * 8951 * k) sp st fs jn rw → wX4_canBy2_L17 post K th (nI w) po mf ctf sn sq (nI g) (nI s) (m + 1) i4 (nI k) sp st fs jn rw fd af DD Q := by
  intro m
  induction m with
  | zero =>
    intro k i4 sp st fs jn rw fd af Q h z hy hn hQ hM
    obtain rfl : k = 6 := by omega
    exact ⟨fun _ => hK _ _ _ _ _ _ _ _ _ _ z hy hn hQ (hM.mono (by omega)), fun q => absurd (by decide) q⟩
  | succ m ih =>
    intro k i4 sp st fs jn rw fd af Q h z hy hn hQ hM
    have hj : k < 6 := by omega
    refine ⟨fun q => absurd q (notLe (a := 6) hj (by decide)), fun _ => ⟨7, vX4_canBy2_L31 (K0q := K0q) (c0 := c0 + 6 * 8951 * k) (F := ∀ a, a < k → ∀ b, b < 6 → ¬ a = b → ¬ K1 po sq sn s w g (eNote (ED DD) a b)) a0 a4 a5 hw ho hg hs hj (by omega) (fun i j sp st fs jn rw fd af Q z2 hn3 hy2 hn2 hQ2 hM2 => ?_) 6 0 _ _ _ _ _ _ _ _ _ rfl z hn hy (fun _ b hb => absurd hb (Nat.not_lt_zero b)) hQ (hM.mono (by omega))⟩⟩
    rw [← nI_succ]
    refine ih (k + 1) i _ _ _ _ _ _ _ _ (by omega) z2 hy2 (fun q a ha => ?_) hQ2 (hM2.mono (by omega))
    rcases Nat.lt_succ_iff_lt_or_eq.mp ha with x | x
    · exact hn3 q a x
    · subst x
      exact hn2 q
set_option maxRecDepth 16384 in
theorem vX4_canBy2 {post : Int32 → Int32 × (Nat → Int32) × (Nat → Int32) × (Nat → Int32) × (Nat → Int32) × (Nat → Int64) × (Nat → Int32) × (Nat → Nat → Int32) × (Nat → Nat → Int32) → Prop} {th : Int32} {po : Int64} {mf sp : Int32} {DD : Nat → Nat → Int32} {ctf stf fsf jnf rwf : Nat → Int32} {fdf : Nat → Int64} {aff : Nat → Int32} {KP : Nat → Nat → Int32} {sn c : Nat} {sq : Nat → Nat → Int32} {w g s : Nat} (a0 : DOK DD) (hM : MSC c sp stf fsf jnf rwf) (a4 : sn ≤ 40) (a5 : SOK sn sq) (hQ : KOK KP) (hw : w < 64) (ho : mw po w = true) (hg : g < 6) (hs : s < sn) (hc : c + 322500 < 2 ^ 31) (hp : ∀ r, vZ r → (¬ r = 0 ↔ K2 po sq sn s w g (ED DD)) → ∀ sp2 st2 fs2 jn2 rw2 (fd2 : Nat → Int64) (af2 : Nat → Int32) Q, KOK Q → MSC (c + 322500) sp2 st2 fs2 jn2 rw2 → post r (sp2, st2, fs2, jn2, rw2, fd2, af2, DD, Q)) : wX4_canBy2 post th (nI w) po mf sp DD ctf stf fsf jnf rwf fdf aff KP sn sq (nI g) (nI s) := by
  refine vX4_knowsIt (T := TRX po (ED DD) sq sn) a0 hM a4 a5 (TRXs a4 a5) hw ho hg hs (by omega) (fun r z hr sp2 st2 fs2 jn2 rw2 fd2 af2 g0 => ?_)
  have hr2 : ¬ r = 0 ↔ K0 po sq sn s w g (ED DD) := hr
  rcases z with rfl | rfl
  · have n0 : ¬ K0 po sq sn s w g (ED DD) := fun q => hr2.mpr q rfl
    refine ifN2 ⟨7, vX4_canBy2_L17 (K0q := KP) (c0 := c + 240) a0 a4 a5 hw ho hg hs (by omega) (fun i j sp st fs jn rw fd af Q z2 hy hn hQ2 hM2 => ⟨z2, hp i z2 ⟨fun q => Or.inr (hy q), fun q e => ?_⟩ _ _ _ _ _ _ _ Q hQ2 (hM2.mono (by omega))⟩) 6 0 _ _ _ _ _ _ _ _ _ rfl (Or.inl rfl) (fun q => absurd rfl q) (fun _ a ha => absurd ha (Nat.not_lt_zero a)) hQ (g0.mono (by omega))⟩
    rcases q with q | ⟨a, b, ha, hb, hab, q⟩
    · exact n0 q
    · exact hn e a ha b hb hab q
  · exact ifY2 (hp 1 (Or.inr rfl) ⟨fun _ => Or.inl (hr2.mp (by decide)), fun _ => by decide⟩ _ _ _ _ _ _ _ KP hQ (g0.mono (by omega)))
set_option maxRecDepth 16384 in
theorem vX4_notesNow {post : Int32 → Int32 × (Nat → Int32) × (Nat → Int32) × (Nat → Int32) × (Nat → Int32) × (Nat → Int64) × (Nat → Int32) × (Nat → Nat → Int32) × (Nat → Nat → Int32) → Prop} {th : Int32} {po : Int64} {mf sp : Int32} {DD : Nat → Nat → Int32} {ctf stf fsf jnf rwf : Nat → Int32} {fdf : Nat → Int64} {aff : Nat → Int32} {KP : Nat → Nat → Int32} {sn c : Nat} {sq : Nat → Nat → Int32} {w g s : Nat} (a0 : DOK DD) (hM : MSC c sp stf fsf jnf rwf) (a4 : sn ≤ 40) (a5 : SOK sn sq) (hQ : KOK KP) (hw : w < 64) (ho : mw po w = true) (hg : g < 6) (hs : s < sn) (hc : c + 331700 < 2 ^ 31) (hp : ∀ sp2 st2 fs2 jn2 rw2 (fd2 : Nat → Int64) (af2 : Nat → Int32) Q, KOK Q → MSC (c + 331700) sp2 st2 fs2 jn2 rw2 → post (notV po sq sn s w g (ED DD)) (sp2, st2, fs2, jn2, rw2, fd2, af2, DD, Q)) : wX4_notesNow post th (nI w) po mf sp DD ctf stf fsf jnf rwf fdf aff KP sn sq (nI g) (nI s) := by
  refine zK0 a0 hM a4 a5 hw ho hg hs (by omega) (fun r z hr sp2 st2 fs2 jn2 rw2 fd2 af2 g0 => ⟨fun r0 => ?_, fun r0 => ?_⟩)
  · have n0 : ¬ K0 po sq sn s w g (ED DD) := fun q => hr.mpr q r0
    refine vX4_canBy1 a0 g0 a4 a5 hQ hw ho hg hs (by omega) (fun r z hr sp2 st2 fs2 jn2 rw2 fd2 af2 Q q1 _ g1 => ⟨fun r0 => ?_, fun r0 => ?_⟩)
    · have n1 : ¬ K1 po sq sn s w g (ED DD) := fun q => hr.mpr q r0
      refine vX4_canBy2 a0 g1 a4 a5 q1 hw ho hg hs (by omega) (fun r z hr sp2 st2 fs2 jn2 rw2 fd2 af2 Q q2 g2 => ⟨fun r0 => ?_, fun r0 => ?_⟩)
      · rw [not3 n0 n1 (fun q => hr.mpr q r0)] at hp
        exact hp _ _ _ _ _ _ _ _ q2 (g2.mono (by omega))
      · rw [not2 n0 n1 (hr.mp r0)] at hp
        exact hp _ _ _ _ _ _ _ _ q2 (g2.mono (by omega))
    · rw [not1 n0 (hr.mp r0)] at hp
      exact hp _ _ _ _ _ _ _ _ q1 (g1.mono (by omega))
  · rw [not0 (hr.mp r0)] at hp
    exact hp _ _ _ _ _ _ _ _ hQ (g0.mono (by omega))
set_option maxRecDepth 16384 in
theorem vX4_notes {post : Int32 → Int32 × Int32 × (Nat → Int32) × (Nat → Int32) × (Nat → Int32) × (Nat → Int32) × (Nat → Int64) × (Nat → Int32) × (Nat → Nat → Int32) × (Nat → Nat → Int32) → Prop} {th : Int32} {po : Int64} {mf sp : Int32} {DD : Nat → Nat → Int32} {ctf stf fsf jnf rwf : Nat → Int32} {fdf : Nat → Int64} {aff : Nat → Int32} {KP : Nat → Nat → Int32} {sn c : Nat} {sq : Nat → Nat → Int32} {w : Nat} {p1 p2 : Int32} (a0 : DOK DD) (hM : MSC c sp stf fsf jnf rwf) (a4 : sn ≤ 40) (a5 : SOK sn sq) (hQ : KOK KP) (hw : w < 64) (ho : mw po w = true) (hc : c + 331700 < 2 ^ 31) (h1 : ∀ g, g < 6 → p1 = nI g → ∀ s, s < sn → p2 = nI s → ∀ sp2 st2 fs2 jn2 rw2 (fd2 : Nat → Int64) (af2 : Nat → Int32) Q, KOK Q → MSC (c + 331700) sp2 st2 fs2 jn2 rw2 → post (notV po sq sn s w g (ED DD)) (0, sp2, st2, fs2, jn2, rw2, fd2, af2, DD, Q)) (h2 : ¬ (IN p1 6 ∧ IN p2 sn) → post 0 (1, sp, stf, fsf, jnf, rwf, fdf, aff, DD, KP)) : wX4_notes post th (nI w) po mf sp DD ctf stf fsf jnf rwf fdf aff KP sn sq p1 p2 := by
  refine isGua (fun q => ifN2 (h2 (fun t => q t.1))) (fun g hg e => ifY2 (isSen a4 (fun q => ifN (h2 (fun t => q t.2))) (fun s hs e2 => ifY ?_)))
  subst e e2
  exact vX4_notesNow a0 hM a4 a5 hQ hw ho hg hs hc (fun sp2 st2 fs2 jn2 rw2 fd2 af2 Q q1 g0 => h1 g hg rfl s hs rfl _ _ _ _ _ _ _ _ q1 g0)
