set_option maxRecDepth 16384 in
theorem vX4_bestNote_L35 {post : Int32 → Int32 × Int32 × (Nat → Int32) × (Nat → Int32) × (Nat → Int32) × (Nat → Int32) × (Nat → Int64) × (Nat → Int32) × (Nat → Nat → Int32) × (Nat → Nat → Int32) → Prop} {K111 : Int32 → Int32 → Int32 → Int32 → (Nat → Int32) → (Nat → Int32) → (Nat → Int32) → (Nat → Int32) → (Nat → Int64) → (Nat → Int32) → (Nat → Nat → Int32) → (Nat → Nat → Int32) → Prop} {po : Int64} {mf : Int32} {DD : Nat → Nat → Int32} {ctf : Nat → Int32} {sn : Nat} {sq : Nat → Nat → Int32} {w g s c0 : Nat} (a0 : DOK DD) (a4 : sn ≤ 40) (a5 : SOK sn sq) (hw : w < 64) (ho : mw po w = true) (hg : g < 6) (hs : s < sn) (hc : c0 + 6 * 241 < 2 ^ 31) : ∀ (m k : Nat) (x y sp : Int32) (st fs jn rw : Nat → Int32) (fd : Nat → Int64) (af : Nat → Int32) (Q : Nat → Nat → Int32), k + m = 6 → KOK Q → MSC (c0 + 241 * k) sp st fs jn rw → (∀ j sp st fs jn rw fd af Q, KOK Q → MSC (c0 + 6 * 241) sp st fs jn rw → K111 (bst po sq sn s w g (ED DD) m k (x, y)).1 (bst po sq sn s w g (ED DD) m k (x, y)).2 j sp st fs jn rw fd af DD Q) → wX4_bestNote_L35 post K111 (nI w) po mf ctf sn sq (nI g) (nI s) (m + 1) x y (nI k) sp st fs jn rw fd af DD Q := by
  intro m
  induction m with
  | zero =>
    intro k x y sp st fs jn rw fd af Q h hQ hM hP
    obtain rfl : k = 6 := by omega
    exact ⟨fun _ => hP _ _ _ _ _ _ _ _ _ hQ (hM.mono (by omega)), fun q => absurd (by decide) q⟩
  | succ m ih =>
    intro k x y sp st fs jn rw fd af Q h hQ hM hP
    have hk : k < 6 := by omega
    rw [bst] at hP
    refine ⟨fun q => absurd q (notLe (a := 6) hk (by decide)), fun _ => ⟨fun ne => ?_, fun e => ?_⟩⟩
    · have hkg : ¬ k = g := fun e => ne (by rw [e])
      rw [if_neg hkg] at hP
      refine uX4_tell (lv := 0) a0 hQ hk hg (by decide) hkg (by omega) hM.1 hM.2.1 hM.2.2.1 (fun sp2 st2 fs2 jn2 D Q2 g1 g2 g3 hL => tX4_alikeNow hg hw (fun r hr => eX4_size_ ?_))
      have er : r = ALK po (eNote (ED DD) k g) w g := ALKe (op := po) (E := eNote (ED DD) k g) (w := w) (g := g) (fun v hv => (hr v hv).trans ⟨fun q => ⟨by rw [← hL.2.2.2.2.2.2 g hg w hw v hv]; exact q.2.1, q.2.2⟩, fun q => ⟨ho, by rw [hL.2.2.2.2.2.2 g hg w hw v hv]; exact q.1, q.2⟩⟩)
      rw [er]
      refine ⟨fun l => restoreQ hg hL rfl ?_, fun l => ?_⟩
      · rw [bstF (op := po) (sq := sq) (n := sn) (s := s) (w := w) (g := g) (E := ED DD) (k := k) (x := (x, y)) (fun t => t.1 l)] at hP
        rw [← nI_succ]
        exact ih (k + 1) _ _ _ _ _ _ _ _ _ _ (by omega) hL.2.1 ⟨g1.mono (by omega), g2, g3, hM.2.2.2⟩ hP
      · refine vX4_knowsIt (T := TRX po (ED D) sq sn) hL.1 ⟨g1, g2, g3, hM.2.2.2⟩ a4 a5 (TRXs a4 a5) hw ho hg hs (by omega) (fun r2 z hr2 sp3 st3 fs3 jn3 rw3 fd3 af3 g0 => ?_)
        have e2 : ¬ r2 = 0 ↔ K0 po sq sn s w g (eNote (ED DD) k g) := Iff.trans hr2 (K0same a4 a5 hs hg hw ho (EQE.eqo hL.2.2.2.2.2.2))
        refine ⟨fun q => restoreQ hg hL rfl ?_, fun q => restoreQ hg hL rfl ?_⟩
        · rw [bstF (op := po) (sq := sq) (n := sn) (s := s) (w := w) (g := g) (E := ED DD) (k := k) (x := (x, y)) (fun t => e2.mpr t.2 q)] at hP
          rw [← nI_succ]
          exact ih (k + 1) _ _ _ _ _ _ _ _ _ _ (by omega) hL.2.1 (g0.mono (by omega)) hP
        · rw [bstT (op := po) (sq := sq) (n := sn) (s := s) (w := w) (g := g) (E := ED DD) (k := k) (x := (x, y)) l (e2.mp q)] at hP
          rw [← nI_succ]
          exact ih (k + 1) _ _ _ _ _ _ _ _ _ _ (by omega) hL.2.1 (g0.mono (by omega)) hP
    · have hkg : k = g := nIinj (by omega) (by omega) e
      rw [if_pos hkg] at hP
      rw [← nI_succ]
      exact ih (k + 1) _ _ _ _ _ _ _ _ _ _ (by omega) hQ (hM.mono (by omega)) hP
set_option maxRecDepth 16384 in
theorem vX4_bestNote {post : Int32 → Int32 × Int32 × (Nat → Int32) × (Nat → Int32) × (Nat → Int32) × (Nat → Int32) × (Nat → Int64) × (Nat → Int32) × (Nat → Nat → Int32) × (Nat → Nat → Int32) → Prop} {th : Int32} {po : Int64} {mf sp : Int32} {DD : Nat → Nat → Int32} {ctf stf fsf jnf rwf : Nat → Int32} {fdf : Nat → Int64} {aff : Nat → Int32} {KP : Nat → Nat → Int32} {sn c : Nat} {sq : Nat → Nat → Int32} {w : Nat} {p1 p2 : Int32} (a0 : DOK DD) (hM : MSC c sp stf fsf jnf rwf) (a4 : sn ≤ 40) (a5 : SOK sn sq) (hQ : KOK KP) (hw : w < 64) (ho : mw po w = true) (hc : c + 1446 < 2 ^ 31) (h1 : ∀ g, g < 6 → p1 = nI g → ∀ s, s < sn → p2 = nI s → ∀ sp2 st2 fs2 jn2 rw2 (fd2 : Nat → Int64) (af2 : Nat → Int32) Q, KOK Q → MSC (c + 1446) sp2 st2 fs2 jn2 rw2 → post (bst po sq sn s w g (ED DD) 6 0 (-1, 65)).1 (0, sp2, st2, fs2, jn2, rw2, fd2, af2, DD, Q)) (h2 : ¬ (IN p1 6 ∧ IN p2 sn) → post 0 (1, sp, stf, fsf, jnf, rwf, fdf, aff, DD, KP)) : wX4_bestNote post th (nI w) po mf sp DD ctf stf fsf jnf rwf fdf aff KP sn sq p1 p2 := by
  refine isGua (fun q => ifN2 (h2 (fun t => q t.1))) (fun g hg e => ifY2 (isSen a4 (fun q => ifN (h2 (fun t => q t.2))) (fun s hs e2 => ifY ?_)))
  have hp := h1 g hg e s hs e2
  subst e e2
  exact ⟨7, vX4_bestNote_L35 (c0 := c) a0 a4 a5 hw ho hg hs (by omega) 6 0 (-1) 65 _ _ _ _ _ _ _ _ rfl hQ (hM.mono (by omega)) (fun j sp st fs jn rw fd af Q q1 g0 => hp _ _ _ _ _ _ _ _ q1 (g0.mono (by omega)))⟩
