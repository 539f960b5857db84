/-! what would be true -/
theorem cpyAt (f g : Nat → Int64) (n : Nat) {j : Nat} (h : j < n) : va_cpy f g 0 0 n j = f j := by
  unfold va_cpy
  rw [if_pos (by omega)]
  rw [show 0 + (j - 0) = j from by omega]
theorem txL_wouldTell {post : Int32 → (Nat → Int64) × (Nat → Int64) × Int64 × Int32 × Int64 → Prop} {dk wg uk uw : Nat → Int64} {op uo : Int64} {ur : Int32} {E : Nat → Nat → Nat → Bool} {kf ff sf : Nat → Int32} {n w : Nat} {on : Int64} {p1 : Int32} (hC : CD dk E) (hq : EQV E) (hB : BOK kf ff sf n) (hT : TRU op E kf ff sf n wg) (hw : w < 64) (h1 : ∀ s, s < n → p1 = nI s → mw (wg s) w = true → ∀ u T2, TRU (wg s) E kf ff sf n T2 → post 0 (u, T2, wg s, nI w, (nI (cntP (fun q => mw (T2 q) w = true) n)).toInt64)) (h2 : ∀ s, s < n → p1 = nI s → ¬ mw (wg s) w = true → post 0 (uk, uw, uo, ur, (-1 : Int32).toInt64)) (h3 : ¬ IN p1 n → post 1 (uk, uw, uo, ur, on)) : wxL_wouldTell post dk wg op (nI w) uk uw uo ur kf ff sf (nI n) on p1 := by
  have hn := hB.1
  unfold wxL_wouldTell wxX2_wouldTell
  refine tX0_holdsN hn (fun q => ifN ⟨rfl, h3 q⟩) (fun s hs e => ifY ?_)
  subst e
  refine tX1_isTrueInReal hn hs hw (fun q => ifN (h2 s hs rfl q)) (fun q => ifY ?_)
  have hC2 : CD (va_cpy dk uk 0 0 384) E := fun g hg a ha v hv => by
    rw [cpyAt _ _ _ (by omega)]
    exact hC g hg a ha v hv
  have eo : (op &&& wg s) = wg s := mwX (fun v hv => mwA.trans ⟨fun t => t.2, fun t => ⟨TRUs hT hs v hv t, t⟩⟩)
  refine tX1_worldsOf hs hn ?_
  show wX0_everySentence _ _
  rw [show (va_cpy dk uk (0 : Int32).toNatClampNeg (0 : Int32).toNatClampNeg (384 : Int32).toNatClampNeg, va_cpy wg uw (0 : Int32).toNatClampNeg (0 : Int32).toNatClampNeg (40 : Int32).toNatClampNeg, op, nI w).2.2.1 = op from rfl, eo]
  exact wAll hC2 hq hB (fun T2 hT2 => tX1_countTrueInReal hn hw (h1 s hs rfl q _ T2 hT2))
theorem vX4_wouldTell {post : Int32 → Int32 × Int64 × Int32 × (Nat → Int32) × (Nat → Int32) × (Nat → Int32) × (Nat → Int32) × (Nat → Int64) × (Nat → Int32) → Prop} {th : Int32} {po : Int64} {mf sp : Int32} {DD : Nat → Nat → Int32} {ctf stf fsf jnf rwf : Nat → Int32} {fdf : Nat → Int64} {aff : Nat → Int32} {KP : Nat → Nat → Int32} {sn c w : Nat} {sq : Nat → Nat → Int32} {T : Nat → Int64} {p1 : Int32} (a0 : DOK DD) (hM : MSC c sp stf fsf jnf rwf) (a4 : sn ≤ 40) (a5 : SOK sn sq) (hT : TRM po DD sq sn T) (hc : c + 480 < 2 ^ 31) (hw : w < 64) (h1 : ∀ s, s < sn → p1 = nI s → mw (T s) w = true → ∀ T2, TRM (T s) DD sq sn T2 → ∀ sp2 st2 fs2 jn2 rw2 (fd2 : Nat → Int64) (af2 : Nat → Int32), MSC (c + 480) sp2 st2 fs2 jn2 rw2 → post (nI (cntP (fun q => mw (T2 q) w = true) sn)) (0, po, sp2, st2, fs2, jn2, rw2, fd2, af2)) (h2 : ∀ s, s < sn → p1 = nI s → ¬ mw (T s) w = true → ∀ sp2 st2 fs2 jn2 rw2 (fd2 : Nat → Int64) (af2 : Nat → Int32), MSC (c + 480) sp2 st2 fs2 jn2 rw2 → post (-1) (0, po, sp2, st2, fs2, jn2, rw2, fd2, af2)) (h3 : ¬ IN p1 sn → post 0 (1, po, sp, stf, fsf, jnf, rwf, fdf, aff)) : wX4_wouldTell post th (nI w) po mf sp DD ctf stf fsf jnf rwf fdf aff KP sn sq p1 := by
  refine isSen a4 (fun q => ifN (h3 q)) (fun s hs e => ifY ?_)
  subst e
  refine vX4_truthNow a0 hM a4 a5 hT (by omega) hs (fun sp2 st2 fs2 jn2 rw2 fd2 af2 g0 => tX4_has_ hw (fun q => ifN (h2 s hs rfl (fun t => by rw [q] at t; exact absurd t (by decide)) _ _ _ _ _ _ _ (g0.mono (by omega)))) (fun q => ifY ?_))
  obtain ⟨T2, hT2⟩ := trmEx a4 a5 (T s) DD
  refine vX4_truths_ a0 g0 a4 a5 hT2 (by omega) (fun sp3 st3 fs3 jn3 rw3 f g1 hf => ?_)
  show wX4_trueIn _ (((nI sn - (1 : Int32)) + (1 : Int32)).toNatClampNeg) f (nI w)
  rw [ynEq a4]
  refine uX4_trueIn a4 hw ?_
  rw [cnt_ext (P := fun q => mw (f q) w = true) (Q := fun q => mw (T2 q) w = true) sn (fun q hq => by rw [hf q hq])]
  exact h1 s hs rfl q T2 hT2 _ _ _ _ _ _ _ (g1.mono (by omega))
/-- there is but one truth -/
theorem TRMu {op : Int64} {D : Nat → Nat → Int32} {sq : Nat → Nat → Int32} {n : Nat} {T T2 : Nat → Int64} (hn : n ≤ 40) (hS : SOK n sq) (h1 : TRM op D sq n T) (h2 : TRM op D sq n T2) : ∀ s, s < n → T s = T2 s := by
  have : ∀ k, k ≤ n → ∀ s, s < k → T s = T2 s := by
    intro k
    induction k with
    | zero => exact fun _ s hs => absurd hs (Nat.not_lt_zero s)
    | succ k ih =>
      intro hk s hs
      rcases Nat.lt_succ_iff_lt_or_eq.mp hs with e | e
      · exact ih (by omega) s e
      · subst e
        have h3 := SEMc (hS s (by omega)).1 (by omega) (fun j hj => ih (by omega) j hj) (h1 s (by omega))
        exact mwX (fun w hw => (h3 w hw).trans (h2 s (by omega) w hw).symm)
  exact this n (Nat.le_refl n)
