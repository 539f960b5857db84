/-! there is always a truth -/
theorem setOfP (P : Nat → Prop) : ∀ n, n ≤ 64 → ∃ r : Int64, ∀ w, w < 64 → (mw r w = true ↔ w < n ∧ P w) := by
  intro n
  induction n with
  | zero => exact fun _ => ⟨0, fun w hw => ⟨fun q => absurd q mwZ, fun q => absurd q.1 (Nat.not_lt_zero w)⟩⟩
  | succ n ih =>
    intro h
    obtain ⟨r, hr⟩ := ih (by omega)
    by_cases q : P n
    · refine ⟨r ||| jLshl 1 (nI n), fun w hw => ?_⟩
      rw [mwO, hr w hw, mwB (show n < 64 by omega)]
      constructor
      · rintro (a | a)
        · exact ⟨by omega, a.2⟩
        · subst a
          exact ⟨by omega, q⟩
      · rintro ⟨a, b⟩
        rcases Nat.lt_succ_iff_lt_or_eq.mp a with e | e
        · exact Or.inl ⟨e, b⟩
        · exact Or.inr e.symm
    · refine ⟨r, fun w hw => (hr w hw).trans ⟨fun a => ⟨by omega, a.2⟩, fun a => ⟨?_, a.2⟩⟩⟩
      rcases Nat.lt_succ_iff_lt_or_eq.mp a.1 with e | e
      · exact e
      · subst e
        exact absurd a.2 q
theorem trmEx {sn : Nat} {sq : Nat → Nat → Int32} (hn : sn ≤ 40) (hs : SOK sn sq) (op : Int64) (D : Nat → Nat → Int32) : ∃ T, TRM op D sq sn T := by
  have : ∀ n, n ≤ sn → ∃ T, TRM op D sq n T := by
    intro n
    induction n with
    | zero => exact fun _ => ⟨fun _ => 0, fun s hs => absurd hs (Nat.not_lt_zero s)⟩
    | succ n ih =>
      intro h
      obtain ⟨T, hT⟩ := ih (by omega)
      obtain ⟨r, hr⟩ := setOfP (fun w => mw op w = true ∧ SB op (ED D) (sq n 0) (sq n 1) (sq n 2) T w) 64 (Nat.le_refl _)
      have hc : ∀ j, j < n → T j = vp_updL T n r j := fun j hj => (ulNe _ _ (by omega)).symm
      refine ⟨vp_updL T n r, fun s hs2 => ?_⟩
      rcases Nat.lt_succ_iff_lt_or_eq.mp hs2 with e | e
      · rw [ulNe _ _ (by omega)]
        exact SEMc (hs s (by omega)).1 (by omega) (fun j hj => hc j (by omega)) (hT s e)
      · subst e
        rw [ulAt]
        exact SEMc (hs s (by omega)).1 (by omega) hc (fun w hw => (hr w hw).trans ⟨fun q => q.2, fun q => ⟨hw, q⟩⟩)
  exact this sn (Nat.le_refl _)
/-! what is asked: the stamps are counted, the answers not yet (but for the first) -/
theorem vX4_isTrue {post : Int32 → Int32 × Int32 × (Nat → Int32) × (Nat → Int32) × (Nat → Int32) × (Nat → Int32) × (Nat → Int64) × (Nat → Int32) → Prop} {th mr : Int32} {po : Int64} {mf sp : Int32} {DD : Nat → Nat → Int32} {ctf stf fsf jnf rwf : Nat → Int32} {fdf : Nat → Int64} {aff : Nat → Int32} {KP : Nat → Nat → Int32} {sn c : Nat} {sq : Nat → Nat → Int32} {T : Nat → Int64} {p1 p2 : Int32} (a0 : DOK DD) (hM : MSC c sp stf fsf jnf rwf) (a4 : sn ≤ 40) (a5 : SOK sn sq) (hT : TRM po DD sq sn T) (hc : c + 240 < 2 ^ 31) (h1 : ∀ s, s < sn → p1 = nI s → ∀ v, v < 64 → p2 = nI v → ∀ r, vZ r → (¬ r = 0 ↔ mw (T s) v = true) → ∀ sp2 st2 fs2 jn2 rw2 (fd2 : Nat → Int64) (af2 : Nat → Int32), MSC (c + 240) sp2 st2 fs2 jn2 rw2 → post r (0, sp2, st2, fs2, jn2, rw2, fd2, af2)) (h2 : ¬ (IN p1 sn ∧ IN p2 64) → post 0 (1, sp, stf, fsf, jnf, rwf, fdf, aff)) : wX4_isTrue post th mr po mf sp DD ctf stf fsf jnf rwf fdf aff KP sn sq p1 p2 := by
  refine isSen a4 (fun q => ifN2 ⟨fun _ => h2 (fun t => q t.1), fun c => absurd (by decide) c⟩) (fun s hs e1 => ifY2 (isRng 63 (by decide) (fun q => ifN ⟨fun _ => h2 (fun t => q t.2), fun c => absurd (by decide) c⟩) (fun v hv e2 => ifY ?_)))
  subst e1 e2
  exact vX4_truthNow a0 hM a4 a5 hT hc hs (fun sp2 st2 fs2 jn2 rw2 fd2 af2 g0 => tX4_has_ hv (fun q => ⟨Or.inl rfl, h1 s hs rfl v hv rfl 0 (Or.inl rfl) ⟨fun t => absurd rfl t, fun t => by rw [q] at t; exact absurd t (by decide)⟩ _ _ _ _ _ _ _ g0⟩) (fun q => ⟨Or.inr rfl, h1 s hs rfl v hv rfl 1 (Or.inr rfl) ⟨fun _ => q, fun _ => by decide⟩ _ _ _ _ _ _ _ g0⟩))
theorem vX4_truth {post : Int64 → Int32 × Int32 × (Nat → Int32) × (Nat → Int32) × (Nat → Int32) × (Nat → Int32) × (Nat → Int64) × (Nat → Int32) → Prop} {th mr : Int32} {po : Int64} {mf sp : Int32} {DD : Nat → Nat → Int32} {ctf stf fsf jnf rwf : Nat → Int32} {fdf : Nat → Int64} {aff : Nat → Int32} {KP : Nat → Nat → Int32} {sn c : Nat} {sq : Nat → Nat → Int32} {T : Nat → Int64} {p1 : Int32} (a0 : DOK DD) (hM : MSC c sp stf fsf jnf rwf) (a4 : sn ≤ 40) (a5 : SOK sn sq) (hT : TRM po DD sq sn T) (hc : c + 240 < 2 ^ 31) (h1 : ∀ s, s < sn → p1 = nI s → ∀ sp2 st2 fs2 jn2 rw2 (fd2 : Nat → Int64) (af2 : Nat → Int32), MSC (c + 240) sp2 st2 fs2 jn2 rw2 → post (T s) (0, sp2, st2, fs2, jn2, rw2, fd2, af2)) (h2 : ¬ IN p1 sn → post ((0 : Int32).toInt64) (1, sp, stf, fsf, jnf, rwf, fdf, aff)) : wX4_truth post th mr po mf sp DD ctf stf fsf jnf rwf fdf aff KP sn sq p1 := by
  refine isSen a4 (fun q => ifN (h2 q)) (fun s hs e => ifY ?_)
  subst e
  exact vX4_truthNow a0 hM a4 a5 hT hc hs (fun sp2 st2 fs2 jn2 rw2 fd2 af2 g0 => h1 s hs rfl _ _ _ _ _ _ _ g0)
theorem vX4_alike {post : Int64 → Int32 → Prop} {th : Int32} {po : Int64} {DD : Nat → Nat → Int32} {p1 p2 : Int32} (h1 : ∀ g, g < 6 → p1 = nI g → ∀ w, w < 64 → p2 = nI w → ∀ r, (∀ v, v < 64 → (mw r v = true ↔ mw po w = true ∧ ED DD g w v = true ∧ mw po v = true)) → post r 0) (h2 : ¬ (IN p1 6 ∧ IN p2 64) → post ((0 : Int32).toInt64) 1) : wX4_alike post th po DD p1 p2 := by
  refine isGua (fun q => ifN2 (h2 (fun t => q t.1))) (fun g hg e1 => ifY2 (isRng 63 (by decide) (fun q => ifN (h2 (fun t => q t.2))) (fun w hw e2 => ifY ?_)))
  subst e1 e2
  exact tX4_alikeNow hg hw (fun r hr => h1 g hg rfl w hw rfl r hr)
theorem xX4_of {post : Int32 → Int32 × Int32 × (Nat → Int32) × (Nat → Int32) × (Nat → Int32) × (Nat → Int32) × (Nat → Int64) × (Nat → Int32) → Prop} {th mr : Int32} {po : Int64} {mf sp : Int32} {DD : Nat → Nat → Int32} {ctf stf fsf jnf rwf : Nat → Int32} {fdf : Nat → Int64} {aff : Nat → Int32} {KP : Nat → Nat → Int32} {sn c : Nat} {sq : Nat → Nat → Int32} {p1 p2 : Int32} (am : IN mr 64) (a0 : DOK DD) (hM : MSC c sp stf fsf jnf rwf) (a4 : sn ≤ 40) (a5 : SOK sn sq) (hc : c + 240 < 2 ^ 31) (hp : ∀ r t, ∀ sp2 st2 fs2 jn2 rw2 (fd2 : Nat → Int64) (af2 : Nat → Int32), MSC (c + 240) sp2 st2 fs2 jn2 rw2 → post r (t, sp2, st2, fs2, jn2, rw2, fd2, af2)) : wX4_of post th mr po mf sp DD ctf stf fsf jnf rwf fdf aff KP sn sq p1 p2 := by
  obtain ⟨T, hT⟩ := trmEx a4 a5 po DD
  refine isSen a4 (fun q => ifN (hp _ _ _ _ _ _ _ _ _ (hM.mono (by omega)))) (fun s hs e => ifY (isRng 9 (by decide) (fun q => ifN (hp _ _ _ _ _ _ _ _ _ (hM.mono (by omega)))) (fun x hx e2 => ifY ?_)))
  subst e e2
  exact vX4_truthNow a0 hM a4 a5 hT hc hs (fun sp2 st2 fs2 jn2 rw2 fd2 af2 g0 => sX4_ofNow am a0 a4 a5 ⟨s, hs, rfl⟩ (fun r => hp _ _ _ _ _ _ _ _ _ g0))
theorem xX4_depth {post : Int32 → Int32 × Int32 × (Nat → Int32) × (Nat → Int32) × (Nat → Int32) × (Nat → Int32) × (Nat → Int64) × (Nat → Int32) → Prop} {th mr : Int32} {po : Int64} {mf sp : Int32} {DD : Nat → Nat → Int32} {ctf stf fsf jnf rwf : Nat → Int32} {fdf : Nat → Int64} {aff : Nat → Int32} {KP : Nat → Nat → Int32} {sn c : Nat} {sq : Nat → Nat → Int32} {p1 p2 : Int32} (a0 : DOK DD) (hM : MSC c sp stf fsf jnf rwf) (a4 : sn ≤ 40) (a5 : SOK sn sq) (hc : c + 240 < 2 ^ 31) (hp : ∀ r t, ∀ sp2 st2 fs2 jn2 rw2 (fd2 : Nat → Int64) (af2 : Nat → Int32), MSC (c + 240) sp2 st2 fs2 jn2 rw2 → post r (t, sp2, st2, fs2, jn2, rw2, fd2, af2)) : wX4_depth post th mr po mf sp DD ctf stf fsf jnf rwf fdf aff KP sn sq p1 p2 := by
  obtain ⟨T, hT⟩ := trmEx a4 a5 po DD
  refine isSen a4 (fun q => ifN (hp _ _ _ _ _ _ _ _ _ (hM.mono (by omega)))) (fun s hs e => ifY (isSet (fun q => ifN (hp _ _ _ _ _ _ _ _ _ (hM.mono (by omega)))) (fun a ha hx e2 => ifY ?_)))
  subst e e2
  exact vX4_truthNow a0 hM a4 a5 hT hc hs (fun sp2 st2 fs2 jn2 rw2 fd2 af2 g0 => sX4_depthNow a0 ⟨a, ha, hx, rfl⟩ (fun r => hp _ _ _ _ _ _ _ _ _ g0))
theorem xX4_ofGuard {post : Int32 → Int32 × Int32 × (Nat → Int32) × (Nat → Int32) × (Nat → Int32) × (Nat → Int32) → Prop} {th mr : Int32} {po : Int64} {sp : Int32} {DD : Nat → Nat → Int32} {stf fsf jnf rwf : Nat → Int32} {sn c : Nat} {sq : Nat → Nat → Int32} {p1 p2 : Int32} (am : IN mr 64) (a0 : DOK DD) (hM : MSC c sp stf fsf jnf rwf) (a4 : sn ≤ 40) (a5 : SOK sn sq) (hc : c + 240 < 2 ^ 31) (hp : ∀ r t, ∀ sp2 st2 fs2 jn2 rw2, MSC (c + 240) sp2 st2 fs2 jn2 rw2 → post r (t, sp2, st2, fs2, jn2, rw2)) : wX4_ofGuard post th mr po sp DD stf fsf jnf rwf sn sq p1 p2 := by
  obtain ⟨T, hT⟩ := trmEx a4 a5 po DD
  refine isGua (fun q => ifN (hp _ _ _ _ _ _ _ (hM.mono (by omega)))) (fun g hg e => ifY (isRng 4 (by decide) (fun q => ifN (hp _ _ _ _ _ _ _ (hM.mono (by omega)))) (fun x hx e2 => ifY ?_)))
  subst e e2
  exact vX4_truths_ a0 hM a4 a5 hT hc (fun sp2 st2 fs2 jn2 rw2 f g0 _ => sX4_guardNow am a0 (by rw [ynEq a4]; exact a4) ⟨g, hg, rfl⟩ (fun r => (hp _ _ _ _ _ _ _ g0)))
theorem xX4_night {post : Int32 → Int32 × Int32 × (Nat → Int32) × (Nat → Int32) × (Nat → Int32) × (Nat → Int32) → Prop} {th mr : Int32} {po : Int64} {mf sp : Int32} {DD : Nat → Nat → Int32} {ctf stf fsf jnf rwf : Nat → Int32} {sn c : Nat} {sq : Nat → Nat → Int32} {p1 : Int32} (am : IN mr 64) (a0 : DOK DD) (hM : MSC c sp stf fsf jnf rwf) (a4 : sn ≤ 40) (a5 : SOK sn sq) (hc : c + 240 < 2 ^ 31) (hp : ∀ r t, ∀ sp2 st2 fs2 jn2 rw2, MSC (c + 240) sp2 st2 fs2 jn2 rw2 → post r (t, sp2, st2, fs2, jn2, rw2)) : wX4_night post th mr po mf sp DD ctf stf fsf jnf rwf sn sq p1 := by
  obtain ⟨T, hT⟩ := trmEx a4 a5 po DD
  refine isRng 12 (by decide) (fun q => ifN (hp _ _ _ _ _ _ _ (hM.mono (by omega)))) (fun x hx e => ifY ?_)
  subst e
  exact vX4_truths_ a0 hM a4 a5 hT hc (fun sp2 st2 fs2 jn2 rw2 f g0 _ => sX4_nightNow am a0 a4 (by rw [ynEq a4]; exact a4) ⟨x, hx, rfl⟩ (fun r => (hp _ _ _ _ _ _ _ g0)))
theorem xX4_wit {post : UInt64 → Int32 × Int32 × (Nat → Int32) × (Nat → Int32) × (Nat → Int32) × (Nat → Int32) → Prop} {th mr : Int32} {po : Int64} {sp : Int32} {DD : Nat → Nat → Int32} {stf fsf jnf rwf : Nat → Int32} {sn c : Nat} {sq : Nat → Nat → Int32} {p1 : Int32} (am : IN mr 64) (a0 : DOK DD) (hM : MSC c sp stf fsf jnf rwf) (a4 : sn ≤ 40) (a5 : SOK sn sq) (hc : c + 240 < 2 ^ 31) (hp : ∀ r t, ∀ sp2 st2 fs2 jn2 rw2, MSC (c + 240) sp2 st2 fs2 jn2 rw2 → post r (t, sp2, st2, fs2, jn2, rw2)) : wX4_wit post th mr po sp DD stf fsf jnf rwf sn sq p1 := by
  obtain ⟨T, hT⟩ := trmEx a4 a5 po DD
  refine isGua (fun q => ifN (hp _ _ _ _ _ _ _ (hM.mono (by omega)))) (fun g hg e => ifY ?_)
  subst e
  exact vX4_truths_ a0 hM a4 a5 hT hc (fun sp2 st2 fs2 jn2 rw2 f g0 _ => sX4_witNow am a0 (by rw [ynEq a4]; exact a4) ⟨g, hg, rfl⟩ (fun r _ => (hp _ _ _ _ _ _ _ g0)))
theorem xX4_isSound {post : Int32 → Int32 × Int32 × (Nat → Int32) × (Nat → Int32) × (Nat → Int32) × (Nat → Int32) → Prop} {th mr : Int32} {po : Int64} {sp : Int32} {DD : Nat → Nat → Int32} {stf fsf jnf rwf : Nat → Int32} {sn c : Nat} {sq : Nat → Nat → Int32} (am : IN mr 64) (a0 : DOK DD) (hM : MSC c sp stf fsf jnf rwf) (a4 : sn ≤ 40) (a5 : SOK sn sq) (hc : c + 240 < 2 ^ 31) (hp : ∀ r t, ∀ sp2 st2 fs2 jn2 rw2, MSC (c + 240) sp2 st2 fs2 jn2 rw2 → post r (t, sp2, st2, fs2, jn2, rw2)) : wX4_isSound post th mr po sp DD stf fsf jnf rwf sn sq := by
  obtain ⟨T, hT⟩ := trmEx a4 a5 po DD
  exact vX4_truths_ a0 hM a4 a5 hT hc (fun sp2 st2 fs2 jn2 rw2 f g0 _ => sX4_isSoundNow am a0 a4 a5 (by rw [ynEq a4]; exact a4) (ynEq a4) (fun r z => ⟨z, (hp _ _ _ _ _ _ _ g0)⟩))
theorem xX4_wouldTell {post : Int32 → Int32 × Int64 × Int32 × (Nat → Int32) × (Nat → Int32) × (Nat → Int32) × (Nat → Int32) × (Nat → Int64) × (Nat → Int32) → Prop} {th mr : Int32} {po : Int64} {mf sp : Int32} {DD : Nat → Nat → Int32} {ctf stf fsf jnf rwf : Nat → Int32} {fdf : Nat → Int64} {aff : Nat → Int32} {KP : Nat → Nat → Int32} {sn c : Nat} {sq : Nat → Nat → Int32} {p1 : Int32} (am : IN mr 64) (a0 : DOK DD) (hM : MSC c sp stf fsf jnf rwf) (a4 : sn ≤ 40) (a5 : SOK sn sq) (hc : c + 480 < 2 ^ 31) (hp : ∀ r t, ∀ sp2 st2 fs2 jn2 rw2 (fd2 : Nat → Int64) (af2 : Nat → Int32), MSC (c + 480) sp2 st2 fs2 jn2 rw2 → post r (t, po, sp2, st2, fs2, jn2, rw2, fd2, af2)) : wX4_wouldTell post th mr po mf sp DD ctf stf fsf jnf rwf fdf aff KP sn sq p1 := by
  obtain ⟨T, hT⟩ := trmEx a4 a5 po DD
  obtain ⟨w, hw, rfl⟩ := am
  refine isSen a4 (fun q => ifN (hp _ _ _ _ _ _ _ _ _ (hM.mono (by omega)))) (fun s hs e => ifY ?_)
  subst e
  refine vX4_truthNow a0 hM a4 a5 hT (by omega) hs (fun sp2 st2 fs2 jn2 rw2 fd2 af2 g0 => tX4_has_ hw (fun q => ifN (hp _ _ _ _ _ _ _ _ _ (g0.mono (by omega)))) (fun q => ifY ?_))
  obtain ⟨T2, hT2⟩ := trmEx a4 a5 (T s) DD
  exact vX4_truths_ a0 g0 a4 a5 hT2 (by omega) (fun sp3 st3 fs3 jn3 rw3 f g1 _ => sX4_trueIn (by rw [ynEq a4]; exact a4) (fun r => hp _ _ _ _ _ _ _ _ _ (g1.mono (by omega))))
theorem pcSub {a b : Int64} (h : SUBW a b) (hn : ¬ a = b) : pc a < pc b := by
  have : ∃ w, w < 64 ∧ mw b w = true ∧ ¬ mw a w = true := Classical.byContradiction fun q => hn (mwX (fun w hw => ⟨fun t => h w hw t, fun t => Classical.byContradiction fun u => q ⟨w, hw, t, u⟩⟩))
  obtain ⟨w, hw, hb, ha⟩ := this
  exact pc_lt h hw hb (nT ha)
theorem ASK.self {op : Int64} {E : Nat → Nat → Nat → Bool} {s : Nat} {p : Int64} {w : Nat} {r : Int64} (hw : w < 64) (ho : mw op w = true) (h : ASK op E s p w 6 r) : mw r w = true := (h w hw).mpr ⟨ho, fun _ _ _ => Iff.rfl⟩
theorem xX4_roundsNow_L8 {post : Int32 → Int32 × (Nat → Int32) × (Nat → Int32) × (Nat → Int32) × (Nat → Int32) × (Nat → Int64) × (Nat → Int32) × Int64 → Prop} {K69 : Int32 → Int32 → (Nat → Int32) → (Nat → Int32) → (Nat → Int32) → (Nat → Int32) → (Nat → Int64) → (Nat → Int32) → Int64 → Prop} {th mf : Int32} {DD : Nat → Nat → Int32} {ctf : Nat → Int32} {KP : Nat → Nat → Int32} {sn C : Nat} {sq : Nat → Nat → Int32} {w s a : Nat} (a0 : DOK DD) (a4 : sn ≤ 40) (a5 : SOK sn sq) (hw : w < 64) (hs : s < sn) (ha : a < 64) (hC : C < 2 ^ 31) (hK : ∀ i sp stf fsf jnf rwf fdf aff po, MSC C sp stf fsf jnf rwf → K69 i sp stf fsf jnf rwf fdf aff po) : ∀ (n c : Nat) (i5 sp : Int32) (stf fsf jnf rwf : Nat → Int32) (fdf : Nat → Int64) (aff : Nat → Int32) (po : Int64), pc po ≤ n → c + 240 * (n + 1) ≤ C → mw po w = true → MSC c sp stf fsf jnf rwf → wX4_roundsNow_L8 post K69 th (nI w) mf DD ctf KP sn sq (nI a) (nI s) (n + 1) i5 sp stf fsf jnf rwf fdf aff po := by
  intro n
  induction n with
  | zero =>
    intro c i5 sp stf fsf jnf rwf fdf aff po h hc ho hM
    have := pc_lt (x := 0) (y := po) (fun v _ q => absurd q mwZ) hw ho (mw_zero w)
    omega
  | succ n ih =>
    intro c i5 sp stf fsf jnf rwf fdf aff po h hc ho hM
    obtain ⟨T, hT⟩ := trmEx a4 a5 po DD
    refine vX4_truthNow a0 hM a4 a5 hT (by omega) hs (fun sp2 st2 fs2 jn2 rw2 fd2 af2 g0 => uX4_who a0 ha hw (fun t ht => ⟨fun _ => uX4_asked a0 ha hw ho (fun r3 hr => ⟨fun ne => ?_, fun _ => hK _ _ _ _ _ _ _ _ _ (g0.mono (by omega))⟩), fun _ => hK _ _ _ _ _ _ _ _ _ (g0.mono (by omega))⟩))
    have hl := pcSub (a := r3) (b := po) (fun v hv q => ((hr v hv).mp q).1) (fun e => ne ((lg_cmp_eq _ _).mpr e))
    exact ih (c + 240) _ _ _ _ _ _ _ _ r3 (by omega) (by omega) (ASK.self hw ho hr) g0
theorem xX4_roundsNow {post : Int32 → Int32 × (Nat → Int32) × (Nat → Int32) × (Nat → Int32) × (Nat → Int32) × (Nat → Int64) × (Nat → Int32) × Int64 → Prop} {th : Int32} {po : Int64} {mf sp : Int32} {DD : Nat → Nat → Int32} {ctf stf fsf jnf rwf : Nat → Int32} {fdf : Nat → Int64} {aff : Nat → Int32} {KP : Nat → Nat → Int32} {sn c : Nat} {sq : Nat → Nat → Int32} {w s a : Nat} (a0 : DOK DD) (hM : MSC c sp stf fsf jnf rwf) (a4 : sn ≤ 40) (a5 : SOK sn sq) (hw : w < 64) (ho : mw po w = true) (hs : s < sn) (ha : a < 64) (hc : c + 15600 < 2 ^ 31) (hp : ∀ r, ∀ sp2 st2 fs2 jn2 rw2 (fd2 : Nat → Int64) (af2 : Nat → Int32), MSC (c + 15600) sp2 st2 fs2 jn2 rw2 → post r (sp2, st2, fs2, jn2, rw2, fd2, af2, po)) : wX4_roundsNow post th (nI w) po mf sp DD ctf stf fsf jnf rwf fdf aff KP sn sq (nI a) (nI s) :=
  ⟨65, xX4_roundsNow_L8 a0 a4 a5 hw hs ha hc (fun i sp stf fsf jnf rwf fdf aff p g0 => hp _ _ _ _ _ _ _ _ g0) 64 c _ _ _ _ _ _ _ _ po (pc_le po) (by omega) ho hM⟩
theorem xX4_rounds {post : Int32 → Int32 × Int64 × Int32 × (Nat → Int32) × (Nat → Int32) × (Nat → Int32) × (Nat → Int32) × (Nat → Int64) × (Nat → Int32) → Prop} {th : Int32} {po : Int64} {mf sp : Int32} {DD : Nat → Nat → Int32} {ctf stf fsf jnf rwf : Nat → Int32} {fdf : Nat → Int64} {aff : Nat → Int32} {KP : Nat → Nat → Int32} {sn c : Nat} {sq : Nat → Nat → Int32} {w : Nat} {p1 p2 : Int32} (a0 : DOK DD) (hM : MSC c sp stf fsf jnf rwf) (a4 : sn ≤ 40) (a5 : SOK sn sq) (hw : w < 64) (ho : mw po w = true) (hc : c + 15600 < 2 ^ 31) (hp : ∀ r t, ∀ sp2 st2 fs2 jn2 rw2 (fd2 : Nat → Int64) (af2 : Nat → Int32), MSC (c + 15600) sp2 st2 fs2 jn2 rw2 → post r (t, po, sp2, st2, fs2, jn2, rw2, fd2, af2)) : wX4_rounds post th (nI w) po mf sp DD ctf stf fsf jnf rwf fdf aff KP sn sq p1 p2 := by
  refine isSen a4 (fun q => ifN (hp _ _ _ _ _ _ _ _ _ (hM.mono (by omega)))) (fun s hs e => ifY (isSet (fun q => ifN (hp _ _ _ _ _ _ _ _ _ (hM.mono (by omega)))) (fun a _ ha e2 => ifY ?_)))
  subst e e2
  exact xX4_roundsNow a0 hM a4 a5 hw ho hs ha hc (fun r sp2 st2 fs2 jn2 rw2 fd2 af2 g0 => hp _ _ _ _ _ _ _ _ _ g0)
theorem vX4_knowsIt {post : Int32 → Int32 × (Nat → Int32) × (Nat → Int32) × (Nat → Int32) × (Nat → Int32) × (Nat → Int64) × (Nat → Int32) → Prop} {th : Int32} {po : Int64} {mf sp : Int32} {DD : Nat → Nat → Int32} {ctf stf fsf jnf rwf : Nat → Int32} {fdf : Nat → Int64} {aff : Nat → Int32} {KP : Nat → Nat → Int32} {sn c : Nat} {sq : Nat → Nat → Int32} {T : Nat → Int64} {w g s : Nat} (a0 : DOK DD) (hM : MSC c sp stf fsf jnf rwf) (a4 : sn ≤ 40) (a5 : SOK sn sq) (hT : TRM po DD sq sn T) (hw : w < 64) (ho : mw po w = true) (hg : g < 6) (hs : s < sn) (hc : c + 240 < 2 ^ 31) (h1 : ∀ r, vZ r → (¬ r = 0 ↔ KNW po (ED DD) g (T s) w) → ∀ sp2 st2 fs2 jn2 rw2 (fd2 : Nat → Int64) (af2 : Nat → Int32), MSC (c + 240) sp2 st2 fs2 jn2 rw2 → post r (sp2, st2, fs2, jn2, rw2, fd2, af2)) : wX4_knowsIt post th (nI w) po mf sp DD ctf stf fsf jnf rwf fdf aff KP sn sq (nI g) (nI s) := by
  refine tX4_alikeNow hg hw (fun x hx => vX4_truthNow a0 hM a4 a5 hT hc hs (fun sp2 st2 fs2 jn2 rw2 fd2 af2 g0 => ?_))
  have e : SUBW x (T s) ↔ KNW po (ED DD) g (T s) w := ⟨fun q v hv a b => q v hv ((hx v hv).mpr ⟨ho, b, a⟩), fun q v hv a => q v hv ((hx v hv).mp a).2.2 ((hx v hv).mp a).2.1⟩
  exact ⟨fun q => h1 0 (Or.inl rfl) ⟨fun t => absurd rfl t, fun t => absurd (subIff.mpr (e.mpr t)) q⟩ _ _ _ _ _ _ _ g0, fun q => h1 1 (Or.inr rfl) ⟨fun _ => e.mp (subIff.mp q), fun _ => by decide⟩ _ _ _ _ _ _ _ g0⟩
theorem vX4_canBy0 {post : Int32 → Int32 × (Nat → Int32) × (Nat → Int32) × (Nat → Int32) × (Nat → Int32) × (Nat → Int64) × (Nat → Int32) → Prop} {th : Int32} {po : Int64} {mf sp : Int32} {DD : Nat → Nat → Int32} {ctf stf fsf jnf rwf : Nat → Int32} {fdf : Nat → Int64} {aff : Nat → Int32} {KP : Nat → Nat → Int32} {sn c : Nat} {sq : Nat → Nat → Int32} {T : Nat → Int64} {w g s : Nat} (a0 : DOK DD) (hM : MSC c sp stf fsf jnf rwf) (a4 : sn ≤ 40) (a5 : SOK sn sq) (hT : TRM po DD sq sn T) (hw : w < 64) (ho : mw po w = true) (hg : g < 6) (hs : s < sn) (hc : c + 240 < 2 ^ 31) (h1 : ∀ r, vZ r → (¬ r = 0 ↔ KNW po (ED DD) g (T s) w) → ∀ sp2 st2 fs2 jn2 rw2 (fd2 : Nat → Int64) (af2 : Nat → Int32), MSC (c + 240) sp2 st2 fs2 jn2 rw2 → post r (sp2, st2, fs2, jn2, rw2, fd2, af2)) : wX4_canBy0 post th (nI w) po mf sp DD ctf stf fsf jnf rwf fdf aff KP sn sq (nI g) (nI s) := by
  refine vX4_knowsIt a0 hM a4 a5 hT hw ho hg hs hc (fun r z hr sp2 st2 fs2 jn2 rw2 fd2 af2 g0 => ?_)
  rcases z with rfl | rfl
  · exact ifN2 ⟨1, fun _ => ⟨Or.inl rfl, h1 0 (Or.inl rfl) hr _ _ _ _ _ _ _ g0⟩, fun _ => ⟨Or.inl rfl, h1 0 (Or.inl rfl) hr _ _ _ _ _ _ _ g0⟩⟩
  · exact ifY2 (h1 1 (Or.inr rfl) hr _ _ _ _ _ _ _ g0)
theorem restoreQ {post : (Nat → Nat → Int32) → Prop} {DD KP D Q Q2 : Nat → Nat → Int32} {a b lv : Nat} (hb : b < 6) (hT : TLD DD KP D Q a b lv) (hq : Q2 lv = Q lv) (h : post DD) : wX4_restoreK post lv D Q2 (nI b) := by
  obtain ⟨t1, t2, t3, t4, t5, t6, t7⟩ := hT
  refine ⟨65, uX4_restoreK_L2 hb (fun _ D2 d1 d2 d3 => ?_) 64 0 D rfl (fun w hw => absurd hw (Nat.not_lt_zero w)) (fun _ _ => rfl) (fun _ _ => rfl)⟩
  have e : D2 = DD := by
    funext g w
    by_cases q : g = b
    · subst q
      by_cases r : w < 64
      · rw [d1 w r, hq, t4 w r]
      · rw [d2 w (Nat.le_of_not_lt r), t5 w (Nat.le_of_not_lt r)]
    · rw [d3 g q, t6 g q]
  rw [e]
  exact h
theorem xX4_canBy1_L31 {post : Int32 → Int32 × (Nat → Int32) × (Nat → Int32) × (Nat → Int32) × (Nat → Int32) × (Nat → Int64) × (Nat → Int32) × (Nat → Nat → Int32) × (Nat → Nat → Int32) → Prop} {K : Int32 → Int32 → Int32 → (Nat → Int32) → (Nat → Int32) → (Nat → Int32) → (Nat → Int32) → (Nat → Int64) → (Nat → Int32) → (Nat → Nat → Int32) → (Nat → Nat → Int32) → Prop} {th : Int32} {po : Int64} {mf : Int32} {DD K0 : Nat → Nat → Int32} {ctf : Nat → Int32} {sn : Nat} {sq : Nat → Nat → Int32} {w g s i c0 : Nat} (a0 : DOK DD) (a4 : sn ≤ 40) (a5 : SOK sn sq) (hw : w < 64) (ho : mw po w = true) (hg : g < 6) (hs : s < sn) (hi : i < 6) (hc : c0 + 6 * 241 < 2 ^ 31) (hK : ∀ i j sp st fs jn rw fd af Q, vZ i → KOK Q → (∀ l, ¬ l = 1 → Q l = K0 l) → MSC (c0 + 6 * 241) sp st fs jn rw → K i j sp st fs jn rw fd af DD Q) : ∀ (m k : Nat) (i4 sp : Int32) (st fs jn rw : Nat → Int32) (fd : Nat → Int64) (af : Nat → Int32) (Q : Nat → Nat → Int32), k + m = 6 → vZ i4 → KOK Q → (∀ l, ¬ l = 1 → Q l = K0 l) → MSC (c0 + 241 * k) sp st fs jn rw → wX4_canBy1_L31 post K th (nI w) po mf ctf sn sq (nI g) (nI s) (nI i) (m + 1) i4 (nI k) sp st fs jn rw fd af DD Q := by
  intro m
  induction m with
  | zero =>
    intro k i4 sp st fs jn rw fd af Q h z hQ hq hM
    obtain rfl : k = 6 := by omega
    exact ⟨fun _ => hK _ _ _ _ _ _ _ _ _ _ z hQ hq (hM.mono (by omega)), fun q => absurd (by decide) q⟩
  | succ m ih =>
    intro k i4 sp st fs jn rw fd af Q h z hQ hq hM
    have hj : k < 6 := by omega
    refine ⟨fun q => absurd q (notLe (a := 6) hj (by decide)), fun _ => ⟨fun _ => hK _ _ _ _ _ _ _ _ _ _ z hQ hq (hM.mono (by omega)), fun _ => ⟨fun ne => ?_, fun _ => ?_⟩⟩⟩
    · refine uX4_tell (lv := 1) a0 hQ hi hj (by decide) (fun e => ne (by rw [e])) (by omega) hM.1 hM.2.1 hM.2.2.1 (fun sp2 st2 fs2 jn2 D Q2 g1 g2 g3 hL => ?_)
      obtain ⟨T, hT⟩ := trmEx a4 a5 po D
      exact vX4_canBy0 hL.1 ⟨g1, g2, g3, hM.2.2.2⟩ a4 a5 hT hw ho hg hs (by omega) (fun r z _ sp3 st3 fs3 jn3 rw3 fd3 af3 g0 => restoreQ hj hL rfl (by
        show wX4_canBy1_L31 _ _ _ _ _ _ _ _ _ _ _ _ _ _ (nI k + 1) _ _ _ _ _ _ _ _ _
        rw [← nI_succ]
        exact ih (k + 1) r _ _ _ _ _ _ _ _ (by omega) z hL.2.1 (fun l hl => (hL.2.2.1 l hl).trans (hq l hl)) (g0.mono (by omega))))
    · rw [← nI_succ]
      exact ih (k + 1) i4 _ _ _ _ _ _ _ _ (by omega) z hQ hq (hM.mono (by omega))
theorem xX4_canBy1_L17 {post : Int32 → Int32 × (Nat → Int32) × (Nat → Int32) × (Nat → Int32) × (Nat → Int32) × (Nat → Int64) × (Nat → Int32) × (Nat → Nat → Int32) × (Nat → Nat → Int32) → Prop} {K : Int32 → Int32 → Int32 → (Nat → Int32) → (Nat → Int32) → (Nat → Int32) → (Nat → Int32) → (Nat → Int64) → (Nat → Int32) → (Nat → Nat → Int32) → (Nat → Nat → Int32) → Prop} {th : Int32} {po : Int64} {mf : Int32} {DD K0 : Nat → Nat → Int32} {ctf : Nat → Int32} {sn : Nat} {sq : Nat → Nat → Int32} {w g s c0 : Nat} (a0 : DOK DD) (a4 : sn ≤ 40) (a5 : SOK sn sq) (hw : w < 64) (ho : mw po w = true) (hg : g < 6) (hs : s < sn) (hc : c0 + 36 * 241 < 2 ^ 31) (hK : ∀ i j sp st fs jn rw fd af Q, vZ i → KOK Q → (∀ l, ¬ l = 1 → Q l = K0 l) → MSC (c0 + 36 * 241) sp st fs jn rw → K i j sp st fs jn rw fd af DD Q) : ∀ (m k : Nat) (i4 sp : Int32) (st fs jn rw : Nat → Int32) (fd : Nat → Int64) (af : Nat → Int32) (Q : Nat → Nat → Int32), k + m = 6 → vZ i4 → KOK Q → (∀ l, ¬ l = 1 → Q l = K0 l) → MSC (c0 + 6 * 241 * k) sp st fs jn rw → wX4_canBy1_L17 post K th (nI w) po mf ctf sn sq (nI g) (nI s) (m + 1) i4 (nI k) sp st fs jn rw fd af DD Q := by
  intro m
  induction m with
  | zero =>
    intro k i4 sp st fs jn rw fd af Q h z hQ hq hM
    obtain rfl : k = 6 := by omega
    exact ⟨fun _ => hK _ _ _ _ _ _ _ _ _ _ z hQ hq (hM.mono (by omega)), fun q => absurd (by decide) q⟩
  | succ m ih =>
    intro k i4 sp st fs jn rw fd af Q h z hQ hq hM
    have hj : k < 6 := by omega
    refine ⟨fun q => absurd q (notLe (a := 6) hj (by decide)), fun _ => ⟨7, xX4_canBy1_L31 (K0 := K0) (c0 := c0 + 6 * 241 * k) a0 a4 a5 hw ho hg hs hj (by omega) (fun i j sp st fs jn rw fd af Q z2 hQ2 hq2 hM2 => ?_) 6 0 _ _ _ _ _ _ _ _ _ rfl z hQ hq (hM.mono (by omega))⟩⟩
    rw [← nI_succ]
    exact ih (k + 1) i _ _ _ _ _ _ _ _ (by omega) z2 hQ2 hq2 (hM2.mono (by omega))
theorem xX4_canBy1 {post : Int32 → Int32 × (Nat → Int32) × (Nat → Int32) × (Nat → Int32) × (Nat → Int32) × (Nat → Int64) × (Nat → Int32) × (Nat → Nat → Int32) × (Nat → Nat → Int32) → Prop} {th : Int32} {po : Int64} {mf sp : Int32} {DD : Nat → Nat → Int32} {ctf stf fsf jnf rwf : Nat → Int32} {fdf : Nat → Int64} {aff : Nat → Int32} {KP : Nat → Nat → Int32} {sn c : Nat} {sq : Nat → Nat → Int32} {w g s : Nat} (a0 : DOK DD) (hM : MSC c sp stf fsf jnf rwf) (a4 : sn ≤ 40) (a5 : SOK sn sq) (hQ : KOK KP) (hw : w < 64) (ho : mw po w = true) (hg : g < 6) (hs : s < sn) (hc : c + 8950 < 2 ^ 31) (hp : ∀ r, vZ r → ∀ sp2 st2 fs2 jn2 rw2 (fd2 : Nat → Int64) (af2 : Nat → Int32) Q, KOK Q → (∀ l, ¬ l = 1 → Q l = KP l) → MSC (c + 8950) sp2 st2 fs2 jn2 rw2 → post r (sp2, st2, fs2, jn2, rw2, fd2, af2, DD, Q)) : wX4_canBy1 post th (nI w) po mf sp DD ctf stf fsf jnf rwf fdf aff KP sn sq (nI g) (nI s) := by
  obtain ⟨T, hT⟩ := trmEx a4 a5 po DD
  refine vX4_knowsIt a0 hM a4 a5 hT hw ho hg hs (by omega) (fun r z hr sp2 st2 fs2 jn2 rw2 fd2 af2 g0 => ?_)
  rcases z with rfl | rfl
  · exact ifN2 ⟨7, xX4_canBy1_L17 (K0 := KP) (c0 := c + 240) a0 a4 a5 hw ho hg hs (by omega) (fun i j sp st fs jn rw fd af Q z2 hQ2 hq2 hM2 => ⟨z2, hp i z2 _ _ _ _ _ _ _ Q hQ2 hq2 (hM2.mono (by omega))⟩) 6 0 _ _ _ _ _ _ _ _ _ rfl (Or.inl rfl) hQ (fun _ _ => rfl) (g0.mono (by omega))⟩
  · exact ifY2 (hp 1 (Or.inr rfl) _ _ _ _ _ _ _ KP hQ (fun _ _ => rfl) (g0.mono (by omega)))
theorem xX4_canBy2_L31 {post : Int32 → Int32 × (Nat → Int32) × (Nat → Int32) × (Nat → Int32) × (Nat → Int32) × (Nat → Int64) × (Nat → Int32) × (Nat → Nat → Int32) × (Nat → Nat → Int32) → Prop} {K : Int32 → Int32 → Int32 → (Nat → Int32) → (Nat → Int32) → (Nat → Int32) → (Nat → Int32) → (Nat → Int64) → (Nat → Int32) → (Nat → Nat → Int32) → (Nat → Nat → Int32) → Prop} {th : Int32} {po : Int64} {mf : Int32} {DD K0 : Nat → Nat → Int32} {ctf : Nat → Int32} {sn : Nat} {sq : Nat → Nat → Int32} {w g s i c0 : Nat} (a0 : DOK DD) (a4 : sn ≤ 40) (a5 : SOK sn sq) (hw : w < 64) (ho : mw po w = true) (hg : g < 6) (hs : s < sn) (hi : i < 6) (hc : c0 + 6 * 8951 < 2 ^ 31) (hK : ∀ i j sp st fs jn rw fd af Q, vZ i → KOK Q → MSC (c0 + 6 * 8951) sp st fs jn rw → K i j sp st fs jn rw fd af DD Q) : ∀ (m k : Nat) (i4 sp : Int32) (st fs jn rw : Nat → Int32) (fd : Nat → Int64) (af : Nat → Int32) (Q : Nat → Nat → Int32), k + m = 6 → vZ i4 → KOK Q → MSC (c0 + 8951 * k) sp st fs jn rw → wX4_canBy2_L31 post K th (nI w) po mf ctf sn sq (nI g) (nI s) (nI i) (m + 1) i4 (nI k) sp st fs jn rw fd af DD Q := by
  intro m
  induction m with
  | zero =>
    intro k i4 sp st fs jn rw fd af Q h z hQ hM
    obtain rfl : k = 6 := by omega
    exact ⟨fun _ => hK _ _ _ _ _ _ _ _ _ _ z hQ (hM.mono (by omega)), fun q => absurd (by decide) q⟩
  | succ m ih =>
    intro k i4 sp st fs jn rw fd af Q h z hQ hM
    have hj : k < 6 := by omega
    refine ⟨fun q => absurd q (notLe (a := 6) hj (by decide)), fun _ => ⟨fun _ => hK _ _ _ _ _ _ _ _ _ _ z hQ (hM.mono (by omega)), fun _ => ⟨fun ne => ?_, fun _ => ?_⟩⟩⟩
    · refine uX4_tell (lv := 2) a0 hQ hi hj (by decide) (fun e => ne (by rw [e])) (by omega) hM.1 hM.2.1 hM.2.2.1 (fun sp2 st2 fs2 jn2 D Q2 g1 g2 g3 hL => ?_)
      exact xX4_canBy1 hL.1 ⟨g1, g2, g3, hM.2.2.2⟩ a4 a5 hL.2.1 hw ho hg hs (by omega) (fun r z sp3 st3 fs3 jn3 rw3 fd3 af3 Q3 q1 q2 g0 => restoreQ hj hL (q2 2 (by decide)) (by
        show wX4_canBy2_L31 _ _ _ _ _ _ _ _ _ _ _ _ _ _ (nI k + 1) _ _ _ _ _ _ _ _ _
        rw [← nI_succ]
        exact ih (k + 1) r _ _ _ _ _ _ _ _ (by omega) z q1 (g0.mono (by omega))))
    · rw [← nI_succ]
      exact ih (k + 1) i4 _ _ _ _ _ _ _ _ (by omega) z hQ (hM.mono (by omega))
theorem xX4_canBy2_L17 {post : Int32 → Int32 × (Nat → Int32) × (Nat → Int32) × (Nat → Int32) × (Nat → Int32) × (Nat → Int64) × (Nat → Int32) × (Nat → Nat → Int32) × (Nat → Nat → Int32) → Prop} {K : Int32 → Int32 → Int32 → (Nat → Int32) → (Nat → Int32) → (Nat → Int32) → (Nat → Int32) → (Nat → Int64) → (Nat → Int32) → (Nat → Nat → Int32) → (Nat → Nat → Int32) → Prop} {th : Int32} {po : Int64} {mf : Int32} {DD K0 : Nat → Nat → Int32} {ctf : Nat → Int32} {sn : Nat} {sq : Nat → Nat → Int32} {w g s c0 : Nat} (a0 : DOK DD) (a4 : sn ≤ 40) (a5 : SOK sn sq) (hw : w < 64) (ho : mw po w = true) (hg : g < 6) (hs : s < sn) (hc : c0 + 36 * 8951 < 2 ^ 31) (hK : ∀ i j sp st fs jn rw fd af Q, vZ i → KOK Q → MSC (c0 + 36 * 8951) sp st fs jn rw → K i j sp st fs jn rw fd af DD Q) : ∀ (m k : Nat) (i4 sp : Int32) (st fs jn rw : Nat → Int32) (fd : Nat → Int64) (af : Nat → Int32) (Q : Nat → Nat → Int32), k + m = 6 → vZ i4 → KOK Q → MSC (c0 + 6 * 8951 * k) sp st fs jn rw → wX4_canBy2_L17 post K th (nI w) po mf ctf sn sq (nI g) (nI s) (m + 1) i4 (nI k) sp st fs jn rw fd af DD Q := by
  intro m
  induction m with
  | zero =>
    intro k i4 sp st fs jn rw fd af Q h z hQ hM
    obtain rfl : k = 6 := by omega
    exact ⟨fun _ => hK _ _ _ _ _ _ _ _ _ _ z hQ (hM.mono (by omega)), fun q => absurd (by decide) q⟩
  | succ m ih =>
    intro k i4 sp st fs jn rw fd af Q h z hQ hM
    have hj : k < 6 := by omega
    refine ⟨fun q => absurd q (notLe (a := 6) hj (by decide)), fun _ => ⟨7, xX4_canBy2_L31 (K0 := K0) (c0 := c0 + 6 * 8951 * k) a0 a4 a5 hw ho hg hs hj (by omega) (fun i j sp st fs jn rw fd af Q z2 hQ2 hM2 => ?_) 6 0 _ _ _ _ _ _ _ _ _ rfl z hQ (hM.mono (by omega))⟩⟩
    rw [← nI_succ]
    exact ih (k + 1) i _ _ _ _ _ _ _ _ (by omega) z2 hQ2 (hM2.mono (by omega))
theorem xX4_canBy2 {post : Int32 → Int32 × (Nat → Int32) × (Nat → Int32) × (Nat → Int32) × (Nat → Int32) × (Nat → Int64) × (Nat → Int32) × (Nat → Nat → Int32) × (Nat → Nat → Int32) → Prop} {th : Int32} {po : Int64} {mf sp : Int32} {DD : Nat → Nat → Int32} {ctf stf fsf jnf rwf : Nat → Int32} {fdf : Nat → Int64} {aff : Nat → Int32} {KP : Nat → Nat → Int32} {sn c : Nat} {sq : Nat → Nat → Int32} {w g s : Nat} (a0 : DOK DD) (hM : MSC c sp stf fsf jnf rwf) (a4 : sn ≤ 40) (a5 : SOK sn sq) (hQ : KOK KP) (hw : w < 64) (ho : mw po w = true) (hg : g < 6) (hs : s < sn) (hc : c + 322500 < 2 ^ 31) (hp : ∀ r, vZ r → ∀ sp2 st2 fs2 jn2 rw2 (fd2 : Nat → Int64) (af2 : Nat → Int32) Q, KOK Q → MSC (c + 322500) sp2 st2 fs2 jn2 rw2 → post r (sp2, st2, fs2, jn2, rw2, fd2, af2, DD, Q)) : wX4_canBy2 post th (nI w) po mf sp DD ctf stf fsf jnf rwf fdf aff KP sn sq (nI g) (nI s) := by
  obtain ⟨T, hT⟩ := trmEx a4 a5 po DD
  refine vX4_knowsIt a0 hM a4 a5 hT hw ho hg hs (by omega) (fun r z hr sp2 st2 fs2 jn2 rw2 fd2 af2 g0 => ?_)
  rcases z with rfl | rfl
  · exact ifN2 ⟨7, xX4_canBy2_L17 (K0 := KP) (c0 := c + 240) a0 a4 a5 hw ho hg hs (by omega) (fun i j sp st fs jn rw fd af Q z2 hQ2 hM2 => ⟨z2, hp i z2 _ _ _ _ _ _ _ Q hQ2 (hM2.mono (by omega))⟩) 6 0 _ _ _ _ _ _ _ _ _ rfl (Or.inl rfl) hQ (g0.mono (by omega))⟩
  · exact ifY2 (hp 1 (Or.inr rfl) _ _ _ _ _ _ _ KP hQ (g0.mono (by omega)))
theorem xX4_notesNow {post : Int32 → Int32 × (Nat → Int32) × (Nat → Int32) × (Nat → Int32) × (Nat → Int32) × (Nat → Int64) × (Nat → Int32) × (Nat → Nat → Int32) × (Nat → Nat → Int32) → Prop} {th : Int32} {po : Int64} {mf sp : Int32} {DD : Nat → Nat → Int32} {ctf stf fsf jnf rwf : Nat → Int32} {fdf : Nat → Int64} {aff : Nat → Int32} {KP : Nat → Nat → Int32} {sn c : Nat} {sq : Nat → Nat → Int32} {w g s : Nat} (a0 : DOK DD) (hM : MSC c sp stf fsf jnf rwf) (a4 : sn ≤ 40) (a5 : SOK sn sq) (hQ : KOK KP) (hw : w < 64) (ho : mw po w = true) (hg : g < 6) (hs : s < sn) (hc : c + 331700 < 2 ^ 31) (hp : ∀ r, ∀ sp2 st2 fs2 jn2 rw2 (fd2 : Nat → Int64) (af2 : Nat → Int32) Q, KOK Q → MSC (c + 331700) sp2 st2 fs2 jn2 rw2 → post r (sp2, st2, fs2, jn2, rw2, fd2, af2, DD, Q)) : wX4_notesNow post th (nI w) po mf sp DD ctf stf fsf jnf rwf fdf aff KP sn sq (nI g) (nI s) := by
  obtain ⟨T, hT⟩ := trmEx a4 a5 po DD
  refine vX4_canBy0 a0 hM a4 a5 hT hw ho hg hs (by omega) (fun r z _ sp2 st2 fs2 jn2 rw2 fd2 af2 g0 => ⟨fun _ => ?_, fun _ => hp _ _ _ _ _ _ _ _ _ hQ (g0.mono (by omega))⟩)
  refine xX4_canBy1 a0 g0 a4 a5 hQ hw ho hg hs (by omega) (fun r z sp2 st2 fs2 jn2 rw2 fd2 af2 Q q1 _ g1 => ⟨fun _ => ?_, fun _ => hp _ _ _ _ _ _ _ _ _ q1 (g1.mono (by omega))⟩)
  exact xX4_canBy2 a0 g1 a4 a5 q1 hw ho hg hs (by omega) (fun r z sp2 st2 fs2 jn2 rw2 fd2 af2 Q q2 g2 => ⟨fun _ => hp _ _ _ _ _ _ _ _ _ q2 (g2.mono (by omega)), fun _ => hp _ _ _ _ _ _ _ _ _ q2 (g2.mono (by omega))⟩)
theorem xX4_notes {post : Int32 → Int32 × Int32 × (Nat → Int32) × (Nat → Int32) × (Nat → Int32) × (Nat → Int32) × (Nat → Int64) × (Nat → Int32) × (Nat → Nat → Int32) × (Nat → Nat → Int32) → Prop} {th : Int32} {po : Int64} {mf sp : Int32} {DD : Nat → Nat → Int32} {ctf stf fsf jnf rwf : Nat → Int32} {fdf : Nat → Int64} {aff : Nat → Int32} {KP : Nat → Nat → Int32} {sn c : Nat} {sq : Nat → Nat → Int32} {w : Nat} {p1 p2 : Int32} (a0 : DOK DD) (hM : MSC c sp stf fsf jnf rwf) (a4 : sn ≤ 40) (a5 : SOK sn sq) (hQ : KOK KP) (hw : w < 64) (ho : mw po w = true) (hc : c + 331700 < 2 ^ 31) (hp : ∀ r t, ∀ sp2 st2 fs2 jn2 rw2 (fd2 : Nat → Int64) (af2 : Nat → Int32) Q, KOK Q → MSC (c + 331700) sp2 st2 fs2 jn2 rw2 → post r (t, sp2, st2, fs2, jn2, rw2, fd2, af2, DD, Q)) : wX4_notes post th (nI w) po mf sp DD ctf stf fsf jnf rwf fdf aff KP sn sq p1 p2 := by
  refine isGua (fun q => ifN2 (hp _ _ _ _ _ _ _ _ _ _ hQ (hM.mono (by omega)))) (fun g hg e => ifY2 (isSen a4 (fun q => ifN (hp _ _ _ _ _ _ _ _ _ _ hQ (hM.mono (by omega)))) (fun s hs e2 => ifY ?_)))
  subst e e2
  exact xX4_notesNow a0 hM a4 a5 hQ hw ho hg hs hc (fun r sp2 st2 fs2 jn2 rw2 fd2 af2 Q q1 g0 => hp _ _ _ _ _ _ _ _ _ _ q1 g0)
theorem xX4_bestNote_L35 {post : Int32 → Int32 × Int32 × (Nat → Int32) × (Nat → Int32) × (Nat → Int32) × (Nat → Int32) × (Nat → Int64) × (Nat → Int32) × (Nat → Nat → Int32) × (Nat → Nat → Int32) → Prop} {K111 : Int32 → Int32 → Int32 → Int32 → (Nat → Int32) → (Nat → Int32) → (Nat → Int32) → (Nat → Int32) → (Nat → Int64) → (Nat → Int32) → (Nat → Nat → Int32) → (Nat → Nat → Int32) → Prop} {po : Int64} {mf : Int32} {DD : Nat → Nat → Int32} {ctf : Nat → Int32} {sn : Nat} {sq : Nat → Nat → Int32} {w g s c0 : Nat} (a0 : DOK DD) (a4 : sn ≤ 40) (a5 : SOK sn sq) (hw : w < 64) (ho : mw po w = true) (hg : g < 6) (hs : s < sn) (hc : c0 + 6 * 241 < 2 ^ 31) (hK : ∀ i i2 j sp st fs jn rw fd af Q, KOK Q → MSC (c0 + 6 * 241) sp st fs jn rw → K111 i i2 j sp st fs jn rw fd af DD Q) : ∀ (m k : Nat) (i3 i4 sp : Int32) (st fs jn rw : Nat → Int32) (fd : Nat → Int64) (af : Nat → Int32) (Q : Nat → Nat → Int32), k + m = 6 → KOK Q → MSC (c0 + 241 * k) sp st fs jn rw → wX4_bestNote_L35 post K111 (nI w) po mf ctf sn sq (nI g) (nI s) (m + 1) i3 i4 (nI k) sp st fs jn rw fd af DD Q := by
  intro m
  induction m with
  | zero =>
    intro k i3 i4 sp st fs jn rw fd af Q h hQ hM
    obtain rfl : k = 6 := by omega
    exact ⟨fun _ => hK _ _ _ _ _ _ _ _ _ _ _ hQ (hM.mono (by omega)), fun q => absurd (by decide) q⟩
  | succ m ih =>
    intro k i3 i4 sp st fs jn rw fd af Q h hQ hM
    have hk : k < 6 := by omega
    refine ⟨fun q => absurd q (notLe (a := 6) hk (by decide)), fun _ => ⟨fun ne => ?_, fun _ => ?_⟩⟩
    · refine uX4_tell (lv := 0) a0 hQ hk hg (by decide) (fun e => ne (by rw [e])) (by omega) hM.1 hM.2.1 hM.2.2.1 (fun sp2 st2 fs2 jn2 D Q2 g1 g2 g3 hL => tX4_alikeNow hg hw (fun x hx => eX4_size_ ⟨fun _ => restoreQ hg hL rfl ?_, fun _ => ?_⟩))
      · rw [← nI_succ]
        exact ih (k + 1) _ _ _ _ _ _ _ _ _ _ (by omega) hL.2.1 ⟨g1.mono (by omega), g2, g3, hM.2.2.2⟩
      · obtain ⟨T, hT⟩ := trmEx a4 a5 po D
        refine vX4_knowsIt hL.1 ⟨g1, g2, g3, hM.2.2.2⟩ a4 a5 hT hw ho hg hs (by omega) (fun r z _ sp3 st3 fs3 jn3 rw3 fd3 af3 g0 => ⟨fun _ => restoreQ hg hL rfl ?_, fun _ => restoreQ hg hL rfl ?_⟩)
        · rw [← nI_succ]
          exact ih (k + 1) _ _ _ _ _ _ _ _ _ _ (by omega) hL.2.1 (g0.mono (by omega))
        · rw [← nI_succ]
          exact ih (k + 1) _ _ _ _ _ _ _ _ _ _ (by omega) hL.2.1 (g0.mono (by omega))
    · rw [← nI_succ]
      exact ih (k + 1) _ _ _ _ _ _ _ _ _ _ (by omega) hQ (hM.mono (by omega))
theorem xX4_bestNote {post : Int32 → Int32 × Int32 × (Nat → Int32) × (Nat → Int32) × (Nat → Int32) × (Nat → Int32) × (Nat → Int64) × (Nat → Int32) × (Nat → Nat → Int32) × (Nat → Nat → Int32) → Prop} {th : Int32} {po : Int64} {mf sp : Int32} {DD : Nat → Nat → Int32} {ctf stf fsf jnf rwf : Nat → Int32} {fdf : Nat → Int64} {aff : Nat → Int32} {KP : Nat → Nat → Int32} {sn c : Nat} {sq : Nat → Nat → Int32} {w : Nat} {p1 p2 : Int32} (a0 : DOK DD) (hM : MSC c sp stf fsf jnf rwf) (a4 : sn ≤ 40) (a5 : SOK sn sq) (hQ : KOK KP) (hw : w < 64) (ho : mw po w = true) (hc : c + 1446 < 2 ^ 31) (hp : ∀ r t, ∀ sp2 st2 fs2 jn2 rw2 (fd2 : Nat → Int64) (af2 : Nat → Int32) Q, KOK Q → MSC (c + 1446) sp2 st2 fs2 jn2 rw2 → post r (t, sp2, st2, fs2, jn2, rw2, fd2, af2, DD, Q)) : wX4_bestNote post th (nI w) po mf sp DD ctf stf fsf jnf rwf fdf aff KP sn sq p1 p2 := by
  refine isGua (fun q => ifN2 (hp _ _ _ _ _ _ _ _ _ _ hQ (hM.mono (by omega)))) (fun g hg e => ifY2 (isSen a4 (fun q => ifN (hp _ _ _ _ _ _ _ _ _ _ hQ (hM.mono (by omega)))) (fun s hs e2 => ifY ?_)))
  subst e e2
  exact ⟨7, xX4_bestNote_L35 (c0 := c) a0 a4 a5 hw ho hg hs (by omega) (fun i i2 j sp st fs jn rw fd af Q q1 g0 => hp _ _ _ _ _ _ _ _ _ _ q1 (g0.mono (by omega))) 6 0 _ _ _ _ _ _ _ _ _ _ rfl hQ (hM.mono (by omega))⟩
theorem xX4_digest_L17 {post : Int64 → Int32 × Int64 × Int32 × (Nat → Int32) × (Nat → Int32) × (Nat → Int32) × (Nat → Int32) × (Nat → Int64) × (Nat → Int32) × (Nat → Nat → Int32) × (Nat → Nat → Int32) → Prop} {K45 : Int64 → Int32 → Prop} {mr : Int32} {po : Int64} {mf : Int32} {DD : Nat → Nat → Int32} {ctf : Nat → Int32} {sn : Nat} {nf_1 : Nat → Int64} (a0 : IN mr 64) (a1 : DOK DD) (a2 : sn ≤ 40) (hK45 : ∀ (i1 : Int64) (i4 : Int32), K45 i1 i4) : ∀ (m k : Nat) (i1 : Int64), k + m = 13 → wX4_digest_L17 post K45 mr po mf DD ctf sn nf_1 (m + 1) i1 (nI k) := by
  intro m
  induction m with
  | zero =>
    intro k i1 hkm
    refine ⟨fun _ => ?_, fun q => absurd (by rw [show k = 13 by omega]; decide) q⟩
    exact hK45 _ _
  | succ m ih =>
    intro k i1 hkm
    have hk : IN (nI k) 13 := ⟨k, by omega, rfl⟩
    refine ⟨fun _ => ?_, fun _ => ?_⟩
    · exact hK45 _ _
    · refine sX4_nightNow a0 a1 a2 (by rw [ynEq a2]; exact a2) hk (fun r_2 => ?_)
      rw [← nI_succ]
      exact ih (k + 1) _ (by omega)
theorem xX4_digest_L69 {post : Int64 → Int32 × Int64 × Int32 × (Nat → Int32) × (Nat → Int32) × (Nat → Int32) × (Nat → Int32) × (Nat → Int64) × (Nat → Int32) × (Nat → Nat → Int32) × (Nat → Nat → Int32) → Prop} {K98 : Int64 → Int32 → Prop} {mr : Int32} {po : Int64} {DD : Nat → Nat → Int32} {sn : Nat} {nf_1 : Nat → Int64} {i4 : Int32} (a0 : IN mr 64) (a1 : DOK DD) (a2 : sn ≤ 40) (a3 : IN i4 6) (hK98 : ∀ (i1 : Int64) (i5 : Int32), K98 i1 i5) : ∀ (m k : Nat) (i1 : Int64), k + m = 5 → wX4_digest_L69 post K98 mr po DD sn nf_1 i4 (m + 1) i1 (nI k) := by
  intro m
  induction m with
  | zero =>
    intro k i1 hkm
    refine ⟨fun _ => ?_, fun q => absurd (by rw [show k = 5 by omega]; decide) q⟩
    exact hK98 _ _
  | succ m ih =>
    intro k i1 hkm
    have hk : IN (nI k) 5 := ⟨k, by omega, rfl⟩
    refine ⟨fun _ => ?_, fun _ => ?_⟩
    · exact hK98 _ _
    · refine sX4_guardNow a0 a1 (by rw [ynEq a2]; exact a2) a3 (fun r_3 => ?_)
      rw [← nI_succ]
      exact ih (k + 1) _ (by omega)
theorem xX4_digest_L59 {post : Int64 → Int32 × Int64 × Int32 × (Nat → Int32) × (Nat → Int32) × (Nat → Int32) × (Nat → Int32) × (Nat → Int64) × (Nat → Int32) × (Nat → Nat → Int32) × (Nat → Nat → Int32) → Prop} {K121 : Int64 → Int32 → Prop} {mr : Int32} {po : Int64} {DD : Nat → Nat → Int32} {sn : Nat} {nf_1 : Nat → Int64} (a0 : IN mr 64) (a1 : DOK DD) (a2 : sn ≤ 40) (hK121 : ∀ (i1 : Int64) (i4 : Int32), K121 i1 i4) : ∀ (m k : Nat) (i1 : Int64), k + m = 6 → wX4_digest_L59 post K121 mr po DD sn nf_1 (m + 1) i1 (nI k) := by
  intro m
  induction m with
  | zero =>
    intro k i1 hkm
    refine ⟨fun _ => ?_, fun q => absurd (by rw [show k = 6 by omega]; decide) q⟩
    exact hK121 _ _
  | succ m ih =>
    intro k i1 hkm
    have hk : IN (nI k) 6 := ⟨k, by omega, rfl⟩
    refine ⟨fun _ => ?_, fun _ => ?_⟩
    · exact hK121 _ _
    · refine ⟨6, xX4_digest_L69 a0 a1 a2 hk (fun i1 i5 => ?_) 5 0 _ rfl⟩
      refine sX4_alikeNow a1 hk a0 (fun r_4 => ?_)
      rw [← nI_succ]
      exact ih (k + 1) _ (by omega)
theorem xX4_digest_L145 {post : Int64 → Int32 × Int64 × Int32 × (Nat → Int32) × (Nat → Int32) × (Nat → Int32) × (Nat → Int32) × (Nat → Int64) × (Nat → Int32) × (Nat → Nat → Int32) × (Nat → Nat → Int32) → Prop} {K178 : Int64 → Int32 → Prop} {mr : Int32} {po : Int64} {DD : Nat → Nat → Int32} {sn : Nat} {sq : Nat → Nat → Int32} {nf_1 : Nat → Int64} {i4 : Int32} (a0 : IN mr 64) (a1 : DOK DD) (a2 : sn ≤ 40) (a3 : SOK sn sq) (a4 : IN i4 sn) (hK178 : ∀ (i1 : Int64) (i5 : Int32), K178 i1 i5) : ∀ (m k : Nat) (i1 : Int64), k + m = 10 → wX4_digest_L145 post K178 mr po DD sn sq nf_1 i4 (m + 1) i1 (nI k) := by
  intro m
  induction m with
  | zero =>
    intro k i1 hkm
    refine ⟨fun _ => ?_, fun q => absurd (by rw [show k = 10 by omega]; decide) q⟩
    exact hK178 _ _
  | succ m ih =>
    intro k i1 hkm
    have hk : IN (nI k) 10 := ⟨k, by omega, rfl⟩
    refine ⟨fun _ => ?_, fun _ => ?_⟩
    · exact hK178 _ _
    · refine ⟨(IN.vp (by rw [ynEq a2]; exact a4) (by rw [ynEq a2]; omega)), ?_⟩
      refine sX4_ofNow a0 a1 a2 a3 a4 (fun r_5 => ?_)
      rw [← nI_succ]
      exact ih (k + 1) _ (by omega)
theorem xX4_digest_L124 {post : Int64 → Int32 × Int64 × Int32 × (Nat → Int32) × (Nat → Int32) × (Nat → Int32) × (Nat → Int32) × (Nat → Int64) × (Nat → Int32) × (Nat → Nat → Int32) × (Nat → Nat → Int32) → Prop} {K202 : Int64 → Int32 → Prop} {mr : Int32} {po : Int64} {DD : Nat → Nat → Int32} {sn : Nat} {sq : Nat → Nat → Int32} {nf_1 : Nat → Int64} (a0 : IN mr 64) (a1 : DOK DD) (a2 : sn ≤ 40) (a3 : SOK sn sq) (hK202 : ∀ (i1 : Int64) (i4 : Int32), K202 i1 i4) : ∀ (m k : Nat) (i1 : Int64), k + m = sn → wX4_digest_L124 post K202 mr po DD sn sq nf_1 (m + 1) i1 (nI k) := by
  intro m
  induction m with
  | zero =>
    intro k i1 hkm
    refine ⟨fun _ => ?_, fun q => absurd (by rw [show k = sn by omega]; rw [ynEq a2]; exact Int32.le_refl _) q⟩
    exact hK202 _ _
  | succ m ih =>
    intro k i1 hkm
    have hk : IN (nI k) sn := ⟨k, by omega, rfl⟩
    refine ⟨fun _ => ?_, fun _ => ?_⟩
    · exact hK202 _ _
    · refine ⟨(IN.vp (by rw [ynEq a2]; exact hk) (by rw [ynEq a2]; omega)), ?_⟩
      intro x_1 ex_1
      refine ⟨11, xX4_digest_L145 a0 a1 a2 a3 hk (fun i1 i5 => ?_) 10 0 _ rfl⟩
      refine ⟨(IN.vp (by rw [ynEq a2]; exact hk) (by rw [ynEq a2]; omega)), ?_⟩
      refine sX4_depthNow a1 setg63 (fun r_6 => ?_)
      rw [← nI_succ]
      exact ih (k + 1) _ (by omega)
theorem xX4_digest {post : Int64 → Int32 × Int64 × Int32 × (Nat → Int32) × (Nat → Int32) × (Nat → Int32) × (Nat → Int32) × (Nat → Int64) × (Nat → Int32) × (Nat → Nat → Int32) × (Nat → Nat → Int32) → Prop} {th : Int32} {po : Int64} {mf sp : Int32} {DD : Nat → Nat → Int32} {ctf stf fsf jnf rwf : Nat → Int32} {fdf : Nat → Int64} {aff : Nat → Int32} {KP : Nat → Nat → Int32} {sn c : Nat} {sq : Nat → Nat → Int32} {w : Nat} (a0 : DOK DD) (hM : MSC c sp stf fsf jnf rwf) (a4 : sn ≤ 40) (a5 : SOK sn sq) (hQ : KOK KP) (hw : w < 64) (ho : mw po w = true) (hc : c + 347600 < 2 ^ 31) (hp : ∀ r t, ∀ sp2 st2 fs2 jn2 rw2 (fd2 : Nat → Int64) (af2 : Nat → Int32) Q, KOK Q → MSC (c + 347600) sp2 st2 fs2 jn2 rw2 → post r (t, po, sp2, st2, fs2, jn2, rw2, fd2, af2, DD, Q)) : wX4_digest post th (nI w) po mf sp DD ctf stf fsf jnf rwf fdf aff KP sn sq := by
  obtain ⟨T, hT⟩ := trmEx a4 a5 po DD
  have am : IN (nI w) 64 := ⟨w, hw, rfl⟩
  refine vX4_truths_ a0 hM a4 a5 hT (by omega) (fun sp2 st2 fs2 jn2 rw2 f g0 _ => ?_)
  refine ⟨14, xX4_digest_L17 am a0 a4 (fun i1 i4 => ?_) 13 0 _ rfl⟩
  refine ⟨7, xX4_digest_L59 am a0 a4 (fun i1 i4 => ?_) 6 0 _ rfl⟩
  refine ⟨sn + 1, xX4_digest_L124 am a0 a4 a5 (fun i1 i4 => ?_) sn 0 _ (Nat.zero_add _)⟩
  refine ⟨fun hc1 => ?_, fun hc1 => ?_⟩
  · refine sX4_witNow am a0 (by rw [ynEq a4]; exact a4) (⟨0, by decide, by decide⟩ : IN (0 : Int32) 6) (fun r_7 f0_r_7 => ?_)
    refine ⟨f0_r_7, ?_⟩
    intro x_2 ex_2
    refine sX4_isSoundNow am a0 a4 a5 (by rw [ynEq a4]; exact a4) (ynEq a4) (fun r_8 f0_r_8 => ?_)
    exact ⟨fun _ => hp _ _ _ _ _ _ _ _ _ _ hQ (g0.mono (by omega)), fun _ => hp _ _ _ _ _ _ _ _ _ _ hQ (g0.mono (by omega))⟩
  · obtain ⟨s, hs, es⟩ := predIN a4 hc1
    show wX4_notesNow _ _ _ _ _ _ _ _ _ _ _ _ _ _ _ _ _ (nI 0) _
    rw [es]
    refine xX4_notesNow a0 g0 a4 a5 hQ hw ho (by decide) hs (by omega) (fun r sp2 st2 fs2 jn2 rw2 fd2 af2 Q q1 g1 => ?_)
    show wX4_roundsNow _ _ _ _ _ _ _ _ _ _ _ _ _ _ _ _ _ (nI 63) _
    refine xX4_roundsNow a0 g1 a4 a5 hw ho hs (by decide) (by omega) (fun r sp2 st2 fs2 jn2 rw2 fd2 af2 g2 => ?_)
    intro x_3 ex_3
    refine sX4_witNow am a0 (by rw [ynEq a4]; exact a4) (⟨0, by decide, by decide⟩ : IN (0 : Int32) 6) (fun r_11 f0_r_11 => ?_)
    refine ⟨f0_r_11, ?_⟩
    intro x_4 ex_4
    refine sX4_isSoundNow am a0 a4 a5 (by rw [ynEq a4]; exact a4) (ynEq a4) (fun r_12 f0_r_12 => ?_)
    exact ⟨fun _ => hp _ _ _ _ _ _ _ _ _ _ q1 (g2.mono (by omega)), fun _ => hp _ _ _ _ _ _ _ _ _ _ q1 (g2.mono (by omega))⟩
