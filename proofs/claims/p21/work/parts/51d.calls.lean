theorem vX4_depth {post : Int32 → Int32 × Int32 × (Nat → Int32) × (Nat → Int32) × (Nat → Int32) × (Nat → Int32) × (Nat → Int64) × (Nat → Int32) → Prop} {th : Int32} {po : Int64} {mf sp : Int32} {DD : Nat → Nat → Int32} {ctf stf fsf jnf rwf : Nat → Int32} {fdf : Nat → Int64} {aff : Nat → Int32} {KP : Nat → Nat → Int32} {sn c w : Nat} {sq : Nat → Nat → Int32} {T : Nat → Int64} {p1 p2 : Int32} (a0 : DOK DD) (hM : MSC c sp stf fsf jnf rwf) (a4 : sn ≤ 40) (a5 : SOK sn sq) (hT : TRM po DD sq sn T) (hc : c + 240 < 2 ^ 31) (hw : w < 64) (h1 : ∀ q, q < sn → p2 = nI q → ∀ a, 1 ≤ a → a < 64 → p1 = nI a → ∀ sp2 st2 fs2 jn2 rw2 (fd2 : Nat → Int64) (af2 : Nat → Int32), MSC (c + 240) sp2 st2 fs2 jn2 rw2 → post (dptA po (ED DD) a w (T q)) (0, sp2, st2, fs2, jn2, rw2, fd2, af2)) (h2 : ¬ IN p2 sn → post 0 (1, sp, stf, fsf, jnf, rwf, fdf, aff)) (h3 : IN p2 sn → ¬ SETG p1 → post 0 (2, sp, stf, fsf, jnf, rwf, fdf, aff)) : wX4_depth post th (nI w) po mf sp DD ctf stf fsf jnf rwf fdf aff KP sn sq p1 p2 := by
  refine isSen a4 (fun q => ifN (h2 q)) (fun s hs e => ifY (isSet (fun q => ifN (h3 ⟨s, hs, e⟩ q)) (fun a ha0 ha e2 => ifY ?_)))
  subst e e2
  exact vX4_truthNow a0 hM a4 a5 hT hc hs (fun sp2 st2 fs2 jn2 rw2 fd2 af2 g0 => uX4_depthNow a0 ha0 ha hw (h1 s hs rfl a ha0 ha rfl _ _ _ _ _ _ _ g0))
theorem vX4_night {post : Int32 → Int32 × Int32 × (Nat → Int32) × (Nat → Int32) × (Nat → Int32) × (Nat → Int32) → Prop} {th : Int32} {po : Int64} {mf sp : Int32} {DD : Nat → Nat → Int32} {ctf stf fsf jnf rwf : Nat → Int32} {sn c w : Nat} {sq : Nat → Nat → Int32} {T : Nat → Int64} {p1 : Int32} (a0 : DOK DD) (hM : MSC c sp stf fsf jnf rwf) (a4 : sn ≤ 40) (a5 : SOK sn sq) (hT : TRM po DD sq sn T) (hc : c + 240 < 2 ^ 31) (hw : w < 64) (ho : mw po w = true) (h1 : ∀ i, i < 13 → p1 = nI i → ∀ sp2 st2 fs2 jn2 rw2, MSC (c + 240) sp2 st2 fs2 jn2 rw2 → post (nightV ctf mf po (ED DD) T sn w i) (0, sp2, st2, fs2, jn2, rw2)) (h2 : ¬ IN p1 13 → post 0 (1, sp, stf, fsf, jnf, rwf)) : wX4_night post th (nI w) po mf sp DD ctf stf fsf jnf rwf sn sq p1 := by
  refine isRng 12 (by decide) (fun q => ifN (h2 q)) (fun i hi e => ifY ?_)
  subst e
  refine vX4_truths_ a0 hM a4 a5 hT hc (fun sp2 st2 fs2 jn2 rw2 f g0 hf => ?_)
  show wX4_nightNow _ _ _ _ _ _ _ (((nI sn - (1 : Int32)) + (1 : Int32)).toNatClampNeg) f (nI i)
  rw [ynEq a4]
  refine uX4_nightNow a0 a4 hw ho (fun s hs => by rw [hf s hs]; exact TRMs hT hs) hi ?_
  rw [nightT hf i]
  exact h1 i hi rfl _ _ _ _ _ g0
theorem knT {op : Int64} {E : Nat → Nat → Nat → Bool} {T T2 : Nat → Int64} {n g w : Nat} (h : ∀ s, s < n → T s = T2 s) : cntP (KNT op E T g w) n = cntP (KNT op E T2 g w) n := cnt_ext n (fun s hs => by unfold KNT; rw [h s hs])
theorem vX4_wit {post : UInt64 → Int32 × Int32 × (Nat → Int32) × (Nat → Int32) × (Nat → Int32) × (Nat → Int32) → Prop} {th : Int32} {po : Int64} {sp : Int32} {DD : Nat → Nat → Int32} {stf fsf jnf rwf : Nat → Int32} {sn c w : Nat} {sq : Nat → Nat → Int32} {T : Nat → Int64} {p1 : Int32} (a0 : DOK DD) (hM : MSC c sp stf fsf jnf rwf) (a4 : sn ≤ 40) (a5 : SOK sn sq) (hT : TRM po DD sq sn T) (hc : c + 240 < 2 ^ 31) (hw : w < 64) (ho : mw po w = true) (h1 : ∀ g, g < 6 → p1 = nI g → ∀ sp2 st2 fs2 jn2 rw2, MSC (c + 240) sp2 st2 fs2 jn2 rw2 → post (witV (cntP (KNT po (ED DD) T g w) sn) sn) (0, sp2, st2, fs2, jn2, rw2)) (h2 : ¬ IN p1 6 → post FP.dconst0 (1, sp, stf, fsf, jnf, rwf)) : wX4_wit post th (nI w) po sp DD stf fsf jnf rwf sn sq p1 := by
  refine isGua (fun q => ifN (h2 q)) (fun g hg e => ifY ?_)
  subst e
  refine vX4_truths_ a0 hM a4 a5 hT hc (fun sp2 st2 fs2 jn2 rw2 f g0 hf => ?_)
  show wX4_witNow _ _ _ _ (((nI sn - (1 : Int32)) + (1 : Int32)).toNatClampNeg) f (nI g)
  rw [ynEq a4]
  refine uX4_witNow a4 hg hw ho ?_
  rw [knT hf]
  exact h1 g hg rfl _ _ _ _ _ g0
