/-! of a sentence, exactly -/
noncomputable def ofV (op : Int64) (E : Nat → Nat → Nat → Bool) (T : Nat → Int64) (sq : Nat → Nat → Int32) (w s i : Nat) : Int32 := if i = 0 then sq s 0 else if i = 1 then sq s 1 else if i = 2 then sq s 2 else if i = 3 then nI (pc (T s)) else if i = 4 then (if mw (T s) w = true then 1 else 0) else if i = 5 then nI (pcf 6 (mko (fun g => KNW op E g (T s) w))) else if i = 6 then nI (mko (fun g => KNW op E g (T s) w)) else if i = 7 then @ite Int32 (COM op E 63 (T s) w) (Classical.propDecidable _) 1 0 else if i = 8 then fwV (fw (KTG op E (T s) w) 63 1 none) else sq s 3
theorem txL_of {post : Int32 → Int64 → Prop} {dk wg : Nat → Int64} {op : Int64} {E : Nat → Nat → Nat → Bool} {kf ff sf df : Nat → Int32} {n w : Nat} {sq : Nat → Nat → Int32} {on : Int64} {p1 p2 : Int32} (hC : CD dk E) (hq : EQV E) (hn : n ≤ 40) (hK : SAMEB kf ff sf n sq) (hdp : ∀ k, k < n → df k = sq k 3) (hw : w < 64) (ho : mw op w = true) (h1 : ∀ s, s < n → p1 = nI s → ∀ i, i < 10 → p2 = nI i → post 0 (ofV op E wg sq w s i).toInt64) (h2 : ¬ IN p1 n → post 1 on) (h3 : IN p1 n → ¬ IN p2 10 → post 2 on) : wxL_of post dk wg op (nI w) kf ff sf df (nI n) on p1 p2 := by
  unfold wxL_of wxX2_of
  refine tX0_holdsN hn (fun q => ifN (Or.inl ⟨rfl, h2 q⟩)) (fun s hs e => ifY ?_)
  subst e
  obtain ⟨k1, k2, k3⟩ := hK s hs
  by_cases hi : IN p2 10
  · obtain ⟨i, hi, rfl⟩ := hi
    have h := h1 s hs rfl i hi rfl
    unfold ofV at h
    rcases (show i = 0 ∨ i = 1 ∨ i = 2 ∨ i = 3 ∨ i = 4 ∨ i = 5 ∨ i = 6 ∨ i = 7 ∨ i = 8 ∨ i = 9 by omega) with rfl | rfl | rfl | rfl | rfl | rfl | rfl | rfl | rfl | rfl
    · refine iT rfl (tX0_kindOf hs hn ?_)
      rw [k1]
      exact h
    · refine iF (by decide) (iT rfl (tX0_firstOf hs hn ?_))
      rw [k2]
      exact h
    · refine iF (by decide) (iF (by decide) (iT rfl (tX0_secondOf hs hn ?_)))
      rw [k3]
      exact h
    · exact iF (by decide) (iF (by decide) (iF (by decide) (iT rfl (tX1_worldsOf hs hn (eJ13_bitCount h)))))
    · refine iF (by decide) (iF (by decide) (iF (by decide) (iF (by decide) (iT rfl (tX1_isTrueInReal hn hs hw (fun q => ifN2 ?_) (fun q => ifY2 ?_))))))
      · have h4 : post 0 (if mw (wg s) w = true then (1 : Int32) else 0).toInt64 := h
        rw [if_neg q] at h4
        exact h4
      · have h4 : post 0 (if mw (wg s) w = true then (1 : Int32) else 0).toInt64 := h
        rw [if_pos q] at h4
        exact h4
    · refine iF (by decide) (iF (by decide) (iF (by decide) (iF (by decide) (iF (by decide) (iT rfl (tX1_knowersOf hC hw hs hn (fun t ht => eJ6_bitCount ht.1 ?_)))))))
      rw [mkoE ht]
      exact h
    · refine iF (by decide) (iF (by decide) (iF (by decide) (iF (by decide) (iF (by decide) (iF (by decide) (iT rfl (tX1_knowersOf hC hw hs hn (fun t ht => ?_))))))))
      rw [mkoE ht]
      exact h
    · refine iF (by decide) (iF (by decide) (iF (by decide) (iF (by decide) (iF (by decide) (iF (by decide) (iF (by decide) (iT rfl ?_)))))))
      have h4 : post 0 (@ite Int32 (COM op E 63 (wg s) w) (Classical.propDecidable _) 1 0).toInt64 := h
      refine tX1_reachedFromReal (s := 63) hC hq (by decide) hw ho (fun r hr => tX1_worldsOf hs hn (tX2_isWithin (fun q => ifN2 ?_) (fun q => ifY2 ?_)))
      · rw [if_neg (fun t => q ((hr _).mpr t))] at h4
        exact h4
      · rw [if_pos ((hr _).mp q)] at h4
        exact h4
    · exact iF (by decide) (iF (by decide) (iF (by decide) (iF (by decide) (iF (by decide) (iF (by decide) (iF (by decide) (iF (by decide) (iT rfl (tX1_fewestFor hC hw hs hn h)))))))))
    · refine iF (by decide) (iF (by decide) (iF (by decide) (iF (by decide) (iF (by decide) (iF (by decide) (iF (by decide) (iF (by decide) (iF (by decide) (iT rfl (tX0_builtDeep hs hn ?_))))))))))
      rw [hdp s hs]
      exact h
  · have no : ∀ k, k < 10 → ¬ p2 = nI k := fun k hk q => hi ⟨k, hk, q⟩
    exact iF (no 0 (by decide)) (iF (no 1 (by decide)) (iF (no 2 (by decide)) (iF (no 3 (by decide)) (iF (no 4 (by decide)) (iF (no 5 (by decide)) (iF (no 6 (by decide)) (iF (no 7 (by decide)) (iF (no 8 (by decide)) (iF (no 9 (by decide)) (Or.inr ⟨rfl, h3 ⟨s, hs, rfl⟩ hi⟩))))))))))
theorem whoE {op : Int64} {E : Nat → Nat → Nat → Bool} {p : Int64} {w t : Nat} (ho : mw op w = true) (h : MSK (fun g => (63 : Nat).testBit g = true ∧ mw op w = true ∧ KNW op E g p w) 6 t) : t = mko (fun g => KNW op E g p w) := MSK.eq h (Classical.choose_spec (mskEx (fun g => KNW op E g p w) 6 (Nat.le_refl _))) (fun g hg => ⟨fun q => q.2.2, fun q => ⟨(by decide : ∀ g, g < 6 → (63 : Nat).testBit g = true) g hg, ho, q⟩⟩)
theorem ofi : ∀ i, i < 4 → (nI i).toNatClampNeg = i := fun i hi => nI_clamp (by omega)
theorem uX4_ofNow {post : Int32 → Prop} {po : Int64} {DD : Nat → Nat → Int32} {n w s i : Nat} {sq : Nat → Nat → Int32} {T : Nat → Int64} (hD : DOK DD) (hn : n ≤ 40) (hT : TRM po DD sq n T) (hs : s < n) (hw : w < 64) (ho : mw po w = true) (hi : i < 10) (h : post (ofV po (ED DD) T sq w s i)) : wX4_ofNow post (nI w) po DD n sq (nI s) (nI i) (T s) := by
  have vs : vp_in (nI s) n := nI_in hs (by omega)
  have es : (nI s).toNatClampNeg = s := nI_clamp (by omega)
  unfold ofV at h
  refine ⟨vs, ?_⟩
  rw [es]
  rcases (show i = 0 ∨ i = 1 ∨ i = 2 ∨ i = 3 ∨ i = 4 ∨ i = 5 ∨ i = 6 ∨ i = 7 ∨ i = 8 ∨ i = 9 by omega) with rfl | rfl | rfl | rfl | rfl | rfl | rfl | rfl | rfl | rfl
  · refine iT rfl ⟨nI_in (by decide) (by decide), ?_⟩
    rw [ofi 0 (by decide)]
    exact h
  · refine iF (by decide) (iT rfl ⟨nI_in (by decide) (by decide), ?_⟩)
    rw [ofi 1 (by decide)]
    exact h
  · refine iF (by decide) (iF (by decide) (iT rfl ⟨nI_in (by decide) (by decide), ?_⟩))
    rw [ofi 2 (by decide)]
    exact h
  · exact iF (by decide) (iF (by decide) (iF (by decide) (iT rfl (eX4_size_ h))))
  · have h4 : post (if mw (T s) w = true then (1 : Int32) else 0) := h
    refine iF (by decide) (iF (by decide) (iF (by decide) (iF (by decide) (iT rfl (tX4_has_ hw (fun q => ifN2 ?_) (fun q => ifY2 ?_))))))
    · rw [if_neg (fun t => by rw [q] at t; exact absurd t (by decide))] at h4
      exact h4
    · rw [if_pos q] at h4
      exact h4
  · refine iF (by decide) (iF (by decide) (iF (by decide) (iF (by decide) (iF (by decide) (iT rfl ?_)))))
    show wX4_who _ po DD (nI 63) (T s) (nI w)
    refine uX4_who hD (by decide) hw (fun t ht => eX4_size ht.1 ?_)
    rw [whoE ho ht]
    exact h
  · refine iF (by decide) (iF (by decide) (iF (by decide) (iF (by decide) (iF (by decide) (iF (by decide) (iT rfl ?_))))))
    show wX4_who _ po DD (nI 63) (T s) (nI w)
    refine uX4_who hD (by decide) hw (fun t ht => ?_)
    rw [whoE ho ht]
    exact h
  · have h4 : post (@ite Int32 (COM po (ED DD) 63 (T s) w) (Classical.propDecidable _) 1 0) := h
    refine iF (by decide) (iF (by decide) (iF (by decide) (iF (by decide) (iF (by decide) (iF (by decide) (iF (by decide) (iT rfl ?_)))))))
    show wX4_common _ po DD (nI 63) (T s)
    refine uX4_common hD (by decide) (TRMs hT hs) (fun r hr => tX4_has_ hw (fun q => ifN2 ?_) (fun q => ifY2 ?_))
    · rw [if_neg (fun t => by rw [(hr w hw).mpr ⟨ho, t⟩] at q; exact absurd q (by decide))] at h4
      exact h4
    · rw [if_pos ((hr w hw).mp q).2] at h4
      exact h4
  · exact iF (by decide) (iF (by decide) (iF (by decide) (iF (by decide) (iF (by decide) (iF (by decide) (iF (by decide) (iF (by decide) (iT rfl (uX4_few hw h)))))))))
  · refine iF (by decide) (iF (by decide) (iF (by decide) (iF (by decide) (iF (by decide) (iF (by decide) (iF (by decide) (iF (by decide) (iF (by decide) ⟨vs, ?_⟩))))))))
    rw [es]
    exact h
theorem vX4_of {post : Int32 → Int32 × Int32 × (Nat → Int32) × (Nat → Int32) × (Nat → Int32) × (Nat → Int32) × (Nat → Int64) × (Nat → Int32) → Prop} {th : Int32} {po : Int64} {mf sp : Int32} {DD : Nat → Nat → Int32} {ctf stf fsf jnf rwf : Nat → Int32} {fdf : Nat → Int64} {aff : Nat → Int32} {KP : Nat → Nat → Int32} {sn c w : Nat} {sq : Nat → Nat → Int32} {T : Nat → Int64} {p1 p2 : Int32} (a0 : DOK DD) (hM : MSC c sp stf fsf jnf rwf) (a4 : sn ≤ 40) (a5 : SOK sn sq) (hT : TRM po DD sq sn T) (hc : c + 240 < 2 ^ 31) (hw : w < 64) (ho : mw po w = true) (h1 : ∀ s, s < sn → p1 = nI s → ∀ i, i < 10 → p2 = nI i → ∀ sp2 st2 fs2 jn2 rw2 (fd2 : Nat → Int64) (af2 : Nat → Int32), MSC (c + 240) sp2 st2 fs2 jn2 rw2 → post (ofV po (ED DD) T sq w s i) (0, sp2, st2, fs2, jn2, rw2, fd2, af2)) (h2 : ¬ IN p1 sn → post 0 (1, sp, stf, fsf, jnf, rwf, fdf, aff)) (h3 : IN p1 sn → ¬ IN p2 10 → post 0 (2, sp, stf, fsf, jnf, rwf, fdf, aff)) : wX4_of post th (nI w) po mf sp DD ctf stf fsf jnf rwf fdf aff KP sn sq p1 p2 := by
  refine isSen a4 (fun q => ifN (h2 q)) (fun s hs e => ifY (isRng 9 (by decide) (fun q => ifN (h3 ⟨s, hs, e⟩ q)) (fun i hi e2 => ifY ?_)))
  subst e e2
  exact vX4_truthNow a0 hM a4 a5 hT hc hs (fun sp2 st2 fs2 jn2 rw2 fd2 af2 g0 => uX4_ofNow a0 a4 hT hs hw ho hi (h1 s hs rfl i hi rfl _ _ _ _ _ _ _ g0))
