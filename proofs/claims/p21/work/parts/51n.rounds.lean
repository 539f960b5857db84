/-! how many rounds -/
set_option maxRecDepth 16384 in
theorem SEMp {op : Int64} {E : Nat → Nat → Nat → Bool} {kd a b : Int32} {T T2 : Nat → Int64} {r : Int64} {n : Nat} (hw : wfS n kd a b) (hn : n ≤ 40) (h1 : (kd = 1 ∨ kd = 2 ∨ kd = 3) → T a.toNatClampNeg = T2 a.toNatClampNeg) (h2 : ¬ kd = 0 → ¬ kd = 1 → T b.toNatClampNeg = T2 b.toNatClampNeg) (hs : SEM op E kd a b T r) : SEM op E kd a b T2 r := by
  intro w hw2
  refine (hs w hw2).trans (and_congr_right fun _ => ?_)
  obtain ⟨k, hk, rfl⟩ := hw.1
  rcases (show k = 0 ∨ k = 1 ∨ k = 2 ∨ k = 3 ∨ k = 4 ∨ k = 5 ∨ k = 6 ∨ k = 7 from by omega) with rfl | rfl | rfl | rfl | rfl | rfl | rfl | rfl
  · exact sb0.trans sb0.symm
  · refine sb1.trans (Iff.trans ?_ sb1.symm)
    rw [h1 (Or.inl rfl)]
  · refine sb2.trans (Iff.trans ?_ sb2.symm)
    rw [h1 (Or.inr (Or.inl rfl)), h2 (by decide) (by decide)]
  · refine sb3.trans (Iff.trans ?_ sb3.symm)
    rw [h1 (Or.inr (Or.inr rfl)), h2 (by decide) (by decide)]
  · refine sb4.trans (Iff.trans ?_ sb4.symm)
    rw [h2 (by decide) (by decide)]
  · refine sb5.trans (Iff.trans ?_ sb5.symm)
    rw [h2 (by decide) (by decide)]
  · refine sb6.trans (Iff.trans ?_ sb6.symm)
    rw [h2 (by decide) (by decide)]
  · refine sb7.trans (Iff.trans ?_ sb7.symm)
    rw [h2 (by decide) (by decide)]
noncomputable def TRD (op : Int64) (D : Nat → Nat → Int32) (sq : Nat → Nat → Int32) (n : Nat) : Nat → Int64 := @dite _ (∃ T, TRM op D sq n T) (Classical.propDecidable _) (fun h => Classical.choose h) (fun _ => fun _ => 0)
set_option maxRecDepth 16384 in
theorem TRDs {op : Int64} {D : Nat → Nat → Int32} {sq : Nat → Nat → Int32} {n : Nat} (hn : n ≤ 40) (hs : SOK n sq) : TRM op D sq n (TRD op D sq n) := by
  have h := trmEx hn hs op D
  unfold TRD
  rw [dif_pos h]
  exact Classical.choose_spec h
set_option maxRecDepth 16384 in
/-- what is right on a set that is closed under parts is the truth there -/
theorem TRPu {op : Int64} {D : Nat → Nat → Int32} {kf ff sf : Nat → Int32} {sq : Nat → Nat → Int32} {n : Nat} {T : Nat → Int64} {P : Int64} (hB : BOK kf ff sf n) (hS : SOK n sq) (hK : SAMEB kf ff sf n sq) (hcl : ∀ j, j < 64 → mw P j = true → j < n ∧ ∀ i, PRTC kf ff sf j i → mw P i = true) (h : ∀ j, j < 40 → mw P j = true → SEM op (ED D) (kf j) (ff j) (sf j) T (T j)) : ∀ j, j < 64 → mw P j = true → T j = TRD op D sq n j := by
  have hn := hB.1
  have main : ∀ k j, j < k → j < 64 → mw P j = true → T j = TRD op D sq n j := by
    intro k
    induction k with
    | zero => exact fun j hj => absurd hj (Nat.not_lt_zero j)
    | succ k ih =>
      intro j hjk hj hm
      obtain ⟨l, cl⟩ := hcl j hj hm
      have h3 := TRDs (op := op) (D := D) hn hS j l
      obtain ⟨k1, k2, k3⟩ := hK j l
      rw [← k1, ← k2, ← k3] at h3
      have go : ∀ i, PRTC kf ff sf j i → T i = TRD op D sq n i := fun i hi => by
        have := PRTC.lt hB l hi
        exact ih i (by omega) (by omega) (cl i hi)
      have h4 := SEMp (T2 := TRD op D sq n) (hB.2 j l) (by omega) (fun q => go _ (Or.inl ⟨q, rfl⟩)) (fun q r => go _ (Or.inr ⟨⟨q, r⟩, rfl⟩)) (h j (by omega) hm)
      exact mwX (fun w hw => (h4 w hw).trans (h3 w hw).symm)
  exact fun j hj hm => main (j + 1) j (by omega) hj hm
noncomputable def ASKo (op : Int64) (E : Nat → Nat → Nat → Bool) (s : Nat) (p : Int64) (w : Nat) : Int64 := Classical.choose (setOfP (fun v => mw op v = true ∧ ∀ g, g < 6 → s.testBit g = true → (KNW op E g p v ↔ KNW op E g p w)) 64 (Nat.le_refl _))
set_option maxRecDepth 16384 in
theorem ASKo.s {op : Int64} {E : Nat → Nat → Nat → Bool} {s : Nat} {p : Int64} {w : Nat} : ASK op E s p w 6 (ASKo op E s p w) := fun v hv => (Classical.choose_spec (setOfP (fun v => mw op v = true ∧ ∀ g, g < 6 → s.testBit g = true → (KNW op E g p v ↔ KNW op E g p w)) 64 (Nat.le_refl _)) v hv).trans ⟨fun q => q.2, fun q => ⟨hv, q⟩⟩
noncomputable def rnd (D : Nat → Nat → Int32) (sq : Nat → Nat → Int32) (n s a w : Nat) : Nat → Int64 → Nat → Int32
  | 0, _, _ => -1
  | m + 1, op, k => if mko (fun g => KNW op (ED D) g (TRD op D sq n s) w) &&& a = 0 then (if ASKo op (ED D) a (TRD op D sq n s) w = op then -1 else rnd D sq n s a w m (ASKo op (ED D) a (TRD op D sq n s) w) (k + 1)) else nI k
set_option maxRecDepth 16384 in
theorem txX2_rounds_L51 {post : Int32 → (Nat → Int64) × (Nat → Int64) × Int64 × Int32 → Prop} {postx : String → Prop} {K133 : Int32 → (Nat → Int64) → Int64 → Prop} {dk : Nat → Int64} {DD : Nat → Nat → Int32} {kf ff sf : Nat → Int32} {pf gf : Nat → Int64} {n s a w : Nat} {sq : Nat → Nat → Int32} (hC : CD dk (ED DD)) (hB : BOK kf ff sf n) (hS : SOK n sq) (hK : SAMEB kf ff sf n sq) (hh : HNG kf ff sf pf gf n) (hs : s < n) (ha : a < 64) (hw : w < 64) : ∀ (m k : Nat) (uw : Nat → Int64) (op : Int64), k + m = 64 → pc op ≤ m → mw op w = true → (∀ j, j < 40 → mw (pf s) j = true → SEM op (ED DD) (kf j) (ff j) (sf j) uw (uw j)) → (∀ u, post (rnd DD sq n s a w m op k) u) → wxX2_rounds_L51 post postx K133 kf ff sf pf (nI n) (nI a) (nI s) dk (nI w) (m + 1) (nI k) uw op := by
  have hn := hB.1
  have hq := EDq DD
  have hcl : ∀ j, j < 64 → mw (pf s) j = true → j < n ∧ ∀ i, PRTC kf ff sf j i → mw (pf s) i = true := fun j hj q => by
    obtain ⟨l, r⟩ := (hh.1 s hs).2 j hj q
    exact ⟨by omega, r⟩
  intro m
  induction m with
  | zero =>
    intro k uw op h hp ho
    have := pcPos hw ho
    omega
  | succ m ih =>
    intro k uw op h hp ho hT hpost
    have eT := TRPu hB hS hK hcl hT s (by omega) (hh.1 s hs).1
    refine ⟨fun c => absurd c (notLe (a := 64) (by omega) (by decide)), fun _ => tX1_knowersOf hC hw hs hn (fun t ht => ?_)⟩
    rw [andB t ht.1 a ha]
    rw [eT] at ht
    rw [mkoE ht]
    rw [rnd] at hpost
    refine ⟨fun q => tX1_answeringAlike hC hq ha hw ho hs hn (fun r hr => ?_), fun q => ?_⟩
    · rw [eT] at hr
      obtain rfl := ASK.eq hr ASKo.s
      have e : (op &&& ASKo op (ED DD) a (TRD op DD sq n s) w) = ASKo op (ED DD) a (TRD op DD sq n s) w := mwX (fun v hv => mwA.trans ⟨fun q => q.2, fun q => ⟨((hr v hv).mp q).1, q⟩⟩)
      show ((¬ (lg_cmp (op &&& ASKo op (ED DD) a (TRD op DD sq n s) w) op) = 0) → _) ∧ _
      rw [e]
      rw [if_pos q] at hpost
      refine ⟨fun ne => tX0_partsOf hs hn (tX1_weigh hC hq hB (fun j hj q => (hcl j (by omega) q).1) (fun wg2 _ b => ?_)), fun c => ?_⟩
      · have ne2 : ¬ ASKo op (ED DD) a (TRD op DD sq n s) w = op := fun c => ne ((lg_cmp_eq _ _).mpr c)
        rw [if_neg ne2] at hpost
        have := pcSub (fun v hv q => ((hr v hv).mp q).1) ne2
        rw [← nI_succ]
        exact ih (k + 1) wg2 _ (by omega) (by omega) (ASK.self hw ho hr) b hpost
      · rw [if_pos ((lg_cmp_eq _ _).mp c)] at hpost
        exact hpost _
    · rw [if_neg q] at hpost
      exact hpost _
set_option maxRecDepth 16384 in
theorem txL_rounds {post : Int32 → (Nat → Int64) × (Nat → Int64) × Int64 × Int32 × Int64 → Prop} {dk wg uk uw : Nat → Int64} {op uo : Int64} {ur : Int32} {DD : Nat → Nat → Int32} {kf ff sf : Nat → Int32} {pf gf : Nat → Int64} {n w : Nat} {sq : Nat → Nat → Int32} {on : Int64} {p1 p2 : Int32} (hC : CD dk (ED DD)) (hB : BOK kf ff sf n) (hS : SOK n sq) (hK : SAMEB kf ff sf n sq) (hh : HNG kf ff sf pf gf n) (hT : TRU op (ED DD) kf ff sf n wg) (hw : w < 64) (ho : mw op w = true) (h1 : ∀ s, s < n → p2 = nI s → ∀ a, 1 ≤ a → a < 64 → p1 = nI a → ∀ x y z r, post 0 (x, y, z, r, (rnd DD sq n s a w 64 op 0).toInt64)) (h2 : ¬ IN p2 n → post 1 (uk, uw, uo, ur, on)) (h3 : IN p2 n → ¬ SETG p1 → post 2 (uk, uw, uo, ur, on)) : wxL_rounds post dk wg op (nI w) uk uw uo ur kf ff sf pf (nI n) on p1 p2 := by
  have hn := hB.1
  unfold wxL_rounds wxX2_rounds
  refine tX0_holdsN hn (fun q => ifN (Or.inl ⟨rfl, h2 q⟩)) (fun s hs e2 => ifY (tX2_isSetN (fun q => ifN (Or.inr ⟨rfl, h3 ⟨s, hs, e2⟩ q⟩)) (fun a ha0 ha e1 => ifY ?_)))
  subst e1 e2
  have hC2 : CD (va_cpy dk uk 0 0 384) (ED DD) := fun g hg b hb v hv => by
    rw [cpyAt _ _ _ (by omega)]
    exact hC g hg b hb v hv
  refine ⟨65, txX2_rounds_L51 (dk := va_cpy dk uk 0 0 384) hC2 hB hS hK hh hs ha hw 64 0 (va_cpy wg uw 0 0 40) op rfl (pc_le op) ho (fun j hj hm => ?_) (fun u => h1 s hs rfl a ha0 ha rfl _ _ _ _)⟩
  have l := ((hh.1 s hs).2 j (by omega) hm).1
  rw [cpyAt _ _ _ hj]
  exact SEMc (hB.2 j (by omega)) (by omega) (fun i hi => (cpyAt _ _ _ (by omega)).symm) (hT j (by omega))
set_option maxRecDepth 16384 in
theorem vX4_roundsNow_L8 {post : Int32 → Int32 × (Nat → Int32) × (Nat → Int32) × (Nat → Int32) × (Nat → Int32) × (Nat → Int64) × (Nat → Int32) × Int64 → Prop} {K69 : Int32 → Int32 → (Nat → Int32) → (Nat → Int32) → (Nat → Int32) → (Nat → Int32) → (Nat → Int64) → (Nat → Int32) → Int64 → Prop} {th mf : Int32} {DD : Nat → Nat → Int32} {ctf : Nat → Int32} {KP : Nat → Nat → Int32} {sn C : Nat} {sq : Nat → Nat → Int32} {w s a : Nat} (a0 : DOK DD) (a4 : sn ≤ 40) (a5 : SOK sn sq) (hw : w < 64) (hs : s < sn) (ha : a < 64) (hC : C < 2 ^ 31) : ∀ (n c k : Nat) (sp : Int32) (stf fsf jnf rwf : Nat → Int32) (fdf : Nat → Int64) (aff : Nat → Int32) (po : Int64), pc po ≤ n → c + 240 * (n + 1) ≤ C → mw po w = true → MSC c sp stf fsf jnf rwf → (∀ sp stf fsf jnf rwf fdf aff p, MSC C sp stf fsf jnf rwf → K69 (rnd DD sq sn s a w n po k) sp stf fsf jnf rwf fdf aff p) → wX4_roundsNow_L8 post K69 th (nI w) mf DD ctf KP sn sq (nI a) (nI s) (n + 1) (nI k) sp stf fsf jnf rwf fdf aff po := by
  intro n
  induction n with
  | zero =>
    intro c k sp stf fsf jnf rwf fdf aff po h hc ho hM
    have := pcPos hw ho
    omega
  | succ n ih =>
    intro c k sp stf fsf jnf rwf fdf aff po h hc ho hM hK
    have hT := TRDs (op := po) (D := DD) a4 a5
    rw [rnd] at hK
    refine vX4_truthNow a0 hM a4 a5 hT (by omega) hs (fun sp2 st2 fs2 jn2 rw2 fd2 af2 g0 => uX4_who a0 ha hw (fun t ht => ?_))
    have et : t = mko (fun g => KNW po (ED DD) g (TRD po DD sq sn s) w) &&& a := MSK.eq ht ((Classical.choose_spec (mskEx (fun g => KNW po (ED DD) g (TRD po DD sq sn s) w) 6 (Nat.le_refl _))).and ha) (fun g _ => ⟨fun q => ⟨q.1, q.2.2⟩, fun q => ⟨q.1, ho, q.2⟩⟩)
    have z : nI t = 0 ↔ mko (fun g => KNW po (ED DD) g (TRD po DD sq sn s) w) &&& a = 0 := by
      rw [← et]
      exact ⟨fun q => nIinj (by have := ht.1; omega) (by decide) q, fun q => by rw [q]; rfl⟩
    refine ⟨fun q => uX4_asked a0 ha hw ho (fun r hr => ?_), fun q => ?_⟩
    · obtain rfl := ASK.eq hr ASKo.s
      rw [if_pos (z.mp q)] at hK
      refine ⟨fun ne => ?_, fun c2 => ?_⟩
      · have ne2 : ¬ ASKo po (ED DD) a (TRD po DD sq sn s) w = po := fun c => ne ((lg_cmp_eq _ _).mpr c)
        rw [if_neg ne2] at hK
        have hl := pcSub (fun v hv q => ((hr v hv).mp q).1) ne2
        rw [← nI_succ]
        exact ih (c + 240) (k + 1) _ _ _ _ _ _ _ _ (by omega) (by omega) (ASK.self hw ho hr) g0 hK
      · rw [if_pos ((lg_cmp_eq _ _).mp c2)] at hK
        exact hK _ _ _ _ _ _ _ _ (g0.mono (by omega))
    · rw [if_neg (fun t => q (z.mpr t))] at hK
      exact hK _ _ _ _ _ _ _ _ (g0.mono (by omega))
set_option maxRecDepth 16384 in
theorem vX4_roundsNow {post : Int32 → Int32 × (Nat → Int32) × (Nat → Int32) × (Nat → Int32) × (Nat → Int32) × (Nat → Int64) × (Nat → Int32) × Int64 → Prop} {th : Int32} {po : Int64} {mf sp : Int32} {DD : Nat → Nat → Int32} {ctf stf fsf jnf rwf : Nat → Int32} {fdf : Nat → Int64} {aff : Nat → Int32} {KP : Nat → Nat → Int32} {sn c : Nat} {sq : Nat → Nat → Int32} {w s a : Nat} (a0 : DOK DD) (hM : MSC c sp stf fsf jnf rwf) (a4 : sn ≤ 40) (a5 : SOK sn sq) (hw : w < 64) (ho : mw po w = true) (hs : s < sn) (ha : a < 64) (hc : c + 15600 < 2 ^ 31) (hp : ∀ sp2 st2 fs2 jn2 rw2 (fd2 : Nat → Int64) (af2 : Nat → Int32), MSC (c + 15600) sp2 st2 fs2 jn2 rw2 → post (rnd DD sq sn s a w 64 po 0) (sp2, st2, fs2, jn2, rw2, fd2, af2, po)) : wX4_roundsNow post th (nI w) po mf sp DD ctf stf fsf jnf rwf fdf aff KP sn sq (nI a) (nI s) :=
  ⟨65, vX4_roundsNow_L8 a0 a4 a5 hw hs ha hc 64 c 0 _ _ _ _ _ _ _ po (pc_le po) (by omega) ho hM (fun sp stf fsf jnf rwf fdf aff p g0 => hp _ _ _ _ _ _ _ g0)⟩
set_option maxRecDepth 16384 in
theorem vX4_rounds {post : Int32 → Int32 × Int64 × Int32 × (Nat → Int32) × (Nat → Int32) × (Nat → Int32) × (Nat → Int32) × (Nat → Int64) × (Nat → Int32) → Prop} {th : Int32} {po : Int64} {mf sp : Int32} {DD : Nat → Nat → Int32} {ctf stf fsf jnf rwf : Nat → Int32} {fdf : Nat → Int64} {aff : Nat → Int32} {KP : Nat → Nat → Int32} {sn c w : Nat} {sq : Nat → Nat → Int32} {p1 p2 : Int32} (a0 : DOK DD) (hM : MSC c sp stf fsf jnf rwf) (a4 : sn ≤ 40) (a5 : SOK sn sq) (hw : w < 64) (ho : mw po w = true) (hc : c + 15600 < 2 ^ 31) (h1 : ∀ s, s < sn → p2 = nI s → ∀ a, 1 ≤ a → a < 64 → p1 = nI a → ∀ sp2 st2 fs2 jn2 rw2 (fd2 : Nat → Int64) (af2 : Nat → Int32), MSC (c + 15600) sp2 st2 fs2 jn2 rw2 → post (rnd DD sq sn s a w 64 po 0) (0, po, sp2, st2, fs2, jn2, rw2, fd2, af2)) (h2 : ¬ IN p2 sn → post 0 (1, po, sp, stf, fsf, jnf, rwf, fdf, aff)) (h3 : IN p2 sn → ¬ SETG p1 → post 0 (2, po, sp, stf, fsf, jnf, rwf, fdf, aff)) : wX4_rounds post th (nI w) po mf sp DD ctf stf fsf jnf rwf fdf aff KP sn sq p1 p2 := by
  refine isSen a4 (fun q => ifN (h2 q)) (fun s hs e => ifY (isSet (fun q => ifN (h3 ⟨s, hs, e⟩ q)) (fun a ha0 ha e2 => ifY ?_)))
  subst e e2
  exact vX4_roundsNow a0 hM a4 a5 hw ho hs ha hc (fun sp2 st2 fs2 jn2 rw2 fd2 af2 g0 => h1 s hs rfl a ha0 ha rfl _ _ _ _ _ _ _ g0)
