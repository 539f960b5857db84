/-! the digest: the class, where nothing can throw -/
set_option maxRecDepth 16384 in
theorem tnX2_night {post : Int32 → Prop} {tA wP nT aK lK sW rF : Int32} {ctf : Nat → Int32} {mf : Int32} {dk wg : Nat → Int64} {op : Int64} {E : Nat → Nat → Nat → Bool} {n w i : Nat} (hC : CD dk E) (hq : EQV E) (hn : n ≤ 40) (hw : w < 64) (ho : mw op w = true) (hct : JCT tA wP nT aK lK sW rF ctf mf) (hi : i < 13) (h : post (nightV ctf mf op E wg n w i)) : wnX2_night post tA wP nT aK lK sW rF dk wg op (nI w) (nI n) (nI i) := by
  obtain ⟨rfl, rfl, rfl, rfl, rfl, rfl, rfl⟩ := hct
  unfold wnX2_night
  rcases (show i = 0 ∨ i = 1 ∨ i = 2 ∨ i = 3 ∨ i = 4 ∨ i = 5 ∨ i = 6 ∨ i = 7 ∨ i = 8 ∨ i = 9 ∨ i = 10 ∨ i = 11 ∨ i = 12 by omega) with rfl | rfl | rfl | rfl | rfl | rfl | rfl | rfl | rfl | rfl | rfl | rfl | rfl
  · exact iT rfl h
  · exact iF (by decide) (iT rfl (eJ13_bitCount h))
  · exact iF (by decide) (iF (by decide) (iT rfl h))
  · exact iF (by decide) (iF (by decide) (iF (by decide) (iT rfl (tX1_countTrueInReal hn hw h))))
  · refine iF (by decide) (iF (by decide) (iF (by decide) (iF (by decide) (iT rfl ?_))))
    refine tX1_reachedFromReal (s := 63) hC hq (by decide) hw ho (fun r hr => tX1_countTrueInAllOf hn ?_)
    rw [cnt_ext (P := fun s => SUBW r (wg s)) (Q := CMT op E wg 63 w) n (fun s _ => hr (wg s))]
    exact h
  · exact iF (by decide) (iF (by decide) (iF (by decide) (iF (by decide) (iF (by decide) (iT rfl h)))))
  · exact iF (by decide) (iF (by decide) (iF (by decide) (iF (by decide) (iF (by decide) (iF (by decide) (iT rfl h))))))
  · exact iF (by decide) (iF (by decide) (iF (by decide) (iF (by decide) (iF (by decide) (iF (by decide) (iF (by decide) (iT rfl h)))))))
  · exact iF (by decide) (iF (by decide) (iF (by decide) (iF (by decide) (iF (by decide) (iF (by decide) (iF (by decide) (iF (by decide) (iT rfl h))))))))
  · exact iF (by decide) (iF (by decide) (iF (by decide) (iF (by decide) (iF (by decide) (iF (by decide) (iF (by decide) (iF (by decide) (iF (by decide) (iT rfl h)))))))))
  · exact iF (by decide) (iF (by decide) (iF (by decide) (iF (by decide) (iF (by decide) (iF (by decide) (iF (by decide) (iF (by decide) (iF (by decide) (iF (by decide) (iT rfl h))))))))))
  · exact iF (by decide) (iF (by decide) (iF (by decide) (iF (by decide) (iF (by decide) (iF (by decide) (iF (by decide) (iF (by decide) (iF (by decide) (iF (by decide) (iF (by decide) (iT rfl (tX1_nearestToReal hC hw h))))))))))))
  · exact iF (by decide) (iF (by decide) (iF (by decide) (iF (by decide) (iF (by decide) (iF (by decide) (iF (by decide) (iF (by decide) (iF (by decide) (iF (by decide) (iF (by decide) (iF (by decide) (iT rfl h))))))))))))
set_option maxRecDepth 16384 in
theorem tnX2_ofGuard {post : Int32 → Prop} {dk wg : Nat → Int64} {op : Int64} {DD : Nat → Nat → Int32} {n w g i : Nat} (hC : CD dk (ED DD)) (hD : DOK DD) (hn : n ≤ 40) (hg : g < 6) (hw : w < 64) (hi : i < 5) (h : post (guardV op DD wg n w g i)) : wnX2_ofGuard post dk wg op (nI w) (nI n) (nI g) (nI i) := by
  unfold wnX2_ofGuard
  refine tX2_isGuardN (fun q => absurd ⟨g, hg, rfl⟩ q) (fun _ _ _ => ifY ?_)
  unfold guardV at h
  rcases (show i = 0 ∨ i = 1 ∨ i = 2 ∨ i = 3 ∨ i = 4 by omega) with rfl | rfl | rfl | rfl | rfl
  · exact iT rfl (tX1_countCells hC hD hg h)
  · refine iF (by decide) (iT rfl (tX1_cell hC hg hw (fun r hr => eJ13_bitCount ?_)))
    rw [ALKe hr]
    exact h
  · refine iF (by decide) (iF (by decide) (iT rfl (tX1_cell hC hg hw (fun r hr => ⟨7, tX1_factsSettledFor_L16 (fun t _ ht => ?_) 6 0 0 rfl MSK.zero⟩))))
    rw [ALKe hr] at ht
    rw [mkoE ht]
    exact h
  · exact iF (by decide) (iF (by decide) (iF (by decide) (iT rfl (tX1_countKnownBy hC hn hg hw h))))
  · refine iF (by decide) (iF (by decide) (iF (by decide) (iF (by decide) (iT rfl ⟨7, tX1_asSharpAs_L4 hC hg (fun t _ ht => ?_) 6 0 0 rfl MSK.zero⟩))))
    rw [mkoE ht]
    exact h
set_option maxRecDepth 16384 in
theorem tnX2_of {post : Int32 → Prop} {dk wg : Nat → Int64} {op : Int64} {E : Nat → Nat → Nat → Bool} {kf ff sf df : Nat → Int32} {n w s i : Nat} {sq : Nat → Nat → Int32} (hC : CD dk E) (hq : EQV E) (hn : n ≤ 40) (hK : SAMEB kf ff sf n sq) (hdp : ∀ k, k < n → df k = sq k 3) (hs : s < n) (hw : w < 64) (ho : mw op w = true) (hi : i < 10) (h : post (ofV op E wg sq w s i)) : wnX2_of post dk wg op (nI w) kf ff sf df (nI n) (nI s) (nI i) := by
  obtain ⟨k1, k2, k3⟩ := hK s hs
  unfold wnX2_of
  refine tX0_holdsN hn (fun q => absurd ⟨s, hs, rfl⟩ q) (fun _ _ _ => ifY ?_)
  unfold ofV at h
  rcases (show i = 0 ∨ i = 1 ∨ i = 2 ∨ i = 3 ∨ i = 4 ∨ i = 5 ∨ i = 6 ∨ i = 7 ∨ i = 8 ∨ i = 9 by omega) with rfl | rfl | rfl | rfl | rfl | rfl | rfl | rfl | rfl | rfl
  · refine iT rfl (tX0_kindOf hs hn ?_)
    rw [k1]
    exact h
  · refine iF (by decide) (iT rfl (tX0_firstOf hs hn ?_))
    rw [k2]
    exact h
  · refine iF (by decide) (iF (by decide) (iT rfl (tX0_secondOf hs hn ?_)))
    rw [k3]
    exact h
  · exact iF (by decide) (iF (by decide) (iF (by decide) (iT rfl (tX1_worldsOf hs hn (eJ13_bitCount h)))))
  · refine iF (by decide) (iF (by decide) (iF (by decide) (iF (by decide) (iT rfl (tX1_isTrueInReal hn hs hw (fun q => ifN2 ?_) (fun q => ifY2 ?_))))))
    · have h4 : post (if mw (wg s) w = true then (1 : Int32) else 0) := h
      rw [if_neg q] at h4
      exact h4
    · have h4 : post (if mw (wg s) w = true then (1 : Int32) else 0) := h
      rw [if_pos q] at h4
      exact h4
  · refine iF (by decide) (iF (by decide) (iF (by decide) (iF (by decide) (iF (by decide) (iT rfl (tX1_knowersOf hC hw hs hn (fun t ht => eJ6_bitCount ht.1 ?_)))))))
    rw [mkoE ht]
    exact h
  · refine iF (by decide) (iF (by decide) (iF (by decide) (iF (by decide) (iF (by decide) (iF (by decide) (iT rfl (tX1_knowersOf hC hw hs hn (fun t ht => ?_))))))))
    rw [mkoE ht]
    exact h
  · refine iF (by decide) (iF (by decide) (iF (by decide) (iF (by decide) (iF (by decide) (iF (by decide) (iF (by decide) (iT rfl ?_)))))))
    have h4 : post (@ite Int32 (COM op E 63 (wg s) w) (Classical.propDecidable _) 1 0) := h
    refine tX1_reachedFromReal (s := 63) hC hq (by decide) hw ho (fun r hr => tX1_worldsOf hs hn (tX2_isWithin (fun q => ifN2 ?_) (fun q => ifY2 ?_)))
    · rw [if_neg (fun t => q ((hr _).mpr t))] at h4
      exact h4
    · rw [if_pos ((hr _).mp q)] at h4
      exact h4
  · exact iF (by decide) (iF (by decide) (iF (by decide) (iF (by decide) (iF (by decide) (iF (by decide) (iF (by decide) (iF (by decide) (iT rfl (tX1_fewestFor hC hw hs hn h)))))))))
  · refine iF (by decide) (iF (by decide) (iF (by decide) (iF (by decide) (iF (by decide) (iF (by decide) (iF (by decide) (iF (by decide) (iF (by decide) (iT rfl (tX0_builtDeep hs hn ?_))))))))))
    rw [hdp s hs]
    exact h
set_option maxRecDepth 16384 in
theorem tnX2_truth {post : Int64 → Prop} {wg : Nat → Int64} {n s : Nat} (hn : n ≤ 40) (hs : s < n) (h : post (wg s)) : wnX2_truth post wg (nI n) (nI s) := by
  unfold wnX2_truth
  exact tX0_holdsN hn (fun q => absurd ⟨s, hs, rfl⟩ q) (fun _ _ _ => ifY (tX1_worldsOf hs hn h))
set_option maxRecDepth 16384 in
theorem tnX2_alike {post : Int64 → Prop} {dk : Nat → Int64} {op : Int64} {E : Nat → Nat → Nat → Bool} {g w : Nat} (hC : CD dk E) (hg : g < 6) (hw : w < 64) (ho : mw op w = true) (h : post (ALK op E w g)) : wnX2_alike post dk op (nI g) (nI w) := by
  unfold wnX2_alike
  refine tX2_isGuardN (fun q => absurd ⟨g, hg, rfl⟩ q) (fun _ _ _ => ifY2 (tX2_isWorldN (fun q => absurd ⟨w, hw, rfl⟩ q) (fun _ _ _ => ifY (tX2_has hw (fun q => absurd ho q) (fun _ => ifY2 (tX1_cell hC hg hw (fun r hr => ?_)))))))
  rw [ALKe hr]
  exact h
set_option maxRecDepth 16384 in
theorem tnX2_depth {post : Int32 → Prop} {dk wg : Nat → Int64} {op : Int64} {E : Nat → Nat → Nat → Bool} {n s a w : Nat} (hC : CD dk E) (hq : EQV E) (hn : n ≤ 40) (hw : w < 64) (hs : s < n) (ha0 : 1 ≤ a) (ha : a < 64) (h : post (dptA op E a w (wg s))) : wnX2_depth post dk wg op (nI w) (nI n) (nI a) (nI s) := by
  unfold wnX2_depth
  exact tX0_holdsN hn (fun q => absurd ⟨s, hs, rfl⟩ q) (fun _ _ _ => ifY (tX2_isSetN (fun q => absurd ⟨a, ha0, ha, rfl⟩ q) (fun _ _ _ _ => ifY (tX1_worldsOf hs hn (tX1_depthFor hC hq ha0 ha hw h)))))
set_option maxRecDepth 16384 in
theorem tnX2_wit {post : UInt64 → Prop} {dk wg : Nat → Int64} {op : Int64} {E : Nat → Nat → Nat → Bool} {n g w : Nat} (hC : CD dk E) (hn : n ≤ 40) (hg : g < 6) (hw : w < 64) (h : post (witV (cntP (KNT op E wg g w) n) n)) : wnX2_wit post dk wg op (nI w) (nI n) (nI g) := by
  unfold wnX2_wit
  refine tX2_isGuardN (fun q => absurd ⟨g, hg, rfl⟩ q) (fun _ _ _ => ifY ?_)
  unfold witV at h
  refine ⟨fun n0 => tX1_countKnownBy hC hn hg hw ⟨(witA (cntI _ hn) ⟨n, by omega, rfl⟩ n0).1, ?_⟩, fun n0 => ?_⟩
  · rw [if_neg (fun q => n0 ((nI0 hn).mpr q))] at h
    exact h
  · rw [if_pos ((nI0 hn).mp n0)] at h
    exact h
set_option maxRecDepth 16384 in
theorem tnX2_rounds_L51 {post : Int32 → (Nat → Int64) × (Nat → Int64) × Int64 × Int32 → Prop} {K133 : Int32 → (Nat → Int64) → Int64 → Prop} {dk : Nat → Int64} {DD : Nat → Nat → Int32} {kf ff sf : Nat → Int32} {pf gf : Nat → Int64} {n s a w : Nat} {sq : Nat → Nat → Int32} (hC : CD dk (ED DD)) (hB : BOK kf ff sf n) (hS : SOK n sq) (hK : SAMEB kf ff sf n sq) (hh : HNG kf ff sf pf gf n) (hs : s < n) (ha : a < 64) (hw : w < 64) : ∀ (m k : Nat) (uw : Nat → Int64) (op : Int64), k + m = 64 → pc op ≤ m → mw op w = true → (∀ j, j < 40 → mw (pf s) j = true → SEM op (ED DD) (kf j) (ff j) (sf j) uw (uw j)) → (∀ u, post (rnd DD sq n s a w m op k) u) → wnX2_rounds_L51 post K133 kf ff sf pf (nI n) (nI a) (nI s) dk (nI w) (m + 1) (nI k) uw op := by
  have hn := hB.1
  have hq := EDq DD
  have hcl : ∀ j, j < 64 → mw (pf s) j = true → j < n ∧ ∀ i, PRTC kf ff sf j i → mw (pf s) i = true := fun j hj q => by
    obtain ⟨l, r⟩ := (hh.1 s hs).2 j hj q
    exact ⟨by omega, r⟩
  intro m
  induction m with
  | zero =>
    intro k uw op h hp ho
    have := pcPos hw ho
    omega
  | succ m ih =>
    intro k uw op h hp ho hT hpost
    have eT := TRPu hB hS hK hcl hT s (by omega) (hh.1 s hs).1
    refine ⟨fun c => absurd c (notLe (a := 64) (by omega) (by decide)), fun _ => tX1_knowersOf hC hw hs hn (fun t ht => ?_)⟩
    rw [andB t ht.1 a ha]
    rw [eT] at ht
    rw [mkoE ht]
    rw [rnd] at hpost
    refine ⟨fun q => tX1_answeringAlike hC hq ha hw ho hs hn (fun r hr => ?_), fun q => ?_⟩
    · rw [eT] at hr
      obtain rfl := ASK.eq hr ASKo.s
      have e : (op &&& ASKo op (ED DD) a (TRD op DD sq n s) w) = ASKo op (ED DD) a (TRD op DD sq n s) w := mwX (fun v hv => mwA.trans ⟨fun q => q.2, fun q => ⟨((hr v hv).mp q).1, q⟩⟩)
      show ((¬ (lg_cmp (op &&& ASKo op (ED DD) a (TRD op DD sq n s) w) op) = 0) → _) ∧ _
      rw [e]
      rw [if_pos q] at hpost
      refine ⟨fun ne => tX0_partsOf hs hn (tX1_weigh hC hq hB (fun j hj q => (hcl j (by omega) q).1) (fun wg2 _ b => ?_)), fun c => ?_⟩
      · have ne2 : ¬ ASKo op (ED DD) a (TRD op DD sq n s) w = op := fun c => ne ((lg_cmp_eq _ _).mpr c)
        rw [if_neg ne2] at hpost
        have := pcSub (fun v hv q => ((hr v hv).mp q).1) ne2
        rw [← nI_succ]
        exact ih (k + 1) wg2 _ (by omega) (by omega) (ASK.self hw ho hr) b hpost
      · rw [if_pos ((lg_cmp_eq _ _).mp c)] at hpost
        exact hpost _
    · rw [if_neg q] at hpost
      exact hpost _
set_option maxRecDepth 16384 in
theorem tnX2_rounds {post : Int32 → (Nat → Int64) × (Nat → Int64) × Int64 × Int32 → Prop} {dk wg uk uw : Nat → Int64} {op uo : Int64} {ur : Int32} {DD : Nat → Nat → Int32} {kf ff sf : Nat → Int32} {pf gf : Nat → Int64} {n s a w : Nat} {sq : Nat → Nat → Int32} (hC : CD dk (ED DD)) (hB : BOK kf ff sf n) (hS : SOK n sq) (hK : SAMEB kf ff sf n sq) (hh : HNG kf ff sf pf gf n) (hT : TRU op (ED DD) kf ff sf n wg) (hw : w < 64) (ho : mw op w = true) (hs : s < n) (ha0 : 1 ≤ a) (ha : a < 64) (h1 : ∀ u, post (rnd DD sq n s a w 64 op 0) u) : wnX2_rounds post dk wg op (nI w) uk uw uo ur kf ff sf pf (nI n) (nI a) (nI s) := by
  have hn := hB.1
  unfold wnX2_rounds
  refine tX0_holdsN hn (fun q => absurd ⟨s, hs, rfl⟩ q) (fun _ _ _ => ifY (tX2_isSetN (fun q => absurd ⟨a, ha0, ha, rfl⟩ q) (fun _ _ _ _ => ifY ?_)))
  refine ⟨65, tnX2_rounds_L51 (dk := va_cpy dk uk 0 0 384) (cpyCD hC) hB hS hK hh hs ha hw 64 0 (va_cpy wg uw 0 0 40) op rfl (pc_le op) ho (fun j hj hm => ?_) (fun u => h1 u)⟩
  have l := ((hh.1 s hs).2 j (by omega) hm).1
  rw [cpyAt _ _ _ hj]
  exact SEMc (hB.2 j (by omega)) (by omega) (fun i hi => (cpyAt _ _ _ (by omega)).symm) (hT j (by omega))
set_option maxRecDepth 16384 in
theorem tnX2_notes {post : Int32 → (Nat → Int64) × (Nat → Int64) × Int64 × Int32 × (Nat → Int64) × (Nat → Int64) × Int64 × Int32 → Prop} {uk uw vk vw : Nat → Int64} {uo vo : Int64} {ur vr : Int32} {dk wg : Nat → Int64} {op : Int64} {E : Nat → Nat → Nat → Bool} {kf ff sf : Nat → Int32} {pf gf : Nat → Int64} {n s g w : Nat} {sq : Nat → Nat → Int32} (hC : CD dk E) (hq : EQV E) (hB : BOK kf ff sf n) (hS : SOK n sq) (hK : SAMEB kf ff sf n sq) (hh : HNG kf ff sf pf gf n) (hT : TRU op E kf ff sf n wg) (hw : w < 64) (ho : mw op w = true) (hg : g < 6) (hs : s < n) (hp : ∀ u, post (notV op sq n s w g E) u) : wnX2_notes post dk wg op (nI w) uk uw uo ur vk vw vo vr kf ff sf pf gf (nI n) (nI g) (nI s) := by
  have hn := hB.1
  unfold wnX2_notes
  refine tX2_isGuardN (fun q => absurd ⟨g, hg, rfl⟩ q) (fun _ _ _ => ifY2 (tX0_holdsN hn (fun q => absurd ⟨s, hs, rfl⟩ q) (fun _ _ _ => ifY ?_)))
  have hTp : ∀ j, j < 40 → mw (pf s) j = true → SEM op E (kf j) (ff j) (sf j) wg (wg j) := fun j hj hm => hT j (hcl' hh hs j (by omega) hm).1
  have e := TRPx hB hS hK (hcl' hh hs) hTp s (by omega) (hh.1 s hs).1
  have k0 : KNW op E g (wg s) w ↔ K0 op sq n s w g E := by
    unfold K0
    rw [e]
  refine tX1_knows hC hg hw hs hn (fun q => ifN2 ?_) (fun q => ifY2 ?_)
  · have n0 : ¬ K0 op sq n s w g E := fun r => q (k0.mpr r)
    refine tX2_oneNoteDoes hC hq hB hS hK hh hTp hs hg hw ho n0 (fun u r => ifY2 ?_) (fun u r => ifN2 ?_)
    · rw [not1 n0 r] at hp
      exact hp _
    · refine ⟨7, tnX2_notes_L63 hC hq hB hS hK hh hTp hs hg hw ho r (fun u t => ?_) (fun t _ _ _ _ _ _ _ _ _ => ?_) 6 0 _ _ _ _ _ _ _ _ rfl (fun a ha => absurd ha (Nat.not_lt_zero a))⟩
      · rw [not2 n0 r (Or.inr t)] at hp
        exact hp _
      · rw [not3 n0 r (fun z => by
          rcases z with z | ⟨a, b, ha, hb, hab, z⟩
          · exact n0 z
          · exact t a ha b hb hab z)] at hp
        exact hp _
  · rw [not0 (k0.mp q)] at hp
    exact hp _
