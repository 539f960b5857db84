/-! two notes: the class -/
set_option maxRecDepth 16384 in
theorem eNoteO {op : Int64} {E E2 : Nat → Nat → Nat → Bool} (h : EQO op E E2) (a b : Nat) (ha : a < 6) : EQO op (eNote E a b) (eNote E2 a b) := fun g hg w hw v hv x y => by
  by_cases e : g = b
  · subst e
    apply Bool.eq_iff_iff.mpr
    rw [eNoteT, eNoteT, h g hg w hw v hv x y, h a ha w hw v hv x y]
  · rw [eNoteF e, eNoteF e]
    exact h g hg w hw v hv x y
set_option maxRecDepth 16384 in
theorem K1same {op : Int64} {sq : Nat → Nat → Int32} {n s w g : Nat} {E E2 : Nat → Nat → Nat → Bool} (hn : n ≤ 40) (hS : SOK n sq) (hs : s < n) (hg : g < 6) (hw : w < 64) (ho : mw op w = true) (hE : EQO op E E2) : K1 op sq n s w g E ↔ K1 op sq n s w g E2 := by
  unfold K1
  refine or_congr (K0same hn hS hs hg hw ho hE) ⟨?_, ?_⟩
  · rintro ⟨a, b, ha, hb, hab, q⟩
    exact ⟨a, b, ha, hb, hab, (K0same hn hS hs hg hw ho (eNoteO hE a b ha)).mp q⟩
  · rintro ⟨a, b, ha, hb, hab, q⟩
    exact ⟨a, b, ha, hb, hab, (K0same hn hS hs hg hw ho (eNoteO hE a b ha)).mpr q⟩
noncomputable def notV (op : Int64) (sq : Nat → Nat → Int32) (n s w g : Nat) (E : Nat → Nat → Nat → Bool) : Int32 := @ite Int32 (K0 op sq n s w g E) (Classical.propDecidable _) 0 (@ite Int32 (K1 op sq n s w g E) (Classical.propDecidable _) 1 (@ite Int32 (K2 op sq n s w g E) (Classical.propDecidable _) 2 (-1)))
set_option maxRecDepth 16384 in
theorem not0 {op : Int64} {sq : Nat → Nat → Int32} {n s w g : Nat} {E : Nat → Nat → Nat → Bool} (h : K0 op sq n s w g E) : notV op sq n s w g E = 0 := if_pos h
set_option maxRecDepth 16384 in
theorem not1 {op : Int64} {sq : Nat → Nat → Int32} {n s w g : Nat} {E : Nat → Nat → Nat → Bool} (h : ¬ K0 op sq n s w g E) (h1 : K1 op sq n s w g E) : notV op sq n s w g E = 1 := (if_neg h).trans (if_pos h1)
set_option maxRecDepth 16384 in
theorem not2 {op : Int64} {sq : Nat → Nat → Int32} {n s w g : Nat} {E : Nat → Nat → Nat → Bool} (h : ¬ K0 op sq n s w g E) (h1 : ¬ K1 op sq n s w g E) (h2 : K2 op sq n s w g E) : notV op sq n s w g E = 2 := (if_neg h).trans ((if_neg h1).trans (if_pos h2))
set_option maxRecDepth 16384 in
theorem not3 {op : Int64} {sq : Nat → Nat → Int32} {n s w g : Nat} {E : Nat → Nat → Nat → Bool} (h : ¬ K0 op sq n s w g E) (h1 : ¬ K1 op sq n s w g E) (h2 : ¬ K2 op sq n s w g E) : notV op sq n s w g E = -1 := (if_neg h).trans ((if_neg h1).trans (if_neg h2))
set_option maxRecDepth 16384 in
theorem txX2_notes_L72 {post : Int32 → (Nat → Int64) × (Nat → Int64) × Int64 × Int32 × (Nat → Int64) × (Nat → Int64) × Int64 × Int32 → Prop} {postx : String → Prop} {K : Int32 → (Nat → Int64) → (Nat → Int64) → Int64 → Int32 → (Nat → Int64) → (Nat → Int64) → Int64 → Int32 → Prop} {dk wg : Nat → Int64} {op : Int64} {E : Nat → Nat → Nat → Bool} {kf ff sf : Nat → Int32} {pf gf : Nat → Int64} {n s g w : Nat} {sq : Nat → Nat → Int32} {a : Nat} (hC : CD dk E) (hq : EQV E) (hB : BOK kf ff sf n) (hS : SOK n sq) (hK : SAMEB kf ff sf n sq) (hh : HNG kf ff sf pf gf n) (hT : ∀ j, j < 40 → mw (pf s) j = true → SEM op E (kf j) (ff j) (sf j) wg (wg j)) (hs : s < n) (hg : g < 6) (hw : w < 64) (ho : mw op w = true) (n1 : ¬ K1 op sq n s w g E) (ha : a < 6) (hyes : ∀ u, (∃ b, b < 6 ∧ ¬ a = b ∧ K1 op sq n s w g (eNote E a b)) → post 2 u) (hno : (∀ b, b < 6 → ¬ a = b → ¬ K1 op sq n s w g (eNote E a b)) → ∀ i u0 u1 u2 u3 v0 v1 v2 v3, K i u0 u1 u2 u3 v0 v1 v2 v3) : ∀ (m k : Nat) (u0 u1 : Nat → Int64) (u2 : Int64) (u3 : Int32) (v0 v1 : Nat → Int64) (v2 : Int64) (v3 : Int32), k + m = 6 → (∀ b, b < k → ¬ a = b → ¬ K1 op sq n s w g (eNote E a b)) → wxX2_notes_L72 post postx K dk wg op (nI w) kf ff sf pf gf (nI n) (nI g) (nI s) (nI a) (m + 1) (nI k) u0 u1 u2 u3 v0 v1 v2 v3 := by
  have hn := hB.1
  intro m
  induction m with
  | zero =>
    intro k u0 u1 u2 u3 v0 v1 v2 v3 h hi
    obtain rfl : k = 6 := by omega
    exact ⟨fun _ => hno hi _ _ _ _ _ _ _ _ _, fun q => absurd (by decide) q⟩
  | succ m ih =>
    intro k u0 u1 u2 u3 v0 v1 v2 v3 h hi
    have hk : k < 6 := by omega
    have next : (¬ a = k → ¬ K1 op sq n s w g (eNote E a k)) → ∀ u0 u1 u2 u3 v0 v1 v2 v3, wxX2_notes_L72 post postx K dk wg op (nI w) kf ff sf pf gf (nI n) (nI g) (nI s) (nI a) (m + 1) (nI k + 1) u0 u1 u2 u3 v0 v1 v2 v3 := fun q u0 u1 u2 u3 v0 v1 v2 v3 => by
      rw [← nI_succ]
      refine ih (k + 1) u0 u1 u2 u3 v0 v1 v2 v3 (by omega) (fun b hb ne => ?_)
      rcases Nat.lt_succ_iff_lt_or_eq.mp hb with e | e
      · exact hi b e ne
      · subst e
        exact q ne
    refine ⟨fun q => absurd q (notLe (a := 6) hk (by decide)), fun _ => ⟨fun ne => ?_, fun e => next (fun q => absurd (nIinj (by omega) (by omega) e) q) _ _ _ _ _ _ _ _⟩⟩
    have hak : ¬ a = k := fun e => ne (by rw [e])
    unfold wX1_copyFrom
    refine tX1_passOn (cpyCD hC) ha hk hak (fun d hd hnn => ifN (next (fun _ q => n1 ((K1same hn hS hs hg hw ho (noNews hnn)).mp q)) _ _ _ _ _ _ _ _)) (fun d hd => ifY (tX0_hangingOn hn hs hk ?_))
    refine tX1_weigh hd (eNoteQ hq a k) hB (fun j hj q => (hcl' hh hs j (by omega) (mwA.mp q).2).1) (fun wg2 keep new => ?_)
    have hT2 := reweigh (a := a) hB hh hs hk (cpyT (uw := u1) hB (fun j hj hm => (hcl' hh hs j (by omega) hm).1) hT) keep new
    refine tX2_oneNoteDoes hd (eNoteQ hq a k) hB hS hK hh hT2 hs hg hw ho (fun q => n1 (Or.inr ⟨a, k, ha, hk, hak, q⟩)) (fun u q => ifY2 (hyes _ ⟨k, hk, hak, q⟩)) (fun u q => ifN2 (next (fun _ => q) _ _ _ _ _ _ _ _))
set_option maxRecDepth 16384 in
theorem txX2_notes_L63 {post : Int32 → (Nat → Int64) × (Nat → Int64) × Int64 × Int32 × (Nat → Int64) × (Nat → Int64) × Int64 × Int32 → Prop} {postx : String → Prop} {K : Int32 → (Nat → Int64) → (Nat → Int64) → Int64 → Int32 → (Nat → Int64) → (Nat → Int64) → Int64 → Int32 → Prop} {dk wg : Nat → Int64} {op : Int64} {E : Nat → Nat → Nat → Bool} {kf ff sf : Nat → Int32} {pf gf : Nat → Int64} {n s g w : Nat} {sq : Nat → Nat → Int32} (hC : CD dk E) (hq : EQV E) (hB : BOK kf ff sf n) (hS : SOK n sq) (hK : SAMEB kf ff sf n sq) (hh : HNG kf ff sf pf gf n) (hT : ∀ j, j < 40 → mw (pf s) j = true → SEM op E (kf j) (ff j) (sf j) wg (wg j)) (hs : s < n) (hg : g < 6) (hw : w < 64) (ho : mw op w = true) (n1 : ¬ K1 op sq n s w g E) (hyes : ∀ u, (∃ a b, a < 6 ∧ b < 6 ∧ ¬ a = b ∧ K1 op sq n s w g (eNote E a b)) → post 2 u) (hno : (∀ a, a < 6 → ∀ b, b < 6 → ¬ a = b → ¬ K1 op sq n s w g (eNote E a b)) → ∀ i u0 u1 u2 u3 v0 v1 v2 v3, K i u0 u1 u2 u3 v0 v1 v2 v3) : ∀ (m k : Nat) (u0 u1 : Nat → Int64) (u2 : Int64) (u3 : Int32) (v0 v1 : Nat → Int64) (v2 : Int64) (v3 : Int32), k + m = 6 → (∀ a, a < k → ∀ b, b < 6 → ¬ a = b → ¬ K1 op sq n s w g (eNote E a b)) → wxX2_notes_L63 post postx K dk wg op (nI w) kf ff sf pf gf (nI n) (nI g) (nI s) (m + 1) (nI k) u0 u1 u2 u3 v0 v1 v2 v3 := by
  intro m
  induction m with
  | zero =>
    intro k u0 u1 u2 u3 v0 v1 v2 v3 h hi
    obtain rfl : k = 6 := by omega
    exact ⟨fun _ => hno hi _ _ _ _ _ _ _ _ _, fun q => absurd (by decide) q⟩
  | succ m ih =>
    intro k u0 u1 u2 u3 v0 v1 v2 v3 h hi
    have hk : k < 6 := by omega
    refine ⟨fun q => absurd q (notLe (a := 6) hk (by decide)), fun _ => ⟨7, txX2_notes_L72 hC hq hB hS hK hh hT hs hg hw ho n1 hk (fun u q => ?_) (fun q _ u0 u1 u2 u3 v0 v1 v2 v3 => ?_) 6 0 _ _ _ _ _ _ _ _ rfl (fun b hb => absurd hb (Nat.not_lt_zero b))⟩⟩
    · obtain ⟨b, x, y, z⟩ := q
      exact hyes u ⟨k, b, hk, x, y, z⟩
    · rw [← nI_succ]
      refine ih (k + 1) u0 u1 u2 u3 v0 v1 v2 v3 (by omega) (fun a ha => ?_)
      rcases Nat.lt_succ_iff_lt_or_eq.mp ha with e | e
      · exact hi a e
      · subst e
        exact q
set_option maxRecDepth 16384 in
theorem tnX2_notes_L72 {post : Int32 → (Nat → Int64) × (Nat → Int64) × Int64 × Int32 × (Nat → Int64) × (Nat → Int64) × Int64 × Int32 → Prop} {K : Int32 → (Nat → Int64) → (Nat → Int64) → Int64 → Int32 → (Nat → Int64) → (Nat → Int64) → Int64 → Int32 → Prop} {dk wg : Nat → Int64} {op : Int64} {E : Nat → Nat → Nat → Bool} {kf ff sf : Nat → Int32} {pf gf : Nat → Int64} {n s g w : Nat} {sq : Nat → Nat → Int32} {a : Nat} (hC : CD dk E) (hq : EQV E) (hB : BOK kf ff sf n) (hS : SOK n sq) (hK : SAMEB kf ff sf n sq) (hh : HNG kf ff sf pf gf n) (hT : ∀ j, j < 40 → mw (pf s) j = true → SEM op E (kf j) (ff j) (sf j) wg (wg j)) (hs : s < n) (hg : g < 6) (hw : w < 64) (ho : mw op w = true) (n1 : ¬ K1 op sq n s w g E) (ha : a < 6) (hyes : ∀ u, (∃ b, b < 6 ∧ ¬ a = b ∧ K1 op sq n s w g (eNote E a b)) → post 2 u) (hno : (∀ b, b < 6 → ¬ a = b → ¬ K1 op sq n s w g (eNote E a b)) → ∀ i u0 u1 u2 u3 v0 v1 v2 v3, K i u0 u1 u2 u3 v0 v1 v2 v3) : ∀ (m k : Nat) (u0 u1 : Nat → Int64) (u2 : Int64) (u3 : Int32) (v0 v1 : Nat → Int64) (v2 : Int64) (v3 : Int32), k + m = 6 → (∀ b, b < k → ¬ a = b → ¬ K1 op sq n s w g (eNote E a b)) → wnX2_notes_L72 post K dk wg op (nI w) kf ff sf pf gf (nI n) (nI g) (nI s) (nI a) (m + 1) (nI k) u0 u1 u2 u3 v0 v1 v2 v3 := by
  have hn := hB.1
  intro m
  induction m with
  | zero =>
    intro k u0 u1 u2 u3 v0 v1 v2 v3 h hi
    obtain rfl : k = 6 := by omega
    exact ⟨fun _ => hno hi _ _ _ _ _ _ _ _ _, fun q => absurd (by decide) q⟩
  | succ m ih =>
    intro k u0 u1 u2 u3 v0 v1 v2 v3 h hi
    have hk : k < 6 := by omega
    have next : (¬ a = k → ¬ K1 op sq n s w g (eNote E a k)) → ∀ u0 u1 u2 u3 v0 v1 v2 v3, wnX2_notes_L72 post K dk wg op (nI w) kf ff sf pf gf (nI n) (nI g) (nI s) (nI a) (m + 1) (nI k + 1) u0 u1 u2 u3 v0 v1 v2 v3 := fun q u0 u1 u2 u3 v0 v1 v2 v3 => by
      rw [← nI_succ]
      refine ih (k + 1) u0 u1 u2 u3 v0 v1 v2 v3 (by omega) (fun b hb ne => ?_)
      rcases Nat.lt_succ_iff_lt_or_eq.mp hb with e | e
      · exact hi b e ne
      · subst e
        exact q ne
    refine ⟨fun q => absurd q (notLe (a := 6) hk (by decide)), fun _ => ⟨fun ne => ?_, fun e => next (fun q => absurd (nIinj (by omega) (by omega) e) q) _ _ _ _ _ _ _ _⟩⟩
    have hak : ¬ a = k := fun e => ne (by rw [e])
    unfold wX1_copyFrom
    refine tX1_passOn (cpyCD hC) ha hk hak (fun d hd hnn => ifN (next (fun _ q => n1 ((K1same hn hS hs hg hw ho (noNews hnn)).mp q)) _ _ _ _ _ _ _ _)) (fun d hd => ifY (tX0_hangingOn hn hs hk ?_))
    refine tX1_weigh hd (eNoteQ hq a k) hB (fun j hj q => (hcl' hh hs j (by omega) (mwA.mp q).2).1) (fun wg2 keep new => ?_)
    have hT2 := reweigh (a := a) hB hh hs hk (cpyT (uw := u1) hB (fun j hj hm => (hcl' hh hs j (by omega) hm).1) hT) keep new
    refine tX2_oneNoteDoes hd (eNoteQ hq a k) hB hS hK hh hT2 hs hg hw ho (fun q => n1 (Or.inr ⟨a, k, ha, hk, hak, q⟩)) (fun u q => ifY2 (hyes _ ⟨k, hk, hak, q⟩)) (fun u q => ifN2 (next (fun _ => q) _ _ _ _ _ _ _ _))
set_option maxRecDepth 16384 in
theorem tnX2_notes_L63 {post : Int32 → (Nat → Int64) × (Nat → Int64) × Int64 × Int32 × (Nat → Int64) × (Nat → Int64) × Int64 × Int32 → Prop} {K : Int32 → (Nat → Int64) → (Nat → Int64) → Int64 → Int32 → (Nat → Int64) → (Nat → Int64) → Int64 → Int32 → Prop} {dk wg : Nat → Int64} {op : Int64} {E : Nat → Nat → Nat → Bool} {kf ff sf : Nat → Int32} {pf gf : Nat → Int64} {n s g w : Nat} {sq : Nat → Nat → Int32} (hC : CD dk E) (hq : EQV E) (hB : BOK kf ff sf n) (hS : SOK n sq) (hK : SAMEB kf ff sf n sq) (hh : HNG kf ff sf pf gf n) (hT : ∀ j, j < 40 → mw (pf s) j = true → SEM op E (kf j) (ff j) (sf j) wg (wg j)) (hs : s < n) (hg : g < 6) (hw : w < 64) (ho : mw op w = true) (n1 : ¬ K1 op sq n s w g E) (hyes : ∀ u, (∃ a b, a < 6 ∧ b < 6 ∧ ¬ a = b ∧ K1 op sq n s w g (eNote E a b)) → post 2 u) (hno : (∀ a, a < 6 → ∀ b, b < 6 → ¬ a = b → ¬ K1 op sq n s w g (eNote E a b)) → ∀ i u0 u1 u2 u3 v0 v1 v2 v3, K i u0 u1 u2 u3 v0 v1 v2 v3) : ∀ (m k : Nat) (u0 u1 : Nat → Int64) (u2 : Int64) (u3 : Int32) (v0 v1 : Nat → Int64) (v2 : Int64) (v3 : Int32), k + m = 6 → (∀ a, a < k → ∀ b, b < 6 → ¬ a = b → ¬ K1 op sq n s w g (eNote E a b)) → wnX2_notes_L63 post K dk wg op (nI w) kf ff sf pf gf (nI n) (nI g) (nI s) (m + 1) (nI k) u0 u1 u2 u3 v0 v1 v2 v3 := by
  intro m
  induction m with
  | zero =>
    intro k u0 u1 u2 u3 v0 v1 v2 v3 h hi
    obtain rfl : k = 6 := by omega
    exact ⟨fun _ => hno hi _ _ _ _ _ _ _ _ _, fun q => absurd (by decide) q⟩
  | succ m ih =>
    intro k u0 u1 u2 u3 v0 v1 v2 v3 h hi
    have hk : k < 6 := by omega
    refine ⟨fun q => absurd q (notLe (a := 6) hk (by decide)), fun _ => ⟨7, tnX2_notes_L72 hC hq hB hS hK hh hT hs hg hw ho n1 hk (fun u q => ?_) (fun q _ u0 u1 u2 u3 v0 v1 v2 v3 => ?_) 6 0 _ _ _ _ _ _ _ _ rfl (fun b hb => absurd hb (Nat.not_lt_zero b))⟩⟩
    · obtain ⟨b, x, y, z⟩ := q
      exact hyes u ⟨k, b, hk, x, y, z⟩
    · rw [← nI_succ]
      refine ih (k + 1) u0 u1 u2 u3 v0 v1 v2 v3 (by omega) (fun a ha => ?_)
      rcases Nat.lt_succ_iff_lt_or_eq.mp ha with e | e
      · exact hi a e
      · subst e
        exact q
set_option maxRecDepth 16384 in
theorem txL_notes {post : Int32 → (Nat → Int64) × (Nat → Int64) × Int64 × Int32 × (Nat → Int64) × (Nat → Int64) × Int64 × Int32 × Int64 → Prop} {uk uw vk vw : Nat → Int64} {uo vo : Int64} {ur vr : Int32} {on : Int64} {dk wg : Nat → Int64} {op : Int64} {E : Nat → Nat → Nat → Bool} {kf ff sf : Nat → Int32} {pf gf : Nat → Int64} {n w : Nat} {sq : Nat → Nat → Int32} {p1 p2 : Int32} (hC : CD dk E) (hq : EQV E) (hB : BOK kf ff sf n) (hS : SOK n sq) (hK : SAMEB kf ff sf n sq) (hh : HNG kf ff sf pf gf n) (hT : TRU op E kf ff sf n wg) (hw : w < 64) (ho : mw op w = true) (h1 : ∀ g, g < 6 → p1 = nI g → ∀ s, s < n → p2 = nI s → ∀ a b c d e f x y, post 0 (a, b, c, d, e, f, x, y, (notV op sq n s w g E).toInt64)) (h2 : ¬ (IN p1 6 ∧ IN p2 n) → post 1 (uk, uw, uo, ur, vk, vw, vo, vr, on)) : wxL_notes post dk wg op (nI w) uk uw uo ur vk vw vo vr kf ff sf pf gf (nI n) on p1 p2 := by
  have hn := hB.1
  unfold wxL_notes wxX2_notes
  refine tX2_isGuardN (fun q => ifN2 ⟨rfl, h2 (fun t => q t.1)⟩) (fun g hg e1 => ifY2 (tX0_holdsN hn (fun q => ifN ⟨rfl, h2 (fun t => q t.2)⟩) (fun s hs e2 => ifY ?_)))
  have hp := h1 g hg e1 s hs e2
  subst e1 e2
  have hTp : ∀ j, j < 40 → mw (pf s) j = true → SEM op E (kf j) (ff j) (sf j) wg (wg j) := fun j hj hm => hT j (hcl' hh hs j (by omega) hm).1
  have e := TRPx hB hS hK (hcl' hh hs) hTp s (by omega) (hh.1 s hs).1
  have k0 : KNW op E g (wg s) w ↔ K0 op sq n s w g E := by
    unfold K0
    rw [e]
  refine tX1_knows hC hg hw hs hn (fun q => ifN2 ?_) (fun q => ifY2 ?_)
  · have n0 : ¬ K0 op sq n s w g E := fun r => q (k0.mpr r)
    refine tX2_oneNoteDoes hC hq hB hS hK hh hTp hs hg hw ho n0 (fun u r => ifY2 ?_) (fun u r => ifN2 ?_)
    · rw [not1 n0 r] at hp
      exact hp _ _ _ _ _ _ _ _
    · refine ⟨7, txX2_notes_L63 hC hq hB hS hK hh hTp hs hg hw ho r (fun u t => ?_) (fun t _ _ _ _ _ _ _ _ _ => ?_) 6 0 _ _ _ _ _ _ _ _ rfl (fun a ha => absurd ha (Nat.not_lt_zero a))⟩
      · rw [not2 n0 r (Or.inr t)] at hp
        exact hp _ _ _ _ _ _ _ _
      · rw [not3 n0 r (fun z => by
          rcases z with z | ⟨a, b, ha, hb, hab, z⟩
          · exact n0 z
          · exact t a ha b hb hab z)] at hp
        exact hp _ _ _ _ _ _ _ _
  · rw [not0 (k0.mp q)] at hp
    exact hp _ _ _ _ _ _ _ _
