/-! what notes would do: the class -/
def K0 (op : Int64) (sq : Nat → Nat → Int32) (n s w g : Nat) (E : Nat → Nat → Nat → Bool) : Prop := KNW op E g (TRX op E sq n s) w
set_option maxRecDepth 16384 in
theorem K0same {op : Int64} {sq : Nat → Nat → Int32} {n s w g : Nat} {E E2 : Nat → Nat → Nat → Bool} (hn : n ≤ 40) (hS : SOK n sq) (hs : s < n) (hg : g < 6) (hw : w < 64) (ho : mw op w = true) (hE : EQO op E E2) : K0 op sq n s w g E ↔ K0 op sq n s w g E2 := by
  have e : TRX op E sq n s = TRX op E2 sq n s := treU (E := E) (E2 := E2) (Q := fun _ => True) hn hS (fun _ _ _ _ _ => trivial) (fun j hj _ _ _ q => SEMo hE (hS j hj).1 q) (fun j hj _ => TRXs hn hS j hj) (fun j hj _ => TRXs hn hS j hj) s hs trivial
  unfold K0 KNW
  rw [e]
  exact ⟨fun q v hv a b => q v hv a (by rw [hE g hg w hw v hv ho a]; exact b), fun q v hv a b => q v hv a (by rw [← hE g hg w hw v hv ho a]; exact b)⟩
set_option maxRecDepth 16384 in
theorem EQE.eqo {op : Int64} {E E2 : Nat → Nat → Nat → Bool} (h : EQE E E2) : EQO op E E2 := fun g hg w hw v hv _ _ => h g hg w hw v hv
set_option maxRecDepth 16384 in
theorem K0skip {op : Int64} {kf ff sf : Nat → Int32} {pf gf : Nat → Int64} {sq : Nat → Nat → Int32} {n s w g a b : Nat} {E : Nat → Nat → Nat → Bool} (hB : BOK kf ff sf n) (hS : SOK n sq) (hK : SAMEB kf ff sf n sq) (hh : HNG kf ff sf pf gf n) (hs : s < n) (hb : b < 6) (hgb : ¬ b = g) (hns : ¬ mw (gf b) s = true) : K0 op sq n s w g (eNote E a b) ↔ K0 op sq n s w g E := by
  have hn := hB.1
  have e : TRX op E sq n s = TRX op (eNote E a b) sq n s := treU (E := E) (E2 := eNote E a b) (Q := fun j => ¬ mw (gf b) j = true) hn hS (fun j hj q i hi m => q (((hh.2 b hb).2 j hj).2 i (by
    obtain ⟨k1, k2, k3⟩ := hK j hj
    unfold PRTC
    rw [k1, k2, k3]
    rcases hi with ⟨x, y⟩ | ⟨x, y, z⟩
    · exact Or.inl ⟨x, y⟩
    · exact Or.inr ⟨⟨x, y⟩, z⟩) m)) (fun j hj q T0 r h => SEMn (hS j hj).1 (fun m => q (((hh.2 b hb).2 j hj).1 (by
    obtain ⟨k1, k2, k3⟩ := hK j hj
    rw [k1, k2]
    exact m))) h) (fun j hj _ => TRXs hn hS j hj) (fun j hj _ => TRXs hn hS j hj) s hs hns
  unfold K0 KNW
  rw [← e]
  have ef : ∀ v, eNote E a b g w v = E g w v := fun v => eNoteF (fun q => hgb q.symm)
  exact ⟨fun q v hv x y => q v hv x (by rw [ef]; exact y), fun q v hv x y => q v hv x (by rw [← ef]; exact y)⟩
set_option maxRecDepth 16384 in
/-- a note that tells nothing new -/
theorem noNews {op : Int64} {E : Nat → Nat → Nat → Bool} {a b : Nat} (h : ∀ w, w < 64 → mw op w = true → ∀ v, v < 64 → mw op v = true → E b w v = true → E a w v = true) : EQO op (eNote E a b) E := fun g hg w hw v hv x y => by
  by_cases e : g = b
  · subst e
    apply Bool.eq_iff_iff.mpr
    rw [eNoteT]
    exact ⟨fun q => q.1, fun q => ⟨q, h w hw x v hv y q⟩⟩
  · exact eNoteF e
set_option maxRecDepth 16384 in
/-- weighed again after a note: right on all the parts -/
theorem reweigh {op : Int64} {kf ff sf : Nat → Int32} {pf gf wg wg2 : Nat → Int64} {n s a b : Nat} {E : Nat → Nat → Nat → Bool} (hB : BOK kf ff sf n) (hh : HNG kf ff sf pf gf n) (hs : s < n) (hb : b < 6) (hT : ∀ j, j < 40 → mw (pf s) j = true → SEM op E (kf j) (ff j) (sf j) wg (wg j)) (hk : ∀ j, j < 40 → ¬ mw (gf b &&& pf s) j = true → wg2 j = wg j) (hn2 : ∀ j, j < 40 → mw (gf b &&& pf s) j = true → SEM op (eNote E a b) (kf j) (ff j) (sf j) wg2 (wg2 j)) : ∀ j, j < 40 → mw (pf s) j = true → SEM op (eNote E a b) (kf j) (ff j) (sf j) wg2 (wg2 j) := by
  intro j hj hm
  by_cases q : mw (gf b) j = true
  · exact hn2 j hj (mwA.mpr ⟨q, hm⟩)
  · have hn := hB.1
    obtain ⟨l, cl⟩ := (hh.1 s hs).2 j (by omega) hm
    have l2 : j < n := by omega
    have hwf := hB.2 j l2
    have go : ∀ i, PRTC kf ff sf j i → wg i = wg2 i := fun i hi => by
      have l3 := PRTC.lt hB l2 hi
      refine (hk i (by omega) (fun m => q (((hh.2 b hb).2 j l2).2 i hi (mwA.mp m).1))).symm
    have h1 := SEMp (T2 := wg2) hwf (by omega) (fun x => go _ (Or.inl ⟨x, rfl⟩)) (fun x y => go _ (Or.inr ⟨⟨x, y⟩, rfl⟩)) (hT j hj hm)
    have h2 := SEMn (a := a) hwf (fun m => q (((hh.2 b hb).2 j l2).1 m)) h1
    rw [hk j hj (fun m => q (mwA.mp m).1)]
    exact h2
set_option maxRecDepth 16384 in
theorem tX0_hangingOn {post : Int64 → Prop} {pf gf : Nat → Int64} {n s b : Nat} (hn : n ≤ 40) (hs : s < n) (hb : b < 6) (h : post (gf b &&& pf s)) : wX0_hangingOn post pf gf (nI n) (nI b) (nI s) := tX2_isGuardN (fun q => absurd ⟨b, hb, rfl⟩ q) (fun g hg e => ifY2 ⟨nI_in hb (by decide), tX0_partsOf hs hn (by rw [nI_clamp (show b < 2 ^ 31 by omega)]; exact h)⟩)
set_option maxRecDepth 16384 in
theorem hcl' {kf ff sf : Nat → Int32} {pf gf : Nat → Int64} {n s : Nat} (hh : HNG kf ff sf pf gf n) (hs : s < n) : ∀ j, j < 64 → mw (pf s) j = true → j < n ∧ ∀ i, PRTC kf ff sf j i → mw (pf s) i = true := fun j hj q => by
  obtain ⟨l, r⟩ := (hh.1 s hs).2 j hj q
  exact ⟨by omega, r⟩
set_option maxRecDepth 16384 in
theorem cpyCD {dk uk : Nat → Int64} {E : Nat → Nat → Nat → Bool} (hC : CD dk E) : CD (va_cpy dk uk 0 0 384) E := fun g hg b hb v hv => by
  rw [cpyAt _ _ _ (by omega)]
  exact hC g hg b hb v hv
set_option maxRecDepth 16384 in
theorem cpyT {op : Int64} {E : Nat → Nat → Nat → Bool} {kf ff sf : Nat → Int32} {pf wg uw : Nat → Int64} {n s : Nat} (hB : BOK kf ff sf n) (hp : ∀ j, j < 40 → mw (pf s) j = true → j < n) (hT : ∀ j, j < 40 → mw (pf s) j = true → SEM op E (kf j) (ff j) (sf j) wg (wg j)) : ∀ j, j < 40 → mw (pf s) j = true → SEM op E (kf j) (ff j) (sf j) (va_cpy wg uw 0 0 40) (va_cpy wg uw 0 0 40 j) := fun j hj hm => by
  have l := hp j hj hm
  have hn := hB.1
  rw [cpyAt _ _ _ hj]
  exact SEMc (hB.2 j l) (by omega) (fun i hi => (cpyAt _ _ _ (by omega)).symm) (hT j hj hm)
set_option maxRecDepth 16384 in
theorem tX2_oneNote_L42 {post : Int32 → (Nat → Int64) × (Nat → Int64) × Int64 × Int32 → Prop} {K102 : Int32 → (Nat → Int64) → (Nat → Int64) → Int64 → Int32 → Prop} {dk wg : Nat → Int64} {op : Int64} {E : Nat → Nat → Nat → Bool} {kf ff sf : Nat → Int32} {pf gf : Nat → Int64} {n s g b w : Nat} {sq : Nat → Nat → Int32} (hC : CD dk E) (hq : EQV E) (hB : BOK kf ff sf n) (hS : SOK n sq) (hK : SAMEB kf ff sf n sq) (hh : HNG kf ff sf pf gf n) (hT : ∀ j, j < 40 → mw (pf s) j = true → SEM op E (kf j) (ff j) (sf j) wg (wg j)) (hs : s < n) (hg : g < 6) (hb : b < 6) (hw : w < 64) (ho : mw op w = true) (n0 : ¬ K0 op sq n s w g E) (hyes : ∀ u, (∃ a, a < 6 ∧ ¬ a = b ∧ K0 op sq n s w g (eNote E a b)) → post 1 u) (hno : (∀ a, a < 6 → ¬ a = b → ¬ K0 op sq n s w g (eNote E a b)) → ∀ i u0 u1 u2 u3, K102 i u0 u1 u2 u3) : ∀ (m k : Nat) (u0 u1 : Nat → Int64) (u2 : Int64) (u3 : Int32), k + m = 6 → (∀ a, a < k → ¬ a = b → ¬ K0 op sq n s w g (eNote E a b)) → wX2_oneNoteDoes_L42 post K102 dk wg op (nI w) kf ff sf (nI n) (nI g) (nI s) (nI b) (gf b &&& pf s) (m + 1) (nI k) u0 u1 u2 u3 := by
  have hn := hB.1
  intro m
  induction m with
  | zero =>
    intro k u0 u1 u2 u3 h hi
    obtain rfl : k = 6 := by omega
    exact ⟨fun _ => hno hi _ _ _ _ _, fun q => absurd (by decide) q⟩
  | succ m ih =>
    intro k u0 u1 u2 u3 h hi
    have hk : k < 6 := by omega
    have next : (¬ k = b → ¬ K0 op sq n s w g (eNote E k b)) → ∀ u0 u1 u2 u3, wX2_oneNoteDoes_L42 post K102 dk wg op (nI w) kf ff sf (nI n) (nI g) (nI s) (nI b) (gf b &&& pf s) (m + 1) (nI k + 1) u0 u1 u2 u3 := fun q u0 u1 u2 u3 => by
      rw [← nI_succ]
      refine ih (k + 1) u0 u1 u2 u3 (by omega) (fun a ha ne => ?_)
      rcases Nat.lt_succ_iff_lt_or_eq.mp ha with e | e
      · exact hi a e ne
      · subst e
        exact q ne
    refine ⟨fun q => absurd q (notLe (a := 6) hk (by decide)), fun _ => ⟨fun ne => ?_, fun e => next (fun q => absurd (nIinj (by omega) (by omega) e) q) _ _ _ _⟩⟩
    have hkb : ¬ k = b := fun e => ne (by rw [e])
    unfold wX1_copyFrom
    refine tX1_passOn (cpyCD hC) hk hb hkb (fun d hd hnn => ifN (next (fun _ q => n0 ((K0same hn hS hs hg hw ho (noNews hnn)).mp q)) _ _ _ _)) (fun d hd => ifY ?_)
    refine tX1_weigh hd (eNoteQ hq k b) hB (fun j hj q => (hcl' hh hs j (by omega) (mwA.mp q).2).1) (fun wg2 keep new => ?_)
    have hT2 := reweigh (a := k) hB hh hs hb (cpyT (uw := u1) hB (fun j hj hm => (hcl' hh hs j (by omega) hm).1) hT) keep new
    have e := TRPx hB hS hK (hcl' hh hs) hT2 s (by omega) (hh.1 s hs).1
    refine tX1_knows hd hg hw hs hn (fun q => ifN2 (next (fun _ r => q ?_) _ _ _ _)) (fun q => ifY2 (hyes _ ⟨k, hk, hkb, ?_⟩))
    · rw [e]
      exact r
    · rw [e] at q
      exact q
set_option maxRecDepth 16384 in
theorem tX2_oneNote_L3 {post : Int32 → (Nat → Int64) × (Nat → Int64) × Int64 × Int32 → Prop} {K108 : Int32 → (Nat → Int64) → (Nat → Int64) → Int64 → Int32 → Prop} {dk wg : Nat → Int64} {op : Int64} {E : Nat → Nat → Nat → Bool} {kf ff sf : Nat → Int32} {pf gf : Nat → Int64} {n s g w : Nat} {sq : Nat → Nat → Int32} (hC : CD dk E) (hq : EQV E) (hB : BOK kf ff sf n) (hS : SOK n sq) (hK : SAMEB kf ff sf n sq) (hh : HNG kf ff sf pf gf n) (hT : ∀ j, j < 40 → mw (pf s) j = true → SEM op E (kf j) (ff j) (sf j) wg (wg j)) (hs : s < n) (hg : g < 6) (hw : w < 64) (ho : mw op w = true) (n0 : ¬ K0 op sq n s w g E) (hyes : ∀ u, (∃ a b, a < 6 ∧ b < 6 ∧ ¬ a = b ∧ K0 op sq n s w g (eNote E a b)) → post 1 u) (hno : (∀ b, b < 6 → ∀ a, a < 6 → ¬ a = b → ¬ K0 op sq n s w g (eNote E a b)) → ∀ i u0 u1 u2 u3, K108 i u0 u1 u2 u3) : ∀ (m k : Nat) (u0 u1 : Nat → Int64) (u2 : Int64) (u3 : Int32), k + m = 6 → (∀ b, b < k → ∀ a, a < 6 → ¬ a = b → ¬ K0 op sq n s w g (eNote E a b)) → wX2_oneNoteDoes_L3 post K108 dk wg op (nI w) kf ff sf pf gf (nI n) (nI g) (nI s) (m + 1) (nI k) u0 u1 u2 u3 := by
  have hn := hB.1
  intro m
  induction m with
  | zero =>
    intro k u0 u1 u2 u3 h hi
    obtain rfl : k = 6 := by omega
    exact ⟨fun _ => hno hi _ _ _ _ _, fun q => absurd (by decide) q⟩
  | succ m ih =>
    intro k u0 u1 u2 u3 h hi
    have hk : k < 6 := by omega
    have next : (∀ a, a < 6 → ¬ a = k → ¬ K0 op sq n s w g (eNote E a k)) → ∀ u0 u1 u2 u3, wX2_oneNoteDoes_L3 post K108 dk wg op (nI w) kf ff sf pf gf (nI n) (nI g) (nI s) (m + 1) (nI k + 1) u0 u1 u2 u3 := fun q u0 u1 u2 u3 => by
      rw [← nI_succ]
      refine ih (k + 1) u0 u1 u2 u3 (by omega) (fun b hb => ?_)
      rcases Nat.lt_succ_iff_lt_or_eq.mp hb with e | e
      · exact hi b e
      · subst e
        exact q
    have l42 : ∃ nF, wX2_oneNoteDoes_L42 post (fun i8 uk' uw' uo' ur' => wX2_oneNoteDoes_L3 post K108 dk wg op (nI w) kf ff sf pf gf (nI n) (nI g) (nI s) (m + 1) (nI k + 1) uk' uw' uo' ur') dk wg op (nI w) kf ff sf (nI n) (nI g) (nI s) (nI k) (gf k &&& pf s) nF 0 u0 u1 u2 u3 := ⟨7, tX2_oneNote_L42 hC hq hB hS hK hh hT hs hg hk hw ho n0 (fun u q => by
      obtain ⟨a, x, y, z⟩ := q
      exact hyes u ⟨a, k, x, hk, y, z⟩) (fun q _ u0 u1 u2 u3 => next q u0 u1 u2 u3) 6 0 u0 u1 u2 u3 rfl (fun a ha => absurd ha (Nat.not_lt_zero a))⟩
    refine ⟨fun q => absurd q (notLe (a := 6) hk (by decide)), fun _ => tX0_hangingOn hn hs hk ⟨fun _ => l42, fun ne => ⟨fun _ => l42, fun e => next (fun a ha hak r => n0 ((K0skip hB hS hK hh hs hk (fun e => ne (by rw [e])) (fun q => ?_)).mp r)) _ _ _ _⟩⟩⟩
    have : mw (gf k &&& pf s) s = true := mwA.mpr ⟨q, (hh.1 s hs).1⟩
    rw [(lg_cmp_eq _ _).mp e] at this
    exact mwZ this
def K1 (op : Int64) (sq : Nat → Nat → Int32) (n s w g : Nat) (E : Nat → Nat → Nat → Bool) : Prop := K0 op sq n s w g E ∨ ∃ a b, a < 6 ∧ b < 6 ∧ ¬ a = b ∧ K0 op sq n s w g (eNote E a b)
def K2 (op : Int64) (sq : Nat → Nat → Int32) (n s w g : Nat) (E : Nat → Nat → Nat → Bool) : Prop := K0 op sq n s w g E ∨ ∃ a b, a < 6 ∧ b < 6 ∧ ¬ a = b ∧ K1 op sq n s w g (eNote E a b)
set_option maxRecDepth 16384 in
theorem tX2_oneNoteDoes {post : Int32 → (Nat → Int64) × (Nat → Int64) × Int64 × Int32 → Prop} {dk wg uk uw : Nat → Int64} {op uo : Int64} {ur : Int32} {E : Nat → Nat → Nat → Bool} {kf ff sf : Nat → Int32} {pf gf : Nat → Int64} {n s g w : Nat} {sq : Nat → Nat → Int32} (hC : CD dk E) (hq : EQV E) (hB : BOK kf ff sf n) (hS : SOK n sq) (hK : SAMEB kf ff sf n sq) (hh : HNG kf ff sf pf gf n) (hT : ∀ j, j < 40 → mw (pf s) j = true → SEM op E (kf j) (ff j) (sf j) wg (wg j)) (hs : s < n) (hg : g < 6) (hw : w < 64) (ho : mw op w = true) (n0 : ¬ K0 op sq n s w g E) (hyes : ∀ u, K1 op sq n s w g E → post 1 u) (hno : ∀ u, ¬ K1 op sq n s w g E → post 0 u) : wX2_oneNoteDoes post dk wg op (nI w) uk uw uo ur kf ff sf pf gf (nI n) (nI g) (nI s) :=
  ⟨7, tX2_oneNote_L3 hC hq hB hS hK hh hT hs hg hw ho n0 (fun u q => hyes u (Or.inr q)) (fun q _ _ _ _ _ => hno _ (fun t => by
    rcases t with t | ⟨a, b, ha, hb, hab, t⟩
    · exact n0 t
    · exact q b hb a ha hab t)) 6 0 uk uw uo ur rfl (fun b hb => absurd hb (Nat.not_lt_zero b))⟩
