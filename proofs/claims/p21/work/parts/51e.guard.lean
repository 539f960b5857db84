/-! of a guard -/
theorem pcf_ins : ∀ (n x y t : Nat), (∀ i, i < n → ¬ i = t → x.testBit i = y.testBit i) → t < n → y.testBit t = true → x.testBit t = false → pcf n x + 1 = pcf n y := by
  intro n
  induction n with
  | zero => exact fun _ _ _ _ h => absurd h (Nat.not_lt_zero _)
  | succ n ih =>
    intro x y t h ht hy hx
    rw [pcf, pcf, tb0 x, tb0 y]
    cases t with
    | zero =>
      have h1 := pcf_ext n (x / 2) (y / 2) (fun i hi => by rw [← Nat.testBit_succ, ← Nat.testBit_succ]; exact h (i + 1) (by omega) (by omega))
      rw [hx, hy, h1, if_neg (by decide), if_pos rfl]
      omega
    | succ t =>
      rw [Nat.testBit_succ] at hx hy
      have h1 := ih (x / 2) (y / 2) t (fun i hi ne => by rw [← Nat.testBit_succ, ← Nat.testBit_succ]; exact h (i + 1) (by omega) (by omega)) (by omega) hy hx
      rw [h 0 (by omega) (by omega)]
      omega
theorem pc_ins {x y : Int64} {t : Nat} (ht : t < 64) (h : ∀ i, i < 64 → ¬ i = t → (mw x i = true ↔ mw y i = true)) (hy : mw y t = true) (hx : ¬ mw x t = true) : pc x + 1 = pc y := pcf_ins 64 _ _ t (fun i hi ne => Bool.eq_iff_iff.mpr (h i hi ne)) ht hy (nT hx)
/-- the values of a desk over a set of worlds -/
noncomputable def VAL (D : Nat → Int32) (R : Int64) : Int64 := Classical.choose (setOfP (fun u => ∃ w, w < 64 ∧ mw R w = true ∧ D w = nI u) 64 (Nat.le_refl _))
theorem VALs {D : Nat → Int32} {R : Int64} {u : Nat} (hu : u < 64) : mw (VAL D R) u = true ↔ ∃ w, w < 64 ∧ mw R w = true ∧ D w = nI u := (Classical.choose_spec (setOfP (fun u => ∃ w, w < 64 ∧ mw R w = true ∧ D w = nI u) 64 (Nat.le_refl _)) u hu).trans ⟨fun q => q.2, fun q => ⟨hu, q⟩⟩
theorem VAL0 (D : Nat → Int32) : pc (VAL D 0) = 0 := by
  have : VAL D 0 = 0 := mwX (fun u hu => ⟨fun q => by
    obtain ⟨w, _, a, _⟩ := (VALs hu).mp q
    exact absurd a mwZ, fun q => absurd q mwZ⟩)
  rw [this]
  exact pc_zero
/-- one class of worlds less is one value less -/
theorem VALstep {D : Nat → Int32} (hD : R64 D) {R R2 : Int64} {t : Nat} (ht : t < 64) (hm : mw R t = true) (h : ∀ w, w < 64 → (mw R2 w = true ↔ mw R w = true ∧ ¬ D t = D w)) : pc (VAL D R2) + 1 = pc (VAL D R) := by
  obtain ⟨u, hu, eu⟩ := hD t ht
  refine pc_ins hu (fun i hi ne => ?_) ((VALs hu).mpr ⟨t, ht, hm, eu⟩) (fun q => ?_)
  · rw [VALs hi, VALs hi]
    constructor
    · rintro ⟨w, hw, a, b⟩
      exact ⟨w, hw, ((h w hw).mp a).1, b⟩
    · rintro ⟨w, hw, a, b⟩
      refine ⟨w, hw, (h w hw).mpr ⟨a, fun q => ne ?_⟩, b⟩
      exact (nIinj (by omega) (by omega) (eu.symm.trans (q.trans b))).symm
  · obtain ⟨w, hw, a, b⟩ := (VALs hu).mp q
    exact ((h w hw).mp a).2 (eu.trans b.symm)
theorem tX1_countCells_L10 {post : Int32 → Prop} {K48 : Int32 → Int64 → Int32 → Prop} {dk : Nat → Int64} {op : Int64} {DD : Nat → Nat → Int32} {g c : Nat} (hC : CD dk (ED DD)) (hD : DOK DD) (hg : g < 6) (hK : ∀ a b, K48 (nI c) a b) : ∀ (m k : Nat) (R : Int64), k + m = 64 → SUBW R op → pc R ≤ m → k + pc (VAL (DD g) R) = c → wX1_countCells_L10 post K48 dk op (nI g) (m + 1) (nI k) R (nI k) := by
  have fin : ∀ k R, R = 0 → k + pc (VAL (DD g) R) = c → K48 (nI k) R (nI k) := fun k R e h => by
    subst e
    rw [VAL0] at h
    obtain rfl : k = c := by omega
    exact hK _ _
  intro m
  induction m with
  | zero =>
    intro k R h hs hp hc
    obtain rfl : k = 64 := by omega
    exact ⟨fun _ => fin _ _ (pc_eq0 (by omega)) hc, fun q => absurd (by decide) q⟩
  | succ m ih =>
    intro k R h hs hp hc
    refine ⟨fun q => absurd q (notLe (a := 64) (by omega) (by decide)), fun _ => ⟨fun e => fin _ _ ((lg_cmp_eq _ _).mp e) hc, fun ne => tX2_smallestOf (x := R) (fun e => ne ((lg_cmp_eq _ _).mpr e)) (fun t ht hm => ?_)⟩⟩
    refine tX1_cell (E := ED DD) hC hg ht (fun r hr => ?_)
    have hd : ∀ w, w < 64 → (mw (R &&& (r ^^^ (-1 : Int64))) w = true ↔ mw R w = true ∧ ¬ DD g t = DD g w) := fun w hw => by
      rw [mwA, mwN hw, hr w hw]
      unfold ED
      rw [decide_eq_true_iff]
      exact ⟨fun q => ⟨q.1, fun e => q.2 ⟨e, hs w hw q.1⟩⟩, fun q => ⟨q.1, fun e => q.2 e.1⟩⟩
    have h1 := VALstep (hD g hg) ht hm hd
    have h2 := pcSub (a := R &&& (r ^^^ (-1 : Int64))) (b := R) (fun w hw q => ((hd w hw).mp q).1) (fun e => by
      have := (hd t ht).mp (by rw [e]; exact hm)
      exact this.2 rfl)
    rw [← nI_succ]
    exact ih (k + 1) _ (by omega) (fun w hw q => hs w hw ((hd w hw).mp q).1) (by omega) (by omega)
theorem tX1_countCells {post : Int32 → Prop} {dk : Nat → Int64} {op : Int64} {DD : Nat → Nat → Int32} {g : Nat} (hC : CD dk (ED DD)) (hD : DOK DD) (hg : g < 6) (h : post (nI (pc (VAL (DD g) op)))) : wX1_countCells post dk op (nI g) := by
  generalize hz : pc (VAL (DD g) op) = c at h
  exact ⟨65, tX1_countCells_L10 (c := c) hC hD hg (fun _ _ => h) 64 0 op rfl (fun _ _ q => q) (pc_le op) (by rw [Nat.zero_add, hz])⟩
theorem uX4_guardNow_L50 {post : Int32 → Prop} {K95 : Int64 → Int32 → Prop} {po : Int64} {DD : Nat → Nat → Int32} {g : Nat} (hD : DOK DD) (hg : g < 6) (hK : ∀ b, K95 (VAL (DD g) po) b) : ∀ (m k : Nat) (a : Int64), k + m = 64 → (∀ u, u < 64 → (mw a u = true ↔ ∃ w, w < k ∧ mw po w = true ∧ DD g w = nI u)) → wX4_guardNow_L50 post K95 po DD (nI g) (m + 1) a (nI k) := by
  intro m
  induction m with
  | zero =>
    intro k a h hs
    obtain rfl : k = 64 := by omega
    obtain rfl : a = VAL (DD g) po := mwX (fun u hu => (hs u hu).trans (VALs hu).symm)
    exact ⟨fun _ => hK _, fun q => absurd (by decide) q⟩
  | succ m ih =>
    intro k a h hs
    have hk : k < 64 := by omega
    refine ⟨fun c => absurd c (notLe (a := 64) hk (by decide)), fun _ => tX4_has_ hk (fun hm => ⟨fun _ => ?_, fun c => absurd rfl c⟩) (fun hm => ⟨fun c => absurd c (by decide), fun _ => ⟨nI_in hg (by decide), nI_in hk (by decide), fun x hx => ?_⟩⟩)⟩
    · rw [← nI_succ]
      refine ih (k + 1) _ (by omega) (fun u hu => ?_)
      rw [mwO, hs u hu]
      constructor
      · rintro (⟨w, q, r⟩ | q)
        · exact ⟨w, by omega, r⟩
        · exact absurd q mwZ
      · rintro ⟨w, q, r, s⟩
        rcases Nat.lt_succ_iff_lt_or_eq.mp q with e | e
        · exact Or.inl ⟨w, e, r, s⟩
        · subst e
          rw [hm] at r
          exact absurd r (by decide)
    · obtain ⟨y, hy, ey⟩ := hD g hg k hk
      rw [nI_clamp (show g < 2 ^ 31 by omega), nI_clamp (show k < 2 ^ 31 by omega), ey] at hx
      rw [← nI_succ]
      refine ih (k + 1) x (by omega) (fun u hu => ?_)
      rw [hx, mwO, hs u hu, mwB hy]
      constructor
      · rintro (⟨w, q, r⟩ | e)
        · exact ⟨w, by omega, r⟩
        · subst e
          exact ⟨k, by omega, hm, ey⟩
      · rintro ⟨w, q, r, t⟩
        rcases Nat.lt_succ_iff_lt_or_eq.mp q with e | e
        · exact Or.inl ⟨w, e, r, t⟩
        · subst e
          exact Or.inr (nIinj (by omega) (by omega) (ey.symm.trans t))
/-- the facts that are settled in a set of worlds -/
def SET (R : Int64) (f : Nat) : Prop := (∀ v, v < 64 → mw R v = true → v.testBit f = true) ∨ (∀ v, v < 64 → mw R v = true → v.testBit f = false)
theorem tX1_factsSettledFor_L16 {post : Int32 → Prop} {K67 : Int32 → Int32 → Prop} {R : Int64} (hK : ∀ t b, MSK (SET R) 6 t → K67 (nI t) b) : ∀ (m k t : Nat), k + m = 6 → MSK (SET R) k t → wX1_factsSettledFor_L16 post K67 R (m + 1) (nI t) (nI k) := by
  intro m
  induction m with
  | zero =>
    intro k t h ht
    obtain rfl : k = 6 := by omega
    exact ⟨fun _ => hK _ _ ht, fun q => absurd (by decide) q⟩
  | succ m ih =>
    intro k t h ht
    have hk : k < 6 := by omega
    have e1 : SUBW R (wof k) ↔ ∀ v, v < 64 → mw R v = true → v.testBit k = true := ⟨fun q v hv a => by rw [← wofB2 k hk v hv]; exact q v hv a, fun q v hv a => by rw [wofB2 k hk v hv]; exact q v hv a⟩
    have e2 : SUBW R (wof k ^^^ (-1 : Int64)) ↔ ∀ v, v < 64 → mw R v = true → v.testBit k = false := ⟨fun q v hv a => by
      have := (mwN hv).mp (q v hv a)
      rw [wofB2 k hk v hv] at this
      exact nT this, fun q v hv a => (mwN hv).mpr (by
      rw [wofB2 k hk v hv, q v hv a]
      decide)⟩
    have yes : SET R k → wX1_factsSettledFor_L16 post K67 R (m + 1) (nI t ||| ((1 : Int32) <<< (nI k &&& 31))) (nI k + 1) := fun q => by
      rw [← nI_succ, shB k hk, orI k hk t ht.1]
      exact ih (k + 1) _ (by omega) (ht.yes hk q)
    refine ⟨fun q => absurd q (notLe (a := 6) hk (by decide)), fun _ => tX2_worldsOfFact hk (tX2_isWithin (fun q => ifN (tX2_isWithin (fun q2 => ifN2 ?_) (fun q2 => ifY2 (yes (Or.inr (e2.mp q2)))))) (fun q => ifY (yes (Or.inl (e1.mp q)))))⟩
    rw [← nI_succ]
    exact ih (k + 1) t (by omega) (ht.no (fun s => s.elim (fun s => q (e1.mpr s)) (fun s => q2 (e2.mpr s))))
theorem uX4_guardNow_L110 {post : Int32 → Prop} {K168 : Int32 → Int32 → Prop} {po R : Int64} (hR : SUBW R po) (hK : ∀ t b, MSK (SET R) 6 t → K168 (nI t) b) : ∀ (m k t : Nat), k + m = 6 → MSK (SET R) k t → wX4_guardNow_L110 post K168 po R (m + 1) (nI t) (nI k) := by
  intro m
  induction m with
  | zero =>
    intro k t h ht
    obtain rfl : k = 6 := by omega
    exact ⟨fun _ => hK _ _ ht, fun q => absurd (by decide) q⟩
  | succ m ih =>
    intro k t h ht
    have hk : k < 6 := by omega
    have yes : SET R k → wX4_guardNow_L110 post K168 po R (m + 1) (nI t ||| ((1 : Int32) <<< (nI k &&& 31))) (nI k + 1) := fun q => by
      rw [← nI_succ, shB k hk, orI k hk t ht.1]
      exact ih (k + 1) _ (by omega) (ht.yes hk q)
    refine ⟨fun q => absurd q (notLe (a := 6) hk (by decide)), fun _ => uX4_fact hk (fun x hx => ⟨fun e => yes (Or.inr (fun v hv a => nT (fun b => ?_))), fun ne => uX4_fact hk (fun y hy => ⟨fun n2 => ?_, fun e => yes (Or.inl (fun v hv a => ((hy v hv).mp (subIff.mp e v hv a)).2))⟩)⟩)⟩
    · have : mw (R &&& x) v = true := mwA.mpr ⟨a, (hx v hv).mpr ⟨hR v hv a, b⟩⟩
      rw [(lg_cmp_eq _ _).mp e] at this
      exact mwZ this
    · rw [← nI_succ, or0 t ht.1]
      refine ih (k + 1) t (by omega) (ht.no (fun s => s.elim (fun s => n2 (subIff.mpr (fun v hv a => (hy v hv).mpr ⟨hR v hv a, s v hv a⟩))) (fun s => ne ((lg_cmp_eq _ _).mpr (mwX (fun v hv => ⟨fun q => ?_, fun q => absurd q mwZ⟩))))))
      have q1 := mwA.mp q
      have := ((hx v hv).mp q1.2).2
      rw [s v hv q1.1] at this
      exact absurd this (by decide)
/-- who sees as sharply -/
def SHP (op : Int64) (E : Nat → Nat → Nat → Bool) (g : Nat) (h : Nat) : Prop := ∀ w, w < 64 → mw op w = true → ∀ v, v < 64 → mw op v = true → E h w v = true → E g w v = true
theorem tX1_isAsSharpAs_L2 {post : Int32 → Prop} {K45 : Int32 → Prop} {dk : Nat → Int64} {op : Int64} {E : Nat → Nat → Nat → Bool} {g h : Nat} (hC : CD dk E) (hg : g < 6) (hh : h < 6) (h0 : ¬ SHP op E g h → post 0) (hK : SHP op E g h → ∀ b, K45 b) : ∀ (m k : Nat), k + m = 64 → (∀ w, w < k → mw op w = true → ∀ v, v < 64 → mw op v = true → E h w v = true → E g w v = true) → wX1_isAsSharpAs_L2 post K45 dk op (nI h) (nI g) (m + 1) (nI k) := by
  intro m
  induction m with
  | zero =>
    intro k hk hi
    obtain rfl : k = 64 := by omega
    exact ⟨fun _ => hK hi _, fun q => absurd (by decide) q⟩
  | succ m ih =>
    intro k hkm hi
    have hk : k < 64 := by omega
    refine ⟨fun q => absurd q (notLe (a := 64) hk (by decide)), fun _ => tX2_has hk (fun hm => ifN2 ?_) (fun hm => ifY2 (tX1_cell hC hh hk (fun r hr => tX1_cell hC hg hk (fun r2 hr2 => tX2_isWithin (fun q => ifN (h0 (fun s => q (fun v hv a => (hr2 v hv).mpr ⟨s k hk hm v hv ((hr v hv).mp a).2 ((hr v hv).mp a).1, ((hr v hv).mp a).2⟩)))) (fun q => ifY ?_)))))⟩
    · rw [← nI_succ]
      refine ih (k + 1) (by omega) (fun w hw a => ?_)
      rcases Nat.lt_succ_iff_lt_or_eq.mp hw with e | e
      · exact hi w e a
      · subst e
        exact absurd a hm
    · rw [← nI_succ]
      refine ih (k + 1) (by omega) (fun w hw a v hv b c => ?_)
      rcases Nat.lt_succ_iff_lt_or_eq.mp hw with e | e
      · exact hi w e a v hv b c
      · subst e
        exact ((hr2 v hv).mp (q v hv ((hr v hv).mpr ⟨c, b⟩))).1
theorem tX1_isAsSharpAs {post : Int32 → Prop} {dk : Nat → Int64} {op : Int64} {E : Nat → Nat → Nat → Bool} {g h : Nat} (hC : CD dk E) (hg : g < 6) (hh : h < 6) (h0 : ¬ SHP op E g h → post 0) (h1 : SHP op E g h → post 1) : wX1_isAsSharpAs post dk op (nI h) (nI g) := ⟨65, tX1_isAsSharpAs_L2 hC hg hh h0 (fun q _ => h1 q) 64 0 rfl (fun w hw => absurd hw (Nat.not_lt_zero w))⟩
theorem tX1_asSharpAs_L4 {post : Int32 → Prop} {K31 : Int32 → Int32 → Prop} {dk : Nat → Int64} {op : Int64} {E : Nat → Nat → Nat → Bool} {g : Nat} (hC : CD dk E) (hg : g < 6) (hK : ∀ t b, MSK (SHP op E g) 6 t → K31 (nI t) b) : ∀ (m k t : Nat), k + m = 6 → MSK (SHP op E g) k t → wX1_asSharpAs_L4 post K31 dk op (nI g) (m + 1) (nI t) (nI k) := by
  intro m
  induction m with
  | zero =>
    intro k t h ht
    obtain rfl : k = 6 := by omega
    exact ⟨fun _ => hK _ _ ht, fun q => absurd (by decide) q⟩
  | succ m ih =>
    intro k t h ht
    have hk : k < 6 := by omega
    refine ⟨fun q => absurd q (notLe (a := 6) hk (by decide)), fun _ => tX1_isAsSharpAs hC hg hk (fun q => ifN2 ?_) (fun q => ifY2 ?_)⟩
    · rw [← nI_succ]
      exact ih (k + 1) t (by omega) (ht.no q)
    · rw [← nI_succ, shB k hk, orI k hk t ht.1]
      exact ih (k + 1) _ (by omega) (ht.yes hk q)
theorem uX4_isFiner_L11 {post : Int32 → Prop} {K88 : Int32 → Prop} {po : Int64} {DD : Nat → Nat → Int32} {g h w : Nat} (hg : g < 6) (hh : h < 6) (hw : w < 64) (h0 : ¬ SHP po (ED DD) g h → post 0) (hK : (mw po w = true → ∀ v, v < w → mw po v = true → ED DD h w v = true → ED DD g w v = true) → ∀ b, K88 b) : ∀ (m k : Nat), k + m = w → (mw po w = true → ∀ v, v < k → mw po v = true → ED DD h w v = true → ED DD g w v = true) → wX4_isFiner_L11 post K88 po DD (nI h) (nI g) (nI w) (m + 1) (nI k) := by
  intro m
  induction m with
  | zero =>
    intro k hk hi
    obtain rfl : k = w := by omega
    exact ⟨fun _ => hK hi _, fun q => absurd (Int32.le_refl _) q⟩
  | succ m ih =>
    intro k hkm hi
    have hk : k < 64 := by omega
    have go : (mw po w = true → mw po k = true → ED DD h w k = true → ED DD g w k = true) → wX4_isFiner_L11 post K88 po DD (nI h) (nI g) (nI w) (m + 1) (nI k + 1) := fun q => by
      rw [← nI_succ]
      refine ih (k + 1) (by omega) (fun a v hv b c => ?_)
      rcases Nat.lt_succ_iff_lt_or_eq.mp hv with e | e
      · exact hi a v e b c
      · subst e
        exact q a b c
    refine ⟨fun q => absurd q (notLe (a := w) (by omega) (by omega)), fun _ => tX4_has_ hw (fun a => ifN2 (go (fun b => by rw [a] at b; exact absurd b (by decide)))) (fun a => ifY2 (tX4_has_ hk (fun b => ifN2 (go (fun _ c => by rw [b] at c; exact absurd c (by decide)))) (fun b => ifY2 ⟨nI_in hh (by decide), nI_in hw (by decide), nI_in hh (by decide), nI_in hk (by decide), ?_⟩)))⟩
    rw [nI_clamp (show h < 2 ^ 31 by omega), nI_clamp (show g < 2 ^ 31 by omega), nI_clamp (show w < 2 ^ 31 by omega), nI_clamp (show k < 2 ^ 31 by omega)]
    refine ⟨fun q => go (fun _ _ c => absurd (of_decide_eq_true c) q), fun q => ⟨nI_in hg (by decide), nI_in hw (by decide), nI_in hg (by decide), nI_in hk (by decide), fun r => go (fun _ _ _ => decide_eq_true r), fun r => h0 (fun s => r (of_decide_eq_true (s w hw a k hk b (decide_eq_true q))))⟩⟩
theorem uX4_isFiner_L2 {post : Int32 → Prop} {K94 : Int32 → Prop} {po : Int64} {DD : Nat → Nat → Int32} {g h : Nat} (hg : g < 6) (hh : h < 6) (h0 : ¬ SHP po (ED DD) g h → post 0) (hK : SHP po (ED DD) g h → ∀ b, K94 b) : ∀ (m k : Nat), k + m = 64 → (∀ w, w < k → mw po w = true → ∀ v, v < w → mw po v = true → ED DD h w v = true → ED DD g w v = true) → wX4_isFiner_L2 post K94 po DD (nI h) (nI g) (m + 1) (nI k) := by
  intro m
  induction m with
  | zero =>
    intro k hk hi
    obtain rfl : k = 64 := by omega
    refine ⟨fun _ => hK (fun w hw a v hv b c => ?_) _, fun q => absurd (by decide) q⟩
    rcases Nat.lt_trichotomy v w with e | e | e
    · exact hi w hw a v e b c
    · subst e
      exact decide_eq_true rfl
    · exact (EDq DD).2.1 g v w (hi v hv b w e a ((EDq DD).2.1 h w v c))
  | succ m ih =>
    intro k hkm hi
    have hk : k < 64 := by omega
    refine ⟨fun q => absurd q (notLe (a := 64) hk (by decide)), fun _ => ⟨k + 1, uX4_isFiner_L11 hg hh hk h0 (fun q b => ?_) k 0 (Nat.zero_add k) (fun _ v hv => absurd hv (Nat.not_lt_zero v))⟩⟩
    rw [← nI_succ]
    refine ih (k + 1) (by omega) (fun w hw => ?_)
    rcases Nat.lt_succ_iff_lt_or_eq.mp hw with e | e
    · exact hi w e
    · subst e
      exact q
theorem uX4_isFiner {post : Int32 → Prop} {po : Int64} {DD : Nat → Nat → Int32} {g h : Nat} (hg : g < 6) (hh : h < 6) (h0 : ¬ SHP po (ED DD) g h → post 0) (h1 : SHP po (ED DD) g h → post 1) : wX4_isFiner post po DD (nI h) (nI g) := ⟨65, uX4_isFiner_L2 hg hh h0 (fun q _ => h1 q) 64 0 rfl (fun w hw => absurd hw (Nat.not_lt_zero w))⟩
theorem uX4_guardNow_L181 {post : Int32 → Prop} {K217 : Int32 → Int32 → Prop} {po : Int64} {DD : Nat → Nat → Int32} {g : Nat} (hg : g < 6) (hK : ∀ t b, MSK (SHP po (ED DD) g) 6 t → K217 (nI t) b) : ∀ (m k t : Nat), k + m = 6 → MSK (SHP po (ED DD) g) k t → wX4_guardNow_L181 post K217 po DD (nI g) (m + 1) (nI t) (nI k) := by
  intro m
  induction m with
  | zero =>
    intro k t h ht
    obtain rfl : k = 6 := by omega
    exact ⟨fun _ => hK _ _ ht, fun q => absurd (by decide) q⟩
  | succ m ih =>
    intro k t h ht
    have hk : k < 6 := by omega
    refine ⟨fun q => absurd q (notLe (a := 6) hk (by decide)), fun _ => uX4_isFiner hg hk (fun q => ifN2 ?_) (fun q => ifY2 ?_)⟩
    · rw [← nI_succ, or0 t ht.1]
      exact ih (k + 1) t (by omega) (ht.no q)
    · rw [← nI_succ, shB k hk, orI k hk t ht.1]
      exact ih (k + 1) _ (by omega) (ht.yes hk q)
