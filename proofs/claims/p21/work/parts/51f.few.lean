/-! of a guard: the calls -/
theorem mskEx (P : Nat → Prop) : ∀ k, k ≤ 6 → ∃ t, MSK P k t := by
  intro k
  induction k with
  | zero => exact fun _ => ⟨0, MSK.zero⟩
  | succ k ih =>
    intro h
    obtain ⟨t, ht⟩ := ih (by omega)
    by_cases q : P k
    · exact ⟨_, ht.yes (by omega) q⟩
    · exact ⟨t, ht.no q⟩
noncomputable def mko (P : Nat → Prop) : Nat := Classical.choose (mskEx P 6 (Nat.le_refl _))
theorem mkoE {P : Nat → Prop} {t : Nat} (h : MSK P 6 t) : t = mko P := MSK.eq h (Classical.choose_spec (mskEx P 6 (Nat.le_refl _))) (fun _ _ => Iff.rfl)
noncomputable def guardV (op : Int64) (DD : Nat → Nat → Int32) (T : Nat → Int64) (n w g i : Nat) : Int32 := if i = 0 then nI (pc (VAL (DD g) op)) else if i = 1 then nI (pc (ALK op (ED DD) w g)) else if i = 2 then nI (mko (SET (ALK op (ED DD) w g))) else if i = 3 then nI (cntP (KNT op (ED DD) T g w) n) else nI (mko (SHP op (ED DD) g))
theorem guardT {op : Int64} {DD : Nat → Nat → Int32} {T T2 : Nat → Int64} {n w g : Nat} (h : ∀ s, s < n → T s = T2 s) (i : Nat) : guardV op DD T n w g i = guardV op DD T2 n w g i := by
  unfold guardV
  rw [knT h]
theorem txL_ofGuard {post : Int32 → Int64 → Prop} {dk wg : Nat → Int64} {op : Int64} {DD : Nat → Nat → Int32} {n w : Nat} {on : Int64} {p1 p2 : Int32} (hC : CD dk (ED DD)) (hD : DOK DD) (hn : n ≤ 40) (hw : w < 64) (h1 : ∀ g, g < 6 → p1 = nI g → ∀ i, i < 5 → p2 = nI i → post 0 (guardV op DD wg n w g i).toInt64) (h2 : ¬ IN p1 6 → post 1 on) (h3 : IN p1 6 → ¬ IN p2 5 → post 2 on) : wxL_ofGuard post dk wg op (nI w) (nI n) on p1 p2 := by
  unfold wxL_ofGuard wxX2_ofGuard
  refine tX2_isGuardN (fun q => ifN (Or.inl ⟨rfl, h2 q⟩)) (fun g hg e => ifY ?_)
  subst e
  by_cases hi : IN p2 5
  · obtain ⟨i, hi, rfl⟩ := hi
    have h := h1 g hg rfl i hi rfl
    unfold guardV at h
    rcases (show i = 0 ∨ i = 1 ∨ i = 2 ∨ i = 3 ∨ i = 4 by omega) with rfl | rfl | rfl | rfl | rfl
    · exact iT rfl (tX1_countCells hC hD hg h)
    · refine iF (by decide) (iT rfl (tX1_cell hC hg hw (fun r hr => eJ13_bitCount ?_)))
      rw [ALKe hr]
      exact h
    · refine iF (by decide) (iF (by decide) (iT rfl (tX1_cell hC hg hw (fun r hr => ⟨7, tX1_factsSettledFor_L16 (fun t _ ht => ?_) 6 0 0 rfl MSK.zero⟩))))
      rw [ALKe hr] at ht
      rw [mkoE ht]
      exact h
    · exact iF (by decide) (iF (by decide) (iF (by decide) (iT rfl (tX1_countKnownBy hC hn hg hw h))))
    · refine iF (by decide) (iF (by decide) (iF (by decide) (iF (by decide) (iT rfl ⟨7, tX1_asSharpAs_L4 hC hg (fun t _ ht => ?_) 6 0 0 rfl MSK.zero⟩))))
      rw [mkoE ht]
      exact h
  · have no : ∀ k, k < 5 → ¬ p2 = nI k := fun k hk q => hi ⟨k, hk, q⟩
    exact iF (no 0 (by decide)) (iF (no 1 (by decide)) (iF (no 2 (by decide)) (iF (no 3 (by decide)) (iF (no 4 (by decide)) (Or.inr ⟨rfl, h3 ⟨g, hg, rfl⟩ hi⟩)))))
theorem uX4_guardNow {post : Int32 → Prop} {po : Int64} {DD : Nat → Nat → Int32} {yf : Nat → Int64} {n g w i : Nat} (hD : DOK DD) (hn : n ≤ 40) (hg : g < 6) (hw : w < 64) (ho : mw po w = true) (hi : i < 5) (h : post (guardV po DD yf n w g i)) : wX4_guardNow post (nI w) po DD n yf (nI g) (nI i) := by
  refine tX4_alikeNow hg hw (fun r hr0 => ?_)
  have hr : ∀ v, v < 64 → (mw r v = true ↔ ED DD g w v = true ∧ mw po v = true) := fun v hv => (hr0 v hv).trans ⟨fun q => q.2, fun q => ⟨ho, q⟩⟩
  obtain rfl := ALKe hr
  unfold guardV at h
  rcases (show i = 0 ∨ i = 1 ∨ i = 2 ∨ i = 3 ∨ i = 4 by omega) with rfl | rfl | rfl | rfl | rfl
  · exact iT rfl ⟨65, uX4_guardNow_L50 hD hg (fun _ => eX4_size_ h) 64 0 0 rfl (fun u hu => ⟨fun q => absurd q mwZ, fun q => by
      obtain ⟨v, hv, -⟩ := q
      exact absurd hv (Nat.not_lt_zero v)⟩)⟩
  · exact iF (by decide) (iT rfl (eX4_size_ h))
  · refine iF (by decide) (iF (by decide) (iT rfl ⟨7, uX4_guardNow_L110 (fun v hv q => ((hr v hv).mp q).2) (fun t _ ht => ?_) 6 0 0 rfl MSK.zero⟩))
    rw [mkoE ht]
    exact h
  · exact iF (by decide) (iF (by decide) (iF (by decide) (iT rfl (uX4_knows hn hg hw ho h))))
  · refine iF (by decide) (iF (by decide) (iF (by decide) (iF (by decide) ⟨7, uX4_guardNow_L181 hg (fun t _ ht => ?_) 6 0 0 rfl MSK.zero⟩)))
    rw [mkoE ht]
    exact h
theorem vX4_ofGuard {post : Int32 → Int32 × Int32 × (Nat → Int32) × (Nat → Int32) × (Nat → Int32) × (Nat → Int32) → Prop} {th : Int32} {po : Int64} {sp : Int32} {DD : Nat → Nat → Int32} {stf fsf jnf rwf : Nat → Int32} {sn c w : Nat} {sq : Nat → Nat → Int32} {T : Nat → Int64} {p1 p2 : Int32} (a0 : DOK DD) (hM : MSC c sp stf fsf jnf rwf) (a4 : sn ≤ 40) (a5 : SOK sn sq) (hT : TRM po DD sq sn T) (hc : c + 240 < 2 ^ 31) (hw : w < 64) (ho : mw po w = true) (h1 : ∀ g, g < 6 → p1 = nI g → ∀ i, i < 5 → p2 = nI i → ∀ sp2 st2 fs2 jn2 rw2, MSC (c + 240) sp2 st2 fs2 jn2 rw2 → post (guardV po DD T sn w g i) (0, sp2, st2, fs2, jn2, rw2)) (h2 : ¬ IN p1 6 → post 0 (1, sp, stf, fsf, jnf, rwf)) (h3 : IN p1 6 → ¬ IN p2 5 → post 0 (2, sp, stf, fsf, jnf, rwf)) : wX4_ofGuard post th (nI w) po sp DD stf fsf jnf rwf sn sq p1 p2 := by
  refine isGua (fun q => ifN (h2 q)) (fun g hg e => ifY (isRng 4 (by decide) (fun q => ifN (h3 ⟨g, hg, e⟩ q)) (fun i hi e2 => ifY ?_)))
  subst e e2
  refine vX4_truths_ a0 hM a4 a5 hT hc (fun sp2 st2 fs2 jn2 rw2 f g0 hf => ?_)
  show wX4_guardNow _ _ _ _ (((nI sn - (1 : Int32)) + (1 : Int32)).toNatClampNeg) f (nI g) (nI i)
  rw [ynEq a4]
  refine uX4_guardNow a0 a4 hg hw ho hi ?_
  rw [guardT hf i]
  exact h1 g hg rfl i hi rfl _ _ _ _ _ g0
/-! who would know it together, and how few -/
def KTG (op : Int64) (E : Nat → Nat → Nat → Bool) (p : Int64) (w a : Nat) : Prop := ∀ v, v < 64 → mw op v = true → (∀ g, g < 6 → a.testBit g = true → E g w v = true) → mw p v = true
theorem andZ : (1 : Int32) &&& (1 : Int32) = 1 ∧ (0 : Int32) &&& (1 : Int32) = 0 ∧ (1 : Int32) &&& (0 : Int32) = 0 ∧ (0 : Int32) &&& (0 : Int32) = 0 := by decide
theorem uX4_knowsTogether_L37 {post : Int32 → Prop} {K94 : Int32 → Int32 → Prop} {DD : Nat → Nat → Int32} {a w v : Nat} (ha : a < 64) (hw : w < 64) (hv : v < 64) (hy : (∀ g, g < 6 → a.testBit g = true → ED DD g w v = true) → ∀ b, K94 1 b) (hn : ¬ (∀ g, g < 6 → a.testBit g = true → ED DD g w v = true) → ∀ b, K94 0 b) : ∀ (m k : Nat) (x : Int32), k + m = 6 → (x = 1 ∧ (∀ g, g < k → a.testBit g = true → ED DD g w v = true) ∨ x = 0 ∧ ¬ (∀ g, g < 6 → a.testBit g = true → ED DD g w v = true)) → wX4_knowsTogether_L37 post K94 (nI w) DD (nI a) (nI v) (m + 1) x (nI k) := by
  intro m
  induction m with
  | zero =>
    intro k x h hx
    obtain rfl : k = 6 := by omega
    rcases hx with ⟨rfl, q⟩ | ⟨rfl, q⟩
    · exact ⟨fun _ => hy q _, fun q => absurd (by decide) q⟩
    · exact ⟨fun _ => hn q _, fun q => absurd (by decide) q⟩
  | succ m ih =>
    intro k x h hx
    have hk : k < 6 := by omega
    have x1 : x &&& (1 : Int32) = x := by
      rcases hx with ⟨rfl, _⟩ | ⟨rfl, _⟩ <;> decide
    have x0 : x &&& (0 : Int32) = 0 := by
      rcases hx with ⟨rfl, _⟩ | ⟨rfl, _⟩ <;> decide
    have go : (a.testBit k = true → ED DD k w v = true) → wX4_knowsTogether_L37 post K94 (nI w) DD (nI a) (nI v) (m + 1) x (nI k + 1) := fun q => by
      rw [← nI_succ]
      refine ih (k + 1) x (by omega) (hx.imp (fun t => ⟨t.1, fun g hg hb => ?_⟩) id)
      rcases Nat.lt_succ_iff_lt_or_eq.mp hg with e | e
      · exact t.2 g e hb
      · subst e
        exact q hb
    refine ⟨fun q => absurd q (notLe (a := 6) hk (by decide)), fun _ => uX4_has ha hk (fun hb => ifN2 ?_) (fun hb => ifY2 ⟨nI_in hk (by decide), nI_in hw (by decide), nI_in hk (by decide), nI_in hv (by decide), ?_⟩)⟩
    · rw [x1]
      exact go (fun q => absurd q hb)
    · rw [nI_clamp (show k < 2 ^ 31 by omega), nI_clamp (show w < 2 ^ 31 by omega), nI_clamp (show v < 2 ^ 31 by omega), x1, x0]
      refine ⟨fun ne => ?_, fun e => go (fun _ => decide_eq_true e)⟩
      rw [← nI_succ]
      exact ih (k + 1) 0 (by omega) (Or.inr ⟨rfl, fun t => ne (of_decide_eq_true (t k hk hb))⟩)
theorem uX4_knowsTogether_L3 {post : Int32 → Prop} {K107 : Int32 → Prop} {po p : Int64} {DD : Nat → Nat → Int32} {a w : Nat} (ha : a < 64) (hw : w < 64) (h0 : ¬ KTG po (ED DD) p w a → post 0) (hK : KTG po (ED DD) p w a → ∀ b, K107 b) : ∀ (m k : Nat), k + m = 64 → (∀ v, v < k → mw po v = true → (∀ g, g < 6 → a.testBit g = true → ED DD g w v = true) → mw p v = true) → wX4_knowsTogether_L3 post K107 (nI w) po DD (nI a) p (m + 1) (nI k) := by
  intro m
  induction m with
  | zero =>
    intro k h hi
    obtain rfl : k = 64 := by omega
    exact ⟨fun _ => hK hi _, fun q => absurd (by decide) q⟩
  | succ m ih =>
    intro k h hi
    have hk : k < 64 := by omega
    have go : (mw po k = true → (∀ g, g < 6 → a.testBit g = true → ED DD g w k = true) → mw p k = true) → wX4_knowsTogether_L3 post K107 (nI w) po DD (nI a) p (m + 1) (nI k + 1) := fun q => by
      rw [← nI_succ]
      refine ih (k + 1) (by omega) (fun v hv a b => ?_)
      rcases Nat.lt_succ_iff_lt_or_eq.mp hv with e | e
      · exact hi v e a b
      · subst e
        exact q a b
    refine ⟨fun q => absurd q (notLe (a := 64) hk (by decide)), fun _ => tX4_has_ hk (fun hm => ifN (go (fun x _ => Classical.byContradiction fun y => ?_))) (fun hm => ifY ⟨7, uX4_knowsTogether_L37 ha hw hk (fun t _ => ⟨fun c => absurd c (by decide), fun _ => h0 (fun s => ?_)⟩) (fun t _ => ⟨fun _ => go (fun _ q => absurd q t), fun c => absurd rfl c⟩) 6 0 1 rfl (Or.inl ⟨rfl, fun g hg => absurd hg (Nat.not_lt_zero g)⟩)⟩)⟩
    · have : mw (po &&& (p ^^^ (-1 : Int64))) k = true := mwA.mpr ⟨x, (mwN hk).mpr y⟩
      rw [hm] at this
      exact absurd this (by decide)
    · obtain ⟨q1, q2⟩ := mwA.mp hm
      exact (mwN hk).mp q2 (s k hk q1 t)
theorem uX4_knowsTogether {post : Int32 → Prop} {po p : Int64} {DD : Nat → Nat → Int32} {a w : Nat} (ha : a < 64) (hw : w < 64) (h0 : ¬ KTG po (ED DD) p w a → post 0) (h1 : KTG po (ED DD) p w a → post 1) : wX4_knowsTogether post (nI w) po DD (nI a) p := ⟨65, uX4_knowsTogether_L3 ha hw h0 (fun q _ => h1 q) 64 0 rfl (fun v hv => absurd hv (Nat.not_lt_zero v))⟩
noncomputable def fwS (P : Nat → Prop) (a : Nat) : Option Nat → Option Nat
  | none => @ite (Option Nat) (P a) (Classical.propDecidable _) (some a) none
  | some b => if pcf 6 b ≤ pcf 6 a then some b else @ite (Option Nat) (P a) (Classical.propDecidable _) (some a) (some b)
noncomputable def fw (P : Nat → Prop) : Nat → Nat → Option Nat → Option Nat
  | 0, _, o => o
  | m + 1, a, o => fw P m (a + 1) (fwS P a o)
def fwV : Option Nat → Int32
  | none => -1
  | some b => nI b
def fwI : Option Nat → Int32
  | none => 7
  | some b => nI (pcf 6 b)
def fwOK (o : Option Nat) : Prop := ∀ b, o = some b → b < 64
theorem fwN1 {P : Nat → Prop} {a : Nat} (h : P a) : fwS P a none = some a := if_pos h
theorem fwN0 {P : Nat → Prop} {a : Nat} (h : ¬ P a) : fwS P a none = none := if_neg h
theorem fwB {P : Nat → Prop} {a b : Nat} (h : pcf 6 b ≤ pcf 6 a) : fwS P a (some b) = some b := if_pos h
theorem fwT {P : Nat → Prop} {a b : Nat} (h : ¬ pcf 6 b ≤ pcf 6 a) (q : P a) : fwS P a (some b) = some a := (if_neg h).trans (if_pos q)
theorem fwF {P : Nat → Prop} {a b : Nat} (h : ¬ pcf 6 b ≤ pcf 6 a) (q : ¬ P a) : fwS P a (some b) = some b := (if_neg h).trans (if_neg q)
theorem fwOKS {P : Nat → Prop} {a : Nat} {o : Option Nat} (ha : a < 64) (h : fwOK o) : fwOK (fwS P a o) := by
  have h1 : fwS P a o = o ∨ fwS P a o = some a := by
    cases o with
    | none =>
      by_cases q : P a
      · exact Or.inr (fwN1 q)
      · exact Or.inl (fwN0 q)
    | some d =>
      by_cases q : pcf 6 d ≤ pcf 6 a
      · exact Or.inl (fwB q)
      · by_cases r : P a
        · exact Or.inr (fwT q r)
        · exact Or.inl (fwF q r)
  intro b e
  rcases h1 with h1 | h1
  · rw [h1] at e
    exact h b e
  · rw [h1] at e
    obtain rfl := Option.some.inj e
    exact ha
theorem tX1_fewestFor_L8 {post : Int32 → Prop} {K61 : Int32 → Int32 → Int32 → Prop} {dk wg : Nat → Int64} {op : Int64} {E : Nat → Nat → Nat → Bool} {n s w : Nat} (hC : CD dk E) (hw : w < 64) (hs : s < n) (hn : n ≤ 40) : ∀ (m k : Nat) (o : Option Nat), k + m = 64 → fwOK o → (∀ i j, K61 (fwV (fw (KTG op E (wg s) w) m k o)) i j) → wX1_fewestFor_L8 post K61 dk wg op (nI w) (nI n) (nI s) (m + 1) (fwV o) (fwI o) (nI k) := by
  intro m
  induction m with
  | zero =>
    intro k o h ho hK
    obtain rfl : k = 64 := by omega
    exact ⟨fun _ => hK _ _, fun q => absurd (by decide) q⟩
  | succ m ih =>
    intro k o h ho hK
    have hk : k < 64 := by omega
    have lk := pcf_le 6 k
    have step : ∀ o2, fwS (KTG op E (wg s) w) k o = o2 → wX1_fewestFor_L8 post K61 dk wg op (nI w) (nI n) (nI s) (m + 1) (fwV o2) (fwI o2) (nI k + 1) := fun o2 e => by
      rw [← nI_succ]
      subst e
      refine ih (k + 1) _ (by omega) (fwOKS hk ho) (fun i j => ?_)
      have := hK i j
      rw [fw] at this
      exact this
    have test : (¬ fwI o ≤ nI (pcf 6 k) → (KTG op E (wg s) w k → fwS (KTG op E (wg s) w) k o = some k) ∧ (¬ KTG op E (wg s) w k → fwS (KTG op E (wg s) w) k o = o)) ∧ (fwI o ≤ nI (pcf 6 k) → fwS (KTG op E (wg s) w) k o = o) := by
      cases o with
      | none =>
        refine ⟨fun _ => ⟨fwN1, fwN0⟩, fun q => absurd q ?_⟩
        show ¬ nI 7 ≤ nI (pcf 6 k)
        rw [nIleQ (by decide) (by omega)]
        omega
      | some b =>
        have lb := pcf_le 6 b
        show (¬ nI (pcf 6 b) ≤ nI (pcf 6 k) → _) ∧ (nI (pcf 6 b) ≤ nI (pcf 6 k) → _)
        rw [nIleQ (by omega) (by omega)]
        exact ⟨fun q => ⟨fwT q, fwF q⟩, fwB⟩
    refine ⟨fun q => absurd ((nILt (by decide) (by omega)).mp (show nI 63 < nI k from q)) (by omega), fun _ => eJ6_bitCount hk ⟨fun c => step o (test.2 c), fun c => tX1_cellTogether hC hk hw (fun r hr => tX1_worldsOf hs hn (tX2_isWithin (fun q => ifN2 ?_) (fun q => ifY2 ?_)))⟩⟩
    · exact step o ((test.1 c).2 (fun t => q (fun v hv a => t v hv ((hr v hv).mp a).1 ((hr v hv).mp a).2)))
    · have h2 := step (some k) ((test.1 c).1 (fun v hv a b => q v hv ((hr v hv).mpr ⟨a, b⟩)))
      exact h2
theorem tX1_fewestFor {post : Int32 → Prop} {dk wg : Nat → Int64} {op : Int64} {E : Nat → Nat → Nat → Bool} {n s w : Nat} (hC : CD dk E) (hw : w < 64) (hs : s < n) (hn : n ≤ 40) (h : post (fwV (fw (KTG op E (wg s) w) 63 1 none))) : wX1_fewestFor post dk wg op (nI w) (nI n) (nI s) := ⟨64, tX1_fewestFor_L8 hC hw hs hn 63 1 none rfl (fun b e => by cases e) (fun _ _ => h)⟩
theorem nIm1 : ∀ b, b < 64 → ¬ nI b = (-1 : Int32) := by decide +kernel
theorem uX4_few_L5 {post : Int32 → Prop} {K48 : Int32 → Int32 → Prop} {po p : Int64} {DD : Nat → Nat → Int32} {w : Nat} (hw : w < 64) : ∀ (m k : Nat) (o : Option Nat), k + m = 64 → fwOK o → (∀ i, K48 (fwV (fw (KTG po (ED DD) p w) m k o)) i) → wX4_few_L5 post K48 (nI w) po DD p (m + 1) (fwV o) (nI k) := by
  intro m
  induction m with
  | zero =>
    intro k o h ho hK
    obtain rfl : k = 64 := by omega
    exact ⟨fun _ => hK _, fun q => absurd (by decide) q⟩
  | succ m ih =>
    intro k o h ho hK
    have hk : k < 64 := by omega
    have step : ∀ o2, fwS (KTG po (ED DD) p w) k o = o2 → wX4_few_L5 post K48 (nI w) po DD p (m + 1) (fwV o2) (nI k + 1) := fun o2 e => by
      rw [← nI_succ]
      subst e
      refine ih (k + 1) _ (by omega) (fwOKS hk ho) (fun i => ?_)
      have := hK i
      rw [fw] at this
      exact this
    refine ⟨fun q => absurd ((nILt (by decide) (by omega)).mp (show nI 63 < nI k from q)) (by omega), fun _ => ?_⟩
    cases o with
    | none => exact ⟨fun _ => uX4_knowsTogether hk hw (fun q => ifN2 (step none (fwN0 q))) (fun q => ifY2 (step (some k) (fwN1 q))), fun c => absurd rfl c⟩
    | some b =>
      have hb := ho b rfl
      have lb := pcf_le 6 b
      have lk := pcf_le 6 k
      refine ⟨fun c => absurd (show nI b = -1 from c) (nIm1 b hb), fun _ => eX4_size hk (eX4_size hb ?_)⟩
      rw [nIleQ (by omega) (by omega)]
      exact ⟨fun q => step (some b) (fwB q), fun q => uX4_knowsTogether hk hw (fun r => ifN2 (step (some b) (fwF q r))) (fun r => ifY2 (step (some k) (fwT q r)))⟩
theorem uX4_few {post : Int32 → Prop} {po p : Int64} {DD : Nat → Nat → Int32} {w : Nat} (hw : w < 64) (h : post (fwV (fw (KTG po (ED DD) p w) 63 1 none))) : wX4_few post (nI w) po DD p := ⟨64, uX4_few_L5 hw 63 1 none rfl (fun b e => by cases e) (fun _ => h)⟩
