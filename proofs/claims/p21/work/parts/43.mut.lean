/-! what changes a night: the class's side -/
def eTell (E : Nat → Nat → Nat → Bool) (g : Nat) (side : Int64) : Nat → Nat → Nat → Bool := fun h w v => if h = g then (E h w v && (mw side w == mw side v)) else E h w v
def eNote (E : Nat → Nat → Nat → Bool) (a b : Nat) : Nat → Nat → Nat → Bool := fun h w v => if h = b then (E b w v && E a w v) else E h w v
def eFlip (E : Nat → Nat → Nat → Bool) (f : Nat) : Nat → Nat → Nat → Bool := fun h w v => E h (w ^^^ 2 ^ f) (v ^^^ 2 ^ f)
theorem eTellT {E : Nat → Nat → Nat → Bool} {g : Nat} {side : Int64} {w v : Nat} : eTell E g side g w v = true ↔ E g w v = true ∧ mw side w = mw side v := by
  unfold eTell
  rw [if_pos rfl, Bool.and_eq_true, beq_iff_eq]
theorem eTellF {E : Nat → Nat → Nat → Bool} {g : Nat} {side : Int64} {h w v : Nat} (q : ¬ h = g) : eTell E g side h w v = E h w v := if_neg q
theorem eNoteT {E : Nat → Nat → Nat → Bool} {a b w v : Nat} : eNote E a b b w v = true ↔ E b w v = true ∧ E a w v = true := by
  unfold eNote
  rw [if_pos rfl, Bool.and_eq_true]
theorem eNoteF {E : Nat → Nat → Nat → Bool} {a b h w v : Nat} (q : ¬ h = b) : eNote E a b h w v = E h w v := if_neg q
theorem eTellQ {E : Nat → Nat → Nat → Bool} (hq : EQV E) (g : Nat) (side : Int64) : EQV (eTell E g side) := by
  refine ⟨fun h w => ?_, fun h w v q => ?_, fun h w v u q r => ?_⟩
  · by_cases e : h = g
    · subst e
      exact eTellT.mpr ⟨hq.1 h w, rfl⟩
    · rw [eTellF e]
      exact hq.1 h w
  · by_cases e : h = g
    · subst e
      exact eTellT.mpr ⟨hq.2.1 h w v (eTellT.mp q).1, (eTellT.mp q).2.symm⟩
    · rw [eTellF e] at q ⊢
      exact hq.2.1 h w v q
  · by_cases e : h = g
    · subst e
      exact eTellT.mpr ⟨hq.2.2 h w v u (eTellT.mp q).1 (eTellT.mp r).1, (eTellT.mp q).2.trans (eTellT.mp r).2⟩
    · rw [eTellF e] at q r ⊢
      exact hq.2.2 h w v u q r
theorem eNoteQ {E : Nat → Nat → Nat → Bool} (hq : EQV E) (a b : Nat) : EQV (eNote E a b) := by
  refine ⟨fun h w => ?_, fun h w v q => ?_, fun h w v u q r => ?_⟩
  · by_cases e : h = b
    · subst e
      exact eNoteT.mpr ⟨hq.1 h w, hq.1 a w⟩
    · rw [eNoteF e]
      exact hq.1 h w
  · by_cases e : h = b
    · subst e
      exact eNoteT.mpr ⟨hq.2.1 h w v (eNoteT.mp q).1, hq.2.1 a w v (eNoteT.mp q).2⟩
    · rw [eNoteF e] at q ⊢
      exact hq.2.1 h w v q
  · by_cases e : h = b
    · subst e
      exact eNoteT.mpr ⟨hq.2.2 h w v u (eNoteT.mp q).1 (eNoteT.mp r).1, hq.2.2 a w v u (eNoteT.mp q).2 (eNoteT.mp r).2⟩
    · rw [eNoteF e] at q r ⊢
      exact hq.2.2 h w v u q r
theorem eFlipQ {E : Nat → Nat → Nat → Bool} (hq : EQV E) (f : Nat) : EQV (eFlip E f) := ⟨fun h w => hq.1 h _, fun h w v q => hq.2.1 h _ _ q, fun h w v u q r => hq.2.2 h _ _ _ q r⟩
theorem CDc {dk : Nat → Int64} {E E2 : Nat → Nat → Nat → Bool} (h : ∀ g, g < 6 → ∀ w, w < 64 → ∀ v, v < 64 → E g w v = E2 g w v) (hC : CD dk E) : CD dk E2 := fun g hg w hw v hv => (hC g hg w hw v hv).trans (h g hg w hw v hv)
def tD (d : Nat → Int64) (g : Nat) (side : Int64) (k : Nat) : Nat → Int64 := fun j => if g * 64 ≤ j ∧ j < g * 64 + k then d j &&& (if mw side (j - g * 64) = true then side else side ^^^ (-1 : Int64)) else d j
theorem tDS {d0 d : Nat → Int64} {g k : Nat} {side x : Int64} (h : ∀ j, d j = tD d0 g side k j) (hx : x = if mw side k = true then side else side ^^^ (-1 : Int64)) : ∀ j, vp_updL d (g * 64 + k) (d (g * 64 + k) &&& x) j = tD d0 g side (k + 1) j := by
  intro j
  unfold tD at h ⊢
  by_cases e : j = g * 64 + k
  · subst e
    rw [ulAt, h, if_neg (by omega), if_pos (by omega), show g * 64 + k - g * 64 = k by omega, hx]
  · rw [ulNe _ _ e, h j]
    by_cases c : g * 64 ≤ j ∧ j < g * 64 + k
    · rw [if_pos c, if_pos (show g * 64 ≤ j ∧ j < g * 64 + (k + 1) by omega)]
    · rw [if_neg c, if_neg (show ¬ (g * 64 ≤ j ∧ j < g * 64 + (k + 1)) by omega)]
theorem tX1_tellApart_L11 {post : (Nat → Int64) → Prop} {K : Int32 → (Nat → Int64) → Prop} {d0 : Nat → Int64} {g : Nat} {side : Int64} (hg : g < 6) (hK : ∀ i d, (∀ j, d j = tD d0 g side 64 j) → K i d) : ∀ (m k : Nat) (d : Nat → Int64), k + m = 64 → (∀ j, d j = tD d0 g side k j) → wX1_tellApart_L11 post K (nI g) side (m + 1) (nI k) d := by
  intro m
  induction m with
  | zero =>
    intro k d h hd
    obtain rfl : k = 64 := by omega
    exact ⟨fun _ => hK _ _ hd, fun q => absurd (by decide) q⟩
  | succ m ih =>
    intro k d h hd
    have hk : k < 64 := by omega
    have v : vp_in (nI g * (64 : Int32) + nI k) 384 := (idx384 ⟨g, hg, rfl⟩ ⟨k, hk, rfl⟩).vp (by decide)
    refine ⟨fun c => absurd c (notLe (a := 64) hk (by decide)), fun _ => ⟨v, tX2_has hk (fun hm => ⟨fun _ => ⟨v, ?_⟩, fun c => absurd rfl c⟩) (fun hm => ⟨fun c => absurd c (by decide), fun _ => ⟨v, ?_⟩⟩)⟩⟩
    · rw [← nI_succ, idxN hg hk]
      exact ih (k + 1) _ (by omega) (tDS hd (by rw [if_neg hm]))
    · rw [← nI_succ, idxN hg hk]
      exact ih (k + 1) _ (by omega) (tDS hd (by rw [if_pos hm]))
theorem tX1_tellApart {post : (Nat → Int64) → Prop} {dk : Nat → Int64} {E : Nat → Nat → Nat → Bool} {g : Nat} {side : Int64} (hC : CD dk E) (hg : g < 6) (h : ∀ d, CD d (eTell E g side) → post d) : wX1_tellApart post dk (nI g) side := by
  refine tX2_isGuard (fun r _ hr => ⟨fun _ => ⟨65, tX1_tellApart_L11 (d0 := dk) hg (fun i d hd => h d (fun a ha w hw v hv => ?_)) 64 0 dk rfl (fun j => ?_)⟩, fun q => absurd q (hr.mpr ⟨g, hg, rfl⟩)⟩)
  · rw [hd]
    unfold tD
    by_cases e : a = g
    · subst e
      rw [if_pos (by omega), show a * 64 + w - a * 64 = w by omega, mw_and, hC a ha w hw v hv]
      unfold eTell
      rw [if_pos rfl]
      congr 1
      by_cases q : mw side w = true
      · rw [if_pos q, q]
        cases mw side v <;> rfl
      · rw [if_neg q, mw_not _ hv, nT q]
        cases mw side v <;> rfl
    · rw [if_neg (by omega), eTellF e]
      exact hC a ha w hw v hv
  · unfold tD
    rw [if_neg (by omega)]
def tP (d : Nat → Int64) (a b : Nat) (k : Nat) : Nat → Int64 := fun j => if b * 64 ≤ j ∧ j < b * 64 + k then d j &&& d (a * 64 + (j - b * 64)) else d j
theorem tX1_passOn_L21 {post : Int32 → (Nat → Int64) → Prop} {K : Int64 → Int32 → (Nat → Int64) → Prop} {d0 : Nat → Int64} {op : Int64} {E : Nat → Nat → Nat → Bool} {a b : Nat} (hC : CD d0 E) (ha : a < 6) (hb : b < 6) (hab : ¬ a = b) (hK : ∀ l i d, (∀ j, d j = tP d0 a b 64 j) → (∀ v, v < 64 → (mw l v = true ↔ ∃ w, w < 64 ∧ mw op w = true ∧ E b w v = true ∧ ¬ E a w v = true)) → K l i d) : ∀ (m k : Nat) (l : Int64) (d : Nat → Int64), k + m = 64 → (∀ j, d j = tP d0 a b k j) → (∀ v, v < 64 → (mw l v = true ↔ ∃ w, w < k ∧ mw op w = true ∧ E b w v = true ∧ ¬ E a w v = true)) → wX1_passOn_L21 post K op (nI a) (nI b) (m + 1) l (nI k) d := by
  intro m
  induction m with
  | zero =>
    intro k l d h hd hl
    obtain rfl : k = 64 := by omega
    exact ⟨fun _ => hK _ _ _ hd hl, fun q => absurd (by decide) q⟩
  | succ m ih =>
    intro k l d h hd hl
    have hk : k < 64 := by omega
    have va : vp_in (nI a * (64 : Int32) + nI k) 384 := (idx384 ⟨a, ha, rfl⟩ ⟨k, hk, rfl⟩).vp (by decide)
    have vb : vp_in (nI b * (64 : Int32) + nI k) 384 := (idx384 ⟨b, hb, rfl⟩ ⟨k, hk, rfl⟩).vp (by decide)
    refine ⟨fun c => absurd c (notLe (a := 64) hk (by decide)), fun _ => ⟨vb, fun x1 e1 => ⟨va, fun x2 e2 => ⟨vb, ?_⟩⟩⟩⟩
    rw [idxN hb hk] at e1
    rw [idxN ha hk] at e2
    rw [idxN hb hk]
    have f1 : x1 = d0 (b * 64 + k) := by
      rw [e1, hd]
      unfold tP
      rw [if_neg (by omega)]
    have f2 : x2 = d0 (b * 64 + k) &&& d0 (a * 64 + k) := by
      rw [e2, f1, hd]
      unfold tP
      rw [if_neg (by omega)]
    have hd2 : ∀ j, vp_updL d (b * 64 + k) x2 j = tP d0 a b (k + 1) j := by
      intro j
      unfold tP at hd ⊢
      by_cases e : j = b * 64 + k
      · subst e
        rw [ulAt, if_pos (by omega), show b * 64 + k - b * 64 = k by omega, f2]
      · rw [ulNe _ _ e, hd j]
        by_cases c : b * 64 ≤ j ∧ j < b * 64 + k
        · rw [if_pos c, if_pos (by omega)]
        · rw [if_neg c, if_neg (by omega)]
    have hx : ∀ v, v < 64 → (mw (x1 &&& (x2 ^^^ (-1 : Int64))) v = true ↔ E b k v = true ∧ ¬ E a k v = true) := fun v hv => by
      rw [mwA, mwN hv, f1, f2, mwA, hC b hb k hk v hv, hC a ha k hk v hv]
      constructor
      · rintro ⟨p, q⟩
        exact ⟨p, fun r => q ⟨p, r⟩⟩
      · rintro ⟨p, q⟩
        exact ⟨p, fun r => q r.2⟩
    refine tX2_has hk (fun hm => ⟨fun _ => ?_, fun c => absurd rfl c⟩) (fun hm => ⟨fun c => absurd c (by decide), fun _ => fun x3 e3 => ?_⟩)
    · rw [← nI_succ]
      refine ih (k + 1) l _ (by omega) hd2 (fun v hv => (hl v hv).trans ⟨?_, ?_⟩)
      · rintro ⟨w, p, q⟩
        exact ⟨w, by omega, q⟩
      · rintro ⟨w, p, q, r⟩
        rcases Nat.lt_succ_iff_lt_or_eq.mp p with e | e
        · exact ⟨w, e, q, r⟩
        · subst e
          exact absurd q hm
    · rw [← nI_succ]
      refine ih (k + 1) x3 _ (by omega) hd2 (fun v hv => ?_)
      rw [e3, mwO, hl v hv, hx v hv]
      constructor
      · rintro (⟨w, p, q⟩ | ⟨p, q⟩)
        · exact ⟨w, by omega, q⟩
        · exact ⟨k, by omega, hm, p, q⟩
      · rintro ⟨w, p, q, r⟩
        rcases Nat.lt_succ_iff_lt_or_eq.mp p with e | e
        · exact Or.inl ⟨w, e, q, r⟩
        · subst e
          exact Or.inr r
theorem tX1_passOn {post : Int32 → (Nat → Int64) → Prop} {dk : Nat → Int64} {op : Int64} {E : Nat → Nat → Nat → Bool} {a b : Nat} (hC : CD dk E) (ha : a < 6) (hb : b < 6) (hab : ¬ a = b) (h0 : ∀ d, CD d (eNote E a b) → (∀ w, w < 64 → mw op w = true → ∀ v, v < 64 → mw op v = true → E b w v = true → E a w v = true) → post 0 d) (h1 : ∀ d, CD d (eNote E a b) → post 1 d) : wX1_passOn post dk op (nI a) (nI b) := by
  refine tX2_isGuard (fun r _ hr => ⟨fun q => absurd q (hr.mpr ⟨a, ha, rfl⟩), fun _ => tX2_isGuard (fun r _ hr => ⟨fun _ => ⟨65, tX1_passOn_L21 hC ha hb hab (fun l i d hd hl => ?_) 64 0 0 dk rfl (fun j => ?_) (fun v hv => ⟨fun q => absurd q mwZ, fun q => ?_⟩)⟩, fun q => absurd q (hr.mpr ⟨b, hb, rfl⟩)⟩)⟩)
  · have hCd : CD d (eNote E a b) := fun g hg w hw v hv => by
      rw [hd]
      unfold tP
      by_cases e : g = b
      · subst e
        rw [if_pos (by omega), show g * 64 + w - g * 64 = w by omega, mw_and, hC g hg w hw v hv, hC a ha w hw v hv]
        unfold eNote
        rw [if_pos rfl]
      · rw [if_neg (by omega), eNoteF e]
        exact hC g hg w hw v hv
    refine ⟨fun e => h0 d hCd (fun w hw ho v hv hv2 he => Classical.byContradiction fun n => ?_), fun _ => h1 d hCd⟩
    have : mw (l &&& op) v = true := mwA.mpr ⟨(hl v hv).mpr ⟨w, hw, ho, he, n⟩, hv2⟩
    rw [(lg_cmp_eq _ _).mp e] at this
    exact mwZ this
  · unfold tP
    rw [if_neg (by omega)]
  · obtain ⟨w, hw, -⟩ := q
    exact absurd hw (Nat.not_lt_zero w)
/-! the dark switch -/
theorem shl64 : ∀ k, k < 64 → (((nI k).toInt64 &&& 63).toBitVec.smod 64#64).toNat = k := by decide +kernel
theorem ushlN (p : Int64) {k : Nat} (hk : k < 64) : (jLshl p (nI k)).toBitVec.toNat = p.toBitVec.toNat <<< k % 2 ^ 64 := by
  show (p <<< ((nI k).toInt64 &&& 63)).toBitVec.toNat = _
  rw [Int64.toBitVec_shiftLeft, BitVec.shiftLeft_eq', BitVec.toNat_shiftLeft]
  rw [show (((nI k).toInt64 &&& 63).toBitVec.smod 64).toNat = k from shl64 k hk]
theorem mw_ushr (p : Int64) {k : Nat} (hk : k < 64) (v : Nat) : mw (jLushr p (nI k)) v = mw p (k + v) := by
  unfold mw
  rw [ushrN p hk, Nat.testBit_shiftRight]
theorem mw_ushl (p : Int64) {k : Nat} (hk : k < 64) {v : Nat} (hv : v < 64) : mw (jLshl p (nI k)) v = (decide (k ≤ v) && mw p (v - k)) := by
  unfold mw
  rw [ushlN p hk, Nat.testBit_mod_two_pow, Nat.testBit_shiftLeft, decide_eq_true hv, Bool.true_and]
theorem fxV : ∀ f, f < 6 → ∀ v, v < 64 → v ^^^ 2 ^ f < 64 ∧ (v ^^^ 2 ^ f) ^^^ 2 ^ f = v ∧ (v ^^^ 2 ^ f).testBit f = !v.testBit f ∧ (v.testBit f = true → 2 ^ f ≤ v ∧ v - 2 ^ f = v ^^^ 2 ^ f) ∧ (v.testBit f = false → 2 ^ f + v = v ^^^ 2 ^ f ∧ v ||| 2 ^ f = v ^^^ 2 ^ f) := by decide +kernel
theorem fxW : ∀ f, f < 6 → ∀ v, v < 64 → v.testBit f = false → 2 ^ f ≤ v → (v - 2 ^ f).testBit f = true := by decide +kernel
theorem tX2_turned {post : Int64 → Prop} {S : Int64} {f : Nat} (hf : f < 6) (h : ∀ r, (∀ v, v < 64 → mw r v = mw S (v ^^^ 2 ^ f)) → post r) : wX2_turned post S (nI f) := by
  refine tX2_worldsOfFact hf ?_
  rw [shB f hf]
  have hp : 2 ^ f < 64 := shC f hf
  refine h _ (fun v hv => ?_)
  obtain ⟨x1, x2, x3, x4, x5⟩ := fxV f hf v hv
  rw [mw_or, mw_ushr _ hp, mw_ushl _ hp hv, mw_and]
  by_cases q : v.testBit f = true
  · obtain ⟨y1, y2⟩ := x4 q
    have e1 : mw (wof f) (2 ^ f + v) = false := by
      by_cases c : 2 ^ f + v < 64
      · rw [wofB2 f hf _ c, Nat.testBit_two_pow_add_eq, q]
        rfl
      · exact mw_top _ (Nat.le_of_not_lt c)
    rw [e1, Bool.and_false, Bool.false_or, decide_eq_true y1, Bool.true_and, y2, mw_and, mw_not _ x1, wofB2 f hf _ x1, x3, q]
    simp
  · have q2 := nT q
    obtain ⟨y1, y2⟩ := x5 q2
    rw [y1, wofB2 f hf _ x1, x3, q2]
    by_cases c : 2 ^ f ≤ v
    · have x6 := fxW f hf v hv q2 c
      have hl : v - 2 ^ f < 64 := Nat.lt_of_le_of_lt (Nat.sub_le _ _) hv
      rw [mw_and, mw_not _ hl, wofB2 f hf _ hl, x6]
      simp
    · rw [decide_eq_false c]
      simp
def tF (d : Nat → Int64) (f : Nat) (g k : Nat) (e : Nat → Int64) : Prop := (∀ w, w < 64 → (if w.testBit f = true then w ^^^ 2 ^ f else w) < k → ∀ v, v < 64 → mw (e (g * 64 + w)) v = mw (d (g * 64 + (w ^^^ 2 ^ f))) (v ^^^ 2 ^ f)) ∧ (∀ w, w < 64 → ¬ (if w.testBit f = true then w ^^^ 2 ^ f else w) < k → e (g * 64 + w) = d (g * 64 + w)) ∧ (∀ h, h < 6 → ¬ h = g → ∀ w, w < 64 → e (h * 64 + w) = d (h * 64 + w))
theorem btB : ∀ f, f < 6 → ∀ k, k < 64 → ((nI k &&& nI (2 ^ f)) = 0 ↔ k.testBit f = false) := by decide +kernel
theorem orI : ∀ f, f < 6 → ∀ k, k < 64 → nI k ||| nI (2 ^ f) = nI (k ||| 2 ^ f) := by decide +kernel
theorem tX1_turn_L45 {post : (Nat → Int64) × Int64 × Int32 → Prop} {K : Int32 → (Nat → Int64) → Prop} {d0 : Nat → Int64} {f g : Nat} (hf : f < 6) (hg : g < 6) (hK : ∀ i e, tF d0 f g 64 e → K i e) : ∀ (m k : Nat) (e : Nat → Int64), k + m = 64 → tF d0 f g k e → wX1_turn_L45 post K (nI f) (nI g) (m + 1) (nI k) e := by
  intro m
  induction m with
  | zero =>
    intro k e h he
    obtain rfl : k = 64 := by omega
    exact ⟨fun _ => hK _ _ he, fun q => absurd (by decide) q⟩
  | succ m ih =>
    intro k e h he
    have hk : k < 64 := by omega
    obtain ⟨x1, x2, x3, x4, x5⟩ := fxV f hf k hk
    obtain ⟨t1, t2, t3⟩ := he
    refine ⟨fun c => absurd c (notLe (a := 64) hk (by decide)), fun _ => ⟨fun c => ?_, fun c => fun x hx => ?_⟩⟩
    · rw [shB f hf, btB f hf k hk] at c
      have q : k.testBit f = true := by
        cases hh : k.testBit f with
        | true => rfl
        | false => exact absurd hh c
      have ne : ∀ w, w < 64 → ¬ (if w.testBit f = true then w ^^^ 2 ^ f else w) = k := fun w hw e2 => by
        obtain ⟨y1, y2, y3, -, -⟩ := fxV f hf w hw
        by_cases b : w.testBit f = true
        · rw [if_pos b] at e2
          rw [e2, q, b] at y3
          exact absurd y3 (by decide)
        · rw [if_neg b] at e2
          subst e2
          exact b q
      rw [← nI_succ]
      exact ih (k + 1) e (by omega) ⟨fun w hw a v hv => t1 w hw (by have := ne w hw; omega) v hv, fun w hw a => t2 w hw (by omega), t3⟩
    · rw [shB f hf, btB f hf k hk] at c
      obtain ⟨y1, y2⟩ := x5 c
      rw [shB f hf, orI f hf k hk, y2] at hx
      have vk : vp_in (nI g * (64 : Int32) + nI k) 384 := (idx384 ⟨g, hg, rfl⟩ ⟨k, hk, rfl⟩).vp (by decide)
      have vx : vp_in x 384 := by
        rw [hx]
        exact (idx384 ⟨g, hg, rfl⟩ ⟨_, x1, rfl⟩).vp (by decide)
      have ex : x.toNatClampNeg = g * 64 + (k ^^^ 2 ^ f) := by
        rw [hx]
        exact idxN hg x1
      rw [ex, idxN hg hk]
      have ik : (if k.testBit f = true then k ^^^ 2 ^ f else k) = k := if_neg (by rw [c]; decide)
      have il : (if (k ^^^ 2 ^ f).testBit f = true then (k ^^^ 2 ^ f) ^^^ 2 ^ f else (k ^^^ 2 ^ f)) = k := by
        rw [x3, c]
        exact x2
      have nkx : ¬ k = k ^^^ 2 ^ f := fun q => by
        rw [← q, c] at x3
        exact absurd x3 (by decide)
      refine ⟨vk, tX2_turned hf (fun r3 h3 => ⟨vx, tX2_turned hf (fun r4 h4 => ⟨vk, vx, ?_⟩)⟩)⟩
      rw [t2 k hk (by rw [ik]; exact Nat.lt_irrefl k)] at h3
      rw [t2 _ x1 (by rw [il]; exact Nat.lt_irrefl k)] at h4
      rw [← nI_succ]
      refine ih (k + 1) _ (by omega) ⟨fun w hw a v hv => ?_, fun w hw a => ?_, fun b hb hn w hw => ?_⟩
      · by_cases e1 : w = k ^^^ 2 ^ f
        · rw [e1, ulAt, h3 v hv, x2]
        · by_cases e2 : w = k
          · rw [e2, ulNe _ _ (by omega), ulAt, h4 v hv]
          · rw [ulNe _ _ (by omega), ulNe _ _ (by omega)]
            refine t1 w hw ?_ v hv
            have : ¬ (if w.testBit f = true then w ^^^ 2 ^ f else w) = k := fun q => by
              by_cases b : w.testBit f = true
              · rw [if_pos b] at q
                have := (fxV f hf w hw).2.1
                rw [q] at this
                exact e1 this.symm
              · rw [if_neg b] at q
                exact e2 q
            omega
      · have e1 : ¬ w = k ^^^ 2 ^ f := fun q => by
          rw [q, il] at a
          exact a (Nat.lt_succ_self k)
        have e2 : ¬ w = k := fun q => by
          rw [q, ik] at a
          exact a (Nat.lt_succ_self k)
        rw [ulNe _ _ (by omega), ulNe _ _ (by omega)]
        exact t2 w hw (by omega)
      · rw [ulNe _ _ (by omega), ulNe _ _ (by omega)]
        exact t3 b hb hn w hw
theorem tX1_turn_L36 {post : (Nat → Int64) × Int64 × Int32 → Prop} {K : Int32 → (Nat → Int64) → Prop} {d0 : Nat → Int64} {f : Nat} (hf : f < 6) (hK : ∀ i e, (∀ g, g < 6 → ∀ w, w < 64 → ∀ v, v < 64 → mw (e (g * 64 + w)) v = mw (d0 (g * 64 + (w ^^^ 2 ^ f))) (v ^^^ 2 ^ f)) → K i e) : ∀ (m k : Nat) (e : Nat → Int64), k + m = 6 → (∀ g, g < k → ∀ w, w < 64 → ∀ v, v < 64 → mw (e (g * 64 + w)) v = mw (d0 (g * 64 + (w ^^^ 2 ^ f))) (v ^^^ 2 ^ f)) → (∀ g, k ≤ g → g < 6 → ∀ w, w < 64 → e (g * 64 + w) = d0 (g * 64 + w)) → wX1_turn_L36 post K (nI f) (m + 1) (nI k) e := by
  intro m
  induction m with
  | zero =>
    intro k e h h1 h2
    obtain rfl : k = 6 := by omega
    exact ⟨fun _ => hK _ _ h1, fun q => absurd (by decide) q⟩
  | succ m ih =>
    intro k e h h1 h2
    have hk : k < 6 := by omega
    refine ⟨fun c => absurd c (notLe (a := 6) hk (by decide)), fun _ => ⟨65, tX1_turn_L45 (d0 := e) hf hk (fun i e2 he => ?_) 64 0 e rfl ⟨fun w hw a => absurd a (Nat.not_lt_zero _), fun w hw a => rfl, fun b hb hn w hw => rfl⟩⟩⟩
    obtain ⟨t1, t2, t3⟩ := he
    rw [← nI_succ]
    refine ih (k + 1) e2 (by omega) (fun g hg w hw v hv => ?_) (fun g hg hg6 w hw => ?_)
    · by_cases c : g = k
      · subst c
        have hx := (fxV f hf w hw).1
        rw [t1 w hw (by split <;> omega) v hv, h2 g (Nat.le_refl g) hk _ hx]
      · rw [t3 g (by omega) c w hw]
        exact h1 g (by omega) w hw v hv
    · rw [t3 g hg6 (by omega) w hw]
      exact h2 g (by omega) hg6 w hw
theorem tX1_turn {post : (Nat → Int64) × Int64 × Int32 → Prop} {dk : Nat → Int64} {op : Int64} {re : Int32} {E : Nat → Nat → Nat → Bool} {f : Nat} (hC : CD dk E) (hf : f < 6) (h : ∀ d o, CD d (eFlip E f) → (∀ v, v < 64 → mw o v = mw op (v ^^^ 2 ^ f)) → post (d, o, re ^^^ nI (2 ^ f))) : wX1_turn post dk op re (nI f) := by
  refine tX2_isFact (fun r _ hr => ⟨fun _ => tX2_turned hf (fun o ho => ⟨7, tX1_turn_L36 hf (fun i e he => ?_) 6 0 dk rfl (fun g hg => absurd hg (Nat.not_lt_zero g)) (fun g _ _ w _ => rfl)⟩), fun q => absurd q (hr.mpr ⟨f, hf, rfl⟩)⟩)
  rw [shB f hf]
  refine h e o (fun g hg w hw v hv => ?_) ho
  rw [he g hg w hw v hv, hC g hg _ (fxV f hf w hw).1 _ (fxV f hf v hv).1]
  rfl
theorem tX1_restart_L14 {post : (Nat → Int64) × (Nat → Int64) × Int64 × Int32 → Prop} {K : Int32 → (Nat → Int64) → Prop} (hK : ∀ i d, (∀ j, j < 384 → d j = -1) → K i d) : ∀ (m k : Nat) (d : Nat → Int64), k + m = 384 → (∀ j, j < k → d j = -1) → wX1_restart_L14 post K (m + 1) (nI k) d := by
  intro m
  induction m with
  | zero =>
    intro k d h hd
    obtain rfl : k = 384 := by omega
    exact ⟨fun _ => hK _ _ hd, fun q => absurd (by decide) q⟩
  | succ m ih =>
    intro k d h hd
    refine ⟨fun c => absurd c (notLe (a := 384) (by omega) (by decide)), fun _ => ⟨nI_in (by omega) (by decide), ?_⟩⟩
    rw [← nI_succ, nI_clamp (show k < 2 ^ 31 by omega)]
    refine ih (k + 1) _ (by omega) (fun j hj => ?_)
    by_cases e : j = k
    · subst e
      exact ulAt _ _ _
    · rw [ulNe _ _ e]
      exact hd j (by omega)
def eAll : Nat → Nat → Nat → Bool := fun _ _ _ => true
theorem eAllQ : EQV eAll := ⟨fun _ _ => rfl, fun _ _ _ _ => rfl, fun _ _ _ _ _ _ => rfl⟩
theorem mwM {w : Nat} (hw : w < 64) : mw (-1 : Int64) w = true := by
  unfold mw
  rw [show (-1 : Int64).toBitVec.toNat = 2 ^ 64 - 1 from by decide, Nat.testBit_two_pow_sub_one]
  exact decide_eq_true hw
theorem tX1_restart {post : (Nat → Int64) × (Nat → Int64) × Int64 × Int32 → Prop} {dk wg : Nat → Int64} {op : Int64} {re : Int32} {kf ff sf : Nat → Int32} {n : Nat} {p1 : Int32} (hB : BOK kf ff sf n) (h : ∀ d wg2, CD d eAll → TRU (-1) eAll kf ff sf n wg2 → post (d, wg2, -1, p1)) : wX1_restart post dk wg op re kf ff sf (nI n) p1 := by
  refine ⟨385, tX1_restart_L14 (fun i d hd => ?_) 384 0 dk rfl (fun j hj => absurd hj (Nat.not_lt_zero j))⟩
  have hC : CD d eAll := fun g hg w hw v hv => by
    rw [hd _ (by omega)]
    exact mwM hv
  exact tX0_everySentence hB.1 (fun st hst => weighAll hC eAllQ hB hst (fun wg2 hT => h d wg2 hC hT))
