/-! sets of guards, counted sentences -/
def MSK (P : Nat → Prop) (k s : Nat) : Prop := s < 64 ∧ (∀ g, g < k → (s.testBit g = true ↔ P g)) ∧ ∀ g, k ≤ g → s.testBit g = false
theorem MSK.zero {P : Nat → Prop} : MSK P 0 0 := ⟨by decide, fun g hg => absurd hg (Nat.not_lt_zero g), fun g _ => Nat.zero_testBit g⟩
theorem MSK.no {P : Nat → Prop} {k s : Nat} (h : MSK P k s) (hn : ¬ P k) : MSK P (k + 1) s := ⟨h.1, fun g hg => by
  rcases Nat.lt_succ_iff_lt_or_eq.mp hg with e | e
  · exact h.2.1 g e
  · subst e
    rw [h.2.2 g (Nat.le_refl g)]
    exact ⟨fun q => absurd q (by decide), fun q => absurd q hn⟩, fun g hg => h.2.2 g (by omega)⟩
theorem MSK.yes {P : Nat → Prop} {k s : Nat} (hk : k < 6) (h : MSK P k s) (hp : P k) : MSK P (k + 1) (s ||| 2 ^ k) := ⟨Nat.or_lt_two_pow (n := 6) h.1 (shC k hk), fun g hg => by
  rw [Nat.testBit_or, Nat.testBit_two_pow]
  rcases Nat.lt_succ_iff_lt_or_eq.mp hg with e | e
  · rw [show decide (k = g) = false from decide_eq_false (by omega), Bool.or_false]
    exact h.2.1 g e
  · subst e
    rw [decide_eq_true rfl, Bool.or_true]
    exact ⟨fun _ => hp, fun _ => rfl⟩, fun g hg => by
  rw [Nat.testBit_or, Nat.testBit_two_pow, h.2.2 g (by omega), show decide (k = g) = false from decide_eq_false (by omega)]
  rfl⟩
theorem MSK.eq {P Q : Nat → Prop} {s t : Nat} (h : MSK P 6 s) (h2 : MSK Q 6 t) (he : ∀ g, g < 6 → (P g ↔ Q g)) : s = t := by
  apply Nat.eq_of_testBit_eq
  intro i
  by_cases hi : i < 6
  · exact Bool.eq_iff_iff.mpr ((h.2.1 i hi).trans ((he i hi).trans (h2.2.1 i hi).symm))
  · rw [h.2.2 i (by omega), h2.2.2 i (by omega)]
theorem MSK.and {P : Nat → Prop} {s t : Nat} (h : MSK P 6 s) (ht : t < 64) : MSK (fun g => t.testBit g = true ∧ P g) 6 (s &&& t) := ⟨Nat.and_lt_two_pow (n := 6) s ht, fun g hg => by
  rw [Nat.testBit_and, Bool.and_eq_true, h.2.1 g hg]
  exact and_comm, fun g hg => by
  rw [Nat.testBit_and, h.2.2 g hg, Bool.false_and]⟩
theorem or0 : ∀ t, t < 64 → nI t ||| 0 = nI t := by decide +kernel
theorem andI : ∀ s, s < 64 → ∀ t, t < 64 → nI s &&& nI t = nI (s &&& t) := by decide +kernel
noncomputable def cntP (P : Nat → Prop) : Nat → Nat
  | 0 => 0
  | n + 1 => cntP P n + @ite Nat (P n) (Classical.propDecidable _) 1 0
theorem cntT {P : Nat → Prop} {n : Nat} (h : P n) : cntP P (n + 1) = cntP P n + 1 := by
  rw [cntP, if_pos h]
theorem cntF {P : Nat → Prop} {n : Nat} (h : ¬ P n) : cntP P (n + 1) = cntP P n := by
  rw [cntP, if_neg h, Nat.add_zero]
theorem cnt_le (P : Nat → Prop) : ∀ n, cntP P n ≤ n := by
  intro n
  induction n with
  | zero => exact Nat.le_refl _
  | succ n ih =>
    by_cases h : P n
    · rw [cntT h]
      omega
    · rw [cntF h]
      omega
theorem cnt_ext {P Q : Nat → Prop} : ∀ n, (∀ s, s < n → (P s ↔ Q s)) → cntP P n = cntP Q n := by
  intro n
  induction n with
  | zero => exact fun _ => rfl
  | succ n ih =>
    intro h
    have h1 := ih (fun s hs => h s (by omega))
    by_cases q : P n
    · rw [cntT q, cntT ((h n (by omega)).mp q), h1]
    · rw [cntF q, cntF (fun r => q ((h n (by omega)).mpr r)), h1]
/-! who knows it, how they answer: the reference -/
def ASK (op : Int64) (E : Nat → Nat → Nat → Bool) (s : Nat) (p : Int64) (w : Nat) (k : Nat) (r : Int64) : Prop := ∀ v, v < 64 → (mw r v = true ↔ mw op v = true ∧ ∀ g, g < k → s.testBit g = true → (KNW op E g p v ↔ KNW op E g p w))
theorem ASK.eq {op : Int64} {E : Nat → Nat → Nat → Bool} {s : Nat} {p : Int64} {w k : Nat} {r r2 : Int64} (h : ASK op E s p w k r) (h2 : ASK op E s p w k r2) : r = r2 := mwX (fun v hv => (h v hv).trans (h2 v hv).symm)
theorem ASK.zero {op : Int64} {E : Nat → Nat → Nat → Bool} {s : Nat} {p : Int64} {w : Nat} : ASK op E s p w 0 op := fun v hv => ⟨fun q => ⟨q, fun g hg => absurd hg (Nat.not_lt_zero g)⟩, fun q => q.1⟩
theorem ASK.no {op : Int64} {E : Nat → Nat → Nat → Bool} {s : Nat} {p : Int64} {w k : Nat} {r : Int64} (h : ASK op E s p w k r) (hn : ¬ s.testBit k = true) : ASK op E s p w (k + 1) r := fun v hv => (h v hv).trans (and_congr_right fun _ => ⟨fun q g hg hb => by
  rcases Nat.lt_succ_iff_lt_or_eq.mp hg with e | e
  · exact q g e hb
  · subst e
    exact absurd hb hn, fun q g hg hb => q g (by omega) hb⟩)
theorem ASK.yes {op : Int64} {E : Nat → Nat → Nat → Bool} {s : Nat} {p : Int64} {w k : Nat} {r x y : Int64} (h : ASK op E s p w k r) (hb : s.testBit k = true) (hx : ∀ v, v < 64 → (mw x v = true ↔ mw op v = true ∧ KNW op E k p v)) (hy : KNW op E k p w ∧ y = x ∨ ¬ KNW op E k p w ∧ y = x ^^^ (-1 : Int64)) : ASK op E s p w (k + 1) (r &&& y) := by
  intro v hv
  rw [mwA, h v hv]
  have e : mw op v = true → (mw y v = true ↔ (KNW op E k p v ↔ KNW op E k p w)) := fun ho => by
    rcases hy with ⟨a, b⟩ | ⟨a, b⟩
    · rw [b, hx v hv]
      exact ⟨fun q => ⟨fun _ => a, fun _ => q.2⟩, fun q => ⟨ho, q.mpr a⟩⟩
    · rw [b, mwN hv, hx v hv]
      exact ⟨fun q => ⟨fun t => absurd ⟨ho, t⟩ q, fun t => absurd t a⟩, fun q t => a (q.mp t.2)⟩
  constructor
  · rintro ⟨⟨a, b⟩, c⟩
    refine ⟨a, fun g hg hbg => ?_⟩
    rcases Nat.lt_succ_iff_lt_or_eq.mp hg with q | q
    · exact b g q hbg
    · subst q
      exact (e a).mp c
  · rintro ⟨a, b⟩
    exact ⟨⟨a, fun g hg hbg => b g (by omega) hbg⟩, (e a).mpr (b k (by omega) hb)⟩
theorem uX4_who_L6 {post : Int32 → Prop} {K56 : Int32 → Int32 → Prop} {po p2 : Int64} {DD : Nat → Nat → Int32} {s w : Nat} (hD : DOK DD) (hs : s < 64) (hw : w < 64) (hK : ∀ t b, MSK (fun g => s.testBit g = true ∧ mw po w = true ∧ KNW po (ED DD) g p2 w) 6 t → K56 (nI t) b) : ∀ (m k t : Nat), k + m = 6 → MSK (fun g => s.testBit g = true ∧ mw po w = true ∧ KNW po (ED DD) g p2 w) k t → wX4_who_L6 post K56 po DD (nI s) p2 (nI w) (m + 1) (nI t) (nI k) := by
  intro m
  induction m with
  | zero =>
    intro k t h ht
    obtain rfl : k = 6 := by omega
    exact ⟨fun _ => hK _ _ ht, fun q => absurd (by decide) q⟩
  | succ m ih =>
    intro k t h ht
    have hk : k < 6 := by omega
    refine ⟨fun q => absurd q (notLe (a := 6) hk (by decide)), fun _ => uX4_has hs hk (fun hb => ⟨fun _ => ?_, fun c => absurd rfl c⟩) (fun hb => ⟨fun c => absurd c (by decide), fun _ => uX4_known hD hk (fun r hr => tX4_has_ hw (fun hm => ⟨fun _ => ?_, fun c => absurd rfl c⟩) (fun hm => ⟨fun c => absurd c (by decide), fun _ => ?_⟩))⟩)⟩
    · rw [← nI_succ, or0 t ht.1]
      exact ih (k + 1) t (by omega) (ht.no (fun q => hb q.1))
    · rw [← nI_succ, or0 t ht.1]
      refine ih (k + 1) t (by omega) (ht.no (fun q => ?_))
      rw [(hr w hw).mpr q.2] at hm
      exact absurd hm (by decide)
    · rw [← nI_succ, shB k hk, orI k hk t ht.1]
      exact ih (k + 1) _ (by omega) (ht.yes hk ⟨hb, (hr w hw).mp hm⟩)
theorem uX4_who {post : Int32 → Prop} {po p2 : Int64} {DD : Nat → Nat → Int32} {s w : Nat} (hD : DOK DD) (hs : s < 64) (hw : w < 64) (h : ∀ t, MSK (fun g => s.testBit g = true ∧ mw po w = true ∧ KNW po (ED DD) g p2 w) 6 t → post (nI t)) : wX4_who post po DD (nI s) p2 (nI w) := ⟨7, uX4_who_L6 hD hs hw (fun t _ ht => h t ht) 6 0 0 rfl MSK.zero⟩
theorem uX4_asked_L9 {post : Int64 → Prop} {K71 : Int64 → Int32 → Prop} {po p2 : Int64} {DD : Nat → Nat → Int32} {s w : Nat} (hD : DOK DD) (hs : s < 64) (hw : w < 64) (ho : mw po w = true) (hK : ∀ r b, ASK po (ED DD) s p2 w 6 r → K71 r b) : ∀ (m k : Nat) (r : Int64), k + m = 6 → ASK po (ED DD) s p2 w k r → wX4_asked_L9 post K71 (nI w) po DD (nI s) p2 (m + 1) r (nI k) := by
  intro m
  induction m with
  | zero =>
    intro k r h hr
    obtain rfl : k = 6 := by omega
    exact ⟨fun _ => hK _ _ hr, fun q => absurd (by decide) q⟩
  | succ m ih =>
    intro k r h hr
    have hk : k < 6 := by omega
    refine ⟨fun q => absurd q (notLe (a := 6) hk (by decide)), fun _ => uX4_has hs hk (fun hb => ⟨fun c => absurd rfl c, fun _ => ?_⟩) (fun hb => ⟨fun _ => uX4_known hD hk (fun x hx => tX4_has_ hw (fun hm => ⟨fun _ => ?_, fun c => absurd rfl c⟩) (fun hm => ⟨fun c => absurd c (by decide), fun _ => ?_⟩)), fun c => absurd c (by decide)⟩)⟩
    · rw [← nI_succ]
      exact ih (k + 1) r (by omega) (hr.no hb)
    · rw [← nI_succ]
      refine ih (k + 1) _ (by omega) (hr.yes hb hx (Or.inr ⟨fun q => ?_, rfl⟩))
      rw [(hx w hw).mpr ⟨ho, q⟩] at hm
      exact absurd hm (by decide)
    · rw [← nI_succ]
      exact ih (k + 1) _ (by omega) (hr.yes hb hx (Or.inl ⟨((hx w hw).mp hm).2, rfl⟩))
theorem uX4_asked {post : Int64 → Prop} {po p2 : Int64} {DD : Nat → Nat → Int32} {s w : Nat} (hD : DOK DD) (hs : s < 64) (hw : w < 64) (ho : mw po w = true) (h : ∀ r, ASK po (ED DD) s p2 w 6 r → post r) : wX4_asked post (nI w) po DD (nI s) p2 := ⟨7, uX4_asked_L9 hD hs hw ho (fun r _ hr => h r hr) 6 0 po rfl ASK.zero⟩
/-! and the class -/
theorem tX1_knows {post : Int32 → Prop} {dk wg : Nat → Int64} {op : Int64} {E : Nat → Nat → Nat → Bool} {n g s w : Nat} (hC : CD dk E) (hg : g < 6) (hw : w < 64) (hs : s < n) (hn : n ≤ 40) (h0 : ¬ KNW op E g (wg s) w → post 0) (h1 : KNW op E g (wg s) w → post 1) : wX1_knows post dk wg op (nI w) (nI n) (nI g) (nI s) :=
  tX1_cell hC hg hw (fun r hr => tX1_worldsOf hs hn (tX2_isWithin (fun q => ⟨Or.inl rfl, h0 (fun k => q (fun v hv m => k v hv ((hr v hv).mp m).2 ((hr v hv).mp m).1))⟩) (fun q => ⟨Or.inr rfl, h1 (fun v hv a b => q v hv ((hr v hv).mpr ⟨b, a⟩))⟩)))
theorem tX1_knowersOf_L4 {post : Int32 → Prop} {K31 : Int32 → Int32 → Prop} {dk wg : Nat → Int64} {op : Int64} {E : Nat → Nat → Nat → Bool} {n s w : Nat} (hC : CD dk E) (hw : w < 64) (hs : s < n) (hn : n ≤ 40) (hK : ∀ t b, MSK (fun g => KNW op E g (wg s) w) 6 t → K31 (nI t) b) : ∀ (m k t : Nat), k + m = 6 → MSK (fun g => KNW op E g (wg s) w) k t → wX1_knowersOf_L4 post K31 dk wg op (nI w) (nI n) (nI s) (m + 1) (nI t) (nI k) := by
  intro m
  induction m with
  | zero =>
    intro k t h ht
    obtain rfl : k = 6 := by omega
    exact ⟨fun _ => hK _ _ ht, fun q => absurd (by decide) q⟩
  | succ m ih =>
    intro k t h ht
    have hk : k < 6 := by omega
    refine ⟨fun q => absurd q (notLe (a := 6) hk (by decide)), fun _ => tX1_knows hC hk hw hs hn (fun q => ⟨fun _ => ?_, fun c => absurd rfl c⟩) (fun q => ⟨fun c => absurd c (by decide), fun _ => ?_⟩)⟩
    · rw [← nI_succ]
      exact ih (k + 1) t (by omega) (ht.no q)
    · rw [← nI_succ, shB k hk, orI k hk t ht.1]
      exact ih (k + 1) _ (by omega) (ht.yes hk q)
theorem tX1_knowersOf {post : Int32 → Prop} {dk wg : Nat → Int64} {op : Int64} {E : Nat → Nat → Nat → Bool} {n s w : Nat} (hC : CD dk E) (hw : w < 64) (hs : s < n) (hn : n ≤ 40) (h : ∀ t, MSK (fun g => KNW op E g (wg s) w) 6 t → post (nI t)) : wX1_knowersOf post dk wg op (nI w) (nI n) (nI s) := ⟨7, tX1_knowersOf_L4 hC hw hs hn (fun t _ ht => h t ht) 6 0 0 rfl MSK.zero⟩
theorem knwOne {op : Int64} {E : Nat → Nat → Nat → Bool} {k : Nat} {p x : Int64} (hk : k < 6) (hx : ∀ w, w < 64 → (mw x w = true ↔ mw op w = true ∧ ∀ g, g < 6 → (2 ^ k).testBit g = true → ∀ v, v < 64 → mw op v = true → E g w v = true → mw p v = true)) : ∀ w, w < 64 → (mw x w = true ↔ mw op w = true ∧ KNW op E k p w) := fun w hw => (hx w hw).trans (and_congr_right fun _ => ⟨fun q => q k hk (by rw [Nat.testBit_two_pow]; exact decide_eq_true rfl), fun q g hg hb => by
  rw [Nat.testBit_two_pow] at hb
  obtain rfl : k = g := of_decide_eq_true hb
  exact q⟩)
theorem tX1_answeringAlike_L8 {post : Int64 → Prop} {K72 : Int64 → Int32 → Prop} {dk wg : Nat → Int64} {op : Int64} {E : Nat → Nat → Nat → Bool} {n s q w : Nat} (hC : CD dk E) (hq : EQV E) (hs : s < 64) (hw : w < 64) (ho : mw op w = true) (hqn : q < n) (hn : n ≤ 40) (hK : ∀ r b, ASK op E s (wg q) w 6 r → K72 r b) : ∀ (m k : Nat) (r : Int64), k + m = 6 → ASK op E s (wg q) w k r → wX1_answeringAlike_L8 post K72 dk wg op (nI w) (nI n) (nI s) (nI q) (m + 1) r (nI k) := by
  intro m
  induction m with
  | zero =>
    intro k r h hr
    obtain rfl : k = 6 := by omega
    exact ⟨fun _ => hK _ _ hr, fun q => absurd (by decide) q⟩
  | succ m ih =>
    intro k r h hr
    have hk : k < 6 := by omega
    refine ⟨fun c => absurd c (notLe (a := 6) hk (by decide)), fun _ => tX2_has (by omega) (fun hb => ⟨fun _ => ?_, fun c => absurd rfl c⟩) (fun hb => ⟨fun c => absurd c (by decide), fun _ => tX1_worldsOf hqn hn ?_⟩)⟩
    · rw [mwI s hs k hk] at hb
      rw [← nI_succ]
      exact ih (k + 1) r (by omega) (hr.no hb)
    · rw [mwI s hs k hk] at hb
      rw [shB k hk]
      refine tX1_knownToAll hC hq (shC k hk) (fun x hx0 => ?_)
      have hx := knwOne hk hx0
      refine tX2_has hw (fun hm => ⟨fun _ => ?_, fun c => absurd rfl c⟩) (fun hm => ⟨fun c => absurd c (by decide), fun _ => ?_⟩)
      · rw [← nI_succ]
        exact ih (k + 1) _ (by omega) (hr.yes hb hx (Or.inr ⟨fun t => hm ((hx w hw).mpr ⟨ho, t⟩), rfl⟩))
      · rw [← nI_succ]
        exact ih (k + 1) _ (by omega) (hr.yes hb hx (Or.inl ⟨((hx w hw).mp hm).2, rfl⟩))
theorem tX1_answeringAlike {post : Int64 → Prop} {dk wg : Nat → Int64} {op : Int64} {E : Nat → Nat → Nat → Bool} {n s q w : Nat} (hC : CD dk E) (hq : EQV E) (hs : s < 64) (hw : w < 64) (ho : mw op w = true) (hqn : q < n) (hn : n ≤ 40) (h : ∀ r, ASK op E s (wg q) w 6 r → post r) : wX1_answeringAlike post dk wg op (nI w) (nI n) (nI s) (nI q) := ⟨7, tX1_answeringAlike_L8 hC hq hs hw ho hqn hn (fun r _ hr => h r hr) 6 0 op rfl ASK.zero⟩
theorem tX1_countTrueInAllOf_L5 {post : Int32 → Prop} {K39 : Int32 → Int32 → Prop} {wg : Nat → Int64} {n : Nat} {p : Int64} (hn : n ≤ 40) (hK : ∀ b, K39 (nI (cntP (fun s => SUBW p (wg s)) n)) b) : ∀ (m k : Nat), k + m = n → wX1_countTrueInAllOf_L5 post K39 wg (nI n) p (m + 1) (nI (cntP (fun s => SUBW p (wg s)) k)) (nI k) := by
  intro m
  induction m with
  | zero =>
    intro k h
    obtain rfl : k = n := by omega
    exact ⟨fun _ => hK _, fun q => absurd (Int32.le_refl _) q⟩
  | succ m ih =>
    intro k h
    refine ⟨fun c => absurd c (notLe (a := n) (by omega) (by omega)), fun _ => tX1_worldsOf (by omega) hn (tX2_isWithin (fun q => ⟨fun _ => ?_, fun c => absurd rfl c⟩) (fun q => ⟨fun c => absurd c (by decide), fun _ => ?_⟩))⟩
    · have := ih (k + 1) (by omega)
      rw [cntF q, nI_succ] at this
      exact this
    · have := ih (k + 1) (by omega)
      rw [cntT q, nI_succ, nI_succ] at this
      exact this
theorem tX1_countTrueInAllOf {post : Int32 → Prop} {wg : Nat → Int64} {n : Nat} {p : Int64} (hn : n ≤ 40) (h : post (nI (cntP (fun s => SUBW p (wg s)) n))) : wX1_countTrueInAllOf post wg (nI n) p := ⟨n + 1, tX1_countTrueInAllOf_L5 hn (fun _ => h) n 0 (Nat.zero_add n)⟩
theorem subOne {w : Nat} (hw : w < 64) {a : Int64} : SUBW (jLshl (1 : Int64) (nI w)) a ↔ mw a w = true := ⟨fun h => h w hw ((mwB hw).mpr rfl), fun h v hv q => by
  obtain rfl := (mwB hw).mp q
  exact h⟩
theorem tX1_countTrueInReal {post : Int32 → Prop} {wg : Nat → Int64} {n w : Nat} (hn : n ≤ 40) (hw : w < 64) (h : post (nI (cntP (fun s => mw (wg s) w = true) n))) : wX1_countTrueInReal post wg (nI w) (nI n) := tX1_countTrueInAllOf hn (by
  rw [cnt_ext n (fun s _ => subOne hw)]
  exact h)
theorem tX1_isTrueInReal {post : Int32 → Prop} {wg : Nat → Int64} {n s w : Nat} (hn : n ≤ 40) (hs : s < n) (hw : w < 64) (h0 : ¬ mw (wg s) w = true → post 0) (h1 : mw (wg s) w = true → post 1) : wX1_isTrueInReal post wg (nI w) (nI n) (nI s) := tX1_worldsOf hs hn (tX2_has hw (fun q => ⟨Or.inl rfl, h0 q⟩) (fun q => ⟨Or.inr rfl, h1 q⟩))
theorem uX4_trueIn_L11 {post : Int32 → Prop} {K47 : Int32 → Int32 → Prop} {yf : Nat → Int64} {n w : Nat} (hn : n ≤ 40) (hw : w < 64) (hK : ∀ b, K47 (nI (cntP (fun s => mw (yf s) w = true) n)) b) : ∀ (m k : Nat), k + m = n → wX4_trueIn_L11 post K47 n yf (nI w) (m + 1) (nI (cntP (fun s => mw (yf s) w = true) k)) (nI k) := by
  intro m
  induction m with
  | zero =>
    intro k h
    obtain rfl : k = n := by omega
    exact ⟨fun _ => hK _, fun q => absurd (Int32.le_refl _) q⟩
  | succ m ih =>
    intro k h
    refine ⟨fun c => absurd c (notLe (a := n) (by omega) (by omega)), fun _ => ⟨nI_in (by omega) (by omega), ?_⟩⟩
    rw [nI_clamp (show k < 2 ^ 31 by omega)]
    refine tX4_has_ hw (fun q => ⟨fun _ => ?_, fun c => absurd rfl c⟩) (fun q => ⟨fun c => absurd c (by decide), fun _ => ?_⟩)
    · have := ih (k + 1) (by omega)
      rw [cntF (show ¬ mw (yf k) w = true from fun r => by rw [q] at r; exact absurd r (by decide)), nI_succ] at this
      rw [Int32.add_zero]
      exact this
    · have := ih (k + 1) (by omega)
      rw [cntT q, nI_succ, nI_succ] at this
      exact this
theorem uX4_trueIn {post : Int32 → Prop} {yf : Nat → Int64} {n w : Nat} (hn : n ≤ 40) (hw : w < 64) (h : post (nI (cntP (fun s => mw (yf s) w = true) n))) : wX4_trueIn post n yf (nI w) := ⟨n + 1, uX4_trueIn_L11 hn hw (fun _ => h) n 0 (Nat.zero_add n)⟩
