/-! what is asked, exactly: the class and the reference -/
theorem tX2_isWorldN {post : Int32 → Prop} {p1 : Int32} (h0 : ¬ IN p1 64 → post 0) (h1 : ∀ v, v < 64 → p1 = nI v → post 1) : wX2_isWorld post p1 := by
  refine sX2_isWorld (fun r z f1 f2 => ?_)
  rcases z with rfl | rfl
  · exact h0 (f2 rfl)
  · obtain ⟨v, hv, e⟩ := f1 (by decide)
    exact h1 v hv e
theorem tX2_isGuardN {post : Int32 → Prop} {p1 : Int32} (h0 : ¬ IN p1 6 → post 0) (h1 : ∀ g, g < 6 → p1 = nI g → post 1) : wX2_isGuard post p1 := tX2_isGuard (fun r z hr => by
  rcases z with rfl | rfl
  · exact h0 (fun q => hr.mpr q rfl)
  · obtain ⟨s, hs, e⟩ := hr.mp (by decide)
    exact h1 s hs e)
theorem tX2_isSetN {post : Int32 → Prop} {p1 : Int32} (h0 : ¬ SETG p1 → post 0) (h1 : ∀ a, 1 ≤ a → a < 64 → p1 = nI a → post 1) : wX2_isSetOfGuards post p1 := tX2_isSetOfGuards (fun r z hr => by
  rcases z with rfl | rfl
  · exact h0 (fun q => hr.mpr q rfl)
  · obtain ⟨a, b, c, e⟩ := hr.mp (by decide)
    exact h1 a b c e)
theorem txL_isTrue {post : Int32 → Int64 → Prop} {wg : Nat → Int64} {n : Nat} {on : Int64} {p1 p2 : Int32} (hn : n ≤ 40) (h1 : ∀ s, s < n → p1 = nI s → ∀ v, v < 64 → p2 = nI v → (¬ mw (wg s) v = true → post 0 0) ∧ (mw (wg s) v = true → post 0 1)) (h2 : ¬ (IN p1 n ∧ IN p2 64) → post 1 on) : wxL_isTrue post wg (nI n) on p1 p2 := by
  unfold wxL_isTrue wxX2_isTrue
  refine tX0_holdsN hn (fun q => ifN2 ⟨rfl, h2 (fun t => q t.1)⟩) (fun s hs e1 => ifY2 (tX2_isWorldN (fun q => ifN ⟨rfl, h2 (fun t => q t.2)⟩) (fun v hv e2 => ifY ?_)))
  subst e1 e2
  exact tX1_worldsOf hs hn (tX2_has hv (fun q => ⟨Or.inl rfl, ifN2 ((h1 s hs rfl v hv rfl).1 q)⟩) (fun q => ⟨Or.inr rfl, ifY2 ((h1 s hs rfl v hv rfl).2 q)⟩))
theorem txL_truth {post : Int32 → Int64 → Prop} {wg : Nat → Int64} {n : Nat} {on : Int64} {p1 : Int32} (hn : n ≤ 40) (h1 : ∀ s, s < n → p1 = nI s → post 0 (wg s)) (h2 : ¬ IN p1 n → post 1 on) : wxL_truth post wg (nI n) on p1 := by
  unfold wxL_truth wxX2_truth
  refine tX0_holdsN hn (fun q => ifN ⟨rfl, h2 q⟩) (fun s hs e1 => ifY ?_)
  subst e1
  exact tX1_worldsOf hs hn (h1 s hs rfl)
theorem txL_alike {post : Int32 → Int64 → Prop} {dk : Nat → Int64} {op : Int64} {E : Nat → Nat → Nat → Bool} {on : Int64} {p1 p2 : Int32} (hC : CD dk E) (h1 : ∀ g, g < 6 → p1 = nI g → ∀ w, w < 64 → p2 = nI w → ∀ r, (∀ v, v < 64 → (mw r v = true ↔ mw op w = true ∧ E g w v = true ∧ mw op v = true)) → post 0 r) (h2 : ¬ (IN p1 6 ∧ IN p2 64) → post 1 on) : wxL_alike post dk op on p1 p2 := by
  unfold wxL_alike wxX2_alike
  refine tX2_isGuardN (fun q => ifN2 ⟨rfl, h2 (fun t => q t.1)⟩) (fun g hg e1 => ifY2 (tX2_isWorldN (fun q => ifN ⟨rfl, h2 (fun t => q t.2)⟩) (fun w hw e2 => ifY ?_)))
  subst e1 e2
  exact tX2_has hw (fun q => ifN2 (h1 g hg rfl w hw rfl 0 (fun v hv => ⟨fun t => absurd t mwZ, fun t => absurd t.1 q⟩))) (fun q => ifY2 (tX1_cell hC hg hw (fun r hr => h1 g hg rfl w hw rfl r (fun v hv => (hr v hv).trans ⟨fun t => ⟨q, t⟩, fun t => t.2⟩))))
/-! how deep -/
noncomputable def KA (op : Int64) (E : Nat → Nat → Nat → Bool) (s : Nat) (p : Int64) : Int64 := Classical.choose (setOfP (fun w => mw op w = true ∧ ∀ g, g < 6 → s.testBit g = true → KNW op E g p w) 64 (Nat.le_refl _))
theorem KAs {op : Int64} {E : Nat → Nat → Nat → Bool} {s : Nat} {p : Int64} {w : Nat} (hw : w < 64) : mw (KA op E s p) w = true ↔ mw op w = true ∧ ∀ g, g < 6 → s.testBit g = true → KNW op E g p w := (Classical.choose_spec (setOfP (fun w => mw op w = true ∧ ∀ g, g < 6 → s.testBit g = true → KNW op E g p w) 64 (Nat.le_refl _)) w hw).trans ⟨fun q => q.2, fun q => ⟨hw, q⟩⟩
theorem KAe {op : Int64} {E : Nat → Nat → Nat → Bool} {s : Nat} {p r : Int64} (h : ∀ w, w < 64 → (mw r w = true ↔ mw op w = true ∧ ∀ g, g < 6 → s.testBit g = true → ∀ v, v < 64 → mw op v = true → E g w v = true → mw p v = true)) : r = KA op E s p := mwX (fun w hw => (h w hw).trans (KAs hw).symm)
theorem bitEx {s : Nat} (h0 : 1 ≤ s) (h : s < 64) : ∃ g, g < 6 ∧ s.testBit g = true := Classical.byContradiction fun q => by
  have e : s = 0 := by
    apply Nat.eq_of_testBit_eq
    intro i
    rw [Nat.zero_testBit]
    by_cases hi : i < 6
    · exact nT (fun t => q ⟨i, hi, t⟩)
    · exact Nat.testBit_lt_two_pow (Nat.lt_of_lt_of_le (show s < 2 ^ 6 from h) (Nat.pow_le_pow_right (by decide) (by omega)))
  omega
theorem KAsub {op : Int64} {E : Nat → Nat → Nat → Bool} {s : Nat} {p : Int64} (hq : EQV E) (h0 : 1 ≤ s) (h : s < 64) : SUBW (KA op E s p) p := fun w hw q => by
  obtain ⟨g, hg, hb⟩ := bitEx h0 h
  have := (KAs hw).mp q
  exact this.2 g hg hb w hw this.1 (hq.1 g w)
noncomputable def dpt (op : Int64) (E : Nat → Nat → Nat → Bool) (s w : Nat) : Nat → Int64 → Nat → Int32
  | 0, _, _ => 99
  | n + 1, p, k => if mw (KA op E s p) w = true then (if KA op E s p = p then 99 else dpt op E s w n (KA op E s p) (k + 1)) else nI k
noncomputable def dptA (op : Int64) (E : Nat → Nat → Nat → Bool) (s w : Nat) (p : Int64) : Int32 := if mw p w = true then dpt op E s w 64 p 0 else -1
theorem pcPos {p : Int64} {w : Nat} (hw : w < 64) (h : mw p w = true) : 0 < pc p := by
  have := pc_lt (x := 0) (y := p) (fun v _ q => absurd q mwZ) hw h (mw_zero w)
  omega
theorem tX1_depthFor_L19 {post : Int32 → Prop} {K71 : Int64 → Int32 → Prop} {dk : Nat → Int64} {op : Int64} {E : Nat → Nat → Nat → Bool} {s w : Nat} (hC : CD dk E) (hq : EQV E) (h0 : 1 ≤ s) (hs : s < 64) (hw : w < 64) : ∀ (m k : Nat) (p : Int64), k + m = 64 → pc p ≤ m → mw p w = true → post (dpt op E s w m p k) → wX1_depthFor_L19 post K71 dk op (nI w) (nI s) (m + 1) p (nI k) := by
  intro m
  induction m with
  | zero =>
    intro k p h hp hm
    have := pcPos hw hm
    omega
  | succ m ih =>
    intro k p h hp hm hpost
    refine ⟨fun c => absurd c (notLe (a := 64) (by omega) (by decide)), fun _ => tX1_knownToAll hC hq hs (fun r hr => ?_)⟩
    obtain rfl := KAe hr
    rw [dpt] at hpost
    refine tX2_has hw (fun q => ⟨fun c => absurd rfl c, fun _ => ?_⟩) (fun q => ⟨fun _ => ⟨fun ne => ?_, fun e => ?_⟩, fun c => absurd c (by decide)⟩)
    · rw [if_neg q] at hpost
      exact hpost
    · have ne2 : ¬ KA op E s p = p := fun e => ne ((lg_cmp_eq _ _).mpr e)
      rw [if_pos q, if_neg ne2] at hpost
      have := pcSub (KAsub hq h0 hs) ne2
      rw [← nI_succ]
      exact ih (k + 1) _ (by omega) (by omega) q hpost
    · rw [if_pos q, if_pos ((lg_cmp_eq _ _).mp e)] at hpost
      exact hpost
theorem tX1_depthFor {post : Int32 → Prop} {dk : Nat → Int64} {op : Int64} {E : Nat → Nat → Nat → Bool} {s w : Nat} {p : Int64} (hC : CD dk E) (hq : EQV E) (h0 : 1 ≤ s) (hs : s < 64) (hw : w < 64) (h : post (dptA op E s w p)) : wX1_depthFor post dk op (nI w) (nI s) p := by
  unfold dptA at h
  refine tX2_has hw (fun q => ifN ?_) (fun q => ifY ⟨65, tX1_depthFor_L19 hC hq h0 hs hw 64 0 p rfl (pc_le p) q ?_⟩)
  · rw [if_neg q] at h
    exact h
  · rw [if_pos q] at h
    exact h
theorem uX4_depthNow_L19 {post : Int32 → Prop} {po : Int64} {DD : Nat → Nat → Int32} {s w : Nat} (hD : DOK DD) (h0 : 1 ≤ s) (hs : s < 64) (hw : w < 64) : ∀ (m k : Nat) (p : Int64), pc p ≤ m → mw p w = true → post (dpt po (ED DD) s w m p k) → wX4_depthNow_L19 post (nI w) po DD (nI s) m p (nI k) := by
  intro m
  induction m with
  | zero =>
    intro k p hp hm
    have := pcPos hw hm
    omega
  | succ m ih =>
    intro k p hp hm hpost
    refine uX4_knownByAll hD hs (fun r hr => ?_)
    obtain rfl := KAe hr
    rw [dpt] at hpost
    refine tX4_has_ hw (fun q => ⟨fun c => absurd rfl c, fun _ => ?_⟩) (fun q => ⟨fun _ => ⟨fun ne => ?_, fun e => ?_⟩, fun c => absurd c (by decide)⟩)
    · rw [if_neg (fun t => by rw [q] at t; exact absurd t (by decide))] at hpost
      exact hpost
    · have ne2 : ¬ KA po (ED DD) s p = p := fun e => ne ((lg_cmp_eq _ _).mpr e)
      rw [if_pos q, if_neg ne2] at hpost
      have := pcSub (KAsub (EDq DD) h0 hs) ne2
      rw [← nI_succ]
      exact ih (k + 1) _ (by omega) q hpost
    · rw [if_pos q, if_pos ((lg_cmp_eq _ _).mp e)] at hpost
      exact hpost
theorem uX4_depthNow {post : Int32 → Prop} {po p : Int64} {DD : Nat → Nat → Int32} {s w : Nat} (hD : DOK DD) (h0 : 1 ≤ s) (hs : s < 64) (hw : w < 64) (h : post (dptA po (ED DD) s w p)) : wX4_depthNow post (nI w) po DD (nI s) p := by
  unfold dptA at h
  refine tX4_has_ hw (fun q => ifN ?_) (fun q => ifY ⟨64, uX4_depthNow_L19 hD h0 hs hw 64 0 p (pc_le p) q ?_⟩)
  · rw [if_neg (fun t => by rw [q] at t; exact absurd t (by decide))] at h
    exact h
  · rw [if_pos q] at h
    exact h
theorem txL_depth {post : Int32 → Int64 → Prop} {dk wg : Nat → Int64} {op : Int64} {E : Nat → Nat → Nat → Bool} {n w : Nat} {on : Int64} {p1 p2 : Int32} (hC : CD dk E) (hq : EQV E) (hn : n ≤ 40) (hw : w < 64) (h1 : ∀ q, q < n → p2 = nI q → ∀ a, 1 ≤ a → a < 64 → p1 = nI a → post 0 (dptA op E a w (wg q)).toInt64) (h2 : ¬ IN p2 n → post 1 on) (h3 : IN p2 n → ¬ SETG p1 → post 2 on) : wxL_depth post dk wg op (nI w) (nI n) on p1 p2 := by
  unfold wxL_depth wxX2_depth
  refine tX0_holdsN hn (fun q => ifN (Or.inl ⟨rfl, h2 q⟩)) (fun s hs e2 => ifY (tX2_isSetN (fun q => ifN (Or.inr ⟨rfl, h3 ⟨s, hs, e2⟩ q⟩)) (fun a ha0 ha e1 => ifY ?_)))
  subst e1 e2
  exact tX1_worldsOf hs hn (tX1_depthFor hC hq ha0 ha hw (h1 s hs rfl a ha0 ha rfl))
/-! how many a guard knows -/
def KNT (op : Int64) (E : Nat → Nat → Nat → Bool) (T : Nat → Int64) (g w : Nat) : Nat → Prop := fun s => KNW op E g (T s) w
theorem tX1_countKnownBy {post : Int32 → Prop} {dk wg : Nat → Int64} {op : Int64} {E : Nat → Nat → Nat → Bool} {n g w : Nat} (hC : CD dk E) (hn : n ≤ 40) (hg : g < 6) (hw : w < 64) (h : post (nI (cntP (KNT op E wg g w) n))) : wX1_countKnownBy post dk wg op (nI w) (nI n) (nI g) := tX1_cell hC hg hw (fun r hr => tX1_countTrueInAllOf hn (by
  rw [cnt_ext (P := fun s => SUBW r (wg s)) (Q := KNT op E wg g w) n (fun s _ => ⟨fun q v hv a b => q v hv ((hr v hv).mpr ⟨b, a⟩), fun q v hv m => q v hv ((hr v hv).mp m).2 ((hr v hv).mp m).1⟩)]
  exact h))
theorem uX4_knows_L13 {post : Int32 → Prop} {K62 : Int32 → Int32 → Prop} {po : Int64} {DD : Nat → Nat → Int32} {yf : Nat → Int64} {n g w : Nat} (hn : n ≤ 40) (hg : g < 6) (hw : w < 64) (ho : mw po w = true) (hK : ∀ b, K62 (nI (cntP (KNT po (ED DD) yf g w) n)) b) : ∀ (m k : Nat), k + m = n → wX4_knows_L13 post K62 (nI w) po DD n yf (nI g) (m + 1) (nI (cntP (KNT po (ED DD) yf g w) k)) (nI k) := by
  intro m
  induction m with
  | zero =>
    intro k h
    obtain rfl : k = n := by omega
    exact ⟨fun _ => hK _, fun q => absurd (Int32.le_refl _) q⟩
  | succ m ih =>
    intro k h
    refine ⟨fun c => absurd c (notLe (a := n) (by omega) (by omega)), fun _ => ⟨nI_in (by omega) (by omega), tX4_alikeNow hg hw (fun r hr => ?_)⟩⟩
    rw [nI_clamp (show k < 2 ^ 31 by omega)]
    have e : SUBW r (yf k) ↔ KNT po (ED DD) yf g w k := ⟨fun q v hv a b => q v hv ((hr v hv).mpr ⟨ho, b, a⟩), fun q v hv m => q v hv ((hr v hv).mp m).2.2 ((hr v hv).mp m).2.1⟩
    have i1 := ih (k + 1) (by omega)
    refine ⟨fun q => ?_, fun q => ?_⟩
    · rw [cntF (fun t => q (subIff.mpr (e.mpr t))), nI_succ] at i1
      rw [Int32.add_zero]
      exact i1
    · rw [cntT (e.mp (subIff.mp q)), nI_succ, nI_succ] at i1
      exact i1
theorem uX4_knows {post : Int32 → Prop} {po : Int64} {DD : Nat → Nat → Int32} {yf : Nat → Int64} {n g w : Nat} (hn : n ≤ 40) (hg : g < 6) (hw : w < 64) (ho : mw po w = true) (h : post (nI (cntP (KNT po (ED DD) yf g w) n))) : wX4_knows post (nI w) po DD n yf (nI g) := ⟨n + 1, uX4_knows_L13 hn hg hw ho (fun _ => h) n 0 (Nat.zero_add n)⟩
noncomputable def witV (c n : Nat) : UInt64 := if n = 0 then FP.dconst0 else FP.ddiv (FP.i2d (nI c)) (FP.i2d (nI n))
theorem nI0 {n : Nat} (hn : n ≤ 40) : nI n = 0 ↔ n = 0 := ⟨fun q => nIinj (by omega) (by decide) q, fun q => by rw [q]; rfl⟩
theorem cntI (P : Nat → Prop) {n : Nat} (hn : n ≤ 40) : IN (nI (cntP P n)) 41 := ⟨cntP P n, by have := cnt_le P n; omega, rfl⟩
theorem txL_wit {post : Int32 → UInt64 → Prop} {dk wg : Nat → Int64} {op : Int64} {E : Nat → Nat → Nat → Bool} {n w : Nat} {od : UInt64} {p1 : Int32} (hC : CD dk E) (hn : n ≤ 40) (hw : w < 64) (h1 : ∀ g, g < 6 → p1 = nI g → post 0 (witV (cntP (KNT op E wg g w) n) n)) (h2 : ¬ IN p1 6 → post 1 od) : wxL_wit post dk wg op (nI w) (nI n) od p1 := by
  unfold wxL_wit wxX2_wit
  refine tX2_isGuardN (fun q => ifN ⟨rfl, h2 q⟩) (fun g hg e => ifY ?_)
  subst e
  have h := h1 g hg rfl
  unfold witV at h
  refine ⟨fun n0 => tX1_countKnownBy hC hn hg hw ⟨(witA (cntI _ hn) ⟨n, by omega, rfl⟩ n0).1, ?_⟩, fun n0 => ?_⟩
  · rw [if_neg (fun q => n0 ((nI0 hn).mpr q))] at h
    exact h
  · rw [if_pos ((nI0 hn).mp n0)] at h
    exact h
theorem uX4_witNow {post : UInt64 → Prop} {po : Int64} {DD : Nat → Nat → Int32} {yf : Nat → Int64} {n g w : Nat} (hn : n ≤ 40) (hg : g < 6) (hw : w < 64) (ho : mw po w = true) (h : post (witV (cntP (KNT po (ED DD) yf g w) n) n)) : wX4_witNow post (nI w) po DD n yf (nI g) := by
  unfold witV at h
  refine ⟨fun n0 => uX4_knows hn hg hw ho ⟨(witA (cntI _ hn) ⟨n, by omega, rfl⟩ n0).1, ?_⟩, fun n0 => ?_⟩
  · rw [if_neg (fun q => n0 ((nI0 hn).mpr q))] at h
    exact h
  · rw [if_pos ((nI0 hn).mp n0)] at h
    exact h
/-! what all know that all know, from what is real on -/
theorem rchReal {op : Int64} {E : Nat → Nat → Nat → Bool} {s w : Nat} {p r : Int64} (hw : w < 64) (ho : mw op w = true) (h : RCH op E s (jLshl 1 (nI w)) r) : SUBW r p ↔ COM op E s p w := by
  obtain ⟨r1, r2, r3, r4⟩ := h
  constructor
  · exact fun q => ⟨fun v => mw r v = true, r1 w hw ((mwB hw).mpr rfl) ho, fun v hv hS => ⟨q v hv hS, fun g hg hb u hu hou he => r3 v hv hS g hg hb u hu hou he⟩⟩
  · rintro ⟨S, s1, s2⟩ v hv hm
    refine (s2 v hv (r4 S (fun u hu a _ => ?_) (fun u hu a _ g hg hb x hx hox he => (s2 u hu a).2 g hg hb x hx hox he) v hv hm)).1
    obtain rfl := (mwB hw).mp a
    exact s1
theorem tX1_reachedFromReal {post : Int64 → Prop} {dk : Nat → Int64} {op : Int64} {E : Nat → Nat → Nat → Bool} {s w : Nat} (hC : CD dk E) (hq : EQV E) (hs : s < 64) (hw : w < 64) (ho : mw op w = true) (h : ∀ r, (∀ p, SUBW r p ↔ COM op E s p w) → post r) : wX1_reachedFromReal post dk op (nI w) (nI s) := tX1_reached hC hq hs (fun r hr => h r (fun _ => rchReal hw ho hr))
def CMT (op : Int64) (E : Nat → Nat → Nat → Bool) (T : Nat → Int64) (s w : Nat) : Nat → Prop := fun q => COM op E s (T q) w
theorem uX4_nightNow_L111 {post : Int32 → Prop} {K157 : Int32 → Int32 → Prop} {po : Int64} {DD : Nat → Nat → Int32} {yf : Nat → Int64} {n w : Nat} (hD : DOK DD) (hn : n ≤ 40) (hw : w < 64) (ho : mw po w = true) (hs : ∀ s, s < n → SUBW (yf s) po) (hK : ∀ b, K157 (nI (cntP (CMT po (ED DD) yf 63 w) n)) b) : ∀ (m k : Nat), k + m = n → wX4_nightNow_L111 post K157 (nI w) po DD n yf (m + 1) (nI (cntP (CMT po (ED DD) yf 63 w) k)) (nI k) := by
  intro m
  induction m with
  | zero =>
    intro k h
    obtain rfl : k = n := by omega
    exact ⟨fun _ => hK _, fun q => absurd (Int32.le_refl _) q⟩
  | succ m ih =>
    intro k h
    refine ⟨fun c => absurd c (notLe (a := n) (by omega) (by omega)), fun _ => ⟨nI_in (by omega) (by omega), ?_⟩⟩
    rw [nI_clamp (show k < 2 ^ 31 by omega)]
    have i1 := ih (k + 1) (by omega)
    show wX4_common _ po DD (nI 63) _
    refine uX4_common hD (by decide) (hs k (by omega)) (fun r hr => tX4_has_ hw (fun q => ⟨fun _ => ?_, fun c => absurd rfl c⟩) (fun q => ⟨fun c => absurd c (by decide), fun _ => ?_⟩))
    · rw [cntF (show ¬ CMT po (ED DD) yf 63 w k from fun t => by rw [(hr w hw).mpr ⟨ho, t⟩] at q; exact absurd q (by decide)), nI_succ] at i1
      rw [Int32.add_zero]
      exact i1
    · rw [cntT (show CMT po (ED DD) yf 63 w k from ((hr w hw).mp q).2), nI_succ, nI_succ] at i1
      exact i1
/-! who is nearest -/
noncomputable def ALK (op : Int64) (E : Nat → Nat → Nat → Bool) (w g : Nat) : Int64 := Classical.choose (setOfP (fun v => E g w v = true ∧ mw op v = true) 64 (Nat.le_refl _))
theorem ALKe {op : Int64} {E : Nat → Nat → Nat → Bool} {w g : Nat} {r : Int64} (h : ∀ v, v < 64 → (mw r v = true ↔ E g w v = true ∧ mw op v = true)) : r = ALK op E w g := mwX (fun v hv => (h v hv).trans ((Classical.choose_spec (setOfP (fun v => E g w v = true ∧ mw op v = true) 64 (Nat.le_refl _)) v hv).trans ⟨fun q => q.2, fun q => ⟨hv, q⟩⟩).symm)
def nrt (f : Nat → Nat) : Nat → Nat → Nat → Nat
  | 0, _, b => b
  | m + 1, k, b => nrt f m (k + 1) (if f b ≤ f k then b else k)
theorem nIleQ {a b : Nat} (ha : a < 2 ^ 31) (hb : b < 2 ^ 31) : nI a ≤ nI b ↔ a ≤ b := by
  rw [← Int32.not_lt, nILt hb ha]
  omega
theorem tX1_nearestToReal_L4 {post : Int32 → Prop} {K45 : Int32 → Int32 → Prop} {dk : Nat → Int64} {op : Int64} {E : Nat → Nat → Nat → Bool} {w : Nat} (hC : CD dk E) (hw : w < 64) : ∀ (m k b : Nat), k + m = 6 → b < 6 → (∀ i, K45 (nI (nrt (fun g => pc (ALK op E w g)) m k b)) i) → wX1_nearestToReal_L4 post K45 dk op (nI w) (m + 1) (nI b) (nI k) := by
  intro m
  induction m with
  | zero =>
    intro k b h hb hK
    obtain rfl : k = 6 := by omega
    exact ⟨fun _ => hK _, fun q => absurd (by decide) q⟩
  | succ m ih =>
    intro k b h hb hK
    have hk : k < 6 := by omega
    refine ⟨fun q => absurd q (notLe (a := 6) hk (by decide)), fun _ => tX1_cell hC hk hw (fun r hr => eJ13_bitCount (tX1_cell hC hb hw (fun r2 hr2 => eJ13_bitCount ?_)))⟩
    obtain rfl := ALKe hr
    obtain rfl := ALKe hr2
    have l1 := pc_le (ALK op E w k)
    have l2 := pc_le (ALK op E w b)
    rw [nIleQ (by omega) (by omega), ← nI_succ]
    rw [nrt] at hK
    refine ⟨fun q => ih (k + 1) b (by omega) hb ?_, fun q => ih (k + 1) k (by omega) hk ?_⟩
    · rw [if_pos q] at hK
      exact hK
    · rw [if_neg q] at hK
      exact hK
theorem tX1_nearestToReal {post : Int32 → Prop} {dk : Nat → Int64} {op : Int64} {E : Nat → Nat → Nat → Bool} {w : Nat} (hC : CD dk E) (hw : w < 64) (h : post (nI (nrt (fun g => pc (ALK op E w g)) 5 1 0))) : wX1_nearestToReal post dk op (nI w) := ⟨6, tX1_nearestToReal_L4 hC hw 5 1 0 rfl (by decide) (fun _ => h)⟩
theorem uX4_nightNow_L162 {post : Int32 → Prop} {K210 : Int32 → Int32 → Prop} {po : Int64} {DD : Nat → Nat → Int32} {w : Nat} (hw : w < 64) (ho : mw po w = true) : ∀ (m k b : Nat), k + m = 6 → b < 6 → (∀ i, K210 (nI (nrt (fun g => pc (ALK po (ED DD) w g)) m k b)) i) → wX4_nightNow_L162 post K210 (nI w) po DD (m + 1) (nI b) (nI k) := by
  intro m
  induction m with
  | zero =>
    intro k b h hb hK
    obtain rfl : k = 6 := by omega
    exact ⟨fun _ => hK _, fun q => absurd (by decide) q⟩
  | succ m ih =>
    intro k b h hb hK
    have hk : k < 6 := by omega
    refine ⟨fun q => absurd q (notLe (a := 6) hk (by decide)), fun _ => tX4_alikeNow hk hw (fun r hr => eX4_size_ (tX4_alikeNow hb hw (fun r2 hr2 => eX4_size_ ?_)))⟩
    obtain rfl := ALKe (op := po) (E := ED DD) (w := w) (g := k) (fun v hv => (hr v hv).trans ⟨fun q => q.2, fun q => ⟨ho, q⟩⟩)
    obtain rfl := ALKe (op := po) (E := ED DD) (w := w) (g := b) (fun v hv => (hr2 v hv).trans ⟨fun q => q.2, fun q => ⟨ho, q⟩⟩)
    have l1 := pc_le (ALK po (ED DD) w k)
    have l2 := pc_le (ALK po (ED DD) w b)
    rw [nIleQ (by omega) (by omega), ← nI_succ]
    rw [nrt] at hK
    refine ⟨fun q => ih (k + 1) b (by omega) hb ?_, fun q => ih (k + 1) k (by omega) hk ?_⟩
    · rw [if_pos q] at hK
      exact hK
    · rw [if_neg q] at hK
      exact hK
