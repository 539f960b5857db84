/-! how deep a sentence is built: the reference, exactly -/
def deepEX (sn : Nat) (sq : Nat → Nat → Int32) (p1 p2 p3 d : Int32) : Prop := ∃ k, k ≤ sn ∧ d = nI k ∧ (p1 = 1 ∨ p1 = 2 ∨ p1 = 3 → ∃ e, e < k ∧ sq p2.toNatClampNeg 3 = nI e) ∧ (¬ p1 = 0 → ¬ p1 = 1 → ∃ e, e < k ∧ sq p3.toNatClampNeg 3 = nI e) ∧ (k = 0 ∨ ((p1 = 1 ∨ p1 = 2 ∨ p1 = 3) ∧ ∃ e, k = e + 1 ∧ sq p2.toNatClampNeg 3 = nI e) ∨ (¬ p1 = 0 ∧ ¬ p1 = 1 ∧ ∃ e, k = e + 1 ∧ sq p3.toNatClampNeg 3 = nI e))
theorem deepEX.ok {sn : Nat} {sq : Nat → Nat → Int32} {p1 p2 p3 d : Int32} (h : deepEX sn sq p1 p2 p3 d) : deepOK sn sq p1 p2 p3 d := by
  obtain ⟨k, a, b, c, e, _⟩ := h
  exact ⟨k, a, b, c, e⟩
theorem mxEX {P Q R : Prop} {x y : Int32} {e g : Nat} (ee : x = nI e) (eg : y = nI g) (hp : P) (hq : Q) (hr : R) : max e g + 1 = 0 ∨ (P ∧ ∃ i, max e g + 1 = i + 1 ∧ x = nI i) ∨ (Q ∧ R ∧ ∃ i, max e g + 1 = i + 1 ∧ y = nI i) := by
  rcases Nat.le_total e g with q | q
  · exact Or.inr (Or.inr ⟨hq, hr, g, by omega, eg⟩)
  · exact Or.inr (Or.inl ⟨hp, e, by omega, ee⟩)
theorem deepEX.eq {sn : Nat} {sq : Nat → Nat → Int32} {p1 p2 p3 d : Int32} {e g : Nat} (hn : sn < 40) (hw : wfS sn p1 p2 p3) (he : (p1 = 1 ∨ p1 = 2 ∨ p1 = 3) → e < 40 ∧ sq p2.toNatClampNeg 3 = nI e) (hg : ¬ p1 = 0 → ¬ p1 = 1 → g < 40 ∧ sq p3.toNatClampNeg 3 = nI g) (h : deepEX sn sq p1 p2 p3 d) : d = nI (dpF p1 e g) := by
  obtain ⟨k, hk, rfl, h1, h2, h3⟩ := h
  have A : (p1 = 1 ∨ p1 = 2 ∨ p1 = 3) → e < k := fun q => by
    obtain ⟨i, hi, ei⟩ := h1 q
    have := nIinj (a := i) (k := e) (by omega) (by have := (he q).1; omega) (ei.symm.trans (he q).2)
    omega
  have B : ¬ p1 = 0 → ¬ p1 = 1 → g < k := fun q r => by
    obtain ⟨i, hi, ei⟩ := h2 q r
    have := nIinj (a := i) (k := g) (by omega) (by have := (hg q r).1; omega) (ei.symm.trans (hg q r).2)
    omega
  have C : k = 0 ∨ ((p1 = 1 ∨ p1 = 2 ∨ p1 = 3) ∧ k = e + 1) ∨ (¬ p1 = 0 ∧ ¬ p1 = 1 ∧ k = g + 1) := by
    rcases h3 with q | ⟨q, i, r, s⟩ | ⟨q, q2, i, r, s⟩
    · exact Or.inl q
    · have := nIinj (a := i) (k := e) (by omega) (by have := (he q).1; omega) (s.symm.trans (he q).2)
      exact Or.inr (Or.inl ⟨q, by omega⟩)
    · have := nIinj (a := i) (k := g) (by omega) (by have := (hg q q2).1; omega) (s.symm.trans (hg q q2).2)
      exact Or.inr (Or.inr ⟨q, q2, by omega⟩)
  congr 1
  obtain ⟨d, hd, rfl⟩ := hw.1
  clear h1 h2 h3 he hg
  rcases (show d = 0 ∨ d = 1 ∨ d = 2 ∨ d = 3 ∨ d = 4 ∨ d = 5 ∨ d = 6 ∨ d = 7 from by omega) with rfl | rfl | rfl | rfl | rfl | rfl | rfl | rfl
  · show k = 0
    rcases C with q | q | q
    · exact q
    · exact absurd q.1 (by decide)
    · exact absurd rfl q.1
  · have a := A (Or.inl rfl)
    show k = e + 1
    rcases C with q | q | q
    · omega
    · exact q.2
    · exact absurd rfl q.2.1
  · have a := A (Or.inr (Or.inl rfl))
    have b := B (by decide) (by decide)
    show k = max e g + 1
    rcases C with q | q | q
    · omega
    · have := q.2
      omega
    · have := q.2.2
      omega
  · have a := A (Or.inr (Or.inr rfl))
    have b := B (by decide) (by decide)
    show k = max e g + 1
    rcases C with q | q | q
    · omega
    · have := q.2
      omega
    · have := q.2.2
      omega
  · have b := B (by decide) (by decide)
    show k = g + 1
    rcases C with q | q | q
    · omega
    · exact absurd q.1 (by decide)
    · exact q.2.2
  · have b := B (by decide) (by decide)
    show k = g + 1
    rcases C with q | q | q
    · omega
    · exact absurd q.1 (by decide)
    · exact q.2.2
  · have b := B (by decide) (by decide)
    show k = g + 1
    rcases C with q | q | q
    · omega
    · exact absurd q.1 (by decide)
    · exact q.2.2
  · have b := B (by decide) (by decide)
    show k = g + 1
    rcases C with q | q | q
    · omega
    · exact absurd q.1 (by decide)
    · exact q.2.2
theorem tnX4_sayN_C65 {post : Int32 → Int32 × Int32 × Int32 × Nat × (Nat → Option Nat) × Nat × (Nat → Int32) → Prop} {sn : Nat} {sq : Nat → Nat → Int32} {lm : Int32} {cap : Nat} {ef : Nat → Option Nat} {p1 p2 p3 i4 : Int32} (hn : sn < 40) (hs : SOK sn sq) (hw : wfS sn p1 p2 p3) (h4 : ¬ i4 = 0) (h : ∀ i5, deepEX sn sq p1 p2 p3 i5 → wnX4_sayN_C157 post lm (nI sn) cap ef p1 p2 p3 i5) : wnX4_sayN_C65 post sn sq lm (nI sn) cap ef p1 p2 p3 i4 := by
  refine ⟨fun e => absurd e h4, fun _ => ?_⟩
  have s40 : ¬ nI sn = (40 : Int32) := fun q => absurd (nIinj (a := sn) (k := 40) (by omega) (by decide) q) (by omega)
  have hd : ∀ x, IN x sn → vp_in x sn ∧ ∃ e, e < sn ∧ sq x.toNatClampNeg 3 = nI e := fun x hx => by
    obtain ⟨-, d, d1, d2, -⟩ := hs _ (hx.lt (by omega))
    have := hx.lt (n := sn) (by omega)
    exact ⟨hx.vp (by omega), d, by omega, d2⟩
  obtain ⟨k, hk, hk2⟩ := hw.1
  subst hk2
  rcases (show k = 0 ∨ k = 1 ∨ k = 2 ∨ k = 3 ∨ k = 4 ∨ k = 5 ∨ k = 6 ∨ k = 7 from by omega) with rfl | rfl | rfl | rfl | rfl | rfl | rfl | rfl
  · (repeat (first | refine iT (by decide) ?_ | refine iF (by decide) ?_ | refine jT (by decide) ?_ | refine jF (by decide) ?_))
    refine ⟨fun _ => ?_, fun q => absurd q s40⟩
    (repeat (first | refine iT (by decide) ?_ | refine iF (by decide) ?_ | refine jT (by decide) ?_ | refine jF (by decide) ?_))
    exact h _ ⟨0, Nat.zero_le _, rfl, fun q => absurd q (by decide), fun q => absurd rfl q, Or.inl rfl⟩
  · obtain ⟨v2, e, he, ee⟩ := hd p2 (wf1.mp hw)
    (repeat (first | refine iT (by decide) ?_ | refine iF (by decide) ?_ | refine jT (by decide) ?_ | refine jF (by decide) ?_))
    refine ⟨fun _ => ?_, fun q => absurd q s40⟩
    (repeat (first | refine iT (by decide) ?_ | refine iF (by decide) ?_ | refine jT (by decide) ?_ | refine jF (by decide) ?_))
    refine ⟨v2, ?_⟩
    (repeat (first | refine iT (by decide) ?_ | refine iF (by decide) ?_ | refine jT (by decide) ?_ | refine jF (by decide) ?_))
    refine h _ ⟨e + 1, by omega, ?_, fun _ => ⟨e, by omega, ee⟩, fun _ q => absurd rfl q, Or.inr (Or.inl ⟨Or.inl rfl, e, rfl, ee⟩)⟩
    rw [c3, ee]
    exact dep1 e (by omega)
  · obtain ⟨v2, e, he, ee⟩ := hd p2 (wf2.mp hw).1
    obtain ⟨v3, g, hg, eg⟩ := hd p3 (wf2.mp hw).2
    (repeat (first | refine iT (by decide) ?_ | refine iF (by decide) ?_ | refine jT (by decide) ?_ | refine jF (by decide) ?_))
    refine tX4_isSentence (by omega) (fun r z hr => ⟨fun _ => ?_, fun q => absurd q (hr.mpr (wf2.mp hw).2)⟩)
    refine ⟨fun _ => ?_, fun q => absurd q s40⟩
    (repeat (first | refine iT (by decide) ?_ | refine iF (by decide) ?_ | refine jT (by decide) ?_ | refine jF (by decide) ?_))
    refine ⟨v2, ?_⟩
    (repeat (first | refine iT (by decide) ?_ | refine iF (by decide) ?_ | refine jT (by decide) ?_ | refine jF (by decide) ?_))
    refine ⟨v3, fun x hx => h x ⟨max e g + 1, by omega, ?_, fun _ => ⟨e, by omega, ee⟩, fun _ _ => ⟨g, by omega, eg⟩, mxEX ee eg (by decide) (by decide) (by decide)⟩⟩
    rw [hx, c3, ee, eg]
    exact dep3 e (by omega) g (by omega)
  · obtain ⟨v2, e, he, ee⟩ := hd p2 (wf3.mp hw).1
    obtain ⟨v3, g, hg, eg⟩ := hd p3 (wf3.mp hw).2
    (repeat (first | refine iT (by decide) ?_ | refine iF (by decide) ?_ | refine jT (by decide) ?_ | refine jF (by decide) ?_))
    refine tX4_isSentence (by omega) (fun r z hr => ⟨fun _ => ?_, fun q => absurd q (hr.mpr (wf3.mp hw).2)⟩)
    refine ⟨fun _ => ?_, fun q => absurd q s40⟩
    (repeat (first | refine iT (by decide) ?_ | refine iF (by decide) ?_ | refine jT (by decide) ?_ | refine jF (by decide) ?_))
    refine ⟨v2, ?_⟩
    (repeat (first | refine iT (by decide) ?_ | refine iF (by decide) ?_ | refine jT (by decide) ?_ | refine jF (by decide) ?_))
    refine ⟨v3, fun x hx => h x ⟨max e g + 1, by omega, ?_, fun _ => ⟨e, by omega, ee⟩, fun _ _ => ⟨g, by omega, eg⟩, mxEX ee eg (by decide) (by decide) (by decide)⟩⟩
    rw [hx, c3, ee, eg]
    exact dep3 e (by omega) g (by omega)
  · obtain ⟨v3, g, hg, eg⟩ := hd p3 (wf4.mp hw).2
    (repeat (first | refine iT (by decide) ?_ | refine iF (by decide) ?_ | refine jT (by decide) ?_ | refine jF (by decide) ?_))
    refine tX4_isSentence (by omega) (fun r z hr => ⟨fun _ => ?_, fun q => absurd q (hr.mpr (wf4.mp hw).2)⟩)
    refine ⟨fun _ => ?_, fun q => absurd q s40⟩
    (repeat (first | refine iT (by decide) ?_ | refine iF (by decide) ?_ | refine jT (by decide) ?_ | refine jF (by decide) ?_))
    refine ⟨v3, fun x hx => h x ⟨g + 1, by omega, ?_, fun q => absurd q (by decide), fun _ _ => ⟨g, by omega, eg⟩, Or.inr (Or.inr ⟨by decide, by decide, g, rfl, eg⟩)⟩⟩
    rw [hx, c3, eg]
    exact dep2 g (by omega)
  · obtain ⟨v3, g, hg, eg⟩ := hd p3 (wf5.mp hw).2
    (repeat (first | refine iT (by decide) ?_ | refine iF (by decide) ?_ | refine jT (by decide) ?_ | refine jF (by decide) ?_))
    refine tX4_isSentence (by omega) (fun r z hr => ⟨fun _ => ?_, fun q => absurd q (hr.mpr (wf5.mp hw).2)⟩)
    refine ⟨fun _ => ?_, fun q => absurd q s40⟩
    (repeat (first | refine iT (by decide) ?_ | refine iF (by decide) ?_ | refine jT (by decide) ?_ | refine jF (by decide) ?_))
    refine ⟨v3, fun x hx => h x ⟨g + 1, by omega, ?_, fun q => absurd q (by decide), fun _ _ => ⟨g, by omega, eg⟩, Or.inr (Or.inr ⟨by decide, by decide, g, rfl, eg⟩)⟩⟩
    rw [hx, c3, eg]
    exact dep2 g (by omega)
  · obtain ⟨v3, g, hg, eg⟩ := hd p3 (wf6.mp hw).2
    (repeat (first | refine iT (by decide) ?_ | refine iF (by decide) ?_ | refine jT (by decide) ?_ | refine jF (by decide) ?_))
    refine tX4_isSentence (by omega) (fun r z hr => ⟨fun _ => ?_, fun q => absurd q (hr.mpr (wf6.mp hw).2)⟩)
    refine ⟨fun _ => ?_, fun q => absurd q s40⟩
    (repeat (first | refine iT (by decide) ?_ | refine iF (by decide) ?_ | refine jT (by decide) ?_ | refine jF (by decide) ?_))
    refine ⟨v3, fun x hx => h x ⟨g + 1, by omega, ?_, fun q => absurd q (by decide), fun _ _ => ⟨g, by omega, eg⟩, Or.inr (Or.inr ⟨by decide, by decide, g, rfl, eg⟩)⟩⟩
    rw [hx, c3, eg]
    exact dep2 g (by omega)
  · obtain ⟨v3, g, hg, eg⟩ := hd p3 (wf7.mp hw).2
    (repeat (first | refine iT (by decide) ?_ | refine iF (by decide) ?_ | refine jT (by decide) ?_ | refine jF (by decide) ?_))
    refine tX4_isSentence (by omega) (fun r z hr => ⟨fun _ => ?_, fun q => absurd q (hr.mpr (wf7.mp hw).2)⟩)
    refine ⟨fun _ => ?_, fun q => absurd q s40⟩
    (repeat (first | refine iT (by decide) ?_ | refine iF (by decide) ?_ | refine jT (by decide) ?_ | refine jF (by decide) ?_))
    refine ⟨v3, fun x hx => h x ⟨g + 1, by omega, ?_, fun q => absurd q (by decide), fun _ _ => ⟨g, by omega, eg⟩, Or.inr (Or.inr ⟨by decide, by decide, g, rfl, eg⟩)⟩⟩
    rw [hx, c3, eg]
    exact dep2 g (by omega)
theorem tnX4_sayN {post : Int32 → Int32 × Int32 × Int32 × Nat × (Nat → Option Nat) × Nat × (Nat → Int32) → Prop} {th : Int32} {sn : Nat} {sq : Nat → Nat → Int32} {lm : Int32} {cap : Nat} {ef : Nat → Option Nat} {p1 p2 p3 : Int32} (hn : sn < 40) (hs : SOK sn sq) (hw : wfS sn p1 p2 p3) (h : ∀ i5, deepEX sn sq p1 p2 p3 i5 → wnX4_sayN_C157 post lm (nI sn) cap ef p1 p2 p3 i5) : wnX4_sayN post th sn sq lm (nI sn) cap ef p1 p2 p3 := by
  refine tX4_in (fun r z hr => ⟨fun c => ?_, fun c => absurd c (hr.mpr ((inRng (n := 7) (by decide)).mpr hw.1))⟩)
  have hn2 : sn ≤ 40 := by omega
  refine ⟨fun n0 => ⟨fun g4 => ⟨fun n4 => tX4_isSet (fun r z hr => tnX4_sayN_C65 hn hs hw (hr.mpr ((wfSet hw.1 g4 n4).mp hw).1) h), fun e4 => ?_⟩, fun l4 => tX4_isSentence hn2 (fun r z hr => tnX4_sayN_C65 hn hs hw (hr.mpr ((wfSen hw.1 l4 n0).mp hw).1) h)⟩, fun e0 => ?_⟩
  · subst e4
    exact tX4_isGuard (fun r z hr => tnX4_sayN_C65 hn hs hw (hr.mpr (wf4.mp hw).1) h)
  · subst e0
    exact tX4_in (fun r z hr => tnX4_sayN_C65 hn hs hw (hr.mpr ((inRng (n := 5) (by decide)).mpr (wf0.mp hw))) h)
theorem tnX4_sayE_C65 {post : Int32 → Int32 × Int32 × Int32 × Nat × (Nat → Option Nat) × Nat × (Nat → Int32) → Prop} {sn : Nat} {sq : Nat → Nat → Int32} {lm : Int32} {p1 p2 p3 i4 : Int32} (hn : sn < 40) (hs : SOK sn sq) (hw : wfS sn p1 p2 p3) (h4 : ¬ i4 = 0) (h : ∀ i5, deepEX sn sq p1 p2 p3 i5 → wnX4_sayE_C157 post lm (nI sn) p1 p2 p3 i5) : wnX4_sayE_C65 post sn sq lm (nI sn) p1 p2 p3 i4 := by
  refine ⟨fun e => absurd e h4, fun _ => ?_⟩
  have s40 : ¬ nI sn = (40 : Int32) := fun q => absurd (nIinj (a := sn) (k := 40) (by omega) (by decide) q) (by omega)
  have hd : ∀ x, IN x sn → vp_in x sn ∧ ∃ e, e < sn ∧ sq x.toNatClampNeg 3 = nI e := fun x hx => by
    obtain ⟨-, d, d1, d2, -⟩ := hs _ (hx.lt (by omega))
    have := hx.lt (n := sn) (by omega)
    exact ⟨hx.vp (by omega), d, by omega, d2⟩
  obtain ⟨k, hk, hk2⟩ := hw.1
  subst hk2
  rcases (show k = 0 ∨ k = 1 ∨ k = 2 ∨ k = 3 ∨ k = 4 ∨ k = 5 ∨ k = 6 ∨ k = 7 from by omega) with rfl | rfl | rfl | rfl | rfl | rfl | rfl | rfl
  · (repeat (first | refine iT (by decide) ?_ | refine iF (by decide) ?_ | refine jT (by decide) ?_ | refine jF (by decide) ?_))
    refine ⟨fun _ => ?_, fun q => absurd q s40⟩
    (repeat (first | refine iT (by decide) ?_ | refine iF (by decide) ?_ | refine jT (by decide) ?_ | refine jF (by decide) ?_))
    exact h _ ⟨0, Nat.zero_le _, rfl, fun q => absurd q (by decide), fun q => absurd rfl q, Or.inl rfl⟩
  · obtain ⟨v2, e, he, ee⟩ := hd p2 (wf1.mp hw)
    (repeat (first | refine iT (by decide) ?_ | refine iF (by decide) ?_ | refine jT (by decide) ?_ | refine jF (by decide) ?_))
    refine ⟨fun _ => ?_, fun q => absurd q s40⟩
    (repeat (first | refine iT (by decide) ?_ | refine iF (by decide) ?_ | refine jT (by decide) ?_ | refine jF (by decide) ?_))
    refine ⟨v2, ?_⟩
    (repeat (first | refine iT (by decide) ?_ | refine iF (by decide) ?_ | refine jT (by decide) ?_ | refine jF (by decide) ?_))
    refine h _ ⟨e + 1, by omega, ?_, fun _ => ⟨e, by omega, ee⟩, fun _ q => absurd rfl q, Or.inr (Or.inl ⟨Or.inl rfl, e, rfl, ee⟩)⟩
    rw [c3, ee]
    exact dep1 e (by omega)
  · obtain ⟨v2, e, he, ee⟩ := hd p2 (wf2.mp hw).1
    obtain ⟨v3, g, hg, eg⟩ := hd p3 (wf2.mp hw).2
    (repeat (first | refine iT (by decide) ?_ | refine iF (by decide) ?_ | refine jT (by decide) ?_ | refine jF (by decide) ?_))
    refine tX4_isSentence (by omega) (fun r z hr => ⟨fun _ => ?_, fun q => absurd q (hr.mpr (wf2.mp hw).2)⟩)
    refine ⟨fun _ => ?_, fun q => absurd q s40⟩
    (repeat (first | refine iT (by decide) ?_ | refine iF (by decide) ?_ | refine jT (by decide) ?_ | refine jF (by decide) ?_))
    refine ⟨v2, ?_⟩
    (repeat (first | refine iT (by decide) ?_ | refine iF (by decide) ?_ | refine jT (by decide) ?_ | refine jF (by decide) ?_))
    refine ⟨v3, fun x hx => h x ⟨max e g + 1, by omega, ?_, fun _ => ⟨e, by omega, ee⟩, fun _ _ => ⟨g, by omega, eg⟩, mxEX ee eg (by decide) (by decide) (by decide)⟩⟩
    rw [hx, c3, ee, eg]
    exact dep3 e (by omega) g (by omega)
  · obtain ⟨v2, e, he, ee⟩ := hd p2 (wf3.mp hw).1
    obtain ⟨v3, g, hg, eg⟩ := hd p3 (wf3.mp hw).2
    (repeat (first | refine iT (by decide) ?_ | refine iF (by decide) ?_ | refine jT (by decide) ?_ | refine jF (by decide) ?_))
    refine tX4_isSentence (by omega) (fun r z hr => ⟨fun _ => ?_, fun q => absurd q (hr.mpr (wf3.mp hw).2)⟩)
    refine ⟨fun _ => ?_, fun q => absurd q s40⟩
    (repeat (first | refine iT (by decide) ?_ | refine iF (by decide) ?_ | refine jT (by decide) ?_ | refine jF (by decide) ?_))
    refine ⟨v2, ?_⟩
    (repeat (first | refine iT (by decide) ?_ | refine iF (by decide) ?_ | refine jT (by decide) ?_ | refine jF (by decide) ?_))
    refine ⟨v3, fun x hx => h x ⟨max e g + 1, by omega, ?_, fun _ => ⟨e, by omega, ee⟩, fun _ _ => ⟨g, by omega, eg⟩, mxEX ee eg (by decide) (by decide) (by decide)⟩⟩
    rw [hx, c3, ee, eg]
    exact dep3 e (by omega) g (by omega)
  · obtain ⟨v3, g, hg, eg⟩ := hd p3 (wf4.mp hw).2
    (repeat (first | refine iT (by decide) ?_ | refine iF (by decide) ?_ | refine jT (by decide) ?_ | refine jF (by decide) ?_))
    refine tX4_isSentence (by omega) (fun r z hr => ⟨fun _ => ?_, fun q => absurd q (hr.mpr (wf4.mp hw).2)⟩)
    refine ⟨fun _ => ?_, fun q => absurd q s40⟩
    (repeat (first | refine iT (by decide) ?_ | refine iF (by decide) ?_ | refine jT (by decide) ?_ | refine jF (by decide) ?_))
    refine ⟨v3, fun x hx => h x ⟨g + 1, by omega, ?_, fun q => absurd q (by decide), fun _ _ => ⟨g, by omega, eg⟩, Or.inr (Or.inr ⟨by decide, by decide, g, rfl, eg⟩)⟩⟩
    rw [hx, c3, eg]
    exact dep2 g (by omega)
  · obtain ⟨v3, g, hg, eg⟩ := hd p3 (wf5.mp hw).2
    (repeat (first | refine iT (by decide) ?_ | refine iF (by decide) ?_ | refine jT (by decide) ?_ | refine jF (by decide) ?_))
    refine tX4_isSentence (by omega) (fun r z hr => ⟨fun _ => ?_, fun q => absurd q (hr.mpr (wf5.mp hw).2)⟩)
    refine ⟨fun _ => ?_, fun q => absurd q s40⟩
    (repeat (first | refine iT (by decide) ?_ | refine iF (by decide) ?_ | refine jT (by decide) ?_ | refine jF (by decide) ?_))
    refine ⟨v3, fun x hx => h x ⟨g + 1, by omega, ?_, fun q => absurd q (by decide), fun _ _ => ⟨g, by omega, eg⟩, Or.inr (Or.inr ⟨by decide, by decide, g, rfl, eg⟩)⟩⟩
    rw [hx, c3, eg]
    exact dep2 g (by omega)
  · obtain ⟨v3, g, hg, eg⟩ := hd p3 (wf6.mp hw).2
    (repeat (first | refine iT (by decide) ?_ | refine iF (by decide) ?_ | refine jT (by decide) ?_ | refine jF (by decide) ?_))
    refine tX4_isSentence (by omega) (fun r z hr => ⟨fun _ => ?_, fun q => absurd q (hr.mpr (wf6.mp hw).2)⟩)
    refine ⟨fun _ => ?_, fun q => absurd q s40⟩
    (repeat (first | refine iT (by decide) ?_ | refine iF (by decide) ?_ | refine jT (by decide) ?_ | refine jF (by decide) ?_))
    refine ⟨v3, fun x hx => h x ⟨g + 1, by omega, ?_, fun q => absurd q (by decide), fun _ _ => ⟨g, by omega, eg⟩, Or.inr (Or.inr ⟨by decide, by decide, g, rfl, eg⟩)⟩⟩
    rw [hx, c3, eg]
    exact dep2 g (by omega)
  · obtain ⟨v3, g, hg, eg⟩ := hd p3 (wf7.mp hw).2
    (repeat (first | refine iT (by decide) ?_ | refine iF (by decide) ?_ | refine jT (by decide) ?_ | refine jF (by decide) ?_))
    refine tX4_isSentence (by omega) (fun r z hr => ⟨fun _ => ?_, fun q => absurd q (hr.mpr (wf7.mp hw).2)⟩)
    refine ⟨fun _ => ?_, fun q => absurd q s40⟩
    (repeat (first | refine iT (by decide) ?_ | refine iF (by decide) ?_ | refine jT (by decide) ?_ | refine jF (by decide) ?_))
    refine ⟨v3, fun x hx => h x ⟨g + 1, by omega, ?_, fun q => absurd q (by decide), fun _ _ => ⟨g, by omega, eg⟩, Or.inr (Or.inr ⟨by decide, by decide, g, rfl, eg⟩)⟩⟩
    rw [hx, c3, eg]
    exact dep2 g (by omega)
theorem tnX4_sayE {post : Int32 → Int32 × Int32 × Int32 × Nat × (Nat → Option Nat) × Nat × (Nat → Int32) → Prop} {th : Int32} {sn : Nat} {sq : Nat → Nat → Int32} {lm : Int32} {p1 p2 p3 : Int32} (hn : sn < 40) (hs : SOK sn sq) (hw : wfS sn p1 p2 p3) (h : ∀ i5, deepEX sn sq p1 p2 p3 i5 → wnX4_sayE_C157 post lm (nI sn) p1 p2 p3 i5) : wnX4_sayE post th sn sq lm (nI sn) p1 p2 p3 := by
  refine tX4_in (fun r z hr => ⟨fun c => ?_, fun c => absurd c (hr.mpr ((inRng (n := 7) (by decide)).mpr hw.1))⟩)
  have hn2 : sn ≤ 40 := by omega
  refine ⟨fun n0 => ⟨fun g4 => ⟨fun n4 => tX4_isSet (fun r z hr => tnX4_sayE_C65 hn hs hw (hr.mpr ((wfSet hw.1 g4 n4).mp hw).1) h), fun e4 => ?_⟩, fun l4 => tX4_isSentence hn2 (fun r z hr => tnX4_sayE_C65 hn hs hw (hr.mpr ((wfSen hw.1 l4 n0).mp hw).1) h)⟩, fun e0 => ?_⟩
  · subst e4
    exact tX4_isGuard (fun r z hr => tnX4_sayE_C65 hn hs hw (hr.mpr (wf4.mp hw).1) h)
  · subst e0
    exact tX4_in (fun r z hr => tnX4_sayE_C65 hn hs hw (hr.mpr ((inRng (n := 5) (by decide)).mpr (wf0.mp hw))) h)
theorem saySite_ex {post : Int32 → Int32 → Nat → (Nat → Nat → Int32) → Prop} {th mr : Int32} {po : Int64} {mf sp : Int32} {sn : Nat} {sq : Nat → Nat → Int32} {p1 p2 p3 : Int32} (hn : sn ≤ 40) (hs : SOK sn sq) (h1 : wfS sn p1 p2 p3 → sn < 40 → ∀ d, deepEX sn sq p1 p2 p3 d → SOK (sn + 1) (upF sq sn (row4 p1 p2 p3 d)) → post (nI sn) 0 (sn + 1) (upF sq sn (row4 p1 p2 p3 d))) (h2 : ¬ wfS sn p1 p2 p3 → post 0 1 sn sq) (h3 : wfS sn p1 p2 p3 → sn = 40 → post 0 2 sn sq) : wsaySite post th mr po mf sp sn sq p1 p2 p3 := by
  by_cases hw : wfS sn p1 p2 p3 ∧ sn < 40
  · have hsn := hw.2
    have hk : ∀ d, deepEX sn sq p1 p2 p3 d → post (nI sn) 0 (sn + 1) (upF sq sn (row4 p1 p2 p3 d)) := fun d hd => h1 hw.1 hsn d hd (SOK.push hsn hs hw.1 hd.ok)
    rcases Nat.eq_zero_or_pos sn with e | e
    · subst e
      refine Or.inr (Or.inl ⟨rfl, fun mcn => tnX4_sayE hsn hs hw.1 (fun i5 hd q => sAddE (fun cap ef lm he => ?_))⟩)
      refine ⟨⟨rfl, he⟩, ?_⟩
      show post (nI (0 + 1) - (1 : Int32)) 0 (0 + 1) (upF sq 0 (row4 p1 p2 p3 i5))
      rw [nI_pred]
      exact hk i5 hd
    · refine Or.inr (Or.inr ⟨e, fun mcn cap ef sa k1 k2 k3 k4 => tnX4_sayN hsn hs hw.1 (fun i5 hd q => sAddN e hsn k1 k2 k3 k4 (fun cap' ef' lm he => ?_))⟩)
      refine ⟨⟨rfl, he⟩, ?_⟩
      show post (nI (sn + 1) - (1 : Int32)) 0 (sn + 1) (upF sq sn (row4 p1 p2 p3 i5))
      rw [nI_pred]
      exact hk i5 hd
  · exact Or.inl (sX4_sayF hn hw h2 h3)
