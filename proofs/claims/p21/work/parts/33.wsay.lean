theorem iT {P X Y : Prop} (h : P) (x : X) : (P → X) ∧ (¬ P → Y) := ⟨fun _ => x, fun q => absurd h q⟩
theorem iF {P X Y : Prop} (h : ¬ P) (y : Y) : (P → X) ∧ (¬ P → Y) := ⟨fun q => absurd q h, fun _ => y⟩
theorem jT {P X Y : Prop} (h : P) (y : Y) : (¬ P → X) ∧ (P → Y) := ⟨fun q => absurd h q, fun _ => y⟩
theorem jF {P X Y : Prop} (h : ¬ P) (x : X) : (¬ P → X) ∧ (P → Y) := ⟨fun _ => x, fun q => absurd q h⟩
def deepOK (sn : Nat) (sq : Nat → Nat → Int32) (p1 p2 p3 d : Int32) : Prop := ∃ k, k ≤ sn ∧ d = nI k ∧ (p1 = 1 ∨ p1 = 2 ∨ p1 = 3 → ∃ e, e < k ∧ sq p2.toNatClampNeg 3 = nI e) ∧ (¬ p1 = 0 → ¬ p1 = 1 → ∃ e, e < k ∧ sq p3.toNatClampNeg 3 = nI e)
theorem SOK.push {sn : Nat} {sq : Nat → Nat → Int32} {f : Nat → Int32} (hn : sn < 40) (h : SOK sn sq) (hw : wfS sn (f 0) (f 1) (f 2)) (hd : deepOK sn sq (f 0) (f 1) (f 2) (f 3)) : SOK (sn + 1) (upF sq sn f) := by
  have hlt : ∀ k, k < sn → upF sq sn f k = sq k := fun k hk => by
    show (if k = sn then f else sq k) = sq k
    rw [if_neg (by omega)]
  have heq : upF sq sn f sn = f := by
    show (if sn = sn then f else sq sn) = f
    rw [if_pos rfl]
  have hin : ∀ {n : Nat} {x : Int32}, n ≤ sn → IN x n → upF sq sn f x.toNatClampNeg = sq x.toNatClampNeg := fun {n x} hn2 hx => hlt _ (Nat.lt_of_lt_of_le (hx.lt (by omega)) hn2)
  intro k hk
  by_cases e : k = sn
  · subst e
    rw [heq]
    obtain ⟨d, d1, d2, d3, d4⟩ := hd
    refine ⟨hw, d, d1, d2, fun q => ?_, fun q q2 => ?_⟩
    · rw [hin (Nat.le_refl _) (hw.2.2.1 q)]
      exact d3 q
    · rw [hin (Nat.le_refl _) (hw.2.2.2.2.2 q q2)]
      exact d4 q q2
  · have hk2 : k < sn := by omega
    rw [hlt k hk2]
    obtain ⟨hw2, d, d1, d2, d3, d4⟩ := h k hk2
    refine ⟨hw2, d, d1, d2, fun q => ?_, fun q q2 => ?_⟩
    · rw [hin (by omega) (hw2.2.2.1 q)]
      exact d3 q
    · rw [hin (by omega) (hw2.2.2.2.2.2 q q2)]
      exact d4 q q2
theorem wfSet {n : Nat} {kd a b : Int32} (h : IN kd 8) (h4 : (4 : Int32) ≤ kd) (n4 : ¬ kd = 4) : wfS n kd a b ↔ SETG a ∧ (¬ kd ≤ 1 → IN b n) := by
  obtain ⟨k, hk, rfl⟩ := h
  rcases (show k = 0 ∨ k = 1 ∨ k = 2 ∨ k = 3 ∨ k = 4 ∨ k = 5 ∨ k = 6 ∨ k = 7 from by omega) with rfl | rfl | rfl | rfl | rfl | rfl | rfl | rfl
  · exact absurd h4 (by decide)
  · exact absurd h4 (by decide)
  · exact absurd h4 (by decide)
  · exact absurd h4 (by decide)
  · exact absurd rfl n4
  · exact wf5.trans ⟨fun h => ⟨h.1, fun _ => h.2⟩, fun h => ⟨h.1, h.2 (by decide)⟩⟩
  · exact wf6.trans ⟨fun h => ⟨h.1, fun _ => h.2⟩, fun h => ⟨h.1, h.2 (by decide)⟩⟩
  · exact wf7.trans ⟨fun h => ⟨h.1, fun _ => h.2⟩, fun h => ⟨h.1, h.2 (by decide)⟩⟩
theorem wfGrd {n : Nat} {a b : Int32} : wfS n 4 a b ↔ IN a 6 ∧ (¬ (4 : Int32) ≤ 1 → IN b n) := wf4.trans ⟨fun h => ⟨h.1, fun _ => h.2⟩, fun h => ⟨h.1, h.2 (by decide)⟩⟩
theorem wfFct {n : Nat} {a b : Int32} : wfS n 0 a b ↔ IN a 6 ∧ (¬ (0 : Int32) ≤ 1 → IN b n) := wf0.trans ⟨fun h => ⟨h, fun q => absurd (by decide) q⟩, fun h => h.1⟩
theorem wfSen {n : Nat} {kd a b : Int32} (h : IN kd 8) (h4 : ¬ (4 : Int32) ≤ kd) (n0 : ¬ kd = 0) : wfS n kd a b ↔ IN a n ∧ (¬ kd ≤ 1 → IN b n) := by
  obtain ⟨k, hk, rfl⟩ := h
  rcases (show k = 0 ∨ k = 1 ∨ k = 2 ∨ k = 3 ∨ k = 4 ∨ k = 5 ∨ k = 6 ∨ k = 7 from by omega) with rfl | rfl | rfl | rfl | rfl | rfl | rfl | rfl
  · exact absurd rfl n0
  · exact wf1.trans ⟨fun h => ⟨h, fun q => absurd (by decide) q⟩, fun h => h.1⟩
  · exact wf2.trans ⟨fun h => ⟨h.1, fun _ => h.2⟩, fun h => ⟨h.1, h.2 (by decide)⟩⟩
  · exact wf3.trans ⟨fun h => ⟨h.1, fun _ => h.2⟩, fun h => ⟨h.1, h.2 (by decide)⟩⟩
  · exact absurd (by decide) h4
  · exact absurd (by decide) h4
  · exact absurd (by decide) h4
  · exact absurd (by decide) h4
theorem sX4_sayF_C65 {post : Int32 → Int32 → Prop} {sn : Nat} {p1 p3 i4 : Int32} {w A : Prop} (hn : sn ≤ 40) (hA : ¬ i4 = 0 ↔ A) (hw : w ↔ A ∧ (¬ p1 ≤ 1 → IN p3 sn)) (hF : ¬ (w ∧ sn < 40)) (h2 : ¬ w → post 0 1) (h3 : w → sn = 40 → post 0 2) : wX4_sayF_C65 post sn p1 p3 i4 := by
  have hB : ∀ (hww : w), (¬ (nI sn) = (40 : Int32) → False) ∧ ((nI sn) = (40 : Int32) → post 0 2) := fun hww => ⟨fun n40 => hF ⟨hww, Nat.lt_of_le_of_ne hn (fun q => n40 (by rw [q]; rfl))⟩, fun e40 => h3 hww (nIinj (a := sn) (k := 40) (by omega) (by decide) e40)⟩
  exact ⟨fun e => h2 (fun q => absurd e (hA.mpr (hw.mp q).1)), fun ne => ⟨fun le1 => hB (hw.mpr ⟨hA.mp ne, fun q => absurd le1 q⟩), fun gt1 => tX4_isSentence hn (fun r z h => ⟨fun c => hB (hw.mpr ⟨hA.mp ne, fun _ => h.mp c⟩), fun c => h2 (fun q => absurd c (h.mpr ((hw.mp q).2 gt1)))⟩)⟩⟩
theorem sX4_sayF {post : Int32 → Int32 → Prop} {th : Int32} {sn : Nat} {p1 p2 p3 : Int32} (hn : sn ≤ 40) (hF : ¬ (wfS sn p1 p2 p3 ∧ sn < 40)) (h2 : ¬ wfS sn p1 p2 p3 → post 0 1) (h3 : wfS sn p1 p2 p3 → sn = 40 → post 0 2) : wX4_sayF post th sn p1 p2 p3 := by
  refine tX4_in (fun r z h => ⟨fun c => ?_, fun c => h2 (fun q => absurd c (h.mpr ((inRng (n := 7) (by decide)).mpr q.1)))⟩)
  have hk : IN p1 8 := (inRng (n := 7) (by decide)).mp (h.mp c)
  refine ⟨fun n0 => ⟨fun g4 => ⟨fun n4 => tX4_isSet (fun r z h => sX4_sayF_C65 hn h (wfSet hk g4 n4) hF h2 h3), fun e4 => ?_⟩, fun l4 => tX4_isSentence hn (fun r z h => sX4_sayF_C65 hn h (wfSen hk l4 n0) hF h2 h3)⟩, fun e0 => ?_⟩
  · subst e4
    exact tX4_isGuard (fun r z h => sX4_sayF_C65 hn h wfGrd hF h2 h3)
  · subst e0
    exact tX4_in (fun r z h => sX4_sayF_C65 hn (h.trans (inRng (n := 5) (by decide))) wfFct hF h2 h3)
theorem dep1 : ∀ e, e < 40 → (1 : Int32) + nI e = nI (e + 1) := by decide +kernel
theorem dep2 : ∀ e, e < 40 → (if (1 : Int32) < ((1 : Int32) + nI e) then ((1 : Int32) + nI e) else (1 : Int32)) = nI (e + 1) := by decide +kernel
theorem dep3 : ∀ e, e < 40 → ∀ g, g < 40 → (if ((1 : Int32) + nI e) < ((1 : Int32) + nI g) then ((1 : Int32) + nI g) else ((1 : Int32) + nI e)) = nI (max e g + 1) := by decide +kernel
theorem snX4_sayN_C65 {post : Int32 → Int32 × Int32 × Int32 × Nat × (Nat → Option Nat) × Nat × (Nat → Int32) → Prop} {sn : Nat} {sq : Nat → Nat → Int32} {lm : Int32} {cap : Nat} {ef : Nat → Option Nat} {p1 p2 p3 i4 : Int32} (hn : sn < 40) (hs : SOK sn sq) (hw : wfS sn p1 p2 p3) (h4 : ¬ i4 = 0) (h : ∀ i5, deepOK sn sq p1 p2 p3 i5 → wnX4_sayN_C157 post lm (nI sn) cap ef p1 p2 p3 i5) : wnX4_sayN_C65 post sn sq lm (nI sn) cap ef p1 p2 p3 i4 := by
  refine ⟨fun e => absurd e h4, fun _ => ?_⟩
  have s40 : ¬ nI sn = (40 : Int32) := fun q => absurd (nIinj (a := sn) (k := 40) (by omega) (by decide) q) (by omega)
  have hd : ∀ x, IN x sn → vp_in x sn ∧ ∃ e, e < sn ∧ sq x.toNatClampNeg 3 = nI e := fun x hx => by
    obtain ⟨-, d, d1, d2, -⟩ := hs _ (hx.lt (by omega))
    have := hx.lt (n := sn) (by omega)
    exact ⟨hx.vp (by omega), d, by omega, d2⟩
  obtain ⟨k, hk, hk2⟩ := hw.1
  subst hk2
  rcases (show k = 0 ∨ k = 1 ∨ k = 2 ∨ k = 3 ∨ k = 4 ∨ k = 5 ∨ k = 6 ∨ k = 7 from by omega) with rfl | rfl | rfl | rfl | rfl | rfl | rfl | rfl
  · (repeat (first | refine iT (by decide) ?_ | refine iF (by decide) ?_ | refine jT (by decide) ?_ | refine jF (by decide) ?_))
    refine ⟨fun _ => ?_, fun q => absurd q s40⟩
    (repeat (first | refine iT (by decide) ?_ | refine iF (by decide) ?_ | refine jT (by decide) ?_ | refine jF (by decide) ?_))
    exact h _ ⟨0, Nat.zero_le _, rfl, fun q => absurd q (by decide), fun q => absurd rfl q⟩
  · obtain ⟨v2, e, he, ee⟩ := hd p2 (wf1.mp hw)
    (repeat (first | refine iT (by decide) ?_ | refine iF (by decide) ?_ | refine jT (by decide) ?_ | refine jF (by decide) ?_))
    refine ⟨fun _ => ?_, fun q => absurd q s40⟩
    (repeat (first | refine iT (by decide) ?_ | refine iF (by decide) ?_ | refine jT (by decide) ?_ | refine jF (by decide) ?_))
    refine ⟨v2, ?_⟩
    (repeat (first | refine iT (by decide) ?_ | refine iF (by decide) ?_ | refine jT (by decide) ?_ | refine jF (by decide) ?_))
    refine h _ ⟨e + 1, by omega, ?_, fun _ => ⟨e, by omega, ee⟩, fun _ q => absurd rfl q⟩
    rw [c3, ee]
    exact dep1 e (by omega)
  · obtain ⟨v2, e, he, ee⟩ := hd p2 (wf2.mp hw).1
    obtain ⟨v3, g, hg, eg⟩ := hd p3 (wf2.mp hw).2
    (repeat (first | refine iT (by decide) ?_ | refine iF (by decide) ?_ | refine jT (by decide) ?_ | refine jF (by decide) ?_))
    refine tX4_isSentence (by omega) (fun r z hr => ⟨fun _ => ?_, fun q => absurd q (hr.mpr (wf2.mp hw).2)⟩)
    refine ⟨fun _ => ?_, fun q => absurd q s40⟩
    (repeat (first | refine iT (by decide) ?_ | refine iF (by decide) ?_ | refine jT (by decide) ?_ | refine jF (by decide) ?_))
    refine ⟨v2, ?_⟩
    (repeat (first | refine iT (by decide) ?_ | refine iF (by decide) ?_ | refine jT (by decide) ?_ | refine jF (by decide) ?_))
    refine ⟨v3, fun x hx => h x ⟨max e g + 1, by omega, ?_, fun _ => ⟨e, by omega, ee⟩, fun _ _ => ⟨g, by omega, eg⟩⟩⟩
    rw [hx, c3, ee, eg]
    exact dep3 e (by omega) g (by omega)
  · obtain ⟨v2, e, he, ee⟩ := hd p2 (wf3.mp hw).1
    obtain ⟨v3, g, hg, eg⟩ := hd p3 (wf3.mp hw).2
    (repeat (first | refine iT (by decide) ?_ | refine iF (by decide) ?_ | refine jT (by decide) ?_ | refine jF (by decide) ?_))
    refine tX4_isSentence (by omega) (fun r z hr => ⟨fun _ => ?_, fun q => absurd q (hr.mpr (wf3.mp hw).2)⟩)
    refine ⟨fun _ => ?_, fun q => absurd q s40⟩
    (repeat (first | refine iT (by decide) ?_ | refine iF (by decide) ?_ | refine jT (by decide) ?_ | refine jF (by decide) ?_))
    refine ⟨v2, ?_⟩
    (repeat (first | refine iT (by decide) ?_ | refine iF (by decide) ?_ | refine jT (by decide) ?_ | refine jF (by decide) ?_))
    refine ⟨v3, fun x hx => h x ⟨max e g + 1, by omega, ?_, fun _ => ⟨e, by omega, ee⟩, fun _ _ => ⟨g, by omega, eg⟩⟩⟩
    rw [hx, c3, ee, eg]
    exact dep3 e (by omega) g (by omega)
  · obtain ⟨v3, g, hg, eg⟩ := hd p3 (wf4.mp hw).2
    (repeat (first | refine iT (by decide) ?_ | refine iF (by decide) ?_ | refine jT (by decide) ?_ | refine jF (by decide) ?_))
    refine tX4_isSentence (by omega) (fun r z hr => ⟨fun _ => ?_, fun q => absurd q (hr.mpr (wf4.mp hw).2)⟩)
    refine ⟨fun _ => ?_, fun q => absurd q s40⟩
    (repeat (first | refine iT (by decide) ?_ | refine iF (by decide) ?_ | refine jT (by decide) ?_ | refine jF (by decide) ?_))
    refine ⟨v3, fun x hx => h x ⟨g + 1, by omega, ?_, fun q => absurd q (by decide), fun _ _ => ⟨g, by omega, eg⟩⟩⟩
    rw [hx, c3, eg]
    exact dep2 g (by omega)
  · obtain ⟨v3, g, hg, eg⟩ := hd p3 (wf5.mp hw).2
    (repeat (first | refine iT (by decide) ?_ | refine iF (by decide) ?_ | refine jT (by decide) ?_ | refine jF (by decide) ?_))
    refine tX4_isSentence (by omega) (fun r z hr => ⟨fun _ => ?_, fun q => absurd q (hr.mpr (wf5.mp hw).2)⟩)
    refine ⟨fun _ => ?_, fun q => absurd q s40⟩
    (repeat (first | refine iT (by decide) ?_ | refine iF (by decide) ?_ | refine jT (by decide) ?_ | refine jF (by decide) ?_))
    refine ⟨v3, fun x hx => h x ⟨g + 1, by omega, ?_, fun q => absurd q (by decide), fun _ _ => ⟨g, by omega, eg⟩⟩⟩
    rw [hx, c3, eg]
    exact dep2 g (by omega)
  · obtain ⟨v3, g, hg, eg⟩ := hd p3 (wf6.mp hw).2
    (repeat (first | refine iT (by decide) ?_ | refine iF (by decide) ?_ | refine jT (by decide) ?_ | refine jF (by decide) ?_))
    refine tX4_isSentence (by omega) (fun r z hr => ⟨fun _ => ?_, fun q => absurd q (hr.mpr (wf6.mp hw).2)⟩)
    refine ⟨fun _ => ?_, fun q => absurd q s40⟩
    (repeat (first | refine iT (by decide) ?_ | refine iF (by decide) ?_ | refine jT (by decide) ?_ | refine jF (by decide) ?_))
    refine ⟨v3, fun x hx => h x ⟨g + 1, by omega, ?_, fun q => absurd q (by decide), fun _ _ => ⟨g, by omega, eg⟩⟩⟩
    rw [hx, c3, eg]
    exact dep2 g (by omega)
  · obtain ⟨v3, g, hg, eg⟩ := hd p3 (wf7.mp hw).2
    (repeat (first | refine iT (by decide) ?_ | refine iF (by decide) ?_ | refine jT (by decide) ?_ | refine jF (by decide) ?_))
    refine tX4_isSentence (by omega) (fun r z hr => ⟨fun _ => ?_, fun q => absurd q (hr.mpr (wf7.mp hw).2)⟩)
    refine ⟨fun _ => ?_, fun q => absurd q s40⟩
    (repeat (first | refine iT (by decide) ?_ | refine iF (by decide) ?_ | refine jT (by decide) ?_ | refine jF (by decide) ?_))
    refine ⟨v3, fun x hx => h x ⟨g + 1, by omega, ?_, fun q => absurd q (by decide), fun _ _ => ⟨g, by omega, eg⟩⟩⟩
    rw [hx, c3, eg]
    exact dep2 g (by omega)
theorem snX4_sayN {post : Int32 → Int32 × Int32 × Int32 × Nat × (Nat → Option Nat) × Nat × (Nat → Int32) → Prop} {th : Int32} {sn : Nat} {sq : Nat → Nat → Int32} {lm : Int32} {cap : Nat} {ef : Nat → Option Nat} {p1 p2 p3 : Int32} (hn : sn < 40) (hs : SOK sn sq) (hw : wfS sn p1 p2 p3) (h : ∀ i5, deepOK sn sq p1 p2 p3 i5 → wnX4_sayN_C157 post lm (nI sn) cap ef p1 p2 p3 i5) : wnX4_sayN post th sn sq lm (nI sn) cap ef p1 p2 p3 := by
  refine tX4_in (fun r z hr => ⟨fun c => ?_, fun c => absurd c (hr.mpr ((inRng (n := 7) (by decide)).mpr hw.1))⟩)
  have hn2 : sn ≤ 40 := by omega
  refine ⟨fun n0 => ⟨fun g4 => ⟨fun n4 => tX4_isSet (fun r z hr => snX4_sayN_C65 hn hs hw (hr.mpr ((wfSet hw.1 g4 n4).mp hw).1) h), fun e4 => ?_⟩, fun l4 => tX4_isSentence hn2 (fun r z hr => snX4_sayN_C65 hn hs hw (hr.mpr ((wfSen hw.1 l4 n0).mp hw).1) h)⟩, fun e0 => ?_⟩
  · subst e4
    exact tX4_isGuard (fun r z hr => snX4_sayN_C65 hn hs hw (hr.mpr (wf4.mp hw).1) h)
  · subst e0
    exact tX4_in (fun r z hr => snX4_sayN_C65 hn hs hw (hr.mpr ((inRng (n := 5) (by decide)).mpr (wf0.mp hw))) h)
theorem snX4_sayE_C65 {post : Int32 → Int32 × Int32 × Int32 × Nat × (Nat → Option Nat) × Nat × (Nat → Int32) → Prop} {sn : Nat} {sq : Nat → Nat → Int32} {lm : Int32} {p1 p2 p3 i4 : Int32} (hn : sn < 40) (hs : SOK sn sq) (hw : wfS sn p1 p2 p3) (h4 : ¬ i4 = 0) (h : ∀ i5, deepOK sn sq p1 p2 p3 i5 → wnX4_sayE_C157 post lm (nI sn) p1 p2 p3 i5) : wnX4_sayE_C65 post sn sq lm (nI sn) p1 p2 p3 i4 := by
  refine ⟨fun e => absurd e h4, fun _ => ?_⟩
  have s40 : ¬ nI sn = (40 : Int32) := fun q => absurd (nIinj (a := sn) (k := 40) (by omega) (by decide) q) (by omega)
  have hd : ∀ x, IN x sn → vp_in x sn ∧ ∃ e, e < sn ∧ sq x.toNatClampNeg 3 = nI e := fun x hx => by
    obtain ⟨-, d, d1, d2, -⟩ := hs _ (hx.lt (by omega))
    have := hx.lt (n := sn) (by omega)
    exact ⟨hx.vp (by omega), d, by omega, d2⟩
  obtain ⟨k, hk, hk2⟩ := hw.1
  subst hk2
  rcases (show k = 0 ∨ k = 1 ∨ k = 2 ∨ k = 3 ∨ k = 4 ∨ k = 5 ∨ k = 6 ∨ k = 7 from by omega) with rfl | rfl | rfl | rfl | rfl | rfl | rfl | rfl
  · (repeat (first | refine iT (by decide) ?_ | refine iF (by decide) ?_ | refine jT (by decide) ?_ | refine jF (by decide) ?_))
    refine ⟨fun _ => ?_, fun q => absurd q s40⟩
    (repeat (first | refine iT (by decide) ?_ | refine iF (by decide) ?_ | refine jT (by decide) ?_ | refine jF (by decide) ?_))
    exact h _ ⟨0, Nat.zero_le _, rfl, fun q => absurd q (by decide), fun q => absurd rfl q⟩
  · obtain ⟨v2, e, he, ee⟩ := hd p2 (wf1.mp hw)
    (repeat (first | refine iT (by decide) ?_ | refine iF (by decide) ?_ | refine jT (by decide) ?_ | refine jF (by decide) ?_))
    refine ⟨fun _ => ?_, fun q => absurd q s40⟩
    (repeat (first | refine iT (by decide) ?_ | refine iF (by decide) ?_ | refine jT (by decide) ?_ | refine jF (by decide) ?_))
    refine ⟨v2, ?_⟩
    (repeat (first | refine iT (by decide) ?_ | refine iF (by decide) ?_ | refine jT (by decide) ?_ | refine jF (by decide) ?_))
    refine h _ ⟨e + 1, by omega, ?_, fun _ => ⟨e, by omega, ee⟩, fun _ q => absurd rfl q⟩
    rw [c3, ee]
    exact dep1 e (by omega)
  · obtain ⟨v2, e, he, ee⟩ := hd p2 (wf2.mp hw).1
    obtain ⟨v3, g, hg, eg⟩ := hd p3 (wf2.mp hw).2
    (repeat (first | refine iT (by decide) ?_ | refine iF (by decide) ?_ | refine jT (by decide) ?_ | refine jF (by decide) ?_))
    refine tX4_isSentence (by omega) (fun r z hr => ⟨fun _ => ?_, fun q => absurd q (hr.mpr (wf2.mp hw).2)⟩)
    refine ⟨fun _ => ?_, fun q => absurd q s40⟩
    (repeat (first | refine iT (by decide) ?_ | refine iF (by decide) ?_ | refine jT (by decide) ?_ | refine jF (by decide) ?_))
    refine ⟨v2, ?_⟩
    (repeat (first | refine iT (by decide) ?_ | refine iF (by decide) ?_ | refine jT (by decide) ?_ | refine jF (by decide) ?_))
    refine ⟨v3, fun x hx => h x ⟨max e g + 1, by omega, ?_, fun _ => ⟨e, by omega, ee⟩, fun _ _ => ⟨g, by omega, eg⟩⟩⟩
    rw [hx, c3, ee, eg]
    exact dep3 e (by omega) g (by omega)
  · obtain ⟨v2, e, he, ee⟩ := hd p2 (wf3.mp hw).1
    obtain ⟨v3, g, hg, eg⟩ := hd p3 (wf3.mp hw).2
    (repeat (first | refine iT (by decide) ?_ | refine iF (by decide) ?_ | refine jT (by decide) ?_ | refine jF (by decide) ?_))
    refine tX4_isSentence (by omega) (fun r z hr => ⟨fun _ => ?_, fun q => absurd q (hr.mpr (wf3.mp hw).2)⟩)
    refine ⟨fun _ => ?_, fun q => absurd q s40⟩
    (repeat (first | refine iT (by decide) ?_ | refine iF (by decide) ?_ | refine jT (by decide) ?_ | refine jF (by decide) ?_))
    refine ⟨v2, ?_⟩
    (repeat (first | refine iT (by decide) ?_ | refine iF (by decide) ?_ | refine jT (by decide) ?_ | refine jF (by decide) ?_))
    refine ⟨v3, fun x hx => h x ⟨max e g + 1, by omega, ?_, fun _ => ⟨e, by omega, ee⟩, fun _ _ => ⟨g, by omega, eg⟩⟩⟩
    rw [hx, c3, ee, eg]
    exact dep3 e (by omega) g (by omega)
  · obtain ⟨v3, g, hg, eg⟩ := hd p3 (wf4.mp hw).2
    (repeat (first | refine iT (by decide) ?_ | refine iF (by decide) ?_ | refine jT (by decide) ?_ | refine jF (by decide) ?_))
    refine tX4_isSentence (by omega) (fun r z hr => ⟨fun _ => ?_, fun q => absurd q (hr.mpr (wf4.mp hw).2)⟩)
    refine ⟨fun _ => ?_, fun q => absurd q s40⟩
    (repeat (first | refine iT (by decide) ?_ | refine iF (by decide) ?_ | refine jT (by decide) ?_ | refine jF (by decide) ?_))
    refine ⟨v3, fun x hx => h x ⟨g + 1, by omega, ?_, fun q => absurd q (by decide), fun _ _ => ⟨g, by omega, eg⟩⟩⟩
    rw [hx, c3, eg]
    exact dep2 g (by omega)
  · obtain ⟨v3, g, hg, eg⟩ := hd p3 (wf5.mp hw).2
    (repeat (first | refine iT (by decide) ?_ | refine iF (by decide) ?_ | refine jT (by decide) ?_ | refine jF (by decide) ?_))
    refine tX4_isSentence (by omega) (fun r z hr => ⟨fun _ => ?_, fun q => absurd q (hr.mpr (wf5.mp hw).2)⟩)
    refine ⟨fun _ => ?_, fun q => absurd q s40⟩
    (repeat (first | refine iT (by decide) ?_ | refine iF (by decide) ?_ | refine jT (by decide) ?_ | refine jF (by decide) ?_))
    refine ⟨v3, fun x hx => h x ⟨g + 1, by omega, ?_, fun q => absurd q (by decide), fun _ _ => ⟨g, by omega, eg⟩⟩⟩
    rw [hx, c3, eg]
    exact dep2 g (by omega)
  · obtain ⟨v3, g, hg, eg⟩ := hd p3 (wf6.mp hw).2
    (repeat (first | refine iT (by decide) ?_ | refine iF (by decide) ?_ | refine jT (by decide) ?_ | refine jF (by decide) ?_))
    refine tX4_isSentence (by omega) (fun r z hr => ⟨fun _ => ?_, fun q => absurd q (hr.mpr (wf6.mp hw).2)⟩)
    refine ⟨fun _ => ?_, fun q => absurd q s40⟩
    (repeat (first | refine iT (by decide) ?_ | refine iF (by decide) ?_ | refine jT (by decide) ?_ | refine jF (by decide) ?_))
    refine ⟨v3, fun x hx => h x ⟨g + 1, by omega, ?_, fun q => absurd q (by decide), fun _ _ => ⟨g, by omega, eg⟩⟩⟩
    rw [hx, c3, eg]
    exact dep2 g (by omega)
  · obtain ⟨v3, g, hg, eg⟩ := hd p3 (wf7.mp hw).2
    (repeat (first | refine iT (by decide) ?_ | refine iF (by decide) ?_ | refine jT (by decide) ?_ | refine jF (by decide) ?_))
    refine tX4_isSentence (by omega) (fun r z hr => ⟨fun _ => ?_, fun q => absurd q (hr.mpr (wf7.mp hw).2)⟩)
    refine ⟨fun _ => ?_, fun q => absurd q s40⟩
    (repeat (first | refine iT (by decide) ?_ | refine iF (by decide) ?_ | refine jT (by decide) ?_ | refine jF (by decide) ?_))
    refine ⟨v3, fun x hx => h x ⟨g + 1, by omega, ?_, fun q => absurd q (by decide), fun _ _ => ⟨g, by omega, eg⟩⟩⟩
    rw [hx, c3, eg]
    exact dep2 g (by omega)
theorem snX4_sayE {post : Int32 → Int32 × Int32 × Int32 × Nat × (Nat → Option Nat) × Nat × (Nat → Int32) → Prop} {th : Int32} {sn : Nat} {sq : Nat → Nat → Int32} {lm : Int32} {p1 p2 p3 : Int32} (hn : sn < 40) (hs : SOK sn sq) (hw : wfS sn p1 p2 p3) (h : ∀ i5, deepOK sn sq p1 p2 p3 i5 → wnX4_sayE_C157 post lm (nI sn) p1 p2 p3 i5) : wnX4_sayE post th sn sq lm (nI sn) p1 p2 p3 := by
  refine tX4_in (fun r z hr => ⟨fun c => ?_, fun c => absurd c (hr.mpr ((inRng (n := 7) (by decide)).mpr hw.1))⟩)
  have hn2 : sn ≤ 40 := by omega
  refine ⟨fun n0 => ⟨fun g4 => ⟨fun n4 => tX4_isSet (fun r z hr => snX4_sayE_C65 hn hs hw (hr.mpr ((wfSet hw.1 g4 n4).mp hw).1) h), fun e4 => ?_⟩, fun l4 => tX4_isSentence hn2 (fun r z hr => snX4_sayE_C65 hn hs hw (hr.mpr ((wfSen hw.1 l4 n0).mp hw).1) h)⟩, fun e0 => ?_⟩
  · subst e4
    exact tX4_isGuard (fun r z hr => snX4_sayE_C65 hn hs hw (hr.mpr (wf4.mp hw).1) h)
  · subst e0
    exact tX4_in (fun r z hr => snX4_sayE_C65 hn hs hw (hr.mpr ((inRng (n := 5) (by decide)).mpr (wf0.mp hw))) h)
theorem growV : ∀ n, n < 40 → 0 < n → (nI n + (if (nI n + (1 : Int32) - nI n) < (nI n >>> ((1 : Int32) &&& 31)) then (nI n >>> ((1 : Int32) &&& 31)) else (nI n + (1 : Int32) - nI n))) = nI (n + max 1 (n / 2)) := by decide +kernel
theorem bigN : ∀ n, n < 100 → ¬ (2147483639 : Int32) < nI n := by decide +kernel
theorem upAt {α : Type} (f : Nat → α) (n : Nat) (x : α) : va_up f n x n = x := by
  show (if n = n then x else f n) = x
  rw [if_pos rfl]
theorem upNe {α : Type} (f : Nat → α) {n k : Nat} (x : α) (h : ¬ k = n) : va_up f n x k = f k := by
  show (if k = n then x else f k) = f k
  rw [if_neg h]
theorem sAddN {post : Int32 → Int32 × Int32 × Nat × (Nat → Option Nat) → Prop} {ew : Nat} {lm : Int32} {sn cap : Nat} {ef : Nat → Option Nat} {sa : Nat → Nat} (h0 : 0 < sn) (hn : sn < 40) (h1 : ∀ k, k < sn → ef k = some (sa k)) (h2 : ∀ k, sn ≤ k → ef k = none) (hc : sn ≤ cap) (hc2 : cap < 2 ^ 31) (hp : ∀ cap' ef' lm', EFO cap' ef' sn sa ew → post 1 (lm', nI (sn + 1), cap', ef')) : wnJx4a65c_add_9ea2dN post ew lm (nI sn) cap ef := by
  have ec : (nI sn).toNatClampNeg = sn := nI_clamp (by omega)
  refine ⟨fun ne => ⟨nI_in ?_ hc2, ?_⟩, fun e => ?_⟩
  · exact Nat.lt_of_le_of_ne hc (fun q => ne (by rw [q]))
  · have hlt : sn < cap := Nat.lt_of_le_of_ne hc (fun q => ne (by rw [q]))
    show post 1 (lm + 1, nI sn + 1, cap, va_up ef (nI sn).toNatClampNeg (some ew))
    rw [ec, ← nI_succ]
    exact hp _ _ _ ⟨fun k hk => by rw [upNe _ _ (by omega)]; exact h1 k hk, upAt _ _ _, fun k hk => by rw [upNe _ _ (by omega)]; exact h2 k (by omega), hlt, hc2⟩
  · obtain rfl : sn = cap := nIinj (by omega) hc2 e
    refine ⟨fun _ => ?_, fun q => absurd (nI_lt (a := 0) h0 (by omega)) q⟩
    unfold wnJ8_newLength_cabcc
    rw [growV sn hn h0]
    have hb : sn < sn + max 1 (sn / 2) := by omega
    have hb2 : sn + max 1 (sn / 2) ≤ 60 := by omega
    generalize sn + max 1 (sn / 2) = b at hb hb2
    refine ⟨fun q => absurd q (nI_nle (by omega) (by omega)), fun _ => ⟨fun q => absurd q (bigN b (by omega)), fun _ => ?_⟩⟩
    dsimp only
    unfold wnJ7_copyOf_1904c wnJ7_copyOf_6403c
    dsimp only
    rw [if_neg (nI_nlt (show sn ≤ b by omega) (by omega)), c0, ec, nI_clamp (show b < 2 ^ 31 by omega)]
    refine ⟨⟨nI_pos (by omega), hb2⟩, ⟨by decide, by decide, nI_pos (by omega), by omega, by omega⟩, nI_in hb (by omega), ?_⟩
    show post 1 (lm + 1, nI sn + 1, b, va_up (va_cpy ef (fun _ => none) 0 0 sn) sn (some ew))
    rw [← nI_succ]
    refine hp _ _ _ ⟨fun k hk => ?_, upAt _ _ _, fun k hk => ?_, by omega, by omega⟩
    · rw [upNe _ _ (by omega)]
      show (if 0 ≤ k ∧ k < 0 + sn then ef (0 + (k - 0)) else none) = some (sa k)
      rw [if_pos (by omega), show 0 + (k - 0) = k by omega]
      exact h1 k hk
    · rw [upNe _ _ (by omega)]
      show (if 0 ≤ k ∧ k < 0 + sn then ef (0 + (k - 0)) else none) = none
      rw [if_neg (by omega)]
theorem sAddE {post : Int32 → Int32 × Int32 × Nat × (Nat → Option Nat) → Prop} {ew : Nat} {lm : Int32} (hp : ∀ cap' ef' lm', EFO cap' ef' 0 (fun _ => 0) ew → post 1 (lm', nI (0 + 1), cap', ef')) : wnJx4a65c_add_9ea2dE post ew lm (nI 0) := by
  refine ⟨fun q => absurd rfl q, fun _ => ⟨by decide, fun q => absurd q (by decide), ?_⟩⟩
  exact hp 10 (va_up (fun _ => none) 0 (some ew)) (lm + 1) ⟨fun k hk => absurd hk (Nat.not_lt_zero k), upAt _ _ _, fun k hk => upNe _ _ (by omega), by decide, by decide⟩
def row4 (p1 p2 p3 d : Int32) : Nat → Int32 := upd (upd (upd (upd (fun _ => (0 : Int32)) 0 p1) 1 p2) 2 p3) 3 d
theorem row4_0 {p1 p2 p3 d : Int32} : row4 p1 p2 p3 d 0 = p1 := rfl
theorem row4_1 {p1 p2 p3 d : Int32} : row4 p1 p2 p3 d 1 = p2 := rfl
theorem row4_2 {p1 p2 p3 d : Int32} : row4 p1 p2 p3 d 2 = p3 := rfl
theorem row4_3 {p1 p2 p3 d : Int32} : row4 p1 p2 p3 d 3 = d := rfl
theorem saySite_ok {post : Int32 → Int32 → Nat → (Nat → Nat → Int32) → Prop} {th mr : Int32} {po : Int64} {mf sp : Int32} {sn : Nat} {sq : Nat → Nat → Int32} {p1 p2 p3 : Int32} (hn : sn ≤ 40) (hs : SOK sn sq) (h1 : wfS sn p1 p2 p3 → sn < 40 → ∀ d, deepOK sn sq p1 p2 p3 d → SOK (sn + 1) (upF sq sn (row4 p1 p2 p3 d)) → post (nI sn) 0 (sn + 1) (upF sq sn (row4 p1 p2 p3 d))) (h2 : ¬ wfS sn p1 p2 p3 → post 0 1 sn sq) (h3 : wfS sn p1 p2 p3 → sn = 40 → post 0 2 sn sq) : wsaySite post th mr po mf sp sn sq p1 p2 p3 := by
  by_cases hw : wfS sn p1 p2 p3 ∧ sn < 40
  · have hsn := hw.2
    have hk : ∀ d, deepOK sn sq p1 p2 p3 d → post (nI sn) 0 (sn + 1) (upF sq sn (row4 p1 p2 p3 d)) := fun d hd => h1 hw.1 hsn d hd (SOK.push hsn hs hw.1 hd)
    rcases Nat.eq_zero_or_pos sn with e | e
    · subst e
      refine Or.inr (Or.inl ⟨rfl, fun mcn => snX4_sayE hsn hs hw.1 (fun i5 hd q => sAddE (fun cap ef lm he => ?_))⟩)
      refine ⟨⟨rfl, he⟩, ?_⟩
      show post (nI (0 + 1) - (1 : Int32)) 0 (0 + 1) (upF sq 0 (row4 p1 p2 p3 i5))
      rw [nI_pred]
      exact hk i5 hd
    · refine Or.inr (Or.inr ⟨e, fun mcn cap ef sa k1 k2 k3 k4 => snX4_sayN hsn hs hw.1 (fun i5 hd q => sAddN e hsn k1 k2 k3 k4 (fun cap' ef' lm he => ?_))⟩)
      refine ⟨⟨rfl, he⟩, ?_⟩
      show post (nI (sn + 1) - (1 : Int32)) 0 (sn + 1) (upF sq sn (row4 p1 p2 p3 i5))
      rw [nI_pred]
      exact hk i5 hd
  · exact Or.inl (sX4_sayF hn hw h2 h3)
