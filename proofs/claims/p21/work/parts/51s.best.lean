/-! the best note -/
noncomputable def bstS (op : Int64) (sq : Nat → Nat → Int32) (n s w g : Nat) (E : Nat → Nat → Nat → Bool) (k : Nat) (x : Int32 × Int32) : Int32 × Int32 := @ite _ (¬ x.2 ≤ nI (pc (ALK op (eNote E k g) w g)) ∧ K0 op sq n s w g (eNote E k g)) (Classical.propDecidable _) (nI k, nI (pc (ALK op (eNote E k g) w g))) x
set_option maxRecDepth 16384 in
theorem bstT {op : Int64} {sq : Nat → Nat → Int32} {n s w g : Nat} {E : Nat → Nat → Nat → Bool} {k : Nat} {x : Int32 × Int32} (h : ¬ x.2 ≤ nI (pc (ALK op (eNote E k g) w g))) (h2 : K0 op sq n s w g (eNote E k g)) : bstS op sq n s w g E k x = (nI k, nI (pc (ALK op (eNote E k g) w g))) := if_pos ⟨h, h2⟩
set_option maxRecDepth 16384 in
theorem bstF {op : Int64} {sq : Nat → Nat → Int32} {n s w g : Nat} {E : Nat → Nat → Nat → Bool} {k : Nat} {x : Int32 × Int32} (h : ¬ (¬ x.2 ≤ nI (pc (ALK op (eNote E k g) w g)) ∧ K0 op sq n s w g (eNote E k g))) : bstS op sq n s w g E k x = x := if_neg h
noncomputable def bst (op : Int64) (sq : Nat → Nat → Int32) (n s w g : Nat) (E : Nat → Nat → Nat → Bool) : Nat → Nat → Int32 × Int32 → Int32 × Int32
  | 0, _, x => x
  | m + 1, k, x => bst op sq n s w g E m (k + 1) (if k = g then x else bstS op sq n s w g E k x)
set_option maxRecDepth 16384 in
theorem txX2_bestNote_L37 {post : Int32 → (Nat → Int64) × (Nat → Int64) × Int64 × Int32 → Prop} {postx : String → Prop} {K142 : Int32 → Int32 → Int32 → (Nat → Int64) → (Nat → Int64) → Int64 → Int32 → Prop} {dk wg : Nat → Int64} {op : Int64} {E : Nat → Nat → Nat → Bool} {kf ff sf : Nat → Int32} {pf gf : Nat → Int64} {n s g w : Nat} {sq : Nat → Nat → Int32} (hC : CD dk E) (hq : EQV E) (hB : BOK kf ff sf n) (hS : SOK n sq) (hK : SAMEB kf ff sf n sq) (hh : HNG kf ff sf pf gf n) (hs : s < n) (hg : g < 6) (hw : w < 64) : ∀ (m k : Nat) (x y : Int32) (u0 u1 : Nat → Int64) (u2 : Int64) (u3 : Int32), k + m = 6 → (∀ i u0 u1 u2 u3, K142 (bst op sq n s w g E m k (x, y)).1 (bst op sq n s w g E m k (x, y)).2 i u0 u1 u2 u3) → wxX2_bestNote_L37 post postx K142 dk wg op (nI w) kf ff sf pf (nI n) (nI g) (nI s) (m + 1) x y (nI k) u0 u1 u2 u3 := by
  have hn := hB.1
  intro m
  induction m with
  | zero =>
    intro k x y u0 u1 u2 u3 h hP
    obtain rfl : k = 6 := by omega
    exact ⟨fun _ => hP _ _ _ _ _, fun q => absurd (by decide) q⟩
  | succ m ih =>
    intro k x y u0 u1 u2 u3 h hP
    have hk : k < 6 := by omega
    rw [bst] at hP
    refine ⟨fun q => absurd q (notLe (a := 6) hk (by decide)), fun _ => ⟨fun ne => ?_, fun e => ?_⟩⟩
    · have hkg : ¬ k = g := fun e => ne (by rw [e])
      rw [if_neg hkg] at hP
      have go : ∀ d, CD d (eNote E k g) → ∀ (Q : (Nat → Int64) → Prop), (∀ wg2, wg2 s = TRX op (eNote E k g) sq n s → Q wg2) → wX1_weigh Q d (va_cpy wg u1 0 0 40) op kf ff sf (nI n) (pf s) := fun d hd Q hQ => tX1_weigh hd (eNoteQ hq k g) hB (fun j hj q => (hcl' hh hs j (by omega) q).1) (fun wg2 _ new => hQ wg2 (TRPx hB hS hK (hcl' hh hs) new s (by omega) (hh.1 s hs).1))
      have fin : ∀ d (wg2 : Nat → Int64), CD d (eNote E k g) → wg2 s = TRX op (eNote E k g) sq n s → wX1_cell (fun r_7 => wJ13_bitCount_95d88 (fun r_8 => wX1_knows (fun r_9 => (r_9 = 0 → wxX2_bestNote_L37 post postx K142 dk wg op (nI w) kf ff sf pf (nI n) (nI g) (nI s) (m + 1) x y (nI k + 1) d wg2 op (nI w)) ∧ (¬ r_9 = 0 → (y ≤ r_8 → wxX2_bestNote_L37 post postx K142 dk wg op (nI w) kf ff sf pf (nI n) (nI g) (nI s) (m + 1) x y (nI k + 1) d wg2 op (nI w)) ∧ (¬ y ≤ r_8 → wxX2_bestNote_L37 post postx K142 dk wg op (nI w) kf ff sf pf (nI n) (nI g) (nI s) (m + 1) (nI k) r_8 (nI k + 1) d wg2 op (nI w)))) d wg2 op (nI w) (nI n) (nI g) (nI s)) r_7) d op (nI g) (nI w) := fun d wg2 hd e2 => tX1_cell hd hg hw (fun r hr => eJ13_bitCount (by
        obtain rfl := ALKe (op := op) (E := eNote E k g) (w := w) (g := g) hr
        refine tX1_knows hd hg hw hs hn (fun q => ifN2 ?_) (fun q => ifY2 ⟨fun l => ?_, fun l => ?_⟩)
        · rw [bstF (op := op) (sq := sq) (n := n) (s := s) (w := w) (g := g) (E := E) (k := k) (x := (x, y)) (fun t => q (by rw [e2]; exact t.2))] at hP
          rw [← nI_succ]
          exact ih (k + 1) _ _ _ _ _ _ (by omega) hP
        · rw [bstF (op := op) (sq := sq) (n := n) (s := s) (w := w) (g := g) (E := E) (k := k) (x := (x, y)) (fun t => t.1 l)] at hP
          rw [← nI_succ]
          exact ih (k + 1) _ _ _ _ _ _ (by omega) hP
        · rw [e2] at q
          rw [bstT (op := op) (sq := sq) (n := n) (s := s) (w := w) (g := g) (E := E) (k := k) (x := (x, y)) l q] at hP
          rw [← nI_succ]
          exact ih (k + 1) _ _ _ _ _ _ (by omega) hP))
      unfold wX1_copyFrom
      exact tX1_passOn (cpyCD hC) hk hg hkg (fun d hd _ => tX0_partsOf hs hn (go d hd _ (fun wg2 e2 => fin d wg2 hd e2))) (fun d hd => tX0_partsOf hs hn (go d hd _ (fun wg2 e2 => fin d wg2 hd e2)))
    · have hkg : k = g := nIinj (by omega) (by omega) e
      rw [if_pos hkg] at hP
      rw [← nI_succ]
      exact ih (k + 1) _ _ _ _ _ _ (by omega) hP
set_option maxRecDepth 16384 in
theorem txL_bestNote {post : Int32 → (Nat → Int64) × (Nat → Int64) × Int64 × Int32 × Int64 → Prop} {uk uw : Nat → Int64} {uo : Int64} {ur : Int32} {on : Int64} {dk wg : Nat → Int64} {op : Int64} {E : Nat → Nat → Nat → Bool} {kf ff sf : Nat → Int32} {pf gf : Nat → Int64} {n w : Nat} {sq : Nat → Nat → Int32} {p1 p2 : Int32} (hC : CD dk E) (hq : EQV E) (hB : BOK kf ff sf n) (hS : SOK n sq) (hK : SAMEB kf ff sf n sq) (hh : HNG kf ff sf pf gf n) (hw : w < 64) (h1 : ∀ g, g < 6 → p1 = nI g → ∀ s, s < n → p2 = nI s → ∀ a b c d, post 0 (a, b, c, d, ((bst op sq n s w g E 6 0 (-1, 65)).1).toInt64)) (h2 : ¬ (IN p1 6 ∧ IN p2 n) → post 1 (uk, uw, uo, ur, on)) : wxL_bestNote post dk wg op (nI w) uk uw uo ur kf ff sf pf (nI n) on p1 p2 := by
  have hn := hB.1
  unfold wxL_bestNote wxX2_bestNote
  refine tX2_isGuardN (fun q => ifN2 ⟨rfl, h2 (fun t => q t.1)⟩) (fun g hg e1 => ifY2 (tX0_holdsN hn (fun q => ifN ⟨rfl, h2 (fun t => q t.2)⟩) (fun s hs e2 => ifY ?_)))
  have hp := h1 g hg e1 s hs e2
  subst e1 e2
  exact ⟨7, txX2_bestNote_L37 (gf := gf) hC hq hB hS hK hh hs hg hw 6 0 (-1) 65 uk uw uo ur rfl (fun _ _ _ _ _ => hp _ _ _ _)⟩
