/-! the reference: all is sound -/
theorem cmp7 : ∀ d, d < 8 → ((nI d ≤ (4 : Int32) ↔ d ≤ 4) ∧ ((7 : Int32) ≤ nI d ↔ 7 ≤ d)) := by decide +kernel
theorem uX4_isSoundNow_L26 {post : Int32 → Prop} {K159 : Int32 → Prop} {po : Int64} {DD : Nat → Nat → Int32} {n s w : Nat} {sq : Nat → Nat → Int32} {T : Nat → Int64} (hD : DOK DD) (hn : n ≤ 40) (hS : SOK n sq) (hT : TRM po DD sq n T) (hs : s < n) (hw : w < 64) (ho : mw po w = true) (hK : ∀ b, K159 b) : ∀ (m k : Nat), k + m = 6 → wX4_isSoundNow_L26 post K159 (nI w) po DD n sq n T (nI s) (m + 1) (nI k) := by
  intro m
  induction m with
  | zero =>
    intro k h
    obtain rfl : k = 6 := by omega
    exact ⟨fun _ => hK _, fun q => absurd (by decide) q⟩
  | succ m ih =>
    intro k h
    have hk : k < 6 := by omega
    have ek : (nI s).toNatClampNeg = s := nI_clamp (by omega)
    have nx := ih (k + 1) (by omega)
    rw [nI_succ] at nx
    have hwf := (hS s hs).1
    obtain ⟨d, hd, ed⟩ := hwf.1
    refine ⟨fun q => absurd q (notLe (a := 6) hk (by decide)), fun _ => ⟨nI_in hs (by omega), ?_⟩⟩
    refine uX4_known hD hk (fun r hr => ⟨nI_in hs (by omega), fun q => absurd (subIff.mpr (fun v hv m => ?_)) q, fun q => tX4_has_ hw (fun hm => ifN2 ?_) (fun hm => ifY2 ⟨nI_in hs (by omega), ?_⟩)⟩)
    · exact ((hr v hv).mp m).2 v hv ((hr v hv).mp m).1 (decide_eq_true rfl)
    · refine ⟨nI_in hs (by omega), ?_⟩
      rw [ek, c0, c1, c2, ed, (cmp7 d hd).1, (cmp7 d hd).2]
      refine ⟨fun _ => nx, fun n4 => ⟨fun _ => nx, fun n7 => ?_⟩⟩
      obtain ⟨a, ha0, ha, ea⟩ : SETG (sq s 1) := hwf.2.2.2.2.1 (by
        rw [ed]
        rcases (show d = 5 ∨ d = 6 by omega) with rfl | rfl <;> decide)
      obtain ⟨b, hb, eb⟩ : IN (sq s 2) s := hwf.2.2.2.2.2 (by
        rw [ed]
        rcases (show d = 5 ∨ d = 6 by omega) with rfl | rfl <;> decide) (by
        rw [ed]
        rcases (show d = 5 ∨ d = 6 by omega) with rfl | rfl <;> decide)
      rw [ea, eb]
      refine uX4_has ha hk (fun hbit => ifN2 nx) (fun hbit => ifY2 ⟨nI_in hs (by omega), nI_in (by omega) (by omega), ?_⟩)
      rw [nI_clamp (show b < 2 ^ 31 by omega)]
      refine uX4_known hD hk (fun r5 hr5 => ⟨fun _ => nx, fun q => absurd (subIff.mpr (fun v hv m => (hr5 v hv).mpr ?_)) q⟩)
      have hsb := (hT s hs v hv).mp m
      refine ⟨hsb.1, sbKnown (kd := nI d) hv ha (by omega) (by rcases (show d = 5 ∨ d = 6 by omega) with rfl | rfl <;> decide) (by
        have h2 := hsb.2
        rw [ed, ea, eb] at h2
        exact h2) hk hbit⟩
    · rw [shB k hk]
      refine uX4_knowsTogether (shC k hk) hw (fun q2 => absurd (fun v hv a b => ?_) q2) (fun _ => ifY ?_)
      · exact ((hr w hw).mp hm).2 v hv a (b k hk (by rw [Nat.testBit_two_pow]; exact decide_eq_true rfl))
      · refine ⟨nI_in hs (by omega), ?_⟩
        rw [ek, c0, c1, c2, ed, (cmp7 d hd).1, (cmp7 d hd).2]
        refine ⟨fun _ => nx, fun n4 => ⟨fun _ => nx, fun n7 => ?_⟩⟩
        obtain ⟨a, ha0, ha, ea⟩ : SETG (sq s 1) := hwf.2.2.2.2.1 (by
          rw [ed]
          rcases (show d = 5 ∨ d = 6 by omega) with rfl | rfl <;> decide)
        obtain ⟨b, hb, eb⟩ : IN (sq s 2) s := hwf.2.2.2.2.2 (by
          rw [ed]
          rcases (show d = 5 ∨ d = 6 by omega) with rfl | rfl <;> decide) (by
          rw [ed]
          rcases (show d = 5 ∨ d = 6 by omega) with rfl | rfl <;> decide)
        rw [ea, eb]
        refine uX4_has ha hk (fun hbit => ifN2 nx) (fun hbit => ifY2 ⟨nI_in hs (by omega), nI_in (by omega) (by omega), ?_⟩)
        rw [nI_clamp (show b < 2 ^ 31 by omega)]
        refine uX4_known hD hk (fun r5 hr5 => ⟨fun _ => nx, fun q => absurd (subIff.mpr (fun v hv m => (hr5 v hv).mpr ?_)) q⟩)
        have hsb := (hT s hs v hv).mp m
        refine ⟨hsb.1, sbKnown (kd := nI d) hv ha (by omega) (by rcases (show d = 5 ∨ d = 6 by omega) with rfl | rfl <;> decide) (by
          have h2 := hsb.2
          rw [ed, ea, eb] at h2
          exact h2) hk hbit⟩
theorem uX4_isSoundNow_L18 {post : Int32 → Prop} {K165 : Int32 → Prop} {po : Int64} {DD : Nat → Nat → Int32} {n w : Nat} {sq : Nat → Nat → Int32} {T : Nat → Int64} (hD : DOK DD) (hn : n ≤ 40) (hS : SOK n sq) (hT : TRM po DD sq n T) (hw : w < 64) (ho : mw po w = true) (hK : ∀ b, K165 b) : ∀ (m k : Nat), k + m = n → wX4_isSoundNow_L18 post K165 (nI w) po DD n sq n T (m + 1) (nI k) := by
  intro m
  induction m with
  | zero =>
    intro k h
    obtain rfl : k = n := by omega
    exact ⟨fun _ => hK _, fun q => absurd (Int32.le_refl _) q⟩
  | succ m ih =>
    intro k h
    refine ⟨fun c => absurd c (notLe (a := n) (by omega) (by omega)), fun _ => ⟨7, uX4_isSoundNow_L26 hD hn hS hT (by omega) hw ho (fun _ => ?_) 6 0 rfl⟩⟩
    rw [← nI_succ]
    exact ih (k + 1) (by omega)
theorem uX4_isSoundNow {post : Int32 → Prop} {po : Int64} {DD : Nat → Nat → Int32} {n w : Nat} {sq : Nat → Nat → Int32} {T : Nat → Int64} (hD : DOK DD) (hn : n ≤ 40) (hS : SOK n sq) (hT : TRM po DD sq n T) (hw : w < 64) (ho : mw po w = true) (h : post 1) : wX4_isSoundNow post (nI w) po DD n sq n T := tX4_has_ hw (fun q => absurd ho (by rw [q]; decide)) (fun _ => ifY ⟨n + 1, uX4_isSoundNow_L18 hD hn hS hT hw ho (fun _ => h) n 0 (Nat.zero_add n)⟩)
theorem TRMc {op : Int64} {D : Nat → Nat → Int32} {sq : Nat → Nat → Int32} {n : Nat} {T T2 : Nat → Int64} (hn : n ≤ 40) (hS : SOK n sq) (h : ∀ s, s < n → T s = T2 s) (hT : TRM op D sq n T) : TRM op D sq n T2 := fun s hs => by
  have := SEMc (hS s hs).1 (by omega) (fun j hj => h j (by omega)) (hT s hs)
  rw [h s hs] at this
  exact this
theorem vX4_isSound {post : Int32 → Int32 × Int32 × (Nat → Int32) × (Nat → Int32) × (Nat → Int32) × (Nat → Int32) → Prop} {th : Int32} {po : Int64} {sp : Int32} {DD : Nat → Nat → Int32} {stf fsf jnf rwf : Nat → Int32} {sn c w : Nat} {sq : Nat → Nat → Int32} {T : Nat → Int64} (a0 : DOK DD) (hM : MSC c sp stf fsf jnf rwf) (a4 : sn ≤ 40) (a5 : SOK sn sq) (hT : TRM po DD sq sn T) (hc : c + 240 < 2 ^ 31) (hw : w < 64) (ho : mw po w = true) (h1 : ∀ sp2 st2 fs2 jn2 rw2, MSC (c + 240) sp2 st2 fs2 jn2 rw2 → post 1 (0, sp2, st2, fs2, jn2, rw2)) : wX4_isSound post th (nI w) po sp DD stf fsf jnf rwf sn sq := by
  refine vX4_truths_ a0 hM a4 a5 hT hc (fun sp2 st2 fs2 jn2 rw2 f g0 hf => ?_)
  show wX4_isSoundNow _ _ _ _ _ _ (((nI sn - (1 : Int32)) + (1 : Int32)).toNatClampNeg) f
  rw [ynEq a4]
  exact uX4_isSoundNow a0 a4 a5 (TRMc a4 a5 (fun s hs => (hf s hs).symm) hT) hw ho ⟨Or.inr rfl, h1 _ _ _ _ _ g0⟩
