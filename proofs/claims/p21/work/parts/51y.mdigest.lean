/-! the checksum: the reference -/
set_option maxRecDepth 16384 in
theorem vX4_digest_L17 {post : Int64 → Int32 × Int64 × Int32 × (Nat → Int32) × (Nat → Int32) × (Nat → Int32) × (Nat → Int32) × (Nat → Int64) × (Nat → Int32) × (Nat → Nat → Int32) × (Nat → Nat → Int32) → Prop} {K45 : Int64 → Int32 → Prop} {po : Int64} {mf : Int32} {DD : Nat → Nat → Int32} {ctf : Nat → Int32} {sn w : Nat} {f : Nat → Int64} (hD : DOK DD) (hn : sn ≤ 40) (hw : w < 64) (ho : mw po w = true) (hs : ∀ s, s < sn → SUBW (f s) po) : ∀ (m k : Nat) (x : Int64), k + m = 13 → (∀ b, K45 (dgS (stN ctf mf po (ED DD) f sn w) m k x) b) → wX4_digest_L17 post K45 (nI w) po mf DD ctf sn f (m + 1) x (nI k) := by
  intro m
  induction m with
  | zero =>
    intro k x h hK
    obtain rfl : k = 13 := by omega
    exact ⟨fun _ => hK _, fun q => absurd (by decide) q⟩
  | succ m ih =>
    intro k x h hK
    refine ⟨fun q => absurd (show nI 12 < nI k from q) (lt12 12 (by decide) (by omega)), fun _ => ?_⟩
    rw [ynEq hn]
    refine uX4_nightNow hD hn hw ho hs (by omega) ?_
    rw [← nI_succ]
    exact ih (k + 1) _ (by omega) hK
set_option maxRecDepth 16384 in
theorem vX4_digest_L69 {post : Int64 → Int32 × Int64 × Int32 × (Nat → Int32) × (Nat → Int32) × (Nat → Int32) × (Nat → Int32) × (Nat → Int64) × (Nat → Int32) × (Nat → Nat → Int32) × (Nat → Nat → Int32) → Prop} {K98 : Int64 → Int32 → Prop} {po : Int64} {DD : Nat → Nat → Int32} {sn w g : Nat} {f : Nat → Int64} (hD : DOK DD) (hn : sn ≤ 40) (hg : g < 6) (hw : w < 64) (ho : mw po w = true) : ∀ (m k : Nat) (x : Int64), k + m = 5 → (∀ b, K98 (dgS (stH po DD f sn w g) m k x) b) → wX4_digest_L69 post K98 (nI w) po DD sn f (nI g) (m + 1) x (nI k) := by
  intro m
  induction m with
  | zero =>
    intro k x h hK
    obtain rfl : k = 5 := by omega
    exact ⟨fun _ => hK _, fun q => absurd (by decide) q⟩
  | succ m ih =>
    intro k x h hK
    refine ⟨fun q => absurd (show nI 4 < nI k from q) (lt12 4 (by decide) (by omega)), fun _ => ?_⟩
    rw [ynEq hn]
    refine uX4_guardNow hD hn hg hw ho (by omega) ?_
    rw [← nI_succ]
    exact ih (k + 1) _ (by omega) hK
set_option maxRecDepth 16384 in
theorem vX4_digest_L59 {post : Int64 → Int32 × Int64 × Int32 × (Nat → Int32) × (Nat → Int32) × (Nat → Int32) × (Nat → Int32) × (Nat → Int64) × (Nat → Int32) × (Nat → Nat → Int32) × (Nat → Nat → Int32) → Prop} {K121 : Int64 → Int32 → Prop} {po : Int64} {DD : Nat → Nat → Int32} {sn w : Nat} {f : Nat → Int64} (hD : DOK DD) (hn : sn ≤ 40) (hw : w < 64) (ho : mw po w = true) : ∀ (m k : Nat) (x : Int64), k + m = 6 → (∀ b, K121 (dgS (stG po DD f sn w) m k x) b) → wX4_digest_L59 post K121 (nI w) po DD sn f (m + 1) x (nI k) := by
  intro m
  induction m with
  | zero =>
    intro k x h hK
    obtain rfl : k = 6 := by omega
    exact ⟨fun _ => hK _, fun q => absurd (by decide) q⟩
  | succ m ih =>
    intro k x h hK
    have hk : k < 6 := by omega
    refine ⟨fun q => absurd q (notLe (a := 6) hk (by decide)), fun _ => ⟨6, vX4_digest_L69 hD hn hk hw ho 5 0 x rfl (fun _ => tX4_alikeNow hk hw (fun r hr => ?_))⟩⟩
    have er : r = ALK po (ED DD) w k := ALKe (op := po) (E := ED DD) (w := w) (g := k) (fun v hv => (hr v hv).trans ⟨fun q => q.2, fun q => ⟨ho, q⟩⟩)
    rw [er, ← nI_succ]
    exact ih (k + 1) _ (by omega) hK
set_option maxRecDepth 16384 in
theorem vX4_digest_L145 {post : Int64 → Int32 × Int64 × Int32 × (Nat → Int32) × (Nat → Int32) × (Nat → Int32) × (Nat → Int32) × (Nat → Int64) × (Nat → Int32) × (Nat → Nat → Int32) × (Nat → Nat → Int32) → Prop} {K178 : Int64 → Int32 → Prop} {po : Int64} {DD : Nat → Nat → Int32} {sn w s : Nat} {sq : Nat → Nat → Int32} {f : Nat → Int64} (hD : DOK DD) (hn : sn ≤ 40) (hT : TRM po DD sq sn f) (hs : s < sn) (hw : w < 64) (ho : mw po w = true) : ∀ (m k : Nat) (x : Int64), k + m = 10 → (∀ b, K178 (dgS (stP po (ED DD) f sq w s) m k x) b) → wX4_digest_L145 post K178 (nI w) po DD sn sq f (nI s) (m + 1) x (nI k) := by
  intro m
  induction m with
  | zero =>
    intro k x h hK
    obtain rfl : k = 10 := by omega
    exact ⟨fun _ => hK _, fun q => absurd (by decide) q⟩
  | succ m ih =>
    intro k x h hK
    refine ⟨fun q => absurd (show nI 9 < nI k from q) (lt12 9 (by decide) (by omega)), fun _ => ?_⟩
    rw [ynEq hn, nI_clamp (show s < 2 ^ 31 by omega)]
    refine ⟨nI_in hs (by omega), uX4_ofNow hD hn hT hs hw ho (by omega) ?_⟩
    rw [← nI_succ]
    exact ih (k + 1) _ (by omega) hK
set_option maxRecDepth 16384 in
theorem vX4_digest_L124 {post : Int64 → Int32 × Int64 × Int32 × (Nat → Int32) × (Nat → Int32) × (Nat → Int32) × (Nat → Int32) × (Nat → Int64) × (Nat → Int32) × (Nat → Nat → Int32) × (Nat → Nat → Int32) → Prop} {K202 : Int64 → Int32 → Prop} {po : Int64} {DD : Nat → Nat → Int32} {sn w : Nat} {sq : Nat → Nat → Int32} {f : Nat → Int64} (hD : DOK DD) (hn : sn ≤ 40) (hT : TRM po DD sq sn f) (hw : w < 64) (ho : mw po w = true) : ∀ (m k : Nat) (x : Int64), k + m = sn → (∀ b, K202 (dgS (stO po (ED DD) f sq w) m k x) b) → wX4_digest_L124 post K202 (nI w) po DD sn sq f (m + 1) x (nI k) := by
  intro m
  induction m with
  | zero =>
    intro k x h hK
    obtain rfl : k = sn := by omega
    refine ⟨fun _ => hK _, fun q => absurd ?_ q⟩
    rw [ynEq hn]
    exact Int32.le_refl _
  | succ m ih =>
    intro k x h hK
    have hk : k < sn := by omega
    have ek : (nI k).toNatClampNeg = k := nI_clamp (by omega)
    refine ⟨fun q => absurd q ?_, fun _ => ?_⟩
    · rw [ynEq hn]
      exact notLe (a := sn) hk (by omega)
    · rw [ynEq hn]
      refine ⟨nI_in hk (by omega), fun x1 e1 => ⟨11, ?_⟩⟩
      rw [ek] at e1
      subst e1
      refine vX4_digest_L145 hD hn hT hk hw ho 10 0 _ rfl (fun _ => ⟨nI_in hk (by omega), ?_⟩)
      rw [ek]
      show wX4_depthNow _ (nI w) po DD (nI 63) (f k)
      refine uX4_depthNow hD (by decide) (by decide) hw ?_
      rw [← nI_succ]
      exact ih (k + 1) _ (by omega) hK
set_option maxRecDepth 16384 in
theorem vX4_digest {post : Int64 → Int32 × Int64 × Int32 × (Nat → Int32) × (Nat → Int32) × (Nat → Int32) × (Nat → Int32) × (Nat → Int64) × (Nat → Int32) × (Nat → Nat → Int32) × (Nat → Nat → Int32) → Prop} {th : Int32} {po : Int64} {mf sp : Int32} {DD : Nat → Nat → Int32} {ctf stf fsf jnf rwf : Nat → Int32} {fdf : Nat → Int64} {aff : Nat → Int32} {KP : Nat → Nat → Int32} {sn c w : Nat} {sq : Nat → Nat → Int32} {T : Nat → Int64} (a0 : DOK DD) (hM : MSC c sp stf fsf jnf rwf) (a4 : sn ≤ 40) (a5 : SOK sn sq) (hT : TRM po DD sq sn T) (hQ : KOK KP) (hw : w < 64) (ho : mw po w = true) (hc : c + 347600 < 2 ^ 31) (hp : ∀ sp2 st2 fs2 jn2 rw2 (fd2 : Nat → Int64) (af2 : Nat → Int32) Q, KOK Q → MSC (c + 347600) sp2 st2 fs2 jn2 rw2 → post (digV ctf mf po DD T sq sn w) (0, po, sp2, st2, fs2, jn2, rw2, fd2, af2, DD, Q)) : wX4_digest post th (nI w) po mf sp DD ctf stf fsf jnf rwf fdf aff KP sn sq := by
  refine vX4_truths_ a0 hM a4 a5 hT (by omega) (fun sp2 st2 fs2 jn2 rw2 f g0 hf => ?_)
  have hTf : TRM po DD sq sn f := TRMc a4 a5 (fun s hs => (hf s hs).symm) hT
  rw [← digT hf] at hp
  unfold digV at hp
  refine ⟨14, vX4_digest_L17 a0 a4 hw ho (fun s hs => TRMs hTf hs) 13 0 6121 rfl (fun _ => ?_)⟩
  refine ⟨7, vX4_digest_L59 a0 a4 hw ho 6 0 _ rfl (fun _ => ?_)⟩
  refine ⟨sn + 1, vX4_digest_L124 a0 a4 hTf hw ho sn 0 _ (Nat.zero_add sn) (fun _ => ?_)⟩
  rw [ynEq a4]
  refine ⟨fun c1 => ?_, fun c1 => ?_⟩
  · have e0 : sn = 0 := by
      have := (nIleQ (by omega) (by decide)).mp (show nI sn ≤ nI 0 from c1)
      omega
    unfold digB at hp
    rw [if_pos e0] at hp
    refine uX4_witNow (g := 0) a4 (by decide) hw ho ⟨witW a4 (cnt_le _ sn), fun x hx => ?_⟩
    subst hx
    exact uX4_isSoundNow a0 a4 a5 hTf hw ho (ifY2 (hp _ _ _ _ _ _ _ _ hQ (g0.mono (by omega))))
  · have e0 : ¬ sn = 0 := fun e => c1 (by rw [e]; decide)
    unfold digB at hp
    rw [if_neg e0] at hp
    obtain ⟨m, rfl⟩ : ∃ m, sn = m + 1 := ⟨sn - 1, by omega⟩
    rw [nI_pred]
    refine vX4_notesNow (g := 0) (s := m) a0 g0 a4 a5 hQ hw ho (by decide) (by omega) (by omega) (fun sp2 st2 fs2 jn2 rw2 fd2 af2 Q q1 g1 => ?_)
    refine vX4_roundsNow (a := 63) (s := m) a0 g1 a4 a5 hw ho (by omega) (by decide) (by omega) (fun sp2 st2 fs2 jn2 rw2 fd2 af2 g2 => ?_)
    intro x hx
    subst hx
    refine uX4_witNow (g := 0) a4 (by decide) hw ho ⟨witW a4 (cnt_le _ (m + 1)), fun x hx => ?_⟩
    subst hx
    exact uX4_isSoundNow a0 a4 a5 hTf hw ho (ifY2 (hp _ _ _ _ _ _ _ _ q1 (g2.mono (by omega))))
