set_option maxRecDepth 16384 in
theorem witW {c n : Nat} (hn : n ≤ 40) (hc : c ≤ n) : WIT (witV c n) := by
  unfold witV
  by_cases e : n = 0
  · rw [if_pos e]
    exact wit0
  · rw [if_neg e]
    exact (witA (a := nI c) (b := nI n) ⟨c, by omega, rfl⟩ ⟨n, by omega, rfl⟩ (fun q => e ((nI0 hn).mp q))).2
set_option maxRecDepth 16384 in
theorem tX2_digest {post : Int64 → (Nat → Int64) × (Nat → Int64) × Int64 × Int32 × (Nat → Int64) × (Nat → Int64) × Int64 × Int32 → Prop} {tA wP nT aK lK sW rF : Int32} {ctf : Nat → Int32} {mf : Int32} {dk wg uk uw vk vw : Nat → Int64} {op uo vo : Int64} {ur vr : Int32} {DD : Nat → Nat → Int32} {kf ff sf df : Nat → Int32} {pf gf : Nat → Int64} {n w : Nat} {sq : Nat → Nat → Int32} (hC : CD dk (ED DD)) (hD : DOK DD) (hB : BOK kf ff sf n) (hS : SOK n sq) (hK : SAMEB kf ff sf n sq) (hdp : DEPB df sq n) (hh : HNG kf ff sf pf gf n) (hT : TRU op (ED DD) kf ff sf n wg) (hw : w < 64) (ho : mw op w = true) (hct : JCT tA wP nT aK lK sW rF ctf mf) (hp : ∀ u, post (digV ctf mf op DD wg sq n w) u) : wX2_digest post tA wP nT aK lK sW rF dk wg op (nI w) uk uw uo ur vk vw vo vr kf ff sf df pf gf (nI n) := by
  have hn := hB.1
  have hq := EDq DD
  unfold digV at hp
  refine ⟨14, tX2_digest_L6 hC hq hn hw ho hct 13 0 6121 rfl (fun _ => ?_)⟩
  refine ⟨7, tX2_digest_L44 hC hD hn hw ho 6 0 _ rfl (fun _ => ?_)⟩
  refine ⟨n + 1, tX2_digest_L107 hC hq hn hK hdp hw ho n 0 _ (Nat.zero_add n) (fun _ => ?_)⟩
  unfold wX0_count
  refine ⟨fun c => ?_, fun c => ?_⟩
  · have e0 : n = 0 := by
      have := (nIleQ (by omega) (by decide)).mp (show nI n ≤ nI 0 from c)
      omega
    unfold digB at hp
    rw [if_pos e0] at hp
    refine tnX2_wit (g := 0) hC hn (by decide) hw ⟨witW hn (cnt_le _ n), fun x hx => ?_⟩
    subst hx
    exact tX2_isSound hC hq hB hT hw ho (ifY2 (hp _))
  · have e0 : ¬ n = 0 := fun e => c (by rw [e]; decide)
    unfold digB at hp
    rw [if_neg e0] at hp
    obtain ⟨m, rfl⟩ : ∃ m, n = m + 1 := ⟨n - 1, by omega⟩
    dsimp only
    rw [nI_pred]
    refine tnX2_notes (g := 0) (s := m) hC hq hB hS hK hh hT hw ho (by decide) (by omega) (fun u => ?_)
    refine tnX2_rounds (a := 63) (s := m) hC hB hS hK hh hT hw ho (by omega) (by decide) (by decide) (fun u2 => ?_)
    intro x hx
    subst hx
    refine tnX2_wit (g := 0) hC hn (by decide) hw ⟨witW hn (cnt_le _ (m + 1)), fun x hx => ?_⟩
    subst hx
    exact tX2_isSound hC hq hB hT hw ho (ifY2 (hp _))
