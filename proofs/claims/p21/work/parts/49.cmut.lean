/-! what a sentence means hangs on the desks alone as far as they go -/
def EQE (E E2 : Nat → Nat → Nat → Bool) : Prop := ∀ g, g < 6 → ∀ w, w < 64 → ∀ v, v < 64 → E g w v = E2 g w v
theorem EQE.symm {E E2 : Nat → Nat → Nat → Bool} (h : EQE E E2) : EQE E2 E := fun g hg w hw v hv => (h g hg w hw v hv).symm
theorem EQE.refl (E : Nat → Nat → Nat → Bool) : EQE E E := fun _ _ _ _ _ _ => rfl
theorem COMe {op : Int64} {E E2 : Nat → Nat → Nat → Bool} (hE : EQE E E2) {s : Nat} {p : Int64} {w : Nat} (h : COM op E s p w) : COM op E2 s p w := by
  obtain ⟨S, s1, s2⟩ := h
  exact ⟨S, s1, fun v hv hS => ⟨(s2 v hv hS).1, fun g hg hb u hu ho he => (s2 v hv hS).2 g hg hb u hu ho (by rw [hE g hg v hv u hu]; exact he)⟩⟩
theorem SBe1 {op : Int64} {E E2 : Nat → Nat → Nat → Bool} (hE : EQE E E2) {n : Nat} {kd a b : Int32} {T : Nat → Int64} {w : Nat} (hwf : wfS n kd a b) (hw : w < 64) (h : SB op E kd a b T w) : SB op E2 kd a b T w := by
  obtain ⟨h0, h1, h2, h3, h4, h5, h6, h7⟩ := h
  refine ⟨h0, h1, h2, h3, fun q v hv ho he => ?_, fun q g hg hb v hv ho he => h5 q g hg hb v hv ho (by rw [hE g hg w hw v hv]; exact he), fun q => COMe hE (h6 q), fun q v hv ho he => h7 q v hv ho (fun g hg hb => by rw [hE g hg w hw v hv]; exact he g hg hb)⟩
  obtain ⟨c, hc, ec⟩ := hwf.2.2.2.1 q
  rw [ec] at h4 he
  rw [nI_clamp (show c < 2 ^ 31 by omega)] at h4 he
  exact h4 q v hv ho (by rw [hE c hc w hw v hv]; exact he)
theorem SEMe {op : Int64} {E E2 : Nat → Nat → Nat → Bool} (hE : EQE E E2) {n : Nat} {kd a b : Int32} {T : Nat → Int64} {r : Int64} (hwf : wfS n kd a b) (h : SEM op E kd a b T r) : SEM op E2 kd a b T r := fun w hw => (h w hw).trans (and_congr_right fun _ => ⟨SBe1 hE hwf hw, SBe1 hE.symm hwf hw⟩)
theorem TRUe {op : Int64} {E E2 : Nat → Nat → Nat → Bool} (hE : EQE E E2) {kf ff sf : Nat → Int32} {n : Nat} {T : Nat → Int64} (hB : BOK kf ff sf n) (h : TRU op E kf ff sf n T) : TRU op E2 kf ff sf n T := fun s hs => SEMe hE (hB.2 s hs) (h s hs)
theorem CDe2 {dk : Nat → Int64} {E E2 : Nat → Nat → Nat → Bool} (hE : EQE E E2) (h : CD dk E) : CD dk E2 := CDc hE h
/-- class and reference keep the same sentences -/
def SAMEB (kf ff sf : Nat → Int32) (n : Nat) (sq : Nat → Nat → Int32) : Prop := ∀ k, k < n → kf k = sq k 0 ∧ ff k = sq k 1 ∧ sf k = sq k 2
theorem TRU.trm {op : Int64} {D : Nat → Nat → Int32} {kf ff sf : Nat → Int32} {n : Nat} {sq : Nat → Nat → Int32} {T : Nat → Int64} (hS : SAMEB kf ff sf n sq) (h : TRU op (ED D) kf ff sf n T) : TRM op D sq n T := fun s hs => by
  obtain ⟨a, b, c⟩ := hS s hs
  have := h s hs
  rw [a, b, c] at this
  exact this
theorem TRU.new {op : Int64} {E : Nat → Nat → Nat → Bool} {kf ff sf : Nat → Int32} {n : Nat} {T T2 : Nat → Int64} {a b c : Int32} (hB : BOK kf ff sf n) (hw : wfS n a b c) (hn : n < 40) (h : TRU op E kf ff sf n T) (hk : ∀ s, s < n → T2 s = T s) (h2 : SEM op E a b c T2 (T2 n)) : TRU op E (upd kf n a) (upd ff n b) (upd sf n c) (n + 1) T2 := fun s hs => by
  rcases Nat.lt_succ_iff_lt_or_eq.mp hs with e | e
  · rw [updNe _ _ (by omega), updNe _ _ (by omega), updNe _ _ (by omega), hk s e]
    exact SEMc (hB.2 s e) (by omega) (fun j hj => (hk j (by omega)).symm) (h s e)
  · subst e
    rw [updAt, updAt, updAt]
    exact h2
/-! the class's calls that change something -/
theorem wAll {post : (Nat → Int64) → Prop} {dk wg : Nat → Int64} {op : Int64} {E : Nat → Nat → Nat → Bool} {kf ff sf : Nat → Int32} {n : Nat} (hC : CD dk E) (hq : EQV E) (hB : BOK kf ff sf n) (h : ∀ wg2, TRU op E kf ff sf n wg2 → post wg2) : wX0_everySentence (fun st => wX1_weigh (fun wg_1 => post wg_1) dk wg op kf ff sf (nI n) st) (nI n) := tX0_everySentence hB.1 (fun st hst => weighAll hC hq hB hst h)
theorem txL_begin {post : Int32 → (Nat → Int64) × (Nat → Int64) × Int64 × Int32 × Int64 → Prop} {dk wg : Nat → Int64} {op : Int64} {re : Int32} {kf ff sf : Nat → Int32} {n : Nat} {on : Int64} {p1 : Int32} (hB : BOK kf ff sf n) (h1 : ∀ w, w < 64 → p1 = nI w → ∀ d wg2, CD d eAll → TRU (-1) eAll kf ff sf n wg2 → post 0 (d, wg2, -1, p1, (nI (cntP (fun s => mw (wg2 s) w = true) n)).toInt64)) (h2 : ¬ IN p1 64 → post 1 (dk, wg, op, re, on)) : wxL_begin post dk wg op re kf ff sf (nI n) on p1 := by
  unfold wxL_begin wxX2_begin
  refine sX2_isWorld (fun r _ f1 f2 => ⟨fun c => ?_, fun c => ⟨rfl, h2 (f2 c)⟩⟩)
  obtain ⟨w, hw, rfl⟩ := f1 c
  exact tX1_restart hB (fun d wg2 hC hT => tX1_countTrueInReal hB.1 hw (h1 w hw rfl d wg2 hC hT))
theorem txL_look {post : Int32 → Int32 × (Nat → Int64) × (Nat → Int64) × Int64 → Prop} {lK : Int32} {dk wg : Nat → Int64} {op : Int64} {E : Nat → Nat → Nat → Bool} {kf ff sf : Nat → Int32} {n w : Nat} {on : Int64} {p1 p2 : Int32} (hC : CD dk E) (hq : EQV E) (hB : BOK kf ff sf n) (hw : w < 64) (h1 : ∀ g, g < 6 → p1 = nI g → ∀ a, a < 6 → p2 = nI a → ∀ d wg2 r, CD d (eTell E g (wof a)) → TRU op (eTell E g (wof a)) kf ff sf n wg2 → (∀ v, v < 64 → (mw r v = true ↔ eTell E g (wof a) g w v = true ∧ mw op v = true)) → post 0 (lK + 1, d, wg2, (nI (pc r)).toInt64)) (h2 : ¬ (IN p1 6 ∧ IN p2 6) → post 1 (lK, dk, wg, on)) : wxL_look post lK dk wg op (nI w) kf ff sf (nI n) on p1 p2 := by
  unfold wxL_look wxX2_look
  refine tX2_isGuard (fun r _ hr => ⟨fun c => ⟨rfl, h2 (fun q => hr.mpr q.1 c)⟩, fun c => tX2_isFact (fun r2 _ hr2 => ⟨fun c2 => ?_, fun c2 => ⟨rfl, h2 (fun q => hr2.mpr q.2 c2)⟩⟩)⟩)
  obtain ⟨g, hg, rfl⟩ := hr.mp c
  obtain ⟨a, ha, rfl⟩ := hr2.mp c2
  exact tX2_worldsOfFact ha (tX1_tellApart hC hg (fun d hd => wAll hd (eTellQ hq g _) hB (fun wg2 hT => tX1_cell hd hg hw (fun x hx => eJ13_bitCount (h1 g hg rfl a ha rfl d wg2 x hd hT hx)))))
theorem tX0_holdsN {post : Int32 → Prop} {n : Nat} {p1 : Int32} (hn : n ≤ 40) (h0 : ¬ IN p1 n → post 0) (h1 : ∀ s, s < n → p1 = nI s → post 1) : wX0_holds post (nI n) p1 := tX0_holds hn (fun r z hr => by
  rcases z with rfl | rfl
  · exact h0 (fun q => hr.mpr q rfl)
  · obtain ⟨s, hs, e⟩ := hr.mp (by decide)
    exact h1 s hs e)
theorem txL_aloud {post : Int32 → Int32 × Int64 × (Nat → Int64) × Int64 → Prop} {tA : Int32} {dk wg : Nat → Int64} {op : Int64} {E : Nat → Nat → Nat → Bool} {kf ff sf : Nat → Int32} {n w : Nat} {on : Int64} {p1 : Int32} (hC : CD dk E) (hq : EQV E) (hB : BOK kf ff sf n) (hT : TRU op E kf ff sf n wg) (hw : w < 64) (h1 : ∀ s, s < n → p1 = nI s → mw (wg s) w = true → ∀ wg2, TRU (wg s) E kf ff sf n wg2 → post 0 (tA + 1, wg s, wg2, (nI (pc (wg s))).toInt64)) (h2 : ¬ IN p1 n → post 1 (tA, op, wg, on)) (h3 : ∀ s, s < n → p1 = nI s → ¬ mw (wg s) w = true → post 2 (tA, op, wg, on)) : wxL_aloud post tA dk wg op (nI w) kf ff sf (nI n) on p1 := by
  unfold wxL_aloud wxX2_aloud
  refine tX0_holdsN hB.1 (fun q => ⟨fun c => absurd rfl c, fun _ => Or.inl ⟨rfl, h2 q⟩⟩) (fun s hs e => ⟨fun _ => ?_, fun c => absurd c (by decide)⟩)
  subst e
  refine tX1_isTrueInReal hB.1 hs hw (fun q => ⟨fun c => absurd rfl c, fun _ => Or.inr ⟨rfl, h3 s hs rfl q⟩⟩) (fun q => ⟨fun _ => tX1_worldsOf hs hB.1 ?_, fun c => absurd c (by decide)⟩)
  have e : (op &&& wg s) = wg s := mwX (fun v hv => mwA.trans ⟨fun t => t.2, fun t => ⟨TRUs hT hs v hv t, t⟩⟩)
  show wX0_everySentence _ _
  rw [e]
  exact wAll hC hq hB (fun wg2 hT2 => eJ13_bitCount (h1 s hs rfl q wg2 hT2))
theorem txL_whisper {post : Int32 → Int32 × (Nat → Int64) × (Nat → Int64) × Int64 → Prop} {wP : Int32} {dk wg : Nat → Int64} {op : Int64} {E : Nat → Nat → Nat → Bool} {kf ff sf : Nat → Int32} {n w : Nat} {on : Int64} {p1 p2 : Int32} (hC : CD dk E) (hq : EQV E) (hB : BOK kf ff sf n) (hw : w < 64) (h1 : ∀ g, g < 6 → p1 = nI g → ∀ s, s < n → p2 = nI s → ∀ d wg2, CD d (eTell E g (wg s)) → TRU op (eTell E g (wg s)) kf ff sf n wg2 → (¬ mw (wg s) w = true → post 0 (wP + 1, d, wg2, 0)) ∧ (mw (wg s) w = true → post 0 (wP + 1, d, wg2, 1))) (h2 : ¬ (IN p1 6 ∧ IN p2 n) → post 1 (wP, dk, wg, on)) : wxL_whisper post wP dk wg op (nI w) kf ff sf (nI n) on p1 p2 := by
  unfold wxL_whisper wxX2_whisper
  refine tX2_isGuard (fun r _ hr => ⟨fun c => ⟨rfl, h2 (fun q => hr.mpr q.1 c)⟩, fun c => tX0_holdsN hB.1 (fun q => ⟨fun c => absurd rfl c, fun _ => ⟨rfl, h2 (fun t => q t.2)⟩⟩) (fun s hs e => ⟨fun _ => ?_, fun c => absurd c (by decide)⟩)⟩)
  obtain ⟨g, hg, rfl⟩ := hr.mp c
  subst e
  refine tX1_isTrueInReal hB.1 hs hw (fun q => ?_) (fun q => ?_)
  · exact tX1_worldsOf hs hB.1 (tX1_tellApart hC hg (fun d hd => wAll hd (eTellQ hq g _) hB (fun wg2 hT2 => ⟨Or.inl rfl, fun _ => (h1 g hg rfl s hs rfl d wg2 hd hT2).1 q, fun c => absurd rfl c⟩)))
  · exact tX1_worldsOf hs hB.1 (tX1_tellApart hC hg (fun d hd => wAll hd (eTellQ hq g _) hB (fun wg2 hT2 => ⟨Or.inr rfl, fun c => absurd c (by decide), fun _ => (h1 g hg rfl s hs rfl d wg2 hd hT2).2 q⟩)))
theorem txL_note {post : Int32 → Int32 × (Nat → Int64) × (Nat → Int64) × Int64 → Prop} {nT : Int32} {dk wg : Nat → Int64} {op : Int64} {E : Nat → Nat → Nat → Bool} {kf ff sf : Nat → Int32} {n w : Nat} {on : Int64} {p1 p2 : Int32} (hC : CD dk E) (hq : EQV E) (hB : BOK kf ff sf n) (hw : w < 64) (h1 : ∀ a, a < 6 → p1 = nI a → ∀ b, b < 6 → p2 = nI b → ¬ a = b → ∀ d wg2 r, CD d (eNote E a b) → TRU op (eNote E a b) kf ff sf n wg2 → (∀ v, v < 64 → (mw r v = true ↔ eNote E a b b w v = true ∧ mw op v = true)) → post 0 (nT + 1, d, wg2, (nI (pc r)).toInt64)) (h2 : ¬ (IN p1 6 ∧ IN p2 6) → post 1 (nT, dk, wg, on)) (h3 : IN p1 6 → IN p2 6 → p1 = p2 → post 2 (nT, dk, wg, on)) : wxL_note post nT dk wg op (nI w) kf ff sf (nI n) on p1 p2 := by
  unfold wxL_note wxX2_note
  refine tX2_isGuard (fun r _ hr => ⟨fun c => Or.inl ⟨rfl, h2 (fun q => hr.mpr q.1 c)⟩, fun c => tX2_isGuard (fun r2 _ hr2 => ⟨fun c2 => ⟨fun ne => ?_, fun e => Or.inr ⟨rfl, h3 (hr.mp c) (hr2.mp c2) e⟩⟩, fun c2 => Or.inl ⟨rfl, h2 (fun q => hr2.mpr q.2 c2)⟩⟩)⟩)
  obtain ⟨a, ha, rfl⟩ := hr.mp c
  obtain ⟨b, hb, rfl⟩ := hr2.mp c2
  have hab : ¬ a = b := fun e => ne (by rw [e])
  have fin : ∀ d, CD d (eNote E a b) → wX0_everySentence (fun r_4 => wX1_weigh (fun wg_1 => wX1_cell (fun r_6 => wJ13_bitCount_95d88 (fun r_7 => post 0 (nT + 1, d, wg_1, r_7.toInt64)) r_6) d op (nI b) (nI w)) d wg op kf ff sf (nI n) r_4) (nI n) := fun d hd => wAll hd (eNoteQ hq a b) hB (fun wg2 hT2 => tX1_cell hd hb hw (fun x hx => eJ13_bitCount (h1 a ha rfl b hb rfl hab d wg2 x hd hT2 hx)))
  exact tX1_passOn hC ha hb hab (fun d hd _ => fin d hd) (fun d hd => fin d hd)
theorem txL_ask {post : Int32 → Int32 × Int64 × (Nat → Int64) × Int64 → Prop} {aK : Int32} {dk wg : Nat → Int64} {op : Int64} {E : Nat → Nat → Nat → Bool} {kf ff sf : Nat → Int32} {n w : Nat} {on : Int64} {p1 p2 : Int32} (hC : CD dk E) (hq : EQV E) (hB : BOK kf ff sf n) (hw : w < 64) (ho : mw op w = true) (h1 : ∀ s, s < n → p2 = nI s → ∀ a, 1 ≤ a → a < 64 → p1 = nI a → ∀ t x wg2, MSK (fun g => a.testBit g = true ∧ KNW op E g (wg s) w) 6 t → ASK op E a (wg s) w 6 x → TRU x E kf ff sf n wg2 → post 0 (aK + 1, x, wg2, (nI t).toInt64)) (h2 : ¬ IN p2 n → post 1 (aK, op, wg, on)) (h3 : IN p2 n → ¬ SETG p1 → post 2 (aK, op, wg, on)) : wxL_ask post aK dk wg op (nI w) kf ff sf (nI n) on p1 p2 := by
  unfold wxL_ask wxX2_ask
  refine tX0_holdsN hB.1 (fun q => ⟨fun c => absurd rfl c, fun _ => Or.inl ⟨rfl, h2 q⟩⟩) (fun s hs e => ⟨fun _ => ?_, fun c => absurd c (by decide)⟩)
  subst e
  refine tX2_isSetOfGuards (fun r _ hr => ⟨fun c => ?_, fun c => Or.inr ⟨rfl, h3 ⟨s, hs, rfl⟩ (fun q => hr.mpr q c)⟩⟩)
  obtain ⟨a, ha0, ha, rfl⟩ := hr.mp c
  refine tX1_knowersOf hC hw hs hB.1 (fun t ht => tX1_answeringAlike hC hq ha hw ho hs hB.1 (fun x hx => ?_))
  have e : (op &&& x) = x := mwX (fun v hv => mwA.trans ⟨fun q => q.2, fun q => ⟨((hx v hv).mp q).1, q⟩⟩)
  show wX0_everySentence _ _
  rw [e, andI t ht.1 a ha]
  exact wAll hC hq hB (fun wg2 hT2 => h1 s hs rfl a ha0 ha rfl _ x wg2 (ht.and ha) hx hT2)
theorem txL_flip {post : Int32 → Int32 × (Nat → Int64) × Int64 × Int32 × (Nat → Int64) × Int64 → Prop} {sW : Int32} {dk wg : Nat → Int64} {op : Int64} {re : Int32} {E : Nat → Nat → Nat → Bool} {kf ff sf : Nat → Int32} {n : Nat} {on : Int64} {p1 : Int32} (hC : CD dk E) (hq : EQV E) (hB : BOK kf ff sf n) (h1 : ∀ f, f < 6 → p1 = nI f → ∀ d o wg2, CD d (eFlip E f) → (∀ v, v < 64 → mw o v = mw op (v ^^^ 2 ^ f)) → TRU o (eFlip E f) kf ff sf n wg2 → post 0 (sW + 1, d, o, re ^^^ nI (2 ^ f), wg2, (re ^^^ nI (2 ^ f)).toInt64)) (h2 : ¬ IN p1 6 → post 1 (sW, dk, op, re, wg, on)) : wxL_flip post sW dk wg op re kf ff sf (nI n) on p1 := by
  unfold wxL_flip wxX2_flip
  refine tX2_isFact (fun r _ hr => ⟨fun c => ?_, fun c => ⟨rfl, h2 (fun q => hr.mpr q c)⟩⟩)
  obtain ⟨f, hf, rfl⟩ := hr.mp c
  exact tX1_turn hC hf (fun d o hd ho => wAll hd (eFlipQ hq f) hB (fun wg2 hT2 => h1 f hf rfl d o wg2 hd ho hT2))
