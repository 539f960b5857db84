/-! the truth for any way of telling apart -/
def TRE (op : Int64) (E : Nat → Nat → Nat → Bool) (sq : Nat → Nat → Int32) (n : Nat) (T : Nat → Int64) : Prop := ∀ s, s < n → SEM op E (sq s 0) (sq s 1) (sq s 2) T (T s)
set_option maxRecDepth 16384 in
theorem treEx {sn : Nat} {sq : Nat → Nat → Int32} (hn : sn ≤ 40) (hs : SOK sn sq) (op : Int64) (E : Nat → Nat → Nat → Bool) : ∃ T, TRE op E sq sn T := by
  have : ∀ n, n ≤ sn → ∃ T, TRE op E sq n T := by
    intro n
    induction n with
    | zero => exact fun _ => ⟨fun _ => 0, fun s hs => absurd hs (Nat.not_lt_zero s)⟩
    | succ n ih =>
      intro h
      obtain ⟨T, hT⟩ := ih (by omega)
      obtain ⟨r, hr⟩ := setOfP (fun w => mw op w = true ∧ SB op E (sq n 0) (sq n 1) (sq n 2) T w) 64 (Nat.le_refl _)
      have hc : ∀ j, j < n → T j = vp_updL T n r j := fun j hj => (ulNe _ _ (by omega)).symm
      refine ⟨vp_updL T n r, fun s hs2 => ?_⟩
      rcases Nat.lt_succ_iff_lt_or_eq.mp hs2 with e | e
      · rw [ulNe _ _ (by omega)]
        exact SEMc (hs s (by omega)).1 (by omega) (fun j hj => hc j (by omega)) (hT s e)
      · subst e
        rw [ulAt]
        exact SEMc (hs s (by omega)).1 (by omega) hc (fun w hw => (hr w hw).trans ⟨fun q => q.2, fun q => ⟨hw, q⟩⟩)
  exact this sn (Nat.le_refl _)
noncomputable def TRX (op : Int64) (E : Nat → Nat → Nat → Bool) (sq : Nat → Nat → Int32) (n : Nat) : Nat → Int64 := @dite _ (∃ T, TRE op E sq n T) (Classical.propDecidable _) (fun h => Classical.choose h) (fun _ => fun _ => 0)
set_option maxRecDepth 16384 in
theorem TRXs {op : Int64} {E : Nat → Nat → Nat → Bool} {sq : Nat → Nat → Int32} {n : Nat} (hn : n ≤ 40) (hs : SOK n sq) : TRE op E sq n (TRX op E sq n) := by
  have h := treEx hn hs op E
  unfold TRX
  rw [dif_pos h]
  exact Classical.choose_spec h
set_option maxRecDepth 16384 in
/-- the same for two ways of telling apart that do not differ where it counts -/
theorem treU {op : Int64} {E E2 : Nat → Nat → Nat → Bool} {sq : Nat → Nat → Int32} {n : Nat} {T T2 : Nat → Int64} {Q : Nat → Prop} (hn : n ≤ 40) (hS : SOK n sq) (hQ : ∀ j, j < n → Q j → ∀ i, PRT sq j i → Q i) (hm : ∀ j, j < n → Q j → ∀ T0 r, SEM op E (sq j 0) (sq j 1) (sq j 2) T0 r → SEM op E2 (sq j 0) (sq j 1) (sq j 2) T0 r) (h1 : ∀ j, j < n → Q j → SEM op E (sq j 0) (sq j 1) (sq j 2) T (T j)) (h2 : ∀ j, j < n → Q j → SEM op E2 (sq j 0) (sq j 1) (sq j 2) T2 (T2 j)) : ∀ j, j < n → Q j → T j = T2 j := by
  have main : ∀ k j, j < k → j < n → Q j → T j = T2 j := by
    intro k
    induction k with
    | zero => exact fun j hj => absurd hj (Nat.not_lt_zero j)
    | succ k ih =>
      intro j hjk hj q
      have go : ∀ i, PRT sq j i → T i = T2 i := fun i hi => by
        have := PRTl hn hS hj hi
        exact ih i (by omega) (by omega) (hQ j hj q i hi)
      have h4 := SEMp (T2 := T2) (hS j hj).1 (by omega) (fun q => go _ (Or.inl ⟨q, rfl⟩)) (fun q r => go _ (Or.inr ⟨q, r, rfl⟩)) (hm j hj q _ _ (h1 j hj q))
      exact mwX (fun w hw => (h4 w hw).trans (h2 j hj q w hw).symm)
  exact fun j hj q => main (j + 1) j (by omega) hj q
set_option maxRecDepth 16384 in
theorem TRXe {op : Int64} {E E2 : Nat → Nat → Nat → Bool} {sq : Nat → Nat → Int32} {n : Nat} {T : Nat → Int64} (hn : n ≤ 40) (hS : SOK n sq) (hE : EQE E E2) (h : TRE op E sq n T) : ∀ j, j < n → T j = TRX op E2 sq n j := fun j hj => treU (E := E) (E2 := E2) (Q := fun _ => True) hn hS (fun _ _ _ _ _ => trivial) (fun j hj _ _ _ q => SEMe hE (hS j hj).1 q) (fun j hj _ => h j hj) (fun j hj _ => TRXs hn hS j hj) j hj trivial
set_option maxRecDepth 16384 in
/-- right on a set closed under parts -/
theorem TRPx {op : Int64} {E : Nat → Nat → Nat → Bool} {kf ff sf : Nat → Int32} {sq : Nat → Nat → Int32} {n : Nat} {T : Nat → Int64} {P : Int64} (hB : BOK kf ff sf n) (hS : SOK n sq) (hK : SAMEB kf ff sf n sq) (hcl : ∀ j, j < 64 → mw P j = true → j < n ∧ ∀ i, PRTC kf ff sf j i → mw P i = true) (h : ∀ j, j < 40 → mw P j = true → SEM op E (kf j) (ff j) (sf j) T (T j)) : ∀ j, j < 64 → mw P j = true → T j = TRX op E sq n j := fun j hj hm => by
  have hn := hB.1
  have l := (hcl j hj hm).1
  refine treU (E := E) (E2 := E) (Q := fun j => mw P j = true) hn hS (fun j hj q i hi => (hcl j (by omega) q).2 i ?_) (fun _ _ _ _ _ q => q) (fun j hj q => ?_) (fun j hj _ => TRXs hn hS j hj) j l hm
  · obtain ⟨k1, k2, k3⟩ := hK j hj
    unfold PRTC
    rw [k1, k2, k3]
    rcases hi with ⟨a, b⟩ | ⟨a, b, c⟩
    · exact Or.inl ⟨a, b⟩
    · exact Or.inr ⟨⟨a, b⟩, c⟩
  · obtain ⟨k1, k2, k3⟩ := hK j hj
    have := h j (by omega) q
    rw [k1, k2, k3] at this
    exact this
set_option maxRecDepth 16384 in
/-- a note to b changes nothing for a sentence that does not speak of b -/
theorem SEMn {op : Int64} {E : Nat → Nat → Nat → Bool} {n a b : Nat} {kd x y : Int32} {T : Nat → Int64} {r : Int64} (hw : wfS n kd x y) (hnm : ¬ NM kd x b) (h : SEM op E kd x y T r) : SEM op (eNote E a b) kd x y T r := by
  have fwd : ∀ (E1 E2 : Nat → Nat → Nat → Bool) (w : Nat), w < 64 → (∀ g, g < 6 → ¬ g = b → ∀ u v, E1 g u v = E2 g u v) → SB op E1 kd x y T w → SB op E2 kd x y T w := fun E1 E2 w hw2 he hs => by
    obtain ⟨h0, h1, h2, h3, h4, h5, h6, h7⟩ := hs
    have nb : (kd = 5 ∨ kd = 6 ∨ kd = 7) → ∀ g, x.toNatClampNeg.testBit g = true → ¬ g = b := fun q g hb e => hnm (Or.inr ⟨q, by rw [← e]; exact hb⟩)
    refine ⟨h0, h1, h2, h3, fun q v hv ho hh => h4 q v hv ho ?_, fun q g hg hb v hv ho hh => h5 q g hg hb v hv ho (by rw [he g hg (nb (Or.inl q) g hb)]; exact hh), fun q => ?_, fun q v hv ho hh => h7 q v hv ho (fun g hg hb => by rw [he g hg (nb (Or.inr (Or.inr q)) g hb)]; exact hh g hg hb)⟩
    · obtain ⟨c, hc, ec⟩ := hw.2.2.2.1 q
      rw [ec, nI_clamp (show c < 2 ^ 31 by omega)] at hh ⊢
      rw [he c hc (fun e => hnm (Or.inl ⟨q, by rw [ec, e]⟩))]
      exact hh
    · obtain ⟨S, s1, s2⟩ := h6 q
      exact ⟨S, s1, fun v hv hS => ⟨(s2 v hv hS).1, fun g hg hb u hu ho hh => (s2 v hv hS).2 g hg hb u hu ho (by rw [he g hg (nb (Or.inr (Or.inl q)) g hb)]; exact hh)⟩⟩
  exact fun w hw2 => (h w hw2).trans (and_congr_right fun _ => ⟨fwd _ _ w hw2 (fun g _ ne u v => (eNoteF ne).symm), fwd _ _ w hw2 (fun g _ ne u v => eNoteF ne)⟩)
/-- two ways that agree on the possible worlds -/
def EQO (op : Int64) (E E2 : Nat → Nat → Nat → Bool) : Prop := ∀ g, g < 6 → ∀ w, w < 64 → ∀ v, v < 64 → mw op w = true → mw op v = true → E g w v = E2 g w v
set_option maxRecDepth 16384 in
theorem EQO.symm {op : Int64} {E E2 : Nat → Nat → Nat → Bool} (h : EQO op E E2) : EQO op E2 E := fun g hg w hw v hv a b => (h g hg w hw v hv a b).symm
set_option maxRecDepth 16384 in
theorem SEMo {op : Int64} {E E2 : Nat → Nat → Nat → Bool} {n : Nat} {kd x y : Int32} {T : Nat → Int64} {r : Int64} (hE : EQO op E E2) (hw : wfS n kd x y) (h : SEM op E kd x y T r) : SEM op E2 kd x y T r := by
  have fwd : ∀ (E1 E2 : Nat → Nat → Nat → Bool), EQO op E1 E2 → ∀ w, w < 64 → mw op w = true → SB op E1 kd x y T w → SB op E2 kd x y T w := fun E1 E2 he w hw2 how hs => by
    obtain ⟨h0, h1, h2, h3, h4, h5, h6, h7⟩ := hs
    refine ⟨h0, h1, h2, h3, fun q v hv ho hh => h4 q v hv ho ?_, fun q g hg hb v hv ho hh => h5 q g hg hb v hv ho (by rw [he g hg w hw2 v hv how ho]; exact hh), fun q => ?_, fun q v hv ho hh => h7 q v hv ho (fun g hg hb => by rw [he g hg w hw2 v hv how ho]; exact hh g hg hb)⟩
    · obtain ⟨c, hc, ec⟩ := hw.2.2.2.1 q
      rw [ec, nI_clamp (show c < 2 ^ 31 by omega)] at hh ⊢
      rw [he c hc w hw2 v hv how ho]
      exact hh
    · obtain ⟨S, s1, s2⟩ := h6 q
      exact ⟨fun v => S v ∧ mw op v = true, ⟨s1, how⟩, fun v hv hS => ⟨(s2 v hv hS.1).1, fun g hg hb u hu ho hh => ⟨(s2 v hv hS.1).2 g hg hb u hu ho (by rw [he g hg v hv u hu hS.2 ho]; exact hh), ho⟩⟩⟩
  exact fun w hw2 => (h w hw2).trans (and_congr_right fun how => ⟨fwd _ _ hE w hw2 how, fwd _ _ hE.symm w hw2 how⟩)
