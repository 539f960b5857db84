/-! the night's numbers -/
abbrev JCT (tA wP nT aK lK sW rF : Int32) (ctf : Nat → Int32) (mf : Int32) : Prop := tA = ctf 0 ∧ wP = ctf 1 ∧ nT = ctf 2 ∧ aK = ctf 3 ∧ lK = ctf 4 ∧ sW = ctf 5 ∧ rF = mf
noncomputable def nightV (ctf : Nat → Int32) (mf : Int32) (op : Int64) (E : Nat → Nat → Nat → Bool) (T : Nat → Int64) (n w i : Nat) : Int32 := if i = 0 then nI w else if i = 1 then nI (pc op) else if i = 2 then nI n else if i = 3 then nI (cntP (fun s => mw (T s) w = true) n) else if i = 4 then nI (cntP (CMT op E T 63 w) n) else if i = 11 then nI (nrt (fun g => pc (ALK op E w g)) 5 1 0) else if i = 12 then mf else ctf (i - 5)
theorem nightT {ctf : Nat → Int32} {mf : Int32} {op : Int64} {E : Nat → Nat → Nat → Bool} {T T2 : Nat → Int64} {n w : Nat} (h : ∀ s, s < n → T s = T2 s) (i : Nat) : nightV ctf mf op E T n w i = nightV ctf mf op E T2 n w i := by
  unfold nightV
  rw [cnt_ext (P := fun s => mw (T s) w = true) (Q := fun s => mw (T2 s) w = true) n (fun s hs => by rw [h s hs]), cnt_ext (P := CMT op E T 63 w) (Q := CMT op E T2 63 w) n (fun s hs => by unfold CMT; rw [h s hs])]
theorem txL_night {post : Int32 → Int64 → Prop} {tA wP nT aK lK sW rF : Int32} {ctf : Nat → Int32} {mf : Int32} {dk wg : Nat → Int64} {op : Int64} {E : Nat → Nat → Nat → Bool} {n w : Nat} {on : Int64} {p1 : Int32} (hC : CD dk E) (hq : EQV E) (hn : n ≤ 40) (hw : w < 64) (ho : mw op w = true) (hct : JCT tA wP nT aK lK sW rF ctf mf) (h1 : ∀ i, i < 13 → p1 = nI i → post 0 (nightV ctf mf op E wg n w i).toInt64) (h2 : ¬ IN p1 13 → post 1 on) : wxL_night post tA wP nT aK lK sW rF dk wg op (nI w) (nI n) on p1 := by
  obtain ⟨rfl, rfl, rfl, rfl, rfl, rfl, rfl⟩ := hct
  unfold wxL_night wxX2_night
  by_cases hi : IN p1 13
  · obtain ⟨i, hi, rfl⟩ := hi
    have h := h1 i hi rfl
    rcases (show i = 0 ∨ i = 1 ∨ i = 2 ∨ i = 3 ∨ i = 4 ∨ i = 5 ∨ i = 6 ∨ i = 7 ∨ i = 8 ∨ i = 9 ∨ i = 10 ∨ i = 11 ∨ i = 12 by omega) with rfl | rfl | rfl | rfl | rfl | rfl | rfl | rfl | rfl | rfl | rfl | rfl | rfl
    · exact iT rfl h
    · exact iF (by decide) (iT rfl (eJ13_bitCount h))
    · exact iF (by decide) (iF (by decide) (iT rfl h))
    · exact iF (by decide) (iF (by decide) (iF (by decide) (iT rfl (tX1_countTrueInReal hn hw h))))
    · refine iF (by decide) (iF (by decide) (iF (by decide) (iF (by decide) (iT rfl ?_))))
      refine tX1_reachedFromReal (s := 63) hC hq (by decide) hw ho (fun r hr => tX1_countTrueInAllOf hn ?_)
      rw [cnt_ext (P := fun s => SUBW r (wg s)) (Q := CMT op E wg 63 w) n (fun s _ => hr (wg s))]
      exact h
    · exact iF (by decide) (iF (by decide) (iF (by decide) (iF (by decide) (iF (by decide) (iT rfl h)))))
    · exact iF (by decide) (iF (by decide) (iF (by decide) (iF (by decide) (iF (by decide) (iF (by decide) (iT rfl h))))))
    · exact iF (by decide) (iF (by decide) (iF (by decide) (iF (by decide) (iF (by decide) (iF (by decide) (iF (by decide) (iT rfl h)))))))
    · exact iF (by decide) (iF (by decide) (iF (by decide) (iF (by decide) (iF (by decide) (iF (by decide) (iF (by decide) (iF (by decide) (iT rfl h))))))))
    · exact iF (by decide) (iF (by decide) (iF (by decide) (iF (by decide) (iF (by decide) (iF (by decide) (iF (by decide) (iF (by decide) (iF (by decide) (iT rfl h)))))))))
    · exact iF (by decide) (iF (by decide) (iF (by decide) (iF (by decide) (iF (by decide) (iF (by decide) (iF (by decide) (iF (by decide) (iF (by decide) (iF (by decide) (iT rfl h))))))))))
    · exact iF (by decide) (iF (by decide) (iF (by decide) (iF (by decide) (iF (by decide) (iF (by decide) (iF (by decide) (iF (by decide) (iF (by decide) (iF (by decide) (iF (by decide) (iT rfl (tX1_nearestToReal hC hw h))))))))))))
    · exact iF (by decide) (iF (by decide) (iF (by decide) (iF (by decide) (iF (by decide) (iF (by decide) (iF (by decide) (iF (by decide) (iF (by decide) (iF (by decide) (iF (by decide) (iF (by decide) (iT rfl h))))))))))))
  · have no : ∀ k, k < 13 → ¬ p1 = nI k := fun k hk q => hi ⟨k, hk, q⟩
    exact iF (no 0 (by decide)) (iF (no 1 (by decide)) (iF (no 2 (by decide)) (iF (no 3 (by decide)) (iF (no 4 (by decide)) (iF (no 5 (by decide)) (iF (no 6 (by decide)) (iF (no 7 (by decide)) (iF (no 8 (by decide)) (iF (no 9 (by decide)) (iF (no 10 (by decide)) (iF (no 11 (by decide)) (iF (no 12 (by decide)) ⟨rfl, h2 hi⟩))))))))))))
theorem n5T : ∀ i, i < 11 → 5 ≤ i → nI i - (5 : Int32) = nI (i - 5) := by decide +kernel
theorem n5V (i : Nat) (h : i < 11) (h5 : 5 ≤ i) : vp_in (nI i - (5 : Int32)) 6 := by
  rw [n5T i h h5]
  exact nI_in (by omega) (by decide)
theorem uX4_nightNow {post : Int32 → Prop} {mf : Int32} {ctf : Nat → Int32} {po : Int64} {DD : Nat → Nat → Int32} {yf : Nat → Int64} {n w i : Nat} (hD : DOK DD) (hn : n ≤ 40) (hw : w < 64) (ho : mw po w = true) (hs : ∀ s, s < n → SUBW (yf s) po) (hi : i < 13) (h : post (nightV ctf mf po (ED DD) yf n w i)) : wX4_nightNow post (nI w) po mf DD ctf n n yf (nI i) := by
  rcases (show i = 0 ∨ i = 1 ∨ i = 2 ∨ i = 3 ∨ i = 4 ∨ i = 5 ∨ i = 6 ∨ i = 7 ∨ i = 8 ∨ i = 9 ∨ i = 10 ∨ i = 11 ∨ i = 12 by omega) with rfl | rfl | rfl | rfl | rfl | rfl | rfl | rfl | rfl | rfl | rfl | rfl | rfl
  · exact iT rfl h
  · exact iF (by decide) (iT rfl (eX4_size_ h))
  · exact iF (by decide) (iF (by decide) (iT rfl h))
  · exact iF (by decide) (iF (by decide) (iF (by decide) (iT rfl (uX4_trueIn hn hw h))))
  · exact iF (by decide) (iF (by decide) (iF (by decide) (iF (by decide) (iT rfl ⟨n + 1, uX4_nightNow_L111 hD hn hw ho hs (fun _ => h) n 0 (Nat.zero_add n)⟩))))
  · exact iF (by decide) (iF (by decide) (iF (by decide) (iF (by decide) (iF (by decide) (iT rfl ⟨n5V _ (by decide) (by decide), h⟩)))))
  · exact iF (by decide) (iF (by decide) (iF (by decide) (iF (by decide) (iF (by decide) (iF (by decide) (iT rfl ⟨n5V _ (by decide) (by decide), h⟩))))))
  · exact iF (by decide) (iF (by decide) (iF (by decide) (iF (by decide) (iF (by decide) (iF (by decide) (iF (by decide) (iT rfl ⟨n5V _ (by decide) (by decide), h⟩)))))))
  · exact iF (by decide) (iF (by decide) (iF (by decide) (iF (by decide) (iF (by decide) (iF (by decide) (iF (by decide) (iF (by decide) (iT rfl ⟨n5V _ (by decide) (by decide), h⟩))))))))
  · exact iF (by decide) (iF (by decide) (iF (by decide) (iF (by decide) (iF (by decide) (iF (by decide) (iF (by decide) (iF (by decide) (iF (by decide) (iT rfl ⟨n5V _ (by decide) (by decide), h⟩)))))))))
  · exact iF (by decide) (iF (by decide) (iF (by decide) (iF (by decide) (iF (by decide) (iF (by decide) (iF (by decide) (iF (by decide) (iF (by decide) (iF (by decide) (iT rfl ⟨n5V _ (by decide) (by decide), h⟩))))))))))
  · exact iF (by decide) (iF (by decide) (iF (by decide) (iF (by decide) (iF (by decide) (iF (by decide) (iF (by decide) (iF (by decide) (iF (by decide) (iF (by decide) (iF (by decide) (iT rfl ⟨6, uX4_nightNow_L162 hw ho 5 1 0 rfl (by decide) (fun _ => h)⟩)))))))))))
  · exact iF (by decide) (iF (by decide) (iF (by decide) (iF (by decide) (iF (by decide) (iF (by decide) (iF (by decide) (iF (by decide) (iF (by decide) (iF (by decide) (iF (by decide) (iF (by decide) (iT rfl h))))))))))))
