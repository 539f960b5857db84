/-! what a sentence hangs on: the class's book, exactly -/
def NM (p1 p2 : Int32) (g : Nat) : Prop := (p1 = 4 ∧ p2 = nI g) ∨ ((p1 = 5 ∨ p1 = 6 ∨ p1 = 7) ∧ p2.toNatClampNeg.testBit g = true)
theorem le4 : ∀ d, d < 8 → (nI d ≤ (4 : Int32) ↔ d ≤ 4) := by decide +kernel
theorem nIne {a b : Nat} (ha : a < 2 ^ 31) (hb : b < 2 ^ 31) (h : ¬ a = b) : ¬ nI a = nI b := fun q => h (nIinj ha hb q)
theorem tX0_names {post : Int32 → Prop} {n g : Nat} {p1 p2 p3 : Int32} (hw : wfS n p1 p2 p3) (hg : g < 6) (h0 : ¬ NM p1 p2 g → post 0) (h1 : NM p1 p2 g → post 1) : wX0_names post p1 p2 (nI g) := by
  obtain ⟨d, hd, rfl⟩ := hw.1
  unfold wX0_names
  refine ⟨fun n4 => ⟨fun l4 => h0 (fun q => ?_), fun l4 => ?_⟩, fun e4 => ⟨fun ne => h0 (fun q => ?_), fun e => h1 (Or.inl ⟨e4, e⟩)⟩⟩
  · rw [le4 d hd] at l4
    rcases q with ⟨q, _⟩ | ⟨q, _⟩
    · exact n4 q
    · rcases q with q | q | q
      · have := nIinj (a := d) (k := 5) (by omega) (by decide) q
        omega
      · have := nIinj (a := d) (k := 6) (by omega) (by decide) q
        omega
      · have := nIinj (a := d) (k := 7) (by omega) (by decide) q
        omega
  · rw [le4 d hd] at l4
    have h5 : nI d = 5 ∨ nI d = 6 ∨ nI d = 7 := by
      rcases (show d = 5 ∨ d = 6 ∨ d = 7 by omega) with rfl | rfl | rfl <;> decide
    obtain ⟨a, ha0, ha, ea⟩ : SETG p2 := hw.2.2.2.2.1 h5
    subst ea
    refine tX2_has (by omega) (fun q => ifN2 (h0 (fun r => q ?_))) (fun q => ifY2 (h1 (Or.inr ⟨h5, ?_⟩)))
    · rw [mwI a ha g hg]
      rcases r with ⟨r, _⟩ | ⟨_, r⟩
      · exact absurd r n4
      · rw [nI_clamp (show a < 2 ^ 31 by omega)] at r
        exact r
    · rw [mwI a ha g hg] at q
      rw [nI_clamp (show a < 2 ^ 31 by omega)]
      exact q
  · rcases q with ⟨_, q⟩ | ⟨q, _⟩
    · exact ne q
    · rw [e4] at q
      exact absurd q (by decide)
theorem tX0_builtDeep {post : Int32 → Prop} {kf : Nat → Int32} {n s : Nat} (hs : s < n) (hn : n ≤ 40) (h : post (kf s)) : wX0_builtDeep post kf (nI n) (nI s) := tX0_holds hn (fun r z hr => ⟨fun q => absurd q (hr.mpr ⟨s, hs, rfl⟩), fun _ => ⟨nI_in (by omega) (by decide), by rw [nI_clamp (show s < 2 ^ 31 by omega)]; exact h⟩⟩)
theorem tX0_partsOf {post : Int64 → Prop} {kf : Nat → Int64} {n s : Nat} (hs : s < n) (hn : n ≤ 40) (h : post (kf s)) : wX0_partsOf post kf (nI n) (nI s) := tX0_holds hn (fun r z hr => ⟨fun q => absurd q (hr.mpr ⟨s, hs, rfl⟩), fun _ => ⟨nI_in (by omega) (by decide), by rw [nI_clamp (show s < 2 ^ 31 by omega)]; exact h⟩⟩)
def GFS (gf : Nat → Int64) (n : Nat) (p1 p2 : Int32) (P : Int64) (k : Nat) (G : Nat → Int64) : Prop := (∀ a, a < k → ∀ j, j < 64 → (mw (G a) j = true ↔ mw (gf a) j = true ∨ (j = n ∧ (NM p1 p2 a ∨ ∃ i, i < 64 ∧ mw P i = true ∧ mw (gf a) i = true)))) ∧ ∀ a, k ≤ a → G a = gf a
theorem tX0_add_L162 {post : Int32 → (Nat → Int32) × (Nat → Int32) × (Nat → Int32) × (Nat → Int32) × (Nat → Int64) × (Nat → Int64) × Int32 → Prop} {K : Int32 → (Nat → Int64) → Prop} {n : Nat} {p1 p2 p3 : Int32} {pf gf : Nat → Int64} (hn : n < 40) (hw : wfS n p1 p2 p3) (hK : ∀ i G, GFS gf n p1 p2 (pf n) 6 G → K i G) : ∀ (m k : Nat) (G : Nat → Int64), k + m = 6 → GFS gf n p1 p2 (pf n) k G → wX0_add_L162 post K (nI n) p1 p2 pf (m + 1) (nI k) G := by
  intro m
  induction m with
  | zero =>
    intro k G h hG
    obtain rfl : k = 6 := by omega
    exact ⟨fun _ => hK _ _ hG, fun q => absurd (by decide) q⟩
  | succ m ih =>
    intro k G h hG
    have hk : k < 6 := by omega
    have vk : vp_in (nI k) 6 := nI_in hk (by decide)
    have vn : vp_in (nI n) 40 := nI_in hn (by decide)
    have ek : (nI k).toNatClampNeg = k := nI_clamp (by omega)
    have en : (nI n).toNatClampNeg = n := nI_clamp (by omega)
    have eG := hG.2 k (Nat.le_refl k)
    have put : (NM p1 p2 k ∨ ∃ i, i < 64 ∧ mw (pf n) i = true ∧ mw (gf k) i = true) → wX0_add_L162 post K (nI n) p1 p2 pf (m + 1) (nI k + 1) (vp_updL G (nI k).toNatClampNeg (G (nI k).toNatClampNeg ||| jLshl (1 : Int64) (nI n))) := fun q => by
      rw [← nI_succ, ek]
      refine ih (k + 1) _ (by omega) ⟨fun a ha j hj => ?_, fun a ha => ?_⟩
      · by_cases e : a = k
        · subst e
          rw [ulAt, mwO, eG, mwB (show n < 64 by omega)]
          exact or_congr_right ⟨fun t => ⟨t.symm, q⟩, fun t => t.1.symm⟩
        · rw [ulNe _ _ e]
          exact hG.1 a (by omega) j hj
      · rw [ulNe _ _ (by omega)]
        exact hG.2 a (by omega)
    refine ⟨fun q => absurd q (notLe (a := 6) hk (by decide)), fun _ => tX0_names hw hk (fun q => ifN ⟨vn, vk, ?_⟩) (fun q => ifY ⟨vk, ⟨vk, put (Or.inl q)⟩⟩)⟩
    refine ⟨fun e => ?_, fun ne => ⟨vk, ⟨vk, put (Or.inr ?_)⟩⟩⟩
    · rw [en, ek, eG] at e
      rw [← nI_succ]
      refine ih (k + 1) G (by omega) ⟨fun a ha j hj => ?_, fun a ha => hG.2 a (by omega)⟩
      by_cases e2 : a = k
      · subst e2
        rw [eG]
        refine ⟨Or.inl, fun t => t.elim id (fun t => ?_)⟩
        rcases t.2 with r | ⟨i, hi, r1, r2⟩
        · exact absurd r q
        · have : mw (pf n &&& gf a) i = true := mwA.mpr ⟨r1, r2⟩
          rw [(lg_cmp_eq _ _).mp e] at this
          exact absurd this mwZ
      · exact hG.1 a (by omega) j hj
    · rw [en, ek, eG] at ne
      obtain ⟨i, hi, hm⟩ := mw_some (fun e => ne ((lg_cmp_eq _ _).mpr e))
      exact ⟨i, hi, mwA.mp hm⟩
def dpF (p1 : Int32) (e g : Nat) : Nat := if p1 = 0 then 0 else if p1 = 1 then e + 1 else if p1 = 2 ∨ p1 = 3 then max e g + 1 else g + 1
theorem dq1 : ∀ e, e < 40 → (if nI e < (-1 : Int32) then (-1 : Int32) else nI e) + 1 = nI (e + 1) := by decide +kernel
theorem dq2 : ∀ e, e < 40 → ∀ g, g < 40 → (if nI e < nI g then nI g else nI e) + 1 = nI (max e g + 1) := by decide +kernel
theorem dq4 : ∀ g, g < 40 → (if (-1 : Int32) < nI g then nI g else (-1 : Int32)) + 1 = nI (g + 1) := by decide +kernel
def PFS (pf : Nat → Int64) (n : Nat) (p1 p2 p3 : Int32) (P : Int64) : Prop := ∀ j, j < 64 → (mw P j = true ↔ j = n ∨ ((p1 = 1 ∨ p1 = 2 ∨ p1 = 3) ∧ mw (pf p2.toNatClampNeg) j = true) ∨ ((¬ p1 = 0 ∧ ¬ p1 = 1) ∧ mw (pf p3.toNatClampNeg) j = true))
theorem tX0_add {post : Int32 → (Nat → Int32) × (Nat → Int32) × (Nat → Int32) × (Nat → Int32) × (Nat → Int64) × (Nat → Int64) × Int32 → Prop} {kf ff sf df : Nat → Int32} {pf gf : Nat → Int64} {n e g : Nat} {p1 p2 p3 : Int32} (hn : n < 40) (hw : wfS n p1 p2 p3) (he : (p1 = 1 ∨ p1 = 2 ∨ p1 = 3) → e < 40 ∧ df p2.toNatClampNeg = nI e) (hg : ¬ p1 = 0 → ¬ p1 = 1 → g < 40 ∧ df p3.toNatClampNeg = nI g) (hp : ∀ P G, PFS pf n p1 p2 p3 P → GFS gf n p1 p2 P 6 G → post (nI n) (upd kf n p1, upd ff n p2, upd sf n p3, upd df n (nI (dpF p1 e g)), vp_updL pf n P, G, nI (n + 1))) : wX0_add post kf ff sf df pf gf (nI n) p1 p2 p3 := by
  have hb : vp_in (nI n) 40 := nI_in hn (by decide)
  have en : (nI n).toNatClampNeg = n := nI_clamp (by omega)
  have hn2 : n ≤ 40 := by omega
  have h159 : ∀ i7 P, PFS pf n p1 p2 p3 P → i7 + 1 = nI (dpF p1 e g) → wX0_add_C159 post kf ff sf df gf (nI n) p1 p2 p3 i7 (vp_updL pf (nI n).toNatClampNeg P) := fun i7 P hP e7 => by
    rw [en]
    refine ⟨7, tX0_add_L162 (gf := gf) hn hw (fun i G hG => ?_) 6 0 gf rfl ⟨fun a ha => absurd ha (Nat.not_lt_zero a), fun _ _ => rfl⟩⟩
    show post (nI n) (upd kf (nI n).toNatClampNeg p1, upd ff (nI n).toNatClampNeg p2, upd sf (nI n).toNatClampNeg p3, upd df (nI n).toNatClampNeg (i7 + (1 : Int32)), vp_updL pf n P, G, (nI n + (1 : Int32)))
    rw [en, ← nI_succ, e7]
    rw [ulAt] at hG
    exact hp P G hP hG
  have lt40 : nI n < (40 : Int32) := nI_lt hn (by decide)
  have b1 : ∀ j, j < 64 → (mw (jLshl (1 : Int64) (nI n)) j = true ↔ j = n) := fun j _ => (mwB (show n < 64 by omega)).trans ⟨fun q => q.symm, fun q => q.symm⟩
  obtain ⟨d, hd, hd2⟩ := hw.1
  subst hd2
  refine ⟨fun _ => ifN2 ?_, fun q => absurd lt40 q⟩
  rcases (show d = 0 ∨ d = 1 ∨ d = 2 ∨ d = 3 ∨ d = 4 ∨ d = 5 ∨ d = 6 ∨ d = 7 from by omega) with rfl | rfl | rfl | rfl | rfl | rfl | rfl | rfl
  · refine iF (by decide) (iF (by decide) (jF (by decide) (iT (by decide) ⟨hb, hb, hb, iT rfl (iT rfl (fun x hx => ⟨hb, iT rfl (iT rfl ⟨hb, h159 x _ (fun j hj => ?_) (by rw [hx]; exact (by decide : (if (-1 : Int32) < (-1 : Int32) then (-1 : Int32) else (-1 : Int32)) + 1 = nI 0))⟩)⟩))⟩)))
    rw [mwO, mwO, b1 j hj]
    exact ⟨fun q => q.elim (fun q => q.elim Or.inl (fun q => absurd q mwZ)) (fun q => absurd q mwZ), fun q => q.elim (fun q => Or.inl (Or.inl q)) (fun q => q.elim (fun q => absurd q.1 (by decide)) (fun q => absurd rfl q.1.1))⟩
  · obtain ⟨a, ha, ea⟩ := wf1.mp hw
    obtain ⟨he1, he2⟩ := he (Or.inl rfl)
    subst ea
    rw [nI_clamp (show a < 2 ^ 31 by omega)] at he2
    refine iT rfl (iT (by decide) ⟨hb, hb, hb, iF (by decide) (tX0_builtDeep ha hn2 (iT rfl (fun x hx => ⟨hb, iF (by decide) (tX0_partsOf ha hn2 (iT rfl ⟨hb, h159 x _ (fun j hj => ?_) (by rw [hx, he2]; exact dq1 e he1)⟩))⟩)))⟩)
    rw [mwO, mwO, b1 j hj, nI_clamp (show a < 2 ^ 31 by omega)]
    exact ⟨fun q => q.elim (fun q => q.elim Or.inl (fun q => Or.inr (Or.inl ⟨Or.inl rfl, q⟩))) (fun q => absurd q mwZ), fun q => q.elim (fun q => Or.inl (Or.inl q)) (fun q => q.elim (fun q => Or.inl (Or.inr q.2)) (fun q => absurd rfl q.1.2))⟩
  · obtain ⟨⟨a, ha, ea⟩, ⟨b, hb3, eb⟩⟩ := wf2.mp hw
    obtain ⟨he1, he2⟩ := he (Or.inr (Or.inl rfl))
    obtain ⟨hg1, hg2⟩ := hg (by decide) (by decide)
    subst ea eb
    rw [nI_clamp (show a < 2 ^ 31 by omega)] at he2
    rw [nI_clamp (show b < 2 ^ 31 by omega)] at hg2
    refine iF (by decide) (iT rfl (iF (by decide) ⟨hb, hb, hb, iF (by decide) (tX0_builtDeep ha hn2 (iF (by decide) (tX0_builtDeep hb3 hn2 ⟨hb, iF (by decide) (tX0_partsOf ha hn2 (iF (by decide) (tX0_partsOf hb3 hn2 ⟨hb, h159 _ _ (fun j hj => ?_) (by rw [he2, hg2]; exact dq2 e he1 g hg1)⟩)))⟩)))⟩))
    rw [mwO, mwO, b1 j hj, nI_clamp (show a < 2 ^ 31 by omega), nI_clamp (show b < 2 ^ 31 by omega)]
    exact ⟨fun q => q.elim (fun q => q.elim Or.inl (fun q => Or.inr (Or.inl ⟨Or.inr (Or.inl rfl), q⟩))) (fun q => Or.inr (Or.inr ⟨⟨by decide, by decide⟩, q⟩)), fun q => q.elim (fun q => Or.inl (Or.inl q)) (fun q => q.elim (fun q => Or.inl (Or.inr q.2)) (fun q => Or.inr q.2))⟩
  · obtain ⟨⟨a, ha, ea⟩, ⟨b, hb3, eb⟩⟩ := wf3.mp hw
    obtain ⟨he1, he2⟩ := he (Or.inr (Or.inr rfl))
    obtain ⟨hg1, hg2⟩ := hg (by decide) (by decide)
    subst ea eb
    rw [nI_clamp (show a < 2 ^ 31 by omega)] at he2
    rw [nI_clamp (show b < 2 ^ 31 by omega)] at hg2
    refine iF (by decide) (iF (by decide) (jT (by decide) (iF (by decide) ⟨hb, hb, hb, iF (by decide) (tX0_builtDeep ha hn2 (iF (by decide) (tX0_builtDeep hb3 hn2 ⟨hb, iF (by decide) (tX0_partsOf ha hn2 (iF (by decide) (tX0_partsOf hb3 hn2 ⟨hb, h159 _ _ (fun j hj => ?_) (by rw [he2, hg2]; exact dq2 e he1 g hg1)⟩)))⟩)))⟩)))
    rw [mwO, mwO, b1 j hj, nI_clamp (show a < 2 ^ 31 by omega), nI_clamp (show b < 2 ^ 31 by omega)]
    exact ⟨fun q => q.elim (fun q => q.elim Or.inl (fun q => Or.inr (Or.inl ⟨Or.inr (Or.inr rfl), q⟩))) (fun q => Or.inr (Or.inr ⟨⟨by decide, by decide⟩, q⟩)), fun q => q.elim (fun q => Or.inl (Or.inl q)) (fun q => q.elim (fun q => Or.inl (Or.inr q.2)) (fun q => Or.inr q.2))⟩
  · obtain ⟨⟨a, ha, ea⟩, ⟨b, hb3, eb⟩⟩ := wf4.mp hw
    obtain ⟨hg1, hg2⟩ := hg (by decide) (by decide)
    subst eb
    rw [nI_clamp (show b < 2 ^ 31 by omega)] at hg2
    refine iF (by decide) (iF (by decide) (jF (by decide) (iF (by decide) ⟨hb, hb, hb, iT rfl (iF (by decide) (tX0_builtDeep hb3 hn2 (fun x hx => ⟨hb, iT rfl (iF (by decide) (tX0_partsOf hb3 hn2 ⟨hb, h159 x _ (fun j hj => ?_) (by rw [hx, hg2]; exact dq4 g hg1)⟩))⟩)))⟩)))
    rw [mwO, mwO, b1 j hj, nI_clamp (show b < 2 ^ 31 by omega)]
    exact ⟨fun q => q.elim (fun q => q.elim Or.inl (fun q => absurd q mwZ)) (fun q => Or.inr (Or.inr ⟨⟨by decide, by decide⟩, q⟩)), fun q => q.elim (fun q => Or.inl (Or.inl q)) (fun q => q.elim (fun q => absurd q.1 (by decide)) (fun q => Or.inr q.2))⟩
  · obtain ⟨_, ⟨b, hb3, eb⟩⟩ := wf5.mp hw
    obtain ⟨hg1, hg2⟩ := hg (by decide) (by decide)
    subst eb
    rw [nI_clamp (show b < 2 ^ 31 by omega)] at hg2
    refine iF (by decide) (iF (by decide) (jF (by decide) (iF (by decide) ⟨hb, hb, hb, iT rfl (iF (by decide) (tX0_builtDeep hb3 hn2 (fun x hx => ⟨hb, iT rfl (iF (by decide) (tX0_partsOf hb3 hn2 ⟨hb, h159 x _ (fun j hj => ?_) (by rw [hx, hg2]; exact dq4 g hg1)⟩))⟩)))⟩)))
    rw [mwO, mwO, b1 j hj, nI_clamp (show b < 2 ^ 31 by omega)]
    exact ⟨fun q => q.elim (fun q => q.elim Or.inl (fun q => absurd q mwZ)) (fun q => Or.inr (Or.inr ⟨⟨by decide, by decide⟩, q⟩)), fun q => q.elim (fun q => Or.inl (Or.inl q)) (fun q => q.elim (fun q => absurd q.1 (by decide)) (fun q => Or.inr q.2))⟩
  · obtain ⟨_, ⟨b, hb3, eb⟩⟩ := wf6.mp hw
    obtain ⟨hg1, hg2⟩ := hg (by decide) (by decide)
    subst eb
    rw [nI_clamp (show b < 2 ^ 31 by omega)] at hg2
    refine iF (by decide) (iF (by decide) (jF (by decide) (iF (by decide) ⟨hb, hb, hb, iT rfl (iF (by decide) (tX0_builtDeep hb3 hn2 (fun x hx => ⟨hb, iT rfl (iF (by decide) (tX0_partsOf hb3 hn2 ⟨hb, h159 x _ (fun j hj => ?_) (by rw [hx, hg2]; exact dq4 g hg1)⟩))⟩)))⟩)))
    rw [mwO, mwO, b1 j hj, nI_clamp (show b < 2 ^ 31 by omega)]
    exact ⟨fun q => q.elim (fun q => q.elim Or.inl (fun q => absurd q mwZ)) (fun q => Or.inr (Or.inr ⟨⟨by decide, by decide⟩, q⟩)), fun q => q.elim (fun q => Or.inl (Or.inl q)) (fun q => q.elim (fun q => absurd q.1 (by decide)) (fun q => Or.inr q.2))⟩
  · obtain ⟨_, ⟨b, hb3, eb⟩⟩ := wf7.mp hw
    obtain ⟨hg1, hg2⟩ := hg (by decide) (by decide)
    subst eb
    rw [nI_clamp (show b < 2 ^ 31 by omega)] at hg2
    refine iF (by decide) (iF (by decide) (jF (by decide) (iF (by decide) ⟨hb, hb, hb, iT rfl (iF (by decide) (tX0_builtDeep hb3 hn2 (fun x hx => ⟨hb, iT rfl (iF (by decide) (tX0_partsOf hb3 hn2 ⟨hb, h159 x _ (fun j hj => ?_) (by rw [hx, hg2]; exact dq4 g hg1)⟩))⟩)))⟩)))
    rw [mwO, mwO, b1 j hj, nI_clamp (show b < 2 ^ 31 by omega)]
    exact ⟨fun q => q.elim (fun q => q.elim Or.inl (fun q => absurd q mwZ)) (fun q => Or.inr (Or.inr ⟨⟨by decide, by decide⟩, q⟩)), fun q => q.elim (fun q => Or.inl (Or.inl q)) (fun q => q.elim (fun q => absurd q.1 (by decide)) (fun q => Or.inr q.2))⟩
