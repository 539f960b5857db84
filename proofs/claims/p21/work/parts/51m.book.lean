/-! what the class's book keeps about parts and guards -/
def PRTC (kf ff sf : Nat → Int32) (k j : Nat) : Prop := ((kf k = 1 ∨ kf k = 2 ∨ kf k = 3) ∧ j = (ff k).toNatClampNeg) ∨ ((¬ kf k = 0 ∧ ¬ kf k = 1) ∧ j = (sf k).toNatClampNeg)
theorem PRTC.lt {kf ff sf : Nat → Int32} {n k j : Nat} (hB : BOK kf ff sf n) (hk : k < n) (h : PRTC kf ff sf k j) : j < k := by
  have hn := hB.1
  have hw := hB.2 k hk
  rcases h with ⟨q, rfl⟩ | ⟨q, rfl⟩
  · exact (hw.2.2.1 q).lt (by omega)
  · exact (hw.2.2.2.2.2 q.1 q.2).lt (by omega)
def HNG (kf ff sf : Nat → Int32) (pf gf : Nat → Int64) (n : Nat) : Prop := (∀ k, k < n → mw (pf k) k = true ∧ ∀ j, j < 64 → mw (pf k) j = true → j ≤ k ∧ ∀ i, PRTC kf ff sf j i → mw (pf k) i = true) ∧ ∀ g, g < 6 → (∀ j, j < 64 → mw (gf g) j = true → j < n) ∧ ∀ k, k < n → (NM (kf k) (ff k) g → mw (gf g) k = true) ∧ ∀ j, PRTC kf ff sf k j → mw (gf g) j = true → mw (gf g) k = true
theorem PRTC.old {kf ff sf : Nat → Int32} {n k : Nat} {a b c : Int32} (hk : ¬ k = n) {j : Nat} : PRTC (upd kf n a) (upd ff n b) (upd sf n c) k j ↔ PRTC kf ff sf k j := by
  unfold PRTC
  rw [updNe _ _ hk, updNe _ _ hk, updNe _ _ hk]
theorem PRTC.new {kf ff sf : Nat → Int32} {n : Nat} {a b c : Int32} {j : Nat} : PRTC (upd kf n a) (upd ff n b) (upd sf n c) n j ↔ ((a = 1 ∨ a = 2 ∨ a = 3) ∧ j = b.toNatClampNeg) ∨ ((¬ a = 0 ∧ ¬ a = 1) ∧ j = c.toNatClampNeg) := by
  unfold PRTC
  rw [updAt, updAt, updAt]
theorem HNG.push {kf ff sf : Nat → Int32} {pf gf G : Nat → Int64} {n : Nat} {a b c : Int32} {P : Int64} (hB : BOK kf ff sf n) (hw : wfS n a b c) (hn : n < 40) (h : HNG kf ff sf pf gf n) (hP : PFS pf n a b c P) (hG : GFS gf n a b P 6 G) : HNG (upd kf n a) (upd ff n b) (upd sf n c) (vp_updL pf n P) G (n + 1) := by
  obtain ⟨h1, h2⟩ := h
  have lb : (a = 1 ∨ a = 2 ∨ a = 3) → b.toNatClampNeg < n := fun q => (hw.2.2.1 q).lt (by omega)
  have lc : (¬ a = 0 ∧ ¬ a = 1) → c.toNatClampNeg < n := fun q => (hw.2.2.2.2.2 q.1 q.2).lt (by omega)
  have pin : ∀ i, ((a = 1 ∨ a = 2 ∨ a = 3) ∧ i = b.toNatClampNeg) ∨ ((¬ a = 0 ∧ ¬ a = 1) ∧ i = c.toNatClampNeg) → i < n ∧ mw P i = true := fun i q => by
    rcases q with ⟨q, rfl⟩ | ⟨q, rfl⟩
    · have l := lb q
      exact ⟨l, (hP _ (by omega)).mpr (Or.inr (Or.inl ⟨q, (h1 _ l).1⟩))⟩
    · have l := lc q
      exact ⟨l, (hP _ (by omega)).mpr (Or.inr (Or.inr ⟨q, (h1 _ l).1⟩))⟩
  refine ⟨fun k hk => ?_, fun g hg => ⟨fun j hj q => ?_, fun k hk => ?_⟩⟩
  · rcases Nat.lt_succ_iff_lt_or_eq.mp hk with e | e
    · rw [ulNe _ _ (by omega)]
      refine ⟨(h1 k e).1, fun j hj q => ?_⟩
      obtain ⟨l, r⟩ := (h1 k e).2 j hj q
      exact ⟨l, fun i t => r i ((PRTC.old (by omega)).mp t)⟩
    · subst e
      rw [ulAt]
      refine ⟨(hP k (by omega)).mpr (Or.inl rfl), fun j hj q => ?_⟩
      rcases (hP j hj).mp q with rfl | ⟨q1, q2⟩ | ⟨q1, q2⟩
      · exact ⟨Nat.le_refl j, fun i t => (pin i (PRTC.new.mp t)).2⟩
      · have l := lb q1
        obtain ⟨l2, r⟩ := (h1 _ l).2 j hj q2
        refine ⟨by omega, fun i t => ?_⟩
        have t2 := (PRTC.old (by omega)).mp t
        have := PRTC.lt hB (by omega) t2
        exact (hP i (by omega)).mpr (Or.inr (Or.inl ⟨q1, r i t2⟩))
      · have l := lc q1
        obtain ⟨l2, r⟩ := (h1 _ l).2 j hj q2
        refine ⟨by omega, fun i t => ?_⟩
        have t2 := (PRTC.old (by omega)).mp t
        have := PRTC.lt hB (by omega) t2
        exact (hP i (by omega)).mpr (Or.inr (Or.inr ⟨q1, r i t2⟩))
  · rcases (hG.1 g hg j hj).mp q with r | r
    · have := (h2 g hg).1 j hj r
      omega
    · omega
  · rcases Nat.lt_succ_iff_lt_or_eq.mp hk with e | e
    · rw [updNe _ _ (by omega), updNe _ _ (by omega)]
      obtain ⟨r1, r2⟩ := (h2 g hg).2 k e
      refine ⟨fun q => (hG.1 g hg k (by omega)).mpr (Or.inl (r1 q)), fun j t q => ?_⟩
      have t2 := (PRTC.old (by omega)).mp t
      have l := PRTC.lt hB e t2
      rcases (hG.1 g hg j (by omega)).mp q with s | s
      · exact (hG.1 g hg k (by omega)).mpr (Or.inl (r2 j t2 s))
      · omega
    · subst e
      rw [updAt, updAt]
      refine ⟨fun q => (hG.1 g hg k (by omega)).mpr (Or.inr ⟨rfl, Or.inl q⟩), fun j t q => ?_⟩
      obtain ⟨l, m⟩ := pin j (PRTC.new.mp t)
      rcases (hG.1 g hg j (by omega)).mp q with s | s
      · exact (hG.1 g hg k (by omega)).mpr (Or.inr ⟨rfl, Or.inr ⟨j, by omega, m, s⟩⟩)
      · omega
def DEPB (df : Nat → Int32) (sq : Nat → Nat → Int32) (n : Nat) : Prop := ∀ k, k < n → df k = sq k 3
theorem DEPB.push {df : Nat → Int32} {sq : Nat → Nat → Int32} {n : Nat} {a b c d : Int32} (h : DEPB df sq n) : DEPB (upd df n d) (upF sq n (row4 a b c d)) (n + 1) := fun k hk => by
  rcases Nat.lt_succ_iff_lt_or_eq.mp hk with e | e
  · rw [updNe _ _ (by omega), show upF sq n (row4 a b c d) k = sq k from by
      show (if k = n then row4 a b c d else sq k) = sq k
      rw [if_neg (by omega)]]
    exact h k e
  · subst e
    rw [updAt, show upF sq k (row4 a b c d) k = row4 a b c d from by
      show (if k = k then row4 a b c d else sq k) = row4 a b c d
      rw [if_pos rfl]]
    rfl
theorem partD {df : Nat → Int32} {sq : Nat → Nat → Int32} {n : Nat} {x : Int32} (hn : n ≤ 40) (hs : SOK n sq) (h : DEPB df sq n) (hx : IN x n) : ∃ e, e < 40 ∧ df x.toNatClampNeg = nI e ∧ sq x.toNatClampNeg 3 = nI e := by
  have l := hx.lt (n := n) (by omega)
  obtain ⟨-, d, d1, d2, -⟩ := hs _ l
  exact ⟨d, by omega, (h _ l).trans d2, d2⟩
theorem txL_say {post : Int32 → (Nat → Int32) × (Nat → Int32) × (Nat → Int32) × (Nat → Int32) × (Nat → Int64) × (Nat → Int64) × Int32 × (Nat → Int64) × Int64 → Prop} {dk wg : Nat → Int64} {op : Int64} {E : Nat → Nat → Nat → Bool} {kf ff sf df : Nat → Int32} {pf gf : Nat → Int64} {n : Nat} {sq : Nat → Nat → Int32} {on : Int64} {p1 p2 p3 : Int32} (hC : CD dk E) (hq : EQV E) (hB : BOK kf ff sf n) (hT : TRU op E kf ff sf n wg) (hs : SOK n sq) (hd : DEPB df sq n) (hh : HNG kf ff sf pf gf n) (h1 : wfS n p1 p2 p3 → n < 40 → ∀ d, (∀ d2, deepEX n sq p1 p2 p3 d2 → d2 = d) → ∀ pf2 gf2 wg2, HNG (upd kf n p1) (upd ff n p2) (upd sf n p3) pf2 gf2 (n + 1) → TRU op E (upd kf n p1) (upd ff n p2) (upd sf n p3) (n + 1) wg2 → post 0 (upd kf n p1, upd ff n p2, upd sf n p3, upd df n d, pf2, gf2, nI (n + 1), wg2, (nI n).toInt64)) (h2 : ¬ wfS n p1 p2 p3 → post 1 (kf, ff, sf, df, pf, gf, nI n, wg, on)) (h3 : wfS n p1 p2 p3 → n = 40 → post 2 (kf, ff, sf, df, pf, gf, nI n, wg, on)) : wxL_say post dk wg op kf ff sf df pf gf (nI n) on p1 p2 p3 := by
  have hn := hB.1
  unfold wxL_say wxX2_say
  refine tX0_fits hn (fun r z h => ⟨fun c => ?_, fun c => Or.inl ⟨rfl, h2 (fun q => absurd c (h.mpr q))⟩⟩)
  have hw := h.mp c
  refine ⟨fun b => ⟨fun _ => ?_, fun q => absurd rfl q⟩, fun b => ⟨fun q => absurd q (by decide), fun _ => Or.inr ⟨rfl, h3 hw (Nat.le_antisymm hn (Nat.le_of_not_lt (fun q => b (nI_lt q (by decide)))))⟩⟩⟩
  have hlt : n < 40 := (nILt (by omega) (by decide)).mp b
  obtain ⟨e, he⟩ : ∃ e, (p1 = 1 ∨ p1 = 2 ∨ p1 = 3) → e < 40 ∧ df p2.toNatClampNeg = nI e ∧ sq p2.toNatClampNeg 3 = nI e := by
    by_cases q : p1 = 1 ∨ p1 = 2 ∨ p1 = 3
    · obtain ⟨e, he⟩ := partD hn hs hd (hw.2.2.1 q)
      exact ⟨e, fun _ => he⟩
    · exact ⟨0, fun r => absurd r q⟩
  obtain ⟨g, hg⟩ : ∃ g, ¬ p1 = 0 → ¬ p1 = 1 → g < 40 ∧ df p3.toNatClampNeg = nI g ∧ sq p3.toNatClampNeg 3 = nI g := by
    by_cases q : ¬ p1 = 0 ∧ ¬ p1 = 1
    · obtain ⟨g, hg⟩ := partD hn hs hd (hw.2.2.2.2.2 q.1 q.2)
      exact ⟨g, fun _ _ => hg⟩
    · exact ⟨0, fun r s => absurd ⟨r, s⟩ q⟩
  refine tX0_add (e := e) (g := g) hlt hw (fun q => ⟨(he q).1, (he q).2.1⟩) (fun q r => ⟨(hg q r).1, (hg q r).2.1⟩) (fun P G hP hG => ?_)
  refine tX1_weigh (n := n + 1) hC hq (hB.push hlt hw) (fun s hs q => ?_) (fun wg2 a b => h1 hw hlt _ (fun d2 h => deepEX.eq hlt hw (fun q => ⟨(he q).1, (he q).2.2⟩) (fun q r => ⟨(hg q r).1, (hg q r).2.2⟩) h) _ _ wg2 (hh.push hB hw hlt hP hG) (TRU.new hB hw hlt hT (fun s hs => a s (by omega) (fun q => ?_)) ?_))
  · have := (mwB (show n < 64 by omega)).mp q
    omega
  · have := (mwB (show n < 64 by omega)).mp q
    omega
  · have t2 : SEM op E (upd kf n p1 n) (upd ff n p2 n) (upd sf n p3 n) wg2 (wg2 n) := b n hlt ((mwB (show n < 64 by omega)).mpr rfl)
    rw [updAt, updAt, updAt] at t2
    exact t2
