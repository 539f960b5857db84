theorem tsw_0_24 {x : Int32} (h0 : ¬ x = 0) (h1 : ¬ x = 1) (h2 : ¬ x = 2) (h3 : ¬ x = 3) (h4 : ¬ x = 4) (h5 : ¬ x = 5) (h6 : ¬ x = 6) (h7 : ¬ x = 7) (h8 : ¬ x = 8) (h9 : ¬ x = 9) (h10 : ¬ x = 10) (h11 : ¬ x = 11) (h12 : ¬ x = 12) (h13 : ¬ x = 13) (h14 : ¬ x = 14) (h15 : ¬ x = 15) (h16 : ¬ x = 16) (h17 : ¬ x = 17) (h18 : ¬ x = 18) (h19 : ¬ x = 19) (h20 : ¬ x = 20) (h21 : ¬ x = 21) (h22 : ¬ x = 22) (h23 : ¬ x = 23) (h24 : ¬ x = 24) : x.toInt < 0 ∨ 24 < x.toInt := by
  have e0 : x.toInt ≠ 0 := fun e => h0 (Int32.toInt_inj.mp (e.trans (by decide)))
  have e1 : x.toInt ≠ 1 := fun e => h1 (Int32.toInt_inj.mp (e.trans (by decide)))
  have e2 : x.toInt ≠ 2 := fun e => h2 (Int32.toInt_inj.mp (e.trans (by decide)))
  have e3 : x.toInt ≠ 3 := fun e => h3 (Int32.toInt_inj.mp (e.trans (by decide)))
  have e4 : x.toInt ≠ 4 := fun e => h4 (Int32.toInt_inj.mp (e.trans (by decide)))
  have e5 : x.toInt ≠ 5 := fun e => h5 (Int32.toInt_inj.mp (e.trans (by decide)))
  have e6 : x.toInt ≠ 6 := fun e => h6 (Int32.toInt_inj.mp (e.trans (by decide)))
  have e7 : x.toInt ≠ 7 := fun e => h7 (Int32.toInt_inj.mp (e.trans (by decide)))
  have e8 : x.toInt ≠ 8 := fun e => h8 (Int32.toInt_inj.mp (e.trans (by decide)))
  have e9 : x.toInt ≠ 9 := fun e => h9 (Int32.toInt_inj.mp (e.trans (by decide)))
  have e10 : x.toInt ≠ 10 := fun e => h10 (Int32.toInt_inj.mp (e.trans (by decide)))
  have e11 : x.toInt ≠ 11 := fun e => h11 (Int32.toInt_inj.mp (e.trans (by decide)))
  have e12 : x.toInt ≠ 12 := fun e => h12 (Int32.toInt_inj.mp (e.trans (by decide)))
  have e13 : x.toInt ≠ 13 := fun e => h13 (Int32.toInt_inj.mp (e.trans (by decide)))
  have e14 : x.toInt ≠ 14 := fun e => h14 (Int32.toInt_inj.mp (e.trans (by decide)))
  have e15 : x.toInt ≠ 15 := fun e => h15 (Int32.toInt_inj.mp (e.trans (by decide)))
  have e16 : x.toInt ≠ 16 := fun e => h16 (Int32.toInt_inj.mp (e.trans (by decide)))
  have e17 : x.toInt ≠ 17 := fun e => h17 (Int32.toInt_inj.mp (e.trans (by decide)))
  have e18 : x.toInt ≠ 18 := fun e => h18 (Int32.toInt_inj.mp (e.trans (by decide)))
  have e19 : x.toInt ≠ 19 := fun e => h19 (Int32.toInt_inj.mp (e.trans (by decide)))
  have e20 : x.toInt ≠ 20 := fun e => h20 (Int32.toInt_inj.mp (e.trans (by decide)))
  have e21 : x.toInt ≠ 21 := fun e => h21 (Int32.toInt_inj.mp (e.trans (by decide)))
  have e22 : x.toInt ≠ 22 := fun e => h22 (Int32.toInt_inj.mp (e.trans (by decide)))
  have e23 : x.toInt ≠ 23 := fun e => h23 (Int32.toInt_inj.mp (e.trans (by decide)))
  have e24 : x.toInt ≠ 24 := fun e => h24 (Int32.toInt_inj.mp (e.trans (by decide)))
  omega
/-- the sentences at the start: none -/
theorem slZero {G : GT} {sl je : Nat} {mcn : Int32} {W : va_W} {ad : List Nat} {s : State} {H : Heap} {locs : List Loc} (hW : W.map Prod.fst = ad) (hP : PP G (W ++ [(sl, .inr (2, [.int mcn, .ref je, .int 0]))]) H) (hD : va_D (fun q : Nat => s.heap.size ≤ q) (W ++ [(sl, .inr (2, [.int mcn, .ref je, .int 0]))])) (hS : va_S (fun q : Nat => s.heap.size ≤ q) s.heap H locs) (hZ : ZE je (fun q : Nat => s.heap.size ≤ q) s s.heap) : SL G sl 0 (fun _ => 0) (fun _ _ => 0) (fun q : Nat => s.heap.size ≤ q) (BL ad H) s H := by
  have g0 : (W ++ [(sl, .inr (2, [.int mcn, .ref je, .int 0]))] : va_W)[W.length]? = some (sl, .inr (2, [.int mcn, .ref je, .int 0])) := by simp
  have hsl := hD.2 _ _ g0
  have had : ∀ q, q ∈ ad → ∃ (j : Nat) (r : Nat × va_E), j < W.length ∧ (W ++ [(sl, .inr (2, [.int mcn, .ref je, .int 0]))] : va_W)[j]? = some r ∧ r.1 = q := by
    intro q hq
    rw [← hW] at hq
    obtain ⟨r, hr, e⟩ := List.mem_map.mp hq
    obtain ⟨j, hj, hj2⟩ := List.mem_iff_getElem.mp hr
    exact ⟨j, r, hj, by rw [List.getElem?_append_left hj, List.getElem?_eq_getElem hj, hj2], e⟩
  refine ⟨je, mcn, ⟨hP.sub [W.length] (by simp [nI_0]), ?_⟩, hsl, fun k hk => absurd hk (Nat.not_lt_zero k), fun _ => (hZ.kept hS.2.1).narrow (fun q hq => ?_), fun h => absurd h (Nat.lt_irrefl 0)⟩
  · rintro (h | h)
    · obtain ⟨j, r, hj, h1, h2⟩ := had sl h
      have := hD.1 _ _ _ _ h1 g0 h2
      omega
    · exact Nat.not_lt.mpr h (vx_lt hP g0)
  · rcases hq with (h | h) | h
    · obtain ⟨j, r, hj, h1, h2⟩ := had q h
      exact h2 ▸ hD.2 _ _ h1
    · exact Nat.le_trans hS.1 h
    · exact h ▸ hsl
def wBody (post : LPost) (tA : Int32) (wP : Int32) (nT : Int32) (aK : Int32) (lK : Int32) (sW : Int32) (rF : Int32) (dk : Nat → Int64) (wg : Nat → Int64) (op : Int64) (re : Int32) (uk : Nat → Int64) (uw : Nat → Int64) (uo : Int64) (ur : Int32) (vk : Nat → Int64) (vw : Nat → Int64) (vo : Int64) (vr : Int32) (kf : Nat → Int32) (ff : Nat → Int32) (sf : Nat → Int32) (df : Nat → Int32) (pf : Nat → Int64) (gf : Nat → Int64) (bn : Int32) (on : Int64) (od : UInt64) (os : Option Nat) (th : Int32) (mr : Int32) (po : Int64) (mf : Int32) (sp : Int32) (DD : Nat → Nat → Int32) (ctf : Nat → Int32) (stf : Nat → Int32) (fsf : Nat → Int32) (jnf : Nat → Int32) (rwf : Nat → Int32) (fdf : Nat → Int64) (aff : Nat → Int32) (KP : Nat → Nat → Int32) (sn : Nat) (sq : Nat → Nat → Int32) (xs : Nat → Int32) (L : Nat) (i4 : Int32) : Prop :=
  vp_in i4 L ∧
  (((xs i4.toNatClampNeg) &&& (31 : Int32)) = 0 →
    wlc_0 post tA wP nT aK lK sW rF dk wg op re uk uw uo ur vk vw vo vr kf ff sf df pf gf bn on od os th mr po mf sp DD ctf stf fsf jnf rwf fdf aff KP sn sq xs L i4
  ) ∧ (¬ ((xs i4.toNatClampNeg) &&& (31 : Int32)) = 0 →
  (((xs i4.toNatClampNeg) &&& (31 : Int32)) = 1 →
    wlc_1 post tA wP nT aK lK sW rF dk wg op re uk uw uo ur vk vw vo vr kf ff sf df pf gf bn on od os th mr po mf sp DD ctf stf fsf jnf rwf fdf aff KP sn sq xs L i4
  ) ∧ (¬ ((xs i4.toNatClampNeg) &&& (31 : Int32)) = 1 →
  (((xs i4.toNatClampNeg) &&& (31 : Int32)) = 2 →
    wlc_2 post tA wP nT aK lK sW rF dk wg op re uk uw uo ur vk vw vo vr kf ff sf df pf gf bn on od os th mr po mf sp DD ctf stf fsf jnf rwf fdf aff KP sn sq xs L i4
  ) ∧ (¬ ((xs i4.toNatClampNeg) &&& (31 : Int32)) = 2 →
  (((xs i4.toNatClampNeg) &&& (31 : Int32)) = 3 →
    wlc_3 post tA wP nT aK lK sW rF dk wg op re uk uw uo ur vk vw vo vr kf ff sf df pf gf bn on od os th mr po mf sp DD ctf stf fsf jnf rwf fdf aff KP sn sq xs L i4
  ) ∧ (¬ ((xs i4.toNatClampNeg) &&& (31 : Int32)) = 3 →
  (((xs i4.toNatClampNeg) &&& (31 : Int32)) = 4 →
    wlc_4 post tA wP nT aK lK sW rF dk wg op re uk uw uo ur vk vw vo vr kf ff sf df pf gf bn on od os th mr po mf sp DD ctf stf fsf jnf rwf fdf aff KP sn sq xs L i4
  ) ∧ (¬ ((xs i4.toNatClampNeg) &&& (31 : Int32)) = 4 →
  (((xs i4.toNatClampNeg) &&& (31 : Int32)) = 5 →
    wlc_5 post tA wP nT aK lK sW rF dk wg op re uk uw uo ur vk vw vo vr kf ff sf df pf gf bn on od os th mr po mf sp DD ctf stf fsf jnf rwf fdf aff KP sn sq xs L i4
  ) ∧ (¬ ((xs i4.toNatClampNeg) &&& (31 : Int32)) = 5 →
  (((xs i4.toNatClampNeg) &&& (31 : Int32)) = 6 →
    wlc_6 post tA wP nT aK lK sW rF dk wg op re uk uw uo ur vk vw vo vr kf ff sf df pf gf bn on od os th mr po mf sp DD ctf stf fsf jnf rwf fdf aff KP sn sq xs L i4
  ) ∧ (¬ ((xs i4.toNatClampNeg) &&& (31 : Int32)) = 6 →
  (((xs i4.toNatClampNeg) &&& (31 : Int32)) = 7 →
    wlc_7 post tA wP nT aK lK sW rF dk wg op re uk uw uo ur vk vw vo vr kf ff sf df pf gf bn on od os th mr po mf sp DD ctf stf fsf jnf rwf fdf aff KP sn sq xs L i4
  ) ∧ (¬ ((xs i4.toNatClampNeg) &&& (31 : Int32)) = 7 →
  (((xs i4.toNatClampNeg) &&& (31 : Int32)) = 8 →
    wlc_8 post tA wP nT aK lK sW rF dk wg op re uk uw uo ur vk vw vo vr kf ff sf df pf gf bn on od os th mr po mf sp DD ctf stf fsf jnf rwf fdf aff KP sn sq xs L i4
  ) ∧ (¬ ((xs i4.toNatClampNeg) &&& (31 : Int32)) = 8 →
  (((xs i4.toNatClampNeg) &&& (31 : Int32)) = 9 →
    wlc_9 post tA wP nT aK lK sW rF dk wg op re uk uw uo ur vk vw vo vr kf ff sf df pf gf bn on od os th mr po mf sp DD ctf stf fsf jnf rwf fdf aff KP sn sq xs L i4
  ) ∧ (¬ ((xs i4.toNatClampNeg) &&& (31 : Int32)) = 9 →
  (((xs i4.toNatClampNeg) &&& (31 : Int32)) = 10 →
    wlc_10 post tA wP nT aK lK sW rF dk wg op re uk uw uo ur vk vw vo vr kf ff sf df pf gf bn on od os th mr po mf sp DD ctf stf fsf jnf rwf fdf aff KP sn sq xs L i4
  ) ∧ (¬ ((xs i4.toNatClampNeg) &&& (31 : Int32)) = 10 →
  (((xs i4.toNatClampNeg) &&& (31 : Int32)) = 11 →
    wlc_11 post tA wP nT aK lK sW rF dk wg op re uk uw uo ur vk vw vo vr kf ff sf df pf gf bn on od os th mr po mf sp DD ctf stf fsf jnf rwf fdf aff KP sn sq xs L i4
  ) ∧ (¬ ((xs i4.toNatClampNeg) &&& (31 : Int32)) = 11 →
  (((xs i4.toNatClampNeg) &&& (31 : Int32)) = 12 →
    wlc_12 post tA wP nT aK lK sW rF dk wg op re uk uw uo ur vk vw vo vr kf ff sf df pf gf bn on od os th mr po mf sp DD ctf stf fsf jnf rwf fdf aff KP sn sq xs L i4
  ) ∧ (¬ ((xs i4.toNatClampNeg) &&& (31 : Int32)) = 12 →
  (((xs i4.toNatClampNeg) &&& (31 : Int32)) = 13 →
    wlc_13 post tA wP nT aK lK sW rF dk wg op re uk uw uo ur vk vw vo vr kf ff sf df pf gf bn on od os th mr po mf sp DD ctf stf fsf jnf rwf fdf aff KP sn sq xs L i4
  ) ∧ (¬ ((xs i4.toNatClampNeg) &&& (31 : Int32)) = 13 →
  (((xs i4.toNatClampNeg) &&& (31 : Int32)) = 14 →
    wlc_14 post tA wP nT aK lK sW rF dk wg op re uk uw uo ur vk vw vo vr kf ff sf df pf gf bn on od os th mr po mf sp DD ctf stf fsf jnf rwf fdf aff KP sn sq xs L i4
  ) ∧ (¬ ((xs i4.toNatClampNeg) &&& (31 : Int32)) = 14 →
  (((xs i4.toNatClampNeg) &&& (31 : Int32)) = 15 →
    wlc_15 post tA wP nT aK lK sW rF dk wg op re uk uw uo ur vk vw vo vr kf ff sf df pf gf bn on od os th mr po mf sp DD ctf stf fsf jnf rwf fdf aff KP sn sq xs L i4
  ) ∧ (¬ ((xs i4.toNatClampNeg) &&& (31 : Int32)) = 15 →
  (((xs i4.toNatClampNeg) &&& (31 : Int32)) = 16 →
    wlc_16 post tA wP nT aK lK sW rF dk wg op re uk uw uo ur vk vw vo vr kf ff sf df pf gf bn on od os th mr po mf sp DD ctf stf fsf jnf rwf fdf aff KP sn sq xs L i4
  ) ∧ (¬ ((xs i4.toNatClampNeg) &&& (31 : Int32)) = 16 →
  (((xs i4.toNatClampNeg) &&& (31 : Int32)) = 17 →
    wlc_17 post tA wP nT aK lK sW rF dk wg op re uk uw uo ur vk vw vo vr kf ff sf df pf gf bn on od os th mr po mf sp DD ctf stf fsf jnf rwf fdf aff KP sn sq xs L i4
  ) ∧ (¬ ((xs i4.toNatClampNeg) &&& (31 : Int32)) = 17 →
  (((xs i4.toNatClampNeg) &&& (31 : Int32)) = 18 →
    wlc_18 post tA wP nT aK lK sW rF dk wg op re uk uw uo ur vk vw vo vr kf ff sf df pf gf bn on od os th mr po mf sp DD ctf stf fsf jnf rwf fdf aff KP sn sq xs L i4
  ) ∧ (¬ ((xs i4.toNatClampNeg) &&& (31 : Int32)) = 18 →
  (((xs i4.toNatClampNeg) &&& (31 : Int32)) = 19 →
    wlc_19 post tA wP nT aK lK sW rF dk wg op re uk uw uo ur vk vw vo vr kf ff sf df pf gf bn on od os th mr po mf sp DD ctf stf fsf jnf rwf fdf aff KP sn sq xs L i4
  ) ∧ (¬ ((xs i4.toNatClampNeg) &&& (31 : Int32)) = 19 →
  (((xs i4.toNatClampNeg) &&& (31 : Int32)) = 20 →
    wlc_20 post tA wP nT aK lK sW rF dk wg op re uk uw uo ur vk vw vo vr kf ff sf df pf gf bn on od os th mr po mf sp DD ctf stf fsf jnf rwf fdf aff KP sn sq xs L i4
  ) ∧ (¬ ((xs i4.toNatClampNeg) &&& (31 : Int32)) = 20 →
  (((xs i4.toNatClampNeg) &&& (31 : Int32)) = 21 →
    wlc_21 post tA wP nT aK lK sW rF dk wg op re uk uw uo ur vk vw vo vr kf ff sf df pf gf bn on od os th mr po mf sp DD ctf stf fsf jnf rwf fdf aff KP sn sq xs L i4
  ) ∧ (¬ ((xs i4.toNatClampNeg) &&& (31 : Int32)) = 21 →
  (((xs i4.toNatClampNeg) &&& (31 : Int32)) = 22 →
    wlc_22 post tA wP nT aK lK sW rF dk wg op re uk uw uo ur vk vw vo vr kf ff sf df pf gf bn on od os th mr po mf sp DD ctf stf fsf jnf rwf fdf aff KP sn sq xs L i4
  ) ∧ (¬ ((xs i4.toNatClampNeg) &&& (31 : Int32)) = 22 →
  (((xs i4.toNatClampNeg) &&& (31 : Int32)) = 23 →
    wlc_23 post tA wP nT aK lK sW rF dk wg op re uk uw uo ur vk vw vo vr kf ff sf df pf gf bn on od os th mr po mf sp DD ctf stf fsf jnf rwf fdf aff KP sn sq xs L i4
  ) ∧ (¬ ((xs i4.toNatClampNeg) &&& (31 : Int32)) = 23 →
  (((xs i4.toNatClampNeg) &&& (31 : Int32)) = 24 →
    wlc_24 post tA wP nT aK lK sW rF dk wg op re uk uw uo ur vk vw vo vr kf ff sf df pf gf bn on od os th mr po mf sp DD ctf stf fsf jnf rwf fdf aff KP sn sq xs L i4
  ) ∧ (¬ ((xs i4.toNatClampNeg) &&& (31 : Int32)) = 24 →
    post tA wP nT aK lK sW rF dk wg op re uk uw uo ur vk vw vo vr kf ff sf df pf gf bn on od th mr po mf sp DD ctf stf fsf jnf rwf fdf aff KP sn sq
  )))))))))))))))))))))))))
set_option maxHeartbeats 4000000 in
set_option maxRecDepth 100000 in
theorem lbody {post : LPost} {p : Program} {e : Env} {s : State} {m : MethodId} {below : List Frame} {meth : Method} {c : Code} {b L : Nat} {xs : Nat → Int32} (l : Launch) (hfl : l.stackTraces = false) (G : GT) (x0 : Nat) (s0 : Nat) (s1 : Nat) (s2 : Nat) (u0 : Nat) (u1 : Nat) (u2 : Nat) (v0 : Nat) (v1 : Nat) (v2 : Nat) (b0 : Nat) (b1 : Nat) (b2 : Nat) (b3 : Nat) (b4 : Nat) (b5 : Nat) (b6 : Nat) (o0 : Nat) (m0 : Nat) (dO : Nat) (sl : Nat) (ct0 : Nat) (st0 : Nat) (fs0 : Nat) (jn0 : Nat) (rw0 : Nat) (fd0 : Nat) (af0 : Nat) (kO : Nat) (dr : Nat → Nat) (kr : Nat → Nat) (sa : Nat → Nat) (tA : Int32) (wP : Int32) (nT : Int32) (aK : Int32) (lK : Int32) (sW : Int32) (rF : Int32) (dk : Nat → Int64) (wg : Nat → Int64) (op : Int64) (re : Int32) (uk : Nat → Int64) (uw : Nat → Int64) (uo : Int64) (ur : Int32) (vk : Nat → Int64) (vw : Nat → Int64) (vo : Int64) (vr : Int32) (kf : Nat → Int32) (ff : Nat → Int32) (sf : Nat → Int32) (df : Nat → Int32) (pf : Nat → Int64) (gf : Nat → Int64) (bn : Int32) (on : Int64) (od : UInt64) (os : Option Nat) (th : Int32) (mr : Int32) (po : Int64) (mf : Int32) (sp : Int32) (DD : Nat → Nat → Int32) (ctf : Nat → Int32) (stf : Nat → Int32) (fsf : Nat → Int32) (jnf : Nat → Int32) (rwf : Nat → Int32) (fdf : Nat → Int64) (aff : Nat → Int32) (KP : Nat → Nat → Int32) (sn : Nat) (sq : Nat → Nat → Int32) (i4 : Int32) (C0 : lw_At p s m meth c b L xs) (hKK : KK G s) (hZ : ZZ (fun q : Nat => s.heap.size ≤ q) s s.heap) (hJ : JJ G (fun q : Nat => s.heap.size ≤ q) s s.heap) {cl st : Nat} (hcl : cl + 1100 ≤ 600900) (hsl : st + 10700 ≤ 5493000) {H : Heap} {locs : List Loc} {ls : Array Slot} (hl : lv_has ls 8 [(0, .ref b), (1, .ref x0), (2, .ref m0), (3, .ref o0), (4, .int i4)]) (hP : PP G [(x0, .inr (5, [.ref b0, .ref s0, .ref u0, .ref v0, .int tA, .int wP, .int nT, .int aK, .int lK, .int sW, .int rF])), (s0, .inr (4, [.ref b0, .ref s1, .ref s2, .long op, .int re])), (s1, .inl (G.2 1, 384, .inr (.inl dk))), (s2, .inl (G.2 1, 40, .inr (.inl wg))), (u0, .inr (4, [.ref b0, .ref u1, .ref u2, .long uo, .int ur])), (u1, .inl (G.2 1, 384, .inr (.inl uk))), (u2, .inl (G.2 1, 40, .inr (.inl uw))), (v0, .inr (4, [.ref b0, .ref v1, .ref v2, .long vo, .int vr])), (v1, .inl (G.2 1, 384, .inr (.inl vk))), (v2, .inl (G.2 1, 40, .inr (.inl vw))), (b0, .inr (3, [.ref b1, .ref b2, .ref b3, .ref b4, .ref b5, .ref b6, .int bn])), (b1, .inl (G.2 0, 40, .inl kf)), (b2, .inl (G.2 0, 40, .inl ff)), (b3, .inl (G.2 0, 40, .inl sf)), (b4, .inl (G.2 0, 40, .inl df)), (b5, .inl (G.2 1, 40, .inr (.inl pf))), (b6, .inl (G.2 1, 6, .inr (.inl gf))), (o0, .inr (6, [.long on, .double od, va_rf os])), (m0, .inr (7, [.int th, .int mr, .long po, .ref dO, .ref sl, .ref ct0, .int mf, .int sp, .ref st0, .ref fs0, .ref jn0, .ref rw0, .ref fd0, .ref af0, .ref kO])), (dO, .inl (G.2 4, 6, .inr (.inr (.inr (.inr (fun k => if k < 6 then some (dr k) else none)))))), (dr 0, .inl (G.2 0, 64, .inl (DD 0))), (dr 1, .inl (G.2 0, 64, .inl (DD 1))), (dr 2, .inl (G.2 0, 64, .inl (DD 2))), (dr 3, .inl (G.2 0, 64, .inl (DD 3))), (dr 4, .inl (G.2 0, 64, .inl (DD 4))), (dr 5, .inl (G.2 0, 64, .inl (DD 5))), (ct0, .inl (G.2 0, 6, .inl ctf)), (st0, .inl (G.2 0, 4096, .inl stf)), (fs0, .inl (G.2 0, 4096, .inl fsf)), (jn0, .inl (G.2 0, 64, .inl jnf)), (rw0, .inl (G.2 0, 64, .inl rwf)), (fd0, .inl (G.2 1, 40, .inr (.inl fdf))), (af0, .inl (G.2 3, 40, .inl aff)), (kO, .inl (G.2 4, 4, .inr (.inr (.inr (.inr (fun k => if k < 4 then some (kr k) else none)))))), (kr 0, .inl (G.2 0, 64, .inl (KP 0))), (kr 1, .inl (G.2 0, 64, .inl (KP 1))), (kr 2, .inl (G.2 0, 64, .inl (KP 2))), (kr 3, .inl (G.2 0, 64, .inl (KP 3)))] H) (hD : va_D (fun q : Nat => s.heap.size ≤ q) [(x0, .inr (5, [.ref b0, .ref s0, .ref u0, .ref v0, .int tA, .int wP, .int nT, .int aK, .int lK, .int sW, .int rF])), (s0, .inr (4, [.ref b0, .ref s1, .ref s2, .long op, .int re])), (s1, .inl (G.2 1, 384, .inr (.inl dk))), (s2, .inl (G.2 1, 40, .inr (.inl wg))), (u0, .inr (4, [.ref b0, .ref u1, .ref u2, .long uo, .int ur])), (u1, .inl (G.2 1, 384, .inr (.inl uk))), (u2, .inl (G.2 1, 40, .inr (.inl uw))), (v0, .inr (4, [.ref b0, .ref v1, .ref v2, .long vo, .int vr])), (v1, .inl (G.2 1, 384, .inr (.inl vk))), (v2, .inl (G.2 1, 40, .inr (.inl vw))), (b0, .inr (3, [.ref b1, .ref b2, .ref b3, .ref b4, .ref b5, .ref b6, .int bn])), (b1, .inl (G.2 0, 40, .inl kf)), (b2, .inl (G.2 0, 40, .inl ff)), (b3, .inl (G.2 0, 40, .inl sf)), (b4, .inl (G.2 0, 40, .inl df)), (b5, .inl (G.2 1, 40, .inr (.inl pf))), (b6, .inl (G.2 1, 6, .inr (.inl gf))), (o0, .inr (6, [.long on, .double od, va_rf os])), (m0, .inr (7, [.int th, .int mr, .long po, .ref dO, .ref sl, .ref ct0, .int mf, .int sp, .ref st0, .ref fs0, .ref jn0, .ref rw0, .ref fd0, .ref af0, .ref kO])), (dO, .inl (G.2 4, 6, .inr (.inr (.inr (.inr (fun k => if k < 6 then some (dr k) else none)))))), (dr 0, .inl (G.2 0, 64, .inl (DD 0))), (dr 1, .inl (G.2 0, 64, .inl (DD 1))), (dr 2, .inl (G.2 0, 64, .inl (DD 2))), (dr 3, .inl (G.2 0, 64, .inl (DD 3))), (dr 4, .inl (G.2 0, 64, .inl (DD 4))), (dr 5, .inl (G.2 0, 64, .inl (DD 5))), (ct0, .inl (G.2 0, 6, .inl ctf)), (st0, .inl (G.2 0, 4096, .inl stf)), (fs0, .inl (G.2 0, 4096, .inl fsf)), (jn0, .inl (G.2 0, 64, .inl jnf)), (rw0, .inl (G.2 0, 64, .inl rwf)), (fd0, .inl (G.2 1, 40, .inr (.inl fdf))), (af0, .inl (G.2 3, 40, .inl aff)), (kO, .inl (G.2 4, 4, .inr (.inr (.inr (.inr (fun k => if k < 4 then some (kr k) else none)))))), (kr 0, .inl (G.2 0, 64, .inl (KP 0))), (kr 1, .inl (G.2 0, 64, .inl (KP 1))), (kr 2, .inl (G.2 0, 64, .inl (KP 2))), (kr 3, .inl (G.2 0, 64, .inl (KP 3)))]) (hS : va_S (fun q : Nat => s.heap.size ≤ q) s.heap H locs) (hSL : SL G sl sn sa sq (fun q : Nat => s.heap.size ≤ q) (BL [x0, s0, s1, s2, u0, u1, u2, v0, v1, v2, b0, b1, b2, b3, b4, b5, b6, o0, m0, dO, dr 0, dr 1, dr 2, dr 3, dr 4, dr 5, ct0, st0, fs0, jn0, rw0, fd0, af0, kO, kr 0, kr 1, kr 2, kr 3] H) s H) (kk : ∀ (tA : Int32) (wP : Int32) (nT : Int32) (aK : Int32) (lK : Int32) (sW : Int32) (rF : Int32) (dk : Nat → Int64) (wg : Nat → Int64) (op : Int64) (re : Int32) (uk : Nat → Int64) (uw : Nat → Int64) (uo : Int64) (ur : Int32) (vk : Nat → Int64) (vw : Nat → Int64) (vo : Int64) (vr : Int32) (kf : Nat → Int32) (ff : Nat → Int32) (sf : Nat → Int32) (df : Nat → Int32) (pf : Nat → Int64) (gf : Nat → Int64) (bn : Int32) (on : Int64) (od : UInt64) (os : Option Nat) (th : Int32) (mr : Int32) (po : Int64) (mf : Int32) (sp : Int32) (DD : Nat → Nat → Int32) (ctf : Nat → Int32) (stf : Nat → Int32) (fsf : Nat → Int32) (jnf : Nat → Int32) (rwf : Nat → Int32) (fdf : Nat → Int64) (aff : Nat → Int32) (KP : Nat → Nat → Int32) (sn : Nat) (sa : Nat → Nat) (sq : Nat → Nat → Int32), post tA wP nT aK lK sW rF dk wg op re uk uw uo ur vk vw vo vr kf ff sf df pf gf bn on od th mr po mf sp DD ctf stf fsf jnf rwf fdf aff KP sn sq → ∀ (ls : Array Slot) (H : Heap) (locs : List Loc), lv_has ls 8 [(0, .ref b), (1, .ref x0), (2, .ref m0), (3, .ref o0), (4, .int i4)] → PP G [(x0, .inr (5, [.ref b0, .ref s0, .ref u0, .ref v0, .int tA, .int wP, .int nT, .int aK, .int lK, .int sW, .int rF])), (s0, .inr (4, [.ref b0, .ref s1, .ref s2, .long op, .int re])), (s1, .inl (G.2 1, 384, .inr (.inl dk))), (s2, .inl (G.2 1, 40, .inr (.inl wg))), (u0, .inr (4, [.ref b0, .ref u1, .ref u2, .long uo, .int ur])), (u1, .inl (G.2 1, 384, .inr (.inl uk))), (u2, .inl (G.2 1, 40, .inr (.inl uw))), (v0, .inr (4, [.ref b0, .ref v1, .ref v2, .long vo, .int vr])), (v1, .inl (G.2 1, 384, .inr (.inl vk))), (v2, .inl (G.2 1, 40, .inr (.inl vw))), (b0, .inr (3, [.ref b1, .ref b2, .ref b3, .ref b4, .ref b5, .ref b6, .int bn])), (b1, .inl (G.2 0, 40, .inl kf)), (b2, .inl (G.2 0, 40, .inl ff)), (b3, .inl (G.2 0, 40, .inl sf)), (b4, .inl (G.2 0, 40, .inl df)), (b5, .inl (G.2 1, 40, .inr (.inl pf))), (b6, .inl (G.2 1, 6, .inr (.inl gf))), (o0, .inr (6, [.long on, .double od, va_rf os])), (m0, .inr (7, [.int th, .int mr, .long po, .ref dO, .ref sl, .ref ct0, .int mf, .int sp, .ref st0, .ref fs0, .ref jn0, .ref rw0, .ref fd0, .ref af0, .ref kO])), (dO, .inl (G.2 4, 6, .inr (.inr (.inr (.inr (fun k => if k < 6 then some (dr k) else none)))))), (dr 0, .inl (G.2 0, 64, .inl (DD 0))), (dr 1, .inl (G.2 0, 64, .inl (DD 1))), (dr 2, .inl (G.2 0, 64, .inl (DD 2))), (dr 3, .inl (G.2 0, 64, .inl (DD 3))), (dr 4, .inl (G.2 0, 64, .inl (DD 4))), (dr 5, .inl (G.2 0, 64, .inl (DD 5))), (ct0, .inl (G.2 0, 6, .inl ctf)), (st0, .inl (G.2 0, 4096, .inl stf)), (fs0, .inl (G.2 0, 4096, .inl fsf)), (jn0, .inl (G.2 0, 64, .inl jnf)), (rw0, .inl (G.2 0, 64, .inl rwf)), (fd0, .inl (G.2 1, 40, .inr (.inl fdf))), (af0, .inl (G.2 3, 40, .inl aff)), (kO, .inl (G.2 4, 4, .inr (.inr (.inr (.inr (fun k => if k < 4 then some (kr k) else none)))))), (kr 0, .inl (G.2 0, 64, .inl (KP 0))), (kr 1, .inl (G.2 0, 64, .inl (KP 1))), (kr 2, .inl (G.2 0, 64, .inl (KP 2))), (kr 3, .inl (G.2 0, 64, .inl (KP 3)))] H → va_D (fun q : Nat => s.heap.size ≤ q) [(x0, .inr (5, [.ref b0, .ref s0, .ref u0, .ref v0, .int tA, .int wP, .int nT, .int aK, .int lK, .int sW, .int rF])), (s0, .inr (4, [.ref b0, .ref s1, .ref s2, .long op, .int re])), (s1, .inl (G.2 1, 384, .inr (.inl dk))), (s2, .inl (G.2 1, 40, .inr (.inl wg))), (u0, .inr (4, [.ref b0, .ref u1, .ref u2, .long uo, .int ur])), (u1, .inl (G.2 1, 384, .inr (.inl uk))), (u2, .inl (G.2 1, 40, .inr (.inl uw))), (v0, .inr (4, [.ref b0, .ref v1, .ref v2, .long vo, .int vr])), (v1, .inl (G.2 1, 384, .inr (.inl vk))), (v2, .inl (G.2 1, 40, .inr (.inl vw))), (b0, .inr (3, [.ref b1, .ref b2, .ref b3, .ref b4, .ref b5, .ref b6, .int bn])), (b1, .inl (G.2 0, 40, .inl kf)), (b2, .inl (G.2 0, 40, .inl ff)), (b3, .inl (G.2 0, 40, .inl sf)), (b4, .inl (G.2 0, 40, .inl df)), (b5, .inl (G.2 1, 40, .inr (.inl pf))), (b6, .inl (G.2 1, 6, .inr (.inl gf))), (o0, .inr (6, [.long on, .double od, va_rf os])), (m0, .inr (7, [.int th, .int mr, .long po, .ref dO, .ref sl, .ref ct0, .int mf, .int sp, .ref st0, .ref fs0, .ref jn0, .ref rw0, .ref fd0, .ref af0, .ref kO])), (dO, .inl (G.2 4, 6, .inr (.inr (.inr (.inr (fun k => if k < 6 then some (dr k) else none)))))), (dr 0, .inl (G.2 0, 64, .inl (DD 0))), (dr 1, .inl (G.2 0, 64, .inl (DD 1))), (dr 2, .inl (G.2 0, 64, .inl (DD 2))), (dr 3, .inl (G.2 0, 64, .inl (DD 3))), (dr 4, .inl (G.2 0, 64, .inl (DD 4))), (dr 5, .inl (G.2 0, 64, .inl (DD 5))), (ct0, .inl (G.2 0, 6, .inl ctf)), (st0, .inl (G.2 0, 4096, .inl stf)), (fs0, .inl (G.2 0, 4096, .inl fsf)), (jn0, .inl (G.2 0, 64, .inl jnf)), (rw0, .inl (G.2 0, 64, .inl rwf)), (fd0, .inl (G.2 1, 40, .inr (.inl fdf))), (af0, .inl (G.2 3, 40, .inl aff)), (kO, .inl (G.2 4, 4, .inr (.inr (.inr (.inr (fun k => if k < 4 then some (kr k) else none)))))), (kr 0, .inl (G.2 0, 64, .inl (KP 0))), (kr 1, .inl (G.2 0, 64, .inl (KP 1))), (kr 2, .inl (G.2 0, 64, .inl (KP 2))), (kr 3, .inl (G.2 0, 64, .inl (KP 3)))] → va_S (fun q : Nat => s.heap.size ≤ q) s.heap H locs → SL G sl sn sa sq (fun q : Nat => s.heap.size ≤ q) (BL [x0, s0, s1, s2, u0, u1, u2, v0, v1, v2, b0, b1, b2, b3, b4, b5, b6, o0, m0, dO, dr 0, dr 1, dr 2, dr 3, dr 4, dr 5, ct0, st0, fs0, jn0, rw0, fd0, af0, kO, kr 0, kr 1, kr 2, kr 3] H) s H → W p l e room_1 s m #[Value.ref b] below meth c H locs (cl + 1100) (st + 10700) (lw_Z below #[Value.ref b] s) (F0 m 1012 ls [])) (h : wBody post tA wP nT aK lK sW rF dk wg op re uk uw uo ur vk vw vo vr kf ff sf df pf gf bn on od os th mr po mf sp DD ctf stf fsf jnf rwf fdf aff KP sn sq xs L i4) : W p l e room_1 s m #[Value.ref b] below meth c H locs cl st (lw_Z below #[Value.ref b] s) (F0 m 36 ls []) := by
  obtain ⟨hx, hb, hr, hml, hown, hts0, hX, hbl, hlocks, hgv⟩ := id C0
  have hts : ∀ w ∈ lwg, w.before #[Value.ref b] s = true := fun w hw => ups_hold hts0 w (List.mem_filter.mp hw).1
  have hA : ∀ q : Nat, s.heap.size ≤ q → (fun q : Nat => s.heap.size ≤ q) q := fun _ h => h
  have hbA : ¬ (fun q : Nat => s.heap.size ≤ q) b := Nat.not_le.mpr hbl
  obtain ⟨hK, hN, hR, hFW, hNC⟩ := id hKK
  obtain ⟨⟨zt, hZ1, hT1⟩, hZ2⟩ := id hZ
  refine lv_aload_n hx hb dL_law_36 rfl (lv_at hl 0 rfl) ?_
  refine lv_iload hx hb dL_law_37 (lv_at hl 4 rfl) ?_
  obtain ⟨hin, h⟩ := h
  refine va_sld hx hb hX hbl hbA hS hin dL_law_39 ?_
  refine lv_bipush (v := 31) hx hb dL_law_40 (by decide) ?_
  refine lv_iand hx hb dL_law_42 ?_
  by_cases hc0 : ((xs i4.toNatClampNeg) &&& (31 : Int32)) = 0
  · have h := h.1 hc0
    refine lv_tableIn (tgt := 156) hx hb dL_law_43 (by rw [hc0]; decide) (by rw [hc0]; decide) (by rw [hc0]; rfl) (by decide) ?_
    exact lcase_0 l hfl G x0 s0 s1 s2 u0 u1 u2 v0 v1 v2 b0 b1 b2 b3 b4 b5 b6 o0 m0 dO sl ct0 st0 fs0 jn0 rw0 fd0 af0 kO dr kr sa tA wP nT aK lK sW rF dk wg op re uk uw uo ur vk vw vo vr kf ff sf df pf gf bn on od os th mr po mf sp DD ctf stf fsf jnf rwf fdf aff KP sn sq i4 C0 hKK hZ hJ hcl hsl hl hP hD hS hSL kk h
  have h := h.2 hc0
  by_cases hc1 : ((xs i4.toNatClampNeg) &&& (31 : Int32)) = 1
  · have h := h.1 hc1
    refine lv_tableIn (tgt := 184) hx hb dL_law_43 (by rw [hc1]; decide) (by rw [hc1]; decide) (by rw [hc1]; rfl) (by decide) ?_
    exact lcase_1 l hfl G x0 s0 s1 s2 u0 u1 u2 v0 v1 v2 b0 b1 b2 b3 b4 b5 b6 o0 m0 dO sl ct0 st0 fs0 jn0 rw0 fd0 af0 kO dr kr sa tA wP nT aK lK sW rF dk wg op re uk uw uo ur vk vw vo vr kf ff sf df pf gf bn on od os th mr po mf sp DD ctf stf fsf jnf rwf fdf aff KP sn sq i4 C0 hKK hZ hJ hcl hsl hl hP hD hS hSL kk h
  have h := h.2 hc1
  by_cases hc2 : ((xs i4.toNatClampNeg) &&& (31 : Int32)) = 2
  · have h := h.1 hc2
    refine lv_tableIn (tgt := 236) hx hb dL_law_43 (by rw [hc2]; decide) (by rw [hc2]; decide) (by rw [hc2]; rfl) (by decide) ?_
    exact lcase_2 l hfl G x0 s0 s1 s2 u0 u1 u2 v0 v1 v2 b0 b1 b2 b3 b4 b5 b6 o0 m0 dO sl ct0 st0 fs0 jn0 rw0 fd0 af0 kO dr kr sa tA wP nT aK lK sW rF dk wg op re uk uw uo ur vk vw vo vr kf ff sf df pf gf bn on od os th mr po mf sp DD ctf stf fsf jnf rwf fdf aff KP sn sq i4 C0 hKK hZ hJ hcl hsl hl hP hD hS hSL kk h
  have h := h.2 hc2
  by_cases hc3 : ((xs i4.toNatClampNeg) &&& (31 : Int32)) = 3
  · have h := h.1 hc3
    refine lv_tableIn (tgt := 276) hx hb dL_law_43 (by rw [hc3]; decide) (by rw [hc3]; decide) (by rw [hc3]; rfl) (by decide) ?_
    exact lcase_3 l hfl G x0 s0 s1 s2 u0 u1 u2 v0 v1 v2 b0 b1 b2 b3 b4 b5 b6 o0 m0 dO sl ct0 st0 fs0 jn0 rw0 fd0 af0 kO dr kr sa tA wP nT aK lK sW rF dk wg op re uk uw uo ur vk vw vo vr kf ff sf df pf gf bn on od os th mr po mf sp DD ctf stf fsf jnf rwf fdf aff KP sn sq i4 C0 hKK hZ hJ hcl hsl hl hP hD hS hSL kk h
  have h := h.2 hc3
  by_cases hc4 : ((xs i4.toNatClampNeg) &&& (31 : Int32)) = 4
  · have h := h.1 hc4
    refine lv_tableIn (tgt := 304) hx hb dL_law_43 (by rw [hc4]; decide) (by rw [hc4]; decide) (by rw [hc4]; rfl) (by decide) ?_
    exact lcase_4 l hfl G x0 s0 s1 s2 u0 u1 u2 v0 v1 v2 b0 b1 b2 b3 b4 b5 b6 o0 m0 dO sl ct0 st0 fs0 jn0 rw0 fd0 af0 kO dr kr sa tA wP nT aK lK sW rF dk wg op re uk uw uo ur vk vw vo vr kf ff sf df pf gf bn on od os th mr po mf sp DD ctf stf fsf jnf rwf fdf aff KP sn sq i4 C0 hKK hZ hJ hcl hsl hl hP hD hS hSL kk h
  have h := h.2 hc4
  by_cases hc5 : ((xs i4.toNatClampNeg) &&& (31 : Int32)) = 5
  · have h := h.1 hc5
    refine lv_tableIn (tgt := 344) hx hb dL_law_43 (by rw [hc5]; decide) (by rw [hc5]; decide) (by rw [hc5]; rfl) (by decide) ?_
    exact lcase_5 l hfl G x0 s0 s1 s2 u0 u1 u2 v0 v1 v2 b0 b1 b2 b3 b4 b5 b6 o0 m0 dO sl ct0 st0 fs0 jn0 rw0 fd0 af0 kO dr kr sa tA wP nT aK lK sW rF dk wg op re uk uw uo ur vk vw vo vr kf ff sf df pf gf bn on od os th mr po mf sp DD ctf stf fsf jnf rwf fdf aff KP sn sq i4 C0 hKK hZ hJ hcl hsl hl hP hD hS hSL kk h
  have h := h.2 hc5
  by_cases hc6 : ((xs i4.toNatClampNeg) &&& (31 : Int32)) = 6
  · have h := h.1 hc6
    refine lv_tableIn (tgt := 384) hx hb dL_law_43 (by rw [hc6]; decide) (by rw [hc6]; decide) (by rw [hc6]; rfl) (by decide) ?_
    exact lcase_6 l hfl G x0 s0 s1 s2 u0 u1 u2 v0 v1 v2 b0 b1 b2 b3 b4 b5 b6 o0 m0 dO sl ct0 st0 fs0 jn0 rw0 fd0 af0 kO dr kr sa tA wP nT aK lK sW rF dk wg op re uk uw uo ur vk vw vo vr kf ff sf df pf gf bn on od os th mr po mf sp DD ctf stf fsf jnf rwf fdf aff KP sn sq i4 C0 hKK hZ hJ hcl hsl hl hP hD hS hSL kk h
  have h := h.2 hc6
  by_cases hc7 : ((xs i4.toNatClampNeg) &&& (31 : Int32)) = 7
  · have h := h.1 hc7
    refine lv_tableIn (tgt := 424) hx hb dL_law_43 (by rw [hc7]; decide) (by rw [hc7]; decide) (by rw [hc7]; rfl) (by decide) ?_
    exact lcase_7 l hfl G x0 s0 s1 s2 u0 u1 u2 v0 v1 v2 b0 b1 b2 b3 b4 b5 b6 o0 m0 dO sl ct0 st0 fs0 jn0 rw0 fd0 af0 kO dr kr sa tA wP nT aK lK sW rF dk wg op re uk uw uo ur vk vw vo vr kf ff sf df pf gf bn on od os th mr po mf sp DD ctf stf fsf jnf rwf fdf aff KP sn sq i4 C0 hKK hZ hJ hcl hsl hl hP hD hS hSL kk h
  have h := h.2 hc7
  by_cases hc8 : ((xs i4.toNatClampNeg) &&& (31 : Int32)) = 8
  · have h := h.1 hc8
    refine lv_tableIn (tgt := 452) hx hb dL_law_43 (by rw [hc8]; decide) (by rw [hc8]; decide) (by rw [hc8]; rfl) (by decide) ?_
    exact lcase_8 l hfl G x0 s0 s1 s2 u0 u1 u2 v0 v1 v2 b0 b1 b2 b3 b4 b5 b6 o0 m0 dO sl ct0 st0 fs0 jn0 rw0 fd0 af0 kO dr kr sa tA wP nT aK lK sW rF dk wg op re uk uw uo ur vk vw vo vr kf ff sf df pf gf bn on od os th mr po mf sp DD ctf stf fsf jnf rwf fdf aff KP sn sq i4 C0 hKK hZ hJ hcl hsl hl hP hD hS hSL kk h
  have h := h.2 hc8
  by_cases hc9 : ((xs i4.toNatClampNeg) &&& (31 : Int32)) = 9
  · have h := h.1 hc9
    refine lv_tableIn (tgt := 465) hx hb dL_law_43 (by rw [hc9]; decide) (by rw [hc9]; decide) (by rw [hc9]; rfl) (by decide) ?_
    exact lcase_9 l hfl G x0 s0 s1 s2 u0 u1 u2 v0 v1 v2 b0 b1 b2 b3 b4 b5 b6 o0 m0 dO sl ct0 st0 fs0 jn0 rw0 fd0 af0 kO dr kr sa tA wP nT aK lK sW rF dk wg op re uk uw uo ur vk vw vo vr kf ff sf df pf gf bn on od os th mr po mf sp DD ctf stf fsf jnf rwf fdf aff KP sn sq i4 C0 hKK hZ hJ hcl hsl hl hP hD hS hSL kk h
  have h := h.2 hc9
  by_cases hc10 : ((xs i4.toNatClampNeg) &&& (31 : Int32)) = 10
  · have h := h.1 hc10
    refine lv_tableIn (tgt := 505) hx hb dL_law_43 (by rw [hc10]; decide) (by rw [hc10]; decide) (by rw [hc10]; rfl) (by decide) ?_
    exact lcase_10 l hfl G x0 s0 s1 s2 u0 u1 u2 v0 v1 v2 b0 b1 b2 b3 b4 b5 b6 o0 m0 dO sl ct0 st0 fs0 jn0 rw0 fd0 af0 kO dr kr sa tA wP nT aK lK sW rF dk wg op re uk uw uo ur vk vw vo vr kf ff sf df pf gf bn on od os th mr po mf sp DD ctf stf fsf jnf rwf fdf aff KP sn sq i4 C0 hKK hZ hJ hcl hsl hl hP hD hS hSL kk h
  have h := h.2 hc10
  by_cases hc11 : ((xs i4.toNatClampNeg) &&& (31 : Int32)) = 11
  · have h := h.1 hc11
    refine lv_tableIn (tgt := 533) hx hb dL_law_43 (by rw [hc11]; decide) (by rw [hc11]; decide) (by rw [hc11]; rfl) (by decide) ?_
    exact lcase_11 l hfl G x0 s0 s1 s2 u0 u1 u2 v0 v1 v2 b0 b1 b2 b3 b4 b5 b6 o0 m0 dO sl ct0 st0 fs0 jn0 rw0 fd0 af0 kO dr kr sa tA wP nT aK lK sW rF dk wg op re uk uw uo ur vk vw vo vr kf ff sf df pf gf bn on od os th mr po mf sp DD ctf stf fsf jnf rwf fdf aff KP sn sq i4 C0 hKK hZ hJ hcl hsl hl hP hD hS hSL kk h
  have h := h.2 hc11
  by_cases hc12 : ((xs i4.toNatClampNeg) &&& (31 : Int32)) = 12
  · have h := h.1 hc12
    refine lv_tableIn (tgt := 573) hx hb dL_law_43 (by rw [hc12]; decide) (by rw [hc12]; decide) (by rw [hc12]; rfl) (by decide) ?_
    exact lcase_12 l hfl G x0 s0 s1 s2 u0 u1 u2 v0 v1 v2 b0 b1 b2 b3 b4 b5 b6 o0 m0 dO sl ct0 st0 fs0 jn0 rw0 fd0 af0 kO dr kr sa tA wP nT aK lK sW rF dk wg op re uk uw uo ur vk vw vo vr kf ff sf df pf gf bn on od os th mr po mf sp DD ctf stf fsf jnf rwf fdf aff KP sn sq i4 C0 hKK hZ hJ hcl hsl hl hP hD hS hSL kk h
  have h := h.2 hc12
  by_cases hc13 : ((xs i4.toNatClampNeg) &&& (31 : Int32)) = 13
  · have h := h.1 hc13
    refine lv_tableIn (tgt := 613) hx hb dL_law_43 (by rw [hc13]; decide) (by rw [hc13]; decide) (by rw [hc13]; rfl) (by decide) ?_
    exact lcase_13 l hfl G x0 s0 s1 s2 u0 u1 u2 v0 v1 v2 b0 b1 b2 b3 b4 b5 b6 o0 m0 dO sl ct0 st0 fs0 jn0 rw0 fd0 af0 kO dr kr sa tA wP nT aK lK sW rF dk wg op re uk uw uo ur vk vw vo vr kf ff sf df pf gf bn on od os th mr po mf sp DD ctf stf fsf jnf rwf fdf aff KP sn sq i4 C0 hKK hZ hJ hcl hsl hl hP hD hS hSL kk h
  have h := h.2 hc13
  by_cases hc14 : ((xs i4.toNatClampNeg) &&& (31 : Int32)) = 14
  · have h := h.1 hc14
    refine lv_tableIn (tgt := 653) hx hb dL_law_43 (by rw [hc14]; decide) (by rw [hc14]; decide) (by rw [hc14]; rfl) (by decide) ?_
    exact lcase_14 l hfl G x0 s0 s1 s2 u0 u1 u2 v0 v1 v2 b0 b1 b2 b3 b4 b5 b6 o0 m0 dO sl ct0 st0 fs0 jn0 rw0 fd0 af0 kO dr kr sa tA wP nT aK lK sW rF dk wg op re uk uw uo ur vk vw vo vr kf ff sf df pf gf bn on od os th mr po mf sp DD ctf stf fsf jnf rwf fdf aff KP sn sq i4 C0 hKK hZ hJ hcl hsl hl hP hD hS hSL kk h
  have h := h.2 hc14
  by_cases hc15 : ((xs i4.toNatClampNeg) &&& (31 : Int32)) = 15
  · have h := h.1 hc15
    refine lv_tableIn (tgt := 693) hx hb dL_law_43 (by rw [hc15]; decide) (by rw [hc15]; decide) (by rw [hc15]; rfl) (by decide) ?_
    exact lcase_15 l hfl G x0 s0 s1 s2 u0 u1 u2 v0 v1 v2 b0 b1 b2 b3 b4 b5 b6 o0 m0 dO sl ct0 st0 fs0 jn0 rw0 fd0 af0 kO dr kr sa tA wP nT aK lK sW rF dk wg op re uk uw uo ur vk vw vo vr kf ff sf df pf gf bn on od os th mr po mf sp DD ctf stf fsf jnf rwf fdf aff KP sn sq i4 C0 hKK hZ hJ hcl hsl hl hP hD hS hSL kk h
  have h := h.2 hc15
  by_cases hc16 : ((xs i4.toNatClampNeg) &&& (31 : Int32)) = 16
  · have h := h.1 hc16
    refine lv_tableIn (tgt := 721) hx hb dL_law_43 (by rw [hc16]; decide) (by rw [hc16]; decide) (by rw [hc16]; rfl) (by decide) ?_
    exact lcase_16 l hfl G x0 s0 s1 s2 u0 u1 u2 v0 v1 v2 b0 b1 b2 b3 b4 b5 b6 o0 m0 dO sl ct0 st0 fs0 jn0 rw0 fd0 af0 kO dr kr sa tA wP nT aK lK sW rF dk wg op re uk uw uo ur vk vw vo vr kf ff sf df pf gf bn on od os th mr po mf sp DD ctf stf fsf jnf rwf fdf aff KP sn sq i4 C0 hKK hZ hJ hcl hsl hl hP hD hS hSL kk h
  have h := h.2 hc16
  by_cases hc17 : ((xs i4.toNatClampNeg) &&& (31 : Int32)) = 17
  · have h := h.1 hc17
    refine lv_tableIn (tgt := 734) hx hb dL_law_43 (by rw [hc17]; decide) (by rw [hc17]; decide) (by rw [hc17]; rfl) (by decide) ?_
    exact lcase_17 l hfl G x0 s0 s1 s2 u0 u1 u2 v0 v1 v2 b0 b1 b2 b3 b4 b5 b6 o0 m0 dO sl ct0 st0 fs0 jn0 rw0 fd0 af0 kO dr kr sa tA wP nT aK lK sW rF dk wg op re uk uw uo ur vk vw vo vr kf ff sf df pf gf bn on od os th mr po mf sp DD ctf stf fsf jnf rwf fdf aff KP sn sq i4 C0 hKK hZ hJ hcl hsl hl hP hD hS hSL kk h
  have h := h.2 hc17
  by_cases hc18 : ((xs i4.toNatClampNeg) &&& (31 : Int32)) = 18
  · have h := h.1 hc18
    refine lv_tableIn (tgt := 762) hx hb dL_law_43 (by rw [hc18]; decide) (by rw [hc18]; decide) (by rw [hc18]; rfl) (by decide) ?_
    exact lcase_18 l hfl G x0 s0 s1 s2 u0 u1 u2 v0 v1 v2 b0 b1 b2 b3 b4 b5 b6 o0 m0 dO sl ct0 st0 fs0 jn0 rw0 fd0 af0 kO dr kr sa tA wP nT aK lK sW rF dk wg op re uk uw uo ur vk vw vo vr kf ff sf df pf gf bn on od os th mr po mf sp DD ctf stf fsf jnf rwf fdf aff KP sn sq i4 C0 hKK hZ hJ hcl hsl hl hP hD hS hSL kk h
  have h := h.2 hc18
  by_cases hc19 : ((xs i4.toNatClampNeg) &&& (31 : Int32)) = 19
  · have h := h.1 hc19
    refine lv_tableIn (tgt := 838) hx hb dL_law_43 (by rw [hc19]; decide) (by rw [hc19]; decide) (by rw [hc19]; rfl) (by decide) ?_
    exact lcase_19 l hfl G x0 s0 s1 s2 u0 u1 u2 v0 v1 v2 b0 b1 b2 b3 b4 b5 b6 o0 m0 dO sl ct0 st0 fs0 jn0 rw0 fd0 af0 kO dr kr sa tA wP nT aK lK sW rF dk wg op re uk uw uo ur vk vw vo vr kf ff sf df pf gf bn on od os th mr po mf sp DD ctf stf fsf jnf rwf fdf aff KP sn sq i4 C0 hKK hZ hJ hcl hsl hl hP hD hS hSL kk h
  have h := h.2 hc19
  by_cases hc20 : ((xs i4.toNatClampNeg) &&& (31 : Int32)) = 20
  · have h := h.1 hc20
    refine lv_tableIn (tgt := 878) hx hb dL_law_43 (by rw [hc20]; decide) (by rw [hc20]; decide) (by rw [hc20]; rfl) (by decide) ?_
    exact lcase_20 l hfl G x0 s0 s1 s2 u0 u1 u2 v0 v1 v2 b0 b1 b2 b3 b4 b5 b6 o0 m0 dO sl ct0 st0 fs0 jn0 rw0 fd0 af0 kO dr kr sa tA wP nT aK lK sW rF dk wg op re uk uw uo ur vk vw vo vr kf ff sf df pf gf bn on od os th mr po mf sp DD ctf stf fsf jnf rwf fdf aff KP sn sq i4 C0 hKK hZ hJ hcl hsl hl hP hD hS hSL kk h
  have h := h.2 hc20
  by_cases hc21 : ((xs i4.toNatClampNeg) &&& (31 : Int32)) = 21
  · have h := h.1 hc21
    refine lv_tableIn (tgt := 918) hx hb dL_law_43 (by rw [hc21]; decide) (by rw [hc21]; decide) (by rw [hc21]; rfl) (by decide) ?_
    exact lcase_21 l hfl G x0 s0 s1 s2 u0 u1 u2 v0 v1 v2 b0 b1 b2 b3 b4 b5 b6 o0 m0 dO sl ct0 st0 fs0 jn0 rw0 fd0 af0 kO dr kr sa tA wP nT aK lK sW rF dk wg op re uk uw uo ur vk vw vo vr kf ff sf df pf gf bn on od os th mr po mf sp DD ctf stf fsf jnf rwf fdf aff KP sn sq i4 C0 hKK hZ hJ hcl hsl hl hP hD hS hSL kk h
  have h := h.2 hc21
  by_cases hc22 : ((xs i4.toNatClampNeg) &&& (31 : Int32)) = 22
  · have h := h.1 hc22
    refine lv_tableIn (tgt := 946) hx hb dL_law_43 (by rw [hc22]; decide) (by rw [hc22]; decide) (by rw [hc22]; rfl) (by decide) ?_
    exact lcase_22 l hfl G x0 s0 s1 s2 u0 u1 u2 v0 v1 v2 b0 b1 b2 b3 b4 b5 b6 o0 m0 dO sl ct0 st0 fs0 jn0 rw0 fd0 af0 kO dr kr sa tA wP nT aK lK sW rF dk wg op re uk uw uo ur vk vw vo vr kf ff sf df pf gf bn on od os th mr po mf sp DD ctf stf fsf jnf rwf fdf aff KP sn sq i4 C0 hKK hZ hJ hcl hsl hl hP hD hS hSL kk h
  have h := h.2 hc22
  by_cases hc23 : ((xs i4.toNatClampNeg) &&& (31 : Int32)) = 23
  · have h := h.1 hc23
    refine lv_tableIn (tgt := 986) hx hb dL_law_43 (by rw [hc23]; decide) (by rw [hc23]; decide) (by rw [hc23]; rfl) (by decide) ?_
    exact lcase_23 l hfl G x0 s0 s1 s2 u0 u1 u2 v0 v1 v2 b0 b1 b2 b3 b4 b5 b6 o0 m0 dO sl ct0 st0 fs0 jn0 rw0 fd0 af0 kO dr kr sa tA wP nT aK lK sW rF dk wg op re uk uw uo ur vk vw vo vr kf ff sf df pf gf bn on od os th mr po mf sp DD ctf stf fsf jnf rwf fdf aff KP sn sq i4 C0 hKK hZ hJ hcl hsl hl hP hD hS hSL kk h
  have h := h.2 hc23
  by_cases hc24 : ((xs i4.toNatClampNeg) &&& (31 : Int32)) = 24
  · have h := h.1 hc24
    refine lv_tableIn (tgt := 999) hx hb dL_law_43 (by rw [hc24]; decide) (by rw [hc24]; decide) (by rw [hc24]; rfl) (by decide) ?_
    exact lcase_24 l hfl G x0 s0 s1 s2 u0 u1 u2 v0 v1 v2 b0 b1 b2 b3 b4 b5 b6 o0 m0 dO sl ct0 st0 fs0 jn0 rw0 fd0 af0 kO dr kr sa tA wP nT aK lK sW rF dk wg op re uk uw uo ur vk vw vo vr kf ff sf df pf gf bn on od os th mr po mf sp DD ctf stf fsf jnf rwf fdf aff KP sn sq i4 C0 hKK hZ hJ hcl hsl hl hP hD hS hSL kk h
  have h := h.2 hc24
  refine lv_tableOut (tgt := 1012) hx hb dL_law_43 (tsw_0_24 hc0 hc1 hc2 hc3 hc4 hc5 hc6 hc7 hc8 hc9 hc10 hc11 hc12 hc13 hc14 hc15 hc16 hc17 hc18 hc19 hc20 hc21 hc22 hc23 hc24) (by decide) ?_
  refine W.widen (k := cl + 1100) (n := st + 10700) (by omega) (by omega) ?_
  exact kk tA wP nT aK lK sW rF dk wg op re uk uw uo ur vk vw vo vr kf ff sf df pf gf bn on od os th mr po mf sp DD ctf stf fsf jnf rwf fdf aff KP sn sa sq h _ H _ hl hP hD hS hSL
theorem loopTest {L k : Nat} (hL : L ≤ 2048) (hk : k ≤ 600) (h : ¬ (Int32.ofNat L - (4 : Int32) < nI (4 * k))) : 4 * k + 4 ≤ L := by
  rw [Int32.lt_iff_toInt_lt, Int32.toInt_sub, nI_toInt (by omega), show Int32.ofNat L = nI L from rfl, nI_toInt (by omega), show (4 : Int32).toInt = 4 from by decide] at h
  rw [Int.bmod_eq_of_le (by omega) (by omega)] at h
  omega
theorem loopInc (k : Nat) : nI (4 * k) + 4 = nI (4 * (k + 1)) := nI_add (4 * k) 4
set_option maxHeartbeats 4000000 in
set_option maxRecDepth 100000 in
theorem lloop {J : Nat → LPost} {p : Program} {e : Env} {s : State} {m : MethodId} {below : List Frame} {meth : Method} {c : Code} {b L : Nat} {xs : Nat → Int32} (l : Launch) (hfl : l.stackTraces = false) (hL : L ≤ 2048) (G : GT) (x0 : Nat) (s0 : Nat) (s1 : Nat) (s2 : Nat) (u0 : Nat) (u1 : Nat) (u2 : Nat) (v0 : Nat) (v1 : Nat) (v2 : Nat) (b0 : Nat) (b1 : Nat) (b2 : Nat) (b3 : Nat) (b4 : Nat) (b5 : Nat) (b6 : Nat) (o0 : Nat) (m0 : Nat) (dO : Nat) (sl : Nat) (ct0 : Nat) (st0 : Nat) (fs0 : Nat) (jn0 : Nat) (rw0 : Nat) (fd0 : Nat) (af0 : Nat) (kO : Nat) (dr : Nat → Nat) (kr : Nat → Nat) (C0 : lw_At p s m meth c b L xs) (hKK : KK G s) (hZ : ZZ (fun q : Nat => s.heap.size ≤ q) s s.heap) (hJ : JJ G (fun q : Nat => s.heap.size ≤ q) s s.heap) (hstep : ∀ k : Nat, 4 * k + 4 ≤ L → ∀ (tA : Int32) (wP : Int32) (nT : Int32) (aK : Int32) (lK : Int32) (sW : Int32) (rF : Int32) (dk : Nat → Int64) (wg : Nat → Int64) (op : Int64) (re : Int32) (uk : Nat → Int64) (uw : Nat → Int64) (uo : Int64) (ur : Int32) (vk : Nat → Int64) (vw : Nat → Int64) (vo : Int64) (vr : Int32) (kf : Nat → Int32) (ff : Nat → Int32) (sf : Nat → Int32) (df : Nat → Int32) (pf : Nat → Int64) (gf : Nat → Int64) (bn : Int32) (on : Int64) (od : UInt64) (os : Option Nat) (th : Int32) (mr : Int32) (po : Int64) (mf : Int32) (sp : Int32) (DD : Nat → Nat → Int32) (ctf : Nat → Int32) (stf : Nat → Int32) (fsf : Nat → Int32) (jnf : Nat → Int32) (rwf : Nat → Int32) (fdf : Nat → Int64) (aff : Nat → Int32) (KP : Nat → Nat → Int32) (sn : Nat) (sq : Nat → Nat → Int32), J k tA wP nT aK lK sW rF dk wg op re uk uw uo ur vk vw vo vr kf ff sf df pf gf bn on od th mr po mf sp DD ctf stf fsf jnf rwf fdf aff KP sn sq → wBody (J (k + 1)) tA wP nT aK lK sW rF dk wg op re uk uw uo ur vk vw vo vr kf ff sf df pf gf bn on od os th mr po mf sp DD ctf stf fsf jnf rwf fdf aff KP sn sq xs L (nI (4 * k))) : ∀ (n k cl st : Nat), L < 4 * (k + n) + 4 → k + n ≤ 513 → cl + n * 1100 ≤ 600900 → st + n * 10700 ≤ 5493000 → ∀ (tA : Int32) (wP : Int32) (nT : Int32) (aK : Int32) (lK : Int32) (sW : Int32) (rF : Int32) (dk : Nat → Int64) (wg : Nat → Int64) (op : Int64) (re : Int32) (uk : Nat → Int64) (uw : Nat → Int64) (uo : Int64) (ur : Int32) (vk : Nat → Int64) (vw : Nat → Int64) (vo : Int64) (vr : Int32) (kf : Nat → Int32) (ff : Nat → Int32) (sf : Nat → Int32) (df : Nat → Int32) (pf : Nat → Int64) (gf : Nat → Int64) (bn : Int32) (on : Int64) (od : UInt64) (os : Option Nat) (th : Int32) (mr : Int32) (po : Int64) (mf : Int32) (sp : Int32) (DD : Nat → Nat → Int32) (ctf : Nat → Int32) (stf : Nat → Int32) (fsf : Nat → Int32) (jnf : Nat → Int32) (rwf : Nat → Int32) (fdf : Nat → Int64) (aff : Nat → Int32) (KP : Nat → Nat → Int32) (sn : Nat) (sa : Nat → Nat) (sq : Nat → Nat → Int32), J k tA wP nT aK lK sW rF dk wg op re uk uw uo ur vk vw vo vr kf ff sf df pf gf bn on od th mr po mf sp DD ctf stf fsf jnf rwf fdf aff KP sn sq → ∀ (ls : Array Slot) (H : Heap) (locs : List Loc), lv_has ls 8 [(0, .ref b), (1, .ref x0), (2, .ref m0), (3, .ref o0), (4, .int (nI (4 * k)))] → PP G [(x0, .inr (5, [.ref b0, .ref s0, .ref u0, .ref v0, .int tA, .int wP, .int nT, .int aK, .int lK, .int sW, .int rF])), (s0, .inr (4, [.ref b0, .ref s1, .ref s2, .long op, .int re])), (s1, .inl (G.2 1, 384, .inr (.inl dk))), (s2, .inl (G.2 1, 40, .inr (.inl wg))), (u0, .inr (4, [.ref b0, .ref u1, .ref u2, .long uo, .int ur])), (u1, .inl (G.2 1, 384, .inr (.inl uk))), (u2, .inl (G.2 1, 40, .inr (.inl uw))), (v0, .inr (4, [.ref b0, .ref v1, .ref v2, .long vo, .int vr])), (v1, .inl (G.2 1, 384, .inr (.inl vk))), (v2, .inl (G.2 1, 40, .inr (.inl vw))), (b0, .inr (3, [.ref b1, .ref b2, .ref b3, .ref b4, .ref b5, .ref b6, .int bn])), (b1, .inl (G.2 0, 40, .inl kf)), (b2, .inl (G.2 0, 40, .inl ff)), (b3, .inl (G.2 0, 40, .inl sf)), (b4, .inl (G.2 0, 40, .inl df)), (b5, .inl (G.2 1, 40, .inr (.inl pf))), (b6, .inl (G.2 1, 6, .inr (.inl gf))), (o0, .inr (6, [.long on, .double od, va_rf os])), (m0, .inr (7, [.int th, .int mr, .long po, .ref dO, .ref sl, .ref ct0, .int mf, .int sp, .ref st0, .ref fs0, .ref jn0, .ref rw0, .ref fd0, .ref af0, .ref kO])), (dO, .inl (G.2 4, 6, .inr (.inr (.inr (.inr (fun k => if k < 6 then some (dr k) else none)))))), (dr 0, .inl (G.2 0, 64, .inl (DD 0))), (dr 1, .inl (G.2 0, 64, .inl (DD 1))), (dr 2, .inl (G.2 0, 64, .inl (DD 2))), (dr 3, .inl (G.2 0, 64, .inl (DD 3))), (dr 4, .inl (G.2 0, 64, .inl (DD 4))), (dr 5, .inl (G.2 0, 64, .inl (DD 5))), (ct0, .inl (G.2 0, 6, .inl ctf)), (st0, .inl (G.2 0, 4096, .inl stf)), (fs0, .inl (G.2 0, 4096, .inl fsf)), (jn0, .inl (G.2 0, 64, .inl jnf)), (rw0, .inl (G.2 0, 64, .inl rwf)), (fd0, .inl (G.2 1, 40, .inr (.inl fdf))), (af0, .inl (G.2 3, 40, .inl aff)), (kO, .inl (G.2 4, 4, .inr (.inr (.inr (.inr (fun k => if k < 4 then some (kr k) else none)))))), (kr 0, .inl (G.2 0, 64, .inl (KP 0))), (kr 1, .inl (G.2 0, 64, .inl (KP 1))), (kr 2, .inl (G.2 0, 64, .inl (KP 2))), (kr 3, .inl (G.2 0, 64, .inl (KP 3)))] H → va_D (fun q : Nat => s.heap.size ≤ q) [(x0, .inr (5, [.ref b0, .ref s0, .ref u0, .ref v0, .int tA, .int wP, .int nT, .int aK, .int lK, .int sW, .int rF])), (s0, .inr (4, [.ref b0, .ref s1, .ref s2, .long op, .int re])), (s1, .inl (G.2 1, 384, .inr (.inl dk))), (s2, .inl (G.2 1, 40, .inr (.inl wg))), (u0, .inr (4, [.ref b0, .ref u1, .ref u2, .long uo, .int ur])), (u1, .inl (G.2 1, 384, .inr (.inl uk))), (u2, .inl (G.2 1, 40, .inr (.inl uw))), (v0, .inr (4, [.ref b0, .ref v1, .ref v2, .long vo, .int vr])), (v1, .inl (G.2 1, 384, .inr (.inl vk))), (v2, .inl (G.2 1, 40, .inr (.inl vw))), (b0, .inr (3, [.ref b1, .ref b2, .ref b3, .ref b4, .ref b5, .ref b6, .int bn])), (b1, .inl (G.2 0, 40, .inl kf)), (b2, .inl (G.2 0, 40, .inl ff)), (b3, .inl (G.2 0, 40, .inl sf)), (b4, .inl (G.2 0, 40, .inl df)), (b5, .inl (G.2 1, 40, .inr (.inl pf))), (b6, .inl (G.2 1, 6, .inr (.inl gf))), (o0, .inr (6, [.long on, .double od, va_rf os])), (m0, .inr (7, [.int th, .int mr, .long po, .ref dO, .ref sl, .ref ct0, .int mf, .int sp, .ref st0, .ref fs0, .ref jn0, .ref rw0, .ref fd0, .ref af0, .ref kO])), (dO, .inl (G.2 4, 6, .inr (.inr (.inr (.inr (fun k => if k < 6 then some (dr k) else none)))))), (dr 0, .inl (G.2 0, 64, .inl (DD 0))), (dr 1, .inl (G.2 0, 64, .inl (DD 1))), (dr 2, .inl (G.2 0, 64, .inl (DD 2))), (dr 3, .inl (G.2 0, 64, .inl (DD 3))), (dr 4, .inl (G.2 0, 64, .inl (DD 4))), (dr 5, .inl (G.2 0, 64, .inl (DD 5))), (ct0, .inl (G.2 0, 6, .inl ctf)), (st0, .inl (G.2 0, 4096, .inl stf)), (fs0, .inl (G.2 0, 4096, .inl fsf)), (jn0, .inl (G.2 0, 64, .inl jnf)), (rw0, .inl (G.2 0, 64, .inl rwf)), (fd0, .inl (G.2 1, 40, .inr (.inl fdf))), (af0, .inl (G.2 3, 40, .inl aff)), (kO, .inl (G.2 4, 4, .inr (.inr (.inr (.inr (fun k => if k < 4 then some (kr k) else none)))))), (kr 0, .inl (G.2 0, 64, .inl (KP 0))), (kr 1, .inl (G.2 0, 64, .inl (KP 1))), (kr 2, .inl (G.2 0, 64, .inl (KP 2))), (kr 3, .inl (G.2 0, 64, .inl (KP 3)))] → va_S (fun q : Nat => s.heap.size ≤ q) s.heap H locs → SL G sl sn sa sq (fun q : Nat => s.heap.size ≤ q) (BL [x0, s0, s1, s2, u0, u1, u2, v0, v1, v2, b0, b1, b2, b3, b4, b5, b6, o0, m0, dO, dr 0, dr 1, dr 2, dr 3, dr 4, dr 5, ct0, st0, fs0, jn0, rw0, fd0, af0, kO, kr 0, kr 1, kr 2, kr 3] H) s H → W p l e room_1 s m #[Value.ref b] below meth c H locs cl st (lw_Z below #[Value.ref b] s) (F0 m 27 ls []) := by
  obtain ⟨hx, hb, hr, hml, hown, hts0, hX, hbl, hlocks, hgv⟩ := id C0
  have hts : ∀ w ∈ lwg, w.before #[Value.ref b] s = true := fun w hw => ups_hold hts0 w (List.mem_filter.mp hw).1
  have hA : ∀ q : Nat, s.heap.size ≤ q → (fun q : Nat => s.heap.size ≤ q) q := fun _ h => h
  have hbA : ¬ (fun q : Nat => s.heap.size ≤ q) b := Nat.not_le.mpr hbl
  obtain ⟨hK, hN, hR, hFW, hNC⟩ := id hKK
  obtain ⟨⟨zt, hZ1, hT1⟩, hZ2⟩ := id hZ
  intro n
  induction n with
  | zero =>
    intro k cl st hn hkn hcl hsl tA wP nT aK lK sW rF dk wg op re uk uw uo ur vk vw vo vr kf ff sf df pf gf bn on od os th mr po mf sp DD ctf stf fsf jnf rwf fdf aff KP sn sa sq h ls H locs hl hP hD hS hSL
    refine lv_iload hx hb dL_law_27 (lv_at hl 4 rfl) ?_
    refine lv_aload_n hx hb dL_law_29 rfl (lv_at hl 0 rfl) ?_
    refine va_slen hx hb hX hbl hbA hS dL_law_30 ?_
    refine lv_iconst (v := 4) hx hb dL_law_31 (by decide) ?_
    refine lv_isub hx hb dL_law_32 ?_
    refine lv_icmp_gt (tgt := 1018) hx hb dL_law_33 (by decide) (fun hc => ?_) (fun hc => ?_)
    · refine lv_iconst (v := 1) hx hb dL_law_1018 (by decide) ?_
      refine W.widen (k := 1201024) (n := 5493034) (by omega) (by omega) ?_
      refine va_forget hS.2.2 ?_
      refine W.base ?_
      exact lw_ret (Drawn.sameBut.refl s.drawn lw_cs) hx hb hr hlocks dL_law_1019
    · have := loopTest hL (by omega) hc
      omega
  | succ n ih =>
    intro k cl st hn hkn hcl hsl tA wP nT aK lK sW rF dk wg op re uk uw uo ur vk vw vo vr kf ff sf df pf gf bn on od os th mr po mf sp DD ctf stf fsf jnf rwf fdf aff KP sn sa sq h ls H locs hl hP hD hS hSL
    refine lv_iload hx hb dL_law_27 (lv_at hl 4 rfl) ?_
    refine lv_aload_n hx hb dL_law_29 rfl (lv_at hl 0 rfl) ?_
    refine va_slen hx hb hX hbl hbA hS dL_law_30 ?_
    refine lv_iconst (v := 4) hx hb dL_law_31 (by decide) ?_
    refine lv_isub hx hb dL_law_32 ?_
    refine lv_icmp_gt (tgt := 1018) hx hb dL_law_33 (by decide) (fun hc => ?_) (fun hc => ?_)
    · refine lv_iconst (v := 1) hx hb dL_law_1018 (by decide) ?_
      refine W.widen (k := 1201024) (n := 5493034) (by omega) (by omega) ?_
      refine va_forget hS.2.2 ?_
      refine W.base ?_
      exact lw_ret (Drawn.sameBut.refl s.drawn lw_cs) hx hb hr hlocks dL_law_1019
    · have hk4 := loopTest hL (by omega) hc
      refine lbody (post := J (k + 1)) l hfl G x0 s0 s1 s2 u0 u1 u2 v0 v1 v2 b0 b1 b2 b3 b4 b5 b6 o0 m0 dO sl ct0 st0 fs0 jn0 rw0 fd0 af0 kO dr kr sa tA wP nT aK lK sW rF dk wg op re uk uw uo ur vk vw vo vr kf ff sf df pf gf bn on od os th mr po mf sp DD ctf stf fsf jnf rwf fdf aff KP sn sq (nI (4 * k)) C0 hKK hZ hJ (by omega) (by omega) hl hP hD hS hSL (fun tA wP nT aK lK sW rF dk wg op re uk uw uo ur vk vw vo vr kf ff sf df pf gf bn on od os th mr po mf sp DD ctf stf fsf jnf rwf fdf aff KP sn sa sq h ls H locs hl hP hD hS hSL => ?_) (hstep k hk4 tA wP nT aK lK sW rF dk wg op re uk uw uo ur vk vw vo vr kf ff sf df pf gf bn on od os th mr po mf sp DD ctf stf fsf jnf rwf fdf aff KP sn sq h)
      refine lv_iinc (v := nI (4 * (k + 1))) hx hb dL_law_1012 hl (k := 4) rfl (by rw [show Int32.ofInt 4 = 4 from by decide]; exact loopInc k) (Nat.le_of_ble_eq_true rfl) rfl (fun ls hl => ?_)
      have hl : lv_has ls 8 [(0, .ref b), (1, .ref x0), (2, .ref m0), (3, .ref o0), (4, .int (nI (4 * (k + 1))))] := lv_sub hl [1, 2, 3, 4, 0] rfl
      refine lv_goto (tgt := 27) hx hb dL_law_1015 (by decide) ?_
      exact ih (k + 1) (cl + 1100) (st + 10700) (by omega) (by omega) (by omega) (by omega) tA wP nT aK lK sW rF dk wg op re uk uw uo ur vk vw vo vr kf ff sf df pf gf bn on od os th mr po mf sp DD ctf stf fsf jnf rwf fdf aff KP sn sa sq h ls H locs hl hP hD hS hSL
