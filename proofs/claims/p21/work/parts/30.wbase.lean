/-! plain facts: what stays true of the cells, and what a call may be asked -/
def IN (x : Int32) (n : Nat) : Prop := ∃ k : Nat, k < n ∧ x = nI k
theorem IN.vp {x : Int32} {n : Nat} (h : IN x n) (hn : n < 2 ^ 31) : vp_in x n := by
  obtain ⟨k, hk, rfl⟩ := h
  exact nI_in hk hn
theorem IN.lt {x : Int32} {n : Nat} (h : IN x n) (hn : n < 2 ^ 31) : x.toNatClampNeg < n := by
  obtain ⟨k, hk, rfl⟩ := h
  rw [nI_clamp (by omega)]
  exact hk
theorem IN.mono {x : Int32} {n m : Nat} (h : IN x n) (hm : n ≤ m) : IN x m := h.imp (fun _ h => ⟨Nat.lt_of_lt_of_le h.1 hm, h.2⟩)
theorem IN.of {k n : Nat} (h : k < n) : IN (nI k) n := ⟨k, h, rfl⟩
theorem IN.rng {p : Int32} {n : Nat} (hn : n < 2 ^ 31) (a : ¬ p < 0) (b : ¬ nI n ≤ p) : IN p n := by
  refine ⟨p.toNatClampNeg, ?_, (nIclamp a).symm⟩
  apply Nat.lt_of_not_le
  intro h
  apply b
  rw [← nIclamp a]
  have h2 : p.toNatClampNeg < 2 ^ 31 := by
    have h4 : p.toNatClampNeg = p.toInt.toNat := rfl
    have h3 : p.toInt < 2 ^ 31 := p.toInt_lt
    omega
  exact nI_le h h2
def R64 (f : Nat → Int32) : Prop := ∀ w, w < 64 → IN (f w) 64
theorem R64.at {f : Nat → Int32} (h : R64 f) {x : Int32} (hx : IN x 64) : IN (f x.toNatClampNeg) 64 := h _ (hx.lt (by decide))
theorem R64.upd {f : Nat → Int32} (h : R64 f) {i : Nat} {v : Int32} (hv : IN v 64) : R64 (upd f i v) := fun w hw => by
  show IN (if w = i then v else f w) 64
  split
  · exact hv
  · exact h w hw
def RF (f : Nat → Int32) : Prop := ∀ w, w < 4096 → IN (f w) 64
def DOK (D : Nat → Nat → Int32) : Prop := ∀ g, g < 6 → R64 (D g)
def KOK (K : Nat → Nat → Int32) : Prop := ∀ g, g < 4 → R64 (K g)
theorem idx4096 {a b : Int32} (ha : IN a 64) (hb : IN b 64) : IN (a * 64 + b) 4096 := by
  obtain ⟨x, hx, rfl⟩ := ha
  obtain ⟨y, hy, rfl⟩ := hb
  refine ⟨x * 64 + y, by omega, ?_⟩
  rw [show (64 : Int32) = nI 64 from rfl, ← nI_add, show nI x * nI 64 = nI (x * 64) from (Int32.ofNat_mul x 64).symm]
theorem idx384 {a b : Int32} (ha : IN a 6) (hb : IN b 64) : IN (a * 64 + b) 384 := by
  obtain ⟨x, hx, rfl⟩ := ha
  obtain ⟨y, hy, rfl⟩ := hb
  refine ⟨x * 64 + y, by omega, ?_⟩
  rw [show (64 : Int32) = nI 64 from rfl, ← nI_add, show nI x * nI 64 = nI (x * 64) from (Int32.ofNat_mul x 64).symm]
theorem c0 : (0 : Int32).toNatClampNeg = 0 := by decide
theorem c1 : (1 : Int32).toNatClampNeg = 1 := by decide
theorem c2 : (2 : Int32).toNatClampNeg = 2 := by decide
theorem c3 : (3 : Int32).toNatClampNeg = 3 := by decide
theorem notLe {a k : Nat} (h : k < a) (ha : a < 2 ^ 31) : ¬ (nI a ≤ nI k) := by
  rw [Int32.le_iff_toInt_le, nI_toInt ha, nI_toInt (by omega)]
  omega
theorem nILt {a k : Nat} (ha : a < 2 ^ 31) (hk : k < 2 ^ 31) : (nI a < nI k) ↔ a < k := by
  rw [Int32.lt_iff_toInt_lt, nI_toInt ha, nI_toInt hk]
  omega
theorem nILe {a k : Nat} (ha : a < 2 ^ 31) (hk : k < 2 ^ 31) : (nI a ≤ nI k) ↔ a ≤ k := by
  rw [Int32.le_iff_toInt_le, nI_toInt ha, nI_toInt hk]
  omega
theorem nIinj {a k : Nat} (ha : a < 2 ^ 31) (hk : k < 2 ^ 31) (h : nI a = nI k) : a = k := by
  have := congrArg Int32.toInt h
  rw [nI_toInt ha, nI_toInt hk] at this
  omega
theorem ltOfLe {a p : Int32} {b : Int32} (q : b ≤ p) (h : a < b) : a < p := by
  rw [Int32.le_iff_toInt_le] at q
  rw [Int32.lt_iff_toInt_lt] at h ⊢
  omega
theorem orB : ∀ x, x < 64 → ∀ y, y < 64 → nI x ||| nI y = nI (x ||| y) := by decide +kernel
theorem orC : ∀ x, x < 64 → ∀ y, y < 64 → x ||| y < 64 := by decide +kernel
theorem xorB : ∀ x, x < 64 → ∀ y, y < 64 → nI x ^^^ nI y = nI (x ^^^ y) := by decide +kernel
theorem xorC : ∀ x, x < 64 → ∀ y, y < 64 → x ^^^ y < 64 := by decide +kernel
theorem shB : ∀ x, x < 6 → (1 : Int32) <<< (nI x &&& 31) = nI (2 ^ x) := by decide +kernel
theorem shC : ∀ x, x < 6 → 2 ^ x < 64 := by decide
theorem IN.or {a b : Int32} (ha : IN a 64) (hb : IN b 64) : IN (a ||| b) 64 := by
  obtain ⟨x, hx, rfl⟩ := ha
  obtain ⟨y, hy, rfl⟩ := hb
  exact ⟨x ||| y, orC x hx y hy, orB x hx y hy⟩
theorem IN.xor {a b : Int32} (ha : IN a 64) (hb : IN b 64) : IN (a ^^^ b) 64 := by
  obtain ⟨x, hx, rfl⟩ := ha
  obtain ⟨y, hy, rfl⟩ := hb
  exact ⟨x ^^^ y, xorC x hx y hy, xorB x hx y hy⟩
theorem IN.sh {a : Int32} (ha : IN a 6) : IN ((1 : Int32) <<< (a &&& 31)) 64 := by
  obtain ⟨x, hx, rfl⟩ := ha
  exact ⟨2 ^ x, shC x hx, shB x hx⟩
theorem R0 : R64 (fun _ => (0 : Int32)) := fun _ _ => ⟨0, by decide, rfl⟩
theorem RF0 : RF (fun _ => (0 : Int32)) := fun _ _ => ⟨0, by decide, rfl⟩
theorem RF.at {f : Nat → Int32} (h : RF f) {x : Int32} (hx : IN x 4096) : IN (f x.toNatClampNeg) 64 := h _ (hx.lt (by decide))
theorem RF.upd {f : Nat → Int32} (h : RF f) {i : Nat} {v : Int32} (hv : IN v 64) : RF (upd f i v) := fun w hw => by
  show IN (if w = i then v else f w) 64
  split
  · exact hv
  · exact h w hw
theorem DOK.upd {D : Nat → Nat → Int32} (h : DOK D) {i : Nat} {f : Nat → Int32} (hf : R64 f) : DOK (vf_upd D i f) := fun g hg => by
  show R64 (if g = i then f else D g)
  split
  · exact hf
  · exact h g hg
theorem KOK.upd {D : Nat → Nat → Int32} (h : KOK D) {i : Nat} {f : Nat → Int32} (hf : R64 f) : KOK (vf_upd D i f) := fun g hg => by
  show R64 (if g = i then f else D g)
  split
  · exact hf
  · exact h g hg
def BN (x : Int32) : Prop := ∃ n : Nat, n ≤ 40 ∧ x = nI n
/-! the sentences -/
def SETG (p : Int32) : Prop := ∃ k, 1 ≤ k ∧ k < 64 ∧ p = nI k
def wfS (n : Nat) (kd a b : Int32) : Prop := IN kd 8 ∧ (kd = 0 → IN a 6) ∧ (kd = 1 ∨ kd = 2 ∨ kd = 3 → IN a n) ∧ (kd = 4 → IN a 6) ∧ (kd = 5 ∨ kd = 6 ∨ kd = 7 → SETG a) ∧ (¬ kd = 0 → ¬ kd = 1 → IN b n)
def SOK (sn : Nat) (sq : Nat → Nat → Int32) : Prop := ∀ k, k < sn → wfS k (sq k 0) (sq k 1) (sq k 2) ∧ ∃ d, d ≤ k ∧ sq k 3 = nI d ∧ (sq k 0 = 1 ∨ sq k 0 = 2 ∨ sq k 0 = 3 → ∃ e, e < d ∧ sq (sq k 1).toNatClampNeg 3 = nI e) ∧ (¬ sq k 0 = 0 → ¬ sq k 0 = 1 → ∃ e, e < d ∧ sq (sq k 2).toNatClampNeg 3 = nI e)
theorem SOK.wf {sn : Nat} {sq : Nat → Nat → Int32} (h : SOK sn sq) {x : Int32} (hx : IN x sn) (hn : sn ≤ 40) : wfS x.toNatClampNeg (sq x.toNatClampNeg 0) (sq x.toNatClampNeg 1) (sq x.toNatClampNeg 2) := (h _ (hx.lt (by omega))).1
theorem SOK.b {sn : Nat} {sq : Nat → Nat → Int32} (h : SOK sn sq) (hn : sn ≤ 40) {x : Int32} (hx : IN x sn) (c : ¬ sq x.toNatClampNeg (0 : Int32).toNatClampNeg ≤ (4 : Int32)) : IN (sq x.toNatClampNeg (2 : Int32).toNatClampNeg) sn := by
  rw [c0] at c
  rw [c2]
  have h1 := hx.lt (by omega)
  exact ((h.wf hx hn).2.2.2.2.2 (fun e => c (by rw [e]; decide)) (fun e => c (by rw [e]; decide))).mono (by omega)
/-! sets of worlds as bits -/
def mw (x : Int64) (w : Nat) : Bool := x.toBitVec.toNat.testBit w
theorem mw_and (x y : Int64) (w : Nat) : mw (x &&& y) w = (mw x w && mw y w) := by
  unfold mw
  rw [Int64.toBitVec_and, BitVec.toNat_and, Nat.testBit_and]
theorem mw_or (x y : Int64) (w : Nat) : mw (x ||| y) w = (mw x w || mw y w) := by
  unfold mw
  rw [Int64.toBitVec_or, BitVec.toNat_or, Nat.testBit_or]
theorem mw_not (x : Int64) {w : Nat} (hw : w < 64) : mw (x ^^^ (-1 : Int64)) w = !mw x w := by
  unfold mw
  rw [Int64.toBitVec_xor, BitVec.toNat_xor, Nat.testBit_xor, show (-1 : Int64).toBitVec.toNat = 2 ^ 64 - 1 from by decide, Nat.testBit_two_pow_sub_one]
  simp [hw]
theorem bitN : ∀ k, k < 64 → (jLshl 1 (nI k)).toBitVec.toNat = 2 ^ k := by decide +kernel
theorem mw_bit {k : Nat} (hk : k < 64) (w : Nat) : mw (jLshl 1 (nI k)) w = decide (k = w) := by
  unfold mw
  rw [bitN k hk, Nat.testBit_two_pow]
theorem mw_zero (w : Nat) : mw 0 w = false := by
  unfold mw
  rw [show (0 : Int64).toBitVec.toNat = 0 from by decide]
  exact Nat.zero_testBit w
theorem mw_top (x : Int64) {w : Nat} (hw : 64 ≤ w) : mw x w = false := by
  unfold mw
  exact Nat.testBit_lt_two_pow (Nat.lt_of_lt_of_le x.toBitVec.isLt (Nat.pow_le_pow_right (by decide) hw))
theorem bvEq {x y : Int64} (h : x.toBitVec.toNat = y.toBitVec.toNat) : x = y := Int64.toBitVec_inj.mp (BitVec.eq_of_toNat_eq h)
theorem mw_ext {x y : Int64} (h : ∀ w, w < 64 → mw x w = mw y w) : x = y := by
  apply bvEq
  apply Nat.eq_of_testBit_eq
  intro w
  by_cases hw : w < 64
  · exact h w hw
  · exact (mw_top x (Nat.le_of_not_lt hw)).trans (mw_top y (Nat.le_of_not_lt hw)).symm
theorem shN : ∀ w, w < 64 → ((nI w).toInt64.toUInt64 &&& Int64.toUInt64 63).toBitVec.toNat % 64 = w := by decide +kernel
theorem has_bit (p : Int64) {w : Nat} (hw : w < 64) : ((jLushr p (nI w)) &&& (1 : Int64)).toBitVec.toNat = if mw p w then 1 else 0 := by
  rw [Int64.toBitVec_and, BitVec.toNat_and, show (1 : Int64).toBitVec.toNat = 1 from by decide, Nat.and_one_is_mod]
  have h : (jLushr p (nI w)).toBitVec.toNat = p.toBitVec.toNat >>> w := by
    show ((p.toUInt64 >>> ((nI w).toInt64.toUInt64 &&& Int64.toUInt64 63)).toInt64).toBitVec.toNat = _
    rw [show ∀ u : UInt64, u.toInt64.toBitVec = u.toBitVec from fun _ => rfl, UInt64.toBitVec_shiftRight, BitVec.ushiftRight_eq', BitVec.toNat_ushiftRight]
    rw [BitVec.toNat_umod, show (64 : BitVec 64).toNat = 64 from rfl, shN w hw]
    rfl
  rw [h]
  unfold mw
  rw [Nat.testBit, Nat.one_and_eq_mod_two]
  rcases Nat.mod_two_eq_zero_or_one (p.toBitVec.toNat >>> w) with e | e <;> rw [e] <;> rfl
theorem has_mw (p : Int64) {w : Nat} (hw : w < 64) : (lg_cmp ((jLushr p (nI w)) &&& (1 : Int64)) (1 : Int64)) = 0 ↔ mw p w = true := by
  rw [lg_cmp_eq]
  constructor
  · intro h
    have := has_bit p hw
    rw [h, show (1 : Int64).toBitVec.toNat = 1 from by decide] at this
    cases hm : mw p w with
    | true => rfl
    | false => rw [hm] at this; exact absurd this (by decide)
  · intro h
    apply bvEq
    rw [has_bit p hw, h]
    decide
def SUBW (r p : Int64) : Prop := ∀ w, w < 64 → mw r w = true → mw p w = true
theorem subLt {r x : Int64} (h : SUBW r x) (hne : ¬ r = x) : r.toBitVec.toNat < x.toBitVec.toNat := by
  have e : r = r &&& x := by
    apply mw_ext
    intro w hw
    rw [mw_and]
    cases hm : mw r w with
    | true => rw [h w hw hm]; rfl
    | false => rfl
  have h1 : r.toBitVec.toNat ≤ x.toBitVec.toNat := by
    rw [e, Int64.toBitVec_and, BitVec.toNat_and]
    exact Nat.and_le_right
  exact Nat.lt_of_le_of_ne h1 (fun q => hne (bvEq q))
theorem andLt {x r : Int64} (hne : ¬ x &&& r = x) : (x &&& r).toBitVec.toNat < x.toBitVec.toNat := by
  apply subLt
  · intro w hw h
    rw [mw_and] at h
    exact (Bool.and_eq_true_iff.mp h).1
  · exact hne
theorem decLt {x : Int64} (h : ¬ x = 0) : (x &&& (x - (1 : Int64))).toBitVec.toNat < x.toBitVec.toNat := by
  have h0 : x.toBitVec.toNat ≠ 0 := fun q => h (bvEq (q.trans (by decide)))
  have h1 : (x - (1 : Int64)).toBitVec.toNat = x.toBitVec.toNat - 1 := by
    rw [Int64.toBitVec_sub, BitVec.toNat_sub, show (1 : Int64).toBitVec.toNat = 1 from by decide]
    have := x.toBitVec.isLt
    omega
  have h2 : (x &&& (x - (1 : Int64))).toBitVec.toNat ≤ (x - (1 : Int64)).toBitVec.toNat := by
    rw [Int64.toBitVec_and, BitVec.toNat_and]
    exact Nat.and_le_right
  omega
def hi (p : Int32) (g : Nat) : Prop := ((p >>> ((nI g) &&& 31)) &&& (1 : Int32)) = (1 : Int32)
theorem hiB : ∀ k, k < 64 → 1 ≤ k → ∃ g, g < 6 ∧ (((nI k) >>> ((nI g) &&& 31)) &&& (1 : Int32)) = (1 : Int32) := by decide +kernel
theorem SETG.hi {p : Int32} (h : SETG p) : ∃ g, g < 6 ∧ hi p g := by
  obtain ⟨k, h1, h2, rfl⟩ := h
  exact hiB k h2 h1
theorem setg63 : SETG (63 : Int32) := ⟨63, by decide, by decide, rfl⟩
theorem predLt : ∀ sn, sn < 41 → ∀ k, k < 41 → ((nI sn - 1 < nI k) ↔ sn ≤ k) := by decide +kernel
theorem predLe : ∀ sn, sn < 41 → (nI sn - 1 + 1 = nI sn) := by decide +kernel
theorem ynEq {sn : Nat} (h : sn ≤ 40) : ((nI sn - (1 : Int32)) + (1 : Int32)).toNatClampNeg = sn := by
  rw [predLe sn (by omega), nI_clamp (by omega)]
theorem eqIN {x : Int32} {n m : Nat} (e : n = m) (h : IN x n) : IN x m := e ▸ h
def INB (p bn : Int32) : Prop := ¬ p < 0 ∧ ¬ bn ≤ p
theorem nnC (x : Int32) (h : (x < 0 ∨ 6 ≤ x.toNatClampNeg) → False) : vp_in x 6 := h
theorem nnB {p : Int32} (h : IN p 13) (h0 : ¬ p = 0) (h1 : ¬ p = 1) (h2 : ¬ p = 2) (h3 : ¬ p = 3) (h4 : ¬ p = 4) (h11 : ¬ p = 11) (h12 : ¬ p = 12) : vp_in (p - (5 : Int32)) 6 := by
  obtain ⟨k, hk, rfl⟩ := h
  rcases (show k = 0 ∨ k = 1 ∨ k = 2 ∨ k = 3 ∨ k = 4 ∨ k = 5 ∨ k = 6 ∨ k = 7 ∨ k = 8 ∨ k = 9 ∨ k = 10 ∨ k = 11 ∨ k = 12 from by omega) with rfl | rfl | rfl | rfl | rfl | rfl | rfl | rfl | rfl | rfl | rfl | rfl | rfl
  · exact absurd rfl h0
  · exact absurd rfl h1
  · exact absurd rfl h2
  · exact absurd rfl h3
  · exact absurd rfl h4
  · exact nnC _ (by decide)
  · exact nnC _ (by decide)
  · exact nnC _ (by decide)
  · exact nnC _ (by decide)
  · exact nnC _ (by decide)
  · exact nnC _ (by decide)
  · exact absurd rfl h11
  · exact absurd rfl h12
theorem fpA : ∀ a, a < 41 → ∀ b, b < 41 → b = 0 ∨ ((FP.ddiv (FP.i2d (nI a)) (FP.i2d (nI b))) &&& 0x7fffffffffffffff ≤ 0x7ff0000000000000 ∧ (FP.dmul (4634204016564240384 : UInt64) (FP.ddiv (FP.i2d (nI a)) (FP.i2d (nI b)))) &&& 0x7fffffffffffffff ≤ 0x7ff0000000000000) := by decide +kernel
def WIT (r : UInt64) : Prop := vf_n64 (FP.dmul (4634204016564240384 : UInt64) r)
theorem wit0 : WIT FP.dconst0 := by
  show (FP.dmul (4634204016564240384 : UInt64) FP.dconst0) &&& 0x7fffffffffffffff ≤ 0x7ff0000000000000
  decide +kernel
theorem witA {a b : Int32} (ha : IN a 41) (hb : IN b 41) (h0 : ¬ b = 0) : vf_n64 (FP.ddiv (FP.i2d a) (FP.i2d b)) ∧ WIT (FP.ddiv (FP.i2d a) (FP.i2d b)) := by
  obtain ⟨x, hx, rfl⟩ := ha
  obtain ⟨y, hy, rfl⟩ := hb
  exact (fpA x hx y hy).resolve_left (fun q => h0 (by rw [q]; rfl))
theorem predIN {sn : Nat} (hn : sn ≤ 40) (h : ¬ (nI (((nI sn - (1 : Int32)) + (1 : Int32)).toNatClampNeg)) ≤ 0) : IN ((nI (((nI sn - (1 : Int32)) + (1 : Int32)).toNatClampNeg)) - (1 : Int32)) sn := by
  rw [ynEq hn] at h ⊢
  have h0 : 0 < sn := Nat.pos_of_ne_zero (fun q => h (by rw [q]; decide))
  exact ⟨sn - 1, by omega, by
    have := nI_pred (sn - 1)
    rw [show sn - 1 + 1 = sn by omega] at this
    exact this⟩
/-! the small ones, said exactly -/
theorem tX4_in {post : Int32 → Prop} {p1 p2 p3 : Int32} (hp : ∀ r, vZ r → (¬ r = 0 ↔ (¬ p1 < p2 ∧ ¬ p3 < p1)) → post r) : wX4_in post p1 p2 p3 :=
  ⟨fun c => hp _ (Or.inl rfl) ⟨fun q => absurd rfl q, fun q => absurd c q.1⟩, fun a => ⟨fun c => hp _ (Or.inl rfl) ⟨fun q => absurd rfl q, fun q => absurd c q.2⟩, fun b => hp _ (Or.inr rfl) ⟨fun _ => ⟨a, b⟩, fun _ => by decide⟩⟩⟩
theorem inRng {p : Int32} {n : Nat} (hn : n + 1 < 2 ^ 31) : (¬ p < 0 ∧ ¬ nI n < p) ↔ IN p (n + 1) := by
  have e0 : (0 : Int32).toInt = 0 := by decide
  rw [Int32.lt_iff_toInt_lt, Int32.lt_iff_toInt_lt, nI_toInt (by omega), e0]
  constructor
  · intro h
    exact ⟨p.toInt.toNat, by omega, Int32.toInt_inj.mp (by rw [nI_toInt (by omega)]; omega)⟩
  · rintro ⟨k, hk, rfl⟩
    rw [nI_toInt (by omega)]
    omega
theorem inSet {p : Int32} : (¬ p < 1 ∧ ¬ (63 : Int32) < p) ↔ SETG p := by
  have e0 : (1 : Int32).toInt = 1 := by decide
  have e1 : (63 : Int32).toInt = 63 := by decide
  rw [Int32.lt_iff_toInt_lt, Int32.lt_iff_toInt_lt, e0, e1]
  constructor
  · intro h
    exact ⟨p.toInt.toNat, by omega, by omega, Int32.toInt_inj.mp (by rw [nI_toInt (by omega)]; omega)⟩
  · rintro ⟨k, h1, h2, rfl⟩
    rw [nI_toInt (by omega)]
    omega
theorem predInt {n : Nat} (hn : n ≤ 40) : (nI n - (1 : Int32)).toInt = (n : Int) - 1 := by
  rw [Int32.toInt_sub, nI_toInt (by omega), show (1 : Int32).toInt = 1 from by decide]
  exact Int.bmod_eq_of_le (by omega) (by omega)
theorem inSen {p : Int32} {n : Nat} (hn : n ≤ 40) : (¬ p < 0 ∧ ¬ (nI n - (1 : Int32)) < p) ↔ IN p n := by
  have e0 : (0 : Int32).toInt = 0 := by decide
  rw [Int32.lt_iff_toInt_lt, Int32.lt_iff_toInt_lt, predInt hn, e0]
  constructor
  · intro h
    exact ⟨p.toInt.toNat, by omega, Int32.toInt_inj.mp (by rw [nI_toInt (by omega)]; omega)⟩
  · rintro ⟨k, hk, rfl⟩
    rw [nI_toInt (by omega)]
    omega
theorem tX4_isGuard {post : Int32 → Prop} {p1 : Int32} (hp : ∀ r, vZ r → (¬ r = 0 ↔ IN p1 6) → post r) : wX4_isGuard post p1 := tX4_in (fun r z h => ⟨z, hp r z (h.trans (inRng (n := 5) (by decide)))⟩)
theorem tX4_isSet {post : Int32 → Prop} {p1 : Int32} (hp : ∀ r, vZ r → (¬ r = 0 ↔ SETG p1) → post r) : wX4_isSet post p1 := tX4_in (fun r z h => ⟨z, hp r z (h.trans inSet)⟩)
theorem tX4_isSentence {post : Int32 → Prop} {sn : Nat} {p1 : Int32} (hn : sn ≤ 40) (hp : ∀ r, vZ r → (¬ r = 0 ↔ IN p1 sn) → post r) : wX4_isSentence post sn p1 := tX4_in (fun r z h => ⟨z, hp r z (h.trans (inSen hn))⟩)
theorem tX2_isGuard {post : Int32 → Prop} {p1 : Int32} (hp : ∀ r, vZ r → (¬ r = 0 ↔ IN p1 6) → post r) : wX2_isGuard post p1 :=
  ⟨fun c => hp _ (Or.inl rfl) ⟨fun q => absurd rfl q, fun q => absurd c ((inRng (n := 5) (by decide)).mpr q).1⟩, fun a => ⟨fun c => hp _ (Or.inl rfl) ⟨fun q => absurd rfl q, fun q => by
    obtain ⟨k, hk, rfl⟩ := q
    exact absurd c (notLe (a := 6) hk (by decide))⟩, fun b => hp _ (Or.inr rfl) ⟨fun _ => IN.rng (by decide) a b, fun _ => by decide⟩⟩⟩
theorem tX2_isFact {post : Int32 → Prop} {p1 : Int32} (hp : ∀ r, vZ r → (¬ r = 0 ↔ IN p1 6) → post r) : wX2_isFact post p1 :=
  ⟨fun c => hp _ (Or.inl rfl) ⟨fun q => absurd rfl q, fun q => absurd c ((inRng (n := 5) (by decide)).mpr q).1⟩, fun a => ⟨fun c => hp _ (Or.inl rfl) ⟨fun q => absurd rfl q, fun q => by
    obtain ⟨k, hk, rfl⟩ := q
    exact absurd c (notLe (a := 6) hk (by decide))⟩, fun b => hp _ (Or.inr rfl) ⟨fun _ => IN.rng (by decide) a b, fun _ => by decide⟩⟩⟩
theorem tX2_isSetOfGuards {post : Int32 → Prop} {p1 : Int32} (hp : ∀ r, vZ r → (¬ r = 0 ↔ SETG p1) → post r) : wX2_isSetOfGuards post p1 :=
  ⟨fun c => hp _ (Or.inl rfl) ⟨fun q => absurd rfl q, fun q => absurd c (inSet.mpr q).1⟩, fun a => ⟨fun c => hp _ (Or.inl rfl) ⟨fun q => absurd rfl q, fun q => absurd c (inSet.mpr q).2⟩, fun b => hp _ (Or.inr rfl) ⟨fun _ => inSet.mp ⟨a, b⟩, fun _ => by decide⟩⟩⟩
theorem tX0_holds {post : Int32 → Prop} {n : Nat} {p1 : Int32} (hn : n ≤ 40) (hp : ∀ r, vZ r → (¬ r = 0 ↔ IN p1 n) → post r) : wX0_holds post (nI n) p1 :=
  ⟨fun c => hp _ (Or.inl rfl) ⟨fun q => absurd rfl q, fun q => by
    obtain ⟨k, hk, rfl⟩ := q
    exact absurd c (nI_pos (by omega))⟩, fun a => ⟨fun c => hp _ (Or.inl rfl) ⟨fun q => absurd rfl q, fun q => by
    obtain ⟨k, hk, rfl⟩ := q
    exact absurd c (notLe hk (by omega))⟩, fun b => hp _ (Or.inr rfl) ⟨fun _ => IN.rng (by omega) a b, fun _ => by decide⟩⟩⟩
theorem tX4_has_ {post : Int32 → Prop} {p : Int64} {w : Nat} (hw : w < 64) (h0 : mw p w = false → post 0) (h1 : mw p w = true → post 1) : wX4_has_ post p (nI w) :=
  ⟨fun c => h0 (by
    cases hm : mw p w with
    | false => rfl
    | true => exact absurd ((has_mw p hw).mpr hm) c), fun c => h1 ((has_mw p hw).mp c)⟩
def hbV (p : Int64) (i : Int32) : Int32 := if lg_cmp ((jLushr p i) &&& (1 : Int64)) (1 : Int64) = 0 then 1 else 0
theorem eX4_has_ {post : Int32 → Prop} {p : Int64} {i : Int32} (h : post (hbV p i)) : wX4_has_ post p i := by
  unfold hbV at h
  refine ⟨fun c => ?_, fun c => ?_⟩
  · rw [if_neg c] at h
    exact h
  · rw [if_pos c] at h
    exact h
theorem tX4_has {post : Int32 → Prop} {p : Int32} {g : Nat} (h0 : ¬ hi p g → post 0) (h1 : hi p g → post 1) : wX4_has post p (nI g) := ⟨fun c => h0 c, fun c => h1 c⟩
/-! a sentence that fits -/
theorem wf0 {n : Nat} {a b : Int32} : wfS n 0 a b ↔ IN a 6 :=
  ⟨fun h => h.2.1 rfl, fun h => ⟨⟨0, by decide, rfl⟩, fun _ => h, fun q => absurd q (by decide), fun q => absurd q (by decide), fun q => absurd q (by decide), fun q => absurd rfl q⟩⟩
theorem wf1 {n : Nat} {a b : Int32} : wfS n 1 a b ↔ IN a n :=
  ⟨fun h => h.2.2.1 (Or.inl rfl), fun h => ⟨⟨1, by decide, rfl⟩, fun q => absurd q (by decide), fun _ => h, fun q => absurd q (by decide), fun q => absurd q (by decide), fun _ q => absurd rfl q⟩⟩
theorem wf2 {n : Nat} {a b : Int32} : wfS n 2 a b ↔ IN a n ∧ IN b n :=
  ⟨fun h => ⟨h.2.2.1 (Or.inr (Or.inl rfl)), h.2.2.2.2.2 (by decide) (by decide)⟩, fun h => ⟨⟨2, by decide, rfl⟩, fun q => absurd q (by decide), fun _ => h.1, fun q => absurd q (by decide), fun q => absurd q (by decide), fun _ _ => h.2⟩⟩
theorem wf3 {n : Nat} {a b : Int32} : wfS n 3 a b ↔ IN a n ∧ IN b n :=
  ⟨fun h => ⟨h.2.2.1 (Or.inr (Or.inr rfl)), h.2.2.2.2.2 (by decide) (by decide)⟩, fun h => ⟨⟨3, by decide, rfl⟩, fun q => absurd q (by decide), fun _ => h.1, fun q => absurd q (by decide), fun q => absurd q (by decide), fun _ _ => h.2⟩⟩
theorem wf4 {n : Nat} {a b : Int32} : wfS n 4 a b ↔ IN a 6 ∧ IN b n :=
  ⟨fun h => ⟨h.2.2.2.1 rfl, h.2.2.2.2.2 (by decide) (by decide)⟩, fun h => ⟨⟨4, by decide, rfl⟩, fun q => absurd q (by decide), fun q => absurd q (by decide), fun _ => h.1, fun q => absurd q (by decide), fun _ _ => h.2⟩⟩
theorem wf5 {n : Nat} {a b : Int32} : wfS n 5 a b ↔ SETG a ∧ IN b n :=
  ⟨fun h => ⟨h.2.2.2.2.1 (Or.inl rfl), h.2.2.2.2.2 (by decide) (by decide)⟩, fun h => ⟨⟨5, by decide, rfl⟩, fun q => absurd q (by decide), fun q => absurd q (by decide), fun q => absurd q (by decide), fun _ => h.1, fun _ _ => h.2⟩⟩
theorem wf6 {n : Nat} {a b : Int32} : wfS n 6 a b ↔ SETG a ∧ IN b n :=
  ⟨fun h => ⟨h.2.2.2.2.1 (Or.inr (Or.inl rfl)), h.2.2.2.2.2 (by decide) (by decide)⟩, fun h => ⟨⟨6, by decide, rfl⟩, fun q => absurd q (by decide), fun q => absurd q (by decide), fun q => absurd q (by decide), fun _ => h.1, fun _ _ => h.2⟩⟩
theorem wf7 {n : Nat} {a b : Int32} : wfS n 7 a b ↔ SETG a ∧ IN b n :=
  ⟨fun h => ⟨h.2.2.2.2.1 (Or.inr (Or.inr rfl)), h.2.2.2.2.2 (by decide) (by decide)⟩, fun h => ⟨⟨7, by decide, rfl⟩, fun q => absurd q (by decide), fun q => absurd q (by decide), fun q => absurd q (by decide), fun _ => h.1, fun _ _ => h.2⟩⟩
theorem tX0_fits {post : Int32 → Prop} {n : Nat} {p1 p2 p3 : Int32} (hn : n ≤ 40) (hp : ∀ r, vZ r → (¬ r = 0 ↔ wfS n p1 p2 p3) → post r) : wX0_fits post (nI n) p1 p2 p3 := by
  refine ⟨fun e => ?_, fun n0 => ⟨fun e => ?_, fun n1 => ⟨fun e => ?_, fun n2 => ⟨fun e => ?_, fun n3 => ⟨fun e => ?_, fun n4 => ⟨fun e => ?_, fun n5 => ⟨fun e => ?_, fun n6 => ⟨fun e => ?_, fun n7 => ?_⟩⟩⟩⟩⟩⟩⟩⟩
  · subst e
    exact tX2_isFact (fun r z f => ⟨z, hp r z (f.trans wf0.symm)⟩)
  · subst e
    exact tX0_holds hn (fun r z f => ⟨z, hp r z (f.trans wf1.symm)⟩)
  · subst e
    exact tX0_holds hn (fun r z f => ⟨fun e => hp _ (Or.inl rfl) ⟨fun q => absurd rfl q, fun q => absurd e (f.mpr (wf2.mp q).1)⟩, fun a => tX0_holds hn (fun r2 z2 f2 => ⟨fun e => hp _ (Or.inl rfl) ⟨fun q => absurd rfl q, fun q => absurd e (f2.mpr (wf2.mp q).2)⟩, fun b => hp _ (Or.inr rfl) ⟨fun _ => wf2.mpr ⟨f.mp a, f2.mp b⟩, fun _ => by decide⟩⟩)⟩)
  · subst e
    exact tX0_holds hn (fun r z f => ⟨fun e => hp _ (Or.inl rfl) ⟨fun q => absurd rfl q, fun q => absurd e (f.mpr (wf3.mp q).1)⟩, fun a => tX0_holds hn (fun r2 z2 f2 => ⟨fun e => hp _ (Or.inl rfl) ⟨fun q => absurd rfl q, fun q => absurd e (f2.mpr (wf3.mp q).2)⟩, fun b => hp _ (Or.inr rfl) ⟨fun _ => wf3.mpr ⟨f.mp a, f2.mp b⟩, fun _ => by decide⟩⟩)⟩)
  · subst e
    exact tX2_isGuard (fun r z f => ⟨fun e => hp _ (Or.inl rfl) ⟨fun q => absurd rfl q, fun q => absurd e (f.mpr (wf4.mp q).1)⟩, fun a => tX0_holds hn (fun r2 z2 f2 => ⟨fun e => hp _ (Or.inl rfl) ⟨fun q => absurd rfl q, fun q => absurd e (f2.mpr (wf4.mp q).2)⟩, fun b => hp _ (Or.inr rfl) ⟨fun _ => wf4.mpr ⟨f.mp a, f2.mp b⟩, fun _ => by decide⟩⟩)⟩)
  · subst e
    exact tX2_isSetOfGuards (fun r z f => ⟨fun e => hp _ (Or.inl rfl) ⟨fun q => absurd rfl q, fun q => absurd e (f.mpr (wf5.mp q).1)⟩, fun a => tX0_holds hn (fun r2 z2 f2 => ⟨fun e => hp _ (Or.inl rfl) ⟨fun q => absurd rfl q, fun q => absurd e (f2.mpr (wf5.mp q).2)⟩, fun b => hp _ (Or.inr rfl) ⟨fun _ => wf5.mpr ⟨f.mp a, f2.mp b⟩, fun _ => by decide⟩⟩)⟩)
  · subst e
    exact tX2_isSetOfGuards (fun r z f => ⟨fun e => hp _ (Or.inl rfl) ⟨fun q => absurd rfl q, fun q => absurd e (f.mpr (wf6.mp q).1)⟩, fun a => tX0_holds hn (fun r2 z2 f2 => ⟨fun e => hp _ (Or.inl rfl) ⟨fun q => absurd rfl q, fun q => absurd e (f2.mpr (wf6.mp q).2)⟩, fun b => hp _ (Or.inr rfl) ⟨fun _ => wf6.mpr ⟨f.mp a, f2.mp b⟩, fun _ => by decide⟩⟩)⟩)
  · subst e
    exact tX2_isSetOfGuards (fun r z f => ⟨fun e => hp _ (Or.inl rfl) ⟨fun q => absurd rfl q, fun q => absurd e (f.mpr (wf7.mp q).1)⟩, fun a => tX0_holds hn (fun r2 z2 f2 => ⟨fun e => hp _ (Or.inl rfl) ⟨fun q => absurd rfl q, fun q => absurd e (f2.mpr (wf7.mp q).2)⟩, fun b => hp _ (Or.inr rfl) ⟨fun _ => wf7.mpr ⟨f.mp a, f2.mp b⟩, fun _ => by decide⟩⟩)⟩)
  · refine hp _ (Or.inl rfl) ⟨fun q => absurd rfl q, fun q => ?_⟩
    obtain ⟨k, hk, rfl⟩ := q.1
    rcases (show k = 0 ∨ k = 1 ∨ k = 2 ∨ k = 3 ∨ k = 4 ∨ k = 5 ∨ k = 6 ∨ k = 7 from by omega) with rfl | rfl | rfl | rfl | rfl | rfl | rfl | rfl
    · exact absurd rfl n0
    · exact absurd rfl n1
    · exact absurd rfl n2
    · exact absurd rfl n3
    · exact absurd rfl n4
    · exact absurd rfl n5
    · exact absurd rfl n6
    · exact absurd rfl n7
