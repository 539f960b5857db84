/-! how many bits are set -/
def pcf : Nat → Nat → Nat
  | 0, _ => 0
  | n + 1, x => x % 2 + pcf n (x / 2)
def pc (x : Int64) : Nat := pcf 64 x.toBitVec.toNat
theorem pcf_le : ∀ n x, pcf n x ≤ n := by
  intro n
  induction n with
  | zero => exact fun _ => Nat.le_refl _
  | succ n ih =>
    intro x
    have := ih (x / 2)
    rw [pcf]
    omega
theorem pcf_zero : ∀ n, pcf n 0 = 0 := by
  intro n
  induction n with
  | zero => rfl
  | succ n ih =>
    rw [pcf, show 0 / 2 = 0 from rfl, ih]
theorem pcf_add : ∀ (n m a y : Nat), a < 2 ^ n → pcf (n + m) (a + 2 ^ n * y) = pcf n a + pcf m y := by
  intro n
  induction n with
  | zero =>
    intro m a y h
    obtain rfl : a = 0 := by omega
    rw [Nat.zero_add, Nat.zero_add, Nat.pow_zero, Nat.one_mul]
    show pcf m y = 0 + pcf m y
    rw [Nat.zero_add]
  | succ n ih =>
    intro m a y h
    rw [show n + 1 + m = (n + m) + 1 by omega, pcf, pcf, Nat.pow_succ, show (a + 2 ^ n * 2 * y) % 2 = a % 2 from by
      rw [show 2 ^ n * 2 * y = 2 * (2 ^ n * y) from by rw [Nat.mul_comm (2 ^ n) 2, Nat.mul_assoc]]
      omega, show (a + 2 ^ n * 2 * y) / 2 = a / 2 + 2 ^ n * y from by
      rw [show 2 ^ n * 2 * y = 2 * (2 ^ n * y) from by rw [Nat.mul_comm (2 ^ n) 2, Nat.mul_assoc]]
      omega, ih m (a / 2) y (by
      rw [Nat.pow_succ] at h
      omega)]
    omega
theorem tb0 (x : Nat) : x % 2 = if x.testBit 0 then 1 else 0 := by
  rw [Nat.testBit_zero]
  by_cases h : x % 2 = 1
  · rw [decide_eq_true h, if_pos rfl, h]
  · rw [decide_eq_false h, if_neg (by decide)]
    omega
theorem pcf_ext : ∀ (n x y : Nat), (∀ i, i < n → x.testBit i = y.testBit i) → pcf n x = pcf n y := by
  intro n
  induction n with
  | zero => exact fun _ _ _ => rfl
  | succ n ih =>
    intro x y h
    rw [pcf, pcf, tb0 x, tb0 y, h 0 (by omega), ih (x / 2) (y / 2) (fun i hi => by rw [← Nat.testBit_succ, ← Nat.testBit_succ]; exact h (i + 1) (by omega))]
theorem pcf_mono : ∀ (n x y : Nat), (∀ i, i < n → x.testBit i = true → y.testBit i = true) → pcf n x ≤ pcf n y := by
  intro n
  induction n with
  | zero => exact fun _ _ _ => Nat.le_refl _
  | succ n ih =>
    intro x y h
    have h1 := ih (x / 2) (y / 2) (fun i hi q => by
      rw [← Nat.testBit_succ] at q ⊢
      exact h (i + 1) (by omega) q)
    have h2 : x % 2 ≤ y % 2 := by
      rw [tb0 x, tb0 y]
      cases hx : x.testBit 0 with
      | false => exact Nat.zero_le _
      | true => rw [h 0 (by omega) hx]; exact Nat.le_refl _
    rw [pcf, pcf]
    omega
theorem pcf_lt : ∀ (n x y j : Nat), (∀ i, i < n → x.testBit i = true → y.testBit i = true) → j < n → y.testBit j = true → x.testBit j = false → pcf n x < pcf n y := by
  intro n
  induction n with
  | zero => exact fun _ _ _ _ h => absurd h (Nat.not_lt_zero _)
  | succ n ih =>
    intro x y j h hj hy hx
    have hs : ∀ i, i < n → (x / 2).testBit i = true → (y / 2).testBit i = true := fun i hi q => by
      rw [← Nat.testBit_succ] at q ⊢
      exact h (i + 1) (by omega) q
    rw [pcf, pcf, tb0 x, tb0 y]
    cases j with
    | zero =>
      have h1 := pcf_mono n (x / 2) (y / 2) hs
      rw [hx, hy, if_neg (by decide), if_pos rfl]
      omega
    | succ j =>
      rw [Nat.testBit_succ] at hx hy
      have h1 := ih (x / 2) (y / 2) j hs (by omega) hy hx
      have h2 : (if x.testBit 0 = true then 1 else 0) ≤ (if y.testBit 0 = true then 1 else 0) := by
        cases hx0 : x.testBit 0 with
        | false => exact Nat.zero_le _
        | true => rw [h 0 (by omega) hx0]; exact Nat.le_refl _
      omega
/-- the lowest bit taken away -/
theorem pcf_dec : ∀ (n x : Nat), 0 < x → x < 2 ^ n → pcf n (x &&& (x - 1)) + 1 = pcf n x := by
  intro n
  induction n with
  | zero =>
    intro x h h2
    omega
  | succ n ih =>
    intro x h h2
    rw [Nat.pow_succ] at h2
    rcases Nat.mod_two_eq_zero_or_one x with e | e
    · have hy : 0 < x / 2 := by omega
      have h3 := ih (x / 2) hy (by omega)
      have ex : x &&& (x - 1) = 2 * (x / 2 &&& (x / 2 - 1)) := by
        apply Nat.eq_of_testBit_eq
        intro i
        cases i with
        | zero => rw [Nat.testBit_and, Nat.testBit_zero, Nat.testBit_zero, Nat.testBit_zero, e, show 2 * (x / 2 &&& (x / 2 - 1)) % 2 = 0 from by omega]; rfl
        | succ i => rw [Nat.testBit_and, Nat.testBit_succ, Nat.testBit_succ, Nat.testBit_succ, show 2 * (x / 2 &&& (x / 2 - 1)) / 2 = (x / 2 &&& (x / 2 - 1)) from by omega, Nat.testBit_and, show (x - 1) / 2 = x / 2 - 1 from by omega]
      rw [ex, pcf, pcf, show 2 * (x / 2 &&& (x / 2 - 1)) % 2 = 0 from by omega, show 2 * (x / 2 &&& (x / 2 - 1)) / 2 = (x / 2 &&& (x / 2 - 1)) from by omega, e]
      omega
    · have ex : x &&& (x - 1) = 2 * (x / 2) := by
        apply Nat.eq_of_testBit_eq
        intro i
        cases i with
        | zero => rw [Nat.testBit_and, Nat.testBit_zero, Nat.testBit_zero, Nat.testBit_zero, show (x - 1) % 2 = 0 from by omega, show 2 * (x / 2) % 2 = 0 from by omega]; simp
        | succ i => rw [Nat.testBit_and, Nat.testBit_succ, Nat.testBit_succ, Nat.testBit_succ, show (x - 1) / 2 = x / 2 from by omega, show 2 * (x / 2) / 2 = x / 2 from by omega, Bool.and_self]
      rw [ex, pcf, pcf, show 2 * (x / 2) % 2 = 0 from by omega, show 2 * (x / 2) / 2 = x / 2 from by omega, e]
      omega
theorem pc_le (x : Int64) : pc x ≤ 64 := pcf_le _ _
theorem pc_zero : pc 0 = 0 := by
  unfold pc
  rw [show (0 : Int64).toBitVec.toNat = 0 from by decide]
  exact pcf_zero _
theorem pc_mono {x y : Int64} (h : SUBW x y) : pc x ≤ pc y := pcf_mono 64 _ _ h
theorem pc_lt {x y : Int64} (h : SUBW x y) {w : Nat} (hw : w < 64) (hy : mw y w = true) (hx : mw x w = false) : pc x < pc y := pcf_lt 64 _ _ w h hw hy hx
theorem pc_ext {x y : Int64} (h : ∀ w, w < 64 → mw x w = mw y w) : pc x = pc y := pcf_ext 64 _ _ h
theorem pc_eq0 {x : Int64} (h : pc x = 0) : x = 0 := by
  apply mw_ext
  intro w hw
  rw [mw_zero]
  cases e : mw x w with
  | false => rfl
  | true =>
    have := pc_lt (x := 0) (y := x) (fun v _ q => by rw [mw_zero] at q; exact absurd q (by decide)) hw e (mw_zero w)
    omega
theorem mw_some {x : Int64} (h : ¬ x = 0) : ∃ w, w < 64 ∧ mw x w = true := by
  refine Classical.byContradiction fun q => h ?_
  apply mw_ext
  intro w hw
  rw [mw_zero]
  cases e : mw x w with
  | false => rfl
  | true => exact absurd ⟨w, hw, e⟩ q
theorem pc_dec {x : Int64} (h : ¬ x = 0) : pc (x &&& (x - (1 : Int64))) + 1 = pc x := by
  have h0 : x.toBitVec.toNat ≠ 0 := fun q => h (bvEq (q.trans (by decide)))
  unfold pc
  rw [Int64.toBitVec_and, BitVec.toNat_and, Int64.toBitVec_sub, BitVec.toNat_sub, show (1 : Int64).toBitVec.toNat = 1 from by decide, show (2 ^ 64 - 1 + x.toBitVec.toNat) % 2 ^ 64 = x.toBitVec.toNat - 1 from by
    have := x.toBitVec.isLt
    omega]
  exact pcf_dec 64 _ (Nat.pos_of_ne_zero h0) x.toBitVec.isLt
/-- the reference counts them one by one -/
theorem eX4_size__L4 {post : Int32 → Prop} {K22 : Int32 → Int64 → Prop} (c : Nat) (hK : K22 (nI c) 0) : ∀ (n : Nat) (k : Nat) (i3 : Int64), pc i3 ≤ n → k + pc i3 = c → wX4_size__L4 post K22 (n + 1) (nI k) i3 := by
  intro n
  induction n with
  | zero =>
    intro k i3 h hk
    have e : i3 = 0 := pc_eq0 (by omega)
    subst e
    obtain rfl : k = c := by
      rw [pc_zero] at hk
      omega
    exact ⟨fun _ => hK, fun q => absurd ((lg_cmp_eq _ _).mpr rfl) q⟩
  | succ n ih =>
    intro k i3 h hk
    refine ⟨fun q => ?_, fun q => ?_⟩
    · have e := (lg_cmp_eq _ _).mp q
      subst e
      obtain rfl : k = c := by
        rw [pc_zero] at hk
        omega
      exact hK
    · have := pc_dec (x := i3) (fun e => q ((lg_cmp_eq _ _).mpr e))
      rw [← nI_succ]
      exact ih (k + 1) _ (by omega) (by omega)
theorem eX4_size_ {post : Int32 → Prop} {x : Int64} (h : post (nI (pc x))) : wX4_size_ post x := ⟨pc x + 1, eX4_size__L4 (pc x) h (pc x) 0 x (Nat.le_refl _) (Nat.zero_add _)⟩
theorem szV : ∀ k, k < 64 → ∀ c, c < 7 → (nI c + (nI k - nI k / (2 : Int32) * (2 : Int32))) = nI (c + k % 2) ∧ nI k / (2 : Int32) = nI (k / 2) := by decide +kernel
theorem eX4_size_L4 {post : Int32 → Prop} {K21 : Int32 → Int32 → Prop} (t : Nat) (hK : K21 (nI t) 0) : ∀ (n : Nat), n < 7 → ∀ (c k : Nat), k < 2 ^ n → c + n < 7 → c + pcf n k = t → wX4_size_L4 post K21 (n + 1) (nI c) (nI k) := by
  intro n
  induction n with
  | zero =>
    intro _ c k hk hc ht
    obtain rfl : k = 0 := by omega
    obtain rfl : c = t := ht
    exact ⟨fun _ => hK, fun q => absurd (by decide) q⟩
  | succ n ih =>
    intro hn c k hk hc ht
    have hp : 2 ^ (n + 1) ≤ 64 := Nat.le_trans (Nat.pow_le_pow_right (by decide) (show n + 1 ≤ 6 by omega)) (by decide)
    rw [pcf] at ht
    refine ⟨fun q => ?_, fun q x hx => ?_⟩
    · have e : k = 0 := Nat.eq_zero_of_not_pos (fun p => nI_nle p (by omega) q)
      subst e
      rw [pcf_zero] at ht
      obtain rfl : c = t := by omega
      exact hK
    · obtain ⟨e1, e2⟩ := szV k (by omega) c (by omega)
      rw [hx, e1, e2]
      rw [Nat.pow_succ] at hk
      have := ih (by omega) (c + k % 2) (k / 2) (by omega)
      by_cases hc2 : c + k % 2 + n < 7
      · exact this hc2 (by omega)
      · omega
theorem eX4_size {post : Int32 → Prop} {k : Nat} (hk : k < 64) (h : post (nI (pcf 6 k))) : wX4_size post (nI k) := ⟨7, eX4_size_L4 (pcf 6 k) h 6 (by decide) 0 k hk (by decide) (Nat.zero_add _)⟩
/-- the library's count of an int's bits, of a set of guards -/
def j6 (p1 : Int32) : Int32 :=
  let x_1 : Int32 := p1 - ((jIushr p1 (1 : Int32)) &&& (1431655765 : Int32))
  let x_2 : Int32 := (x_1 &&& (858993459 : Int32)) + ((jIushr x_1 (2 : Int32)) &&& (858993459 : Int32))
  let x_3 : Int32 := (x_2 + (jIushr x_2 (4 : Int32))) &&& (252645135 : Int32)
  let x_4 : Int32 := (x_3 + (jIushr x_3 (8 : Int32))) + (jIushr (x_3 + (jIushr x_3 (8 : Int32))) (16 : Int32))
  x_4 &&& (63 : Int32)
theorem j6V : ∀ k, k < 64 → j6 (nI k) = nI (pcf 6 k) := by decide +kernel
theorem eJ6_bitCount {post : Int32 → Prop} {k : Nat} (hk : k < 64) (h : post (nI (pcf 6 k))) : wJ6_bitCount_0f7a4 post (nI k) := by
  intro x1 e1 x2 e2 x3 e3 x4 e4
  subst e1 e2 e3 e4
  rw [← j6V k hk] at h
  exact h
/-! the library's count of a long's bits: byte by byte -/
def m5 : Nat → Nat
  | 0 => 0
  | n + 1 => 85 + 256 * m5 n
def m3 : Nat → Nat
  | 0 => 0
  | n + 1 => 51 + 256 * m3 n
def mf : Nat → Nat
  | 0 => 0
  | n + 1 => 15 + 256 * mf n
def t1 (a : Nat) : Nat := a - ((a / 2) &&& 85)
def t2 (a : Nat) : Nat := (t1 a &&& 51) + ((t1 a / 4) &&& 51)
def t3 (a : Nat) : Nat := (t2 a + t2 a / 16) &&& 15
def b1 : Nat → Nat → Nat
  | 0, _ => 0
  | n + 1, x => t1 (x % 256) + 256 * b1 n (x / 256)
def b2 : Nat → Nat → Nat
  | 0, _ => 0
  | n + 1, x => t2 (x % 256) + 256 * b2 n (x / 256)
def b3 : Nat → Nat → Nat
  | 0, _ => 0
  | n + 1, x => t3 (x % 256) + 256 * b3 n (x / 256)
theorem byteAnd {c d : Nat} (hc : c < 256) (hd : d < 256) (z m : Nat) : (c + 256 * z) &&& (d + 256 * m) = (c &&& d) + 256 * (z &&& m) := by
  have h : (c &&& d) < 2 ^ 8 := Nat.and_lt_two_pow c hd
  apply Nat.eq_of_testBit_eq
  intro i
  rw [Nat.testBit_and, Nat.add_comm c, Nat.add_comm d, Nat.add_comm (c &&& d), show (256 : Nat) = 2 ^ 8 from rfl, Nat.testBit_two_pow_mul_add z (show c < 2 ^ 8 from hc), Nat.testBit_two_pow_mul_add m (show d < 2 ^ 8 from hd), Nat.testBit_two_pow_mul_add (z &&& m) h]
  by_cases hi : i < 8
  · rw [if_pos hi, if_pos hi, if_pos hi, Nat.testBit_and]
  · rw [if_neg hi, if_neg hi, if_neg hi, Nat.testBit_and]
theorem k1 : ∀ a, a < 256 → ∀ r, r < 2 → (a / 2 + 128 * r) &&& 85 = (a / 2) &&& 85 ∧ (a / 2) &&& 85 ≤ a ∧ t1 a < 256 := by decide +kernel
theorem k2 : ∀ a, a < 256 → ∀ r, r < 4 → (t1 a / 4 + 64 * r) &&& 51 = (t1 a / 4) &&& 51 := by decide +kernel
theorem k3 : ∀ a, a < 256 → ∀ r, r < 5 → t2 a + t2 a / 16 + 16 * r < 256 ∧ (t2 a + t2 a / 16 + 16 * r) &&& 15 = t3 a := by decide +kernel
theorem k4 : ∀ a, a < 256 → t2 a % 16 < 5 ∧ t2 a < 256 ∧ t3 a = pcf 8 a := by decide +kernel
theorem sA1 : ∀ (n x : Nat), x < 256 ^ n → x - ((x / 2) &&& m5 n) = b1 n x ∧ (x / 2) &&& m5 n ≤ x := by
  intro n
  induction n with
  | zero =>
    intro x h
    obtain rfl : x = 0 := by omega
    exact ⟨rfl, Nat.le_refl _⟩
  | succ n ih =>
    intro x h
    rw [Nat.pow_succ] at h
    obtain ⟨h1, h2⟩ := ih (x / 256) (by omega)
    obtain ⟨e1, e2, e3⟩ := k1 (x % 256) (by omega) (x / 256 % 2) (by omega)
    have ex : x / 2 = (x % 256 / 2 + 128 * (x / 256 % 2)) + 256 * (x / 256 / 2) := by omega
    have ea : (x / 2) &&& m5 (n + 1) = ((x % 256 / 2) &&& 85) + 256 * ((x / 256 / 2) &&& m5 n) := by
      rw [ex, m5, byteAnd (by omega) (by decide), e1]
    rw [ea, b1, t1, ← h1]
    omega
theorem sA2 : ∀ (n x : Nat), x < 256 ^ n → (b1 n x &&& m3 n) + ((b1 n x / 4) &&& m3 n) = b2 n x := by
  intro n
  induction n with
  | zero =>
    intro x h
    exact (by decide : (0 &&& 0) + ((0 / 4) &&& 0) = 0)
  | succ n ih =>
    intro x h
    rw [Nat.pow_succ] at h
    have h1 := ih (x / 256) (by omega)
    have e3 := (k1 (x % 256) (by omega) 0 (by decide)).2.2
    have e1 := k2 (x % 256) (by omega) (b1 n (x / 256) % 4) (by omega)
    have ex : (t1 (x % 256) + 256 * b1 n (x / 256)) / 4 = (t1 (x % 256) / 4 + 64 * (b1 n (x / 256) % 4)) + 256 * (b1 n (x / 256) / 4) := by omega
    rw [b1, m3, ex, byteAnd e3 (by decide), byteAnd (by omega) (by decide), e1, b2, t2, ← h1]
    omega
theorem b2m : ∀ (n x : Nat), b2 n x % 16 < 5 := by
  intro n x
  cases n with
  | zero => exact (by decide : 0 % 16 < 5)
  | succ n =>
    have := (k4 (x % 256) (by omega)).1
    rw [b2]
    omega
theorem sA3 : ∀ (n x : Nat), x < 256 ^ n → (b2 n x + b2 n x / 16) &&& mf n = b3 n x := by
  intro n
  induction n with
  | zero =>
    intro x h
    exact (by decide : (0 + 0 / 16) &&& 0 = 0)
  | succ n ih =>
    intro x h
    rw [Nat.pow_succ] at h
    have h1 := ih (x / 256) (by omega)
    obtain ⟨e1, e2⟩ := k3 (x % 256) (by omega) (b2 n (x / 256) % 16) (b2m _ _)
    have ex : (t2 (x % 256) + 256 * b2 n (x / 256)) + (t2 (x % 256) + 256 * b2 n (x / 256)) / 16 = (t2 (x % 256) + t2 (x % 256) / 16 + 16 * (b2 n (x / 256) % 16)) + 256 * (b2 n (x / 256) + b2 n (x / 256) / 16) := by omega
    rw [b2, mf, ex, byteAnd e1 (by decide), e2, b3, ← h1]
theorem k5 : ∀ a, a < 256 → 2 * t2 a < 256 := by decide +kernel
theorem b2lt : ∀ (n x : Nat), b2 n x < 256 ^ n := by
  intro n
  induction n with
  | zero =>
    intro x
    exact Nat.one_pos
  | succ n ih =>
    intro x
    have h1 := ih (x / 256)
    have h2 := (k4 (x % 256) (by omega)).2.1
    rw [b2, Nat.pow_succ]
    omega
theorem ushrN (p : Int64) {w : Nat} (hw : w < 64) : (jLushr p (nI w)).toBitVec.toNat = p.toBitVec.toNat >>> w := by
  show ((p.toUInt64 >>> ((nI w).toInt64.toUInt64 &&& Int64.toUInt64 63)).toInt64).toBitVec.toNat = _
  rw [show ∀ u : UInt64, u.toInt64.toBitVec = u.toBitVec from fun _ => rfl, UInt64.toBitVec_shiftRight, BitVec.ushiftRight_eq', BitVec.toNat_ushiftRight, BitVec.toNat_umod, show (64 : BitVec 64).toNat = 64 from rfl, shN w hw]
  rfl
theorem b2lt2 : ∀ (n x : Nat), 2 * b2 n x < 256 ^ n := by
  intro n
  induction n with
  | zero =>
    intro x
    exact (by decide : 2 * 0 < 256 ^ 0)
  | succ n ih =>
    intro x
    have h1 := ih (x / 256)
    have h2 := k5 (x % 256) (by omega)
    rw [b2, Nat.pow_succ]
    omega
def sb : Nat → Nat → Nat
  | 0, _ => 0
  | n + 1, x => t3 (x % 256) + sb n (x / 256)
theorem sbE : ∀ (n x : Nat), pcf (8 * n) x = sb n x := by
  intro n
  induction n with
  | zero => exact fun _ => rfl
  | succ n ih =>
    intro x
    rw [show 8 * (n + 1) = 8 + 8 * n by omega, sb, ← ih, (k4 (x % 256) (by omega)).2.2]
    have := pcf_add 8 (8 * n) (x % 256) (x / 256) (by omega)
    rw [show x % 256 + 2 ^ 8 * (x / 256) = x by omega] at this
    exact this
theorem t3le (a : Nat) : t3 a ≤ 15 := by
  unfold t3
  exact Nat.and_le_right
theorem t3le8 {a : Nat} (h : a < 256) : t3 a ≤ 8 := by
  rw [(k4 a h).2.2]
  exact pcf_le _ _
theorem b3S (n x : Nat) : ∃ p, p ≤ 8 ∧ b3 (n + 1) x = p + 256 * b3 n (x / 256) ∧ sb (n + 1) x = p + sb n (x / 256) := ⟨t3 (x % 256), t3le8 (by omega), rfl, rfl⟩
theorem nIbv {k : Nat} (h : k < 2 ^ 32) : (nI k).toBitVec.toNat = k := by
  show (Int32.ofNat k).toBitVec.toNat = k
  rw [Int32.toBitVec_ofNat', BitVec.toNat_ofNat]
  exact Nat.mod_eq_of_lt h
theorem eJ13_bitCount {post : Int32 → Prop} {x : Int64} (h : post (nI (pc x))) : wJ13_bitCount_95d88 post x := by
  intro x1 e1 x2 e2 x3 e3 x4 e4
  have hx : x.toBitVec.toNat < 256 ^ 8 := x.toBitVec.isLt
  have hX : x.toBitVec.toNat < 2 ^ 64 := x.toBitVec.isLt
  obtain ⟨a1, a2⟩ := sA1 8 _ hx
  have n1 : x1.toBitVec.toNat = b1 8 x.toBitVec.toNat := by
    rw [e1, Int64.toBitVec_sub, BitVec.toNat_sub, Int64.toBitVec_and, BitVec.toNat_and, show (jLushr x (1 : Int32)).toBitVec.toNat = x.toBitVec.toNat >>> 1 from ushrN x (by decide), Nat.shiftRight_eq_div_pow, show (2 : Nat) ^ 1 = 2 from rfl, show (6148914691236517205 : Int64).toBitVec.toNat = m5 8 from by decide +kernel, ← a1]
    omega
  have b2l := b2lt2 8 x.toBitVec.toNat
  rw [show (256 : Nat) ^ 8 = 18446744073709551616 from by decide] at b2l
  have n2 : x2.toBitVec.toNat = b2 8 x.toBitVec.toNat := by
    rw [e2, Int64.toBitVec_add, BitVec.toNat_add, Int64.toBitVec_and, Int64.toBitVec_and, BitVec.toNat_and, BitVec.toNat_and, show (jLushr x1 (2 : Int32)).toBitVec.toNat = x1.toBitVec.toNat >>> 2 from ushrN x1 (by decide), Nat.shiftRight_eq_div_pow, show (3689348814741910323 : Int64).toBitVec.toNat = m3 8 from by decide +kernel, n1, show (2 : Nat) ^ 2 = 4 from rfl, sA2 8 _ hx]
    omega
  have n3 : x3.toBitVec.toNat = b3 8 x.toBitVec.toNat := by
    rw [e3, Int64.toBitVec_and, BitVec.toNat_and, Int64.toBitVec_add, BitVec.toNat_add, show (jLushr x2 (4 : Int32)).toBitVec.toNat = x2.toBitVec.toNat >>> 4 from ushrN x2 (by decide), Nat.shiftRight_eq_div_pow, show (1085102592571150095 : Int64).toBitVec.toNat = mf 8 from by decide +kernel, n2, show (2 : Nat) ^ 4 = 16 from rfl, ← sA3 8 _ hx]
    congr 1
    omega
  obtain ⟨p0, q0, y0, s0⟩ := b3S 7 x.toBitVec.toNat
  obtain ⟨p1, q1, y1, s1⟩ := b3S 6 (x.toBitVec.toNat / 256)
  obtain ⟨p2, q2, y2, s2⟩ := b3S 5 (x.toBitVec.toNat / 256 / 256)
  obtain ⟨p3, q3, y3, s3⟩ := b3S 4 (x.toBitVec.toNat / 256 / 256 / 256)
  obtain ⟨p4, q4, y4, s4⟩ := b3S 3 (x.toBitVec.toNat / 256 / 256 / 256 / 256)
  obtain ⟨p5, q5, y5, s5⟩ := b3S 2 (x.toBitVec.toNat / 256 / 256 / 256 / 256 / 256)
  obtain ⟨p6, q6, y6, s6⟩ := b3S 1 (x.toBitVec.toNat / 256 / 256 / 256 / 256 / 256 / 256)
  obtain ⟨p7, q7, y7, s7⟩ := b3S 0 (x.toBitVec.toNat / 256 / 256 / 256 / 256 / 256 / 256 / 256)
  have hs : pc x = p0 + p1 + p2 + p3 + p4 + p5 + p6 + p7 := by
    show pcf (8 * 8) x.toBitVec.toNat = _
    rw [sbE, s0, s1, s2, s3, s4, s5, s6, s7, sb]
    omega
  rw [b3] at y7
  generalize b3 1 (x.toBitVec.toNat / 256 / 256 / 256 / 256 / 256 / 256 / 256) = z7 at y6 y7
  generalize b3 2 (x.toBitVec.toNat / 256 / 256 / 256 / 256 / 256 / 256) = z6 at y5 y6
  generalize b3 3 (x.toBitVec.toNat / 256 / 256 / 256 / 256 / 256) = z5 at y4 y5
  generalize b3 4 (x.toBitVec.toNat / 256 / 256 / 256 / 256) = z4 at y3 y4
  generalize b3 5 (x.toBitVec.toNat / 256 / 256 / 256) = z3 at y2 y3
  generalize b3 6 (x.toBitVec.toNat / 256 / 256) = z2 at y1 y2
  generalize b3 7 (x.toBitVec.toNat / 256) = z1 at y0 y1
  generalize b3 8 x.toBitVec.toNat = z0 at y0 n3
  have bz : z0 < 2 ^ 60 := by omega
  have d1 : z0 / 256 = z1 := by omega
  have d2 : (z0 + z1) / 65536 = z2 + z3 := by omega
  have d3 : (z0 + z1 + (z2 + z3)) / 4294967296 = z4 + z5 + z6 + z7 := by omega
  have d4 : (z0 + z1 + (z2 + z3) + (z4 + z5 + z6 + z7)) % 256 = pc x := by omega
  have u1 : (x3 + jLushr x3 (8 : Int32)).toBitVec.toNat = z0 + z1 := by
    rw [Int64.toBitVec_add, BitVec.toNat_add, show (jLushr x3 (8 : Int32)).toBitVec.toNat = x3.toBitVec.toNat >>> 8 from ushrN x3 (by decide), Nat.shiftRight_eq_div_pow, n3, show (2 : Nat) ^ 8 = 256 from rfl, d1]
    omega
  have u2 : x4.toBitVec.toNat = z0 + z1 + (z2 + z3) := by
    rw [e4, Int64.toBitVec_add, BitVec.toNat_add, show (jLushr (x3 + jLushr x3 (8 : Int32)) (16 : Int32)).toBitVec.toNat = (x3 + jLushr x3 (8 : Int32)).toBitVec.toNat >>> 16 from ushrN _ (by decide), Nat.shiftRight_eq_div_pow, u1, show (2 : Nat) ^ 16 = 65536 from rfl, d2]
    omega
  have u3 : (x4 + jLushr x4 (32 : Int32)).toBitVec.toNat = z0 + z1 + (z2 + z3) + (z4 + z5 + z6 + z7) := by
    rw [Int64.toBitVec_add, BitVec.toNat_add, show (jLushr x4 (32 : Int32)).toBitVec.toNat = x4.toBitVec.toNat >>> 32 from ushrN x4 (by decide), Nat.shiftRight_eq_div_pow, u2, show (2 : Nat) ^ 32 = 4294967296 from by decide, d3]
    omega
  have hp := pc_le x
  have e : ((x4 + jLushr x4 (32 : Int32)).toInt32 &&& (127 : Int32)) = nI (pc x) := by
    apply Int32.toBitVec_inj.mp
    apply BitVec.eq_of_toNat_eq
    rw [Int32.toBitVec_and, BitVec.toNat_and, Int64.toBitVec_toInt32, BitVec.signExtend_eq_setWidth_of_le _ (by decide), BitVec.toNat_setWidth, u3, nIbv (by omega), show (127 : Int32).toBitVec.toNat = 2 ^ 7 - 1 from by decide, Nat.and_two_pow_sub_one_eq_mod]
    omega
  show post ((x4 + jLushr x4 (32 : Int32)).toInt32 &&& (127 : Int32))
  rw [e]
  exact h
/-! the smallest of a set -/
theorem lowB : ∀ (n x : Nat), 0 < x → x < 2 ^ n → ∃ t, t < n ∧ x.testBit t = true ∧ x &&& (2 ^ n - x) = 2 ^ t := by
  intro n
  induction n with
  | zero =>
    intro x h h2
    omega
  | succ n ih =>
    intro x h h2
    rw [Nat.pow_succ] at h2
    rcases Nat.mod_two_eq_zero_or_one x with e | e
    · obtain ⟨t, ht, hb, he⟩ := ih (x / 2) (by omega) (by omega)
      refine ⟨t + 1, by omega, by rw [Nat.testBit_succ]; exact hb, ?_⟩
      apply Nat.eq_of_testBit_eq
      intro i
      rw [Nat.testBit_and, Nat.testBit_two_pow]
      cases i with
      | zero => rw [Nat.testBit_zero, e]; simp
      | succ i =>
        rw [Nat.testBit_succ, Nat.testBit_succ, show (2 ^ (n + 1) - x) / 2 = 2 ^ n - x / 2 from by rw [Nat.pow_succ]; omega, ← Nat.testBit_and, he, Nat.testBit_two_pow]
        simp
    · refine ⟨0, by omega, by rw [Nat.testBit_zero, e]; rfl, ?_⟩
      apply Nat.eq_of_testBit_eq
      intro i
      rw [Nat.testBit_and, Nat.testBit_two_pow]
      cases i with
      | zero => rw [Nat.testBit_zero, Nat.testBit_zero, e, show (2 ^ (n + 1) - x) % 2 = 1 from by rw [Nat.pow_succ]; omega]; simp
      | succ i =>
        rw [Nat.testBit_succ, Nat.testBit_succ, show (2 ^ (n + 1) - x) / 2 = 2 ^ n - (x / 2 + 1) from by rw [Nat.pow_succ]; omega, Nat.testBit_two_pow_sub_succ (by omega)]
        simp
        exact fun q _ => q
theorem lowP : ∀ t, t < 64 → pcf 64 (2 ^ t - 1) = t := by decide +kernel
theorem tX2_smallestOf {post : Int32 → Prop} {x : Int64} (hx : ¬ x = 0) (h : ∀ t, t < 64 → mw x t = true → post (nI t)) : wX2_smallestOf post x := by
  have h0 : 0 < x.toBitVec.toNat := Nat.pos_of_ne_zero (fun q => hx (bvEq (q.trans (by decide))))
  obtain ⟨t, ht, hb, he⟩ := lowB 64 _ h0 x.toBitVec.isLt
  refine eJ13_bitCount ?_
  have e : pc ((x &&& (-x)) - (1 : Int64)) = t := by
    unfold pc
    rw [Int64.toBitVec_sub, BitVec.toNat_sub, Int64.toBitVec_and, BitVec.toNat_and, Int64.toBitVec_neg, BitVec.toNat_neg, show (1 : Int64).toBitVec.toNat = 1 from by decide, show (2 ^ 64 - x.toBitVec.toNat) % 2 ^ 64 = 2 ^ 64 - x.toBitVec.toNat from by omega, he]
    have h1 : 2 ^ t < 2 ^ 64 := Nat.pow_lt_pow_right (by decide) ht
    have h2 : 0 < 2 ^ t := Nat.two_pow_pos t
    rw [show (2 ^ 64 - 1 + 2 ^ t) % 2 ^ 64 = 2 ^ t - 1 from by omega]
    exact lowP t ht
  rw [e]
  exact h t ht hb
