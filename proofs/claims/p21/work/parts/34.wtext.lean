/-! texts: what they hold are bytes, how long they are, what room they take -/
def FBs (f : Nat → Int32) : Prop := ∀ i, FB (f i)
theorem FB0 : FB (0 : Int32) := by
  unfold FB
  decide
theorem FBn (x : Int32) : FB (vp_nar .byte x) := by
  have h1 := Int8.le_toInt x.toInt8
  have h2 := Int8.toInt_lt x.toInt8
  show (decide ((-128 : Int32) ≤ x.toInt8.toInt32) && decide (x.toInt8.toInt32 ≤ (127 : Int32))) = true
  rw [Bool.and_eq_true_iff, decide_eq_true_iff, decide_eq_true_iff, Int32.le_iff_toInt_le, Int32.le_iff_toInt_le, Int8.toInt_toInt32, show (-128 : Int32).toInt = -128 from by decide, show (127 : Int32).toInt = 127 from by decide]
  omega
theorem FBlit {l : List Int32} (h : ∀ x ∈ l, FB x) : FBs (fun j => l.getD j 0) := fun j => by
  show FB (l.getD j 0)
  rw [List.getD_eq_getElem?_getD]
  cases e : l[j]? with
  | none => exact FB0
  | some x => exact h x (List.mem_of_getElem? e)
theorem FBs.upd {f : Nat → Int32} (h : FBs f) {i : Nat} {v : Int32} (hv : FB v) : FBs (upd f i v) := fun w => by
  show FB (if w = i then v else f w)
  split
  · exact hv
  · exact h w
theorem FBs.cpy {f g : Nat → Int32} (h : FBs f) (h2 : FBs g) (a b n : Nat) : FBs (va_cpy f g a b n) := fun k => by
  show FB (if b ≤ k ∧ k < b + n then f (a + (k - b)) else g k)
  split
  · exact h _
  · exact h2 _
theorem FBz : FBs (fun _ => (0 : Int32)) := fun _ => FB0
def ncap (c n : Nat) : Nat := if n ≤ c then c else max n (2 * c + 2)
def gsl (c n : Nat) : Nat := if n ≤ c then 0 else max n (2 * c + 2)
def gce (c n : Nat) : Nat := if n ≤ c then 0 else 1
theorem ncap_ge (c n : Nat) : n ≤ ncap c n := by
  unfold ncap
  split <;> omega
theorem ncap_le {c n : Nat} (h : c ≤ 1200) (h2 : n ≤ 1200) : ncap c n < 2500 := by
  unfold ncap
  split <;> omega
theorem shB0 : ∀ n, n < 2600 → (nI n >>> ((0 : Int32) &&& 31)) = nI n := by decide +kernel
theorem slB0 : ∀ n, n < 2600 → (nI n <<< ((0 : Int32) &&& 31)) = nI n := by decide +kernel
theorem sl2 : ((2 : Int32) <<< ((0 : Int32) &&& 31)) = nI 2 := by decide
theorem subI {a b : Nat} (h : b ≤ a) (ha : a < 2 ^ 31) : nI a - nI b = nI (a - b) := by
  apply Int32.toInt_inj.mp
  rw [Int32.toInt_sub, nI_toInt ha, nI_toInt (by omega), nI_toInt (by omega), Int.bmod_eq_of_le (by omega) (by omega)]
  omega
theorem sub0 (n : Nat) (h : n < 2 ^ 31) : nI n - (0 : Int32) = nI n := subI (b := 0) (Nat.zero_le _) h
theorem bigM {n : Nat} (h : n < 5000) : ¬ (2147483639 : Int32) < nI n := by
  rw [Int32.lt_iff_toInt_lt, nI_toInt (by omega), show (2147483639 : Int32).toInt = 2147483639 from by decide]
  omega
theorem bigE {n : Nat} (h : n < 5000) : ¬ nI n = (2147483647 : Int32) := fun q => by
  have := congrArg Int32.toInt q
  rw [nI_toInt (by omega), show (2147483647 : Int32).toInt = 2147483647 from by decide] at this
  omega
theorem tNewCap {post : Int32 → Prop} {wn need : Nat} (hw : wn < need) (hn : need ≤ 1200) (h : post (nI (max need (2 * wn + 2)))) : wnJ5_newCapacity_0f7a4 post wn (nI need) := by
  intro x hx
  rw [slB0 need (by omega), subI (by omega) (by omega)] at hx
  have ex : nI wn + (if x < (nI wn + ((2 : Int32) <<< ((0 : Int32) &&& 31))) then (nI wn + ((2 : Int32) <<< ((0 : Int32) &&& 31))) else x) = nI (max need (2 * wn + 2)) := by
    rw [hx, sl2, nI_add]
    by_cases c : need - wn < wn + 2
    · rw [if_pos ((nILt (by omega) (by omega)).mpr c), nI_add]
      congr 1
      omega
    · rw [if_neg (fun q => c ((nILt (by omega) (by omega)).mp q)), nI_add]
      congr 1
      omega
  unfold wnJ8_newLength_cabcc
  rw [ex]
  refine iF (nI_nle (by omega) (by omega)) (iF (bigM (by omega)) (jF (bigE (by omega)) ?_))
  rw [shB0 _ (by omega)]
  exact h
theorem tEns {post : Nat × (Nat → Int32) → Prop} {wn need : Nat} {wf : Nat → Int32} {mcb msb : Nat} (hw : 16 ≤ wn) (hwn : wn ≤ 1200) (hn : need ≤ 1200) (hf : FBs wf) (hb1 : gce wn need ≤ mcb) (hb2 : gsl wn need ≤ msb) (h : ∀ f, FBs f → post (ncap wn need, f)) : wnJ5_ensureCapacityInternal_d00df post wn wf mcb msb (nI need) := by
  unfold wnJ5_ensureCapacityInternal_d00df
  rw [shB0 wn (by omega)]
  by_cases c : need ≤ wn
  · have hc : (nI need - nI wn) ≤ 0 := by
      rw [Int32.le_iff_toInt_le, Int32.toInt_sub, nI_toInt (by omega), nI_toInt (by omega), Int.bmod_eq_of_le (by omega) (by omega), show (0 : Int32).toInt = 0 from by decide]
      omega
    refine iT hc ?_
    have := h wf hf
    rw [show ncap wn need = wn from if_pos c] at this
    exact this
  · have hc : ¬ (nI need - nI wn) ≤ 0 := by
      rw [subI (by omega) (by omega)]
      exact nI_nle (by omega) (by omega)
    rw [show gce wn need = 1 from if_neg c] at hb1
    rw [show gsl wn need = max need (2 * wn + 2) from if_neg c] at hb2
    rw [show ncap wn need = max need (2 * wn + 2) from if_neg c] at h
    have hM : max need (2 * wn + 2) < 2600 := by omega
    have hM2 : wn < max need (2 * wn + 2) := by omega
    refine iF hc (tNewCap (by omega) hn ⟨mcb, msb, ⟨by omega, by omega⟩, ?_⟩)
    generalize max need (2 * wn + 2) = M at hb2 h hM hM2
    rw [slB0 M hM]
    unfold wnJ7_copyOf_9075b
    rw [if_neg (nI_nlt (show wn ≤ M by omega) (by omega)), c0, nI_clamp (show M < 2 ^ 31 by omega), nI_clamp (show wn < 2 ^ 31 by omega)]
    refine jF (fun q => absurd (nIinj (by omega) (by omega) q) (by omega)) ⟨⟨nI_pos (by omega), by omega⟩, ⟨by omega, by omega⟩, ⟨by decide, by decide, nI_pos (by omega), by omega, by omega, fun i _ => hf _⟩, ⟨by omega, by omega⟩, ⟨by omega, by omega⟩, h _ (FBs.cpy hf FBz _ _ _)⟩
theorem tAppC {post : Int32 × Nat × (Nat → Int32) → Prop} {n wn : Nat} {wf : Nat → Int32} {mcb msb : Nat} {p1 : Int32} (hw : 16 ≤ wn) (hwn : wn ≤ 1200) (hn : n + 1 ≤ 1200) (hc : ¬ (255 : Int32) < p1) (hf : FBs wf) (hb1 : gce wn (n + 1) ≤ mcb) (hb2 : gsl wn (n + 1) ≤ msb) (h : ∀ f, FBs f → post (nI (n + 1), ncap wn (n + 1), f)) : wnJ4_append_cf468 post (nI n) wn wf mcb msb p1 := by
  have h1 := ncap_ge wn (n + 1)
  have h2 := ncap_le hwn hn
  refine ⟨mcb, msb, ⟨by omega, by omega⟩, mcb, msb, ⟨by omega, by omega⟩, ?_⟩
  rw [show nI n + (1 : Int32) = nI (n + 1) from (nI_succ n).symm]
  exact tEns hw hwn hn hf hb1 hb2 (fun f hf => iF hc (iF (by decide) ⟨nI_in (by omega) (by omega), ⟨by omega, by omega⟩, ⟨by omega, by omega⟩, h _ (hf.upd (FBn _))⟩))
def dg (k : Nat) : Nat := if k < 10 then 1 else 2
theorem ng10 : ∀ k, k < 64 → ((-(nI k) ≤ (-10 : Int32)) ↔ 10 ≤ k) := by decide +kernel
theorem ng100 : ∀ k, k < 64 → ¬ (-(nI k) ≤ ((10 : Int32) * (-10 : Int32))) := by decide +kernel
theorem ngm : ∀ k, k < 64 → (-100 : Int32) < -(nI k) := by decide +kernel
theorem ngg : ∀ k, k < 64 → -(-(nI k)) = nI k := by decide +kernel
theorem ng9 : ∀ k, k < 64 → (((-9 : Int32) ≤ -(nI k)) ↔ k < 10) := by decide +kernel
theorem sm1 : ∀ j, j < 2600 → nI (j + 1) + (-1) = nI j := by decide +kernel
theorem tStrSize {post : Int32 → Prop} {k : Nat} (hk : k < 64) (h : post (nI (dg k))) : wJ6_stringSize_0f7a4 post (nI k) := by
  refine iF (nI_pos (by omega)) ⟨3, ?_⟩
  by_cases c : k < 10
  · rw [show dg k = 1 from if_pos c] at h
    exact iF (by decide) (iF (fun q => absurd ((ng10 k hk).mp q) (by omega)) h)
  · rw [show dg k = 2 from if_neg c] at h
    exact iF (by decide) (iT ((ng10 k hk).mpr (by omega)) (iF (by decide) (iF (ng100 k hk) h)))
theorem tGetChars {post : Int32 → (Nat → Int32) → Prop} {yn : Nat} {yf : Nat → Int32} {k n : Nat} (hk : k < 64) (hn : n + dg k ≤ yn) (hy : yn < 2600) (hf : FBs yf) (h : ∀ r f, FBs f → post r f) : wnJ6_getChars_ba4f3 post yn yf (nI k) (nI (n + dg k)) := by
  refine iT (nI_pos' (by omega)) ⟨1, iT (ngm k hk) ?_⟩
  have v1 : vp_in (-(-(nI k))) 100 := by
    rw [ngg k hk]
    exact nI_in (by omega) (by decide)
  by_cases c : k < 10
  · have hd : dg k = 1 := if_pos c
    rw [hd] at hn
    have e : nI (n + dg k) + (-1) = nI n := by
      rw [hd]
      exact sm1 n (by omega)
    have v2 : vp_in (nI (n + dg k) + (-1)) yn := by
      rw [e]
      exact nI_in (by omega) (by omega)
    exact ⟨v1, v2, iT ((ng9 k hk).mpr c) (h _ _ (hf.upd (FBn _)))⟩
  · have hd : dg k = 2 := if_neg c
    rw [hd] at hn
    have e : nI (n + dg k) + (-1) = nI (n + 1) := by
      rw [hd]
      exact sm1 (n + 1) (by omega)
    have v2 : vp_in (nI (n + dg k) + (-1)) yn := by
      rw [e]
      exact nI_in (by omega) (by omega)
    have v3 : vp_in (nI (n + dg k) + (-1) + (-1)) yn := by
      rw [e, sm1 n (by omega)]
      exact nI_in (by omega) (by omega)
    exact ⟨v1, v2, iF (fun q => c ((ng9 k hk).mp q)) ⟨v1, v3, h _ _ ((hf.upd (FBn _)).upd (FBn _))⟩⟩
theorem tAppI {post : Int32 × Nat × (Nat → Int32) → Prop} {n wn : Nat} {wf : Nat → Int32} {mcb msb : Nat} {k : Nat} (hk : k < 64) (hw : 16 ≤ wn) (hwn : wn ≤ 1200) (hn : n + dg k ≤ 1200) (hf : FBs wf) (hb1 : gce wn (n + dg k) ≤ mcb) (hb2 : gsl wn (n + dg k) ≤ msb) (h : ∀ f, FBs f → post (nI (n + dg k), ncap wn (n + dg k), f)) : wnJ4_append_bf812 post (nI n) wn wf mcb msb (nI k) := by
  have h1 := ncap_ge wn (n + dg k)
  have h2 := ncap_le hwn hn
  refine ⟨mcb, msb, ⟨by omega, by omega⟩, tStrSize hk ⟨mcb, msb, ⟨by omega, by omega⟩, ?_⟩⟩
  rw [nI_add n (dg k)]
  exact tEns hw hwn hn hf hb1 hb2 (fun f hf => tGetChars hk h1 (by omega) hf (fun r f hf => ⟨⟨by omega, by omega⟩, ⟨by omega, by omega⟩, h f hf⟩))
theorem tAppS {post : Int32 × Nat × (Nat → Int32) → Prop} {n wn tn : Nat} {wf tf : Nat → Int32} {mcb msb : Nat} (hw : 16 ≤ wn) (hwn : wn ≤ 1200) (hn : n + tn ≤ 1200) (hf : FBs wf) (ht : FBs tf) (hb1 : gce wn (n + tn) ≤ mcb) (hb2 : gsl wn (n + tn) ≤ msb) (h : ∀ f, FBs f → post (nI (n + tn), ncap wn (n + tn), f)) : wnJ4_append_15ec4 post (nI n) wn wf tn tf mcb msb := by
  have h1 := ncap_ge wn (n + tn)
  have h2 := ncap_le hwn hn
  refine ⟨mcb, msb, ⟨by omega, by omega⟩, mcb, msb, ⟨by omega, by omega⟩, ?_⟩
  rw [shB0 tn (by omega), nI_add n tn]
  refine tEns hw hwn hn hf hb1 hb2 (fun f hf => ⟨⟨by decide, ?_, nI_pos (by omega), ?_, ?_, fun i _ => ht _⟩, ⟨by omega, by omega⟩, ⟨by omega, by omega⟩, h _ (FBs.cpy ht hf _ _ _)⟩)
  · rw [slB0 n (by omega)]
    exact nI_pos (by omega)
  · rw [c0, nI_clamp (show tn < 2 ^ 31 by omega)]
    omega
  · rw [slB0 n (by omega), nI_clamp (show tn < 2 ^ 31 by omega), nI_clamp (show n < 2 ^ 31 by omega)]
    exact h1
theorem tToStr {post : Nat × (Nat → Int32) → Prop} {n wn : Nat} {wf : Nat → Int32} {mcb msb : Nat} (hn : n ≤ wn) (hw : wn < 2600) (hf : FBs wf) (hb : 2 ≤ mcb) (hb2 : 4 + n ≤ msb) (h : ∀ f, FBs f → post (n, f)) : wnJ4_toString_0e30d post (nI n) wn wf mcb msb := by
  refine ⟨⟨by omega, by omega⟩, 1, n, ⟨by omega, by omega⟩, 1, n, ⟨by omega, by omega⟩, 1, n, ⟨by omega, by omega⟩, ?_⟩
  refine jT rfl ?_
  by_cases c : n = wn
  · subst c
    exact iT rfl ⟨fun i _ => hf i, ⟨by omega, by omega⟩, ⟨by omega, by omega⟩, ⟨by omega, by omega⟩, ⟨by omega, by omega⟩, ⟨by omega, by omega⟩, h _ hf⟩
  · refine iF (fun q => c (nIinj (by omega) (by omega) q)) ⟨1, n, ⟨by omega, by omega⟩, ?_⟩
    unfold wnJ7_copyOfRangeByte_39247 wnJ7_checkLength_df160
    rw [sub0 n (by omega), sub0 wn (by omega), if_pos (nI_lt (by omega) (by omega)), c0, nI_clamp (show n < 2 ^ 31 by omega)]
    exact iT (nI_pos' (by omega)) ⟨⟨nI_pos (by omega), by omega⟩, ⟨by omega, by omega⟩, ⟨by decide, by decide, nI_pos (by omega), by omega, by omega, fun i _ => hf _⟩, ⟨by omega, by omega⟩, ⟨by omega, by omega⟩, ⟨by omega, by omega⟩, ⟨by omega, by omega⟩, ⟨by omega, by omega⟩, h _ (FBs.cpy hf FBz _ _ _)⟩
/-! the class's text -/
def kap (n : Nat) : Nat := if n ≤ 16 then 16 else if n ≤ 34 then 34 else if n ≤ 70 then 70 else if n ≤ 142 then 142 else if n ≤ 286 then 286 else 574
def kce (n : Nat) : Nat := if n ≤ 16 then 0 else if n ≤ 34 then 1 else if n ≤ 70 then 2 else if n ≤ 142 then 3 else if n ≤ 286 then 4 else 5
theorem kStep : ∀ n, n < 572 → ∀ d, d < 3 → ncap (kap n) (n + d) = kap (n + d) ∧ gce (kap n) (n + d) + kce n = kce (n + d) ∧ gsl (kap n) (n + d) + 2 * kap n ≤ 2 * kap (n + d) := by decide +kernel
theorem kMono {n m : Nat} (h : n ≤ m) : kap n ≤ kap m ∧ kce n ≤ kce m := by
  unfold kap kce
  (repeat' split) <;> omega
theorem kBnd (n : Nat) : 16 ≤ kap n ∧ kap n ≤ 574 ∧ kce n ≤ 5 := by
  unfold kap kce
  (repeat' split) <;> omega
theorem kGe {n : Nat} (h : n ≤ 574) : n ≤ kap n := by
  unfold kap
  (repeat' split) <;> omega
theorem dgB (k : Nat) : 1 ≤ dg k ∧ dg k < 3 := by
  unfold dg
  split <;> omega
theorem kAppC {post : Int32 × Nat × (Nat → Int32) → Prop} {n : Nat} {wf : Nat → Int32} {mcb msb : Nat} {p1 : Int32} (hn : n < 572) (hc : ¬ (255 : Int32) < p1) (hf : FBs wf) (hb1 : kce (n + 1) ≤ mcb + kce n) (hb2 : 2 * kap (n + 1) ≤ msb + 2 * kap n) (h : ∀ f, FBs f → post (nI (n + 1), kap (n + 1), f)) : wnJ4_append_cf468 post (nI n) (kap n) wf mcb msb p1 := by
  obtain ⟨e1, e2, e3⟩ := kStep n hn 1 (by decide)
  have := kBnd n
  refine tAppC (by omega) (by omega) (by omega) hc hf (by omega) (by omega) (fun f hf => ?_)
  rw [e1]
  exact h f hf
theorem kAppI {post : Int32 × Nat × (Nat → Int32) → Prop} {n : Nat} {wf : Nat → Int32} {mcb msb : Nat} {k : Nat} (hk : k < 64) (hn : n < 572) (hf : FBs wf) (hb1 : kce (n + dg k) ≤ mcb + kce n) (hb2 : 2 * kap (n + dg k) ≤ msb + 2 * kap n) (h : ∀ f, FBs f → post (nI (n + dg k), kap (n + dg k), f)) : wnJ4_append_bf812 post (nI n) (kap n) wf mcb msb (nI k) := by
  have h1 := dgB k
  obtain ⟨e1, e2, e3⟩ := kStep n hn (dg k) h1.2
  have := kBnd n
  refine tAppI hk (by omega) (by omega) (by omega) hf (by omega) (by omega) (fun f hf => ?_)
  rw [e1]
  exact h f hf
def tl (kf ff sf : Nat → Int32) : Nat → Nat → Nat
  | 0, _ => 0
  | m + 1, s => if kf s = 0 then 1 + dg (ff s).toNatClampNeg else if kf s = 1 then 1 + tl kf ff sf m (ff s).toNatClampNeg else if kf s = 2 ∨ kf s = 3 then 3 + tl kf ff sf m (ff s).toNatClampNeg + tl kf ff sf m (sf s).toNatClampNeg else 2 + dg (ff s).toNatClampNeg + tl kf ff sf m (sf s).toNatClampNeg
def LB : Nat → Nat
  | 0 => 0
  | m + 1 => 2 * LB m + 4
theorem tlLe (kf ff sf : Nat → Int32) : ∀ m s, tl kf ff sf m s ≤ LB m := by
  intro m
  induction m with
  | zero => exact fun _ => Nat.le_refl _
  | succ m ih =>
    intro s
    have h1 := ih (ff s).toNatClampNeg
    have h2 := ih (sf s).toNatClampNeg
    have h3 := dgB (ff s).toNatClampNeg
    rw [tl, LB]
    (repeat' split) <;> omega
theorem tX0_kindOf {post : Int32 → Prop} {kf : Nat → Int32} {n s : Nat} (hs : s < n) (hn : n ≤ 40) (h : post (kf s)) : wX0_kindOf post kf (nI n) (nI s) := tX0_holds hn (fun r z hr => ⟨fun q => absurd q (hr.mpr ⟨s, hs, rfl⟩), fun _ => ⟨nI_in (by omega) (by decide), by rw [nI_clamp (show s < 2 ^ 31 by omega)]; exact h⟩⟩)
theorem tX0_firstOf {post : Int32 → Prop} {kf : Nat → Int32} {n s : Nat} (hs : s < n) (hn : n ≤ 40) (h : post (kf s)) : wX0_firstOf post kf (nI n) (nI s) := tX0_holds hn (fun r z hr => ⟨fun q => absurd q (hr.mpr ⟨s, hs, rfl⟩), fun _ => ⟨nI_in (by omega) (by decide), by rw [nI_clamp (show s < 2 ^ 31 by omega)]; exact h⟩⟩)
theorem tX0_secondOf {post : Int32 → Prop} {kf : Nat → Int32} {n s : Nat} (hs : s < n) (hn : n ≤ 40) (h : post (kf s)) : wX0_secondOf post kf (nI n) (nI s) := tX0_holds hn (fun r z hr => ⟨fun q => absurd q (hr.mpr ⟨s, hs, rfl⟩), fun _ => ⟨nI_in (by omega) (by decide), by rw [nI_clamp (show s < 2 ^ 31 by omega)]; exact h⟩⟩)
theorem sX0_write {kf ff sf df : Nat → Int32} {pf gf : Nat → Int64} {bn : Nat} (hB : BOK kf ff sf bn) : ∀ (m s n : Nat) {post : Int32 × Nat × (Nat → Int32) → Prop} {wf : Nat → Int32} {mcb msb : Nat}, m ≤ 7 → s < bn → n + LB m ≤ 560 → FBs wf → kce (n + tl kf ff sf m s) ≤ mcb + kce n → 2 * kap (n + tl kf ff sf m s) ≤ msb + 2 * kap n → (∀ f, FBs f → post (nI (n + tl kf ff sf m s), kap (n + tl kf ff sf m s), f)) → wnX0_write (m + 1) post kf ff sf df pf gf (nI bn) (nI n) (kap n) wf mcb msb (nI s) (nI (7 - m)) := by
  intro m
  induction m with
  | zero =>
    intro s n post wf mcb msb _ _ _ hf _ _ h
    rw [wnX0_write]
    exact iT (by decide) (h wf hf)
  | succ m ih =>
    intro s n post wf mcb msb hm hs hL hf hc1 hc2 h
    have e7 : nI (7 - (m + 1)) + (1 : Int32) = nI (7 - m) := by
      rw [← nI_succ, show 7 - (m + 1) + 1 = 7 - m by omega]
    have hbn := hB.1
    rw [LB] at hL
    rw [wnX0_write]
    refine iF (fun q => absurd ((nILt (a := 6) (by decide) (by omega)).mp q) (by omega)) (tX0_holds hbn (fun r z hr => ⟨fun _ => ?_, fun q => absurd q (hr.mpr ⟨s, hs, rfl⟩)⟩))
    refine tX0_kindOf hs hbn (tX0_firstOf hs hbn (tX0_secondOf hs hbn ?_))
    rw [e7]
    have hw := hB.2 s hs
    have ht : tl kf ff sf (m + 1) s = if kf s = 0 then 1 + dg (ff s).toNatClampNeg else if kf s = 1 then 1 + tl kf ff sf m (ff s).toNatClampNeg else if kf s = 2 ∨ kf s = 3 then 3 + tl kf ff sf m (ff s).toNatClampNeg + tl kf ff sf m (sf s).toNatClampNeg else 2 + dg (ff s).toNatClampNeg + tl kf ff sf m (sf s).toNatClampNeg := rfl
    obtain ⟨k, hk, hk2⟩ := hw.1
    rw [hk2] at hw ht
    rw [hk2]
    rcases (show k = 0 ∨ k = 1 ∨ k = 2 ∨ k = 3 ∨ k = 4 ∨ k = 5 ∨ k = 6 ∨ k = 7 from by omega) with rfl | rfl | rfl | rfl | rfl | rfl | rfl | rfl
    · obtain ⟨a, ha, ea⟩ := wf0.mp hw
      rw [ea] at ht ⊢
      rw [if_pos (by decide), nI_clamp (by omega)] at ht
      have et : n + tl kf ff sf (m + 1) s = n + 1 + dg a := by omega
      rw [et] at hc1 hc2 h
      have hd := dgB a
      have m1 := kMono (show n ≤ n + 1 by omega)
      have m2 := kMono (show n + 1 ≤ n + 1 + dg a by omega)
      (repeat (first | refine iT (by decide) ?_ | refine iF (by decide) ?_ | refine jT (by decide) ?_ | refine jF (by decide) ?_))
      exact ⟨kce (n + 1) - kce n, 2 * kap (n + 1) - 2 * kap n, ⟨by omega, by omega⟩, kAppC (by omega) (by decide) hf (by omega) (by omega) (fun f hf => ⟨kce (n + 1 + dg a) - kce (n + 1), 2 * kap (n + 1 + dg a) - 2 * kap (n + 1), ⟨by omega, by omega⟩, kAppI (by omega) (by omega) hf (by omega) (by omega) (fun f hf => ⟨⟨by omega, by omega⟩, h f hf⟩)⟩)⟩
    · obtain ⟨a, ha, ea⟩ := wf1.mp hw
      rw [ea] at ht ⊢
      rw [if_neg (by decide), if_pos (by decide), nI_clamp (by omega)] at ht
      have et : n + tl kf ff sf (m + 1) s = n + 1 + tl kf ff sf m a := by omega
      rw [et] at hc1 hc2 h
      have m1 := kMono (show n ≤ n + 1 by omega)
      have m2 := kMono (show n + 1 ≤ n + 1 + tl kf ff sf m a by omega)
      (repeat (first | refine iT (by decide) ?_ | refine iF (by decide) ?_ | refine jT (by decide) ?_ | refine jF (by decide) ?_))
      exact ⟨kce (n + 1) - kce n, 2 * kap (n + 1) - 2 * kap n, ⟨by omega, by omega⟩, kAppC (by omega) (by decide) hf (by omega) (by omega) (fun f hf => ⟨kce (n + 1 + tl kf ff sf m a) - kce (n + 1), 2 * kap (n + 1 + tl kf ff sf m a) - 2 * kap (n + 1), ⟨by omega, by omega⟩, ih a (n + 1) (by omega) (by omega) (by omega) hf (by omega) (by omega) (fun f hf => ⟨⟨by omega, by omega⟩, h f hf⟩)⟩)⟩
    · obtain ⟨⟨a, ha, ea⟩, ⟨b, hb, eb⟩⟩ := wf2.mp hw
      rw [ea, eb] at ht ⊢
      rw [if_neg (by decide), if_neg (by decide), if_pos (by decide), nI_clamp (show a < 2 ^ 31 by omega), nI_clamp (show b < 2 ^ 31 by omega)] at ht
      have la := tlLe kf ff sf m a
      have lb := tlLe kf ff sf m b
      have et : n + tl kf ff sf (m + 1) s = n + 1 + tl kf ff sf m a + 1 + tl kf ff sf m b + 1 := by omega
      rw [et] at hc1 hc2 h
      have m1 := kMono (show n ≤ n + 1 by omega)
      have m2 := kMono (show n + 1 ≤ n + 1 + tl kf ff sf m a by omega)
      have m3 := kMono (show n + 1 + tl kf ff sf m a ≤ n + 1 + tl kf ff sf m a + 1 by omega)
      have m4 := kMono (show n + 1 + tl kf ff sf m a + 1 ≤ n + 1 + tl kf ff sf m a + 1 + tl kf ff sf m b by omega)
      have m5 := kMono (show n + 1 + tl kf ff sf m a + 1 + tl kf ff sf m b ≤ n + 1 + tl kf ff sf m a + 1 + tl kf ff sf m b + 1 by omega)
      (repeat (first | refine iT (by decide) ?_ | refine iF (by decide) ?_ | refine jT (by decide) ?_ | refine jF (by decide) ?_))
      refine ⟨kce (n + 1) - kce n, 2 * kap (n + 1) - 2 * kap n, ⟨by omega, by omega⟩, kAppC (by omega) (by decide) hf (by omega) (by omega) (fun f hf => ⟨kce (n + 1 + tl kf ff sf m a) - kce (n + 1), 2 * kap (n + 1 + tl kf ff sf m a) - 2 * kap (n + 1), ⟨by omega, by omega⟩, ih a (n + 1) (by omega) (by omega) (by omega) hf (by omega) (by omega) (fun f hf => ?_)⟩)⟩
      (repeat (first | refine iT (by decide) ?_ | refine iF (by decide) ?_ | refine jT (by decide) ?_ | refine jF (by decide) ?_))
      exact ⟨kce (n + 1 + tl kf ff sf m a + 1) - kce (n + 1 + tl kf ff sf m a), 2 * kap (n + 1 + tl kf ff sf m a + 1) - 2 * kap (n + 1 + tl kf ff sf m a), ⟨by omega, by omega⟩, kAppC (by omega) (by decide) hf (by omega) (by omega) (fun f hf => ⟨kce (n + 1 + tl kf ff sf m a + 1 + tl kf ff sf m b) - kce (n + 1 + tl kf ff sf m a + 1), 2 * kap (n + 1 + tl kf ff sf m a + 1 + tl kf ff sf m b) - 2 * kap (n + 1 + tl kf ff sf m a + 1), ⟨by omega, by omega⟩, ih b (n + 1 + tl kf ff sf m a + 1) (by omega) (by omega) (by omega) hf (by omega) (by omega) (fun f hf => ⟨kce (n + 1 + tl kf ff sf m a + 1 + tl kf ff sf m b + 1) - kce (n + 1 + tl kf ff sf m a + 1 + tl kf ff sf m b), 2 * kap (n + 1 + tl kf ff sf m a + 1 + tl kf ff sf m b + 1) - 2 * kap (n + 1 + tl kf ff sf m a + 1 + tl kf ff sf m b), ⟨by omega, by omega⟩, kAppC (by omega) (by decide) hf (by omega) (by omega) (fun f hf => ⟨⟨by omega, by omega⟩, h f hf⟩)⟩)⟩)⟩
    · obtain ⟨⟨a, ha, ea⟩, ⟨b, hb, eb⟩⟩ := wf3.mp hw
      rw [ea, eb] at ht ⊢
      rw [if_neg (by decide), if_neg (by decide), if_pos (by decide), nI_clamp (show a < 2 ^ 31 by omega), nI_clamp (show b < 2 ^ 31 by omega)] at ht
      have la := tlLe kf ff sf m a
      have lb := tlLe kf ff sf m b
      have et : n + tl kf ff sf (m + 1) s = n + 1 + tl kf ff sf m a + 1 + tl kf ff sf m b + 1 := by omega
      rw [et] at hc1 hc2 h
      have m1 := kMono (show n ≤ n + 1 by omega)
      have m2 := kMono (show n + 1 ≤ n + 1 + tl kf ff sf m a by omega)
      have m3 := kMono (show n + 1 + tl kf ff sf m a ≤ n + 1 + tl kf ff sf m a + 1 by omega)
      have m4 := kMono (show n + 1 + tl kf ff sf m a + 1 ≤ n + 1 + tl kf ff sf m a + 1 + tl kf ff sf m b by omega)
      have m5 := kMono (show n + 1 + tl kf ff sf m a + 1 + tl kf ff sf m b ≤ n + 1 + tl kf ff sf m a + 1 + tl kf ff sf m b + 1 by omega)
      (repeat (first | refine iT (by decide) ?_ | refine iF (by decide) ?_ | refine jT (by decide) ?_ | refine jF (by decide) ?_))
      refine ⟨kce (n + 1) - kce n, 2 * kap (n + 1) - 2 * kap n, ⟨by omega, by omega⟩, kAppC (by omega) (by decide) hf (by omega) (by omega) (fun f hf => ⟨kce (n + 1 + tl kf ff sf m a) - kce (n + 1), 2 * kap (n + 1 + tl kf ff sf m a) - 2 * kap (n + 1), ⟨by omega, by omega⟩, ih a (n + 1) (by omega) (by omega) (by omega) hf (by omega) (by omega) (fun f hf => ?_)⟩)⟩
      (repeat (first | refine iT (by decide) ?_ | refine iF (by decide) ?_ | refine jT (by decide) ?_ | refine jF (by decide) ?_))
      exact ⟨kce (n + 1 + tl kf ff sf m a + 1) - kce (n + 1 + tl kf ff sf m a), 2 * kap (n + 1 + tl kf ff sf m a + 1) - 2 * kap (n + 1 + tl kf ff sf m a), ⟨by omega, by omega⟩, kAppC (by omega) (by decide) hf (by omega) (by omega) (fun f hf => ⟨kce (n + 1 + tl kf ff sf m a + 1 + tl kf ff sf m b) - kce (n + 1 + tl kf ff sf m a + 1), 2 * kap (n + 1 + tl kf ff sf m a + 1 + tl kf ff sf m b) - 2 * kap (n + 1 + tl kf ff sf m a + 1), ⟨by omega, by omega⟩, ih b (n + 1 + tl kf ff sf m a + 1) (by omega) (by omega) (by omega) hf (by omega) (by omega) (fun f hf => ⟨kce (n + 1 + tl kf ff sf m a + 1 + tl kf ff sf m b + 1) - kce (n + 1 + tl kf ff sf m a + 1 + tl kf ff sf m b), 2 * kap (n + 1 + tl kf ff sf m a + 1 + tl kf ff sf m b + 1) - 2 * kap (n + 1 + tl kf ff sf m a + 1 + tl kf ff sf m b), ⟨by omega, by omega⟩, kAppC (by omega) (by decide) hf (by omega) (by omega) (fun f hf => ⟨⟨by omega, by omega⟩, h f hf⟩)⟩)⟩)⟩
    · obtain ⟨⟨a, ha, ea⟩, ⟨b, hb, eb⟩⟩ := wf4.mp hw
      rw [ea, eb] at ht ⊢
      rw [if_neg (by decide), if_neg (by decide), if_neg (by decide), nI_clamp (show a < 2 ^ 31 by omega), nI_clamp (show b < 2 ^ 31 by omega)] at ht
      have lb := tlLe kf ff sf m b
      have hd := dgB a
      have et : n + tl kf ff sf (m + 1) s = n + 1 + dg a + 1 + tl kf ff sf m b := by omega
      rw [et] at hc1 hc2 h
      have m1 := kMono (show n ≤ n + 1 by omega)
      have m2 := kMono (show n + 1 ≤ n + 1 + dg a by omega)
      have m3 := kMono (show n + 1 + dg a ≤ n + 1 + dg a + 1 by omega)
      have m4 := kMono (show n + 1 + dg a + 1 ≤ n + 1 + dg a + 1 + tl kf ff sf m b by omega)
      (repeat (first | refine iT (by decide) ?_ | refine iF (by decide) ?_ | refine jT (by decide) ?_ | refine jF (by decide) ?_))
      exact ⟨kce (n + 1) - kce n, 2 * kap (n + 1) - 2 * kap n, ⟨by omega, by omega⟩, kAppC (by omega) (by decide) hf (by omega) (by omega) (fun f hf => ⟨kce (n + 1 + dg a) - kce (n + 1), 2 * kap (n + 1 + dg a) - 2 * kap (n + 1), ⟨by omega, by omega⟩, kAppI (by omega) (by omega) hf (by omega) (by omega) (fun f hf => ⟨kce (n + 1 + dg a + 1) - kce (n + 1 + dg a), 2 * kap (n + 1 + dg a + 1) - 2 * kap (n + 1 + dg a), ⟨by omega, by omega⟩, kAppC (by omega) (by decide) hf (by omega) (by omega) (fun f hf => ⟨kce (n + 1 + dg a + 1 + tl kf ff sf m b) - kce (n + 1 + dg a + 1), 2 * kap (n + 1 + dg a + 1 + tl kf ff sf m b) - 2 * kap (n + 1 + dg a + 1), ⟨by omega, by omega⟩, ih b (n + 1 + dg a + 1) (by omega) (by omega) (by omega) hf (by omega) (by omega) (fun f hf => ⟨⟨by omega, by omega⟩, h f hf⟩)⟩)⟩)⟩)⟩
    · obtain ⟨⟨a, ha0, ha, ea⟩, ⟨b, hb, eb⟩⟩ := wf5.mp hw
      rw [ea, eb] at ht ⊢
      rw [if_neg (by decide), if_neg (by decide), if_neg (by decide), nI_clamp (show a < 2 ^ 31 by omega), nI_clamp (show b < 2 ^ 31 by omega)] at ht
      have lb := tlLe kf ff sf m b
      have hd := dgB a
      have et : n + tl kf ff sf (m + 1) s = n + 1 + dg a + 1 + tl kf ff sf m b := by omega
      rw [et] at hc1 hc2 h
      have m1 := kMono (show n ≤ n + 1 by omega)
      have m2 := kMono (show n + 1 ≤ n + 1 + dg a by omega)
      have m3 := kMono (show n + 1 + dg a ≤ n + 1 + dg a + 1 by omega)
      have m4 := kMono (show n + 1 + dg a + 1 ≤ n + 1 + dg a + 1 + tl kf ff sf m b by omega)
      (repeat (first | refine iT (by decide) ?_ | refine iF (by decide) ?_ | refine jT (by decide) ?_ | refine jF (by decide) ?_))
      exact ⟨kce (n + 1) - kce n, 2 * kap (n + 1) - 2 * kap n, ⟨by omega, by omega⟩, kAppC (by omega) (by decide) hf (by omega) (by omega) (fun f hf => ⟨kce (n + 1 + dg a) - kce (n + 1), 2 * kap (n + 1 + dg a) - 2 * kap (n + 1), ⟨by omega, by omega⟩, kAppI (by omega) (by omega) hf (by omega) (by omega) (fun f hf => ⟨kce (n + 1 + dg a + 1) - kce (n + 1 + dg a), 2 * kap (n + 1 + dg a + 1) - 2 * kap (n + 1 + dg a), ⟨by omega, by omega⟩, kAppC (by omega) (by decide) hf (by omega) (by omega) (fun f hf => ⟨kce (n + 1 + dg a + 1 + tl kf ff sf m b) - kce (n + 1 + dg a + 1), 2 * kap (n + 1 + dg a + 1 + tl kf ff sf m b) - 2 * kap (n + 1 + dg a + 1), ⟨by omega, by omega⟩, ih b (n + 1 + dg a + 1) (by omega) (by omega) (by omega) hf (by omega) (by omega) (fun f hf => ⟨⟨by omega, by omega⟩, h f hf⟩)⟩)⟩)⟩)⟩
    · obtain ⟨⟨a, ha0, ha, ea⟩, ⟨b, hb, eb⟩⟩ := wf6.mp hw
      rw [ea, eb] at ht ⊢
      rw [if_neg (by decide), if_neg (by decide), if_neg (by decide), nI_clamp (show a < 2 ^ 31 by omega), nI_clamp (show b < 2 ^ 31 by omega)] at ht
      have lb := tlLe kf ff sf m b
      have hd := dgB a
      have et : n + tl kf ff sf (m + 1) s = n + 1 + dg a + 1 + tl kf ff sf m b := by omega
      rw [et] at hc1 hc2 h
      have m1 := kMono (show n ≤ n + 1 by omega)
      have m2 := kMono (show n + 1 ≤ n + 1 + dg a by omega)
      have m3 := kMono (show n + 1 + dg a ≤ n + 1 + dg a + 1 by omega)
      have m4 := kMono (show n + 1 + dg a + 1 ≤ n + 1 + dg a + 1 + tl kf ff sf m b by omega)
      (repeat (first | refine iT (by decide) ?_ | refine iF (by decide) ?_ | refine jT (by decide) ?_ | refine jF (by decide) ?_))
      exact ⟨kce (n + 1) - kce n, 2 * kap (n + 1) - 2 * kap n, ⟨by omega, by omega⟩, kAppC (by omega) (by decide) hf (by omega) (by omega) (fun f hf => ⟨kce (n + 1 + dg a) - kce (n + 1), 2 * kap (n + 1 + dg a) - 2 * kap (n + 1), ⟨by omega, by omega⟩, kAppI (by omega) (by omega) hf (by omega) (by omega) (fun f hf => ⟨kce (n + 1 + dg a + 1) - kce (n + 1 + dg a), 2 * kap (n + 1 + dg a + 1) - 2 * kap (n + 1 + dg a), ⟨by omega, by omega⟩, kAppC (by omega) (by decide) hf (by omega) (by omega) (fun f hf => ⟨kce (n + 1 + dg a + 1 + tl kf ff sf m b) - kce (n + 1 + dg a + 1), 2 * kap (n + 1 + dg a + 1 + tl kf ff sf m b) - 2 * kap (n + 1 + dg a + 1), ⟨by omega, by omega⟩, ih b (n + 1 + dg a + 1) (by omega) (by omega) (by omega) hf (by omega) (by omega) (fun f hf => ⟨⟨by omega, by omega⟩, h f hf⟩)⟩)⟩)⟩)⟩
    · obtain ⟨⟨a, ha0, ha, ea⟩, ⟨b, hb, eb⟩⟩ := wf7.mp hw
      rw [ea, eb] at ht ⊢
      rw [if_neg (by decide), if_neg (by decide), if_neg (by decide), nI_clamp (show a < 2 ^ 31 by omega), nI_clamp (show b < 2 ^ 31 by omega)] at ht
      have lb := tlLe kf ff sf m b
      have hd := dgB a
      have et : n + tl kf ff sf (m + 1) s = n + 1 + dg a + 1 + tl kf ff sf m b := by omega
      rw [et] at hc1 hc2 h
      have m1 := kMono (show n ≤ n + 1 by omega)
      have m2 := kMono (show n + 1 ≤ n + 1 + dg a by omega)
      have m3 := kMono (show n + 1 + dg a ≤ n + 1 + dg a + 1 by omega)
      have m4 := kMono (show n + 1 + dg a + 1 ≤ n + 1 + dg a + 1 + tl kf ff sf m b by omega)
      (repeat (first | refine iT (by decide) ?_ | refine iF (by decide) ?_ | refine jT (by decide) ?_ | refine jF (by decide) ?_))
      exact ⟨kce (n + 1) - kce n, 2 * kap (n + 1) - 2 * kap n, ⟨by omega, by omega⟩, kAppC (by omega) (by decide) hf (by omega) (by omega) (fun f hf => ⟨kce (n + 1 + dg a) - kce (n + 1), 2 * kap (n + 1 + dg a) - 2 * kap (n + 1), ⟨by omega, by omega⟩, kAppI (by omega) (by omega) hf (by omega) (by omega) (fun f hf => ⟨kce (n + 1 + dg a + 1) - kce (n + 1 + dg a), 2 * kap (n + 1 + dg a + 1) - 2 * kap (n + 1 + dg a), ⟨by omega, by omega⟩, kAppC (by omega) (by decide) hf (by omega) (by omega) (fun f hf => ⟨kce (n + 1 + dg a + 1 + tl kf ff sf m b) - kce (n + 1 + dg a + 1), 2 * kap (n + 1 + dg a + 1 + tl kf ff sf m b) - 2 * kap (n + 1 + dg a + 1), ⟨by omega, by omega⟩, ih b (n + 1 + dg a + 1) (by omega) (by omega) (by omega) hf (by omega) (by omega) (fun f hf => ⟨⟨by omega, by omega⟩, h f hf⟩)⟩)⟩)⟩)⟩
theorem snX0_signsOf {post : Unit → Prop} {kf ff sf df : Nat → Int32} {pf gf : Nat → Int64} {bn s : Nat} (hB : BOK kf ff sf bn) (hs : s < bn) (h : post ()) : wnX0_signsOf post kf ff sf df pf gf (nI bn) 39 1650 (nI s) := by
  refine sX0_builtDeep ⟨bn, hB.1, rfl⟩ (fun r => ⟨fun _ => ⟨⟨by decide, by decide⟩, ⟨by decide, by decide⟩, fun _ => ?_⟩, fun _ => h⟩)
  have hl := tlLe kf ff sf 7 s
  rw [show LB 7 = 508 from rfl] at hl
  have hk := kBnd (0 + tl kf ff sf 7 s)
  have e16 : kap 0 = 16 := rfl
  have e0 : kce 0 = 0 := rfl
  have hg := kGe (show 0 + tl kf ff sf 7 s ≤ 574 by omega)
  refine ⟨kce (0 + tl kf ff sf 7 s), 2 * kap (0 + tl kf ff sf 7 s) - 32, ⟨by omega, by omega⟩, 8, by decide, ?_⟩
  refine sX0_write hB 7 s 0 (Nat.le_refl _) hs (by decide) FBz (by omega) (by omega) (fun f hf => ⟨2, 4 + (0 + tl kf ff sf 7 s), ⟨by omega, by omega⟩, tToStr (n := 0 + tl kf ff sf 7 s) (wn := kap (0 + tl kf ff sf 7 s)) hg (by omega) hf (Nat.le_refl _) (Nat.le_refl _) (fun f hf => ⟨⟨by omega, by omega⟩, h⟩)⟩)
theorem sxL_text {post : Int32 → Unit → Prop} {kf ff sf df : Nat → Int32} {pf gf : Nat → Int64} {bn : Nat} {p1 : Int32} (hB : BOK kf ff sf bn) (hp : ∀ r, post r ()) : wxL_text post kf ff sf df pf gf (nI bn) p1 := by
  unfold wxL_text wxX2_text
  refine tX0_holds hB.1 (fun r z hr => ⟨fun c => ?_, fun _ => ⟨rfl, hp _⟩⟩)
  obtain ⟨s, hs, rfl⟩ := hr.mp c
  exact snX0_signsOf hB hs (hp _)
/-! the reference's text -/
def tL (h : Nat) : Nat := match h with | 0 => 2 | 1 => 7 | 2 => 17 | 3 => 37 | 4 => 77 | 5 => 157 | _ => 317
def tC (h : Nat) : Nat := match h with | 0 => 4 | 1 => 16 | 2 => 40 | 3 => 88 | 4 => 184 | 5 => 376 | _ => 760
def tT (h : Nat) : Nat := match h with | 0 => 111669149696 | 1 => 430965076101982412064659323830140928 | 2 => 1828861363918587185338251919006058606145772057317929012445095179818433136179418234880 | 3 => 10487396681686232266301843887543918405486331966084620410878085326544085523253721591632656322399739460087070140003902169883566992843059860308454168831217307868304781606255067572207616 | 4 => 111744322961635561774677157999037566083241584776694364437092819210755932583368786373374512993487906411186753782400939272948820048826372158032984701719399838148913027045755594327868526533684385648060421076051234043437054095968350973661331665773317855839048689301306620207926313969025700474472363181509109135440188819818186006899123315837851502266935865186674897960446323589120 | 5 => 5294046911722253249087840123858175821664578124486319294922272012699422099833015347044861604867593562742329049117056220248432549230400095394679904835668088094447787126368582785585061120860969629187875885057350573842406259999822152476826245392740398803621860145696375636682792493148962082897032446114394822021738342975093008200796924477680742228351344601797613806736604286823188285277777045917647602739279776660614432534585233806951419716825802462461872383717536835689179879220835420229015360057069044673614604840087315679348873554011559672605879569129306048225362439925340569434688651090997297797090940660155002861394871802604116945698682383939718947662847184956444458391329169147203892255124831569710923618138916814578640359718464581281869759168902199188127744 | _ => 5132786522510655883829118877533839921666566970824048737720622870149966233857144327945519989614981584450264776749556481264356151582487034782239536934159196397262704318077922653134773389965863809929769460609694805393315802619074577548855115095027213086946989009678839552702135219259151491443954102985246422706513811457686031972750481471675592635246058302113823827842340248086159301530524059504433097922015481329732128315689694358557182506804742432931875205331303431754835762570197375656020749117830464484834445022544817609029981017920289374333210255036011354596383280760035358490834197797376274842697163800871203577742853683474205134022467133372505074884269751448735404010151407655821121957259273538576975383194847063168820200399861836141852474151123575877874182030603218659338100814304442493978756055677302123132750534664229065481027788522829690066609155465286211776739793028138045233845434223717293173772045483144055257378615419210458476768483075593779999168190210112373771618429403302321800108238627285983700803597370321172309212602002547631338106025714190472001462035628693306438718694358786360521723220465792205357507146760844466154818275243275790171976503722802660626890942967019413333829630203829638659058262134147024453062690262885314970733211531416552033541328719952035817773740750012832769303133124606817773005705162236460145086563976793184254386635170189435434789160954760807065751175213026029983555270330391790737763280117843870161715734359632501522760197387346376374901640198057809151208766109965840990250128364080726016
def tU (h n : Nat) : Nat := (tT h >>> (16 * n)) % 65536
def frc (n : Nat) (f : Nat → Nat) : Nat := match n with | 0 => f 0 | k + 1 => f (k + 1)
theorem frcE (n : Nat) (f : Nat → Nat) : frc n f = f n := by
  cases n <;> rfl
def Gb (a b : Nat) : Nat := gsl 16 (1 + a) + frc (ncap 16 (1 + a)) (fun c2 => gsl c2 (1 + a + 1) + frc (ncap c2 (1 + a + 1)) (fun c3 => gsl c3 (1 + a + 1 + b) + frc (ncap c3 (1 + a + 1 + b)) (fun c4 => gsl c4 (1 + a + 1 + b + 1))))
theorem tBin : ∀ h, h < 6 → ∀ a, a < tL h + 1 → ∀ b, b < tL h + 1 → tU h a = 0 ∨ tU h b = 0 ∨ (1 + a + 1 + b + 1 ≤ tL (h + 1) ∧ 24 + (1 + a + 1 + b + 1) + Gb a b + tU h a + tU h b ≤ tU (h + 1) (1 + a + 1 + b + 1)) := by decide +kernel
theorem tNot : ∀ h, h < 6 → ∀ a, a < tL h + 1 → tU h a = 0 ∨ (1 + a ≤ tL (h + 1) ∧ 24 + (1 + a) + gsl 16 (1 + a) + tU h a ≤ tU (h + 1) (1 + a)) := by decide +kernel
theorem tKno : ∀ h, h < 6 → ∀ d, d < 3 → ∀ a, a < tL h + 1 → d = 0 ∨ tU h a = 0 ∨ (0 + 1 + d + 1 + a ≤ tL (h + 1) ∧ 24 + (0 + 1 + d + 1 + a) + gsl 16 (0 + 1 + d + 1 + a) + tU h a ≤ tU (h + 1) (0 + 1 + d + 1 + a)) := by decide +kernel
theorem tFct : ∀ h, h < 7 → 2 ≤ tL h ∧ 4 ≤ tC h ∧ 26 ≤ tU h 2 := by decide +kernel
theorem tCs : ∀ h, h < 6 → tC (h + 1) = 2 * tC h + 8 := by decide +kernel
theorem tLs : ∀ h, h < 7 → tL h ≤ 317 := by decide +kernel
theorem tLs5 : ∀ h, h < 6 → tL h ≤ 157 := by decide +kernel
theorem tMx : ∀ n, n < 318 → tU 6 n ≤ 9005 := by decide +kernel
theorem gceB (c n : Nat) : gce c n ≤ 1 := by
  unfold gce
  split <;> omega
theorem nc1 : ncap 16 (0 + 1) = 16 := rfl
theorem nc0 : ncap 16 (0 + 0) = 16 := rfl
def TXT (th mr : Int32) (po : Int64) (mf sp : Int32) (sn : Nat) (sq : Nat → Nat → Int32) (h nR q : Nat) : Prop := ∃ n cS cC, n ≤ tL h ∧ cC ≤ tC h ∧ cS ≤ tU h n ∧ 0 < cS ∧ ∀ (post : Nat × (Nat → Int32) → Prop) (mcb msb : Nat), cC ≤ mcb → cS ≤ msb → (∀ f, FBs f → post (n, f)) → wnX4_textNow nR post th mr po mf sp sn sq mcb msb (nI q)
theorem txtFact {th mr : Int32} {po : Int64} {mf sp : Int32} {sn : Nat} {sq : Nat → Nat → Int32} {h nR q : Nat} (hn : sn ≤ 40) (hh : h < 7) (hq : q < sn) (h0 : sq q 0 = 0) (h1 : IN (sq q 1) 6) : TXT th mr po mf sp sn sq h (nR + 1) q := by
  obtain ⟨a, ha, ea⟩ := h1
  have hd : dg a = 1 := if_pos (by omega)
  obtain ⟨f1, f2, f3⟩ := tFct h hh
  have e : (nI q).toNatClampNeg = q := nI_clamp (by omega)
  refine ⟨2, 26, 4, f1, f2, f3, by decide, fun post mcb msb b1 b2 hp => ?_⟩
  rw [wnX4_textNow, e, c0, c1, c2, h0, ea]
  refine ⟨nI_in hq (by omega), ?_⟩
  (repeat (first | refine iT (by decide) ?_ | refine iF (by decide) ?_ | refine jT (by decide) ?_ | refine jF (by decide) ?_))
  refine ⟨⟨by omega, by omega⟩, ⟨by omega, by omega⟩, fun _ => ⟨0, 0, ⟨by omega, by omega⟩, tAppS (n := 0) (tn := 1) (by decide) (by decide) (by decide) FBz (FBlit (by unfold FB; decide)) (by decide) (by decide) (fun f hf => ⟨0, 0, ⟨by omega, by omega⟩, tAppI (n := 0 + 1) (wn := ncap 16 (0 + 1)) (by omega) (by decide) (by decide) (by omega) hf (by rw [hd]; decide) (by rw [hd]; decide) (fun f hf => ?_)⟩)⟩⟩
  rw [hd]
  exact ⟨2, 6, ⟨by omega, by omega⟩, tToStr (n := 0 + 1 + 1) (wn := ncap (ncap 16 (0 + 1)) (0 + 1 + 1)) (by decide) (by decide) hf (by decide) (by decide) (fun f hf => ⟨⟨by omega, by omega⟩, hp f hf⟩)⟩
theorem sX4_textNow {th mr : Int32} {po : Int64} {mf sp : Int32} {sn : Nat} {sq : Nat → Nat → Int32} (hn : sn ≤ 40) (hs : SOK sn sq) : ∀ (h : Nat), h < 7 → ∀ (q nR d : Nat), q < nR → q < sn → sq q 3 = nI d → d ≤ h → TXT th mr po mf sp sn sq h nR q := by
  intro h
  induction h with
  | zero =>
    intro hh q nR d hqn hq hd hd0
    obtain ⟨r, rfl⟩ : ∃ r, nR = r + 1 := ⟨nR - 1, by omega⟩
    obtain ⟨hw, d2, g1, g2, g3, g4⟩ := hs q hq
    have ed : d2 = d := nIinj (by omega) (by omega) (g2.symm.trans hd)
    obtain ⟨k, hk, hk2⟩ := hw.1
    rw [hk2] at hw g3 g4
    rcases (show k = 0 ∨ k = 1 ∨ k = 2 ∨ k = 3 ∨ k = 4 ∨ k = 5 ∨ k = 6 ∨ k = 7 from by omega) with rfl | rfl | rfl | rfl | rfl | rfl | rfl | rfl
    · exact txtFact hn hh hq hk2 (wf0.mp hw)
    · obtain ⟨e, he, _⟩ := g3 (Or.inl rfl)
      omega
    · obtain ⟨e, he, _⟩ := g3 (Or.inr (Or.inl rfl))
      omega
    · obtain ⟨e, he, _⟩ := g3 (Or.inr (Or.inr rfl))
      omega
    · obtain ⟨e, he, _⟩ := g4 (by decide) (by decide)
      omega
    · obtain ⟨e, he, _⟩ := g4 (by decide) (by decide)
      omega
    · obtain ⟨e, he, _⟩ := g4 (by decide) (by decide)
      omega
    · obtain ⟨e, he, _⟩ := g4 (by decide) (by decide)
      omega
  | succ h ih =>
    intro hh q nR d hqn hq hd hd0
    obtain ⟨r, rfl⟩ : ∃ r, nR = r + 1 := ⟨nR - 1, by omega⟩
    obtain ⟨hw, d2, g1, g2, g3, g4⟩ := hs q hq
    have ed : d2 = d := nIinj (by omega) (by omega) (g2.symm.trans hd)
    have e : (nI q).toNatClampNeg = q := nI_clamp (by omega)
    have hC := tCs h (by omega)
    have hL := tLs h (by omega)
    obtain ⟨k, hk, hk2⟩ := hw.1
    rw [hk2] at hw g3 g4
    rcases (show k = 0 ∨ k = 1 ∨ k = 2 ∨ k = 3 ∨ k = 4 ∨ k = 5 ∨ k = 6 ∨ k = 7 from by omega) with rfl | rfl | rfl | rfl | rfl | rfl | rfl | rfl
    · exact txtFact hn hh hq hk2 (wf0.mp hw)
    · obtain ⟨a, ha, ea⟩ := wf1.mp hw
      obtain ⟨da, k1, k2⟩ := g3 (Or.inl rfl)
      rw [ea, nI_clamp (by omega)] at k2
      obtain ⟨na, sA, cA, l1, l2, l3, l4, la⟩ := ih (by omega) a r da (by omega) (by omega) k2 (by omega)
      have tb := (tNot h (by omega) na (by omega)).resolve_left (by omega)
      have q1 := gceB 16 (1 + na)
      have w1 := ncap_le (c := 16) (n := 1 + na) (by decide) (by omega)
      refine ⟨1 + na, 24 + (1 + na) + gsl 16 (1 + na) + sA, 4 + gce 16 (1 + na) + cA, tb.1, by omega, by omega, by omega, fun post mcb msb b1 b2 hp => ?_⟩
      rw [wnX4_textNow, e, c0, c1, c2, hk2, ea]
      refine ⟨nI_in hq (by omega), ?_⟩
      (repeat (first | refine iT (by decide) ?_ | refine iF (by decide) ?_ | refine jT (by decide) ?_ | refine jF (by decide) ?_))
      refine ⟨⟨by omega, by omega⟩, ⟨by omega, by omega⟩, fun _ => ⟨0, 0, ⟨by omega, by omega⟩, tAppS (n := 0) (tn := 1) (by decide) (by decide) (by decide) FBz (FBlit (by unfold FB; decide)) (by decide) (by decide) (fun f hf => ⟨cA, sA, ⟨by omega, by omega⟩, la _ _ _ (Nat.le_refl _) (Nat.le_refl _) (fun fa hfa => ⟨gce 16 (1 + na), gsl 16 (1 + na), ⟨by omega, by omega⟩, tAppS (n := 1) (wn := 16) (tn := na) (by decide) (by decide) (by omega) hf hfa (Nat.le_refl _) (Nat.le_refl _) (fun f hf => ⟨2, 4 + (1 + na), ⟨by omega, by omega⟩, tToStr (n := 1 + na) (wn := ncap 16 (1 + na)) (ncap_ge _ _) (by omega) hf (Nat.le_refl _) (Nat.le_refl _) (fun f hf => ⟨⟨by omega, by omega⟩, hp f hf⟩)⟩)⟩)⟩)⟩⟩
    · obtain ⟨⟨a, ha, ea⟩, ⟨b, hb, eb⟩⟩ := wf2.mp hw
      obtain ⟨da, k1, k2⟩ := g3 (Or.inr (Or.inl rfl))
      obtain ⟨db, k3, k4⟩ := g4 (by decide) (by decide)
      rw [ea, nI_clamp (by omega)] at k2
      rw [eb, nI_clamp (by omega)] at k4
      obtain ⟨na, sA, cA, l1, l2, l3, l4, la⟩ := ih (by omega) a r da (by omega) (by omega) k2 (by omega)
      obtain ⟨nb, sB, cB, l5, l6, l7, l8, lb⟩ := ih (by omega) b r db (by omega) (by omega) k4 (by omega)
      have tb := ((tBin h (by omega) na (by omega) nb (by omega)).resolve_left (by omega)).resolve_left (by omega)
      unfold Gb at tb
      rw [frcE, frcE, frcE] at tb
      have q1 := gceB 16 (1 + na)
      have w1 := ncap_le (c := 16) (n := 1 + na) (by decide) (by omega)
      have y1 := ncap_ge 16 (1 + na)
      have z1 : 16 ≤ ncap 16 (1 + na) ∧ ncap 16 (1 + na) ≤ 400 := by
        unfold ncap
        split <;> omega
      generalize hc2 : ncap 16 (1 + na) = cc2 at tb w1 y1 z1
      have q2 := gceB cc2 (1 + na + 1)
      have y2 := ncap_ge cc2 (1 + na + 1)
      have z2 : 16 ≤ ncap cc2 (1 + na + 1) ∧ ncap cc2 (1 + na + 1) ≤ 802 ∧ (cc2 ≤ 34 ∨ cc2 ≤ 1 + na) := by
        have : ncap 16 (1 + na) ≤ 34 ∨ ncap 16 (1 + na) ≤ 1 + na := by
          unfold ncap
          split <;> omega
        rw [hc2] at this
        unfold ncap
        split <;> omega
      generalize hc3 : ncap cc2 (1 + na + 1) = cc3 at tb y2 z2
      have q3 := gceB cc3 (1 + na + 1 + nb)
      have y3 := ncap_ge cc3 (1 + na + 1 + nb)
      have z3 : 16 ≤ ncap cc3 (1 + na + 1 + nb) ∧ (ncap cc3 (1 + na + 1 + nb) ≤ cc3 ∨ cc3 < 1 + na + 1 + nb) ∧ ncap cc3 (1 + na + 1 + nb) ≤ max cc3 (max (1 + na + 1 + nb) (2 * cc3 + 2)) := by
        unfold ncap
        split <;> omega
      generalize hc4 : ncap cc3 (1 + na + 1 + nb) = cc4 at tb y3 z3
      have q4 := gceB cc4 (1 + na + 1 + nb + 1)
      have y4 := ncap_ge cc4 (1 + na + 1 + nb + 1)
      have hna : na ≤ 157 := Nat.le_trans l1 (tLs5 h (by omega))
      have hnb : nb ≤ 157 := Nat.le_trans l5 (tLs5 h (by omega))
      have z4 : ncap cc4 (1 + na + 1 + nb + 1) < 2600 := by
        unfold ncap
        split <;> omega
      refine ⟨1 + na + 1 + nb + 1, 24 + (1 + na + 1 + nb + 1) + (gsl 16 (1 + na) + (gsl cc2 (1 + na + 1) + (gsl cc3 (1 + na + 1 + nb) + gsl cc4 (1 + na + 1 + nb + 1)))) + sA + sB, 4 + gce 16 (1 + na) + gce cc2 (1 + na + 1) + gce cc3 (1 + na + 1 + nb) + gce cc4 (1 + na + 1 + nb + 1) + cA + cB, tb.1, by omega, by omega, by omega, fun post mcb msb b1 b2 hp => ?_⟩
      rw [wnX4_textNow, e, c0, c1, c2, hk2, ea, eb]
      refine ⟨nI_in hq (by omega), ?_⟩
      (repeat (first | refine iT (by decide) ?_ | refine iF (by decide) ?_ | refine jT (by decide) ?_ | refine jF (by decide) ?_))
      refine ⟨⟨by omega, by omega⟩, ⟨by omega, by omega⟩, fun _ => ⟨0, 0, ⟨by omega, by omega⟩, tAppS (n := 0) (tn := 1) (by decide) (by decide) (by decide) FBz (FBlit (by unfold FB; decide)) (by decide) (by decide) (fun f hf => ⟨cA, sA, ⟨by omega, by omega⟩, la _ _ _ (Nat.le_refl _) (Nat.le_refl _) (fun fa hfa => ⟨gce 16 (1 + na), gsl 16 (1 + na), ⟨by omega, by omega⟩, tAppS (n := 1) (wn := 16) (tn := na) (by decide) (by decide) (by omega) hf hfa (Nat.le_refl _) (Nat.le_refl _) (fun f hf => ?_)⟩)⟩)⟩⟩
      rw [hc2]
      refine ⟨gce cc2 (1 + na + 1), gsl cc2 (1 + na + 1), ⟨by omega, by omega⟩, tAppS (n := 1 + na) (wn := cc2) (tn := 1) (by omega) (by omega) (by omega) hf (FBlit (by unfold FB; decide)) (Nat.le_refl _) (Nat.le_refl _) (fun f hf => ?_)⟩
      rw [hc3]
      refine ⟨cB, sB, ⟨by omega, by omega⟩, lb _ _ _ (Nat.le_refl _) (Nat.le_refl _) (fun fb hfb => ⟨gce cc3 (1 + na + 1 + nb), gsl cc3 (1 + na + 1 + nb), ⟨by omega, by omega⟩, tAppS (n := 1 + na + 1) (wn := cc3) (tn := nb) (by omega) (by omega) (by omega) hf hfb (Nat.le_refl _) (Nat.le_refl _) (fun f hf => ?_)⟩)⟩
      rw [hc4]
      exact ⟨gce cc4 (1 + na + 1 + nb + 1), gsl cc4 (1 + na + 1 + nb + 1), ⟨by omega, by omega⟩, tAppS (n := 1 + na + 1 + nb) (wn := cc4) (tn := 1) (by omega) (by omega) (by omega) hf (FBlit (by unfold FB; decide)) (Nat.le_refl _) (Nat.le_refl _) (fun f hf => ⟨2, 4 + (1 + na + 1 + nb + 1), ⟨by omega, by omega⟩, tToStr (n := 1 + na + 1 + nb + 1) (wn := ncap cc4 (1 + na + 1 + nb + 1)) y4 z4 hf (Nat.le_refl _) (Nat.le_refl _) (fun f hf => ⟨⟨by omega, by omega⟩, hp f hf⟩)⟩)⟩
    · obtain ⟨⟨a, ha, ea⟩, ⟨b, hb, eb⟩⟩ := wf3.mp hw
      obtain ⟨da, k1, k2⟩ := g3 (Or.inr (Or.inr rfl))
      obtain ⟨db, k3, k4⟩ := g4 (by decide) (by decide)
      rw [ea, nI_clamp (by omega)] at k2
      rw [eb, nI_clamp (by omega)] at k4
      obtain ⟨na, sA, cA, l1, l2, l3, l4, la⟩ := ih (by omega) a r da (by omega) (by omega) k2 (by omega)
      obtain ⟨nb, sB, cB, l5, l6, l7, l8, lb⟩ := ih (by omega) b r db (by omega) (by omega) k4 (by omega)
      have tb := ((tBin h (by omega) na (by omega) nb (by omega)).resolve_left (by omega)).resolve_left (by omega)
      unfold Gb at tb
      rw [frcE, frcE, frcE] at tb
      have q1 := gceB 16 (1 + na)
      have w1 := ncap_le (c := 16) (n := 1 + na) (by decide) (by omega)
      have y1 := ncap_ge 16 (1 + na)
      have z1 : 16 ≤ ncap 16 (1 + na) ∧ ncap 16 (1 + na) ≤ 400 := by
        unfold ncap
        split <;> omega
      generalize hc2 : ncap 16 (1 + na) = cc2 at tb w1 y1 z1
      have q2 := gceB cc2 (1 + na + 1)
      have y2 := ncap_ge cc2 (1 + na + 1)
      have z2 : 16 ≤ ncap cc2 (1 + na + 1) ∧ ncap cc2 (1 + na + 1) ≤ 802 ∧ (cc2 ≤ 34 ∨ cc2 ≤ 1 + na) := by
        have : ncap 16 (1 + na) ≤ 34 ∨ ncap 16 (1 + na) ≤ 1 + na := by
          unfold ncap
          split <;> omega
        rw [hc2] at this
        unfold ncap
        split <;> omega
      generalize hc3 : ncap cc2 (1 + na + 1) = cc3 at tb y2 z2
      have q3 := gceB cc3 (1 + na + 1 + nb)
      have y3 := ncap_ge cc3 (1 + na + 1 + nb)
      have z3 : 16 ≤ ncap cc3 (1 + na + 1 + nb) ∧ (ncap cc3 (1 + na + 1 + nb) ≤ cc3 ∨ cc3 < 1 + na + 1 + nb) ∧ ncap cc3 (1 + na + 1 + nb) ≤ max cc3 (max (1 + na + 1 + nb) (2 * cc3 + 2)) := by
        unfold ncap
        split <;> omega
      generalize hc4 : ncap cc3 (1 + na + 1 + nb) = cc4 at tb y3 z3
      have q4 := gceB cc4 (1 + na + 1 + nb + 1)
      have y4 := ncap_ge cc4 (1 + na + 1 + nb + 1)
      have hna : na ≤ 157 := Nat.le_trans l1 (tLs5 h (by omega))
      have hnb : nb ≤ 157 := Nat.le_trans l5 (tLs5 h (by omega))
      have z4 : ncap cc4 (1 + na + 1 + nb + 1) < 2600 := by
        unfold ncap
        split <;> omega
      refine ⟨1 + na + 1 + nb + 1, 24 + (1 + na + 1 + nb + 1) + (gsl 16 (1 + na) + (gsl cc2 (1 + na + 1) + (gsl cc3 (1 + na + 1 + nb) + gsl cc4 (1 + na + 1 + nb + 1)))) + sA + sB, 4 + gce 16 (1 + na) + gce cc2 (1 + na + 1) + gce cc3 (1 + na + 1 + nb) + gce cc4 (1 + na + 1 + nb + 1) + cA + cB, tb.1, by omega, by omega, by omega, fun post mcb msb b1 b2 hp => ?_⟩
      rw [wnX4_textNow, e, c0, c1, c2, hk2, ea, eb]
      refine ⟨nI_in hq (by omega), ?_⟩
      (repeat (first | refine iT (by decide) ?_ | refine iF (by decide) ?_ | refine jT (by decide) ?_ | refine jF (by decide) ?_))
      refine ⟨⟨by omega, by omega⟩, ⟨by omega, by omega⟩, fun _ => ⟨0, 0, ⟨by omega, by omega⟩, tAppS (n := 0) (tn := 1) (by decide) (by decide) (by decide) FBz (FBlit (by unfold FB; decide)) (by decide) (by decide) (fun f hf => ⟨cA, sA, ⟨by omega, by omega⟩, la _ _ _ (Nat.le_refl _) (Nat.le_refl _) (fun fa hfa => ⟨gce 16 (1 + na), gsl 16 (1 + na), ⟨by omega, by omega⟩, tAppS (n := 1) (wn := 16) (tn := na) (by decide) (by decide) (by omega) hf hfa (Nat.le_refl _) (Nat.le_refl _) (fun f hf => ?_)⟩)⟩)⟩⟩
      rw [hc2]
      refine ⟨gce cc2 (1 + na + 1), gsl cc2 (1 + na + 1), ⟨by omega, by omega⟩, tAppS (n := 1 + na) (wn := cc2) (tn := 1) (by omega) (by omega) (by omega) hf (FBlit (by unfold FB; decide)) (Nat.le_refl _) (Nat.le_refl _) (fun f hf => ?_)⟩
      rw [hc3]
      refine ⟨cB, sB, ⟨by omega, by omega⟩, lb _ _ _ (Nat.le_refl _) (Nat.le_refl _) (fun fb hfb => ⟨gce cc3 (1 + na + 1 + nb), gsl cc3 (1 + na + 1 + nb), ⟨by omega, by omega⟩, tAppS (n := 1 + na + 1) (wn := cc3) (tn := nb) (by omega) (by omega) (by omega) hf hfb (Nat.le_refl _) (Nat.le_refl _) (fun f hf => ?_)⟩)⟩
      rw [hc4]
      exact ⟨gce cc4 (1 + na + 1 + nb + 1), gsl cc4 (1 + na + 1 + nb + 1), ⟨by omega, by omega⟩, tAppS (n := 1 + na + 1 + nb) (wn := cc4) (tn := 1) (by omega) (by omega) (by omega) hf (FBlit (by unfold FB; decide)) (Nat.le_refl _) (Nat.le_refl _) (fun f hf => ⟨2, 4 + (1 + na + 1 + nb + 1), ⟨by omega, by omega⟩, tToStr (n := 1 + na + 1 + nb + 1) (wn := ncap cc4 (1 + na + 1 + nb + 1)) y4 z4 hf (Nat.le_refl _) (Nat.le_refl _) (fun f hf => ⟨⟨by omega, by omega⟩, hp f hf⟩)⟩)⟩
    · obtain ⟨⟨a, ha, ea⟩, ⟨b, hb, eb⟩⟩ := wf4.mp hw
      obtain ⟨db, k3, k4⟩ := g4 (by decide) (by decide)
      rw [eb, nI_clamp (by omega)] at k4
      obtain ⟨nb, sB, cB, l5, l6, l7, l8, lb⟩ := ih (by omega) b r db (by omega) (by omega) k4 (by omega)
      have hd := dgB a
      have tb := ((tKno h (by omega) (dg a) hd.2 nb (by omega)).resolve_left (by omega)).resolve_left (by omega)
      have n1 : ncap (ncap 16 (0 + 0)) (0 + 0 + 1) = 16 := rfl
      have n2 : ncap 16 (0 + 0 + 1 + dg a) = 16 := if_pos (by omega)
      have n3 : ncap 16 (0 + 0 + 1 + dg a + 1) = 16 := if_pos (by omega)
      have o2 : gce 16 (0 + 0 + 1 + dg a) ≤ 0 ∧ gsl 16 (0 + 0 + 1 + dg a) ≤ 0 ∧ gce 16 (0 + 0 + 1 + dg a + 1) ≤ 0 ∧ gsl 16 (0 + 0 + 1 + dg a + 1) ≤ 0 := by
        unfold gce gsl
        rw [if_pos (by omega), if_pos (by omega), if_pos (by omega), if_pos (by omega)]
        decide
      rw [show 0 + 1 + dg a + 1 + nb = 0 + 0 + 1 + dg a + 1 + nb by omega] at tb
      have q1 := gceB 16 (0 + 0 + 1 + dg a + 1 + nb)
      have w1 := ncap_le (c := 16) (n := 0 + 0 + 1 + dg a + 1 + nb) (by decide) (by omega)
      refine ⟨0 + 0 + 1 + dg a + 1 + nb, 24 + (0 + 0 + 1 + dg a + 1 + nb) + gsl 16 (0 + 0 + 1 + dg a + 1 + nb) + sB, 4 + gce 16 (0 + 0 + 1 + dg a + 1 + nb) + cB, tb.1, by omega, by omega, by omega, fun post mcb msb b1 b2 hp => ?_⟩
      rw [wnX4_textNow, e, c0, c1, c2, hk2, ea, eb]
      refine ⟨nI_in hq (by omega), ?_⟩
      (repeat (first | refine iT (by decide) ?_ | refine iF (by decide) ?_ | refine jT (by decide) ?_ | refine jF (by decide) ?_))
      refine ⟨⟨by omega, by omega⟩, ⟨by omega, by omega⟩, fun _ => ⟨0, 0, ⟨by omega, by omega⟩, tAppS (n := 0) (tn := 0) (by decide) (by decide) (by decide) FBz (FBlit (by unfold FB; decide)) (by decide) (by decide) (fun f hf => iF (by decide) (iT (by decide) ⟨fun q => absurd q (by decide), rfl, rfl, ⟨0, 0, ⟨by omega, by omega⟩, tAppC (n := 0 + 0) (wn := ncap 16 (0 + 0)) (by decide) (by decide) (by decide) (by decide) hf (by decide) (by decide) (fun f hf => ?_)⟩⟩))⟩⟩
      rw [n1]
      refine ⟨0, 0, ⟨by omega, by omega⟩, tAppI (n := 0 + 0 + 1) (wn := 16) (by omega) (by decide) (by decide) (by omega) hf o2.1 o2.2.1 (fun f hf => ?_)⟩
      rw [n2]
      refine ⟨0, 0, ⟨by omega, by omega⟩, tAppS (n := 0 + 0 + 1 + dg a) (wn := 16) (tn := 1) (by decide) (by decide) (by omega) hf (FBlit (by unfold FB; decide)) o2.2.2.1 o2.2.2.2 (fun f hf => ?_)⟩
      rw [n3]
      exact ⟨cB, sB, ⟨by omega, by omega⟩, lb _ _ _ (Nat.le_refl _) (Nat.le_refl _) (fun fb hfb => ⟨gce 16 (0 + 0 + 1 + dg a + 1 + nb), gsl 16 (0 + 0 + 1 + dg a + 1 + nb), ⟨by omega, by omega⟩, tAppS (n := 0 + 0 + 1 + dg a + 1) (wn := 16) (tn := nb) (by decide) (by decide) (by omega) hf hfb (Nat.le_refl _) (Nat.le_refl _) (fun f hf => ⟨2, 4 + (0 + 0 + 1 + dg a + 1 + nb), ⟨by omega, by omega⟩, tToStr (n := 0 + 0 + 1 + dg a + 1 + nb) (wn := ncap 16 (0 + 0 + 1 + dg a + 1 + nb)) (ncap_ge _ _) (by omega) hf (Nat.le_refl _) (Nat.le_refl _) (fun f hf => ⟨⟨by omega, by omega⟩, hp f hf⟩)⟩)⟩)⟩
    · obtain ⟨⟨a, ha0, ha, ea⟩, ⟨b, hb, eb⟩⟩ := wf5.mp hw
      obtain ⟨db, k3, k4⟩ := g4 (by decide) (by decide)
      rw [eb, nI_clamp (by omega)] at k4
      obtain ⟨nb, sB, cB, l5, l6, l7, l8, lb⟩ := ih (by omega) b r db (by omega) (by omega) k4 (by omega)
      have hd := dgB a
      have tb := ((tKno h (by omega) (dg a) hd.2 nb (by omega)).resolve_left (by omega)).resolve_left (by omega)
      have n1 : ncap (ncap 16 (0 + 0)) (0 + 0 + 1) = 16 := rfl
      have n2 : ncap 16 (0 + 0 + 1 + dg a) = 16 := if_pos (by omega)
      have n3 : ncap 16 (0 + 0 + 1 + dg a + 1) = 16 := if_pos (by omega)
      have o2 : gce 16 (0 + 0 + 1 + dg a) ≤ 0 ∧ gsl 16 (0 + 0 + 1 + dg a) ≤ 0 ∧ gce 16 (0 + 0 + 1 + dg a + 1) ≤ 0 ∧ gsl 16 (0 + 0 + 1 + dg a + 1) ≤ 0 := by
        unfold gce gsl
        rw [if_pos (by omega), if_pos (by omega), if_pos (by omega), if_pos (by omega)]
        decide
      rw [show 0 + 1 + dg a + 1 + nb = 0 + 0 + 1 + dg a + 1 + nb by omega] at tb
      have q1 := gceB 16 (0 + 0 + 1 + dg a + 1 + nb)
      have w1 := ncap_le (c := 16) (n := 0 + 0 + 1 + dg a + 1 + nb) (by decide) (by omega)
      refine ⟨0 + 0 + 1 + dg a + 1 + nb, 24 + (0 + 0 + 1 + dg a + 1 + nb) + gsl 16 (0 + 0 + 1 + dg a + 1 + nb) + sB, 4 + gce 16 (0 + 0 + 1 + dg a + 1 + nb) + cB, tb.1, by omega, by omega, by omega, fun post mcb msb b1 b2 hp => ?_⟩
      rw [wnX4_textNow, e, c0, c1, c2, hk2, ea, eb]
      refine ⟨nI_in hq (by omega), ?_⟩
      (repeat (first | refine iT (by decide) ?_ | refine iF (by decide) ?_ | refine jT (by decide) ?_ | refine jF (by decide) ?_))
      refine ⟨⟨by omega, by omega⟩, ⟨by omega, by omega⟩, fun _ => ⟨0, 0, ⟨by omega, by omega⟩, tAppS (n := 0) (tn := 0) (by decide) (by decide) (by decide) FBz (FBlit (by unfold FB; decide)) (by decide) (by decide) (fun f hf => iF (by decide) (iT (by decide) ⟨fun q => absurd q (by decide), rfl, rfl, ⟨0, 0, ⟨by omega, by omega⟩, tAppC (n := 0 + 0) (wn := ncap 16 (0 + 0)) (by decide) (by decide) (by decide) (by decide) hf (by decide) (by decide) (fun f hf => ?_)⟩⟩))⟩⟩
      rw [n1]
      refine ⟨0, 0, ⟨by omega, by omega⟩, tAppI (n := 0 + 0 + 1) (wn := 16) (by omega) (by decide) (by decide) (by omega) hf o2.1 o2.2.1 (fun f hf => ?_)⟩
      rw [n2]
      refine ⟨0, 0, ⟨by omega, by omega⟩, tAppS (n := 0 + 0 + 1 + dg a) (wn := 16) (tn := 1) (by decide) (by decide) (by omega) hf (FBlit (by unfold FB; decide)) o2.2.2.1 o2.2.2.2 (fun f hf => ?_)⟩
      rw [n3]
      exact ⟨cB, sB, ⟨by omega, by omega⟩, lb _ _ _ (Nat.le_refl _) (Nat.le_refl _) (fun fb hfb => ⟨gce 16 (0 + 0 + 1 + dg a + 1 + nb), gsl 16 (0 + 0 + 1 + dg a + 1 + nb), ⟨by omega, by omega⟩, tAppS (n := 0 + 0 + 1 + dg a + 1) (wn := 16) (tn := nb) (by decide) (by decide) (by omega) hf hfb (Nat.le_refl _) (Nat.le_refl _) (fun f hf => ⟨2, 4 + (0 + 0 + 1 + dg a + 1 + nb), ⟨by omega, by omega⟩, tToStr (n := 0 + 0 + 1 + dg a + 1 + nb) (wn := ncap 16 (0 + 0 + 1 + dg a + 1 + nb)) (ncap_ge _ _) (by omega) hf (Nat.le_refl _) (Nat.le_refl _) (fun f hf => ⟨⟨by omega, by omega⟩, hp f hf⟩)⟩)⟩)⟩
    · obtain ⟨⟨a, ha0, ha, ea⟩, ⟨b, hb, eb⟩⟩ := wf6.mp hw
      obtain ⟨db, k3, k4⟩ := g4 (by decide) (by decide)
      rw [eb, nI_clamp (by omega)] at k4
      obtain ⟨nb, sB, cB, l5, l6, l7, l8, lb⟩ := ih (by omega) b r db (by omega) (by omega) k4 (by omega)
      have hd := dgB a
      have tb := ((tKno h (by omega) (dg a) hd.2 nb (by omega)).resolve_left (by omega)).resolve_left (by omega)
      have n1 : ncap (ncap 16 (0 + 0)) (0 + 0 + 1) = 16 := rfl
      have n2 : ncap 16 (0 + 0 + 1 + dg a) = 16 := if_pos (by omega)
      have n3 : ncap 16 (0 + 0 + 1 + dg a + 1) = 16 := if_pos (by omega)
      have o2 : gce 16 (0 + 0 + 1 + dg a) ≤ 0 ∧ gsl 16 (0 + 0 + 1 + dg a) ≤ 0 ∧ gce 16 (0 + 0 + 1 + dg a + 1) ≤ 0 ∧ gsl 16 (0 + 0 + 1 + dg a + 1) ≤ 0 := by
        unfold gce gsl
        rw [if_pos (by omega), if_pos (by omega), if_pos (by omega), if_pos (by omega)]
        decide
      rw [show 0 + 1 + dg a + 1 + nb = 0 + 0 + 1 + dg a + 1 + nb by omega] at tb
      have q1 := gceB 16 (0 + 0 + 1 + dg a + 1 + nb)
      have w1 := ncap_le (c := 16) (n := 0 + 0 + 1 + dg a + 1 + nb) (by decide) (by omega)
      refine ⟨0 + 0 + 1 + dg a + 1 + nb, 24 + (0 + 0 + 1 + dg a + 1 + nb) + gsl 16 (0 + 0 + 1 + dg a + 1 + nb) + sB, 4 + gce 16 (0 + 0 + 1 + dg a + 1 + nb) + cB, tb.1, by omega, by omega, by omega, fun post mcb msb b1 b2 hp => ?_⟩
      rw [wnX4_textNow, e, c0, c1, c2, hk2, ea, eb]
      refine ⟨nI_in hq (by omega), ?_⟩
      (repeat (first | refine iT (by decide) ?_ | refine iF (by decide) ?_ | refine jT (by decide) ?_ | refine jF (by decide) ?_))
      refine ⟨⟨by omega, by omega⟩, ⟨by omega, by omega⟩, fun _ => ⟨0, 0, ⟨by omega, by omega⟩, tAppS (n := 0) (tn := 0) (by decide) (by decide) (by decide) FBz (FBlit (by unfold FB; decide)) (by decide) (by decide) (fun f hf => iF (by decide) (iT (by decide) ⟨fun q => absurd q (by decide), rfl, rfl, ⟨0, 0, ⟨by omega, by omega⟩, tAppC (n := 0 + 0) (wn := ncap 16 (0 + 0)) (by decide) (by decide) (by decide) (by decide) hf (by decide) (by decide) (fun f hf => ?_)⟩⟩))⟩⟩
      rw [n1]
      refine ⟨0, 0, ⟨by omega, by omega⟩, tAppI (n := 0 + 0 + 1) (wn := 16) (by omega) (by decide) (by decide) (by omega) hf o2.1 o2.2.1 (fun f hf => ?_)⟩
      rw [n2]
      refine ⟨0, 0, ⟨by omega, by omega⟩, tAppS (n := 0 + 0 + 1 + dg a) (wn := 16) (tn := 1) (by decide) (by decide) (by omega) hf (FBlit (by unfold FB; decide)) o2.2.2.1 o2.2.2.2 (fun f hf => ?_)⟩
      rw [n3]
      exact ⟨cB, sB, ⟨by omega, by omega⟩, lb _ _ _ (Nat.le_refl _) (Nat.le_refl _) (fun fb hfb => ⟨gce 16 (0 + 0 + 1 + dg a + 1 + nb), gsl 16 (0 + 0 + 1 + dg a + 1 + nb), ⟨by omega, by omega⟩, tAppS (n := 0 + 0 + 1 + dg a + 1) (wn := 16) (tn := nb) (by decide) (by decide) (by omega) hf hfb (Nat.le_refl _) (Nat.le_refl _) (fun f hf => ⟨2, 4 + (0 + 0 + 1 + dg a + 1 + nb), ⟨by omega, by omega⟩, tToStr (n := 0 + 0 + 1 + dg a + 1 + nb) (wn := ncap 16 (0 + 0 + 1 + dg a + 1 + nb)) (ncap_ge _ _) (by omega) hf (Nat.le_refl _) (Nat.le_refl _) (fun f hf => ⟨⟨by omega, by omega⟩, hp f hf⟩)⟩)⟩)⟩
    · obtain ⟨⟨a, ha0, ha, ea⟩, ⟨b, hb, eb⟩⟩ := wf7.mp hw
      obtain ⟨db, k3, k4⟩ := g4 (by decide) (by decide)
      rw [eb, nI_clamp (by omega)] at k4
      obtain ⟨nb, sB, cB, l5, l6, l7, l8, lb⟩ := ih (by omega) b r db (by omega) (by omega) k4 (by omega)
      have hd := dgB a
      have tb := ((tKno h (by omega) (dg a) hd.2 nb (by omega)).resolve_left (by omega)).resolve_left (by omega)
      have n1 : ncap (ncap 16 (0 + 0)) (0 + 0 + 1) = 16 := rfl
      have n2 : ncap 16 (0 + 0 + 1 + dg a) = 16 := if_pos (by omega)
      have n3 : ncap 16 (0 + 0 + 1 + dg a + 1) = 16 := if_pos (by omega)
      have o2 : gce 16 (0 + 0 + 1 + dg a) ≤ 0 ∧ gsl 16 (0 + 0 + 1 + dg a) ≤ 0 ∧ gce 16 (0 + 0 + 1 + dg a + 1) ≤ 0 ∧ gsl 16 (0 + 0 + 1 + dg a + 1) ≤ 0 := by
        unfold gce gsl
        rw [if_pos (by omega), if_pos (by omega), if_pos (by omega), if_pos (by omega)]
        decide
      rw [show 0 + 1 + dg a + 1 + nb = 0 + 0 + 1 + dg a + 1 + nb by omega] at tb
      have q1 := gceB 16 (0 + 0 + 1 + dg a + 1 + nb)
      have w1 := ncap_le (c := 16) (n := 0 + 0 + 1 + dg a + 1 + nb) (by decide) (by omega)
      refine ⟨0 + 0 + 1 + dg a + 1 + nb, 24 + (0 + 0 + 1 + dg a + 1 + nb) + gsl 16 (0 + 0 + 1 + dg a + 1 + nb) + sB, 4 + gce 16 (0 + 0 + 1 + dg a + 1 + nb) + cB, tb.1, by omega, by omega, by omega, fun post mcb msb b1 b2 hp => ?_⟩
      rw [wnX4_textNow, e, c0, c1, c2, hk2, ea, eb]
      refine ⟨nI_in hq (by omega), ?_⟩
      (repeat (first | refine iT (by decide) ?_ | refine iF (by decide) ?_ | refine jT (by decide) ?_ | refine jF (by decide) ?_))
      refine ⟨⟨by omega, by omega⟩, ⟨by omega, by omega⟩, fun _ => ⟨0, 0, ⟨by omega, by omega⟩, tAppS (n := 0) (tn := 0) (by decide) (by decide) (by decide) FBz (FBlit (by unfold FB; decide)) (by decide) (by decide) (fun f hf => iF (by decide) (iT (by decide) ⟨fun q => absurd q (by decide), rfl, rfl, ⟨0, 0, ⟨by omega, by omega⟩, tAppC (n := 0 + 0) (wn := ncap 16 (0 + 0)) (by decide) (by decide) (by decide) (by decide) hf (by decide) (by decide) (fun f hf => ?_)⟩⟩))⟩⟩
      rw [n1]
      refine ⟨0, 0, ⟨by omega, by omega⟩, tAppI (n := 0 + 0 + 1) (wn := 16) (by omega) (by decide) (by decide) (by omega) hf o2.1 o2.2.1 (fun f hf => ?_)⟩
      rw [n2]
      refine ⟨0, 0, ⟨by omega, by omega⟩, tAppS (n := 0 + 0 + 1 + dg a) (wn := 16) (tn := 1) (by decide) (by decide) (by omega) hf (FBlit (by unfold FB; decide)) o2.2.2.1 o2.2.2.2 (fun f hf => ?_)⟩
      rw [n3]
      exact ⟨cB, sB, ⟨by omega, by omega⟩, lb _ _ _ (Nat.le_refl _) (Nat.le_refl _) (fun fb hfb => ⟨gce 16 (0 + 0 + 1 + dg a + 1 + nb), gsl 16 (0 + 0 + 1 + dg a + 1 + nb), ⟨by omega, by omega⟩, tAppS (n := 0 + 0 + 1 + dg a + 1) (wn := 16) (tn := nb) (by decide) (by decide) (by omega) hf hfb (Nat.le_refl _) (Nat.le_refl _) (fun f hf => ⟨2, 4 + (0 + 0 + 1 + dg a + 1 + nb), ⟨by omega, by omega⟩, tToStr (n := 0 + 0 + 1 + dg a + 1 + nb) (wn := ncap 16 (0 + 0 + 1 + dg a + 1 + nb)) (ncap_ge _ _) (by omega) hf (Nat.le_refl _) (Nat.le_refl _) (fun f hf => ⟨⟨by omega, by omega⟩, hp f hf⟩)⟩)⟩)⟩
theorem snX4_text {post : Int32 → Prop} {th mr : Int32} {po : Int64} {mf sp : Int32} {sn : Nat} {sq : Nat → Nat → Int32} {p1 : Int32} (hn : sn ≤ 40) (hs : SOK sn sq) (hp : ∀ r, post r) : wnX4_text post th mr po mf sp sn sq 1000 9005 p1 := by
  refine tX4_isSentence hn (fun r z hr => ⟨fun c => ?_, fun _ => hp _⟩)
  obtain ⟨q, hq, rfl⟩ := hr.mp c
  refine ⟨nI_in hq (by omega), ?_⟩
  have e : (nI q).toNatClampNeg = q := nI_clamp (by omega)
  obtain ⟨-, d, d1, d2, -⟩ := hs q hq
  rw [e, c3, d2]
  refine ⟨fun le6 => ?_, fun _ => hp _⟩
  have hd : d ≤ 6 := (nILe (k := 6) (by omega) (by decide)).mp le6
  obtain ⟨n, cS, cC, l1, l2, l3, l4, l⟩ := sX4_textNow (th := 0) (mr := mr) (po := po) (mf := mf) (sp := sp) hn hs 6 (by decide) q 41 d (by omega) hq d2 hd
  have m1 := tMx n (Nat.lt_succ_of_le l1)
  have m2 : tC 6 = 760 := rfl
  exact ⟨1000, 9005, ⟨by decide, by decide⟩, 41, by decide, l _ _ _ (by omega) (by omega) (fun f hf => ⟨⟨by decide, by decide⟩, hp _⟩)⟩
