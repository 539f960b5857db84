/-! the checksum -/
def dgS (st : Nat → Int64 → Int64) : Nat → Nat → Int64 → Int64
  | 0, _, x => x
  | m + 1, k, x => dgS st m (k + 1) (st k x)
set_option maxRecDepth 16384 in
theorem dgSe {st st2 : Nat → Int64 → Int64} : ∀ (m k : Nat) (x : Int64), (∀ j, k ≤ j → j < k + m → ∀ y, st j y = st2 j y) → dgS st m k x = dgS st2 m k x := by
  intro m
  induction m with
  | zero => exact fun _ _ _ => rfl
  | succ m ih =>
    intro k x h
    rw [dgS, dgS, h k (Nat.le_refl k) (by omega)]
    exact ih (k + 1) _ (fun j a b => h j (by omega) (by omega))
noncomputable def stN (ctf : Nat → Int32) (mf : Int32) (op : Int64) (E : Nat → Nat → Nat → Bool) (T : Nat → Int64) (n w : Nat) : Nat → Int64 → Int64 := fun i x => x * 31 + (nightV ctf mf op E T n w i).toInt64
noncomputable def stH (op : Int64) (DD : Nat → Nat → Int32) (T : Nat → Int64) (n w g : Nat) : Nat → Int64 → Int64 := fun i x => x * 31 + (guardV op DD T n w g i).toInt64
noncomputable def stG (op : Int64) (DD : Nat → Nat → Int32) (T : Nat → Int64) (n w : Nat) : Nat → Int64 → Int64 := fun g x => dgS (stH op DD T n w g) 5 0 x * 31 + ALK op (ED DD) w g
noncomputable def stP (op : Int64) (E : Nat → Nat → Nat → Bool) (T : Nat → Int64) (sq : Nat → Nat → Int32) (w s : Nat) : Nat → Int64 → Int64 := fun i x => x * 31 + (ofV op E T sq w s i).toInt64
noncomputable def stO (op : Int64) (E : Nat → Nat → Nat → Bool) (T : Nat → Int64) (sq : Nat → Nat → Int32) (w : Nat) : Nat → Int64 → Int64 := fun s x => dgS (stP op E T sq w s) 10 0 (x * 31 + T s) * 31 + (dptA op E 63 w (T s)).toInt64
noncomputable def digA (ctf : Nat → Int32) (mf : Int32) (op : Int64) (DD : Nat → Nat → Int32) (T : Nat → Int64) (sq : Nat → Nat → Int32) (n w : Nat) : Int64 := dgS (stO op (ED DD) T sq w) n 0 (dgS (stG op DD T n w) 6 0 (dgS (stN ctf mf op (ED DD) T n w) 13 0 6121 * 31 + op))
noncomputable def digB (op : Int64) (DD : Nat → Nat → Int32) (sq : Nat → Nat → Int32) (n w : Nat) (x : Int64) : Int64 := if n = 0 then x else (x * 31 + (notV op sq n (n - 1) w 0 (ED DD)).toInt64) * 31 + (rnd DD sq n (n - 1) 63 w 64 op 0).toInt64
noncomputable def digC (op : Int64) (DD : Nat → Nat → Int32) (T : Nat → Int64) (n w : Nat) (x : Int64) : Int64 := (x * 31 + FP.d2l (FP.dmul (4634204016564240384 : UInt64) (witV (cntP (KNT op (ED DD) T 0 w) n) n))) * 31 + 1
noncomputable def digV (ctf : Nat → Int32) (mf : Int32) (op : Int64) (DD : Nat → Nat → Int32) (T : Nat → Int64) (sq : Nat → Nat → Int32) (n w : Nat) : Int64 := digC op DD T n w (digB op DD sq n w (digA ctf mf op DD T sq n w))
set_option maxRecDepth 16384 in
theorem ofT {op : Int64} {E : Nat → Nat → Nat → Bool} {T T2 : Nat → Int64} {sq : Nat → Nat → Int32} {w s : Nat} (h : T s = T2 s) (i : Nat) : ofV op E T sq w s i = ofV op E T2 sq w s i := by
  unfold ofV
  rw [h]
set_option maxRecDepth 16384 in
theorem digT {ctf : Nat → Int32} {mf : Int32} {op : Int64} {DD : Nat → Nat → Int32} {T T2 : Nat → Int64} {sq : Nat → Nat → Int32} {n w : Nat} (h : ∀ s, s < n → T s = T2 s) : digV ctf mf op DD T sq n w = digV ctf mf op DD T2 sq n w := by
  have e1 : stN ctf mf op (ED DD) T n w = stN ctf mf op (ED DD) T2 n w := by
    funext i x
    unfold stN
    rw [nightT h]
  have e2 : stG op DD T n w = stG op DD T2 n w := by
    funext g x
    unfold stG
    rw [show stH op DD T n w g = stH op DD T2 n w g from by
      funext i y
      unfold stH
      rw [guardT h]]
  have e3 : ∀ x, dgS (stO op (ED DD) T sq w) n 0 x = dgS (stO op (ED DD) T2 sq w) n 0 x := fun x => dgSe n 0 x (fun s _ hs y => by
    have hs2 : T s = T2 s := h s (by omega)
    unfold stO
    rw [hs2, show stP op (ED DD) T sq w s = stP op (ED DD) T2 sq w s from by
      funext i z
      unfold stP
      rw [ofT hs2]])
  unfold digV digC digA
  rw [e1, e2, e3, knT h]
set_option maxRecDepth 16384 in
theorem lt12 {k : Nat} (c : Nat) (hc : c < 2 ^ 31) (hk : k ≤ c) : ¬ nI c < nI k := fun q => absurd ((nILt hc (by omega)).mp q) (by omega)
set_option maxRecDepth 16384 in
theorem tX2_digest_L6 {post : Int64 → (Nat → Int64) × (Nat → Int64) × Int64 × Int32 × (Nat → Int64) × (Nat → Int64) × Int64 × Int32 → Prop} {K31 : Int64 → Int32 → Prop} {tA wP nT aK lK sW rF : Int32} {ctf : Nat → Int32} {mf : Int32} {dk wg : Nat → Int64} {op : Int64} {E : Nat → Nat → Nat → Bool} {n w : Nat} (hC : CD dk E) (hq : EQV E) (hn : n ≤ 40) (hw : w < 64) (ho : mw op w = true) (hct : JCT tA wP nT aK lK sW rF ctf mf) : ∀ (m k : Nat) (x : Int64), k + m = 13 → (∀ b, K31 (dgS (stN ctf mf op E wg n w) m k x) b) → wX2_digest_L6 post K31 tA wP nT aK lK sW rF dk wg op (nI w) (nI n) (m + 1) x (nI k) := by
  intro m
  induction m with
  | zero =>
    intro k x h hK
    obtain rfl : k = 13 := by omega
    exact ⟨fun _ => hK _, fun q => absurd (by decide) q⟩
  | succ m ih =>
    intro k x h hK
    refine ⟨fun q => absurd (show nI 12 < nI k from q) (lt12 12 (by decide) (by omega)), fun _ => tnX2_night hC hq hn hw ho hct (by omega) ?_⟩
    rw [← nI_succ]
    exact ih (k + 1) _ (by omega) hK
set_option maxRecDepth 16384 in
theorem tX2_digest_L53 {post : Int64 → (Nat → Int64) × (Nat → Int64) × Int64 × Int32 × (Nat → Int64) × (Nat → Int64) × Int64 × Int32 → Prop} {K80 : Int64 → Int32 → Prop} {dk wg : Nat → Int64} {op : Int64} {DD : Nat → Nat → Int32} {n w g : Nat} (hC : CD dk (ED DD)) (hD : DOK DD) (hn : n ≤ 40) (hg : g < 6) (hw : w < 64) : ∀ (m k : Nat) (x : Int64), k + m = 5 → (∀ b, K80 (dgS (stH op DD wg n w g) m k x) b) → wX2_digest_L53 post K80 dk wg op (nI w) (nI n) (nI g) (m + 1) x (nI k) := by
  intro m
  induction m with
  | zero =>
    intro k x h hK
    obtain rfl : k = 5 := by omega
    exact ⟨fun _ => hK _, fun q => absurd (by decide) q⟩
  | succ m ih =>
    intro k x h hK
    refine ⟨fun q => absurd (show nI 4 < nI k from q) (lt12 4 (by decide) (by omega)), fun _ => tnX2_ofGuard hC hD hn hg hw (by omega) ?_⟩
    rw [← nI_succ]
    exact ih (k + 1) _ (by omega) hK
set_option maxRecDepth 16384 in
theorem tX2_digest_L44 {post : Int64 → (Nat → Int64) × (Nat → Int64) × Int64 × Int32 × (Nat → Int64) × (Nat → Int64) × Int64 × Int32 → Prop} {K105 : Int64 → Int32 → Prop} {dk wg : Nat → Int64} {op : Int64} {DD : Nat → Nat → Int32} {n w : Nat} (hC : CD dk (ED DD)) (hD : DOK DD) (hn : n ≤ 40) (hw : w < 64) (ho : mw op w = true) : ∀ (m k : Nat) (x : Int64), k + m = 6 → (∀ b, K105 (dgS (stG op DD wg n w) m k x) b) → wX2_digest_L44 post K105 dk wg op (nI w) (nI n) (m + 1) x (nI k) := by
  intro m
  induction m with
  | zero =>
    intro k x h hK
    obtain rfl : k = 6 := by omega
    exact ⟨fun _ => hK _, fun q => absurd (by decide) q⟩
  | succ m ih =>
    intro k x h hK
    have hk : k < 6 := by omega
    refine ⟨fun q => absurd q (notLe (a := 6) hk (by decide)), fun _ => ⟨6, tX2_digest_L53 hC hD hn hk hw 5 0 x rfl (fun _ => tnX2_alike hC hk hw ho ?_)⟩⟩
    rw [← nI_succ]
    exact ih (k + 1) _ (by omega) hK
set_option maxRecDepth 16384 in
theorem tX2_digestOf_L16 {post : Int64 → Prop} {K46 : Int64 → Int32 → Prop} {dk wg : Nat → Int64} {op : Int64} {E : Nat → Nat → Nat → Bool} {kf ff sf df : Nat → Int32} {n w s : Nat} {sq : Nat → Nat → Int32} (hC : CD dk E) (hq : EQV E) (hn : n ≤ 40) (hK2 : SAMEB kf ff sf n sq) (hdp : ∀ k, k < n → df k = sq k 3) (hs : s < n) (hw : w < 64) (ho : mw op w = true) : ∀ (m k : Nat) (x : Int64), k + m = 10 → (∀ b, K46 (dgS (stP op E wg sq w s) m k x) b) → wX2_digestOfSentence_L16 post K46 dk wg op (nI w) kf ff sf df (nI n) (nI s) (m + 1) x (nI k) := by
  intro m
  induction m with
  | zero =>
    intro k x h hK
    obtain rfl : k = 10 := by omega
    exact ⟨fun _ => hK _, fun q => absurd (by decide) q⟩
  | succ m ih =>
    intro k x h hK
    refine ⟨fun q => absurd (show nI 9 < nI k from q) (lt12 9 (by decide) (by omega)), fun _ => tnX2_of hC hq hn hK2 hdp hs hw ho (by omega) ?_⟩
    rw [← nI_succ]
    exact ih (k + 1) _ (by omega) hK
set_option maxRecDepth 16384 in
theorem tX2_digest_L107 {post : Int64 → (Nat → Int64) × (Nat → Int64) × Int64 × Int32 × (Nat → Int64) × (Nat → Int64) × Int64 × Int32 → Prop} {K131 : Int64 → Int32 → Prop} {dk wg : Nat → Int64} {op : Int64} {E : Nat → Nat → Nat → Bool} {kf ff sf df : Nat → Int32} {n w : Nat} {sq : Nat → Nat → Int32} (hC : CD dk E) (hq : EQV E) (hn : n ≤ 40) (hK2 : SAMEB kf ff sf n sq) (hdp : ∀ k, k < n → df k = sq k 3) (hw : w < 64) (ho : mw op w = true) : ∀ (m k : Nat) (x : Int64), k + m = n → (∀ b, K131 (dgS (stO op E wg sq w) m k x) b) → wX2_digest_L107 post K131 dk wg op (nI w) kf ff sf df (nI n) (m + 1) x (nI k) := by
  intro m
  induction m with
  | zero =>
    intro k x h hK
    obtain rfl : k = n := by omega
    exact ⟨fun _ => hK _, fun q => absurd (Int32.le_refl _) q⟩
  | succ m ih =>
    intro k x h hK
    have hk : k < n := by omega
    refine ⟨fun q => absurd q (notLe (a := n) hk (by omega)), fun _ => tnX2_truth hn hk ⟨11, tX2_digestOf_L16 hC hq hn hK2 hdp hk hw ho 10 0 _ rfl (fun _ => ?_)⟩⟩
    show wnX2_depth _ dk wg op (nI w) (nI n) (nI 63) (nI k)
    refine tnX2_depth hC hq hn hw hk (by decide) (by decide) ?_
    show wX2_digest_L107 _ _ _ _ _ _ _ _ _ _ _ _ _ (nI k + 1)
    rw [← nI_succ]
    exact ih (k + 1) _ (by omega) hK
