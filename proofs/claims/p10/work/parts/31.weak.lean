theorem sX1_isTrueInReal {post : Int32 → Prop} {wg : Nat → Int64} {re : Int32} {bn : Int32} {p1 : Int32} {nn : Nat} (hb : bn = nI nn) (hn : nn ≤ 40) (hp : ∀ r, vZ r → post r) : wX1_isTrueInReal post wg re bn p1 := by
  unfold wX1_isTrueInReal
  (repeat' (first
      | exact hp _
      | exact hp _ (Or.inl rfl)
      | exact hp _ (Or.inr rfl)
      | exact hp _ (by assumption)
      | exact hK _
      | exact hK _ _
      | exact hK _ _ _
      | exact hK _ _ _ _
      | refine sX1_worldsOf hb hn (fun _ => ?_)
      | refine sX1_worldsOf hb hn (fun _ _ => ?_)
      | refine sX2_has (fun _ => ?_)
      | refine sX2_has (fun _ _ => ?_)
      | refine sX2_isGuard (fun _ _ _ => ?_) ?_
      | refine sX2_isWorld (fun _ _ _ => ?_) ?_
      | refine sX2_isFact (fun _ _ _ => ?_) ?_
      | (with_reducible apply And.intro)
      | intro _
      | (unfold vZ; assumption)))
theorem sX1_cellTogether_L8 {post : Int64 → Prop} {K41 : Int64 → Int32 → Prop} {dk : Nat → Int64} {op : Int64} {p1 : Int32} {p2 : Int32} (hp : ∀ r, post r) (hK : ∀ a0 a1, K41 a0 a1) : ∀ (m k : Nat) (i3 : Int64), k + m = 6 → wX1_cellTogether_L8 post K41 dk op p1 p2 (m + 1) i3 (nI k)
  | 0, k, i3, h => ⟨fun _ => by first | exact hK _ _, fun q => absurd (by rw [show k = 6 by omega]; decide) q⟩
  | m + 1, k, i3, h => by
    refine ⟨fun _ => ?_, fun _ => ?_⟩
    all_goals (repeat' (first
      | exact hp _
      | exact hp _ (Or.inl rfl)
      | exact hp _ (Or.inr rfl)
      | exact hp _ (by assumption)
      | exact hK _
      | exact hK _ _
      | exact hK _ _ _
      | exact hK _ _ _ _
      | (rw [← nI_succ]; exact sX1_cellTogether_L8 hp hK m (k + 1) _ (by omega))
      | refine sX2_has (fun _ => ?_)
      | refine sX2_has (fun _ _ => ?_)
      | refine sX1_cell (fun _ => ?_)
      | refine sX1_cell (fun _ _ => ?_)
      | refine sX2_isGuard (fun _ _ _ => ?_) ?_
      | refine sX2_isWorld (fun _ _ _ => ?_) ?_
      | refine sX2_isFact (fun _ _ _ => ?_) ?_
      | (with_reducible apply And.intro)
      | intro _
      | (unfold vZ; assumption)))
theorem sX1_cellTogether {post : Int64 → Prop} {dk : Nat → Int64} {op : Int64} {p1 : Int32} {p2 : Int32} (hp : ∀ r, post r) : wX1_cellTogether post dk op p1 p2 := by
  unfold wX1_cellTogether
  (repeat' (first
      | exact hp _
      | exact hp _ (Or.inl rfl)
      | exact hp _ (Or.inr rfl)
      | exact hp _ (by assumption)
      | exact hK _
      | exact hK _ _
      | exact hK _ _ _
      | exact hK _ _ _ _
      | refine sX2_isGuard (fun _ _ _ => ?_) ?_
      | refine sX2_isWorld (fun _ _ _ => ?_) ?_
      | refine sX2_isFact (fun _ _ _ => ?_) ?_
      | refine ⟨7, sX1_cellTogether_L8 hp (fun _ _ => ?_) 6 0 _ rfl⟩
      | refine ⟨6, sX1_cellTogether_L8 hp (fun _ _ => ?_) 5 1 _ rfl⟩
      | (with_reducible apply And.intro)
      | intro _
      | (unfold vZ; assumption)))
theorem sX1_reached_L15 {post : Int64 → Prop} {K58 : Int64 → Int64 → Int32 → Prop} {dk : Nat → Int64} {op : Int64} {p1 : Int32} (hp : ∀ r, post r) (hK : ∀ a0 a1 a2, K58 a0 a1 a2) : ∀ (m k : Nat) (i4 : Int64) (i6 : Int64), k + m = 64 → wX1_reached_L15 post K58 dk op p1 (m + 1) i4 i6 (nI k)
  | 0, k, i4 , i6, h => ⟨fun _ => by first | exact hK _ _ _, fun q => absurd (by rw [show k = 64 by omega]; decide) q⟩
  | m + 1, k, i4 , i6, h => by
    refine ⟨fun _ => ?_, fun _ => ?_⟩
    all_goals (repeat' (first
      | exact hp _
      | exact hp _ (Or.inl rfl)
      | exact hp _ (Or.inr rfl)
      | exact hp _ (by assumption)
      | exact hK _
      | exact hK _ _
      | exact hK _ _ _
      | exact hK _ _ _ _
      | (rw [← nI_succ]; exact sX1_reached_L15 hp hK m (k + 1) _ _ (by omega))
      | refine sX1_spread (fun _ => ?_)
      | refine sX1_spread (fun _ _ => ?_)
      | refine sX2_isGuard (fun _ _ _ => ?_) ?_
      | refine sX2_isWorld (fun _ _ _ => ?_) ?_
      | refine sX2_isFact (fun _ _ _ => ?_) ?_
      | (with_reducible apply And.intro)
      | intro _
      | (unfold vZ; assumption)))
theorem sX1_reached {post : Int64 → Prop} {dk : Nat → Int64} {op : Int64} {p1 : Int32} {p2 : Int64} (hp : ∀ r, post r) : wX1_reached post dk op p1 p2 := by
  unfold wX1_reached
  (repeat' (first
      | exact hp _
      | exact hp _ (Or.inl rfl)
      | exact hp _ (Or.inr rfl)
      | exact hp _ (by assumption)
      | exact hK _
      | exact hK _ _
      | exact hK _ _ _
      | exact hK _ _ _ _
      | refine sX2_isGuard (fun _ _ _ => ?_) ?_
      | refine sX2_isWorld (fun _ _ _ => ?_) ?_
      | refine sX2_isFact (fun _ _ _ => ?_) ?_
      | refine ⟨65, sX1_reached_L15 hp (fun _ _ _ => ?_) 64 0 _ _ rfl⟩
      | refine ⟨64, sX1_reached_L15 hp (fun _ _ _ => ?_) 63 1 _ _ rfl⟩
      | (with_reducible apply And.intro)
      | intro _
      | (unfold vZ; assumption)))
theorem sX1_reachedFromReal {post : Int64 → Prop} {dk : Nat → Int64} {op : Int64} {re : Int32} {p1 : Int32} (hp : ∀ r, post r) : wX1_reachedFromReal post dk op re p1 := by
  unfold wX1_reachedFromReal
  (repeat' (first
      | exact hp _
      | exact hp _ (Or.inl rfl)
      | exact hp _ (Or.inr rfl)
      | exact hp _ (by assumption)
      | exact hK _
      | exact hK _ _
      | exact hK _ _ _
      | exact hK _ _ _ _
      | refine sX2_setOf (fun _ => ?_)
      | refine sX2_setOf (fun _ _ => ?_)
      | refine sX1_reached (fun _ => ?_)
      | refine sX1_reached (fun _ _ => ?_)
      | refine sX2_isGuard (fun _ _ _ => ?_) ?_
      | refine sX2_isWorld (fun _ _ _ => ?_) ?_
      | refine sX2_isFact (fun _ _ _ => ?_) ?_
      | (with_reducible apply And.intro)
      | intro _
      | (unfold vZ; assumption)))
theorem sX1_knownToAll {post : Int64 → Prop} {dk : Nat → Int64} {op : Int64} {p1 : Int32} {p2 : Int64} (hp : ∀ r, post r) : wX1_knownToAll post dk op p1 p2 := by
  unfold wX1_knownToAll
  (repeat' (first
      | exact hp _
      | exact hp _ (Or.inl rfl)
      | exact hp _ (Or.inr rfl)
      | exact hp _ (by assumption)
      | exact hK _
      | exact hK _ _
      | exact hK _ _ _
      | exact hK _ _ _ _
      | refine sX1_spread (fun _ => ?_)
      | refine sX1_spread (fun _ _ => ?_)
      | refine sX2_isGuard (fun _ _ _ => ?_) ?_
      | refine sX2_isWorld (fun _ _ _ => ?_) ?_
      | refine sX2_isFact (fun _ _ _ => ?_) ?_
      | (with_reducible apply And.intro)
      | intro _
      | (unfold vZ; assumption)))
theorem sX1_knownTogether_L12 {post : Int64 → Prop} {K71 : Int64 → Int64 → Int32 → Prop} {dk : Nat → Int64} {op : Int64} {p1 : Int32} {p2 : Int64} (hp : ∀ r, post r) (hK : ∀ a0 a1 a2, K71 a0 a1 a2) : ∀ (m k : Nat) (i4 : Int64) (i6 : Int64), k + m = 64 → wX1_knownTogether_L12 post K71 dk op p1 p2 (m + 1) i4 i6 (nI k)
  | 0, k, i4 , i6, h => ⟨fun _ => by first | exact hK _ _ _, fun q => absurd (by rw [show k = 64 by omega]; decide) q⟩
  | m + 1, k, i4 , i6, h => by
    refine ⟨fun _ => ?_, fun _ => ?_⟩
    all_goals (repeat' (first
      | exact hp _
      | exact hp _ (Or.inl rfl)
      | exact hp _ (Or.inr rfl)
      | exact hp _ (by assumption)
      | exact hK _
      | exact hK _ _
      | exact hK _ _ _
      | exact hK _ _ _ _
      | (rw [← nI_succ]; exact sX1_knownTogether_L12 hp hK m (k + 1) _ _ (by omega))
      | refine sX2_smallestOf (fun _ => ?_)
      | refine sX2_smallestOf (fun _ _ => ?_)
      | refine sX1_cellTogether (fun _ => ?_)
      | refine sX1_cellTogether (fun _ _ => ?_)
      | refine sX2_isWithin (fun _ => ?_)
      | refine sX2_isWithin (fun _ _ => ?_)
      | refine sX2_isGuard (fun _ _ _ => ?_) ?_
      | refine sX2_isWorld (fun _ _ _ => ?_) ?_
      | refine sX2_isFact (fun _ _ _ => ?_) ?_
      | (with_reducible apply And.intro)
      | intro _
      | (unfold vZ; assumption)))
theorem sX1_knownTogether {post : Int64 → Prop} {dk : Nat → Int64} {op : Int64} {p1 : Int32} {p2 : Int64} (hp : ∀ r, post r) : wX1_knownTogether post dk op p1 p2 := by
  unfold wX1_knownTogether
  (repeat' (first
      | exact hp _
      | exact hp _ (Or.inl rfl)
      | exact hp _ (Or.inr rfl)
      | exact hp _ (by assumption)
      | exact hK _
      | exact hK _ _
      | exact hK _ _ _
      | exact hK _ _ _ _
      | refine sX2_isGuard (fun _ _ _ => ?_) ?_
      | refine sX2_isWorld (fun _ _ _ => ?_) ?_
      | refine sX2_isFact (fun _ _ _ => ?_) ?_
      | refine ⟨65, sX1_knownTogether_L12 hp (fun _ _ _ => ?_) 64 0 _ _ rfl⟩
      | refine ⟨64, sX1_knownTogether_L12 hp (fun _ _ _ => ?_) 63 1 _ _ rfl⟩
      | (with_reducible apply And.intro)
      | intro _
      | (unfold vZ; assumption)))
theorem sX1_knows {post : Int32 → Prop} {dk : Nat → Int64} {wg : Nat → Int64} {op : Int64} {re : Int32} {bn : Int32} {p1 : Int32} {p2 : Int32} {nn : Nat} (hb : bn = nI nn) (hn : nn ≤ 40) (hp : ∀ r, vZ r → post r) : wX1_knows post dk wg op re bn p1 p2 := by
  unfold wX1_knows
  (repeat' (first
      | exact hp _
      | exact hp _ (Or.inl rfl)
      | exact hp _ (Or.inr rfl)
      | exact hp _ (by assumption)
      | exact hK _
      | exact hK _ _
      | exact hK _ _ _
      | exact hK _ _ _ _
      | refine sX1_cell (fun _ => ?_)
      | refine sX1_cell (fun _ _ => ?_)
      | refine sX1_worldsOf hb hn (fun _ => ?_)
      | refine sX1_worldsOf hb hn (fun _ _ => ?_)
      | refine sX2_isWithin (fun _ => ?_)
      | refine sX2_isWithin (fun _ _ => ?_)
      | refine sX2_isGuard (fun _ _ _ => ?_) ?_
      | refine sX2_isWorld (fun _ _ _ => ?_) ?_
      | refine sX2_isFact (fun _ _ _ => ?_) ?_
      | (with_reducible apply And.intro)
      | intro _
      | (unfold vZ; assumption)))
theorem sX1_knowersOf_L4 {post : Int32 → Prop} {K31 : Int32 → Int32 → Prop} {dk : Nat → Int64} {wg : Nat → Int64} {op : Int64} {re : Int32} {bn : Int32} {p1 : Int32} (hp : ∀ r, post r) {nn : Nat} (hb : bn = nI nn) (hn : nn ≤ 40) (hK : ∀ a0 a1, K31 a0 a1) : ∀ (m k : Nat) (i2 : Int32), k + m = 6 → wX1_knowersOf_L4 post K31 dk wg op re bn p1 (m + 1) i2 (nI k)
  | 0, k, i2, h => ⟨fun _ => by first | exact hK _ _, fun q => absurd (by rw [show k = 6 by omega]; decide) q⟩
  | m + 1, k, i2, h => by
    refine ⟨fun _ => ?_, fun _ => ?_⟩
    all_goals (repeat' (first
      | exact hp _
      | exact hp _ (Or.inl rfl)
      | exact hp _ (Or.inr rfl)
      | exact hp _ (by assumption)
      | exact hK _
      | exact hK _ _
      | exact hK _ _ _
      | exact hK _ _ _ _
      | (rw [← nI_succ]; exact sX1_knowersOf_L4 hp hb hn hK m (k + 1) _ (by omega))
      | refine sX1_knows hb hn (fun _ => ?_)
      | refine sX1_knows hb hn (fun _ _ => ?_)
      | refine sX2_isGuard (fun _ _ _ => ?_) ?_
      | refine sX2_isWorld (fun _ _ _ => ?_) ?_
      | refine sX2_isFact (fun _ _ _ => ?_) ?_
      | (with_reducible apply And.intro)
      | intro _
      | (unfold vZ; assumption)))
theorem sX1_knowersOf {post : Int32 → Prop} {dk : Nat → Int64} {wg : Nat → Int64} {op : Int64} {re : Int32} {bn : Int32} {p1 : Int32} {nn : Nat} (hb : bn = nI nn) (hn : nn ≤ 40) (hp : ∀ r, post r) : wX1_knowersOf post dk wg op re bn p1 := by
  unfold wX1_knowersOf
  (repeat' (first
      | exact hp _
      | exact hp _ (Or.inl rfl)
      | exact hp _ (Or.inr rfl)
      | exact hp _ (by assumption)
      | exact hK _
      | exact hK _ _
      | exact hK _ _ _
      | exact hK _ _ _ _
      | refine sX2_isGuard (fun _ _ _ => ?_) ?_
      | refine sX2_isWorld (fun _ _ _ => ?_) ?_
      | refine sX2_isFact (fun _ _ _ => ?_) ?_
      | refine ⟨7, sX1_knowersOf_L4 hp hb hn (fun _ _ => ?_) 6 0 _ rfl⟩
      | refine ⟨6, sX1_knowersOf_L4 hp hb hn (fun _ _ => ?_) 5 1 _ rfl⟩
      | (with_reducible apply And.intro)
      | intro _
      | (unfold vZ; assumption)))
theorem sX1_answeringAlike_L8 {post : Int64 → Prop} {K72 : Int64 → Int32 → Prop} {dk : Nat → Int64} {wg : Nat → Int64} {op : Int64} {re : Int32} {bn : Int32} {p1 : Int32} {p2 : Int32} (hp : ∀ r, post r) {nn : Nat} (hb : bn = nI nn) (hn : nn ≤ 40) (hK : ∀ a0 a1, K72 a0 a1) : ∀ (m k : Nat) (i3 : Int64), k + m = 6 → wX1_answeringAlike_L8 post K72 dk wg op re bn p1 p2 (m + 1) i3 (nI k)
  | 0, k, i3, h => ⟨fun _ => by first | exact hK _ _, fun q => absurd (by rw [show k = 6 by omega]; decide) q⟩
  | m + 1, k, i3, h => by
    refine ⟨fun _ => ?_, fun _ => ?_⟩
    all_goals (repeat' (first
      | exact hp _
      | exact hp _ (Or.inl rfl)
      | exact hp _ (Or.inr rfl)
      | exact hp _ (by assumption)
      | exact hK _
      | exact hK _ _
      | exact hK _ _ _
      | exact hK _ _ _ _
      | (rw [← nI_succ]; exact sX1_answeringAlike_L8 hp hb hn hK m (k + 1) _ (by omega))
      | refine sX2_has (fun _ => ?_)
      | refine sX2_has (fun _ _ => ?_)
      | refine sX1_worldsOf hb hn (fun _ => ?_)
      | refine sX1_worldsOf hb hn (fun _ _ => ?_)
      | refine sX1_knownToAll (fun _ => ?_)
      | refine sX1_knownToAll (fun _ _ => ?_)
      | refine sX2_isGuard (fun _ _ _ => ?_) ?_
      | refine sX2_isWorld (fun _ _ _ => ?_) ?_
      | refine sX2_isFact (fun _ _ _ => ?_) ?_
      | (with_reducible apply And.intro)
      | intro _
      | (unfold vZ; assumption)))
theorem sX1_answeringAlike {post : Int64 → Prop} {dk : Nat → Int64} {wg : Nat → Int64} {op : Int64} {re : Int32} {bn : Int32} {p1 : Int32} {p2 : Int32} {nn : Nat} (hb : bn = nI nn) (hn : nn ≤ 40) (hp : ∀ r, post r) : wX1_answeringAlike post dk wg op re bn p1 p2 := by
  unfold wX1_answeringAlike
  (repeat' (first
      | exact hp _
      | exact hp _ (Or.inl rfl)
      | exact hp _ (Or.inr rfl)
      | exact hp _ (by assumption)
      | exact hK _
      | exact hK _ _
      | exact hK _ _ _
      | exact hK _ _ _ _
      | refine sX2_isGuard (fun _ _ _ => ?_) ?_
      | refine sX2_isWorld (fun _ _ _ => ?_) ?_
      | refine sX2_isFact (fun _ _ _ => ?_) ?_
      | refine ⟨7, sX1_answeringAlike_L8 hp hb hn (fun _ _ => ?_) 6 0 _ rfl⟩
      | refine ⟨6, sX1_answeringAlike_L8 hp hb hn (fun _ _ => ?_) 5 1 _ rfl⟩
      | (with_reducible apply And.intro)
      | intro _
      | (unfold vZ; assumption)))
theorem sX1_fewestFor_L8 {post : Int32 → Prop} {K61 : Int32 → Int32 → Int32 → Prop} {dk : Nat → Int64} {wg : Nat → Int64} {op : Int64} {re : Int32} {bn : Int32} {p1 : Int32} (hp : ∀ r, post r) {nn : Nat} (hb : bn = nI nn) (hn : nn ≤ 40) (hK : ∀ a0 a1 a2, K61 a0 a1 a2) : ∀ (m k : Nat) (i2 : Int32) (i3 : Int32), k + m = 64 → wX1_fewestFor_L8 post K61 dk wg op re bn p1 (m + 1) i2 i3 (nI k)
  | 0, k, i2 , i3, h => ⟨fun _ => by first | exact hK _ _ _, fun q => absurd (by rw [show k = 64 by omega]; decide) q⟩
  | m + 1, k, i2 , i3, h => by
    refine ⟨fun _ => ?_, fun _ => ?_⟩
    all_goals (repeat' (first
      | exact hp _
      | exact hp _ (Or.inl rfl)
      | exact hp _ (Or.inr rfl)
      | exact hp _ (by assumption)
      | exact hK _
      | exact hK _ _
      | exact hK _ _ _
      | exact hK _ _ _ _
      | (rw [← nI_succ]; exact sX1_fewestFor_L8 hp hb hn hK m (k + 1) _ _ (by omega))
      | refine sJ6_bitCount_0f7a4 (fun _ => ?_)
      | refine sJ6_bitCount_0f7a4 (fun _ _ => ?_)
      | refine sX1_cellTogether (fun _ => ?_)
      | refine sX1_cellTogether (fun _ _ => ?_)
      | refine sX1_worldsOf hb hn (fun _ => ?_)
      | refine sX1_worldsOf hb hn (fun _ _ => ?_)
      | refine sX2_isWithin (fun _ => ?_)
      | refine sX2_isWithin (fun _ _ => ?_)
      | refine sX2_isGuard (fun _ _ _ => ?_) ?_
      | refine sX2_isWorld (fun _ _ _ => ?_) ?_
      | refine sX2_isFact (fun _ _ _ => ?_) ?_
      | (with_reducible apply And.intro)
      | intro _
      | (unfold vZ; assumption)))
theorem sX1_fewestFor {post : Int32 → Prop} {dk : Nat → Int64} {wg : Nat → Int64} {op : Int64} {re : Int32} {bn : Int32} {p1 : Int32} {nn : Nat} (hb : bn = nI nn) (hn : nn ≤ 40) (hp : ∀ r, post r) : wX1_fewestFor post dk wg op re bn p1 := by
  unfold wX1_fewestFor
  (repeat' (first
      | exact hp _
      | exact hp _ (Or.inl rfl)
      | exact hp _ (Or.inr rfl)
      | exact hp _ (by assumption)
      | exact hK _
      | exact hK _ _
      | exact hK _ _ _
      | exact hK _ _ _ _
      | refine sX2_isGuard (fun _ _ _ => ?_) ?_
      | refine sX2_isWorld (fun _ _ _ => ?_) ?_
      | refine sX2_isFact (fun _ _ _ => ?_) ?_
      | refine ⟨65, sX1_fewestFor_L8 hp hb hn (fun _ _ _ => ?_) 64 0 _ _ rfl⟩
      | refine ⟨64, sX1_fewestFor_L8 hp hb hn (fun _ _ _ => ?_) 63 1 _ _ rfl⟩
      | (with_reducible apply And.intro)
      | intro _
      | (unfold vZ; assumption)))
theorem sX1_depthFor_L19 {post : Int32 → Prop} {K71 : Int64 → Int32 → Prop} {dk : Nat → Int64} {op : Int64} {re : Int32} {p1 : Int32} (hp : ∀ r, post r) (hK : ∀ a0 a1, K71 a0 a1) : ∀ (m k : Nat) (i4 : Int64), k + m = 64 → wX1_depthFor_L19 post K71 dk op re p1 (m + 1) i4 (nI k)
  | 0, k, i4, h => ⟨fun _ => by first | exact hK _ _, fun q => absurd (by rw [show k = 64 by omega]; decide) q⟩
  | m + 1, k, i4, h => by
    refine ⟨fun _ => ?_, fun _ => ?_⟩
    all_goals (repeat' (first
      | exact hp _
      | exact hp _ (Or.inl rfl)
      | exact hp _ (Or.inr rfl)
      | exact hp _ (by assumption)
      | exact hK _
      | exact hK _ _
      | exact hK _ _ _
      | exact hK _ _ _ _
      | (rw [← nI_succ]; exact sX1_depthFor_L19 hp hK m (k + 1) _ (by omega))
      | refine sX1_knownToAll (fun _ => ?_)
      | refine sX1_knownToAll (fun _ _ => ?_)
      | refine sX2_has (fun _ => ?_)
      | refine sX2_has (fun _ _ => ?_)
      | refine sX2_isGuard (fun _ _ _ => ?_) ?_
      | refine sX2_isWorld (fun _ _ _ => ?_) ?_
      | refine sX2_isFact (fun _ _ _ => ?_) ?_
      | (with_reducible apply And.intro)
      | intro _
      | (unfold vZ; assumption)))
theorem sX1_depthFor {post : Int32 → Prop} {dk : Nat → Int64} {op : Int64} {re : Int32} {p1 : Int32} {p2 : Int64} (hp : ∀ r, post r) : wX1_depthFor post dk op re p1 p2 := by
  unfold wX1_depthFor
  (repeat' (first
      | exact hp _
      | exact hp _ (Or.inl rfl)
      | exact hp _ (Or.inr rfl)
      | exact hp _ (by assumption)
      | exact hK _
      | exact hK _ _
      | exact hK _ _ _
      | exact hK _ _ _ _
      | refine sX2_has (fun _ => ?_)
      | refine sX2_has (fun _ _ => ?_)
      | refine sX2_isGuard (fun _ _ _ => ?_) ?_
      | refine sX2_isWorld (fun _ _ _ => ?_) ?_
      | refine sX2_isFact (fun _ _ _ => ?_) ?_
      | refine ⟨65, sX1_depthFor_L19 hp (fun _ _ => ?_) 64 0 _ rfl⟩
      | refine ⟨64, sX1_depthFor_L19 hp (fun _ _ => ?_) 63 1 _ rfl⟩
      | (with_reducible apply And.intro)
      | intro _
      | (unfold vZ; assumption)))
theorem sX1_countTrueInReal {post : Int32 → Prop} {wg : Nat → Int64} {re : Int32} {bn : Int32} {nn : Nat} (hb : bn = nI nn) (hn : nn ≤ 40) (hp : ∀ r, post r) : wX1_countTrueInReal post wg re bn := by
  unfold wX1_countTrueInReal
  (repeat' (first
      | exact hp _
      | exact hp _ (Or.inl rfl)
      | exact hp _ (Or.inr rfl)
      | exact hp _ (by assumption)
      | exact hK _
      | exact hK _ _
      | exact hK _ _ _
      | exact hK _ _ _ _
      | refine sX2_setOf (fun _ => ?_)
      | refine sX2_setOf (fun _ _ => ?_)
      | refine sX1_countTrueInAllOf hb hn (fun _ => ?_)
      | refine sX1_countTrueInAllOf hb hn (fun _ _ => ?_)
      | refine sX2_isGuard (fun _ _ _ => ?_) ?_
      | refine sX2_isWorld (fun _ _ _ => ?_) ?_
      | refine sX2_isFact (fun _ _ _ => ?_) ?_
      | (with_reducible apply And.intro)
      | intro _
      | (unfold vZ; assumption)))
theorem sX1_countKnownBy {post : Int32 → Prop} {dk : Nat → Int64} {wg : Nat → Int64} {op : Int64} {re : Int32} {bn : Int32} {p1 : Int32} {nn : Nat} (hb : bn = nI nn) (hn : nn ≤ 40) (hp : ∀ r, post r) : wX1_countKnownBy post dk wg op re bn p1 := by
  unfold wX1_countKnownBy
  (repeat' (first
      | exact hp _
      | exact hp _ (Or.inl rfl)
      | exact hp _ (Or.inr rfl)
      | exact hp _ (by assumption)
      | exact hK _
      | exact hK _ _
      | exact hK _ _ _
      | exact hK _ _ _ _
      | refine sX1_cell (fun _ => ?_)
      | refine sX1_cell (fun _ _ => ?_)
      | refine sX1_countTrueInAllOf hb hn (fun _ => ?_)
      | refine sX1_countTrueInAllOf hb hn (fun _ _ => ?_)
      | refine sX2_isGuard (fun _ _ _ => ?_) ?_
      | refine sX2_isWorld (fun _ _ _ => ?_) ?_
      | refine sX2_isFact (fun _ _ _ => ?_) ?_
      | (with_reducible apply And.intro)
      | intro _
      | (unfold vZ; assumption)))
theorem sX1_countCells_L10 {post : Int32 → Prop} {K48 : Int32 → Int64 → Int32 → Prop} {dk : Nat → Int64} {op : Int64} {p1 : Int32} (hp : ∀ r, post r) (hK : ∀ a0 a1 a2, K48 a0 a1 a2) : ∀ (m k : Nat) (i2 : Int32) (i3 : Int64), k + m = 64 → wX1_countCells_L10 post K48 dk op p1 (m + 1) i2 i3 (nI k)
  | 0, k, i2 , i3, h => ⟨fun _ => by first | exact hK _ _ _, fun q => absurd (by rw [show k = 64 by omega]; decide) q⟩
  | m + 1, k, i2 , i3, h => by
    refine ⟨fun _ => ?_, fun _ => ?_⟩
    all_goals (repeat' (first
      | exact hp _
      | exact hp _ (Or.inl rfl)
      | exact hp _ (Or.inr rfl)
      | exact hp _ (by assumption)
      | exact hK _
      | exact hK _ _
      | exact hK _ _ _
      | exact hK _ _ _ _
      | (rw [← nI_succ]; exact sX1_countCells_L10 hp hK m (k + 1) _ _ (by omega))
      | refine sX2_smallestOf (fun _ => ?_)
      | refine sX2_smallestOf (fun _ _ => ?_)
      | refine sX1_cell (fun _ => ?_)
      | refine sX1_cell (fun _ _ => ?_)
      | refine sX2_isGuard (fun _ _ _ => ?_) ?_
      | refine sX2_isWorld (fun _ _ _ => ?_) ?_
      | refine sX2_isFact (fun _ _ _ => ?_) ?_
      | (with_reducible apply And.intro)
      | intro _
      | (unfold vZ; assumption)))
theorem sX1_countCells {post : Int32 → Prop} {dk : Nat → Int64} {op : Int64} {p1 : Int32} (hp : ∀ r, post r) : wX1_countCells post dk op p1 := by
  unfold wX1_countCells
  (repeat' (first
      | exact hp _
      | exact hp _ (Or.inl rfl)
      | exact hp _ (Or.inr rfl)
      | exact hp _ (by assumption)
      | exact hK _
      | exact hK _ _
      | exact hK _ _ _
      | exact hK _ _ _ _
      | refine sX2_isGuard (fun _ _ _ => ?_) ?_
      | refine sX2_isWorld (fun _ _ _ => ?_) ?_
      | refine sX2_isFact (fun _ _ _ => ?_) ?_
      | refine ⟨65, sX1_countCells_L10 hp (fun _ _ _ => ?_) 64 0 _ _ rfl⟩
      | refine ⟨64, sX1_countCells_L10 hp (fun _ _ _ => ?_) 63 1 _ _ rfl⟩
      | (with_reducible apply And.intro)
      | intro _
      | (unfold vZ; assumption)))
theorem sX1_isAsSharpAs_L2 {post : Int32 → Prop} {K45 : Int32 → Prop} {dk : Nat → Int64} {op : Int64} {p1 : Int32} {p2 : Int32} (hp : ∀ r, vZ r → post r) (hK : ∀ a0, K45 a0) : ∀ (m k : Nat) , k + m = 64 → wX1_isAsSharpAs_L2 post K45 dk op p1 p2 (m + 1) (nI k)
  | 0, k, h => ⟨fun _ => by first | exact hK _, fun q => absurd (by rw [show k = 64 by omega]; decide) q⟩
  | m + 1, k, h => by
    refine ⟨fun _ => ?_, fun _ => ?_⟩
    all_goals (repeat' (first
      | exact hp _
      | exact hp _ (Or.inl rfl)
      | exact hp _ (Or.inr rfl)
      | exact hp _ (by assumption)
      | exact hK _
      | exact hK _ _
      | exact hK _ _ _
      | exact hK _ _ _ _
      | (rw [← nI_succ]; exact sX1_isAsSharpAs_L2 hp hK m (k + 1)  (by omega))
      | refine sX2_has (fun _ => ?_)
      | refine sX2_has (fun _ _ => ?_)
      | refine sX1_cell (fun _ => ?_)
      | refine sX1_cell (fun _ _ => ?_)
      | refine sX2_isWithin (fun _ => ?_)
      | refine sX2_isWithin (fun _ _ => ?_)
      | refine sX2_isGuard (fun _ _ _ => ?_) ?_
      | refine sX2_isWorld (fun _ _ _ => ?_) ?_
      | refine sX2_isFact (fun _ _ _ => ?_) ?_
      | (with_reducible apply And.intro)
      | intro _
      | (unfold vZ; assumption)))
theorem sX1_isAsSharpAs {post : Int32 → Prop} {dk : Nat → Int64} {op : Int64} {p1 : Int32} {p2 : Int32} (hp : ∀ r, vZ r → post r) : wX1_isAsSharpAs post dk op p1 p2 := by
  unfold wX1_isAsSharpAs
  (repeat' (first
      | exact hp _
      | exact hp _ (Or.inl rfl)
      | exact hp _ (Or.inr rfl)
      | exact hp _ (by assumption)
      | exact hK _
      | exact hK _ _
      | exact hK _ _ _
      | exact hK _ _ _ _
      | refine sX2_isGuard (fun _ _ _ => ?_) ?_
      | refine sX2_isWorld (fun _ _ _ => ?_) ?_
      | refine sX2_isFact (fun _ _ _ => ?_) ?_
      | refine ⟨65, sX1_isAsSharpAs_L2 hp (fun _ => ?_) 64 0 rfl⟩
      | refine ⟨64, sX1_isAsSharpAs_L2 hp (fun _ => ?_) 63 1 rfl⟩
      | (with_reducible apply And.intro)
      | intro _
      | (unfold vZ; assumption)))
theorem sX1_asSharpAs_L4 {post : Int32 → Prop} {K31 : Int32 → Int32 → Prop} {dk : Nat → Int64} {op : Int64} {p1 : Int32} (hp : ∀ r, post r) (hK : ∀ a0 a1, K31 a0 a1) : ∀ (m k : Nat) (i2 : Int32), k + m = 6 → wX1_asSharpAs_L4 post K31 dk op p1 (m + 1) i2 (nI k)
  | 0, k, i2, h => ⟨fun _ => by first | exact hK _ _, fun q => absurd (by rw [show k = 6 by omega]; decide) q⟩
  | m + 1, k, i2, h => by
    refine ⟨fun _ => ?_, fun _ => ?_⟩
    all_goals (repeat' (first
      | exact hp _
      | exact hp _ (Or.inl rfl)
      | exact hp _ (Or.inr rfl)
      | exact hp _ (by assumption)
      | exact hK _
      | exact hK _ _
      | exact hK _ _ _
      | exact hK _ _ _ _
      | (rw [← nI_succ]; exact sX1_asSharpAs_L4 hp hK m (k + 1) _ (by omega))
      | refine sX1_isAsSharpAs (fun _ => ?_)
      | refine sX1_isAsSharpAs (fun _ _ => ?_)
      | refine sX2_isGuard (fun _ _ _ => ?_) ?_
      | refine sX2_isWorld (fun _ _ _ => ?_) ?_
      | refine sX2_isFact (fun _ _ _ => ?_) ?_
      | (with_reducible apply And.intro)
      | intro _
      | (unfold vZ; assumption)))
theorem sX1_asSharpAs {post : Int32 → Prop} {dk : Nat → Int64} {op : Int64} {p1 : Int32} (hp : ∀ r, post r) : wX1_asSharpAs post dk op p1 := by
  unfold wX1_asSharpAs
  (repeat' (first
      | exact hp _
      | exact hp _ (Or.inl rfl)
      | exact hp _ (Or.inr rfl)
      | exact hp _ (by assumption)
      | exact hK _
      | exact hK _ _
      | exact hK _ _ _
      | exact hK _ _ _ _
      | refine sX2_isGuard (fun _ _ _ => ?_) ?_
      | refine sX2_isWorld (fun _ _ _ => ?_) ?_
      | refine sX2_isFact (fun _ _ _ => ?_) ?_
      | refine ⟨7, sX1_asSharpAs_L4 hp (fun _ _ => ?_) 6 0 _ rfl⟩
      | refine ⟨6, sX1_asSharpAs_L4 hp (fun _ _ => ?_) 5 1 _ rfl⟩
      | (with_reducible apply And.intro)
      | intro _
      | (unfold vZ; assumption)))
theorem sX1_nearestToReal_L4 {post : Int32 → Prop} {K45 : Int32 → Int32 → Prop} {dk : Nat → Int64} {op : Int64} {re : Int32} (hp : ∀ r, post r) (hK : ∀ a0 a1, K45 a0 a1) : ∀ (m k : Nat) (i1 : Int32), k + m = 6 → wX1_nearestToReal_L4 post K45 dk op re (m + 1) i1 (nI k)
  | 0, k, i1, h => ⟨fun _ => by first | exact hK _ _, fun q => absurd (by rw [show k = 6 by omega]; decide) q⟩
  | m + 1, k, i1, h => by
    refine ⟨fun _ => ?_, fun _ => ?_⟩
    all_goals (repeat' (first
      | exact hp _
      | exact hp _ (Or.inl rfl)
      | exact hp _ (Or.inr rfl)
      | exact hp _ (by assumption)
      | exact hK _
      | exact hK _ _
      | exact hK _ _ _
      | exact hK _ _ _ _
      | (rw [← nI_succ]; exact sX1_nearestToReal_L4 hp hK m (k + 1) _ (by omega))
      | refine sX1_cell (fun _ => ?_)
      | refine sX1_cell (fun _ _ => ?_)
      | refine sJ13_bitCount_95d88 (fun _ => ?_)
      | refine sJ13_bitCount_95d88 (fun _ _ => ?_)
      | refine sX2_isGuard (fun _ _ _ => ?_) ?_
      | refine sX2_isWorld (fun _ _ _ => ?_) ?_
      | refine sX2_isFact (fun _ _ _ => ?_) ?_
      | (with_reducible apply And.intro)
      | intro _
      | (unfold vZ; assumption)))
theorem sX1_nearestToReal {post : Int32 → Prop} {dk : Nat → Int64} {op : Int64} {re : Int32} (hp : ∀ r, post r) : wX1_nearestToReal post dk op re := by
  unfold wX1_nearestToReal
  (repeat' (first
      | exact hp _
      | exact hp _ (Or.inl rfl)
      | exact hp _ (Or.inr rfl)
      | exact hp _ (by assumption)
      | exact hK _
      | exact hK _ _
      | exact hK _ _ _
      | exact hK _ _ _ _
      | refine sX2_isGuard (fun _ _ _ => ?_) ?_
      | refine sX2_isWorld (fun _ _ _ => ?_) ?_
      | refine sX2_isFact (fun _ _ _ => ?_) ?_
      | refine ⟨7, sX1_nearestToReal_L4 hp (fun _ _ => ?_) 6 0 _ rfl⟩
      | refine ⟨6, sX1_nearestToReal_L4 hp (fun _ _ => ?_) 5 1 _ rfl⟩
      | (with_reducible apply And.intro)
      | intro _
      | (unfold vZ; assumption)))
