/-! what both sides are: texts (words, caret, word by place), their history, how a word was given, counts -/
abbrev Tx : Type := Int × Int × (Int → Int)
def VT (T : Tx) : Prop := 0 ≤ T.2.1 ∧ T.2.1 ≤ T.1 ∧ T.1 ≤ 100 ∧ ∀ j, 0 ≤ j → j < T.1 → isW (T.2.2 j)
/-- texts by age (0: the one now), undoable acts, how given, acts, refusals, room of the list -/
abbrev Sg : Type := (Int → Tx) × Int × Int × Int × (Int → Int) × Int
def gS (g : Sg) : Int → Tx := g.1
def gK (g : Sg) : Int := g.2.1
def gD (g : Sg) : Int := g.2.2.1
def gA (g : Sg) : Int := g.2.2.2.1
def gR (g : Sg) : Int → Int := g.2.2.2.2.1
def gC (g : Sg) : Int := g.2.2.2.2.2
def tc (T : Tx) (S : Int → Tx) : Int → Tx := fun i => if i = 0 then T else S (i - 1)
theorem tc_0 (T : Tx) (S : Int → Tx) : tc T S 0 = T := rfl
theorem tc_s (T : Tx) (S : Int → Tx) {i : Int} (h : 0 ≤ i) : tc T S (i + 1) = S i := by
  unfold tc
  rw [if_neg (by omega)]
  congr 1
  omega
def gpush (g : Sg) (T : Tx) (d cap : Int) : Sg := (tc T (gS g), min (gK g + 1) 50, d, gA g + 1, gR g, cap)
def grefu (g : Sg) (i : Int) : Sg := (gS g, gK g, gD g, gA g, (fun j => if j = i then gR g j + 1 else gR g j), gC g)
def VS (g : Sg) : Prop := 0 ≤ gK g ∧ gK g ≤ 50 ∧ (∀ i, 0 ≤ i → i ≤ gK g → VT (gS g i)) ∧ (gD g = 0 ∨ (gD g = 1 ∧ 1 ≤ (gS g 0).2.1) ∨ (gD g = 2 ∧ (gS g 0).2.1 < (gS g 0).1)) ∧ 0 ≤ gA g ∧ 0 ≤ gC g ∧ gC g ≤ 148
/-! the reference -/
def MT (v : St) (T : Tx) : Prop := TA (sA v 0) (sA v 1) (sI v 1) (sI v 2) T.1 T.2.1 T.2.2
def Snap (v : St) (k : Int) (T : Tx) : Prop := sA v 5 k = T.1 ∧ sA v 4 k = T.2.1 ∧ ∀ j, 0 ≤ j → j < T.1 → sA v 3 (100 * k + j) = T.2.2 j
def MJ (v : St) (g : Sg) : Prop := MT v (gS g 0) ∧ sI v 3 = gD g ∧ sI v 4 = gA g ∧ (∀ i, 0 ≤ i → i < 4 → sA v 2 (i + 2) = gR g i) ∧ sI v 5 = gK g ∧ ∀ i, 0 ≤ i → i < gK g → Snap v (gK g - 1 - i) (gS g (i + 1))
def FxM (v v' : St) : Prop := (∀ k, k = 0 ∨ 5 < k → sI v' k = sI v k) ∧ (∀ k, 5 < k → sA v' k = sA v k)
theorem FxM.rf {v : St} : FxM v v := ⟨fun _ _ => rfl, fun _ _ => rfl⟩
theorem FxM.tr {u v w : St} (h : FxM u v) (h' : FxM v w) : FxM u w := ⟨fun k a => (h'.1 k a).trans (h.1 k a), fun k a => (h'.2 k a).trans (h.2 k a)⟩
def FrM (v v' : St) : Prop := (∀ k, k ≠ 1 → k ≠ 2 → sI v' k = sI v k) ∧ (∀ k, k ≠ 0 → k ≠ 1 → sA v' k = sA v k)
theorem FrM.rf {v : St} : FrM v v := ⟨fun _ _ _ => rfl, fun _ _ _ => rfl⟩
theorem FrM.tr {u v w : St} (h : FrM u v) (h' : FrM v w) : FrM u w := ⟨fun k a b => (h'.1 k a b).trans (h.1 k a b), fun k a b => (h'.2 k a b).trans (h.2 k a b)⟩
theorem wordIn_ok {post : Int → Prop} {v : St} {T : Tx} {j : Int} (h : MT v T) (h0 : 0 ≤ j) (hn : j < T.1) (hp : post (T.2.2 j)) : w_X10_wordIn post v j := by
  have hT := fun (hj : T.2.1 ≤ j) => TA.at h hj hn
  obtain ⟨h1, h2, h3, h4, h5, h6, h7⟩ := h
  refine ⟨⟨by omega, by omega⟩, ⟨by omega, by omega⟩, fun c => ⟨by omega, by omega, ?_⟩, fun c => ⟨by omega, by omega, ?_⟩⟩
  · rw [hT (by omega)]
    exact hp
  · rw [h6 j h0 (by omega)]
    exact hp
theorem many_ok {post : Int → Prop} {v : St} {T : Tx} (h : MT v T) (hp : post T.1) : w_X10_many post v := by
  obtain ⟨h1, h2, h3, h4, h5, h6, h7⟩ := h
  show post (sI v 1 + sI v 2)
  rw [h4, h5, show T.2.1 + (T.1 - T.2.1) = T.1 by omega]
  exact hp
theorem goesOn_ok {post : St → Prop} {v : St} {n p : Int} {W : Int → Int} (h : MT v (n, p, W)) (hn : p < n) (hp : ∀ v', MT v' (n, p + 1, W) → FrM v v' → post v') : w_X10_goesOn post v := by
  have hT := TA.next h hn
  obtain ⟨h1, h2, h3, h4, h5, h6, h7⟩ := h
  have h1 : 0 ≤ p := h1
  have h3 : n ≤ 100 := h3
  have h4 : sI v 1 = p := h4
  have h5 : sI v 2 = n - p := h5
  refine ⟨by omega, by omega, by omega, by omega, hp _ hT ⟨fun k a b => ?_, fun k a b => ?_⟩⟩
  · rw [sI_pI, if_neg a, sI_pA, sI_pI, if_neg b]
  · rw [sA_pI, sA_pA, if_neg a, sA_pI]
theorem goesBack_ok {post : St → Prop} {v : St} {n p : Int} {W : Int → Int} (h : MT v (n, p, W)) (hn : 0 < p) (hp : ∀ v', MT v' (n, p - 1, W) → FrM v v' → post v') : w_X10_goesBack post v := by
  have hT := TA.prev h hn
  obtain ⟨h1, h2, h3, h4, h5, h6, h7⟩ := h
  have h2 : p ≤ n := h2
  have h3 : n ≤ 100 := h3
  have h4 : sI v 1 = p := h4
  have h5 : sI v 2 = n - p := h5
  refine ⟨by omega, by omega, by omega, by omega, hp _ hT ⟨fun k a b => ?_, fun k a b => ?_⟩⟩
  · rw [sI_pI, if_neg b, sI_pA, sI_pI, if_neg a]
  · rw [sA_pI, sA_pA, if_neg b, sA_pI]
theorem goesTo_ok {post : St → Prop} {v : St} {n p i : Int} {W : Int → Int} (h : MT v (n, p, W)) (h0 : 0 ≤ i) (hn : i ≤ n) (hp : ∀ v', MT v' (n, i, W) → FrM v v' → post v') : w_X10_goesTo post v i := by
  have hb : n ≤ 100 := h.2.2.1
  have hc : p ≤ n := h.2.1
  have hd : 0 ≤ p := h.1
  refine Lp.inv (fun t : St => ∃ q, 0 ≤ q ∧ q ≤ n ∧ (q ≤ i ∨ q = p) ∧ MT t (n, q, W) ∧ FrM v t) (fun t => (i - sI t 1).toNat) _ ⟨p, hd, hc, Or.inr rfl, h, FrM.rf⟩ ?_
  rintro K w ⟨q, q0, q1, q2, q3, q4⟩ hK
  have e : sI w 1 = q := q3.2.2.2.1
  refine ⟨⟨by omega, by omega⟩, ⟨by omega, by omega⟩, fun c => ?_, fun c => ?_⟩
  · refine Lp.inv (fun t : St => ∃ q, i ≤ q ∧ q ≤ n ∧ MT t (n, q, W) ∧ FrM v t) (fun t => (sI t 1).toNat) _ ⟨q, by omega, q1, q3, q4⟩ ?_
    rintro K2 w2 ⟨r, r1, r2, r3, r4⟩ hK2
    have e2 : sI w2 1 = r := r3.2.2.2.1
    refine ⟨⟨by omega, by omega⟩, ⟨by omega, by omega⟩, fun c2 => ?_, fun c2 => ?_⟩
    · rw [show r = i by omega] at r3
      exact hp w2 r3 r4
    · refine goesBack_ok r3 (by omega) (fun v' a b => hK2 v' ⟨r - 1, by omega, by omega, a, r4.tr b⟩ ?_)
      have e3 : sI v' 1 = r - 1 := a.2.2.2.1
      omega
  · refine goesOn_ok q3 (by omega) (fun v' a b => hK v' ⟨q + 1, by omega, by omega, by omega, a, q4.tr b⟩ ?_)
    have e3 : sI v' 1 = q + 1 := a.2.2.2.1
    omega
/-- the text of now put among the snapshots -/
theorem j105_ok {post : St → Prop} {v : St} {T : Tx} {k : Int} (h : MT v T) (hk : sI v 5 = k) (h0 : 0 ≤ k) (h5 : k < 50)
    (hp : ∀ v', MT v' T → Snap v' k T → (∀ k', k' ≠ k → sA v' 4 k' = sA v 4 k' ∧ sA v' 5 k' = sA v 5 k') → (∀ i, i < 100 * k ∨ 100 * k + 100 ≤ i → sA v' 3 i = sA v 3 i) → sI v' 5 = k + 1 → sI v' 4 = sI v 4 + 1 → sI v' 3 = sI v 3 → sA v' 2 = sA v 2 → FxM v v' → post v') : j_X10_keeps_105 post v := by
  have hb : T.1 ≤ 100 := h.2.2.1
  have hd : T.2.1 ≤ T.1 := h.2.1
  have he : 0 ≤ T.2.1 := h.1
  have hc : sI v 1 = T.2.1 := h.2.2.2.1
  subst hk
  refine ⟨h0, h5, many_ok (T := T) h ?_⟩
  refine Lp.inv (fun t : St × Int => 0 ≤ t.2 ∧ t.2 ≤ T.1 ∧ MT t.1 T ∧ (∀ j, 0 ≤ j → j < t.2 → sA t.1 3 (100 * sI v 5 + j) = T.2.2 j) ∧ (∀ i, i < 100 * sI v 5 ∨ 100 * sI v 5 + 100 ≤ i → sA t.1 3 i = sA v 3 i) ∧ (∀ k, sI t.1 k = sI v k) ∧ sA t.1 4 = zset (sA v 4) (sI v 5) T.2.1 ∧ sA t.1 5 = zset (sA v 5) (sI v 5) T.1 ∧ (∀ k, k ≠ 3 → k ≠ 4 → k ≠ 5 → sA t.1 k = sA v k)) (fun t => (T.1 - t.2).toNat) _ ⟨by show (0 : Int) ≤ 0; decide, by show 0 ≤ T.1; omega, h, fun j a b => absurd b (by show ¬ j < 0; omega), fun _ _ => rfl, fun _ => rfl, ?_, rfl, fun k a b c => ?_⟩ ?_
  · show zset (sA v 4) (sI v 5) (sI v 1) = _
    rw [hc]
  · show sA (pA (pA v 4 (sI v 5) (sI v 1)) 5 (sI v 5) T.1) k = _
    rw [sA_pA, if_neg c, sA_pA, if_neg b]
  rintro K ⟨w, x⟩ ⟨i1, i2, i3, i4, i5, i6, i7, i8, i9⟩ hK
  have i1 : 0 ≤ x := i1
  have i2 : x ≤ T.1 := i2
  have i3 : MT w T := i3
  have i4 : ∀ j, 0 ≤ j → j < x → sA w 3 (100 * sI v 5 + j) = T.2.2 j := i4
  have i5 : ∀ i, i < 100 * sI v 5 ∨ 100 * sI v 5 + 100 ≤ i → sA w 3 i = sA v 3 i := i5
  have i6 : ∀ k, sI w k = sI v k := i6
  have i7 : sA w 4 = zset (sA v 4) (sI v 5) T.2.1 := i7
  have i8 : sA w 5 = zset (sA v 5) (sI v 5) T.1 := i8
  have i9 : ∀ k, k ≠ 3 → k ≠ 4 → k ≠ 5 → sA w k = sA v k := i9
  show b_X10_keeps_133 post K w x
  unfold b_X10_keeps_133
  refine many_ok (T := T) i3 ?_
  refine ⟨⟨by omega, by omega⟩, ⟨by omega, by omega⟩, fun c => ?_, fun c => ?_⟩
  · have e : x = T.1 := by omega
    refine hp _ i3 ⟨?_, ?_, fun j a b => i4 j a (by omega)⟩ (fun k' hk' => ⟨?_, ?_⟩) (fun i hi => i5 i hi) ?_ ?_ (i6 3) (i9 2 (by decide) (by decide) (by decide)) ⟨fun k hk => ?_, fun k hk => i9 k (by omega) (by omega) (by omega)⟩
    · show sA w 5 (sI v 5) = _
      rw [i8, zset_at, if_pos rfl]
    · show sA w 4 (sI v 5) = _
      rw [i7, zset_at, if_pos rfl]
    · show sA w 4 k' = _
      rw [i7, zset_at, if_neg hk']
    · show sA w 5 k' = _
      rw [i8, zset_at, if_neg hk']
    · show sI w 5 + 1 = _
      rw [i6]
    · show sI w 4 + 1 = _
      rw [i6]
    · rw [sI_pI, if_neg (by omega), sI_pI, if_neg (by omega), i6]
  · refine wordIn_ok i3 i1 (by omega) ?_
    show 0 ≤ 100 * sI w 5 + x ∧ 100 * sI w 5 + x < 5000 ∧ K (pA w 3 (100 * sI w 5 + x) (T.2.2 x), x + 1)
    rw [i6 5]
    refine ⟨by omega, by omega, hK _ ⟨by show 0 ≤ x + 1; omega, by show x + 1 ≤ T.1; omega, i3, fun j a b => ?_, fun i hi => ?_, i6, i7, i8, fun k a b c => ?_⟩ (by show (T.1 - (x + 1)).toNat < (T.1 - x).toNat; omega)⟩
    · show zset (sA w 3) (100 * sI v 5 + x) (T.2.2 x) (100 * sI v 5 + j) = _
      have b : j < x + 1 := b
      rw [zset_at]
      by_cases d : j = x
      · rw [if_pos (by omega), d]
      · rw [if_neg (by omega)]
        exact i4 j a (by omega)
    · show zset (sA w 3) (100 * sI v 5 + x) (T.2.2 x) i = _
      rw [zset_at, if_neg (by omega)]
      exact i5 i hi
    · show sA (pA w 3 (100 * sI v 5 + x) (T.2.2 x)) k = _
      rw [sA_pA, if_neg a]
      exact i9 k a b c
def KJ (v : St) (g : Sg) : Prop := MT v (gS g 0) ∧ sI v 3 = gD g ∧ sI v 4 = gA g + 1 ∧ (∀ i, 0 ≤ i → i < 4 → sA v 2 (i + 2) = gR g i) ∧ sI v 5 = min (gK g + 1) 50 ∧ ∀ i, 0 ≤ i → i < min (gK g + 1) 50 → Snap v (min (gK g + 1) 50 - 1 - i) (gS g i)
theorem snap_of {v v' : St} {k k' : Int} {T : Tx} (h : Snap v k T) (hT : T.1 ≤ 100) (e4 : sA v' 4 k' = sA v 4 k) (e5 : sA v' 5 k' = sA v 5 k) (e3 : ∀ j, 0 ≤ j → j < 100 → sA v' 3 (100 * k' + j) = sA v 3 (100 * k + j)) : Snap v' k' T := ⟨e5.trans h.1, e4.trans h.2.1, fun j a b => (e3 j a (by omega)).trans (h.2.2 j a b)⟩
theorem keeps_ok {post : St → Prop} {v : St} {g : Sg} (h : MJ v g) (hV : VS g) (hp : ∀ v', KJ v' g → FxM v v' → post v') : w_X10_keeps post v := by
  obtain ⟨h1, h2, h3, h4, h5, h6⟩ := h
  obtain ⟨k0, k1, kV, -⟩ := hV
  refine ⟨⟨by omega, by omega⟩, fun c => ?_, fun c => ?_⟩
  · have em : min (gK g + 1) 50 = gK g + 1 := by omega
    refine j105_ok h1 h5 k0 (by omega) (fun v' a1 a2 a3 a4 a5 a6 a7 a8 a9 => hp v' ⟨a1, a7.trans h2, by rw [a6, h3], fun i b0 b1 => by rw [a8]; exact h4 i b0 b1, by rw [a5, em], fun i b0 b1 => ?_⟩ a9)
    rw [em] at b1 ⊢
    by_cases d : i = 0
    · subst d
      rw [show gK g + 1 - 1 - 0 = gK g by omega]
      exact a2
    · have e := h6 (i - 1) (by omega) (by omega)
      rw [show i - 1 + 1 = i by omega] at e
      have f := a3 (gK g + 1 - 1 - i) (by omega)
      rw [show gK g - 1 - (i - 1) = gK g + 1 - 1 - i by omega] at e
      exact snap_of e (kV i b0 (by omega)).2.2.1 f.1 f.2 (fun j c0 c1 => a4 _ (by omega))
  · have ek : gK g = 50 := by omega
    have em : min (gK g + 1) 50 = 50 := by omega
    have hZ : ∀ k, 0 ≤ k → k < 50 → Snap v k (gS g (50 - k)) := fun k a b => by
      have e := h6 (49 - k) (by omega) (by omega)
      rw [ek, show (50 : Int) - 1 - (49 - k) = k by omega, show (49 : Int) - k + 1 = 50 - k by omega] at e
      exact e
    have hZn : ∀ k, 0 ≤ k → k ≤ 50 → (gS g (50 - k)).1 ≤ 100 := fun k a b => (kV (50 - k) (by omega) (by omega)).2.2.1
    refine Lp.inv (fun t : St × Int => 0 ≤ t.2 ∧ t.2 ≤ 49 ∧ MT t.1 (gS g 0) ∧ (∀ k, k ≠ 5 → sI t.1 k = sI v k) ∧ sI t.1 5 = 49 ∧ (∀ k, k ≠ 3 → k ≠ 4 → k ≠ 5 → sA t.1 k = sA v k) ∧ (∀ k, 0 ≤ k → k < t.2 → Snap t.1 k (gS g (49 - k))) ∧ (∀ k, t.2 ≤ k → k < 50 → Snap t.1 k (gS g (50 - k)))) (fun t => (49 - t.2).toNat) _ ⟨by show (0 : Int) ≤ 0; decide, by show (0 : Int) ≤ 49; decide, h1, fun k a => ?_, ?_, fun _ _ _ _ => rfl, fun k a b => absurd b (by show ¬ k < 0; omega), hZ⟩ ?_
    · show sI (pI v 5 (sI v 5 - 1)) k = _
      rw [sI_pI, if_neg a]
    · show sI v 5 - 1 = 49
      omega
    rintro K ⟨w, x⟩ ⟨i1, i2, i3, i4, i5, i6, i7, i8⟩ hK
    have i1 : 0 ≤ x := i1
    have i2 : x ≤ 49 := i2
    have i3 : MT w (gS g 0) := i3
    have i4 : ∀ k, k ≠ 5 → sI w k = sI v k := i4
    have i5 : sI w 5 = 49 := i5
    have i6 : ∀ k, k ≠ 3 → k ≠ 4 → k ≠ 5 → sA w k = sA v k := i6
    have i7 : ∀ k, 0 ≤ k → k < x → Snap w k (gS g (49 - k)) := i7
    have i8 : ∀ k, x ≤ k → k < 50 → Snap w k (gS g (50 - k)) := i8
    refine ⟨⟨by omega, by omega⟩, ⟨by omega, by omega⟩, fun c2 => ?_, fun c2 => ?_⟩
    · have ex : x = 49 := by omega
      subst ex
      refine j105_ok i3 i5 (by omega) (by omega) (fun v' a1 a2 a3 a4 a5 a6 a7 a8 a9 => hp v' ⟨a1, a7.trans ((i4 3 (by decide)).trans h2), by rw [a6, i4 4 (by decide), h3], fun i b0 b1 => by rw [a8, i6 2 (by decide) (by decide) (by decide)]; exact h4 i b0 b1, by rw [a5, em]; rfl, fun i b0 b1 => ?_⟩ ⟨fun k hk => (a9.1 k hk).trans (i4 k (by omega)), fun k hk => (a9.2 k hk).trans (i6 k (by omega) (by omega) (by omega))⟩)
      rw [em] at b1 ⊢
      by_cases d : i = 0
      · subst d
        exact a2
      · have e := i7 (49 - i) (by omega) (by omega)
        rw [show (49 : Int) - (49 - i) = i by omega] at e
        have f := a3 (49 - i) (by omega)
        rw [show (50 : Int) - 1 - i = 49 - i by omega]
        exact snap_of e (kV i b0 (by omega)).2.2.1 f.1 f.2 (fun j c0 c1 => a4 _ (by omega))
    · have c2 : ¬ sI w 5 ≤ x := c2
      refine ⟨by omega, by omega, i1, by omega, ?_⟩
      have e8 := i8 (x + 1) (by omega) (by omega)
      rw [show (50 : Int) - (x + 1) = 49 - x by omega] at e8
      have hT : (gS g (49 - x)).1 ≤ 100 := (kV (49 - x) (by omega) (by omega)).2.2.1
      have hT0 := (kV (49 - x) (by omega) (by omega)).1
      have hT1 := (kV (49 - x) (by omega) (by omega)).2.1
      refine Lp.inv (fun t : St × Int => 0 ≤ t.2 ∧ t.2 ≤ (gS g (49 - x)).1 ∧ MT t.1 (gS g 0) ∧ (∀ k, sI t.1 k = sI w k) ∧ (∀ k, k ≠ 3 → k ≠ 4 → k ≠ 5 → sA t.1 k = sA w k) ∧ sA t.1 4 = zset (sA w 4) x (sA w 4 (x + 1)) ∧ sA t.1 5 = zset (sA w 5) x (sA w 5 (x + 1)) ∧ (∀ j, 0 ≤ j → j < t.2 → sA t.1 3 (100 * x + j) = (gS g (49 - x)).2.2 j) ∧ (∀ i, i < 100 * x ∨ 100 * x + 100 ≤ i → sA t.1 3 i = sA w 3 i)) (fun t => ((gS g (49 - x)).1 - t.2).toNat) _ ⟨by show (0 : Int) ≤ 0; decide, by show 0 ≤ (gS g (49 - x)).1; omega, i3, fun _ => rfl, fun k a b c => ?_, ?_, ?_, fun j a b => absurd b (by show ¬ j < 0; omega), fun _ _ => rfl⟩ ?_
      · show sA (pA (pA w 4 x (sA w 4 (x + 1))) 5 x (sA w 5 (x + 1))) k = _
        rw [sA_pA, if_neg c, sA_pA, if_neg b]
      · rfl
      · rfl
      rintro K2 ⟨w2, y⟩ ⟨j1, j2, j3, j4, j5, j6, j7, j8, j9⟩ hK2
      have j1 : 0 ≤ y := j1
      have j2 : y ≤ (gS g (49 - x)).1 := j2
      have j3 : MT w2 (gS g 0) := j3
      have j4 : ∀ k, sI w2 k = sI w k := j4
      have j5 : ∀ k, k ≠ 3 → k ≠ 4 → k ≠ 5 → sA w2 k = sA w k := j5
      have j6 : sA w2 4 = zset (sA w 4) x (sA w 4 (x + 1)) := j6
      have j7 : sA w2 5 = zset (sA w 5) x (sA w 5 (x + 1)) := j7
      have j8 : ∀ j, 0 ≤ j → j < y → sA w2 3 (100 * x + j) = (gS g (49 - x)).2.2 j := j8
      have j9 : ∀ i, i < 100 * x ∨ 100 * x + 100 ≤ i → sA w2 3 i = sA w 3 i := j9
      have e5 : sA w2 5 x = (gS g (49 - x)).1 := by rw [j7, zset_at, if_pos rfl]; exact e8.1
      have e4 : sA w2 4 x = (gS g (49 - x)).2.1 := by rw [j6, zset_at, if_pos rfl]; exact e8.2.1
      show (0 ≤ x) ∧ (x < 50) ∧ (InR y) ∧ (InR (sA w2 5 x)) ∧ ((sA w2 5 x ≤ y → K (w2, x + 1)) ∧ (¬ sA w2 5 x ≤ y → (0 ≤ (100 * (x + 1)) + y) ∧ ((100 * (x + 1)) + y < 5000) ∧ (0 ≤ (100 * x) + y) ∧ ((100 * x) + y < 5000) ∧ K2 ((pA w2 3 ((100 * x) + y) (sA w2 3 ((100 * (x + 1)) + y))), y + 1)))
      rw [e5]
      refine ⟨i1, by omega, ⟨by omega, by omega⟩, ⟨by omega, by omega⟩, fun c3 => ?_, fun c3 => ⟨by omega, by omega, by omega, by omega, ?_⟩⟩
      · refine hK _ ⟨by show 0 ≤ x + 1; omega, by show x + 1 ≤ 49; omega, j3, fun k a => (j4 k).trans (i4 k a), (j4 5).trans i5, fun k a b c => (j5 k a b c).trans (i6 k a b c), fun k a b => ?_, fun k a b => ?_⟩ (by show (49 - (x + 1)).toNat < (49 - x).toNat; omega)
        · have b : k < x + 1 := b
          show Snap w2 k (gS g (49 - k))
          by_cases d : k = x
          · subst d
            exact ⟨e5, e4, fun j a b => j8 j a (by omega)⟩
          · refine snap_of (i7 k a (by omega)) (kV (49 - k) (by omega) (by omega)).2.2.1 ?_ ?_ (fun j a b => j9 _ (by omega))
            · rw [j6, zset_at, if_neg d]
            · rw [j7, zset_at, if_neg d]
        · have a : x + 1 ≤ k := a
          show Snap w2 k (gS g (50 - k))
          refine snap_of (i8 k (by omega) b) (hZn k (by omega) (by omega)) ?_ ?_ (fun j a b => j9 _ (by omega))
          · rw [j6, zset_at, if_neg (by omega)]
          · rw [j7, zset_at, if_neg (by omega)]
      · refine hK2 _ ⟨by show 0 ≤ y + 1; omega, by show y + 1 ≤ (gS g (49 - x)).1; omega, j3, j4, fun k a b c => ?_, j6, j7, fun j a b => ?_, fun i hi => ?_⟩ (by show ((gS g (49 - x)).1 - (y + 1)).toNat < ((gS g (49 - x)).1 - y).toNat; omega)
        · show sA (pA w2 3 (100 * x + y) _) k = _
          rw [sA_pA, if_neg a]
          exact j5 k a b c
        · have b : j < y + 1 := b
          show zset (sA w2 3) (100 * x + y) (sA w2 3 (100 * (x + 1) + y)) (100 * x + j) = _
          rw [zset_at]
          by_cases d : j = y
          · rw [if_pos (by omega), j9 _ (by omega), d]
            exact e8.2.2 y j1 (by omega)
          · rw [if_neg (by omega)]
            exact j8 j a (by omega)
        · show zset (sA w2 3) (100 * x + y) (sA w2 3 (100 * (x + 1) + y)) i = _
          rw [zset_at, if_neg (by omega)]
          exact j9 i hi
theorem mj_of {v v' : St} {g : Sg} {T : Tx} {d cap : Int} (h : KJ v g) (hT : MT v' T) (e3 : sI v' 3 = d) (e4 : sI v' 4 = sI v 4) (e5 : sI v' 5 = sI v 5) (eA : ∀ k, 1 < k → k < 6 → sA v' k = sA v k) : MJ v' (gpush g T d cap) := by
  obtain ⟨h1, h2, h3, h4, h5, h6⟩ := h
  refine ⟨hT, e3, e4.trans h3, fun i a b => by rw [eA 2 (by decide) (by decide)]; exact h4 i a b, e5.trans h5, fun i a b => ?_⟩
  show Snap v' (min (gK g + 1) 50 - 1 - i) (tc T (gS g) (i + 1))
  rw [tc_s _ _ a]
  have e := h6 i a b
  unfold Snap at *
  rw [eA 3 (by decide) (by decide), eA 4 (by decide) (by decide), eA 5 (by decide) (by decide)]
  exact e
theorem refuses_ok {post : Int → St → Prop} {v : St} {g : Sg} {z : Int} (hz : -5 ≤ z ∧ z ≤ -2) (h : MJ v g) (hp : ∀ v', MJ v' (grefu g (-2 - z)) → FxM v v' → post z v') : w_X10_refuses post v z := by
  obtain ⟨h1, h2, h3, h4, h5, h6⟩ := h
  refine ⟨by omega, by omega, hp _ ⟨h1, h2, h3, fun i a b => ?_, h5, h6⟩ ⟨fun _ _ => rfl, fun k hk => ?_⟩⟩
  · show zset (sA v 2) (0 - z) (sA v 2 (0 - z) + 1) (i + 2) = if i = -2 - z then gR g i + 1 else gR g i
    rw [zset_at]
    by_cases c : i = -2 - z
    · rw [if_pos (by omega), if_pos c, ← h4 i a b, show i + 2 = 0 - z by omega]
    · rw [if_neg (by omega), if_neg c, h4 i a b]
  · rw [sA_pA, if_neg (by omega)]
