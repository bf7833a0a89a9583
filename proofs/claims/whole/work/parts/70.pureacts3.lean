/-! finding, and undo -/
theorem first_or (P : Int → Prop) : ∀ k : Nat, (∃ m : Int, 1 ≤ m ∧ m ≤ k ∧ P m ∧ ∀ i, 1 ≤ i → i < m → ¬ P i) ∨ (∀ i, 1 ≤ i → i ≤ (k : Int) → ¬ P i)
  | 0 => Or.inr (fun i a b => absurd b (by omega))
  | k + 1 => by
    rcases first_or P k with ⟨m, a, b, c, d⟩ | h
    · exact Or.inl ⟨m, a, by omega, c, d⟩
    · by_cases c : P (k + 1)
      · exact Or.inl ⟨k + 1, by omega, by omega, c, fun i a b => h i a (by omega)⟩
      · refine Or.inr (fun i a b => ?_)
        by_cases d : i = k + 1
        · rw [d]
          exact c
        · exact h i a (by omega)
def Fst (V : Int → Int) (x most r : Int) : Prop := (r = 0 ∧ ∀ i, 1 ≤ i → i ≤ most → V i ≠ x) ∨ (1 ≤ r ∧ r ≤ most ∧ V r = x ∧ ∀ i, 1 ≤ i → i < r → V i ≠ x)
theorem steps_lp {post : Int → Prop} {u : St} {x bk most near r : Int} {V : Int → Int} (hb : bk = 0 ∨ bk = 1) (hm0 : 0 ≤ most) (hm : most ≤ 100) (hx : InR x) (hV : ∀ (s : Int) (q : Int → Prop), 0 ≤ s → s < most → q (V (s + 1)) → w_X3_wordOf q u (if bk = 0 then near + s else near - s)) (hVr : ∀ s, 0 ≤ s → s < most → InR (V (s + 1))) (hr : Fst V x most r) (hp : post r) : ∃ n, Lp (B_X3_stepsTo_43 post u x bk most near) n 0 := by
  refine Lp.inv (fun s : Int => 0 ≤ s ∧ s ≤ most ∧ (1 ≤ r → s < r)) (fun s => (most - s).toNat) _ ⟨by omega, by omega, fun c => by omega⟩ ?_
  rintro K s ⟨i1, i2, i3⟩ hK
  refine ⟨⟨by omega, by omega⟩, ⟨by omega, by omega⟩, fun c => ?_, fun c => ⟨⟨by omega, by omega⟩, fun d => ?_, fun d => ?_⟩⟩
  · rcases hr with ⟨a, b⟩ | ⟨a, b, d, e⟩
    · rw [a] at hp
      exact hp
    · have := i3 a
      omega
  · have h := hV s (fun (z24 : Int) => (InR z24) ∧ (InR x) ∧ ((¬ z24 = x → K (s + 1)) ∧ (z24 = x → post (s + 1)))) i1 (by omega)
    rw [if_pos d] at h
    refine h ⟨hVr s i1 (by omega), hx, fun e => hK _ ⟨by omega, by omega, fun f => ?_⟩ (by omega), fun e => ?_⟩
    · rcases hr with ⟨a, b⟩ | ⟨a, b, d, g⟩
      · omega
      · have := i3 a
        by_cases k : r = s + 1
        · rw [k] at d
          exact absurd d e
        · omega
    · rcases hr with ⟨a, b⟩ | ⟨a, b, d, g⟩
      · exact absurd e (b (s + 1) (by omega) (by omega))
      · have := i3 a
        by_cases k : r = s + 1
        · rw [← k]
          exact hp
        · exact absurd e (g (s + 1) (by omega) (by omega))
  · have h := hV s (fun (z24 : Int) => (InR z24) ∧ (InR x) ∧ ((¬ z24 = x → K (s + 1)) ∧ (z24 = x → post (s + 1)))) i1 (by omega)
    rw [if_neg d] at h
    refine h ⟨hVr s i1 (by omega), hx, fun e => hK _ ⟨by omega, by omega, fun f => ?_⟩ (by omega), fun e => ?_⟩
    · rcases hr with ⟨a, b⟩ | ⟨a, b, d, g⟩
      · omega
      · have := i3 a
        by_cases k : r = s + 1
        · rw [k] at d
          exact absurd d e
        · omega
    · rcases hr with ⟨a, b⟩ | ⟨a, b, d, g⟩
      · exact absurd e (b (s + 1) (by omega) (by omega))
      · have := i3 a
        by_cases k : r = s + 1
        · rw [← k]
          exact hp
        · exact absurd e (g (s + 1) (by omega) (by omega))
theorem stepsTo_F {post : Int → Prop} {G : Gr} {u : St} {n p cap x r : Int} {W : Int → Int} (h : Txt G u n p W cap) (hx : InR x) (hr : Fst (fun i => W (p + i - 1)) x (n - p) r) (hp : post r) : w_X3_stepsTo post u x 0 := by
  have h3 := h.n100
  refine ⟨by decide, fun _ => ln_length h (ln_caret h ⟨by decide, fun _ => ln_caret h ?_, fun c => absurd rfl c⟩), fun c => absurd rfl c⟩
  refine steps_lp (Or.inl rfl) (by omega) (by omega) hx (fun s q a b c => ?_) (fun s a b => ?_) hr hp
  · rw [if_pos rfl]
    refine ln_wordOf h (by omega) (by omega) ?_
    have c : q (W (p + (s + 1) - 1)) := c
    rw [show p + (s + 1) - 1 = p + s by omega] at c
    exact c
  · exact (h.2.2.2 (p + (s + 1) - 1) (by omega) (by omega)).inr
theorem stepsTo_B {post : Int → Prop} {G : Gr} {u : St} {n p cap x r : Int} {W : Int → Int} (h : Txt G u n p W cap) (hx : InR x) (hr : Fst (fun i => W (p - i)) x p r) (hp : post r) : w_X3_stepsTo post u x 1 := by
  have h3 := h.n100
  refine ⟨by decide, fun c => absurd c (by decide), fun _ => ln_caret h ⟨by decide, fun c => absurd c (by decide), fun _ => ln_caret h ?_⟩⟩
  refine steps_lp (Or.inr rfl) (by omega) (by omega) hx (fun s q a b c => ?_) (fun s a b => ?_) hr hp
  · rw [if_neg (by decide)]
    refine ln_wordOf h (by omega) (by omega) ?_
    have c : q (W (p - (s + 1))) := c
    rw [show p - (s + 1) = p - 1 - s by omega] at c
    exact c
  · exact (h.2.2.2 (p - (s + 1)) (by omega) (by omega)).inr
theorem act_seekF {G : Gr} {g : Sg} {x : Int} (hx : isW x) (hV : VS g) : Act G (fun post _ _ u => w_X1_seek post G u x 0) (fun post v => w_X10_finds post v x 0) g := by
  have hT := hV.2.2.1 0 (by omega) hV.1
  rcases hS : gS g 0 with ⟨n, p, W⟩
  rw [hS] at hT
  obtain ⟨t0, t1, t2, t3⟩ := hT
  have t0 : 0 ≤ p := t0
  have t1 : p ≤ n := t1
  have t2 : n ≤ 100 := t2
  have t3 : ∀ j, 0 ≤ j → j < n → isW (W j) := t3
  have c0 := hV.2.2.2.2.2.1
  have c1 := hV.2.2.2.2.2.2
  have hfr : ∀ v, MT v (n, p, W) → ∀ i, 1 ≤ i → i ≤ n - p → sA v 1 (sI v 2 - i) = W (p + i - 1) := fun v hm i a b => by
    have e := hm.c
    rw [e.2]
    have f : sA v 1 (n - p - i) = W (n - 1 - (n - p - i)) := hm.2.2.2.2.2.2 (n - p - i) (by omega) (by show n - p - i < n - p; omega)
    rw [f]
    congr 1
    omega
  rcases first_or (fun i => W (p + i - 1) = x) (n - p).toNat with ⟨m, m1, m2, m3, m4⟩ | hno
  · have m2 : m ≤ n - p := by omega
    have hF : Fst (fun i => W (p + i - 1)) x (n - p) m := Or.inr ⟨m1, m2, m3, m4⟩
    refine act_yes m (n, p + m, W) 1 (gC g) 0 0 (by omega) hV ⟨by show 0 ≤ p + m; omega, by show p + m ≤ n; omega, t2, t3⟩ (Or.inr (Or.inl ⟨rfl, by show 1 ≤ p + m; omega⟩)) (by omega) c0 c1 (by omega) (by omega) (fun u post h hp => ?_) (fun v post h hp => ?_)
    · obtain ⟨hy, hE⟩ := h
      unfold TxJ at hy
      rw [hS] at hy
      have hy : Txt G u n p W (gC g) := hy
      refine stepsTo_F hy hx.inr hF ⟨⟨by omega, by omega⟩, fun _ => ln_caret hy ?_, fun c => absurd c (by omega)⟩
      refine Lp.inv (fun t : St × Int => 0 ≤ t.2 ∧ t.2 ≤ m ∧ Txt G t.1 n (p + t.2) W (gC g) ∧ Fr u t.1) (fun t => (m - t.2).toNat) _ ⟨by show (0 : Int) ≤ 0; decide, by show 0 ≤ m; omega, by show Txt G u n (p + 0) W (gC g); rw [Int.add_zero]; exact hy, Fr.rf⟩ ?_
      rintro K ⟨w, y⟩ ⟨i1, i2, i3, i4⟩ hK
      have i1 : 0 ≤ y := i1
      have i2 : y ≤ m := i2
      have i3 : Txt G w n (p + y) W (gC g) := i3
      have i4 : Fr u w := i4
      refine ⟨⟨by omega, by omega⟩, ⟨by omega, by omega⟩, fun c => ⟨by decide, fun _ => ?_, fun c => absurd rfl c⟩, fun c => ?_⟩
      · have c : m ≤ y := c
        rw [show p + y = p + m by omega] at i3
        exact conclude_ok (g := g) (T := (n, p + m, W)) i3 (hE.fr i4) ⟨hV.1, hV.2.1⟩ (Or.inl ⟨rfl, hS⟩) (fun u'' a2 b2 => hp u'' a2 (i4.x.tr b2))
      · have c : ¬ m ≤ y := c
        refine ln_next i3 (by omega) (fun u' a b => hK _ ⟨by show 0 ≤ y + 1; omega, by show y + 1 ≤ m; omega, ?_, i4.tr b⟩ (by show (m - (y + 1)).toNat < (m - y).toNat; omega))
        show Txt G u' n (p + (y + 1)) W (gC g)
        rw [show p + (y + 1) = p + y + 1 by omega]
        exact a
    · have hm := h.1
      rw [hS] at hm
      have e := hm.c
      have hf := hfr v hm
      refine ⟨by decide, fun _ => ?_, fun c => absurd rfl c⟩
      refine Lp.inv (fun s : Int => 1 ≤ s ∧ s ≤ m) (fun s => (m - s).toNat) _ ⟨by omega, by omega⟩ ?_
      rintro K s ⟨i1, i2⟩ hK
      refine ⟨⟨by omega, by omega⟩, ⟨by omega, by omega⟩, fun c => absurd c (by omega), fun c => ?_⟩
      rw [hf s i1 (by omega)]
      refine ⟨by omega, by omega, (t3 (p + s - 1) (by omega) (by omega)).inr, hx.inr, fun d => ⟨by decide, fun _ => keeps_ok h hV (fun v1 a1 b1 => ?_), fun c => absurd rfl c⟩, fun d => ?_⟩
      · have hs : s = m := by
          by_cases k : s < m
          · exact absurd d (m4 s i1 k)
          · omega
        subst hs
        have hm1 := a1.1
        rw [hS] at hm1
        rw [hm1.c.1]
        exact goesTo_ok hm1 (by omega) (by omega) (fun v2 a2 b2 => hp _ (mj_i3 a1 a2 b2) (b1.tr (fxm_i3 b2)))
      · refine hK _ ⟨by omega, ?_⟩ ?_
        · by_cases k : s = m
          · rw [k] at d
            exact absurd m3 d
          · omega
        · by_cases k : s = m
          · rw [k] at d
            exact absurd m3 d
          · omega
  · have hF : Fst (fun i => W (p + i - 1)) x (n - p) 0 := Or.inl ⟨rfl, fun i a b => hno i a (by omega)⟩
    refine act_no (-2) (by decide) hV (fun u post h hp => ?_) (fun v post h hp => ?_)
    · have hy := h.1
      unfold TxJ at hy
      rw [hS] at hy
      exact stepsTo_F hy hx.inr hF ⟨by decide, fun c => absurd rfl c, fun _ => hp⟩
    · have hm := h.1
      rw [hS] at hm
      have e := hm.c
      have hf := hfr v hm
      refine ⟨by decide, fun _ => ?_, fun c => absurd rfl c⟩
      refine Lp.inv (fun s : Int => 1 ≤ s ∧ s ≤ n - p + 1) (fun s => (n - p + 1 - s).toNat) _ ⟨by omega, by omega⟩ ?_
      rintro K s ⟨i1, i2⟩ hK
      refine ⟨⟨by omega, by omega⟩, ⟨by omega, by omega⟩, fun c => ⟨by decide, fun _ => hp, fun c => absurd rfl c⟩, fun c => ?_⟩
      rw [hf s i1 (by omega)]
      exact ⟨by omega, by omega, (t3 (p + s - 1) (by omega) (by omega)).inr, hx.inr, fun d => absurd d (hno s i1 (by omega)), fun d => hK _ ⟨by omega, by omega⟩ (by omega)⟩
theorem act_seekB {G : Gr} {g : Sg} {x : Int} (hx : isW x) (hV : VS g) : Act G (fun post _ _ u => w_X1_seek post G u x 1) (fun post v => w_X10_finds post v x 1) g := by
  have hT := hV.2.2.1 0 (by omega) hV.1
  rcases hS : gS g 0 with ⟨n, p, W⟩
  rw [hS] at hT
  obtain ⟨t0, t1, t2, t3⟩ := hT
  have t0 : 0 ≤ p := t0
  have t1 : p ≤ n := t1
  have t2 : n ≤ 100 := t2
  have t3 : ∀ j, 0 ≤ j → j < n → isW (W j) := t3
  have c0 := hV.2.2.2.2.2.1
  have c1 := hV.2.2.2.2.2.2
  have hfr : ∀ v, MT v (n, p, W) → ∀ i, 1 ≤ i → i ≤ p → sA v 0 (sI v 1 - i) = W (p - i) := fun v hm i a b => by
    have e := hm.c
    rw [e.1]
    exact hm.2.2.2.2.2.1 (p - i) (by omega) (by show p - i < p; omega)
  rcases first_or (fun i => W (p - i) = x) p.toNat with ⟨m, m1, m2, m3, m4⟩ | hno
  · have m2 : m ≤ p := by omega
    have hF : Fst (fun i => W (p - i)) x p m := Or.inr ⟨m1, m2, m3, m4⟩
    refine act_yes m (n, p - m, W) 2 (gC g) 0 0 (by omega) hV ⟨by show 0 ≤ p - m; omega, by show p - m ≤ n; omega, t2, t3⟩ (Or.inr (Or.inr ⟨rfl, by show p - m < n; omega⟩)) (by omega) c0 c1 (by omega) (by omega) (fun u post h hp => ?_) (fun v post h hp => ?_)
    · obtain ⟨hy, hE⟩ := h
      unfold TxJ at hy
      rw [hS] at hy
      have hy : Txt G u n p W (gC g) := hy
      refine stepsTo_B hy hx.inr hF ⟨⟨by omega, by omega⟩, fun _ => ln_caret hy ?_, fun c => absurd c (by omega)⟩
      refine Lp.inv (fun t : St × Int => 0 ≤ t.2 ∧ t.2 ≤ m ∧ Txt G t.1 n (p - t.2) W (gC g) ∧ Fr u t.1) (fun t => (m - t.2).toNat) _ ⟨by show (0 : Int) ≤ 0; decide, by show 0 ≤ m; omega, by show Txt G u n (p - 0) W (gC g); rw [Int.sub_zero]; exact hy, Fr.rf⟩ ?_
      rintro K ⟨w, y⟩ ⟨i1, i2, i3, i4⟩ hK
      have i1 : 0 ≤ y := i1
      have i2 : y ≤ m := i2
      have i3 : Txt G w n (p - y) W (gC g) := i3
      have i4 : Fr u w := i4
      refine ⟨⟨by omega, by omega⟩, ⟨by omega, by omega⟩, fun c => ⟨by decide, fun c => absurd c (by decide), fun _ => ?_⟩, fun c => ?_⟩
      · have c : m ≤ y := c
        rw [show p - y = p - m by omega] at i3
        exact conclude_ok (g := g) (T := (n, p - m, W)) i3 (hE.fr i4) ⟨hV.1, hV.2.1⟩ (Or.inl ⟨rfl, hS⟩) (fun u'' a2 b2 => hp u'' a2 (i4.x.tr b2))
      · have c : ¬ m ≤ y := c
        refine ln_prev (by decide) (by decide) i3 (by omega) (fun u' a b => hK _ ⟨by show 0 ≤ y + 1; omega, by show y + 1 ≤ m; omega, ?_, i4.tr b⟩ (by show (m - (y + 1)).toNat < (m - y).toNat; omega))
        show Txt G u' n (p - (y + 1)) W (gC g)
        rw [show p - (y + 1) = p - y - 1 by omega]
        exact a
    · have hm := h.1
      rw [hS] at hm
      have e := hm.c
      have hf := hfr v hm
      refine ⟨by decide, fun c => absurd c (by decide), fun _ => ?_⟩
      refine Lp.inv (fun s : Int => 1 ≤ s ∧ s ≤ m) (fun s => (m - s).toNat) _ ⟨by omega, by omega⟩ ?_
      rintro K s ⟨i1, i2⟩ hK
      refine ⟨⟨by omega, by omega⟩, ⟨by omega, by omega⟩, fun c => absurd c (by omega), fun c => ?_⟩
      rw [hf s i1 (by omega)]
      refine ⟨by omega, by omega, (t3 (p - s) (by omega) (by omega)).inr, hx.inr, fun d => ⟨by decide, fun c => absurd c (by decide), fun _ => keeps_ok h hV (fun v1 a1 b1 => ?_)⟩, fun d => ?_⟩
      · have hs : s = m := by
          by_cases k : s < m
          · exact absurd d (m4 s i1 k)
          · omega
        subst hs
        have hm1 := a1.1
        rw [hS] at hm1
        rw [hm1.c.1]
        exact goesTo_ok hm1 (by omega) (by omega) (fun v2 a2 b2 => hp _ (mj_i3 a1 a2 b2) (b1.tr (fxm_i3 b2)))
      · refine hK _ ⟨by omega, ?_⟩ ?_
        · by_cases k : s = m
          · rw [k] at d
            exact absurd m3 d
          · omega
        · by_cases k : s = m
          · rw [k] at d
            exact absurd m3 d
          · omega
  · have hF : Fst (fun i => W (p - i)) x p 0 := Or.inl ⟨rfl, fun i a b => hno i a (by omega)⟩
    refine act_no (-2) (by decide) hV (fun u post h hp => ?_) (fun v post h hp => ?_)
    · have hy := h.1
      unfold TxJ at hy
      rw [hS] at hy
      exact stepsTo_B hy hx.inr hF ⟨by decide, fun c => absurd rfl c, fun _ => hp⟩
    · have hm := h.1
      rw [hS] at hm
      have e := hm.c
      have hf := hfr v hm
      refine ⟨by decide, fun c => absurd c (by decide), fun _ => ?_⟩
      refine Lp.inv (fun s : Int => 1 ≤ s ∧ s ≤ p + 1) (fun s => (p + 1 - s).toNat) _ ⟨by omega, by omega⟩ ?_
      rintro K s ⟨i1, i2⟩ hK
      refine ⟨⟨by omega, by omega⟩, ⟨by omega, by omega⟩, fun c => ⟨by decide, fun c => absurd c (by decide), fun _ => hp⟩, fun c => ?_⟩
      rw [hf s i1 (by omega)]
      exact ⟨by omega, by omega, (t3 (p - s) (by omega) (by omega)).inr, hx.inr, fun d => absurd d (hno s i1 (by omega)), fun d => hK _ ⟨by omega, by omega⟩ (by omega)⟩
/-! undo -/
def gpop (g : Sg) (cap : Int) : Sg := (fun i => gS g (i + 1), gK g - 1, 0, gA g, gR g, cap)
theorem vs_pop {g : Sg} {cap : Int} (hV : VS g) (hk : gK g ≠ 0) (h0 : 0 ≤ cap) (h1 : cap ≤ 148) : VS (gpop g cap) := by
  obtain ⟨a, b, c, d, e, -⟩ := hV
  refine ⟨?_, ?_, fun i i0 i1 => ?_, Or.inl rfl, e, h0, h1⟩
  · show 0 ≤ gK g - 1
    omega
  · show gK g - 1 ≤ 50
    omega
  · have i1 : i ≤ gK g - 1 := i1
    exact c (i + 1) (by omega) (by omega)
theorem undo_m {post : Int → St → Prop} {v : St} {g : Sg} (cap : Int) (hV : VS g) (hk : gK g ≠ 0) (h : MJ v g) (hp : ∀ v', MJ v' (gpop g cap) → sI v' 0 = 0 → (∀ k, 5 < k → sI v' k = sI v k) → (∀ k, 5 < k → sA v' k = sA v k) → post (gK g - 1) v') : w_X10_undo post v := by
  obtain ⟨k0, k1, kV, -⟩ := hV
  obtain ⟨h1, h2, h3, h4, h5, h6⟩ := h
  have s1 := h6 0 (by omega) (by omega)
  have tV := kV 1 (by omega) (by omega)
  rw [show gK g - 1 - 0 = gK g - 1 by omega, show (0 : Int) + 1 = 1 by omega] at s1
  rcases hS : gS g 1 with ⟨n, p, W⟩
  rw [hS] at s1 tV
  obtain ⟨a5, a4, a3⟩ := s1
  have a5 : sA v 5 (gK g - 1) = n := a5
  have a4 : sA v 4 (gK g - 1) = p := a4
  have a3 : ∀ j, 0 ≤ j → j < n → sA v 3 (100 * (gK g - 1) + j) = W j := a3
  have t0 : 0 ≤ p := tV.1
  have t1 : p ≤ n := tV.2.1
  have t2 : n ≤ 100 := tV.2.2.1
  refine ⟨⟨by omega, by omega⟩, fun _ => ⟨by omega, by omega, ?_⟩, fun c => absurd c (by omega)⟩
  rw [h5, a5]
  refine Lp.inv (fun t : St × Int => -1 ≤ t.2 ∧ t.2 ≤ n - 1 ∧ sI t.1 0 = 0 ∧ sI t.1 1 = 0 ∧ sI t.1 2 = n - 1 - t.2 ∧ sI t.1 3 = 0 ∧ sI t.1 5 = gK g - 1 ∧ (∀ k, k = 4 ∨ 5 < k → sI t.1 k = sI v k) ∧ (∀ k, k ≠ 1 → sA t.1 k = sA v k) ∧ ∀ j, 0 ≤ j → j < n - 1 - t.2 → sA t.1 1 j = W (n - 1 - j)) (fun t => (t.2 + 1).toNat) _ ⟨by show -1 ≤ n - 1; omega, by show n - 1 ≤ n - 1; omega, rfl, rfl, by show 0 = n - 1 - (n - 1); omega, rfl, rfl, fun k hk => ?_, fun k hk => rfl, fun j a b => absurd b (by show ¬ j < n - 1 - (n - 1); omega)⟩ ?_
  · show sI (pI (pI (pI (pI (pI v 0 0) 5 (gK g - 1)) 1 0) 2 0) 3 0) k = _
    rw [sI_pI, if_neg (by omega), sI_pI, if_neg (by omega), sI_pI, if_neg (by omega), sI_pI, if_neg (by omega), sI_pI, if_neg (by omega)]
  rintro K ⟨w, x⟩ ⟨i1, i2, i3, i4, i5, i6, i7, i8, i9, i10⟩ hK
  have i1 : -1 ≤ x := i1
  have i2 : x ≤ n - 1 := i2
  have i3 : sI w 0 = 0 := i3
  have i4 : sI w 1 = 0 := i4
  have i5 : sI w 2 = n - 1 - x := i5
  have i6 : sI w 3 = 0 := i6
  have i7 : sI w 5 = gK g - 1 := i7
  have i8 : ∀ k, k = 4 ∨ 5 < k → sI w k = sI v k := i8
  have i9 : ∀ k, k ≠ 1 → sA w k = sA v k := i9
  have i10 : ∀ j, 0 ≤ j → j < n - 1 - x → sA w 1 j = W (n - 1 - j) := i10
  refine ⟨⟨by omega, by omega⟩, fun c => ⟨by omega, by omega, ?_⟩, fun c => ⟨?_, ?_, by omega, by omega, ?_⟩⟩
  · have c : x < 0 := c
    rw [i7, i9 4 (by decide), a4]
    have hm : MT w (n, 0, W) := ⟨Int.le_refl 0, by show 0 ≤ n; omega, t2, i4, by show sI w 2 = n - 0; omega, fun j a b => absurd b (by show ¬ j < 0; omega), fun j a b => i10 j a (by have b : j < n - 0 := b; omega)⟩
    refine goesTo_ok hm t0 t1 (fun v' b1 b2 => ?_)
    rw [b2.1 5 (by decide) (by decide), i7]
    refine hp v' ⟨?_, (b2.1 3 (by decide) (by decide)).trans i6, (b2.1 4 (by decide) (by decide)).trans ((i8 4 (by omega)).trans h3), fun i a b => ?_, (b2.1 5 (by decide) (by decide)).trans i7, fun i a b => ?_⟩ ((b2.1 0 (by decide) (by decide)).trans i3) (fun k hk => (b2.1 k (by omega) (by omega)).trans (i8 k (by omega))) (fun k hk => (b2.2 k (by omega) (by omega)).trans (i9 k (by omega)))
    · show MT v' (gS g (0 + 1))
      rw [show (0 : Int) + 1 = 1 by omega, hS]
      exact b1
    · rw [b2.2 2 (by decide) (by decide), i9 2 (by decide)]
      exact h4 i a b
    · have b : i < gK g - 1 := b
      have e := h6 (i + 1) (by omega) (by omega)
      show Snap v' (gK g - 1 - 1 - i) (gS g (i + 1 + 1))
      rw [show gK g - 1 - 1 - i = gK g - 1 - (i + 1) by omega]
      unfold Snap at *
      rw [b2.2 3 (by decide) (by decide), b2.2 4 (by decide) (by decide), b2.2 5 (by decide) (by decide), i9 3 (by decide), i9 4 (by decide), i9 5 (by decide)]
      exact e
  · show 0 ≤ 100 * sI w 5 + x
    have c : ¬ x < 0 := c
    omega
  · show 100 * sI w 5 + x < 5000
    omega
  · have c : ¬ x < 0 := c
    show K (pI (pA w 1 (sI w 2) (sA w 3 (100 * sI w 5 + x))) 2 (sI w 2 + 1), x + -1)
    rw [i7, i9 3 (by decide), a3 x (by omega) (by omega), i5]
    refine hK _ ⟨by show -1 ≤ x + -1; omega, by show x + -1 ≤ n - 1; omega, i3, i4, by show n - 1 - x + 1 = n - 1 - (x + -1); omega, i6, i7, fun k hk => ?_, fun k hk => ?_, fun j a b => ?_⟩ (by show (x + -1 + 1).toNat < (x + 1).toNat; omega)
    · show sI (pI (pA w 1 (n - 1 - x) (W x)) 2 (n - 1 - x + 1)) k = _
      rw [sI_pI, if_neg (by omega), sI_pA]
      exact i8 k hk
    · show sA (pI (pA w 1 (n - 1 - x) (W x)) 2 (n - 1 - x + 1)) k = _
      rw [sA_pI, sA_pA, if_neg hk]
      exact i9 k hk
    · show zset (sA w 1) (n - 1 - x) (W x) j = _
      have b : j < n - 1 - (x + -1) := b
      rw [zset_at]
      by_cases d : j = n - 1 - x
      · rw [if_pos d]
        congr 1
        omega
      · rw [if_neg d]
        exact i10 j a (by omega)
theorem forget_ok {post : Int → St → Prop} {G : Gr} {u : St} {g : Sg} {cap : Int} (hV : VS g) (hk : gK g ≠ 0) (hT : TxJ G u (gS g 1) cap) (hE : EJ u g) (hp : ∀ u', AJ G u' (gpop g cap) → Fx u u' → post (gK g - 1) u') : w_X2_forgetLatest (fun (u7 : St) => post (sI u7 7) (pI u7 5 0)) u := by
  obtain ⟨h1, h2, h3, h4, h5, h6, h7, h8⟩ := hE
  have k0 := hV.1
  have k1 := hV.2.1
  refine ⟨⟨by omega, by omega⟩, by omega, ?_⟩
  show post (sI u 7 - 1) _
  rw [h4]
  refine hp _ ⟨txt_keep (by show Txt G u (gS g (0 + 1)).1 (gS g (0 + 1)).2.1 (gS g (0 + 1)).2.2 cap; rw [show (0 : Int) + 1 = 1 by omega]; exact hT) (fun j a b => ?_) (fun j a b => rfl) (fun _ => rfl) rfl rfl, rfl, h2, h3, rfl, ?_, ?_, h7, fun i a b => ?_⟩ ⟨fun j a => ?_, fun j a => rfl⟩
  · rw [sI_pI, if_neg (by omega), sI_pI, if_neg (by omega), sI_pI, if_neg (by omega)]
  · show 0 ≤ (sI u 6 + 50 - 1) % 50
    omega
  · show (sI u 6 + 50 - 1) % 50 < 50
    omega
  · have b : i < gK g - 1 := b
    have e := h8 (i + 1) (by omega) (by omega)
    show UndR (sA u 1 (((sI u 6 + 50 - 1) % 50 + 50 - i) % 50)) (sA u 2 (((sI u 6 + 50 - 1) % 50 + 50 - i) % 50)) (gS g (i + 1)) (gS g (i + 1 + 1))
    rw [show ((sI u 6 + 50 - 1) % 50 + 50 - i) % 50 = (sI u 6 + 50 - (i + 1)) % 50 by omega]
    exact e
  · rw [sI_pI, if_neg (by omega), sI_pI, if_neg (by omega), sI_pI, if_neg (by omega)]
theorem undo_c {post : Int → St → Prop} {G : Gr} {u : St} {g : Sg} {mc ms : Nat} (hV : VS g) (hk : gK g ≠ 0) (hmc : 200 ≤ mc) (hms : 700 ≤ ms) (h : AJ G u g) (hp : ∀ u' cap, 0 ≤ cap → cap ≤ 148 → AJ G u' (gpop g cap) → Fx u u' → post (gK g - 1) u') : w_X1_takeBack post mc ms G u := by
  obtain ⟨hT, hE⟩ := h
  have k0 := hV.1
  have k1 := hV.2.1
  have c0 := hV.2.2.2.2.2.1
  have c1 := hV.2.2.2.2.2.2
  have v1 := hV.2.2.1 1 (by omega) (by omega)
  have e7 := hE.2.2.2.1
  have e60 := hE.2.2.2.2.1
  have e61 := hE.2.2.2.2.2.1
  have hU := hE.2.2.2.2.2.2.2 0 (by omega) (by omega)
  rw [show (sI u 6 + 50 - 0) % 50 = sI u 6 by omega, show (0 : Int) + 1 = 1 by omega] at hU
  rcases hS : gS g 0 with ⟨n, p, W⟩
  unfold TxJ at hT
  rw [hS] at hT hU
  have hT : Txt G u n p W (gC g) := hT
  have tn := hT.n100
  have fin : ∀ u1 : St, Fr u u1 → ∀ cap, 0 ≤ cap → cap ≤ 148 → TxJ G u1 (gS g 1) cap → w_X2_forgetLatest (fun (u7 : St) => post (sI u7 7) (pI u7 5 0)) u1 := fun u1 f cap a b t => forget_ok hV hk t (hE.fr f) (fun u' a1 b1 => hp u' cap a b a1 (f.x.tr b1))
  refine ⟨⟨by omega, by omega⟩, fun _ => ⟨e60, e61, e60, e61, ?_⟩, fun c => absurd c (by omega)⟩
  generalize sA u 1 (sI u 6) = k at hU
  generalize sA u 2 (sI u 6) = x at hU
  rcases hU with ⟨rfl, e⟩ | ⟨rfl, e⟩ | ⟨rfl, d1, e⟩ | ⟨rfl, d1, e⟩ | ⟨rfl, e⟩ | ⟨rfl, e⟩ | ⟨rfl, d1, d2, e⟩
  · have e : gS g 1 = (n, x, W) := e
    rw [e] at v1
    refine ⟨by decide, fun _ => ?_, fun c => absurd c (by decide), fun c => absurd c (by decide), fun c => absurd c (by decide), fun c => absurd c (by decide), fun c => absurd c (by decide), fun c => absurd (Or.inl rfl) c⟩
    exact ln_go hT v1.1 v1.2.1 (fun u1 a b => fin u1 b (gC g) c0 c1 (by rw [e]; exact a))
  · have e : gS g 1 = (n - 1, p - 1, drpW W (p - 1)) := e
    rw [e] at v1
    have : 0 ≤ p - 1 := v1.1
    refine ⟨by decide, fun c => absurd c (by decide), fun _ => ?_, fun c => absurd c (by decide), fun c => absurd c (by decide), fun c => absurd c (by decide), fun c => absurd c (by decide), fun c => absurd (by decide) c⟩
    exact ln_dropB hT (by omega) (fun u1 a b => fin u1 b (gC g) c0 c1 (by rw [e]; exact a))
  · have d1 : 1 ≤ p := d1
    have e : gS g 1 = (n, p, setW W (p - 1) x) := e
    rw [e] at v1
    have hx : isW x := by
      have := v1.2.2.2 (p - 1) (by omega) (by show p - 1 < n; omega)
      have t : setW W (p - 1) x (p - 1) = x := if_pos rfl
      rw [← t]
      exact this
    refine ⟨by decide, fun c => absurd c (by decide), fun c => absurd c (by decide), fun _ => ⟨1, 1, by omega, by omega, ?_⟩, fun c => absurd c (by decide), fun c => absurd c (by decide), fun c => absurd c (by decide), fun c => absurd (by decide) c⟩
    exact ln_exchB hT (by omega) hx (by omega) (by omega) (fun u1 a b => fin u1 b (gC g) c0 c1 (by rw [e]; exact a))
  · have d1 : p < n := d1
    have e : gS g 1 = (n, p, setW W p x) := e
    rw [e] at v1
    have hx : isW x := by
      have := v1.2.2.2 p (by omega) d1
      have t : setW W p x p = x := if_pos rfl
      rw [← t]
      exact this
    refine ⟨by decide, fun c => absurd c (by decide), fun c => absurd c (by decide), fun c => absurd c (by decide), fun _ => ⟨1, 1, by omega, by omega, ?_⟩, fun c => absurd c (by decide), fun c => absurd c (by decide), fun c => absurd (by decide) c⟩
    exact ln_exchA hT (by omega) hx (by omega) (by omega) (fun u1 a b => fin u1 b (gC g) c0 c1 (by rw [e]; exact a))
  · have e : gS g 1 = (n + 1, p + 1, insW W p x) := e
    rw [e] at v1
    have hn : n + 1 ≤ 100 := v1.2.2.1
    have hb := ncap_b c0 (show n < 100 by omega) c1
    have hx : isW x := by
      have := v1.2.2.2 p (by omega) (by show p < n + 1; omega)
      have t : insW W p x p = x := by unfold insW; rw [if_neg (by omega), if_pos rfl]
      rw [← t]
      exact this
    refine ⟨by decide, fun c => absurd c (by decide), fun c => absurd c (by decide), fun c => absurd c (by decide), fun c => absurd c (by decide), fun _ => ⟨200, 700, by omega, by omega, ?_⟩, fun c => absurd c (by decide), fun c => absurd (by decide) c⟩
    exact ln_insert hT (by omega) hx (by omega) (by omega) (by omega) (fun u1 a b => fin u1 b _ hb.2.2 hb.2.1 (by rw [e]; exact a))
  · have e : gS g 1 = (n + 1, p, insW W p x) := e
    rw [e] at v1
    have hn : n + 1 ≤ 100 := v1.2.2.1
    have hb := ncap_b c0 (show n < 100 by omega) c1
    have hx : isW x := by
      have := v1.2.2.2 p (by omega) (by show p < n + 1; omega)
      have t : insW W p x p = x := by unfold insW; rw [if_neg (by omega), if_pos rfl]
      rw [← t]
      exact this
    refine ⟨by decide, fun c => absurd c (by decide), fun c => absurd c (by decide), fun c => absurd c (by decide), fun c => absurd c (by decide), fun c => absurd c (by decide), fun _ => ⟨200, 700, by omega, by omega, ?_⟩, fun c => absurd (by decide) c⟩
    refine ln_insert hT (by omega) hx (by omega) (by omega) (by omega) (fun u1 a b => ?_)
    refine ln_prev (by decide) (by decide) a (by omega) (fun u2 a2 b2 => fin u2 (b.tr b2) _ hb.2.2 hb.2.1 ?_)
    rw [e]
    rw [show p + 1 - 1 = p by omega] at a2
    exact a2
  · have d1 : 1 ≤ p := d1
    have d2 : p < n := d2
    have e : gS g 1 = (n, p, swpW W p) := e
    refine ⟨by decide, fun c => absurd c (by decide), fun c => absurd c (by decide), fun c => absurd c (by decide), fun c => absurd c (by decide), fun c => absurd c (by decide), fun c => absurd c (by decide), fun _ => ⟨0, 0, by omega, by omega, ?_⟩⟩
    exact ln_cross hT d1 d2 (fun u1 a b => fin u1 b (gC g) c0 c1 (by rw [e]; exact a))
