/-! fill -/
theorem wv_b {B : Int → Int} {s : Int} : ∀ m : Nat, (∀ j, s ≤ j → j < s + m → lett (B j)) → 0 ≤ wv B s m ∧ wv B s m < (27 : Int) ^ m ∧ (1 ≤ m → 1 ≤ wv B s m) ∧ ∀ n, 0 ≤ wl n (wv B s m)
  | 0, _ => by
    refine ⟨Int.le_refl 0, (by show (0 : Int) < 27 ^ 0; decide), fun c => absurd c (by decide), fun n => ?_⟩
    cases n with
    | zero => exact Int.le_refl 0
    | succ n =>
      show 0 ≤ wl (n + 1) 0
      unfold wl
      rw [if_pos (Int.le_refl 0)]
      exact Int.le_refl 0
  | m + 1, h => by
    obtain ⟨h1, h2, h3, h4⟩ := wv_b (B := B) (s := s) m (fun j a b => h j a (by omega))
    have hd := h (s + m) (by omega) (by omega)
    have hb1 := hd.1
    have hb2 := hd.2
    have e : wv B s (m + 1) = 27 * wv B s m + (B (s + m) - 96) := rfl
    rw [e]
    refine ⟨by omega, ?_, fun _ => by omega, fun n => ?_⟩
    · rw [Int.pow_succ]
      omega
    · cases n with
      | zero => exact Int.le_refl 0
      | succ n =>
        have h5 := h4 n
        unfold wl
        rw [if_neg (by omega), if_neg (by omega), show (27 * wv B s m + (B (s + m) - 96)) / 27 = wv B s m by omega, if_neg (by omega)]
        omega
theorem wv_isW {B : Int → Int} {s : Int} {m : Nat} (h1 : 1 ≤ m) (h6 : m ≤ 6) (h : ∀ j, s ≤ j → j < s + m → lett (B j)) : isW (wv B s m) := by
  obtain ⟨a, b, c, d⟩ := wv_b m h
  have e := pw_mono h6
  have e6 : (27 : Int) ^ 6 = 387420489 := by decide
  exact ⟨c h1, by omega, d 7⟩
/-- a row of tokens, as functions -/
def Row (B : Int → Int) (L c : Int) (A Kd Nm Pl : Int → Int) : Prop := 0 ≤ c ∧ A 0 = 0 ∧ (∀ t, 0 ≤ t → t < c → ∃ tk v, RD B L (A t) (Pl t) (A (t + 1)) tk v ∧ KM (Kd t) tk (Nm t) v) ∧ RD B L (A c) L L 0 0
theorem row_of {u : St} {B : Int → Int} {L : Int} (h : Whl u B L L) : ∃ A, Row B L (sI u 16) A (sA u 7) (sA u 8) (sA u 9) := by
  obtain ⟨c0, c1, A, a0, b1, b2, b3, b4⟩ := h
  exact ⟨A, c0, a0, b1, b2, b3, b4, Or.inl ⟨rfl, rfl, rfl⟩⟩
theorem Row.word {B : Int → Int} {L c t : Int} {A Kd Nm Pl : Int → Int} (h : Row B L c A Kd Nm Pl) (h0 : 0 ≤ t) (h1 : t < c) (hk : Kd t = 1) : isW (Nm t) := by
  obtain ⟨tk, v, ⟨r0, r1, r2, r3⟩, k⟩ := h.2.2.1 t h0 h1
  rw [hk] at k
  rcases k with ⟨-, k1, k2⟩ | ⟨k1, -⟩ | ⟨k1, -⟩ | ⟨k1, -⟩
  · rcases r3 with ⟨-, q, -⟩ | ⟨q0, q | q | q⟩
    · omega
    · obtain ⟨q1, q2, q3, q4, q5, q6⟩ := q
      rcases q6 with ⟨q7, q8, q9⟩ | ⟨q7, q8⟩
      · rw [k2, q9]
        exact wv_isW (by omega) (by omega) (fun j a b => q4 j a (by omega))
      · omega
    · obtain ⟨q1, q2, q3, q4, q5, q6⟩ := q
      rcases q6 with ⟨q7, q8, q9⟩ | ⟨q7, q8⟩ <;> omega
    · obtain ⟨q1, q2, q3, q4, q5, q6⟩ := q
      rcases q6 with ⟨q7, q8⟩ | ⟨q7, q8⟩ <;> omega
  · omega
  · omega
  · omega
theorem Row.place {B : Int → Int} {L c t : Int} {A Kd Nm Pl : Int → Int} (h : Row B L c A Kd Nm Pl) (h0 : 0 ≤ t) (h1 : t < c) : 0 ≤ Pl t ∧ Pl t < L := by
  obtain ⟨tk, v, ⟨r0, r1, r2, r3⟩, k⟩ := h.2.2.1 t h0 h1
  rcases r3 with ⟨-, q, -⟩ | ⟨q0, -⟩
  · rw [q] at k
    rcases k with ⟨-, k1, k2⟩ | ⟨-, k1, -⟩ | ⟨-, k1⟩ | ⟨-, k1, -⟩ <;> omega
  · omega
/-- the reference stands at token i -/
def AtT (w : St) (L c i : Int) (A Kd Nm Pl : Int → Int) : Prop := (i < c → ∃ tk v, KM (Kd i) tk (Nm i) v ∧ sI w 7 = tk ∧ sI w 8 = Pl i ∧ (tk = 1 ∨ tk = 2 ∨ tk = 3 → sI w 9 = v) ∧ sI w 10 = A (i + 1)) ∧ (i = c → sI w 7 = 0 ∧ sI w 8 = L)
theorem next_tok {post : St → Prop} {v : St} {B : Int → Int} {L c i : Int} {A Kd Nm Pl : Int → Int} (hT : TpM v B L) (hR : Row B L c A Kd Nm Pl) (h0 : 0 ≤ i) (h1 : i ≤ c) (ha : sI v 10 = A i) (hp : ∀ v', AtT v' L c i A Kd Nm Pl → FrT v v' → post v') : w_X10_reads post v := by
  by_cases d : i = c
  · subst d
    refine reads_ok hT ha hR.2.2.2 (fun v' b1 b2 b3 b4 b5 => hp v' ⟨fun f => absurd f (by omega), fun _ => ⟨b3, b2⟩⟩ b5)
  · obtain ⟨tk, x, r, k⟩ := hR.2.2.1 i h0 (by omega)
    refine reads_ok hT ha r (fun v' b1 b2 b3 b4 b5 => hp v' ⟨fun f => ⟨tk, x, k, b3, b2, b4, b1⟩, fun f => absurd f d⟩ b5)
def FrF (v w : St) : Prop := (∀ k, (0 < k ∧ k < 7) ∨ 11 < k → sI w k = sI v k) ∧ (∀ k, k ≠ 7 → sA w k = sA v k)
theorem fill_lp {post : Int → St → Prop} {v : St} {B : Int → Int} {L c m : Int} {A Kd Nm Pl : Int → Int} (hT : TpM v B L) (hR : Row B L c A Kd Nm Pl) (hm0 : 0 ≤ m) (hmc : m ≤ c) (hm1 : m ≤ 100) (hk : ∀ i, 0 ≤ i → i < m → Kd i = 1) (hend : m = c ∨ Kd m ≠ 1 ∨ m = 100)
    (hp : ∀ w, AtT w L c m A Kd Nm Pl → FrF v w → sI w 0 = 0 → sI w 11 = -1 → (∀ j, 0 ≤ j → j < m → sA w 7 j = Nm j) → j_X10_fill_55 post w m) : w_X10_fill post v := by
  have hT0 : TpM (pI (pI (pI v 0 0) 10 0) 11 (-1)) B L := hT
  refine next_tok (i := 0) hT0 hR (Int.le_refl 0) hR.1 (by show (0 : Int) = A 0; exact hR.2.1.symm) (fun v1 a1 b1 => ?_)
  refine Lp.inv (fun t : St × Int => 0 ≤ t.2 ∧ t.2 ≤ m ∧ AtT t.1 L c t.2 A Kd Nm Pl ∧ FrF v t.1 ∧ sI t.1 0 = 0 ∧ sI t.1 11 = -1 ∧ (∀ j, 0 ≤ j → j < t.2 → sA t.1 7 j = Nm j)) (fun t => (m - t.2).toNat) _ ⟨Int.le_refl 0, hm0, a1, ⟨fun k q => ?_, fun k q => b1.a k⟩, ?_, ?_, fun j q r => absurd r (by show ¬ j < 0; omega)⟩ ?_
  · show sI v1 k = _
    by_cases d : k < 7
    · rw [b1.1 k (by omega), sI_pI, if_neg (by omega), sI_pI, if_neg (by omega), sI_pI, if_neg (by omega)]
    · rw [b1.1 k (by omega), sI_pI, if_neg (by omega), sI_pI, if_neg (by omega), sI_pI, if_neg (by omega)]
  · exact b1.1 0 (by omega)
  · exact b1.1 11 (by omega)
  rintro K ⟨w, i⟩ ⟨i1, i2, i3, i4, i5, i6, i7⟩ hK
  have i1 : 0 ≤ i := i1
  have i2 : i ≤ m := i2
  have i3 : AtT w L c i A Kd Nm Pl := i3
  have i4 : FrF v w := i4
  have i5 : sI w 0 = 0 := i5
  have i6 : sI w 11 = -1 := i6
  have i7 : ∀ j, 0 ≤ j → j < i → sA w 7 j = Nm j := i7
  have h7 : InR (sI w 7) ∧ (sI w 7 = 3 → i < c ∧ Kd i = 1 ∧ sI w 9 = Nm i ∧ sI w 10 = A (i + 1)) ∧ (i < m → sI w 7 = 3) := by
    by_cases d : i = c
    · obtain ⟨q1, q2⟩ := i3.2 d
      exact ⟨by omega, fun f => by omega, fun f => by omega⟩
    · obtain ⟨tk, x, k, q1, q2, q3, q4⟩ := i3.1 (by omega)
      rcases k with ⟨k1, k2, k3⟩ | ⟨k1, k2, k3⟩ | ⟨k1, k2⟩ | ⟨k1, k2, k3⟩
      · exact ⟨by omega, fun f => ⟨by omega, k1, by rw [q3 (by omega)]; exact k3.symm, q4⟩, fun f => by omega⟩
      · exact ⟨by omega, fun f => by omega, fun f => by have := hk i i1 f; omega⟩
      · exact ⟨by omega, fun f => by omega, fun f => by have := hk i i1 f; omega⟩
      · exact ⟨by omega, fun f => by omega, fun f => by have := hk i i1 f; omega⟩
  refine ⟨h7.1, fun d => ?_, fun d => ⟨⟨by omega, by omega⟩, fun d2 => ?_, fun d2 => ⟨i1, by show i < 100; have d2 : ¬ 100 ≤ i := d2; omega, ?_⟩⟩⟩
  · have d : ¬ sI w 7 = 3 := d
    have e : i = m := by
      by_cases f : i < m
      · exact absurd (h7.2.2 f) d
      · omega
    subst e
    exact hp w i3 i4 i5 i6 i7
  · have d2 : 100 ≤ i := d2
    have e : i = m := by omega
    subst e
    exact hp w i3 i4 i5 i6 i7
  · have d2 : ¬ 100 ≤ i := d2
    obtain ⟨q1, q2, q3, q4⟩ := h7.2.1 d
    have him : i < m := by
      rcases hend with f | f | f
      · omega
      · by_cases g : i = m
        · rw [g] at q2
          exact absurd q2 f
        · omega
      · omega
    have hTw : TpM (pA w 7 i (sI w 9)) B L := ⟨(i4.1 6 (by omega)).trans hT.1, hT.2.1, fun j q r => by
      show sA w 6 j = B j ∧ _
      rw [i4.2 6 (by decide)]
      exact hT.2.2 j q r⟩
    refine next_tok (i := i + 1) hTw hR (by omega) (by omega) q4 (fun v2 a2 b2 => hK _ ⟨by show 0 ≤ i + 1; omega, by show i + 1 ≤ m; omega, a2, ⟨fun k q => ?_, fun k q => ?_⟩, ?_, ?_, fun j q r => ?_⟩ (by show (m - (i + 1)).toNat < (m - i).toNat; omega))
    · show sI v2 k = _
      rw [b2.1 k (by omega)]
      exact i4.1 k q
    · show sA v2 k = _
      rw [b2.a k, sA_pA, if_neg q]
      exact i4.2 k q
    · exact (b2.1 0 (by omega)).trans i5
    · exact (b2.1 11 (by omega)).trans i6
    · have r : j < i + 1 := r
      show sA v2 7 j = _
      rw [b2.a 7]
      show zset (sA w 7) i (sI w 9) j = Nm j
      rw [zset_at]
      by_cases f : j = i
      · rw [if_pos f, q3, f]
      · rw [if_neg f]
        exact i7 j q (by omega)
theorem fill_err {post : Int → St → Prop} {v : St} {B : Int → Int} {L c m : Int} {A Kd Nm Pl : Int → Int} (hT : TpM v B L) (hR : Row B L c A Kd Nm Pl) (hm0 : 0 ≤ m) (hmc : m < c) (hm1 : m ≤ 100) (hk : ∀ i, 0 ≤ i → i < m → Kd i = 1) (hend : Kd m ≠ 1 ∨ m = 100)
    (hp : ∀ v', sI v' 0 = 1 → sI v' 6 = 0 → sI v' 11 = Pl m → (∀ k, (0 < k ∧ k < 6) ∨ 11 < k → sI v' k = sI v k) → (∀ k, k ≠ 7 → sA v' k = sA v k) → post 0 v') : w_X10_fill post v := by
  refine fill_lp hT hR hm0 (by omega) hm1 hk (Or.inr hend) (fun w a1 a2 a3 a4 a5 => ?_)
  have hpl := hR.place hm0 hmc
  obtain ⟨tk, x, k, q1, q2, q3, q4⟩ := a1.1 hmc
  have htk : tk ≠ 0 ∧ InR tk := by
    rcases k with ⟨-, k1, -⟩ | ⟨-, k1, -⟩ | ⟨-, k1⟩ | ⟨-, k1, -⟩ <;> exact ⟨by omega, by omega⟩
  have hL := hT.2.1
  refine ⟨q1 ▸ htk.2, fun d => absurd (q1.symm.trans d) htk.1, fun d => ?_⟩
  refine ⟨?_, fun d2 => fails_ok a3 (Or.inl rfl) (fun f => absurd f (by decide)) (fun _ => ⟨by decide, fun f => absurd f (by decide), fun _ => hp _ rfl ?_ ?_ (fun k q => ?_) (fun k q => ?_)⟩), fun d2 => ?_⟩
  · show InR (sI w 8)
    exact ⟨by omega, by omega⟩
  · rw [sI_pI, if_neg (by decide), sI_pI, if_pos rfl]
  · rw [sI_pI, if_neg (by decide), sI_pI, if_neg (by decide), sI_pI, if_pos rfl]
    exact q2
  · rw [sI_pI, if_neg (by omega), sI_pI, if_neg (by omega), sI_pI, if_neg (by omega)]
    exact a2.1 k (by omega)
  · exact a2.2 k q
  · have d2 : sI w 8 = -1 := d2
    omega
theorem fill_all {post : Int → St → Prop} {v : St} {B : Int → Int} {L c : Int} {A Kd Nm Pl W : Int → Int} {g : Sg} {cap : Int} (hM : MJ v g) (hT : TpM v B L) (hR : Row B L c A Kd Nm Pl) (hc : c ≤ 100) (hk : ∀ i, 0 ≤ i → i < c → Kd i = 1) (hW : ∀ i, 0 ≤ i → i < c → W i = Nm i)
    (hp : ∀ v', MJ v' (fun _ => (c, 0, W), 0, 0, gA g, gR g, cap) → sI v' 0 = 0 → sI v' 6 = 0 → sI v' 11 = -1 → (∀ k, 11 < k → sI v' k = sI v k) → (∀ k, 7 < k → sA v' k = sA v k) → post c v') : w_X10_fill post v := by
  have hc0 := hR.1
  refine fill_lp hT hR hc0 (Int.le_refl c) hc hk (Or.inl rfl) (fun w a1 a2 a3 a4 a5 => ?_)
  obtain ⟨q1, q2⟩ := a1.2 rfl
  refine ⟨⟨by omega, by omega⟩, fun _ => ⟨⟨by omega, by omega⟩, fun d => absurd a4 d, fun _ => ?_⟩, fun d => absurd q1 d⟩
  refine fails_ok (u := pI w 6 0) a3 (Or.inr rfl) (fun _ => ⟨by decide, fun _ => ?_, fun f => absurd rfl f⟩) (fun f => absurd f (by decide))
  have hMw : MJ (pI w 6 0) g := mj_x hM (fun k q r => by rw [sI_pI, if_neg (by omega)]; exact a2.1 k (by omega)) (fun k q => a2.2 k (by omega))
  refine clears_m hMw (fun v1 b1 b2 => ?_)
  obtain ⟨m1, m2, m3, m4, m5, m6⟩ := b1
  have e7 : sA v1 7 = sA w 7 := b2.2 7 (by omega)
  refine Lp.inv (fun t : St × Int => -1 ≤ t.2 ∧ t.2 ≤ c - 1 ∧ sI t.1 1 = 0 ∧ sI t.1 2 = c - 1 - t.2 ∧ (∀ k, k ≠ 2 → sI t.1 k = sI v1 k) ∧ (∀ k, k ≠ 1 → sA t.1 k = sA v1 k) ∧ ∀ j, 0 ≤ j → j < c - 1 - t.2 → sA t.1 1 j = W (c - 1 - j)) (fun t => (t.2 + 1).toNat) _ ⟨by show -1 ≤ c - 1; omega, Int.le_refl _, m1.2.2.2.1, ?_, fun _ _ => rfl, fun _ _ => rfl, fun j q r => absurd r (by show ¬ j < c - 1 - (c - 1); omega)⟩ ?_
  · show sI v1 2 = c - 1 - (c - 1)
    have : sI v1 2 = 0 - 0 := m1.2.2.2.2.1
    omega
  rintro K ⟨w2, x⟩ ⟨j1, j2, j3, j4, j5, j6, j7⟩ hK
  have j1 : -1 ≤ x := j1
  have j2 : x ≤ c - 1 := j2
  have j3 : sI w2 1 = 0 := j3
  have j4 : sI w2 2 = c - 1 - x := j4
  have j5 : ∀ k, k ≠ 2 → sI w2 k = sI v1 k := j5
  have j6 : ∀ k, k ≠ 1 → sA w2 k = sA v1 k := j6
  have j7 : ∀ j, 0 ≤ j → j < c - 1 - x → sA w2 1 j = W (c - 1 - j) := j7
  refine ⟨⟨by omega, by omega⟩, fun d => ?_, fun d => ?_⟩
  · have d : x < 0 := d
    refine hp w2 ⟨⟨Int.le_refl 0, hc0, hc, j3, by show sI w2 2 = c - 0; omega, fun j q r => absurd r (by show ¬ j < 0; omega), fun j q r => j7 j q (by have r : j < c - 0 := r; omega)⟩, (j5 3 (by decide)).trans m2, (j5 4 (by decide)).trans m3, fun i q r => by rw [j6 2 (by decide)]; exact m4 i q r, (j5 5 (by decide)).trans m5, fun i q r => absurd r (by show ¬ i < 0; omega)⟩ ?_ ?_ ?_ (fun k q => ?_) (fun k q => ?_)
    · rw [j5 0 (by decide), b2.1 0 (by omega)]
      exact a3
    · rw [j5 6 (by decide), b2.1 6 (by omega)]
      rfl
    · rw [j5 11 (by decide), b2.1 11 (by omega)]
      exact a4
    · rw [j5 k (by omega), b2.1 k (by omega), sI_pI, if_neg (by omega)]
      exact a2.1 k (by omega)
    · rw [j6 k (by omega), b2.2 k (by omega)]
      exact a2.2 k (by omega)
  · have d : ¬ x < 0 := d
    show 0 ≤ x ∧ x < 100 ∧ 0 ≤ sI w2 2 ∧ sI w2 2 < 101 ∧ K (pI (pA w2 1 (sI w2 2) (sA w2 7 x)) 2 (sI w2 2 + 1), x + -1)
    rw [j6 7 (by decide), e7, a5 x (by omega) (by omega), ← hW x (by omega) (by omega), j4]
    refine ⟨by omega, by omega, by omega, by omega, hK _ ⟨by show -1 ≤ x + -1; omega, by show x + -1 ≤ c - 1; omega, j3, by show c - 1 - x + 1 = c - 1 - (x + -1); omega, fun k q => ?_, fun k q => ?_, fun j q r => ?_⟩ (by show (x + -1 + 1).toNat < (x + 1).toNat; omega)⟩
    · show sI (pI (pA w2 1 (c - 1 - x) (W x)) 2 (c - 1 - x + 1)) k = _
      rw [sI_pI, if_neg q, sI_pA]
      exact j5 k q
    · show sA (pI (pA w2 1 (c - 1 - x) (W x)) 2 (c - 1 - x + 1)) k = _
      rw [sA_pI, sA_pA, if_neg q]
      exact j6 k q
    · show zset (sA w2 1) (c - 1 - x) (W x) j = _
      have r : j < c - 1 - (x + -1) := r
      rw [zset_at]
      by_cases f : j = c - 1 - x
      · rw [if_pos f]
        congr 1
        omega
      · rw [if_neg f]
        exact j7 j q (by omega)
def Mis (u : St) (r : Int) : Prop := (∃ t, 0 ≤ t ∧ t < sI u 16 ∧ t ≤ 100 ∧ (∀ i, 0 ≤ i → i < t → sA u 7 i = 1) ∧ (sA u 7 t ≠ 1 ∨ t = 100) ∧ r = sA u 9 t) ∨ ((∀ i, 0 ≤ i → i < sI u 16 → sA u 7 i = 1) ∧ sI u 16 ≤ 100 ∧ r = -1)
theorem mis_ex (u : St) (h : 0 ≤ sI u 16) : ∃ r, Mis u r := by
  rcases first_or (fun i => sA u 7 (i - 1) ≠ 1 ∨ i - 1 = 100) (sI u 16).toNat with ⟨m, a, b, c, d⟩ | hno
  · have hk : ∀ i, 0 ≤ i → i < m - 1 → sA u 7 i = 1 ∧ i ≠ 100 := fun i q r => by
      have e := d (i + 1) (by omega) (by omega)
      rw [show i + 1 - 1 = i by omega] at e
      exact ⟨Decidable.byContradiction (fun f => e (Or.inl f)), fun f => e (Or.inr f)⟩
    refine ⟨_, Or.inl ⟨m - 1, by omega, by omega, ?_, fun i q r => (hk i q r).1, c, rfl⟩⟩
    by_cases f : m - 1 ≤ 100
    · exact f
    · exact absurd rfl (hk 100 (by omega) (by omega)).2
  · have hk : ∀ i, 0 ≤ i → i < sI u 16 → sA u 7 i = 1 ∧ i ≠ 100 := fun i q r => by
      have e := hno (i + 1) (by omega) (by omega)
      rw [show i + 1 - 1 = i by omega] at e
      exact ⟨Decidable.byContradiction (fun f => e (Or.inl f)), fun f => e (Or.inr f)⟩
    refine ⟨-1, Or.inr ⟨fun i q r => (hk i q r).1, ?_, rfl⟩⟩
    by_cases f : sI u 16 ≤ 100
    · exact f
    · exact absurd rfl (hk 100 (by omega) (by omega)).2
theorem misfit_ok {post : Int → Prop} {u : St} {r : Int} (h0 : 0 ≤ sI u 16) (h3 : sI u 16 ≤ 300) (hk : ∀ t, 0 ≤ t → t < sI u 16 → InR (sA u 7 t)) (h : Mis u r) (hp : post r) : w_X7_misfitOfWords post u := by
  refine Lp.inv (fun i : Int => 0 ≤ i ∧ i ≤ sI u 16 ∧ (∀ t, 0 ≤ t → t < sI u 16 → t ≤ 100 → (∀ j, 0 ≤ j → j < t → sA u 7 j = 1) → (sA u 7 t ≠ 1 ∨ t = 100) → r = sA u 9 t → i ≤ t)) (fun i => (sI u 16 - i).toNat) _ ⟨Int.le_refl 0, h0, fun t a _ _ _ _ _ => a⟩ ?_
  rintro K i ⟨i1, i2, i3⟩ hK
  refine ⟨⟨by omega, by omega⟩, ⟨by omega, by omega⟩, fun c => ?_, fun c => ⟨i1, by omega, hk i i1 (by omega), fun d => ?_, fun d => ⟨fun e => hK _ ⟨by omega, by omega, fun t a b b2 f g k => ?_⟩ (by omega), fun e => ?_⟩⟩⟩
  · rcases h with ⟨t, a, b, b2, f, g, k⟩ | ⟨a, b, f⟩
    · have := i3 t a b b2 f g k
      omega
    · rw [f] at hp
      exact hp
  · rcases h with ⟨t, a, b, b2, f, g, k⟩ | ⟨a, b, f⟩
    · have e := i3 t a b b2 f g k
      by_cases q : i = t
      · rw [q, ← k]
        exact hp
      · exact absurd (f i i1 (by omega)) d
    · exact absurd (a i i1 (by omega)) d
  · have q := i3 t a b b2 f g k
    by_cases q2 : i = t
    · rw [← q2] at g
      rcases g with g | g
      · exact absurd d g
      · omega
    · omega
  · rcases h with ⟨t, a, b, b2, f, g, k⟩ | ⟨a, b, f⟩
    · have q := i3 t a b b2 f g k
      have q2 : i = t := by omega
      rw [q2, ← k]
      exact hp
    · omega
theorem aj_s {G : Gr} {u u' : St} {g : Sg} (h : AJ G u g) (hF : FrS u u') : AJ G u' g := by
  obtain ⟨f1, f2, f3, f4, f5⟩ := hF
  refine ⟨txt_keep h.1 (fun k a b => f1 k (by omega)) (fun k a b => f2 k (by omega)) f3 f4 f5, ?_⟩
  obtain ⟨h1, h2, h3, h4, h5, h6, h7, h8⟩ := h.2
  unfold EJ
  rw [f1 5 (by decide), f1 4 (by decide), f1 7 (by decide), f1 6 (by decide), f1 8 (by decide), f2 0 (by decide), f2 1 (by decide), f2 2 (by decide)]
  exact ⟨h1, h2, h3, h4, h5, h6, h7, h8⟩
theorem aj_i {G : Gr} {u : St} {g : Sg} {k : Nat} {z : Int} (h : AJ G u g) (hk : k < 4 ∨ 13 < k) : AJ G (pI u k z) g := by
  refine ⟨txt_keep h.1 (fun j a b => by rw [sI_pI, if_neg (by omega)]) (fun _ _ _ => rfl) (fun _ => rfl) rfl rfl, ?_⟩
  obtain ⟨h1, h2, h3, h4, h5, h6, h7, h8⟩ := h.2
  unfold EJ
  rw [sI_pI, if_neg (by omega), sI_pI, if_neg (by omega), sI_pI, if_neg (by omega), sI_pI, if_neg (by omega), sI_pI, if_neg (by omega)]
  exact ⟨h1, h2, h3, h4, h5, h6, h7, h8⟩
theorem km_inr {k tk x v : Int} (h : KM k tk x v) : InR k := by
  rcases h with ⟨k1, -⟩ | ⟨k1, -⟩ | ⟨k1, -⟩ | ⟨k1, -⟩ <;> exact ⟨by omega, by omega⟩
theorem st_12 (G : Gr) : St_12 G (Inv G) := by
  intro k c sl u v hk hI
  have hm := inv_m hI hk
  obtain ⟨g, hV, hA, hu, hv, hO⟩ := hI.2.2
  obtain ⟨o1, o2, o3, o4, o5, o6, o7, o8, o9, o10⟩ := hO
  refine ⟨500, 1000, hm.1, hm.2, ?_⟩
  have hT : TpM v (sA u 6) (sI u 14) := ⟨o1, o3, fun j a b => o4 j a b⟩
  refine split_ok rfl o2 o3 (fun j a b => (o4 j a b).2) (fun u1 hW hF => ?_)
  have c0 := hW.1
  have c1 := hW.2.1
  obtain ⟨A, hR⟩ := row_of hW
  obtain ⟨r, hr⟩ := mis_ex u1 c0
  have hkr : ∀ t, 0 ≤ t → t < sI u1 16 → InR (sA u1 7 t) := fun t a b => by
    obtain ⟨tk, x, -, q⟩ := hR.2.2.1 t a b
    exact km_inr q
  have hu1 := aj_s hu hF
  refine misfit_ok c0 (by omega) hkr hr ?_
  rcases hr with ⟨t, a, b, b2, f, g2, e⟩ | ⟨a, b, e⟩
  · have hpl := hR.place a b
    refine ⟨⟨by omega, by omega⟩, fun d => absurd d (by omega), fun _ => ⟨by decide, by decide, ?_⟩⟩
    refine fill_err hT hR a b b2 f g2 (fun v' e0 e6 e11 eI eA => ⟨e0, inv_c hI ⟨g, hV, by omega, aj_i (aj_i hu1 (by omega)) (by omega), mj_x hv (fun j q r => eI j (by omega)) (fun j q => eA j (by omega)), ?_⟩⟩)
    unfold Ot
    rw [sI_pI, if_pos rfl, sI_pI, if_neg (by decide), sI_pI, if_pos rfl, sI_pI, if_neg (by decide), sI_pI, if_neg (by decide), sI_pI, if_neg (by decide), sI_pI, if_neg (by decide), sA_pI, sA_pI, sA_pI, sA_pI, hF.1 2 (by decide), hF.1 3 (by decide), hF.2.1 12 (by omega), e11, eI 12 (by omega), eI 14 (by omega), eA 14 (by decide), e]
    exact ⟨e6, by decide, by decide, fun j q r => absurd r (by omega), rfl, o6, o7, o8, o9, o10⟩
  · subst e
    refine ⟨by decide, fun _ => ?_, fun d => absurd rfl d⟩
    refine anew_c (aj_i (aj_i hu1 (Or.inl (by decide))) (Or.inr (by decide))) (fun u2 hA2 hF2 => ?_)
    have e16 : sI u2 16 = sI u1 16 := hF2.1 16 (by omega)
    have e8 : sA u2 8 = sA u1 8 := hF2.2 8 (by omega)
    have hE2 := hA2.2
    refine Lp.inv (fun t : St × Int × Nat × Nat => 0 ≤ t.2.1 ∧ t.2.1 ≤ sI u1 16 ∧ Fr u2 t.1 ∧ ∃ W cap, Txt G t.1 t.2.1 t.2.1 W cap ∧ gC g ≤ cap ∧ cap ≤ 148 ∧ (∀ j, 0 ≤ j → j < t.2.1 → W j = sA u1 8 j) ∧ (t.2.2.1 : Int) ≤ t.2.1 + (cap - gC g) ∧ (t.2.2.2 : Int) ≤ t.2.1 + 4 * (cap - gC g)) (fun t => (sI u1 16 - t.2.1).toNat) _ ⟨Int.le_refl 0, c0, Fr.rf, (fun _ => 0), gC g, hA2.1, Int.le_refl _, hV.2.2.2.2.2.2, fun j q r => absurd r (by show ¬ j < 0; omega), by show ((0 : Nat) : Int) ≤ 0 + (gC g - gC g); omega, by show ((0 : Nat) : Int) ≤ 0 + 4 * (gC g - gC g); omega⟩ ?_
    rintro K ⟨w, i, kc, ks⟩ ⟨i1, i2, i3, W, cap, i4, i5, i6, i7, i8, i9⟩ hK
    have i1 : 0 ≤ i := i1
    have i2 : i ≤ sI u1 16 := i2
    have i3 : Fr u2 w := i3
    have i4 : Txt G w i i W cap := i4
    have i7 : ∀ j, 0 ≤ j → j < i → W j = sA u1 8 j := i7
    have i8 : (kc : Int) ≤ i + (cap - gC g) := i8
    have i9 : (ks : Int) ≤ i + 4 * (cap - gC g) := i9
    have g0 := hV.2.2.2.2.2.1
    have w16 : sI w 16 = sI u1 16 := (i3.1 16 (by omega)).trans e16
    refine ⟨⟨by omega, by omega⟩, ⟨by show -2147483648 ≤ sI w 16; omega, by show sI w 16 ≤ 2147483647; omega⟩, fun d => ⟨by show kc ≤ 500; omega, by show ks ≤ 1000; omega, ?_⟩, fun d => ⟨by show kc ≤ 500; omega, by show ks ≤ 1000; omega, ?_⟩⟩
    · have d : sI w 16 ≤ i := d
      have e : i = sI u1 16 := by omega
      subst e
      refine ln_go i4 (Int.le_refl 0) c0 (fun u3 a3 b3 => ln_length a3 ?_)
      refine fill_all (cap := cap) hv hT hR b a i7 (fun v' hM e0 e6 e11 eI eA => ⟨e0, rfl, inv_c hI ⟨(fun _ => (sI u1 16, 0, W), 0, 0, gA g, gR g, cap), ⟨Int.le_refl 0, (by show (0 : Int) ≤ 50; decide), fun _ _ _ => ⟨Int.le_refl 0, c0, b, a3.2.2.2⟩, Or.inl rfl, hV.2.2.2.2.1, ?_, i6⟩, ?_, ⟨a3, ?_⟩, hM, ?_⟩⟩)
      · show 0 ≤ cap
        omega
      · show gA g ≤ _
        omega
      · obtain ⟨h1, h2, h3, h4, h5, h6, h7, h8⟩ := hE2.fr (i3.tr b3)
        exact ⟨h1, h2, h3, h4, h5, h6, h7, fun j q r => absurd r (by show ¬ j < 0; omega)⟩
      · have hx : Fx (pI (pI u1 1 (-1)) 14 0) u3 := hF2.tr (i3.tr b3).x
        unfold Ot
        rw [hx.1 14 (by omega), hx.1 1 (by omega), hx.1 2 (by omega), hx.1 3 (by omega), hx.2 6 (by omega), hx.2 12 (by omega), sI_pI, if_pos rfl, sI_pI, if_neg (by decide), sI_pI, if_pos rfl, sI_pI, if_neg (by decide), sI_pI, if_neg (by decide), sI_pI, if_neg (by decide), sI_pI, if_neg (by decide), sA_pI, sA_pI, sA_pI, sA_pI, hF.1 2 (by decide), hF.1 3 (by decide), hF.2.1 12 (by omega), e11, eI 12 (by omega), eI 14 (by omega), eA 14 (by omega)]
        exact ⟨e6, by decide, by decide, fun j q r => absurd r (by omega), rfl, o6, o7, o8, o9, o10⟩
    · have d : ¬ sI w 16 ≤ i := d
      refine ⟨⟨by omega, by omega⟩, fun f => absurd i1 (by have f : i < 0 := f; omega), fun _ => ⟨⟨by show -2147483648 ≤ sI w 16; omega, by show sI w 16 ≤ 2147483647; omega⟩, fun f => absurd f d, fun _ => ⟨i1, by show i < 300; omega, ?_⟩⟩⟩
      have hx : isW (sA w 8 i) := by
        rw [i3.2 8 (by decide) (by decide) (by decide), e8]
        exact hR.word i1 (by omega) (a i i1 (by omega))
      have hb := ncap_b (cap := cap) (n := i) (by omega) (by omega) i6
      refine ⟨(1 + (ncap cap i - cap)).toNat, (1 + 4 * (ncap cap i - cap)).toNat, by show kc + _ ≤ 500; omega, by show ks + _ ≤ 1000; omega, ?_⟩
      refine ln_insert i4 (by omega) hx (by omega) (by omega) (by omega) (fun u3 a3 b3 => hK _ ⟨by show 0 ≤ i + 1; omega, by show i + 1 ≤ sI u1 16; omega, i3.tr b3, _, _, a3, by omega, hb.2.1, fun j q r => ?_, ?_, ?_⟩ (by show (sI u1 16 - (i + 1)).toNat < (sI u1 16 - i).toNat; omega))
      · have r : j < i + 1 := r
        unfold insW
        by_cases f : j < i
        · rw [if_pos f]
          exact i7 j q f
        · rw [if_neg f, if_pos (by omega), i3.2 8 (by decide) (by decide) (by decide), e8, show j = i by omega]
      · show ((kc + (1 + (ncap cap i - cap)).toNat : Nat) : Int) ≤ i + 1 + (ncap cap i - gC g)
        omega
      · show ((ks + (1 + 4 * (ncap cap i - cap)).toNat : Nat) : Int) ≤ i + 1 + 4 * (ncap cap i - gC g)
        omega
