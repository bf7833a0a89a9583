/-! the class's row of tokens -/
def KB (b k : Int) : Prop := (lett b ∧ k = 1) ∨ (digi b ∧ k = 2) ∨ (blnk b ∧ k = 3) ∨ (sgn b ∧ k = b) ∨ (¬ lett b ∧ ¬ digi b ∧ ¬ blnk b ∧ ¬ sgn b ∧ k = 0)
theorem kob_lo {post : Int → Prop} {b : Int} (hn : ¬ lett b) (hd : ¬ digi b) (hp : ∀ k, KB b k → post k) : (b = 10 ∨ b = 32 → post 3) ∧ (b = 37 ∨ b = 42 ∨ b = 43 ∨ b = 44 ∨ b = 45 ∨ b = 46 ∨ b = 60 ∨ b = 61 ∨ b = 62 ∨ b = 64 ∨ b = 123 ∨ b = 125 → post b) ∧ (¬ (b = 10 ∨ b = 32 ∨ b = 37 ∨ b = 42 ∨ b = 43 ∨ b = 44 ∨ b = 45 ∨ b = 46 ∨ b = 60 ∨ b = 61 ∨ b = 62 ∨ b = 64 ∨ b = 123 ∨ b = 125) → post 0) :=
  ⟨fun c => hp 3 (Or.inr (Or.inr (Or.inl ⟨by omega, rfl⟩))), fun c => hp b (Or.inr (Or.inr (Or.inr (Or.inl ⟨by omega, rfl⟩)))), fun c => hp 0 (Or.inr (Or.inr (Or.inr (Or.inr ⟨hn, hd, by omega, by omega, rfl⟩))))⟩
theorem kob_ok {post : Int → Prop} {b : Int} (hb : InR b) (hp : ∀ k, KB b k → post k) : w_X7_kindOfByte post b :=
  ⟨hb, fun c1 => ⟨fun c2 => kob_lo (by omega) (by omega) hp, fun c2 => ⟨fun c3 => kob_lo (by omega) (by omega) hp, fun c3 => hp 2 (Or.inr (Or.inl ⟨by omega, rfl⟩))⟩⟩, fun c1 => ⟨fun c2 => ⟨fun c3 => kob_lo (by omega) (by omega) hp, fun c3 => ⟨fun c4 => kob_lo (by omega) (by omega) hp, fun c4 => hp 2 (Or.inr (Or.inl ⟨by omega, rfl⟩))⟩⟩, fun c2 => hp 1 (Or.inl ⟨by omega, rfl⟩)⟩⟩
theorem digit_1 {post : Int → Prop} {b : Int} (h : post (b - 97 + 1)) : w_X7_digitOf post 1 b := ⟨by decide, fun c => absurd rfl c, fun _ => h⟩
theorem digit_n {post : Int → Prop} {k b : Int} (hk : InR k) (h1 : ¬ k = 1) (h : post (b - 48)) : w_X7_digitOf post k b := ⟨hk, fun _ => h, fun c => absurd c h1⟩
/-- a token's kind, of the class and of the reference -/
def KM (k tk x v : Int) : Prop := (k = 1 ∧ tk = 3 ∧ x = v) ∨ (k = 2 ∧ tk = 2 ∧ x = v) ∨ (k = 0 ∧ tk = 4) ∨ (sgn k ∧ tk = 1 ∧ v = k)
def TkC (u : St) (B : Int → Int) (L : Int) (A : Int → Int) (t : Int) : Prop := ∃ tk v, RD B L (A t) (sA u 9 t) (A (t + 1)) tk v ∧ KM (sA u 7 t) tk (sA u 8 t) v
theorem tkc_keep {u u' : St} {B : Int → Int} {L t : Int} {A A' : Int → Int} (h : TkC u B L A t) (e7 : sA u' 7 t = sA u 7 t) (e8 : sA u' 8 t = sA u 8 t) (e9 : sA u' 9 t = sA u 9 t) (a0 : A' t = A t) (a1 : A' (t + 1) = A (t + 1)) : TkC u' B L A' t := by
  unfold TkC
  rw [e7, e8, e9, a0, a1]
  exact h
/-- the last token may still go on: its letters (digits) so far -/
def Opn (u : St) (B : Int → Int) (A : Int → Int) (c x kd most : Int) (cls : Int → Prop) (val : (Int → Int) → Int → Nat → Int) : Prop := 0 ≤ A (c - 1) ∧ A (c - 1) ≤ sA u 9 (c - 1) ∧ sA u 9 (c - 1) < x ∧ (∀ j, A (c - 1) ≤ j → j < sA u 9 (c - 1) → blnk (B j)) ∧ (∀ j, sA u 9 (c - 1) ≤ j → j < x → cls (B j)) ∧ (x - sA u 9 (c - 1) ≤ most → sA u 7 (c - 1) = kd ∧ sA u 8 (c - 1) = val B (sA u 9 (c - 1)) (x - sA u 9 (c - 1)).toNat) ∧ (most < x - sA u 9 (c - 1) → sA u 7 (c - 1) = 0)
def SpI (u : St) (B : Int → Int) (L : Int) (kb x : Int) : Prop := 0 ≤ sI u 16 ∧ sI u 16 ≤ x ∧ ∃ A : Int → Int, A 0 = 0 ∧ ((kb ≠ 1 ∧ kb ≠ 2 ∧ (∀ t, 0 ≤ t → t < sI u 16 → TkC u B L A t) ∧ 0 ≤ A (sI u 16) ∧ A (sI u 16) ≤ x ∧ ∀ j, A (sI u 16) ≤ j → j < x → blnk (B j)) ∨ (kb = 1 ∧ 1 ≤ sI u 16 ∧ (∀ t, 0 ≤ t → t < sI u 16 - 1 → TkC u B L A t) ∧ Opn u B A (sI u 16) x 1 6 lett wv) ∨ (kb = 2 ∧ 1 ≤ sI u 16 ∧ (∀ t, 0 ≤ t → t < sI u 16 - 1 → TkC u B L A t) ∧ Opn u B A (sI u 16) x 2 3 digi nv))
/-- all tokens so far are whole, blanks behind them -/
def Whl (u : St) (B : Int → Int) (L x : Int) : Prop := 0 ≤ sI u 16 ∧ sI u 16 ≤ x ∧ ∃ A : Int → Int, A 0 = 0 ∧ (∀ t, 0 ≤ t → t < sI u 16 → TkC u B L A t) ∧ 0 ≤ A (sI u 16) ∧ A (sI u 16) ≤ x ∧ ∀ j, A (sI u 16) ≤ j → j < x → blnk (B j)
theorem sp_close {u : St} {B : Int → Int} {L kb x : Int} (h : SpI u B L kb x) (hx : x ≤ L) (h1 : kb = 1 → x = L ∨ ¬ lett (B x)) (h2 : kb = 2 → x = L ∨ ¬ digi (B x)) : Whl u B L x := by
  obtain ⟨c0, c1, A, a0, h⟩ := h
  refine ⟨c0, c1, ?_⟩
  rcases h with ⟨-, -, b1, b2, b3, b4⟩ | ⟨rfl, d0, b1, b2⟩ | ⟨rfl, d0, b1, b2⟩
  · exact ⟨A, a0, b1, b2, b3, b4⟩
  · refine ⟨zset A (sI u 16) x, by rw [zset_at, if_neg (by omega)]; exact a0, fun t t0 t1 => ?_, by rw [zset_at, if_pos rfl]; omega, by rw [zset_at, if_pos rfl]; omega, fun j q r => absurd r (by rw [zset_at, if_pos rfl] at q; omega)⟩
    by_cases e : t = sI u 16 - 1
    · obtain ⟨o1, o2, o3, o4, o5, o6, o7⟩ := b2
      subst e
      unfold TkC
      rw [zset_at, zset_at, if_neg (by omega), if_pos (by omega)]
      by_cases g : x - sA u 9 (sI u 16 - 1) ≤ 6
      · refine ⟨3, sA u 8 (sI u 16 - 1), ⟨o1, o2, o4, Or.inr ⟨by omega, Or.inl ⟨o5 _ (by omega) o3, o3, hx, o5, h1 rfl, Or.inl ⟨g, rfl, (o6 g).2⟩⟩⟩⟩, Or.inl ⟨(o6 g).1, rfl, rfl⟩⟩
      · refine ⟨4, 0, ⟨o1, o2, o4, Or.inr ⟨by omega, Or.inl ⟨o5 _ (by omega) o3, o3, hx, o5, h1 rfl, Or.inr ⟨by omega, rfl⟩⟩⟩⟩, Or.inr (Or.inr (Or.inl ⟨o7 (by omega), rfl⟩))⟩
    · exact tkc_keep (b1 t t0 (by omega)) rfl rfl rfl (if_neg (by omega)) (if_neg (by omega))
  · refine ⟨zset A (sI u 16) x, by rw [zset_at, if_neg (by omega)]; exact a0, fun t t0 t1 => ?_, by rw [zset_at, if_pos rfl]; omega, by rw [zset_at, if_pos rfl]; omega, fun j q r => absurd r (by rw [zset_at, if_pos rfl] at q; omega)⟩
    by_cases e : t = sI u 16 - 1
    · obtain ⟨o1, o2, o3, o4, o5, o6, o7⟩ := b2
      subst e
      unfold TkC
      rw [zset_at, zset_at, if_neg (by omega), if_pos (by omega)]
      by_cases g : x - sA u 9 (sI u 16 - 1) ≤ 3
      · refine ⟨2, sA u 8 (sI u 16 - 1), ⟨o1, o2, o4, Or.inr ⟨by omega, Or.inr (Or.inl ⟨o5 _ (by omega) o3, o3, hx, o5, h2 rfl, Or.inl ⟨g, rfl, (o6 g).2⟩⟩)⟩⟩, Or.inr (Or.inl ⟨(o6 g).1, rfl, rfl⟩)⟩
      · refine ⟨4, 0, ⟨o1, o2, o4, Or.inr ⟨by omega, Or.inr (Or.inl ⟨o5 _ (by omega) o3, o3, hx, o5, h2 rfl, Or.inr ⟨by omega, rfl⟩⟩)⟩⟩, Or.inr (Or.inr (Or.inl ⟨o7 (by omega), rfl⟩))⟩
    · exact tkc_keep (b1 t t0 (by omega)) rfl rfl rfl (if_neg (by omega)) (if_neg (by omega))
def FrS (u u' : St) : Prop := (∀ k, k ≠ 16 → sI u' k = sI u k) ∧ (∀ k, k < 7 ∨ 9 < k → sA u' k = sA u k) ∧ (∀ k, sR u' k = sR u k) ∧ sL u' = sL u ∧ sF u' = sF u
theorem FrS.tr {u v w : St} (h : FrS u v) (h' : FrS v w) : FrS u w := ⟨fun k q => (h'.1 k q).trans (h.1 k q), fun k q => (h'.2.1 k q).trans (h.2.1 k q), fun k => (h'.2.2.1 k).trans (h.2.2.1 k), h'.2.2.2.1.trans h.2.2.2.1, h'.2.2.2.2.trans h.2.2.2.2⟩
/-- a token begun -/
theorem sp_begin {post : St → Prop} {u : St} {B : Int → Int} {L k x : Int} (h : Whl u B L x) (hx0 : 0 ≤ x) (hx : x < L) (hL : L ≤ 300) (hb : B x = sA u 6 x) (hbr : InR (B x)) (hk : KB (B x) k) (h3 : ¬ k = 3) (hp : ∀ u', SpI u' B L k (x + 1) → FrS u u' → post u') : w_X7_begin post u k x (sA u 6 x) := by
  obtain ⟨c0, c1, A, a0, b1, b2, b3, b4⟩ := h
  have hkr : InR k := by
    rcases hk with ⟨-, q⟩ | ⟨-, q⟩ | ⟨-, q⟩ | ⟨-, q⟩ | ⟨-, -, -, -, q⟩ <;> omega
  have hfr : ∀ z : Int, FrS u (pI (pA (pA (pA u 7 (sI u 16) k) 8 (sI u 16) z) 9 (sI u 16) x) 16 (sI u 16 + 1)) := fun z => ⟨fun j q => by rw [sI_pI, if_neg q, sI_pA, sI_pA, sI_pA], fun j q => by rw [sA_pI, sA_pA, if_neg (by omega), sA_pA, if_neg (by omega), sA_pA, if_neg (by omega)], fun _ => rfl, rfl, rfl⟩
  have s7 : ∀ z j : Int, sA (pI (pA (pA (pA u 7 (sI u 16) k) 8 (sI u 16) z) 9 (sI u 16) x) 16 (sI u 16 + 1)) 7 j = if j = sI u 16 then k else sA u 7 j := fun z j => rfl
  have s8 : ∀ z j : Int, sA (pI (pA (pA (pA u 7 (sI u 16) k) 8 (sI u 16) z) 9 (sI u 16) x) 16 (sI u 16 + 1)) 8 j = if j = sI u 16 then z else sA u 8 j := fun z j => rfl
  have s9 : ∀ z j : Int, sA (pI (pA (pA (pA u 7 (sI u 16) k) 8 (sI u 16) z) 9 (sI u 16) x) 16 (sI u 16 + 1)) 9 j = if j = sI u 16 then x else sA u 9 j := fun z j => rfl
  have s16 : ∀ z : Int, sI (pI (pA (pA (pA u 7 (sI u 16) k) 8 (sI u 16) z) 9 (sI u 16) x) 16 (sI u 16 + 1)) 16 = sI u 16 + 1 := fun z => rfl
  have old : ∀ z : Int, ∀ t, 0 ≤ t → t < sI u 16 → TkC (pI (pA (pA (pA u 7 (sI u 16) k) 8 (sI u 16) z) 9 (sI u 16) x) 16 (sI u 16 + 1)) B L A t := fun z t t0 t1 => tkc_keep (b1 t t0 t1) (by rw [s7, if_neg (by omega)]) (by rw [s8, if_neg (by omega)]) (by rw [s9, if_neg (by omega)]) rfl rfl
  have opn : ∀ (z kd most : Int) (cls : Int → Prop) (val : (Int → Int) → Int → Nat → Int), k = kd → 1 ≤ most → cls (B x) → z = val B x 1 → Opn (pI (pA (pA (pA u 7 (sI u 16) k) 8 (sI u 16) z) 9 (sI u 16) x) 16 (sI u 16 + 1)) B A (sI u 16 + 1) (x + 1) kd most cls val := by
    intro z kd most cls val e1 e2 e3 e4
    unfold Opn
    rw [s9, s8, s7, show sI u 16 + 1 - 1 = sI u 16 by omega, if_pos rfl, if_pos rfl, if_pos rfl]
    refine ⟨b2, b3, by omega, b4, fun j q r => ?_, fun q => ⟨e1, ?_⟩, fun q => absurd q (by omega)⟩
    · rw [show j = x by omega]
      exact e3
    · rw [show x + 1 - x = 1 by omega]
      exact e4
  refine ⟨⟨by omega, by omega⟩, fun c => absurd c (by omega), fun c => ⟨c0, by omega, ?_⟩⟩
  rcases hk with ⟨q, rfl⟩ | ⟨q, rfl⟩ | ⟨q, rfl⟩ | q
  · refine digit_1 (hp _ ⟨by rw [s16]; omega, by rw [s16]; omega, A, a0, Or.inr (Or.inl ⟨rfl, by rw [s16]; omega, fun t t0 t1 => old _ t t0 (by rw [s16] at t1; omega), ?_⟩)⟩ (hfr _))
    rw [s16]
    refine opn _ 1 6 lett wv rfl (by decide) q ?_
    show sA u 6 x - 97 + 1 = 27 * 0 + (B (x + (0 : Nat)) - 96)
    rw [show x + ((0 : Nat) : Int) = x by omega, hb]
    omega
  · refine digit_n hkr (by decide) (hp _ ⟨by rw [s16]; omega, by rw [s16]; omega, A, a0, Or.inr (Or.inr ⟨rfl, by rw [s16]; omega, fun t t0 t1 => old _ t t0 (by rw [s16] at t1; omega), ?_⟩)⟩ (hfr _))
    rw [s16]
    refine opn _ 2 3 digi nv rfl (by decide) q ?_
    show sA u 6 x - 48 = 10 * 0 + (B (x + (0 : Nat)) - 48)
    rw [show x + ((0 : Nat) : Int) = x by omega, hb]
    omega
  · exact absurd rfl h3
  · have hk1 : ¬ k = 1 ∧ ¬ k = 2 := by
      rcases q with ⟨q, r⟩ | ⟨-, -, -, -, r⟩ <;> omega
    refine digit_n hkr hk1.1 (hp _ ⟨by rw [s16]; omega, by rw [s16]; omega, zset A (sI u 16 + 1) (x + 1), by rw [zset_at, if_neg (by omega)]; exact a0, Or.inl ⟨hk1.1, hk1.2, fun t t0 t1 => ?_, ?_, ?_, fun j r0 r1 => ?_⟩⟩ (hfr _))
    · rw [s16] at t1
      by_cases e : t = sI u 16
      · unfold TkC
        rw [s7, s8, s9, if_pos e, if_pos e, if_pos e, zset_at, zset_at, if_neg (by omega), if_pos (by omega), e]
        rcases q with ⟨q, r⟩ | ⟨q1, q2, q3, q4, r⟩
        · exact ⟨1, B x, ⟨b2, b3, b4, Or.inr ⟨hx, Or.inr (Or.inr ⟨by omega, by omega, by omega, rfl, rfl, Or.inl ⟨q, rfl⟩⟩)⟩⟩, Or.inr (Or.inr (Or.inr ⟨by rw [r]; exact q, rfl, r.symm⟩))⟩
        · exact ⟨4, B x, ⟨b2, b3, b4, Or.inr ⟨hx, Or.inr (Or.inr ⟨q1, q2, q3, rfl, rfl, Or.inr ⟨q4, rfl⟩⟩)⟩⟩, Or.inr (Or.inr (Or.inl ⟨r, rfl⟩))⟩
      · exact tkc_keep (old _ t t0 (by omega)) rfl rfl rfl (if_neg (by omega)) (if_neg (by omega))
    · rw [s16, zset_at, if_pos rfl]
      omega
    · rw [s16, zset_at, if_pos rfl]
      omega
    · rw [s16, zset_at, if_pos rfl] at r0
      omega
theorem split_ok {post : St → Prop} {u : St} {L : Int} (hL : sI u 14 = L) (h0 : 0 ≤ L) (h300 : L ≤ 300) (hB : ∀ j, 0 ≤ j → j < L → 1 ≤ sA u 6 j ∧ sA u 6 j ≤ 255) (hp : ∀ u', Whl u' (sA u 6) L L → FrS u u' → post u') : w_X7_split post u := by
  refine Lp.inv (fun t : St × Int × Int => 0 ≤ t.2.2 ∧ t.2.2 ≤ L ∧ InR t.2.1 ∧ SpI t.1 (sA u 6) L t.2.1 t.2.2 ∧ FrS u t.1) (fun t => (L - t.2.2).toNat) _ ⟨Int.le_refl 0, h0, (by show InR (3 : Int); decide), ⟨Int.le_refl 0, Int.le_refl 0, fun _ => 0, rfl, Or.inl ⟨(by show (3 : Int) ≠ 1; decide), (by show (3 : Int) ≠ 2; decide), fun t t0 t1 => absurd t1 (by show ¬ t < 0; omega), Int.le_refl 0, Int.le_refl 0, fun j q r => absurd r (by have q : 0 ≤ j := q; show ¬ j < 0; omega)⟩⟩, fun k q => by rw [sI_pI, if_neg q], fun _ _ => rfl, fun _ => rfl, rfl, rfl⟩ ?_
  rintro K ⟨w, kb, x⟩ ⟨i1, i2, i3, i4, i5⟩ hK
  have i1 : 0 ≤ x := i1
  have i2 : x ≤ L := i2
  have i3 : InR kb := i3
  have i4 : SpI w (sA u 6) L kb x := i4
  have i5 : FrS u w := i5
  have e14 : sI w 14 = L := (i5.1 14 (by decide)).trans hL
  have e6 : sA w 6 = sA u 6 := i5.2.1 6 (by omega)
  refine ⟨⟨by omega, by omega⟩, ⟨by show -2147483648 ≤ sI w 14; omega, by show sI w 14 ≤ 2147483647; omega⟩, fun c => ?_, fun c => ⟨fun d => ?_, fun d => ⟨i1, by show x < 300; have d : ¬ 300 ≤ x := d; omega, ?_⟩⟩⟩
  · have c : sI w 14 ≤ x := c
    have e : x = L := by omega
    subst e
    exact hp w (sp_close i4 i2 (fun _ => Or.inl rfl) (fun _ => Or.inl rfl)) i5
  · have c : ¬ sI w 14 ≤ x := c
    have d : 300 ≤ x := d
    omega
  · have c : ¬ sI w 14 ≤ x := c
    have hb := hB x i1 (by omega)
    have hm : (L - (x + 1)).toNat < (L - x).toNat := by omega
    have hbr : InR (sA u 6 x) := ⟨by omega, by omega⟩
    show w_X7_kindOfByte _ (sA w 6 x)
    rw [e6]
    refine kob_ok hbr (fun k hk => ?_)
    have hkr : InR k := by
      rcases hk with ⟨-, q⟩ | ⟨-, q⟩ | ⟨-, q⟩ | ⟨-, q⟩ | ⟨-, -, -, -, q⟩ <;> omega
    have hgo : ∀ w', SpI w' (sA u 6) L k (x + 1) → FrS w w' → K (w', k, x + 1) := fun w' a b => hK _ ⟨by show 0 ≤ x + 1; omega, by show x + 1 ≤ L; omega, hkr, a, i5.tr b⟩ hm
    have hblank : k = 3 → Whl w (sA u 6) L x → SpI w (sA u 6) L k (x + 1) := by
      intro e ⟨c0, c1, A, a0, b1, b2, b3, b4⟩
      have hbx : blnk (sA u 6 x) := by
        rcases hk with ⟨-, q⟩ | ⟨-, q⟩ | ⟨q, -⟩ | ⟨q, r⟩ | ⟨-, -, -, -, q⟩
        · omega
        · omega
        · exact q
        · omega
        · omega
      refine ⟨c0, by omega, A, a0, Or.inl ⟨by omega, by omega, b1, b2, by omega, fun j q r => ?_⟩⟩
      by_cases f : j = x
      · rw [f]
        exact hbx
      · exact b4 j q (by omega)
    have hrf : FrS w w := ⟨fun _ _ => rfl, fun _ _ => rfl, fun _ => rfl, rfl, rfl⟩
    have hbeg : ¬ k = 3 → Whl w (sA u 6) L x → w_X7_begin (fun (u15 : St) => K (u15, k, x + 1)) w k x (sA w 6 x) := fun q hw => sp_begin hw i1 (by omega) h300 (by rw [e6]) hbr hk q hgo
    have hfr7 : ∀ z : Int, FrS w (pA w 7 (sI w 16 - 1) z) := fun z => ⟨fun _ _ => rfl, fun j q => by rw [sA_pA, if_neg (by omega)], fun _ => rfl, rfl, rfl⟩
    have hfr8 : ∀ z : Int, FrS w (pA w 8 (sI w 16 - 1) z) := fun z => ⟨fun _ _ => rfl, fun j q => by rw [sA_pA, if_neg (by omega)], fun _ => rfl, rfl, rfl⟩
    rw [← e6] at hgo hblank hbeg hk
    have main : (¬ k = kb → ((k = 3 → K (w, k, x + 1)) ∧ (¬ k = 3 → (w_X7_begin (fun (u15 : St) => K (u15, k, x + 1)) w k x (sA w 6 x))))) ∧ (k = kb → ((k = 1 → (w_X7_lengthen (fun (u17 : St) => K (u17, k, x + 1)) w k x (sA w 6 x))) ∧ (¬ k = 1 → ((¬ k = 2 → ((k = 3 → K (w, k, x + 1)) ∧ (¬ k = 3 → (w_X7_begin (fun (u20 : St) => K (u20, k, x + 1)) w k x (sA w 6 x))))) ∧ (k = 2 → (w_X7_lengthen (fun (u21 : St) => K (u21, k, x + 1)) w k x (sA w 6 x))))))) := by
      rw [e6] at hgo hblank hk
      have hkl : lett (sA u 6 x) → k = 1 := by
        intro q
        rcases hk with ⟨-, r⟩ | ⟨q2, r⟩ | ⟨q2, r⟩ | ⟨q2, r⟩ | ⟨q2, -⟩
        · exact r
        · omega
        · omega
        · omega
        · exact absurd q q2
      have hkd : digi (sA u 6 x) → k = 2 := by
        intro q
        rcases hk with ⟨q2, r⟩ | ⟨-, r⟩ | ⟨q2, r⟩ | ⟨q2, r⟩ | ⟨-, q2, -⟩
        · omega
        · exact r
        · omega
        · omega
        · exact absurd q q2
      have hclose : (¬ k = kb ∨ (¬ k = 1 ∧ ¬ k = 2)) → Whl w (sA u 6) L x := fun q => sp_close i4 i2 (fun r => Or.inr (fun f => by have := hkl f; omega)) (fun r => Or.inr (fun f => by have := hkd f; omega))
      refine ⟨fun q => ⟨fun r => hgo w (hblank r (hclose (Or.inl q))) hrf, fun r => hbeg r (by rw [e6]; exact hclose (Or.inl q))⟩, fun q => ⟨fun r => ?_, fun r => ⟨fun r2 => ⟨fun r3 => hgo w (hblank r3 (hclose (Or.inr ⟨r, r2⟩))) hrf, fun r3 => hbeg r3 (by rw [e6]; exact hclose (Or.inr ⟨r, r2⟩))⟩, fun r2 => ?_⟩⟩⟩
      · subst q
        obtain ⟨c0, c1, A, a0, h⟩ := i4
        rcases h with ⟨q1, -⟩ | ⟨-, d0, b1, o1, o2, o3, o4, o5, o6, o7⟩ | ⟨q1, -⟩
        · exact absurd r q1
        · have hl : lett (sA u 6 x) := by
            rcases hk with ⟨q, -⟩ | ⟨-, q⟩ | ⟨-, q⟩ | ⟨q, q2⟩ | ⟨-, -, -, -, q⟩
            · exact q
            · omega
            · omega
            · omega
            · omega
          have hol : ∀ j, sA w 9 (sI w 16 - 1) ≤ j → j < x + 1 → lett (sA u 6 j) := fun j q0 q1 => by
            by_cases f : j = x
            · rw [f]
              exact hl
            · exact o5 j q0 (by omega)
          subst r
          refine ⟨⟨by omega, by omega⟩, fun _ => ⟨hkr, fun f => absurd rfl f, fun _ => ⟨by omega, by omega, ⟨by omega, by omega⟩, fun f => digit_1 (hgo _ ⟨c0, by show sI w 16 ≤ x + 1; omega, A, a0, Or.inr (Or.inl ⟨rfl, d0, fun t t0 t1 => ?_, ?_⟩)⟩ (hfr8 _)), fun f => hgo _ ⟨c0, by show sI w 16 ≤ x + 1; omega, A, a0, Or.inr (Or.inl ⟨rfl, d0, fun t t0 t1 => ?_, ?_⟩)⟩ (hfr7 _)⟩⟩, fun f => absurd d0 (by omega)⟩
          · have t1 : t < sI w 16 - 1 := t1
            refine tkc_keep (b1 t t0 t1) rfl ?_ rfl rfl rfl
            show zset (sA w 8) (sI w 16 - 1) _ t = _
            rw [zset_at, if_neg (by omega)]
          · refine ⟨o1, o2, by show sA w 9 (sI w 16 - 1) < x + 1; omega, o4, hol, fun g => ⟨(o6 (by omega)).1, ?_⟩, fun g => absurd g (by show ¬ 6 < x + 1 - sA w 9 (sI w 16 - 1); omega)⟩
            show zset (sA w 8) (sI w 16 - 1) (sA w 8 (sI w 16 - 1) * 27 + (sA w 6 x - 97 + 1)) (sI w 16 - 1) = wv (sA u 6) (sA w 9 (sI w 16 - 1)) (x + 1 - sA w 9 (sI w 16 - 1)).toNat
            rw [zset_at, if_pos rfl, (o6 (by omega)).2, show (x + 1 - sA w 9 (sI w 16 - 1)).toNat = (x - sA w 9 (sI w 16 - 1)).toNat + 1 by omega, e6]
            show _ = 27 * wv (sA u 6) (sA w 9 (sI w 16 - 1)) (x - sA w 9 (sI w 16 - 1)).toNat + (sA u 6 (sA w 9 (sI w 16 - 1) + ((x - sA w 9 (sI w 16 - 1)).toNat : Int)) - 96)
            rw [show sA w 9 (sI w 16 - 1) + ((x - sA w 9 (sI w 16 - 1)).toNat : Int) = x by omega]
            omega
          · have t1 : t < sI w 16 - 1 := t1
            refine tkc_keep (b1 t t0 t1) ?_ rfl rfl rfl rfl
            show zset (sA w 7) (sI w 16 - 1) _ t = _
            rw [zset_at, if_neg (by omega)]
          · refine ⟨o1, o2, by show sA w 9 (sI w 16 - 1) < x + 1; omega, o4, hol, fun g => absurd g (by show ¬ x + 1 - sA w 9 (sI w 16 - 1) ≤ 6; omega), fun g => ?_⟩
            show zset (sA w 7) (sI w 16 - 1) 0 (sI w 16 - 1) = 0
            rw [zset_at, if_pos rfl]
        · omega
      · subst q
        obtain ⟨c0, c1, A, a0, h⟩ := i4
        rcases h with ⟨-, q1, -⟩ | ⟨q1, -⟩ | ⟨-, d0, b1, o1, o2, o3, o4, o5, o6, o7⟩
        · exact absurd r2 q1
        · omega
        · have hl : digi (sA u 6 x) := by
            rcases hk with ⟨-, q⟩ | ⟨q, -⟩ | ⟨-, q⟩ | ⟨q, q2⟩ | ⟨-, -, -, -, q⟩
            · omega
            · exact q
            · omega
            · omega
            · omega
          have hol : ∀ j, sA w 9 (sI w 16 - 1) ≤ j → j < x + 1 → digi (sA u 6 j) := fun j q0 q1 => by
            by_cases f : j = x
            · rw [f]
              exact hl
            · exact o5 j q0 (by omega)
          subst r2
          refine ⟨⟨by omega, by omega⟩, fun _ => ⟨hkr, fun _ => ⟨by omega, by omega, ⟨by omega, by omega⟩, fun f => digit_n hkr (by decide) (hgo _ ⟨c0, by show sI w 16 ≤ x + 1; omega, A, a0, Or.inr (Or.inr ⟨rfl, d0, fun t t0 t1 => ?_, ?_⟩)⟩ (hfr8 _)), fun f => hgo _ ⟨c0, by show sI w 16 ≤ x + 1; omega, A, a0, Or.inr (Or.inr ⟨rfl, d0, fun t t0 t1 => ?_, ?_⟩)⟩ (hfr7 _)⟩, fun f => absurd f (by decide)⟩, fun f => absurd d0 (by omega)⟩
          · have t1 : t < sI w 16 - 1 := t1
            refine tkc_keep (b1 t t0 t1) rfl ?_ rfl rfl rfl
            show zset (sA w 8) (sI w 16 - 1) _ t = _
            rw [zset_at, if_neg (by omega)]
          · refine ⟨o1, o2, by show sA w 9 (sI w 16 - 1) < x + 1; omega, o4, hol, fun g => ⟨(o6 (by omega)).1, ?_⟩, fun g => absurd g (by show ¬ 3 < x + 1 - sA w 9 (sI w 16 - 1); omega)⟩
            show zset (sA w 8) (sI w 16 - 1) (sA w 8 (sI w 16 - 1) * 10 + (sA w 6 x - 48)) (sI w 16 - 1) = nv (sA u 6) (sA w 9 (sI w 16 - 1)) (x + 1 - sA w 9 (sI w 16 - 1)).toNat
            rw [zset_at, if_pos rfl, (o6 (by omega)).2, show (x + 1 - sA w 9 (sI w 16 - 1)).toNat = (x - sA w 9 (sI w 16 - 1)).toNat + 1 by omega, e6]
            show _ = 10 * nv (sA u 6) (sA w 9 (sI w 16 - 1)) (x - sA w 9 (sI w 16 - 1)).toNat + (sA u 6 (sA w 9 (sI w 16 - 1) + ((x - sA w 9 (sI w 16 - 1)).toNat : Int)) - 48)
            rw [show sA w 9 (sI w 16 - 1) + ((x - sA w 9 (sI w 16 - 1)).toNat : Int) = x by omega]
            omega
          · have t1 : t < sI w 16 - 1 := t1
            refine tkc_keep (b1 t t0 t1) ?_ rfl rfl rfl rfl
            show zset (sA w 7) (sI w 16 - 1) _ t = _
            rw [zset_at, if_neg (by omega)]
          · refine ⟨o1, o2, by show sA w 9 (sI w 16 - 1) < x + 1; omega, o4, hol, fun g => absurd g (by show ¬ x + 1 - sA w 9 (sI w 16 - 1) ≤ 3; omega), fun g => ?_⟩
            show zset (sA w 7) (sI w 16 - 1) 0 (sI w 16 - 1) = 0
            rw [zset_at, if_pos rfl]
    rw [e6] at main
    exact ⟨hkr, i3, main⟩
