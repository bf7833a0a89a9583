/-! tokens: what the reference reads at a place, and what the class's row of tokens says of it -/
abbrev lett (b : Int) : Prop := 97 ≤ b ∧ b ≤ 122
abbrev digi (b : Int) : Prop := 48 ≤ b ∧ b ≤ 57
abbrev blnk (b : Int) : Prop := b = 32 ∨ b = 10
abbrev sgn (b : Int) : Prop := b = 46 ∨ b = 44 ∨ b = 45 ∨ b = 37 ∨ b = 43 ∨ b = 61 ∨ b = 62 ∨ b = 60 ∨ b = 64 ∨ b = 42 ∨ b = 123 ∨ b = 125
def wv (B : Int → Int) (s : Int) : Nat → Int
  | 0 => 0
  | m + 1 => 27 * wv B s m + (B (s + m) - 96)
def nv (B : Int → Int) (s : Int) : Nat → Int
  | 0 => 0
  | m + 1 => 10 * nv B s m + (B (s + m) - 48)
def Tok (B : Int → Int) (L s e t v : Int) : Prop := s < L ∧ ((lett (B s) ∧ s < e ∧ e ≤ L ∧ (∀ j, s ≤ j → j < e → lett (B j)) ∧ (e = L ∨ ¬ lett (B e)) ∧ ((e - s ≤ 6 ∧ t = 3 ∧ v = wv B s (e - s).toNat) ∨ (6 < e - s ∧ t = 4))) ∨ (digi (B s) ∧ s < e ∧ e ≤ L ∧ (∀ j, s ≤ j → j < e → digi (B j)) ∧ (e = L ∨ ¬ digi (B e)) ∧ ((e - s ≤ 3 ∧ t = 2 ∧ v = nv B s (e - s).toNat) ∨ (3 < e - s ∧ t = 4))) ∨ (¬ lett (B s) ∧ ¬ digi (B s) ∧ ¬ blnk (B s) ∧ e = s + 1 ∧ v = B s ∧ ((sgn (B s) ∧ t = 1) ∨ (¬ sgn (B s) ∧ t = 4))))
def RD (B : Int → Int) (L a s e t v : Int) : Prop := 0 ≤ a ∧ a ≤ s ∧ (∀ j, a ≤ j → j < s → blnk (B j)) ∧ ((s = L ∧ t = 0 ∧ e = L) ∨ Tok B L s e t v)
theorem isLetter_ok {post : Int → Prop} {b : Int} (hb : InR b) (h1 : lett b → post 1) (h0 : ¬ lett b → post 0) : w_X10_isLetter post b := in_ok hb (by decide) (by decide) (fun c => ⟨Or.inl rfl, h0 c⟩) (fun c d => ⟨Or.inr rfl, h1 ⟨c, d⟩⟩)
theorem isDigit_ok {post : Int → Prop} {b : Int} (hb : InR b) (h1 : digi b → post 1) (h0 : ¬ digi b → post 0) : w_X10_isDigit post b := in_ok hb (by decide) (by decide) (fun c => ⟨Or.inl rfl, h0 c⟩) (fun c d => ⟨Or.inr rfl, h1 ⟨c, d⟩⟩)
theorem isBlank_ok {post : Int → Prop} {b : Int} (hb : InR b) (h1 : blnk b → post 1) (h0 : ¬ blnk b → post 0) : w_X10_isBlank post b := ⟨hb, fun c => h1 (Or.inl c), fun c => ⟨fun d => h0 (by omega), fun d => h1 (Or.inr d)⟩⟩
theorem isSign_ok {post : Int → Prop} {b : Int} (hb : InR b) (h1 : sgn b → post 1) (h0 : ¬ sgn b → post 0) : w_X10_isSign post b :=
  ⟨hb, fun c => h1 (by omega), fun c1 => ⟨fun c => h1 (by omega), fun c2 => ⟨fun c => h1 (by omega), fun c3 => ⟨fun c => h1 (by omega), fun c4 => ⟨fun c => h1 (by omega), fun c5 => ⟨fun c => h1 (by omega), fun c6 => ⟨fun c => h1 (by omega), fun c7 => ⟨fun c => h1 (by omega), fun c8 => ⟨fun c => h1 (by omega), fun c9 => ⟨fun c => h1 (by omega), fun c10 => ⟨fun c => h1 (by omega), fun c11 => ⟨fun c => h0 (by omega), fun c => h1 (by omega)⟩⟩⟩⟩⟩⟩⟩⟩⟩⟩⟩⟩
def FrT (v v' : St) : Prop := (∀ k, k < 7 ∨ 10 < k → sI v' k = sI v k) ∧ v'.2 = v.2
theorem FrT.a {v v' : St} (h : FrT v v') (k : Nat) : sA v' k = sA v k := by
  show v'.2.1 k = v.2.1 k
  rw [h.2]
theorem FrT.tr {u v w : St} (h : FrT u v) (h' : FrT v w) : FrT u w := ⟨fun k a => (h'.1 k a).trans (h.1 k a), h'.2.trans h.2⟩
theorem FrT.i {u : St} {k : Nat} {z : Int} (h : 7 ≤ k ∧ k ≤ 10) : FrT u (pI u k z) := ⟨fun j a => by rw [sI_pI, if_neg (by omega)], rfl⟩
/-- the tape of the reference -/
def TpM (v : St) (B : Int → Int) (L : Int) : Prop := sI v 6 = L ∧ L ≤ 300 ∧ ∀ j, 0 ≤ j → j < L → sA v 6 j = B j ∧ 1 ≤ B j ∧ B j ≤ 255
theorem TpM.fr {v v' : St} {B : Int → Int} {L : Int} (h : TpM v B L) (hF : FrT v v') : TpM v' B L := ⟨(hF.1 6 (by omega)).trans h.1, h.2.1, fun j a b => by rw [hF.a]; exact h.2.2 j a b⟩
theorem readsWord_ok {post : St → Prop} {v : St} {B : Int → Int} {L s e : Int} (hT : TpM v B L) (h0 : 0 ≤ s) (hs : sI v 10 = s) (h1 : s < e) (h2 : e ≤ L) (hl : ∀ j, s ≤ j → j < e → lett (B j)) (he : e = L ∨ ¬ lett (B e)) (hp : ∀ v', sI v' 10 = e → sI v' 8 = sI v 8 → sI v' 7 = (if 6 < e - s then 4 else 3) → sI v' 9 = wv B s (min (e - s) 6).toNat → FrT v v' → post v') : w_X10_readsWord post v := by
  have hL := hT.2.1
  refine Lp.inv (fun t : St × Int => 0 ≤ t.2 ∧ s + t.2 ≤ e ∧ sI t.1 10 = s + t.2 ∧ sI t.1 8 = sI v 8 ∧ sI t.1 9 = wv B s (min t.2 6).toNat ∧ FrT v t.1) (fun t => (e - s - t.2).toNat) _ ⟨Int.le_refl 0, by show s + 0 ≤ e; omega, by show sI v 10 = s + 0; omega, rfl, ?_, FrT.i (by decide)⟩ ?_
  · show sI (pI v 9 0) 9 = wv B s (min (0 : Int) 6).toNat
    rfl
  rintro K ⟨w, n⟩ ⟨i1, i2, i3, i4, i5, i6⟩ hK
  have i1 : 0 ≤ n := i1
  have i2 : s + n ≤ e := i2
  have i3 : sI w 10 = s + n := i3
  have i4 : sI w 8 = sI v 8 := i4
  have i5 : sI w 9 = wv B s (min n 6).toNat := i5
  have i6 : FrT v w := i6
  have hw := hT.fr i6
  have e6 : sI w 6 = L := hw.1
  have fin : s + n = e → (6 < n → post (pI w 7 4)) ∧ (¬ 6 < n → post (pI w 7 3)) := fun q => ⟨fun c => hp _ (by rw [sI_pI, if_neg (by decide)]; omega) i4 (by rw [if_pos (by omega)]; rfl) (by rw [sI_pI, if_neg (by decide), show e - s = n by omega]; exact i5) (i6.tr (FrT.i (by decide))), fun c => hp _ (by rw [sI_pI, if_neg (by decide)]; omega) i4 (by rw [if_neg (by omega)]; rfl) (by rw [sI_pI, if_neg (by decide), show e - s = n by omega]; exact i5) (i6.tr (FrT.i (by decide)))⟩
  refine ⟨⟨by show -2147483648 ≤ sI w 10; omega, by show sI w 10 ≤ 2147483647; omega⟩, ⟨by show -2147483648 ≤ sI w 6; omega, by show sI w 6 ≤ 2147483647; omega⟩, fun c => ⟨⟨by omega, by omega⟩, (fin (by have c : sI w 6 ≤ sI w 10 := c; omega)).1, (fin (by have c : sI w 6 ≤ sI w 10 := c; omega)).2⟩, fun c => ?_⟩
  have c : ¬ sI w 6 ≤ sI w 10 := c
  have hb := hw.2.2 (sI w 10) (by omega) (by omega)
  show 0 ≤ sI w 10 ∧ sI w 10 < 300 ∧ _
  refine ⟨by omega, by omega, ?_⟩
  rw [hb.1]
  refine isLetter_ok ⟨by omega, by omega⟩ (fun d => ⟨by decide, fun f => absurd f (by decide), fun _ => ?_⟩) (fun d => ⟨by decide, fun _ => ?_, fun f => absurd rfl f⟩)
  · have hlt : s + n < e := by
      rcases he with q | q
      · omega
      · by_cases r : s + n = e
        · rw [i3, r] at d
          exact absurd d q
        · omega
    have hm : (e - s - (n + 1)).toNat < (e - s - n).toNat := by omega
    refine ⟨⟨by omega, by omega⟩, fun f => ?_, fun f => ?_⟩
    · have f : 6 ≤ n := f
      refine hK _ ⟨by show 0 ≤ n + 1; omega, by show s + (n + 1) ≤ e; omega, ?_, ?_, ?_, i6.tr (FrT.i (by decide))⟩ hm
      · show sI w 10 + 1 = s + (n + 1)
        omega
      · exact i4
      · show sI w 9 = wv B s (min (n + 1) 6).toNat
        rw [i5]
        congr 1
        omega
    · have f : ¬ 6 ≤ n := f
      refine hK _ ⟨by show 0 ≤ n + 1; omega, by show s + (n + 1) ≤ e; omega, ?_, ?_, ?_, (i6.tr (FrT.i (by decide))).tr (FrT.i (by decide))⟩ hm
      · show sI w 10 + 1 = s + (n + 1)
        omega
      · exact i4
      · show 27 * sI w 9 + B (sI w 10) - 97 + 1 = wv B s (min (n + 1) 6).toNat
        rw [show (min (n + 1) 6).toNat = n.toNat + 1 by omega]
        show _ = 27 * wv B s n.toNat + (B (s + (n.toNat : Int)) - 96)
        rw [i5, show ((n.toNat : Nat) : Int) = n by omega, i3, show (min n 6).toNat = n.toNat by omega]
        omega
  · have q : s + n = e := by
      by_cases r : s + n < e
      · exact absurd (hl (s + n) (by omega) r) (by rw [i3] at d; exact d)
      · omega
    exact ⟨⟨by omega, by omega⟩, (fin q).1, (fin q).2⟩
theorem readsNumber_ok {post : St → Prop} {v : St} {B : Int → Int} {L s e : Int} (hT : TpM v B L) (h0 : 0 ≤ s) (hs : sI v 10 = s) (h1 : s < e) (h2 : e ≤ L) (hl : ∀ j, s ≤ j → j < e → digi (B j)) (he : e = L ∨ ¬ digi (B e)) (hp : ∀ v', sI v' 10 = e → sI v' 8 = sI v 8 → sI v' 7 = (if 3 < e - s then 4 else 2) → sI v' 9 = nv B s (min (e - s) 3).toNat → FrT v v' → post v') : w_X10_readsNumber post v := by
  have hL := hT.2.1
  refine Lp.inv (fun t : St × Int => 0 ≤ t.2 ∧ s + t.2 ≤ e ∧ sI t.1 10 = s + t.2 ∧ sI t.1 8 = sI v 8 ∧ sI t.1 9 = nv B s (min t.2 3).toNat ∧ FrT v t.1) (fun t => (e - s - t.2).toNat) _ ⟨Int.le_refl 0, by show s + 0 ≤ e; omega, by show sI v 10 = s + 0; omega, rfl, ?_, FrT.i (by decide)⟩ ?_
  · show sI (pI v 9 0) 9 = nv B s (min (0 : Int) 3).toNat
    rfl
  rintro K ⟨w, n⟩ ⟨i1, i2, i3, i4, i5, i6⟩ hK
  have i1 : 0 ≤ n := i1
  have i2 : s + n ≤ e := i2
  have i3 : sI w 10 = s + n := i3
  have i4 : sI w 8 = sI v 8 := i4
  have i5 : sI w 9 = nv B s (min n 3).toNat := i5
  have i6 : FrT v w := i6
  have hw := hT.fr i6
  have e6 : sI w 6 = L := hw.1
  have fin : s + n = e → (3 < n → post (pI w 7 4)) ∧ (¬ 3 < n → post (pI w 7 2)) := fun q => ⟨fun c => hp _ (by rw [sI_pI, if_neg (by decide)]; omega) i4 (by rw [if_pos (by omega)]; rfl) (by rw [sI_pI, if_neg (by decide), show e - s = n by omega]; exact i5) (i6.tr (FrT.i (by decide))), fun c => hp _ (by rw [sI_pI, if_neg (by decide)]; omega) i4 (by rw [if_neg (by omega)]; rfl) (by rw [sI_pI, if_neg (by decide), show e - s = n by omega]; exact i5) (i6.tr (FrT.i (by decide)))⟩
  refine ⟨⟨by show -2147483648 ≤ sI w 10; omega, by show sI w 10 ≤ 2147483647; omega⟩, ⟨by show -2147483648 ≤ sI w 6; omega, by show sI w 6 ≤ 2147483647; omega⟩, fun c => ⟨⟨by omega, by omega⟩, (fin (by have c : sI w 6 ≤ sI w 10 := c; omega)).1, (fin (by have c : sI w 6 ≤ sI w 10 := c; omega)).2⟩, fun c => ?_⟩
  have c : ¬ sI w 6 ≤ sI w 10 := c
  have hb := hw.2.2 (sI w 10) (by omega) (by omega)
  show 0 ≤ sI w 10 ∧ sI w 10 < 300 ∧ _
  refine ⟨by omega, by omega, ?_⟩
  rw [hb.1]
  refine isDigit_ok ⟨by omega, by omega⟩ (fun d => ⟨by decide, fun f => absurd f (by decide), fun _ => ?_⟩) (fun d => ⟨by decide, fun _ => ?_, fun f => absurd rfl f⟩)
  · have hlt : s + n < e := by
      rcases he with q | q
      · omega
      · by_cases r : s + n = e
        · rw [i3, r] at d
          exact absurd d q
        · omega
    have hm : (e - s - (n + 1)).toNat < (e - s - n).toNat := by omega
    refine ⟨⟨by omega, by omega⟩, fun f => ?_, fun f => ?_⟩
    · have f : 3 ≤ n := f
      refine hK _ ⟨by show 0 ≤ n + 1; omega, by show s + (n + 1) ≤ e; omega, ?_, ?_, ?_, i6.tr (FrT.i (by decide))⟩ hm
      · show sI w 10 + 1 = s + (n + 1)
        omega
      · exact i4
      · show sI w 9 = nv B s (min (n + 1) 3).toNat
        rw [i5]
        congr 1
        omega
    · have f : ¬ 3 ≤ n := f
      refine hK _ ⟨by show 0 ≤ n + 1; omega, by show s + (n + 1) ≤ e; omega, ?_, ?_, ?_, (i6.tr (FrT.i (by decide))).tr (FrT.i (by decide))⟩ hm
      · show sI w 10 + 1 = s + (n + 1)
        omega
      · exact i4
      · show 10 * sI w 9 + B (sI w 10) - 48 = nv B s (min (n + 1) 3).toNat
        rw [show (min (n + 1) 3).toNat = n.toNat + 1 by omega]
        show _ = 10 * nv B s n.toNat + (B (s + (n.toNat : Int)) - 48)
        rw [i5, show ((n.toNat : Nat) : Int) = n by omega, i3, show (min n 3).toNat = n.toNat by omega]
        omega
  · have q : s + n = e := by
      by_cases r : s + n < e
      · exact absurd (hl (s + n) (by omega) r) (by rw [i3] at d; exact d)
      · omega
    exact ⟨⟨by omega, by omega⟩, (fin q).1, (fin q).2⟩
theorem reads_core {post : St → Prop} {v : St} {B : Int → Int} {L a s e t x y : Int} (hT : TpM v B L) (ha : sI v 10 = a) (h : RD B L a s e t x) (y0 : s = L → y = sI v 9) (y1 : s < L → lett (B s) → y = wv B s (min (e - s) 6).toNat) (y2 : s < L → digi (B s) → y = nv B s (min (e - s) 3).toNat) (y3 : s < L → ¬ lett (B s) → ¬ digi (B s) → y = B s) (hp : ∀ v', sI v' 10 = e → sI v' 8 = s → sI v' 7 = t → sI v' 9 = y → FrT v v' → post v') : w_X10_reads post v := by
  obtain ⟨a0, a1, a2, a3⟩ := h
  have hL := hT.2.1
  have hsL : s ≤ L := by
    rcases a3 with q | q
    · omega
    · have := q.1
      omega
  refine Lp.inv (fun w : St => a ≤ sI w 10 ∧ sI w 10 ≤ s ∧ sI w 9 = sI v 9 ∧ FrT v w) (fun w => (s - sI w 10).toNat) _ ⟨by omega, by omega, rfl, ⟨fun _ _ => rfl, rfl⟩⟩ ?_
  rintro K w ⟨i1, i2, i9, i3⟩ hK
  have hw := hT.fr i3
  have e6 : sI w 6 = L := hw.1
  refine ⟨⟨by omega, by omega⟩, ⟨by omega, by omega⟩, fun c => ⟨fun d => absurd c (by omega), fun d => ?_⟩, fun c => ⟨by omega, by omega, ?_⟩⟩
  · rcases a3 with ⟨q1, q2, q3⟩ | q
    · exact hp _ (by rw [sI_pI, if_neg (by decide), sI_pI, if_neg (by decide)]; omega) (by rw [sI_pI, if_neg (by decide), sI_pI, if_pos rfl]; omega) (by rw [sI_pI, if_pos rfl]; omega) (by rw [sI_pI, if_neg (by decide), sI_pI, if_neg (by decide), y0 q1]; exact i9) ((i3.tr (FrT.i (by decide))).tr (FrT.i (by decide)))
    · have := q.1
      omega
  · have hb := hw.2.2 (sI w 10) (by omega) (by omega)
    rw [hb.1]
    have hbr : InR (B (sI w 10)) := ⟨by omega, by omega⟩
    refine isBlank_ok hbr (fun d => ⟨by decide, fun f => absurd f (by decide), fun _ => hK _ ⟨by rw [sI_pI, if_pos rfl]; omega, ?_, i9, i3.tr (FrT.i (by decide))⟩ ?_⟩) (fun d => ?_)
    · rw [sI_pI, if_pos rfl]
      by_cases q : sI w 10 = s
      · rcases a3 with r | r
        · omega
        · exfalso
          rw [q] at d
          rcases r.2 with r | r | r
          · have := r.1
            omega
          · have := r.1
            omega
          · exact r.2.2.1 d
      · omega
    · rw [sI_pI, if_pos rfl]
      by_cases q : sI w 10 = s
      · rcases a3 with r | r
        · omega
        · exfalso
          rw [q] at d
          rcases r.2 with r | r | r
          · have := r.1
            omega
          · have := r.1
            omega
          · exact r.2.2.1 d
      · omega
    · have q : sI w 10 = s := by
        by_cases r : sI w 10 < s
        · exact absurd (a2 _ i1 r) d
        · omega
      have hF1 : FrT v (pI (pI w 8 (sI w 10)) 7 0) := (i3.tr (FrT.i (by decide))).tr (FrT.i (by decide))
      have e10 : sI (pI (pI w 8 (sI w 10)) 7 0) 10 = s := by rw [sI_pI, if_neg (by decide), sI_pI, if_neg (by decide)]; exact q
      have e8 : sI (pI (pI w 8 (sI w 10)) 7 0) 8 = s := by rw [sI_pI, if_neg (by decide), sI_pI, if_pos rfl]; exact q
      rcases a3 with r | ⟨r0, r⟩
      · omega
      · refine ⟨by decide, fun _ => isLetter_ok hbr (fun f => ⟨by decide, fun g => absurd g (by decide), fun _ => ?_⟩) (fun f => ⟨by decide, fun _ => isDigit_ok hbr (fun f2 => ⟨by decide, fun g => absurd g (by decide), fun _ => ?_⟩) (fun f2 => ⟨by decide, fun _ => isSign_ok hbr (fun f3 => ⟨by decide, fun g => absurd g (by decide), fun _ => ?_⟩) (fun f3 => ⟨by decide, fun _ => ?_, fun g => absurd rfl g⟩), fun g => absurd rfl g⟩), fun g => absurd rfl g⟩), fun g => absurd rfl g⟩
        · rw [q] at f
          rcases r with ⟨r1, r2, r3, r4, r5, r6⟩ | ⟨r1, -⟩ | ⟨r1, -⟩
          · refine readsWord_ok (hT.fr hF1) (by omega) e10 r2 r3 r4 r5 (fun v' b1 b2 b3 b4 b5 => hp v' b1 (b2.trans e8) ?_ (b4.trans (y1 r0 r1).symm) (hF1.tr b5))
            rw [b3]
            rcases r6 with ⟨g1, g2, g3⟩ | ⟨g1, g2⟩
            · rw [if_neg (by omega), g2]
            · rw [if_pos g1, g2]
          · omega
          · exact absurd f r1
        · rw [q] at f f2
          rcases r with ⟨r1, -⟩ | ⟨r1, r2, r3, r4, r5, r6⟩ | ⟨-, r1, -⟩
          · exact absurd r1 f
          · refine readsNumber_ok (hT.fr hF1) (by omega) e10 r2 r3 r4 r5 (fun v' b1 b2 b3 b4 b5 => hp v' b1 (b2.trans e8) ?_ (b4.trans (y2 r0 r1).symm) (hF1.tr b5))
            rw [b3]
            rcases r6 with ⟨g1, g2, g3⟩ | ⟨g1, g2⟩
            · rw [if_neg (by omega), g2]
            · rw [if_pos g1, g2]
          · exact absurd f2 r1
        · rw [q] at f f2 f3 d
          rcases r with ⟨r1, -⟩ | ⟨r1, -⟩ | ⟨-, -, -, r4, r5, r6⟩
          · exact absurd r1 f
          · exact absurd r1 f2
          · refine hp _ ?_ ?_ ?_ ?_ (((hF1.tr (FrT.i (by decide))).tr (FrT.i (by decide))).tr (FrT.i (by decide)))
            · rw [sI_pI, if_pos rfl]
              omega
            · exact q
            · show (1 : Int) = t
              rcases r6 with ⟨g1, g2⟩ | ⟨g1, g2⟩
              · exact g2.symm
              · exact absurd f3 g1
            · show B (sI w 10) = y
              rw [q, y3 r0 f f2]
        · rw [q] at f f2 f3 d
          rcases r with ⟨r1, -⟩ | ⟨r1, -⟩ | ⟨-, -, -, r4, r5, r6⟩
          · exact absurd r1 f
          · exact absurd r1 f2
          · refine hp _ ?_ ?_ ?_ ?_ (((hF1.tr (FrT.i (by decide))).tr (FrT.i (by decide))).tr (FrT.i (by decide)))
            · rw [sI_pI, if_pos rfl]
              omega
            · exact q
            · show (4 : Int) = t
              rcases r6 with ⟨g1, g2⟩ | ⟨g1, g2⟩
              · exact absurd g1 f3
              · exact g2.symm
            · show B (sI w 10) = y
              rw [q, y3 r0 f f2]
theorem reads_ex {v : St} {B : Int → Int} {L a s e t x : Int} (hT : TpM v B L) (ha : sI v 10 = a) (h : RD B L a s e t x) : ∃ y, (t = 1 ∨ t = 2 ∨ t = 3 → y = x) ∧ ∀ post : St → Prop, (∀ v', sI v' 10 = e → sI v' 8 = s → sI v' 7 = t → sI v' 9 = y → FrT v v' → post v') → w_X10_reads post v := by
  have h' := h
  obtain ⟨a0, a1, a2, a3⟩ := h
  rcases a3 with ⟨q1, q2, q3⟩ | ⟨r0, r | r | r⟩
  · exact ⟨sI v 9, fun f => by omega, fun post hp => reads_core hT ha h' (fun _ => rfl) (fun f => absurd f (by omega)) (fun f => absurd f (by omega)) (fun f => absurd f (by omega)) hp⟩
  · obtain ⟨r1, r2, r3, r4, r5, r6⟩ := r
    refine ⟨wv B s (min (e - s) 6).toNat, fun f => ?_, fun post hp => reads_core hT ha h' (fun f => absurd f (by omega)) (fun _ _ => rfl) (fun _ f => by omega) (fun _ f => absurd r1 f) hp⟩
    rcases r6 with ⟨g1, g2, g3⟩ | ⟨g1, g2⟩
    · rw [g3, show min (e - s) 6 = e - s by omega]
    · omega
  · obtain ⟨r1, r2, r3, r4, r5, r6⟩ := r
    refine ⟨nv B s (min (e - s) 3).toNat, fun f => ?_, fun post hp => reads_core hT ha h' (fun f => absurd f (by omega)) (fun _ f => by omega) (fun _ _ => rfl) (fun _ _ f => absurd r1 f) hp⟩
    rcases r6 with ⟨g1, g2, g3⟩ | ⟨g1, g2⟩
    · rw [g3, show min (e - s) 3 = e - s by omega]
    · omega
  · obtain ⟨r1, r2, r3, r4, r5, r6⟩ := r
    exact ⟨B s, fun _ => r5.symm, fun post hp => reads_core hT ha h' (fun f => absurd f (by omega)) (fun _ f => absurd f r1) (fun _ f => absurd f r2) (fun _ _ _ => rfl) hp⟩
theorem reads_det {v : St} {B : Int → Int} {L a s e t x : Int} (hT : TpM v B L) (ha : sI v 10 = a) (h : RD B L a s e t x) : ∃ v', sI v' 10 = e ∧ sI v' 8 = s ∧ sI v' 7 = t ∧ (t = 1 ∨ t = 2 ∨ t = 3 → sI v' 9 = x) ∧ FrT v v' ∧ ∀ post : St → Prop, post v' → w_X10_reads post v := by
  obtain ⟨y, y1, y2⟩ := reads_ex hT ha h
  refine ⟨(fun k => if k = 10 then e else if k = 8 then s else if k = 7 then t else if k = 9 then y else v.1 k, v.2), rfl, rfl, rfl, y1, ⟨fun k hk => ?_, rfl⟩, fun post hp => y2 post (fun w w10 w8 w7 w9 wF => ?_)⟩
  · show (if k = 10 then e else if k = 8 then s else if k = 7 then t else if k = 9 then y else v.1 k) = v.1 k
    rw [if_neg (by omega), if_neg (by omega), if_neg (by omega), if_neg (by omega)]
  · have e : w = (fun k => if k = 10 then e else if k = 8 then s else if k = 7 then t else if k = 9 then y else v.1 k, v.2) := by
      refine Prod.ext ?_ wF.2
      funext k
      show sI w k = (if k = 10 then e else if k = 8 then s else if k = 7 then t else if k = 9 then y else v.1 k)
      by_cases c1 : k = 10
      · rw [if_pos c1, c1]
        exact w10
      by_cases c2 : k = 8
      · rw [if_neg c1, if_pos c2, c2]
        exact w8
      by_cases c3 : k = 7
      · rw [if_neg c1, if_neg c2, if_pos c3, c3]
        exact w7
      by_cases c4 : k = 9
      · rw [if_neg c1, if_neg c2, if_neg c3, if_pos c4, c4]
        exact w9
      · rw [if_neg c1, if_neg c2, if_neg c3, if_neg c4]
        exact wF.1 k (by omega)
    rw [e]
    exact hp
theorem reads_ok {post : St → Prop} {v : St} {B : Int → Int} {L a s e t x : Int} (hT : TpM v B L) (ha : sI v 10 = a) (h : RD B L a s e t x) (hp : ∀ v', sI v' 10 = e → sI v' 8 = s → sI v' 7 = t → (t = 1 ∨ t = 2 ∨ t = 3 → sI v' 9 = x) → FrT v v' → post v') : w_X10_reads post v := by
  obtain ⟨v', h1, h2, h3, h4, h5, h6⟩ := reads_det hT ha h
  exact h6 post (hp v' h1 h2 h3 h4 h5)
