/-! both parsers, side by side -/
theorem nv_b {B : Int → Int} {s : Int} : ∀ m : Nat, (∀ j, s ≤ j → j < s + m → digi (B j)) → 0 ≤ nv B s m ∧ nv B s m < (10 : Int) ^ m
  | 0, _ => ⟨Int.le_refl 0, (by show (0 : Int) < 10 ^ 0; decide)⟩
  | m + 1, h => by
    obtain ⟨h1, h2⟩ := nv_b (B := B) (s := s) m (fun j a b => h j a (by omega))
    have hd := h (s + m) (by omega) (by omega)
    have e : nv B s (m + 1) = 10 * nv B s m + (B (s + m) - 48) := rfl
    rw [e, Int.pow_succ]
    omega
theorem Row.number {B : Int → Int} {L c t : Int} {A Kd Nm Pl : Int → Int} (h : Row B L c A Kd Nm Pl) (h0 : 0 ≤ t) (h1 : t < c) (hk : Kd t = 2) : 0 ≤ Nm t ∧ Nm t < 1000 := by
  obtain ⟨tk, v, ⟨r0, r1, r2, r3⟩, k⟩ := h.2.2.1 t h0 h1
  rw [hk] at k
  rcases k with ⟨k1, -⟩ | ⟨-, k1, k2⟩ | ⟨k1, -⟩ | ⟨k1, -⟩
  · omega
  · rcases r3 with ⟨-, q, -⟩ | ⟨q0, q | q | q⟩
    · omega
    · obtain ⟨q1, q2, q3, q4, q5, q6⟩ := q
      rcases q6 with ⟨q7, q8, q9⟩ | ⟨q7, q8⟩ <;> omega
    · obtain ⟨q1, q2, q3, q4, q5, q6⟩ := q
      rcases q6 with ⟨q7, q8, q9⟩ | ⟨q7, q8⟩
      · rw [k2, q9]
        have b := nv_b (B := B) (s := Pl t) (A (t + 1) - Pl t).toNat (fun j a b => q4 j a (by omega))
        rcases (show (A (t + 1) - Pl t).toNat = 1 ∨ (A (t + 1) - Pl t).toNat = 2 ∨ (A (t + 1) - Pl t).toNat = 3 by omega) with e | e | e
        · rw [e] at b ⊢
          have := b.2
          omega
        · rw [e] at b ⊢
          have e2 : (10 : Int) ^ 2 = 100 := by decide
          omega
        · rw [e] at b ⊢
          have e2 : (10 : Int) ^ 3 = 1000 := by decide
          omega
      · omega
    · obtain ⟨q1, q2, q3, q4, q5, q6⟩ := q
      rcases q6 with ⟨q7, q8⟩ | ⟨q7, q8⟩ <;> omega
  · omega
  · omega
theorem next_det {v : St} {B : Int → Int} {L c i : Int} {A Kd Nm Pl : Int → Int} (hT : TpM v B L) (hR : Row B L c A Kd Nm Pl) (h0 : 0 ≤ i) (h1 : i ≤ c) (ha : sI v 10 = A i) : ∃ v', AtT v' L c i A Kd Nm Pl ∧ FrT v v' ∧ ∀ p : St → Prop, p v' → w_X10_reads p v := by
  by_cases d : i = c
  · subst d
    obtain ⟨v', b1, b2, b3, b4, b5, b6⟩ := reads_det hT ha hR.2.2.2
    exact ⟨v', ⟨fun f => absurd f (by omega), fun _ => ⟨b3, b2⟩⟩, b5, b6⟩
  · obtain ⟨tk, x, r, k⟩ := hR.2.2.1 i h0 (by omega)
    obtain ⟨v', b1, b2, b3, b4, b5, b6⟩ := reads_det hT ha r
    exact ⟨v', ⟨fun f => ⟨tk, x, k, b3, b2, b4, b1⟩, fun f => absurd f d⟩, b5, b6⟩
theorem att_k {w : St} {L c t : Int} {A Kd Nm Pl : Int → Int} (h : AtT w L c t A Kd Nm Pl) (ht : t < c) : sI w 10 = A (t + 1) ∧ sI w 8 = Pl t ∧ ((Kd t = 1 ∧ sI w 7 = 3 ∧ sI w 9 = Nm t) ∨ (Kd t = 2 ∧ sI w 7 = 2 ∧ sI w 9 = Nm t) ∨ (Kd t = 0 ∧ sI w 7 = 4) ∨ (sgn (Kd t) ∧ sI w 7 = 1 ∧ sI w 9 = Kd t)) := by
  obtain ⟨tk, v, k, q1, q2, q3, q4⟩ := h.1 ht
  refine ⟨q4, q2, ?_⟩
  rcases k with ⟨k1, k2, k3⟩ | ⟨k1, k2, k3⟩ | ⟨k1, k2⟩ | ⟨k1, k2, k3⟩
  · exact Or.inl ⟨k1, by omega, by rw [q3 (by omega)]; exact k3.symm⟩
  · exact Or.inr (Or.inl ⟨k1, by omega, by rw [q3 (by omega)]; exact k3.symm⟩)
  · exact Or.inr (Or.inr (Or.inl ⟨k1, by omega⟩))
  · exact Or.inr (Or.inr (Or.inr ⟨k1, by omega, by rw [q3 (by omega)]; exact k3⟩))
def FrP (u u' : St) : Prop := (∀ k, k ≠ 15 → sI u' k = sI u k) ∧ (∀ k, k ≠ 10 → k ≠ 11 → sA u' k = sA u k) ∧ (∀ k, sR u' k = sR u k) ∧ sL u' = sL u ∧ sF u' = sF u
theorem FrP.rf {u : St} : FrP u u := ⟨fun _ _ => rfl, fun _ _ _ => rfl, fun _ => rfl, rfl, rfl⟩
theorem FrP.tr {u v w : St} (h : FrP u v) (h' : FrP v w) : FrP u w := ⟨fun k q => (h'.1 k q).trans (h.1 k q), fun k q r => (h'.2.1 k q r).trans (h.2.1 k q r), fun k => (h'.2.2.1 k).trans (h.2.2.1 k), h'.2.2.2.1.trans h.2.2.2.1, h'.2.2.2.2.trans h.2.2.2.2⟩
theorem FrP.a10 {u : St} {i z : Int} : FrP u (pA u 10 i z) := ⟨fun _ _ => rfl, fun k q r => by rw [sA_pA, if_neg q], fun _ => rfl, rfl, rfl⟩
theorem FrP.a11 {u : St} {i z : Int} : FrP u (pA u 11 i z) := ⟨fun _ _ => rfl, fun k q r => by rw [sA_pA, if_neg r], fun _ => rfl, rfl, rfl⟩
theorem FrP.i15 {u : St} {z : Int} : FrP u (pI u 15 z) := ⟨fun k q => by rw [sI_pI, if_neg q], fun _ _ _ => rfl, fun _ => rfl, rfl, rfl⟩
def FrPM (w w' : St) : Prop := (∀ k, k < 7 ∨ 10 < k → k ≠ 13 → sI w' k = sI w k) ∧ (∀ k, k < 8 ∨ 11 < k → sA w' k = sA w k)
theorem FrPM.rf {u : St} : FrPM u u := ⟨fun _ _ _ => rfl, fun _ _ => rfl⟩
theorem FrPM.tr {u v w : St} (h : FrPM u v) (h' : FrPM v w) : FrPM u w := ⟨fun k q r => (h'.1 k q r).trans (h.1 k q r), fun k q => (h'.2 k q).trans (h.2 k q)⟩
theorem FrT.pm {u v : St} (h : FrT u v) : FrPM u v := ⟨fun k q _ => h.1 k q, fun k _ => h.a k⟩
theorem FrPM.kit {u : St} {p q : Int} : FrPM u (kIt u p q) := by
  refine ⟨fun k a b => ?_, fun k a => ?_⟩
  · unfold kIt
    rw [sI_pI, if_neg b, sI_pA, sI_pA]
  · unfold kIt
    rw [sA_pI, sA_pA, if_neg (by omega), sA_pA, if_neg (by omega)]
theorem FrPM.a {u : St} {k : Nat} {i z : Int} (h : k = 10 ∨ k = 11) : FrPM u (pA u k i z) := ⟨fun _ _ _ => rfl, fun j q => by rw [sA_pA, if_neg (by omega)]⟩
theorem TpM.kit {w : St} {B : Int → Int} {L p q : Int} (h : TpM w B L) : TpM (kIt w p q) B L := ⟨h.1, h.2.1, h.2.2⟩
theorem kit_8 (w : St) (p q j : Int) : sA (kIt w p q) 8 j = if j = sI w 13 then p else sA w 8 j := rfl
theorem kit_9 (w : St) (p q j : Int) : sA (kIt w p q) 9 j = if j = sI w 13 then q else sA w 9 j := rfl
theorem kit_10 (w : St) (p q : Int) : sA (kIt w p q) 10 = sA w 10 := rfl
theorem kit_11 (w : St) (p q : Int) : sA (kIt w p q) 11 = sA w 11 := rfl
theorem kit_13 (w : St) (p q : Int) : sI (kIt w p q) 13 = sI w 13 + 1 := rfl
def lvS (u w : St) : Nat → Pr
  | 0 => (0, 0)
  | l + 1 => (sA u 11 l + 2, sA w 11 l + 1)
theorem lvS_eq {u u' w w' : St} : ∀ {l : Nat}, (∀ j : Nat, j < l → sA u' 11 j = sA u 11 j ∧ sA w' 11 j = sA w 11 j) → lvS u' w' l = lvS u w l
  | 0, _ => rfl
  | l + 1, h => by
    have e := h l (by omega)
    show (sA u' 11 l + 2, sA w' 11 l + 1) = (sA u 11 l + 2, sA w 11 l + 1)
    rw [e.1, e.2]
def PI (B : Int → Int) (L c : Int) (A Kd Nm Pl : Int → Int) (u w : St) (t : Int) (o : Nat) : Prop :=
  (sI u 16 = c ∧ sA u 7 = Kd ∧ sA u 8 = Nm ∧ sA u 9 = Pl) ∧ o ≤ 4 ∧ sI u 15 = o ∧ 0 ≤ t ∧ t ≤ c ∧ AtT w L c t A Kd Nm Pl ∧ TpM w B L ∧ 0 ≤ sI w 13 ∧ sI w 13 ≤ t ∧
  (∀ l : Nat, l < o → 0 ≤ sA u 11 l ∧ sA u 11 l + 2 ≤ t ∧ 0 ≤ sA w 11 l ∧ sA w 11 l + 1 ≤ sI w 13 ∧ Hdr Kd Nm (sA w 8) (sA w 9) (sA u 11 l, sA w 11 l) ∧ ∃ m, Pth (Ac Kd Nm (sA u 10) (sA w 8) (sA w 9) (sA w 10) (4 - l)) m (lvS u w l) (sA u 11 l, sA w 11 l)) ∧
  (∀ l l' : Nat, l < l' → l' < o → sA u 11 l + 2 ≤ sA u 11 l' ∧ sA w 11 l + 1 ≤ sA w 11 l') ∧
  ∃ m, Pth (Ac Kd Nm (sA u 10) (sA w 8) (sA w 9) (sA w 10) (4 - o)) m (lvS u w o) (t, sI w 13)
theorem hdr_fr {Kd Nm IK IK' IV IV' : Int → Int} {a : Pr} (h : Hdr Kd Nm IK IV a) (h1 : IK' a.2 = IK a.2) (h2 : IV' a.2 = IV a.2) : Hdr Kd Nm IK' IV' a := by
  unfold Hdr
  rw [h1, h2]
  exact h
/-- one act more on the same level -/
theorem pi_ext {B : Int → Int} {L c : Int} {A Kd Nm Pl : Int → Int} {u w u' w' : St} {t t' : Int} {o : Nat} (h : PI B L c A Kd Nm Pl u w t o) (hF : FrP u u') (e15 : sI u' 15 = sI u 15) (e11 : sA u' 11 = sA u 11) (f11 : sA w' 11 = sA w 11) (ht : t ≤ t') (htc : t' ≤ c) (hat : AtT w' L c t' A Kd Nm Pl) (hT : TpM w' B L) (e13 : sI w' 13 = sI w 13 + 1) (hlt : t < t') (eE : ∀ j, j < t → sA u' 10 j = sA u 10 j) (eI : ∀ j, j < sI w 13 → sA w' 8 j = sA w 8 j ∧ sA w' 9 j = sA w 9 j ∧ sA w' 10 j = sA w 10 j) (hA : Ac Kd Nm (sA u' 10) (sA w' 8) (sA w' 9) (sA w' 10) (4 - o) (t, sI w 13) (t', sI w' 13)) : PI B L c A Kd Nm Pl u' w' t' o := by
  obtain ⟨⟨h1, h2, h3, h4⟩, h5, h6, h7, h8, h9, h10, h11, h12, h13, h14, m, h15⟩ := h
  have hlv : ∀ l, lvS u' w' l = lvS u w l := fun l => lvS_eq (fun j _ => by rw [e11, f11]; exact ⟨rfl, rfl⟩)
  refine ⟨⟨(hF.1 16 (by decide)).trans h1, (hF.2.1 7 (by decide) (by decide)).trans h2, (hF.2.1 8 (by decide) (by decide)).trans h3, (hF.2.1 9 (by decide) (by decide)).trans h4⟩, h5, e15.trans h6, by omega, htc, hat, hT, by omega, by omega, fun l hl => ?_, by rw [e11, f11]; exact h14, m + 1, ?_⟩
  · obtain ⟨q1, q2, q3, q4, q5, m', q6⟩ := h13 l hl
    rw [e11, f11, hlv]
    exact ⟨q1, by omega, q3, by omega, hdr_fr q5 (eI _ (by show sA w 11 l < _; omega)).1 (eI _ (by show sA w 11 l < _; omega)).2.1, m', Ac.pfr q6 ⟨fun j a b => eE j (by have b : j < sA u 11 l := b; omega), fun j a b => eI j (by have b : j < sA w 11 l := b; omega)⟩⟩
  · rw [hlv]
    exact Pth.snoc hA (Ac.pfr h15 ⟨fun j a b => eE j b, fun j a b => eI j b⟩)
/-- a brace opened at t -/
theorem pi_open {B : Int → Int} {L c : Int} {A Kd Nm Pl : Int → Int} {u w w' : St} {t : Int} {o : Nat} (h : PI B L c A Kd Nm Pl u w t o) (ho : o < 4) (htc : t + 2 ≤ c) (hat : AtT w' L c (t + 2) A Kd Nm Pl) (hT : TpM w' B L) (e13 : sI w' 13 = sI w 13 + 1) (f11 : ∀ j : Int, j ≠ o → sA w' 11 j = sA w 11 j) (f11o : sA w' 11 o = sI w 13) (eI : ∀ j, j < sI w 13 → sA w' 8 j = sA w 8 j ∧ sA w' 9 j = sA w 9 j ∧ sA w' 10 j = sA w 10 j) (hH : Hdr Kd Nm (sA w' 8) (sA w' 9) (t, sI w 13)) : PI B L c A Kd Nm Pl (pI (pA u 11 (sI u 15) t) 15 (sI u 15 + 1)) w' (t + 2) (o + 1) := by
  obtain ⟨⟨h1, h2, h3, h4⟩, h5, h6, h7, h8, h9, h10, h11, h12, h13, h14, m, h15⟩ := h
  have g11 : ∀ j : Int, sA (pI (pA u 11 (sI u 15) t) 15 (sI u 15 + 1)) 11 j = if j = o then t else sA u 11 j := fun j => by
    show zset (sA u 11) (sI u 15) t j = _
    rw [h6]
    rfl
  have g11n : ∀ l : Nat, l < o → sA (pI (pA u 11 (sI u 15) t) 15 (sI u 15 + 1)) 11 l = sA u 11 l := fun l hl => by rw [g11, if_neg (by omega)]
  have f11n : ∀ l : Nat, l < o → sA w' 11 l = sA w 11 l := fun l hl => f11 l (by omega)
  have hlv : ∀ l : Nat, l ≤ o → lvS (pI (pA u 11 (sI u 15) t) 15 (sI u 15 + 1)) w' l = lvS u w l := fun l hl => lvS_eq (fun j hj => ⟨g11n j (by omega), f11n j (by omega)⟩)
  refine ⟨⟨h1, h2, h3, h4⟩, by omega, ?_, by omega, htc, hat, hT, by omega, by omega, fun l hl => ?_, fun l l' hl hl' => ?_, 0, ?_⟩
  · show sI u 15 + 1 = _
    omega
  · by_cases e : l = o
    · subst e
      rw [g11, if_pos rfl, f11o, hlv l (Nat.le_refl _)]
      exact ⟨h7, by omega, h11, by omega, hH, m, Ac.pfr h15 ⟨fun j a b => rfl, fun j a b => eI j b⟩⟩
    · obtain ⟨q1, q2, q3, q4, q5, m', q6⟩ := h13 l (by omega)
      rw [g11n l (by omega), f11n l (by omega), hlv l (by omega)]
      exact ⟨q1, by omega, q3, by omega, hdr_fr q5 (eI _ (by show sA w 11 l < _; omega)).1 (eI _ (by show sA w 11 l < _; omega)).2.1, m', Ac.pfr q6 ⟨fun j a b => rfl, fun j a b => eI j (by have b : j < sA w 11 l := b; omega)⟩⟩
  · obtain ⟨q1, q2, q3, q4, q5, m', q6⟩ := h13 l (by omega)
    by_cases e : l' = o
    · subst e
      rw [g11n l (by omega), f11n l (by omega), g11, if_pos rfl, f11o]
      omega
    · rw [g11n l (by omega), f11n l (by omega), g11n l' (by omega), f11n l' (by omega)]
      exact h14 l l' hl (by omega)
  · show (sA (pI (pA u 11 (sI u 15) t) 15 (sI u 15 + 1)) 11 o + 2, sA w' 11 o + 1) = (t + 2, sI w' 13)
    rw [g11, if_pos rfl, f11o, e13]
/-- a brace closed at t -/
theorem pi_close {B : Int → Int} {L c : Int} {A Kd Nm Pl : Int → Int} {u w w' : St} {t : Int} {o : Nat} (h : PI B L c A Kd Nm Pl u w t (o + 1)) (htc : t < c) (hk : Kd t = 125) (hat : AtT w' L c (t + 1) A Kd Nm Pl) (hT : TpM w' B L) (e13 : sI w' 13 = sI w 13 + 1) (f11 : sA w' 11 = sA w 11) (eI : ∀ j, j < sI w 13 → sA w' 8 j = sA w 8 j ∧ sA w' 9 j = sA w 9 j) (e8 : sA w' 8 (sI w 13) = 125) (e10 : ∀ j, j ≠ sA w 11 o → sA w' 10 j = sA w 10 j) (e10o : sA w' 10 (sA w 11 o) = sI w 13) : PI B L c A Kd Nm Pl (pA (pI u 15 (sI u 15 - 1)) 10 (sA u 11 o) (t + 1)) w' (t + 1) o := by
  obtain ⟨⟨h1, h2, h3, h4⟩, h5, h6, h7, h8, h9, h10, h11, h12, h13, h14, m, h15⟩ := h
  have gE : ∀ j : Int, sA (pA (pI u 15 (sI u 15 - 1)) 10 (sA u 11 o) (t + 1)) 10 j = if j = sA u 11 o then t + 1 else sA u 10 j := fun j => rfl
  have g11 : sA (pA (pI u 15 (sI u 15 - 1)) 10 (sA u 11 o) (t + 1)) 11 = sA u 11 := rfl
  have hlv : ∀ l : Nat, lvS (pA (pI u 15 (sI u 15 - 1)) 10 (sA u 11 o) (t + 1)) w' l = lvS u w l := fun l => lvS_eq (fun j _ => by rw [g11, f11]; exact ⟨rfl, rfl⟩)
  obtain ⟨p1, p2, p3, p4, p5, mo, p6⟩ := h13 o (by omega)
  refine ⟨⟨h1, h2, h3, h4⟩, by omega, ?_, by omega, by omega, hat, hT, by omega, by omega, fun l hl => ?_, fun l l' hl hl' => ?_, mo + 1, ?_⟩
  · show sI u 15 - 1 = _
    omega
  · obtain ⟨q1, q2, q3, q4, q5, m', q6⟩ := h13 l (by omega)
    have r := h14 l o (by omega) (by omega)
    rw [g11, f11, hlv]
    exact ⟨q1, by omega, q3, by omega, hdr_fr q5 (eI _ (by show sA w 11 l < _; omega)).1 (eI _ (by show sA w 11 l < _; omega)).2, m', Ac.pfr q6 ⟨fun j a b => by rw [gE, if_neg (by have b : j < sA u 11 l := b; omega)], fun j a b => ⟨(eI j (by have b : j < sA w 11 l := b; omega)).1, (eI j (by have b : j < sA w 11 l := b; omega)).2, e10 j (by have b : j < sA w 11 l := b; omega)⟩⟩⟩
  · rw [g11, f11]
    exact h14 l l' hl (by omega)
  · rw [hlv]
    refine Pth.snoc (b := (sA u 11 o, sA w 11 o)) ?_ (Ac.pfr p6 ⟨fun j a b => by rw [gE, if_neg (by have b : j < sA u 11 o := b; omega)], fun j a b => ⟨(eI j (by have b : j < sA w 11 o := b; omega)).1, (eI j (by have b : j < sA w 11 o := b; omega)).2, e10 j (by have b : j < sA w 11 o := b; omega)⟩⟩)
    rw [show 4 - o = (4 - (o + 1)) + 1 by omega]
    refine Or.inr ⟨m, (t, sI w 13), Ac.pfr h15 ⟨fun j a b => ?_, fun j a b => ⟨(eI j b).1, (eI j b).2, e10 j ?_⟩⟩, hdr_fr p5 (eI _ (by show sA w 11 o < _; omega)).1 (eI _ (by show sA w 11 o < _; omega)).2, ?_, ?_, hk, e8, e10o⟩
    · rw [gE, if_neg (by have a : sA u 11 o + 2 ≤ j := a; omega)]
    · have a : sA w 11 o + 1 ≤ j := a
      omega
    · show sA (pA (pI u 15 (sI u 15 - 1)) 10 (sA u 11 o) (t + 1)) 10 (sA u 11 o) = t + 1
      rw [gE, if_pos rfl]
    · rw [e13]
/-- one round: both go on, or both stop at the same place -/
def Round (B : Int → Int) (L c : Int) (A Kd Nm Pl : Int → Int) (u w : St) (t : Int) (o : Nat) : Prop :=
  (∃ (u' w' : St) (t' : Int) (o' k : Nat), t < t' ∧ 1 ≤ k ∧ (k : Int) ≤ t' - t ∧ (∀ (post : Int → St → Prop) (f : Nat), Lp (B_X7_misfitOfScript_9 post L) f (u', 0, t') → Lp (B_X7_misfitOfScript_9 post L) (f + k) (u, 0, t)) ∧ (∀ (Q : Int → St → Prop) (n : Nat), Lp (B_X10_readsAll_16 Q) n (w', (o' : Int)) → Lp (B_X10_readsAll_16 Q) (n + 1) (w, (o : Int))) ∧ PI B L c A Kd Nm Pl u' w' t' o' ∧ FrP u u' ∧ FrPM w w') ∨
  (∃ (r : Int) (u' w' : St), 0 ≤ r ∧ r ≤ L ∧ sI w' 8 = r ∧ (∀ (post : Int → St → Prop) (f : Nat), post r u' → Lp (B_X7_misfitOfScript_9 post L) (f + 2) (u, 0, t)) ∧ (∀ (Q : Int → St → Prop) (n : Nat), Q 0 w' → Lp (B_X10_readsAll_16 Q) (n + 1) (w, (o : Int))) ∧ FrP u u' ∧ FrPM w w')
