/-! write whole, and the two shares -/
def txt1 (W : Int → Int) : Nat → Sx
  | 0 => (fun _ => 0, 0)
  | i + 1 => putF (spellF (W i) 6 (txt1 W i)) 32
def txt2 (W : Int → Int) (p : Int) : Nat → Sx
  | 0 => putF (txt1 W p.toNat) 124
  | i + 1 => spellF (W (p + i)) 6 (putF (txt2 W p i) 32)
theorem txt1_n (W : Int → Int) : ∀ i : Nat, 0 ≤ (txt1 W i).2 ∧ (txt1 W i).2 ≤ 7 * i
  | 0 => by show (0 : Int) ≤ 0 ∧ (0 : Int) ≤ 7 * (0 : Nat); omega
  | i + 1 => by
    have h := txt1_n W i
    have h2 := spell_n (W i) 6 (txt1 W i)
    show 0 ≤ (spellF (W i) 6 (txt1 W i)).2 + 1 ∧ (spellF (W i) 6 (txt1 W i)).2 + 1 ≤ 7 * (i + 1 : Nat)
    omega
theorem txt2_n (W : Int → Int) {p : Int} (hp : 0 ≤ p) : ∀ i : Nat, 0 ≤ (txt2 W p i).2 ∧ (txt2 W p i).2 ≤ 7 * p + 1 + 7 * i
  | 0 => by
    have h := txt1_n W p.toNat
    show 0 ≤ (txt1 W p.toNat).2 + 1 ∧ (txt1 W p.toNat).2 + 1 ≤ 7 * p + 1 + 7 * (0 : Nat)
    omega
  | i + 1 => by
    have h := txt2_n W hp i
    have h2 := spell_n (W (p + i)) 6 (putF (txt2 W p i) 32)
    have h3 : (putF (txt2 W p i) 32).2 = (txt2 W p i).2 + 1 := rfl
    show 0 ≤ (spellF (W (p + i)) 6 (putF (txt2 W p i) 32)).2 ∧ (spellF (W (p + i)) 6 (putF (txt2 W p i) 32)).2 ≤ 7 * p + 1 + 7 * (i + 1 : Nat)
    omega
theorem txt_w {G : Gr} {u u' : St} {n p cap : Int} {W : Int → Int} (h : Txt G u n p W cap) (hF : FrW 12 3 u u') : Txt G u' n p W cap := txt_keep h (fun k a b => hF.1 k (by omega)) (fun k a b => hF.2.1 k (by omega)) hF.2.2.1 hF.2.2.2.1 hF.2.2.2.2
theorem spell_ok {post : St → Prop} {x : Int} {u : St} {s : Sx} (hx : isW x) (h : Wrt 12 3 u s) (hs : s.2 ≤ 695) (hp : ∀ u', Wrt 12 3 u' (spellF x 6 s) → FrW 12 3 u u' → post u') : w_X9_spell post u x := ⟨7, spell_c hx.inr (by have := hx.1; omega) 6 (by omega) u s h (by omega) hp⟩
theorem txt1_s (W : Int → Int) {i : Int} (h : 0 ≤ i) : txt1 W (i + 1).toNat = putF (spellF (W i) 6 (txt1 W i.toNat)) 32 := by
  rw [show (i + 1).toNat = i.toNat + 1 by omega]
  show putF (spellF (W (i.toNat : Int)) 6 (txt1 W i.toNat)) 32 = _
  rw [show ((i.toNat : Nat) : Int) = i by omega]
theorem txt2_s (W : Int → Int) (p : Int) {i : Int} (h : 0 ≤ i) : txt2 W p (i + 1).toNat = spellF (W (p + i)) 6 (putF (txt2 W p i.toNat) 32) := by
  rw [show (i + 1).toNat = i.toNat + 1 by omega]
  show spellF (W (p + (i.toNat : Int))) 6 (putF (txt2 W p i.toNat) 32) = _
  rw [show ((i.toNat : Nat) : Int) = i by omega]
theorem write_c {post : Int → St → Prop} {G : Gr} {u : St} {n p cap : Int} {W : Int → Int} (h : Txt G u n p W cap) (hp : ∀ u', Wrt 12 3 u' (txt2 W p (n - p).toNat) → FrW 12 3 u u' → post (txt2 W p (n - p).toNat).2 u') : w_X9_write post u := by
  have b := h.n100
  have hF0 : FrW 12 3 u (pI u 3 0) := ⟨fun k q => by rw [sI_pI, if_neg q], fun _ _ => rfl, fun _ => rfl, rfl, rfl⟩
  refine ln_caret (txt_w h hF0) ?_
  refine Lp.inv (fun t : St × Int => 0 ≤ t.2 ∧ t.2 ≤ p ∧ Wrt 12 3 t.1 (txt1 W t.2.toNat) ∧ FrW 12 3 u t.1) (fun t => (p - t.2).toNat) _ ⟨Int.le_refl 0, by show 0 ≤ p; omega, ⟨rfl, Int.le_refl 0, fun j a b => absurd b (by show ¬ j < 0; omega)⟩, hF0⟩ ?_
  rintro K ⟨w, i⟩ ⟨i1, i2, i3, i4⟩ hK
  have i1 : 0 ≤ i := i1
  have i2 : i ≤ p := i2
  have i3 : Wrt 12 3 w (txt1 W i.toNat) := i3
  have i4 : FrW 12 3 u w := i4
  have t1 := txt1_n W i.toNat
  have hw := txt_w h i4
  refine ⟨⟨by omega, by omega⟩, ⟨by omega, by omega⟩, fun c => ?_, fun c => ?_⟩
  · have c : p ≤ i := c
    have e : i = p := by omega
    subst e
    refine put_c i3 (by omega) (by omega) (fun u1 a1 b1 => ?_)
    refine Lp.inv (fun t : St × Int => i ≤ t.2 ∧ t.2 ≤ n ∧ Wrt 12 3 t.1 (txt2 W i (t.2 - i).toNat) ∧ FrW 12 3 u t.1) (fun t => (n - t.2).toNat) _ ⟨Int.le_refl i, by show i ≤ n; omega, by show Wrt 12 3 u1 (txt2 W i (i - i).toNat); rw [Int.sub_self]; exact a1, i4.tr b1⟩ ?_
    rintro K2 ⟨w2, j⟩ ⟨j1, j2, j3, j4⟩ hK2
    have j1 : i ≤ j := j1
    have j2 : j ≤ n := j2
    have j3 : Wrt 12 3 w2 (txt2 W i (j - i).toNat) := j3
    have j4 : FrW 12 3 u w2 := j4
    have t2 := txt2_n W (p := i) (by omega) (j - i).toNat
    have hw2 := txt_w h j4
    refine ln_length hw2 ?_
    refine ⟨⟨by omega, by omega⟩, ⟨by omega, by omega⟩, fun c2 => ?_, fun c2 => ?_⟩
    · have c2 : n ≤ j := c2
      show post (sI w2 3) w2
      have e : j = n := by omega
      subst e
      rw [j3.1]
      exact hp w2 j3 j4
    · have c2 : ¬ n ≤ j := c2
      refine put_c j3 (by omega) (by omega) (fun u2 a2 b2 => ?_)
      have hw3 := txt_w hw2 b2
      refine ln_wordOf hw3 (by omega) (by show j < n; omega) ?_
      have e2 := txt2_s W i (i := j - i) (by omega)
      rw [show i + (j - i) = j by omega, show j - i + 1 = j + 1 - i by omega] at e2
      refine spell_ok (h.2.2.2 j (by omega) (by omega)) a2 (by show (txt2 W i (j - i).toNat).2 + 1 ≤ 695; omega) (fun u3 a3 b3 => hK2 _ ⟨by show i ≤ j + 1; omega, by show j + 1 ≤ n; omega, ?_, (j4.tr b2).tr b3⟩ (by show (n - (j + 1)).toNat < (n - j).toNat; omega))
      show Wrt 12 3 u3 (txt2 W i (j + 1 - i).toNat)
      rw [e2]
      exact a3
  · have c : ¬ p ≤ i := c
    show w_X3_wordOf _ w i
    refine ln_wordOf hw i1 (by show i < n; omega) ?_
    have t2 := spell_n (W i) 6 (txt1 W i.toNat)
    refine spell_ok (h.2.2.2 i i1 (by omega)) i3 (by omega) (fun u1 a1 b1 => put_c a1 (by omega) (by omega) (fun u2 a2 b2 => hK _ ⟨by show 0 ≤ i + 1; omega, by show i + 1 ≤ p; omega, ?_, (i4.tr b1).tr b2⟩ (by show (p - (i + 1)).toNat < (p - i).toNat; omega)))
    show Wrt 12 3 u2 (txt1 W (i + 1).toNat)
    rw [txt1_s W i1]
    exact a2
theorem mt_w {v v' : St} {T : Tx} (h : MT v T) (hF : FrW 14 14 v v') : MT v' T := by
  unfold MT at *
  rw [hF.1 1 (by decide), hF.1 2 (by decide), hF.2.1 0 (by decide), hF.2.1 1 (by decide)]
  exact h
theorem write_m {post : Int → St → Prop} {v : St} {n p : Int} {W : Int → Int} (h : MT v (n, p, W)) (hW : ∀ j, 0 ≤ j → j < n → isW (W j)) (hp : ∀ v', Wrt 14 14 v' (txt2 W p (n - p).toNat) → FrW 14 14 (pI v 0 0) v' → post (txt2 W p (n - p).toNat).2 v') : w_X10_write post v := by
  have b := h.b
  have hF0 : FrW 14 14 (pI v 0 0) (pI (pI v 0 0) 14 0) := ⟨fun k q => by rw [sI_pI, if_neg q], fun _ _ => rfl, fun _ => rfl, rfl, rfl⟩
  have h : MT (pI v 0 0) (n, p, W) := h
  refine Lp.inv (fun t : St × Int => 0 ≤ t.2 ∧ t.2 ≤ p ∧ Wrt 14 14 t.1 (txt1 W t.2.toNat) ∧ FrW 14 14 (pI v 0 0) t.1) (fun t => (p - t.2).toNat) _ ⟨Int.le_refl 0, by show 0 ≤ p; omega, ⟨rfl, Int.le_refl 0, fun j a b => absurd b (by show ¬ j < 0; omega)⟩, hF0⟩ ?_
  rintro K ⟨w, i⟩ ⟨i1, i2, i3, i4⟩ hK
  have i1 : 0 ≤ i := i1
  have i2 : i ≤ p := i2
  have i3 : Wrt 14 14 w (txt1 W i.toNat) := i3
  have i4 : FrW 14 14 (pI v 0 0) w := i4
  have t1 := txt1_n W i.toNat
  have hw := mt_w h i4
  have ew := hw.c
  refine ⟨⟨by omega, by omega⟩, ⟨by show -2147483648 ≤ sI w 1; omega, by show sI w 1 ≤ 2147483647; omega⟩, fun c => ?_, fun c => ⟨i1, by show i < 101; omega, ?_⟩⟩
  · have c : sI w 1 ≤ i := c
    have e : i = p := by omega
    subst e
    refine writes_m i3 (by omega) (fun v1 a1 b1 => ?_)
    have e2 : sI v1 2 = n - i := (mt_w hw b1).c.2
    rw [e2]
    refine Lp.inv (fun t : St × Int => -1 ≤ t.2 ∧ t.2 ≤ n - i - 1 ∧ Wrt 14 14 t.1 (txt2 W i (n - i - 1 - t.2).toNat) ∧ FrW 14 14 (pI v 0 0) t.1) (fun t => (t.2 + 1).toNat) _ ⟨by show -1 ≤ n - i - 1; omega, Int.le_refl _, by show Wrt 14 14 v1 (txt2 W i (n - i - 1 - (n - i - 1)).toNat); rw [Int.sub_self]; exact a1, i4.tr b1⟩ ?_
    rintro K2 ⟨w2, j⟩ ⟨j1, j2, j3, j4⟩ hK2
    have j1 : -1 ≤ j := j1
    have j2 : j ≤ n - i - 1 := j2
    have j3 : Wrt 14 14 w2 (txt2 W i (n - i - 1 - j).toNat) := j3
    have j4 : FrW 14 14 (pI v 0 0) w2 := j4
    have t2 := txt2_n W (p := i) (by omega) (n - i - 1 - j).toNat
    refine ⟨⟨by omega, by omega⟩, fun c2 => ?_, fun c2 => ?_⟩
    · have c2 : j < 0 := c2
      show post (sI w2 14) w2
      rw [show n - i - 1 - j = n - i by omega] at j3
      rw [j3.1]
      exact hp w2 j3 j4
    · have c2 : ¬ j < 0 := c2
      refine writes_m j3 (by omega) (fun v2 a2 b2 => ⟨by show 0 ≤ j; omega, by show j < 101; omega, ?_⟩)
      have hw3 := mt_w (mt_w h j4) b2
      have ej : sA v2 1 j = W (n - 1 - j) := hw3.2.2.2.2.2.2 j (by omega) (by show j < n - i; omega)
      show w_X10_writesWord _ v2 (sA v2 1 j)
      rw [ej]
      have e3 := txt2_s W i (i := n - i - 1 - j) (by omega)
      rw [show i + (n - i - 1 - j) = n - 1 - j by omega, show n - i - 1 - j + 1 = n - i - 1 - (j + -1) by omega] at e3
      refine writesWord_m (hW (n - 1 - j) (by omega) (by omega)) a2 (by show (txt2 W i (n - i - 1 - j).toNat).2 + 1 ≤ 710; omega) (fun v3 a3 b3 => hK2 _ ⟨by show -1 ≤ j + -1; omega, by show j + -1 ≤ n - i - 1; omega, ?_, (j4.tr b2).tr b3⟩ (by show (j + -1 + 1).toNat < (j + 1).toNat; omega))
      show Wrt 14 14 v3 (txt2 W i (n - i - 1 - (j + -1)).toNat)
      rw [e3]
      exact a3
  · have c : ¬ sI w 1 ≤ i := c
    have ei : sA w 0 i = W i := hw.2.2.2.2.2.1 i i1 (by show i < p; omega)
    show w_X10_writesWord _ w (sA w 0 i)
    rw [ei]
    have t2 := spell_n (W i) 6 (txt1 W i.toNat)
    refine writesWord_m (hW i i1 (by omega)) i3 (by omega) (fun v1 a1 b1 => writes_m a1 (by omega) (fun v2 a2 b2 => hK _ ⟨by show 0 ≤ i + 1; omega, by show i + 1 ≤ p; omega, ?_, (i4.tr b1).tr b2⟩ (by show (p - (i + 1)).toNat < (p - i).toNat; omega)))
    show Wrt 14 14 v2 (txt1 W (i + 1).toNat)
    rw [txt1_s W i1]
    exact a2
theorem aj_w {G : Gr} {u u' : St} {g : Sg} (h : AJ G u g) (hF : FrW 12 3 u u') : AJ G u' g := by
  refine ⟨txt_w h.1 hF, ?_⟩
  obtain ⟨h1, h2, h3, h4, h5, h6, h7, h8⟩ := h.2
  obtain ⟨f1, f2, -⟩ := hF
  unfold EJ
  rw [f1 5 (by decide), f1 4 (by decide), f1 7 (by decide), f1 6 (by decide), f1 8 (by decide), f2 0 (by decide), f2 1 (by decide), f2 2 (by decide)]
  exact ⟨h1, h2, h3, h4, h5, h6, h7, h8⟩
theorem st_32 (G : Gr) : St_32 G (Inv G) := by
  intro k c sl u v hk hI
  obtain ⟨g, hV, hA, hu, hv, hO⟩ := hI.2.2
  have b := hu.1.n100
  have t2 := txt2_n (gS g 0).2.2 (p := (gS g 0).2.1) b.1 ((gS g 0).1 - (gS g 0).2.1).toNat
  refine write_c hu.1 (fun u' a1 b1 => write_m hv.1 hu.1.2.2.2 (fun v' a2 b2 => ⟨rfl, inv_x hI ⟨g, hV, by omega, aj_w hu b1, mj_x hv (fun j q r => ?_) (fun j q => b2.2.1 j (by omega)), ?_⟩⟩))
  · rw [b2.1 j (by omega), sI_pI, if_neg (by omega)]
  · obtain ⟨h1, h2, h3, h4, h5, h6, h7, h8, h9, h10⟩ := hO
    unfold Ot
    rw [b1.1 14 (by decide), b1.1 1 (by decide), b1.1 2 (by decide), b1.2.1 6 (by decide), b2.1 6 (by decide), b2.1 11 (by decide), b2.1 12 (by decide), b2.2.1 6 (by decide), a1.1, a2.1]
    exact ⟨h1, h2, h3, h4, h5, h6, rfl, by omega, by omega, fun j q r => (a2.2.2 j q r).trans (a1.2.2 j q r).symm⟩
/-! the two shares -/
def sumL (W : Int → Int) : Nat → Int
  | 0 => 0
  | i + 1 => sumL W i + ltr 7 (W i)
theorem sumL_s (W : Int → Int) {i : Int} (h : 0 ≤ i) : sumL W (i + 1).toNat = sumL W i.toNat + ltr 7 (W i) := by
  rw [show (i + 1).toNat = i.toNat + 1 by omega]
  show sumL W i.toNat + ltr 7 (W (i.toNat : Int)) = _
  rw [show ((i.toNat : Nat) : Int) = i by omega]
theorem st_36 (G : Gr) : St_36 G (Inv G) := by
  intro k c sl u v hk hI
  obtain ⟨n, p, cap, d, W, hu, hv, -⟩ := inv_t hI
  have b := hv.b
  refine ln_length hu ⟨⟨by omega, by omega⟩, fun hn => ?_, fun hn => ?_⟩
  · refine Lp.inv (fun t : Int × Int => 0 ≤ t.2 ∧ t.2 ≤ n ∧ t.1 = sumL W t.2.toNat) (fun t => (n - t.2).toNat) _ ⟨Int.le_refl 0, by show 0 ≤ n; omega, rfl⟩ ?_
    rintro K ⟨y, i⟩ ⟨i1, i2, i3⟩ hK
    have i1 : 0 ≤ i := i1
    have i2 : i ≤ n := i2
    have i3 : y = sumL W i.toNat := i3
    refine ⟨⟨by omega, by omega⟩, ⟨by omega, by omega⟩, fun c r hr => ?_, fun c => ?_⟩
    · have c : n ≤ i := c
      have e : i = n := by omega
      subst e
      have hr : alike64 r (FP.ddiv (FP.i2d (Int32.ofInt y)) (FP.i2d (Int32.ofInt i))) = true := hr
      refine Lp.inv (fun t : Int × Int => 0 ≤ t.2 ∧ t.2 ≤ i ∧ t.1 = sumL W t.2.toNat) (fun t => (i - t.2).toNat) _ ⟨Int.le_refl 0, by show 0 ≤ i; omega, rfl⟩ ?_
      rintro K2 ⟨y2, j⟩ ⟨j1, j2, j3⟩ hK2
      have j1 : 0 ≤ j := j1
      have j2 : j ≤ i := j2
      have j3 : y2 = sumL W j.toNat := j3
      show b_X10_meanLetters_9 _ (pI v 0 0) K2 y2 j
      unfold b_X10_meanLetters_9
      refine many_ok (T := (i, p, W)) (v := pI v 0 0) hv ?_
      refine ⟨⟨by omega, by omega⟩, ⟨by show -2147483648 ≤ i; omega, by show i ≤ 2147483647; omega⟩, fun c2 => ?_, fun c2 => ?_⟩
      · have c2 : i ≤ j := c2
        have e2 : j = i := by omega
        refine many_ok (T := (i, p, W)) (v := pI v 0 0) hv ⟨⟨by show -2147483648 ≤ i; omega, by show i ≤ 2147483647; omega⟩, fun _ => many_ok (T := (i, p, W)) (v := pI v 0 0) hv (fun r2 hr2 => ⟨⟨_, hr, ?_⟩, inv_r hI⟩), fun e => absurd e hn⟩
        rw [i3, ← e2, ← j3]
        exact e2 ▸ hr2
      · have c2 : ¬ i ≤ j := c2
        refine wordIn_ok (T := (i, p, W)) (v := pI v 0 0) hv j1 (by show j < i; omega) (X10_letters_ok (hu.2.2.2 j j1 (by omega)).inr (hK2 _ ⟨by show 0 ≤ j + 1; omega, by show j + 1 ≤ i; omega, ?_⟩ (by show (i - (j + 1)).toNat < (i - j).toNat; omega)))
        show y2 + ltr 7 (W j) = sumL W (j + 1).toNat
        rw [sumL_s W j1, j3]
    · have c : ¬ n ≤ i := c
      refine ln_wordOf hu i1 (by omega) (X9_letters_ok (hu.2.2.2 i i1 (by omega)).inr (hK _ ⟨by show 0 ≤ i + 1; omega, by show i + 1 ≤ n; omega, ?_⟩ (by show (n - (i + 1)).toNat < (n - i).toNat; omega)))
      show y + ltr 7 (W i) = sumL W (i + 1).toNat
      rw [sumL_s W i1, i3]
  · refine Lp.inv (fun t : Int × Int => t = (0, 0)) (fun _ => 0) _ rfl ?_
    rintro K _ rfl hK
    show b_X10_meanLetters_9 _ (pI v 0 0) K 0 0
    unfold b_X10_meanLetters_9
    refine many_ok (T := (n, p, W)) (v := pI v 0 0) hv ⟨by decide, ⟨by show -2147483648 ≤ n; omega, by show n ≤ 2147483647; omega⟩, fun _ => many_ok (T := (n, p, W)) (v := pI v 0 0) hv ⟨⟨by show -2147483648 ≤ n; omega, by show n ≤ 2147483647; omega⟩, fun e => absurd hn e, fun _ => ⟨⟨_, alike64_refl _, alike64_refl _⟩, inv_r hI⟩⟩, fun e => absurd e (by show ¬ ¬ n ≤ 0; omega)⟩
theorem nan_f2d {a : UInt32} (h : isNaN32 a = true) : isNaN64 (FP.f2d a) = true := isNaN64_not.mpr (fun c => isNaN32_not.mp h ((Fl.noNaN_f2d a).mp c))
theorem alike_f2d {z y : UInt32} {r : UInt64} (h : alike32 z y = true) (hr : alike64 r (FP.f2d z) = true) : alike64 r (FP.f2d y) = true := by
  unfold alike32 at h
  rw [Bool.or_eq_true, decide_eq_true_eq, Bool.and_eq_true] at h
  rcases h with rfl | ⟨h1, h2⟩
  · exact hr
  · have k1 := nan_f2d h1
    have k2 := nan_f2d h2
    unfold alike64 at *
    rw [Bool.or_eq_true, decide_eq_true_eq, Bool.and_eq_true] at *
    rcases hr with rfl | ⟨h3, h4⟩
    · exact Or.inr ⟨k1, k2⟩
    · exact Or.inr ⟨h3, k2⟩
theorem st_37 (G : Gr) : St_37 G (Inv G) := by
  intro k c sl u v hk hI
  obtain ⟨n, p, cap, d, W, hu, hv, -⟩ := inv_t hI
  have b := hv.b
  have e1 := hv.c.1
  refine ln_length hu ⟨⟨by omega, by omega⟩, fun hn => ln_caret hu (fun r hr => ?_), fun hn => ?_⟩
  · refine many_ok (T := (n, p, W)) (v := pI v 0 0) hv ⟨⟨by show -2147483648 ≤ n; omega, by show n ≤ 2147483647; omega⟩, fun _ => many_ok (T := (n, p, W)) (v := pI v 0 0) hv (fun r2 hr2 => ⟨⟨FP.f2d (FP.fdiv (FP.i2f (Int32.ofInt p)) (FP.i2f (Int32.ofInt n))), fun q q' h h' => ⟨alike_f2d hr h, ?_⟩⟩, inv_r hI⟩), fun e => absurd e hn⟩
    rw [← e1]
    exact alike_f2d hr2 h'
  · refine many_ok (T := (n, p, W)) (v := pI v 0 0) hv ⟨⟨by show -2147483648 ≤ n; omega, by show n ≤ 2147483647; omega⟩, fun e => absurd hn e, fun _ => ⟨⟨_, fun q q' h h' => ⟨h, h'⟩⟩, inv_r hI⟩⟩
