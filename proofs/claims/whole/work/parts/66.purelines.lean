/-! the three lines, told the same -/
def Txt (G : Gr) (u : St) (n p : Int) (W : Int → Int) (cap : Int) : Prop := Lst G u n p W cap ∧ Chn u n p W ∧ Rows u n p W ∧ ∀ j, 0 ≤ j → j < n → isW (W j)
/-- what no act on the lines changes -/
def Fr (u u' : St) : Prop := (∀ k, k < 9 ∨ 13 < k → sI u' k = sI u k) ∧ (∀ k, k ≠ 3 → k ≠ 4 → k ≠ 5 → sA u' k = sA u k)
theorem Fr.rf {u : St} : Fr u u := ⟨fun _ _ => rfl, fun _ _ _ _ => rfl⟩
theorem Fr.tr {u v w : St} (h : Fr u v) (h' : Fr v w) : Fr u w := ⟨fun k a => (h'.1 k a).trans (h.1 k a), fun k a b c => (h'.2 k a b c).trans (h.2 k a b c)⟩
theorem fr_of {u u1 u2 u3 : St} (h1 : FrL u u1) (h2 : FrC u1 u2) (h3 : Els6 u2 u3) : Fr u u3 := ⟨fun k a => (h3.1 k).trans ((h2.1 k (by omega) (by omega)).trans (h1.1 k (by omega) (by omega) (by omega))), fun k a b c => (h3.2.2.2.2 k a b c).trans ((h2.2.1 k).trans (h1.2.1 k))⟩
theorem box_C {G : Gr} {u u' : St} {q : Nat} {v : Int} (h : isBox G u q v) (hF : FrC u u') : isBox G u' q v := by
  rcases h with ⟨a, b⟩ | h
  · refine Or.inl ⟨hF.2.2.2.1 ▸ a, ?_⟩
    rw [hF.2.2.2.2 q (fun x y z e => by rw [b] at e; cases e)]
    exact b
  · exact Or.inr h
theorem lst_C {G : Gr} {u u' : St} {n p cap : Int} {W : Int → Int} (h : Lst G u n p W cap) (hF : FrC u u') : Lst G u' n p W cap :=
  ⟨h.1, h.2.1, (hF.1 9 (by decide) (by decide)).trans h.2.2.1, al_keep h.2.2.2 (hF.1 11 (by decide) (by decide)) hF.2.2.1 (fun _ _ b => box_C b hF) (fun q N f m e => ⟨hF.2.2.2.1 ▸ m, by rw [hF.2.2.2.2 q (fun x y z e2 => by rw [e] at e2; cases e2)]; exact e⟩)⟩
theorem lst_E {G : Gr} {u u' : St} {n p cap : Int} {W : Int → Int} (h : Lst G u n p W cap) (hF : Els6 u u') : Lst G u' n p W cap :=
  ⟨h.1, h.2.1, (hF.1 9).trans h.2.2.1, al_keep h.2.2.2 (hF.1 11) (hF.2.1 0) (fun q v b => by unfold isBox at *; rw [hF.2.2.1, hF.2.2.2.1]; exact b) (fun q N f m e => by rw [hF.2.2.1, hF.2.2.2.1]; exact ⟨m, e⟩)⟩
theorem chn_L {u u' : St} {n p : Int} {W : Int → Int} (h : Chn u n p W) (hF : FrL u u') : Chn u' n p W := chn_keep h (hF.1 12 (by decide) (by decide) (by decide)) (hF.1 13 (by decide) (by decide) (by decide)) hF.2.2.1 hF.2.2.2
theorem chn_E {u u' : St} {n p : Int} {W : Int → Int} (h : Chn u n p W) (hF : Els6 u u') : Chn u' n p W := chn_keep h (hF.1 12) (hF.1 13) (fun k _ => hF.2.1 k) (fun q m x b f e => by rw [hF.2.2.1, hF.2.2.2.1]; exact ⟨m, e⟩)
theorem rows_A {u u' : St} {n p : Int} {W : Int → Int} (h : Rows u n p W) (hF : ∀ k, sA u' k = sA u k) : Rows u' n p W := by
  unfold Rows at *
  rw [hF, hF, hF]
  exact h
theorem common_eq {post : Int → St → Prop} {u : St} {z : Int} (h : InR z) (hp : post z u) : w_X3_common post u z z z := ⟨h, h, fun c => absurd rfl c, fun _ => ⟨h, fun _ => hp, fun c => absurd rfl c⟩⟩
theorem Txt.n100 {G : Gr} {u : St} {n p cap : Int} {W : Int → Int} (h : Txt G u n p W cap) : 0 ≤ p ∧ p ≤ n ∧ n ≤ 100 := ⟨h.1.1, h.1.2.1, h.1.2.2.2.2.1⟩
theorem ln_mk {G : Gr} {u1 u2 u3 : St} {n p cap : Int} {W : Int → Int} (a1 : Lst G u1 n p W cap) (a2 : Chn u2 n p W) (a3 : Rows u3 n p W) (b2 : FrC u1 u2) (b3 : Els6 u2 u3) (hW : ∀ j, 0 ≤ j → j < n → isW (W j)) : Txt G u3 n p W cap := ⟨lst_E (lst_C a1 b2) b3, chn_E a2 b3, a3, hW⟩
theorem ln_rw {u u1 u2 : St} {n p : Int} {W : Int → Int} (h : Rows u n p W) (b1 : FrL u u1) (b2 : FrC u1 u2) : Rows u2 n p W := rows_A (rows_A h b1.2.1) b2.2.1
theorem w_ins {n p x : Int} {W : Int → Int} (hW : ∀ j, 0 ≤ j → j < n → isW (W j)) (h0 : 0 ≤ p) (hp : p ≤ n) (hx : isW x) : ∀ j, 0 ≤ j → j < n + 1 → isW (insW W p x j) := by
  intro j a b
  unfold insW
  by_cases c : j < p
  · rw [if_pos c]
    exact hW j a (by omega)
  · rw [if_neg c]
    by_cases c2 : j = p
    · rw [if_pos c2]
      exact hx
    · rw [if_neg c2]
      exact hW _ (by omega) (by omega)
theorem w_set {n i x : Int} {W : Int → Int} (hW : ∀ j, 0 ≤ j → j < n → isW (W j)) (hx : isW x) : ∀ j, 0 ≤ j → j < n → isW (setW W i x j) := by
  intro j a b
  unfold setW
  by_cases c : j = i
  · rw [if_pos c]
    exact hx
  · rw [if_neg c]
    exact hW j a b
theorem w_drp {n q : Int} {W : Int → Int} (hW : ∀ j, 0 ≤ j → j < n → isW (W j)) : ∀ j, 0 ≤ j → j < n - 1 → isW (drpW W q j) := by
  intro j a b
  unfold drpW
  by_cases c : j < q
  · rw [if_pos c]
    exact hW j a (by omega)
  · rw [if_neg c]
    exact hW _ (by omega) (by omega)
theorem w_swp {n p : Int} {W : Int → Int} (hW : ∀ j, 0 ≤ j → j < n → isW (W j)) (h0 : 0 < p) (hn : p < n) : ∀ j, 0 ≤ j → j < n → isW (swpW W p j) := by
  intro j a b
  unfold swpW
  by_cases c : j = p - 1
  · rw [if_pos c]
    exact hW p (by omega) hn
  · rw [if_neg c]
    by_cases c2 : j = p
    · rw [if_pos c2]
      exact hW _ (by omega) (by omega)
    · rw [if_neg c2]
      exact hW j a b
theorem ln_next {post : Int → St → Prop} {G : Gr} {u : St} {n p cap : Int} {W : Int → Int} (h : Txt G u n p W cap) (hn : p < n) (hp : ∀ u', Txt G u' n (p + 1) W cap → Fr u u' → post (W p) u') : w_X3_pass post G u 0 :=
  lst_next h.1 hn (fun _ a1 b1 => chn_next (chn_L h.2.1 b1) hn (fun _ a2 b2 => rows_next (ln_rw h.2.2.1 b1 b2) hn (fun _ a3 b3 => common_eq (h.2.2.2 p h.1.1 hn).inr (hp _ (ln_mk a1 a2 a3 b2 b3 h.2.2.2) (fr_of b1 b2 b3)))))
theorem ln_prev {post : Int → St → Prop} {G : Gr} {u : St} {n p cap x : Int} {W : Int → Int} (hx : x ≠ 0) (hxr : InR x) (h : Txt G u n p W cap) (hn : 0 < p) (hp : ∀ u', Txt G u' n (p - 1) W cap → Fr u u' → post (W (p - 1)) u') : w_X3_pass post G u x :=
  lst_prev hx hxr h.1 hn (fun _ a1 b1 => chn_prev hx hxr (chn_L h.2.1 b1) hn (fun _ a2 b2 => rows_prev hx hxr (ln_rw h.2.2.1 b1 b2) hn (fun _ a3 b3 => common_eq (h.2.2.2 (p - 1) (by omega) (by have := h.n100; omega)).inr (hp _ (ln_mk a1 a2 a3 b2 b3 h.2.2.2) (fr_of b1 b2 b3)))))
theorem ln_insert {post : Int → St → Prop} {G : Gr} {u : St} {mc ms : Nat} {n p x cap : Int} {W : Int → Int} (h : Txt G u n p W cap) (hn : n < 100) (hx : isW x) (hc : 0 ≤ ncap cap n - cap) (hmc : 1 + (ncap cap n - cap) ≤ mc) (hms : 1 + 4 * (ncap cap n - cap) ≤ ms) (hp : ∀ u', Txt G u' (n + 1) (p + 1) (insW W p x) (ncap cap n) → Fr u u' → post (n + 1) u') : w_X3_insert post mc ms G u x :=
  ⟨mc, ms, by omega, by omega, lst_insert h.1 hn hx.inr hc hmc hms (fun _ a1 b1 => chn_insert (chn_L h.2.1 b1) hn (fun _ a2 b2 => rows_insert (ln_rw h.2.2.1 b1 b2) hn (fun _ a3 b3 => common_eq (by have := h.n100; exact ⟨by omega, by omega⟩) (hp _ (ln_mk a1 a2 a3 b2 b3 (w_ins h.2.2.2 h.1.1 h.1.2.1 hx)) (fr_of b1 b2 b3)))))⟩
theorem ln_exchA {post : Int → St → Prop} {G : Gr} {u : St} {mc ms : Nat} {n p x cap : Int} {W : Int → Int} (h : Txt G u n p W cap) (hn : p < n) (hx : isW x) (hmc : 1 ≤ mc) (hms : 1 ≤ ms) (hp : ∀ u', Txt G u' n p (setW W p x) cap → Fr u u' → post (W p) u') : w_X3_exchange post mc ms G u x 0 :=
  ⟨mc, ms, by omega, by omega, lst_exchA h.1 hn hx.inr hmc hms (fun _ a1 b1 => chn_exchA (chn_L h.2.1 b1) hn (fun _ a2 b2 => rows_exchA (ln_rw h.2.2.1 b1 b2) hn (fun _ a3 b3 => common_eq (h.2.2.2 p h.1.1 hn).inr (hp _ (ln_mk a1 a2 a3 b2 b3 (w_set h.2.2.2 hx)) (fr_of b1 b2 b3)))))⟩
theorem ln_exchB {post : Int → St → Prop} {G : Gr} {u : St} {mc ms : Nat} {n p x cap : Int} {W : Int → Int} (h : Txt G u n p W cap) (hn : 0 < p) (hx : isW x) (hmc : 1 ≤ mc) (hms : 1 ≤ ms) (hp : ∀ u', Txt G u' n p (setW W (p - 1) x) cap → Fr u u' → post (W (p - 1)) u') : w_X3_exchange post mc ms G u x 1 :=
  ⟨mc, ms, by omega, by omega, lst_exchB h.1 hn hx.inr hmc hms (fun _ a1 b1 => chn_exchB (chn_L h.2.1 b1) hn (fun _ a2 b2 => rows_exchB (ln_rw h.2.2.1 b1 b2) hn (fun _ a3 b3 => common_eq (h.2.2.2 (p - 1) (by omega) (by have := h.n100; omega)).inr (hp _ (ln_mk a1 a2 a3 b2 b3 (w_set h.2.2.2 hx)) (fr_of b1 b2 b3)))))⟩
theorem ln_dropA {post : Int → St → Prop} {G : Gr} {u : St} {n p cap : Int} {W : Int → Int} (h : Txt G u n p W cap) (hn : p < n) (hp : ∀ u', Txt G u' (n - 1) p (drpW W p) cap → Fr u u' → post (W p) u') : w_X3_drop post G u 0 :=
  lst_dropA h.1 hn (fun _ a1 b1 => chn_dropA (chn_L h.2.1 b1) hn (fun _ a2 b2 => rows_dropA (ln_rw h.2.2.1 b1 b2) hn (fun _ a3 b3 => common_eq (h.2.2.2 p h.1.1 hn).inr (hp _ (ln_mk a1 a2 a3 b2 b3 (w_drp h.2.2.2)) (fr_of b1 b2 b3)))))
theorem ln_dropB {post : Int → St → Prop} {G : Gr} {u : St} {n p cap : Int} {W : Int → Int} (h : Txt G u n p W cap) (hn : 0 < p) (hp : ∀ u', Txt G u' (n - 1) (p - 1) (drpW W (p - 1)) cap → Fr u u' → post (W (p - 1)) u') : w_X3_drop post G u 1 :=
  lst_dropB h.1 hn (fun _ a1 b1 => chn_dropB (chn_L h.2.1 b1) hn (fun _ a2 b2 => rows_dropB (ln_rw h.2.2.1 b1 b2) hn (fun _ a3 b3 => common_eq (h.2.2.2 (p - 1) (by omega) (by have := h.n100; omega)).inr (hp _ (ln_mk a1 a2 a3 b2 b3 (w_drp h.2.2.2)) (fr_of b1 b2 b3)))))
theorem ln_cross {post : Int → St → Prop} {G : Gr} {u : St} {mc ms : Nat} {n p cap : Int} {W : Int → Int} (h : Txt G u n p W cap) (h0 : 0 < p) (hn : p < n) (hp : ∀ u', Txt G u' n p (swpW W p) cap → Fr u u' → post (W p) u') : w_X3_cross post mc ms G u :=
  ⟨mc, ms, by omega, by omega, lst_cross h.1 h0 hn (fun _ a1 b1 => chn_cross (chn_L h.2.1 b1) h0 hn (fun _ a2 b2 => rows_cross (ln_rw h.2.2.1 b1 b2) h0 hn (fun _ a3 b3 => common_eq (h.2.2.2 p h.1.1 hn).inr (hp _ (ln_mk a1 a2 a3 b2 b3 (w_swp h.2.2.2 h0 hn)) (fr_of b1 b2 b3)))))⟩
theorem ln_empty {post : St → Prop} {G : Gr} {u : St} {n p cap : Int} {W : Int → Int} (W' : Int → Int) (h : Txt G u n p W cap) (hp : ∀ u', Txt G u' 0 0 W' cap → Fr u u' → post u') : w_X3_empty post G u :=
  lst_empty W' h.1 (fun _ a1 b1 => chn_empty W' (chn_L h.2.1 b1) (fun _ a2 b2 => rows_empty W' (fun _ a3 b3 => hp _ (ln_mk a1 a2 a3 b2 b3 (fun j a b => absurd b (by omega))) (fr_of b1 b2 b3))))
theorem Txt.c {G : Gr} {u : St} {n p cap : Int} {W : Int → Int} (h : Txt G u n p W cap) : sA u 5 0 = p ∧ sA u 5 1 = n - p := ⟨h.2.2.1.2.2.2.1, h.2.2.1.2.2.2.2.1⟩
theorem ln_caret {post : Int → Prop} {G : Gr} {u : St} {n p cap : Int} {W : Int → Int} (h : Txt G u n p W cap) (hp : post p) : w_X3_caret post u := by
  show post (sA u 5 0)
  rw [h.c.1]
  exact hp
theorem ln_length {post : Int → Prop} {G : Gr} {u : St} {n p cap : Int} {W : Int → Int} (h : Txt G u n p W cap) (hp : post n) : w_X3_length post u := by
  show post (sA u 5 0 + sA u 5 1)
  rw [h.c.1, h.c.2, show p + (n - p) = n by omega]
  exact hp
theorem ln_hasA {post : Int → Prop} {G : Gr} {u : St} {n p cap : Int} {W : Int → Int} (h : Txt G u n p W cap) (h0 : p = n → post 0) (h1 : p < n → post 1) : w_X3_has post u 0 := by
  have := h.n100
  refine ⟨by decide, fun _ => ?_, fun c => absurd rfl c⟩
  show (InR (sA u 5 0)) ∧ (InR (sA u 5 0 + sA u 5 1)) ∧ ((sA u 5 0 + sA u 5 1 ≤ sA u 5 0 → post 0) ∧ (¬ sA u 5 0 + sA u 5 1 ≤ sA u 5 0 → post 1))
  rw [h.c.1, h.c.2]
  exact ⟨⟨by omega, by omega⟩, ⟨by omega, by omega⟩, fun c => h0 (by omega), fun c => h1 (by omega)⟩
theorem ln_hasB {post : Int → Prop} {G : Gr} {u : St} {n p cap x : Int} {W : Int → Int} (hx : x ≠ 0) (hxr : InR x) (h : Txt G u n p W cap) (h0 : p = 0 → post 0) (h1 : 0 < p → post 1) : w_X3_has post u x := by
  have := h.n100
  refine ⟨hxr, fun c => absurd c hx, fun _ => ?_⟩
  show (InR (sA u 5 0)) ∧ ((sA u 5 0 ≤ 0 → post 0) ∧ (¬ sA u 5 0 ≤ 0 → post 1))
  rw [h.c.1]
  exact ⟨⟨by omega, by omega⟩, fun c => h0 (by omega), fun c => h1 (by omega)⟩
theorem ln_wordOf {post : Int → Prop} {G : Gr} {u : St} {n p cap j : Int} {W : Int → Int} (h : Txt G u n p W cap) (h0 : 0 ≤ j) (hn : j < n) (hp : post (W j)) : w_X3_wordOf post u j := rows_wordOf h.2.2.1 h0 hn hp
theorem ln_go {post : St → Prop} {G : Gr} {u : St} {n p cap i : Int} {W : Int → Int} (h : Txt G u n p W cap) (h0 : 0 ≤ i) (hn : i ≤ n) (hp : ∀ u', Txt G u' n i W cap → Fr u u' → post u') : w_X3_go post G u i := by
  have h3 := h.n100
  refine ln_caret h ⟨⟨by omega, by omega⟩, ⟨by omega, by omega⟩, fun c => ?_, fun c => ?_⟩
  · refine Lp.inv (fun t : St × Int => p ≤ p + t.2 ∧ p + t.2 ≤ i ∧ Txt G t.1 n (p + t.2) W cap ∧ Fr u t.1) (fun t => (i - p - t.2).toNat) _ ⟨by show p ≤ p + 0; omega, by show p + 0 ≤ i; omega, by show Txt G u n (p + 0) W cap; rw [Int.add_zero]; exact h, Fr.rf⟩ ?_
    rintro K ⟨w, x⟩ ⟨i1, i2, i3, i4⟩ hK
    have i1 : p ≤ p + x := i1
    have i2 : p + x ≤ i := i2
    have i3 : Txt G w n (p + x) W cap := i3
    refine ⟨⟨by omega, by omega⟩, fun c1 => ?_, fun _ => ?_⟩
    · have c1 : 100 ≤ x := c1
      rw [show p + x = i by omega] at i3
      exact hp w i3 i4
    refine ln_caret i3 ⟨⟨by omega, by omega⟩, ⟨by omega, by omega⟩, fun c1 => ?_, fun c1 => ?_⟩
    · rw [c1] at i3
      exact hp w i3 i4
    · exact ln_next (post := fun _ u' => K (u', x + 1)) i3 (by omega) (fun u' a b => hK _ ⟨by show p ≤ p + (x + 1); omega, by show p + (x + 1) ≤ i; omega, by show Txt G u' n (p + (x + 1)) W cap; rw [show p + (x + 1) = p + x + 1 by omega]; exact a, i4.tr b⟩ (by show (i - p - (x + 1)).toNat < (i - p - x).toNat; omega))
  · refine Lp.inv (fun t : St × Int => p - t.2 ≤ p ∧ i ≤ p - t.2 ∧ Txt G t.1 n (p - t.2) W cap ∧ Fr u t.1) (fun t => (p - i - t.2).toNat) _ ⟨by show p - 0 ≤ p; omega, by show i ≤ p - 0; omega, by show Txt G u n (p - 0) W cap; rw [Int.sub_zero]; exact h, Fr.rf⟩ ?_
    rintro K ⟨w, x⟩ ⟨i1, i2, i3, i4⟩ hK
    have i1 : p - x ≤ p := i1
    have i2 : i ≤ p - x := i2
    have i3 : Txt G w n (p - x) W cap := i3
    refine ⟨⟨by omega, by omega⟩, fun c1 => ?_, fun _ => ?_⟩
    · have c1 : 100 ≤ x := c1
      rw [show p - x = i by omega] at i3
      exact hp w i3 i4
    refine ln_caret i3 ⟨⟨by omega, by omega⟩, ⟨by omega, by omega⟩, fun c1 => ?_, fun c1 => ?_⟩
    · rw [c1] at i3
      exact hp w i3 i4
    · exact ln_prev (post := fun _ u' => K (u', x + 1)) (by decide) (by decide) i3 (by omega) (fun u' a b => hK _ ⟨by show p - (x + 1) ≤ p; omega, by show i ≤ p - (x + 1); omega, by show Txt G u' n (p - (x + 1)) W cap; rw [show p - (x + 1) = p - x - 1 by omega]; exact a, i4.tr b⟩ (by show (p - i - (x + 1)).toNat < (p - i - x).toNat; omega))
theorem ln_agree {post : Int → Prop} {G : Gr} {u : St} {n p cap : Int} {W : Int → Int} (h : Txt G u n p W cap) (hp : post 1) : w_X3_areListAndChainAlike post G u := by
  have h3 := h.n100
  have e9 : sI u 9 = p := h.1.2.2.1
  have e11 : sI u 11 = n := h.1.2.2.2.2.2.1
  have e12 : sI u 12 = p := h.2.1.2.2.2.1
  have e13 : sI u 13 = n := h.2.1.2.2.2.2.1
  show (InR (sI u 11)) ∧ _
  rw [e11, e12, e13, e9]
  refine ⟨⟨by omega, by omega⟩, ⟨by omega, by omega⟩, fun c => absurd rfl c, fun _ => ⟨⟨by omega, by omega⟩, ⟨by omega, by omega⟩, fun _ => ?_, fun c => absurd rfl c⟩⟩
  refine Lp.inv (fun x : Int => 0 ≤ x ∧ x ≤ n) (fun x => (n - x).toNat) _ ⟨by decide, by omega⟩ ?_
  rintro K x ⟨i1, i2⟩ hK
  show (InR x) ∧ (InR (sI u 11)) ∧ _
  rw [e11]
  refine ⟨⟨by omega, by omega⟩, ⟨by omega, by omega⟩, fun _ => hp, fun c => ?_⟩
  have hw := (h.2.2.2 x i1 (by omega)).inr
  exact lst_wordOf h.1 i1 (by omega) (chn_wordOf h.2.1 i1 (by omega) ⟨hw, hw, fun _ => hK _ ⟨by omega, by omega⟩ (by omega), fun c => absurd rfl c⟩)
