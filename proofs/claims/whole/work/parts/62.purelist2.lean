/-! the line of the list: its other acts -/
theorem AL.inr {G : Gr} {u : St} {n cap : Int} {W : Int → Int} (h : AL G u n W cap) (hn : 0 < n) : ∃ (ed N : Nat) (f : Nat → Option Nat), cap = N ∧ 10 ≤ N ∧ N ≤ 148 ∧ n ≤ N ∧ sR u 0 = some ed ∧ ed ∈ sL u ∧ sF u ed = arrE G N f ∧ ∀ j : Nat, (j : Int) < n → ∃ q, f j = some q ∧ isBox G u q (W j) := by
  rcases h.2.2.2 with ⟨a, b, c⟩ | h
  · omega
  · exact h
theorem al_get {post : Option Nat → Prop} {G : Gr} {u : St} {n i cap : Int} {W : Int → Int} (h : AL G u n W cap) (h0 : 0 ≤ i) (hn : i < n) (hp : ∀ q, isBox G u q (W i) → post (some q)) : w_Jx4a65c_get_915e3 post G u i := by
  obtain ⟨ed, N, f, a, b, c, d, e, g, k, j⟩ := h.inr (by omega)
  obtain ⟨h1, h2, h3, h4⟩ := h
  subst h3
  obtain ⟨q, q1, q2⟩ := j i.toNat (by omega)
  rw [show (i.toNat : Int) = i by omega] at q2
  refine ⟨⟨by omega, by omega⟩, fun c => absurd c (by omega), fun _ => ⟨⟨by omega, by omega⟩, fun _ => ⟨ed, e, N, f, g, k, by omega, by omega, by omega, ?_⟩, fun c => absurd c (by omega)⟩⟩
  rw [q1]
  exact hp q q2
theorem al_set {post : Option Nat → St → Prop} {G : Gr} {u : St} {q : Nat} {n i x cap : Int} {W : Int → Int} (h : AL G u n W cap) (h0 : 0 ≤ i) (hn : i < n) (hq : isBox G u q x) (hp : ∀ u' q0, isBox G u' q0 (W i) → AL G u' n (setW W i x) cap → FrA G u u' → post (some q0) u') : w_Jx4a65c_set_bcc79 post G u i (some q) := by
  obtain ⟨ed, N, f, a, b, c, d, e, g, k, j⟩ := h.inr (by omega)
  obtain ⟨h1, h2, h3, h4⟩ := h
  subst h3
  obtain ⟨q0, q1, q2⟩ := j i.toNat (by omega)
  rw [show (i.toNat : Int) = i by omega] at q2
  refine ⟨⟨by omega, by omega⟩, fun c => absurd c (by omega), fun _ => ⟨⟨by omega, by omega⟩, fun _ => ⟨ed, e, N, f, g, k, by omega, by omega, by omega, ed, e, N, f, g, k, by omega, by omega, by omega, q, x, rfl, hq, ?_⟩, fun c => absurd c (by omega)⟩⟩
  rw [q1]
  refine hp _ q0 (isBox_arr q2 k) ⟨h1, h2, rfl, Or.inr ⟨ed, N, va_up f i.toNat (some q), a, b, c, d, e, g, by rw [sF_pF, if_pos rfl], fun t ht => ?_⟩⟩ (FrA.arr k)
  unfold va_up setW
  by_cases c1 : (t : Int) = i
  · rw [if_pos (by omega), if_pos c1]
    exact ⟨q, rfl, isBox_arr hq k⟩
  · rw [if_neg (by omega), if_neg c1]
    obtain ⟨r, r1, r2⟩ := j t ht
    exact ⟨r, r1, isBox_arr r2 k⟩
theorem al_remove {post : Option Nat → St → Prop} {G : Gr} {u : St} {n i cap : Int} {W : Int → Int} (h : AL G u n W cap) (h0 : 0 ≤ i) (hn : i < n) (hp : ∀ u' q0, isBox G u' q0 (W i) → AL G u' (n - 1) (drpW W i) cap → FrA G u u' → post (some q0) u') : w_Jx4a65c_remove_915e3 post G u i := by
  obtain ⟨ed, N, f, a, b, c, d, e, g, k, j⟩ := h.inr (by omega)
  obtain ⟨h1, h2, h3, h4⟩ := h
  subst h3
  obtain ⟨q0, q1, q2⟩ := j i.toNat (by omega)
  rw [show (i.toNat : Int) = i by omega] at q2
  refine ⟨⟨by omega, by omega⟩, fun c => absurd c (by omega), fun _ => ⟨⟨by omega, by omega⟩, fun _ => ⟨ed, e, N, f, g, k, by omega, by omega, by omega, ⟨by omega, by omega⟩, ⟨by omega, by omega⟩, fun c1 => ?_, fun c1 => ?_⟩, fun c => absurd c (by omega)⟩⟩
  · refine ⟨ed, e, N, f, g, k, by omega, by omega, by omega, ?_⟩
    rw [q1]
    have hF : FrA G u (pF (pI (pI u 10 (sI u 10 + 1)) 11 (sI u 11 - 1)) ed (arrE G N (va_up f (sI u 11 - 1).toNat none))) := (FrA.i10.tr FrA.i11).tr (FrA.arr k)
    refine hp _ q0 (hF.2.2.2.2 _ _ q2) ⟨by omega, by omega, rfl, Or.inr ⟨ed, N, _, a, b, c, by omega, e, g, by rw [sF_pF, if_pos rfl], fun t ht => ?_⟩⟩ hF
    unfold va_up drpW
    rw [if_neg (by omega), if_pos (by omega)]
    obtain ⟨r, r1, r2⟩ := j t (by omega)
    exact ⟨r, r1, hF.2.2.2.2 _ _ r2⟩
  · refine ⟨ed, e, N, f, g, k, by omega, by omega, by omega, by omega, by omega, by omega, allBox_of (n := sI u 11) (W := W) j (by omega), N, _, g, by rw [sF_pI, sF_pF, if_pos rfl], by omega, by omega, by omega, ?_⟩
    rw [q1]
    have hF : FrA G u (pF (pI (pF (pI u 10 (sI u 10 + 1)) ed (arrE G N (va_cpy f f (i + 1).toNat i.toNat (sI u 11 - 1 - i).toNat))) 11 (sI u 11 - 1)) ed (arrE G N (va_up (va_cpy f f (i + 1).toNat i.toNat (sI u 11 - 1 - i).toNat) (sI u 11 - 1).toNat none))) := ((FrA.i10.tr (FrA.arr k)).tr FrA.i11).tr (FrA.arr (by rw [sF_pI, sF_pF, if_pos rfl]))
    refine hp _ q0 (hF.2.2.2.2 _ _ q2) ⟨by omega, by omega, rfl, Or.inr ⟨ed, N, _, a, b, c, by omega, e, g, by rw [sF_pF, if_pos rfl], fun t ht => ?_⟩⟩ hF
    unfold va_up va_cpy drpW
    rw [if_neg (by omega)]
    by_cases c2 : (t : Int) < i
    · rw [if_neg (by omega), if_pos c2]
      obtain ⟨r, r1, r2⟩ := j t (by omega)
      exact ⟨r, r1, hF.2.2.2.2 _ _ r2⟩
    · rw [if_pos (by omega), if_neg c2]
      obtain ⟨r, r1, r2⟩ := j (t + 1) (by omega)
      refine ⟨r, ?_, hF.2.2.2.2 _ _ r2⟩
      rw [← r1]
      congr 1
      omega
theorem al_clear {post : St → Prop} {G : Gr} {u : St} {n cap : Int} {W : Int → Int} (W' : Int → Int) (h : AL G u n W cap) (hp : ∀ u', AL G u' 0 W' cap → FrA G u u' → post u') : w_Jx4a65c_clear_da8c8 post G u := by
  obtain ⟨h1, h2, h3, h4⟩ := h
  subst h3
  unfold w_Jx4a65c_clear_da8c8
  rcases h4 with ⟨a, b, c⟩ | ⟨ed, N, f, a, b, c, d, e, g, k, j⟩
  · refine ⟨1, ⟨by omega, by omega⟩, ⟨by omega, by omega⟩, fun _ => ?_, fun c => absurd c (by omega)⟩
    exact hp _ ⟨by omega, by omega, rfl, Or.inl ⟨a, rfl, c⟩⟩ (FrA.i10.tr FrA.i11)
  · refine Lp.inv (fun t : St × Int => 0 ≤ t.2 ∧ t.2 ≤ sI u 11 ∧ FrA G u t.1 ∧ sI t.1 11 = 0 ∧ sR t.1 0 = some ed ∧ ed ∈ sL t.1 ∧ ∃ f, sF t.1 ed = arrE G N f) (fun t => (sI u 11 - t.2).toNat) _ ⟨by omega, by omega, FrA.i10.tr FrA.i11, rfl, e, g, f, k⟩ ?_
    rintro K ⟨w, x⟩ ⟨i1, i2, i3, i4, i5, i6, f', i7⟩ hK
    refine ⟨⟨by omega, by omega⟩, ⟨by omega, by omega⟩, fun _ => ?_, fun c => ⟨ed, e, N, f', i6, i7, by omega, by omega, by omega, ?_⟩⟩
    · exact hp _ ⟨by omega, by omega, i4, Or.inr ⟨ed, N, f', a, b, c, by omega, i5, i6, i7, fun t ht => absurd ht (by omega)⟩⟩ i3
    · exact hK _ ⟨by omega, by omega, i3.tr (FrA.arr i7), i4, i5, i6, _, by rw [sF_pF, if_pos rfl]⟩ (by show (sI u 11 - (x + 1)).toNat < (sI u 11 - x).toNat; omega)
theorem box_of {post : Option Nat → St → Prop} {G : Gr} {u : St} {mc ms : Nat} {v : Int} (hv : InR v) (hmc : 1 ≤ mc) (hms : 1 ≤ ms) (hp : ∀ u' q, isBox G u' q v → FrA G u u' → (∀ n W cap, AL G u n W cap → AL G u' n W cap) → post (some q) u') : w_J6_valueOf_2dffe post mc ms G u v := by
  refine ⟨hv, fun c => ?_, fun c => ⟨hmc, hms, fun q hq => ?_⟩⟩
  · exact hp u _ (Or.inr ⟨(v + 128).toNat, by omega, rfl, by omega⟩) FrA.rf (fun _ _ _ h => h)
  · refine hp _ q (Or.inl ⟨List.mem_append_right _ List.mem_cons_self, by rw [sF_pN, if_pos rfl]⟩) (FrA.new hq) (fun n W cap h => al_keep h rfl rfl (fun _ _ h => isBox_new h hq) (fun q1 N f m e => ⟨List.mem_append_left _ m, ?_⟩))
    rw [sF_pN, if_neg (fun (e : q1 = q) => hq (e ▸ m))]
    exact e
/-- the list with its caret -/
def Lst (G : Gr) (u : St) (n p : Int) (W : Int → Int) (cap : Int) : Prop := 0 ≤ p ∧ p ≤ n ∧ sI u 9 = p ∧ AL G u n W cap
def FrL (u u' : St) : Prop := (∀ k, k ≠ 9 → k ≠ 10 → k ≠ 11 → sI u' k = sI u k) ∧ (∀ k, sA u' k = sA u k) ∧ (∀ k, k ≠ 0 → sR u' k = sR u k) ∧ (∀ q ∈ sL u, ∀ x b f, sF u q = ndE x b f → q ∈ sL u' ∧ sF u' q = ndE x b f)
theorem FrA.L {G : Gr} {u u' : St} (h : FrA G u u') : FrL u u' := ⟨fun k _ b c => h.1 k b c, h.2.1, h.2.2.1, h.2.2.2.1⟩
theorem FrL.tr {u v w : St} (h : FrL u v) (h' : FrL v w) : FrL u w := ⟨fun k a b c => (h'.1 k a b c).trans (h.1 k a b c), fun k => (h'.2.1 k).trans (h.2.1 k), fun k a => (h'.2.2.1 k a).trans (h.2.2.1 k a), fun q hq x b f e => h'.2.2.2 q (h.2.2.2 q hq x b f e).1 x b f (h.2.2.2 q hq x b f e).2⟩
theorem FrL.i9 {u : St} {z : Int} : FrL u (pI u 9 z) := ⟨fun k a _ _ => by rw [sI_pI, if_neg a], fun _ => rfl, fun _ _ => rfl, fun q hq x b f h => ⟨hq, h⟩⟩
theorem al_i9 {G : Gr} {u : St} {n cap z : Int} {W : Int → Int} (h : AL G u n W cap) : AL G (pI u 9 z) n W cap := al_keep h rfl rfl (fun _ _ h => h) (fun q N f m e => ⟨m, e⟩)
theorem lst_next {post : Int → St → Prop} {G : Gr} {u : St} {n p cap : Int} {W : Int → Int} (h : Lst G u n p W cap) (hn : p < n) (hp : ∀ u', Lst G u' n (p + 1) W cap → FrL u u' → post (W p) u') : w_X4_pass post G u 0 := by
  obtain ⟨h1, h2, h3, h4⟩ := h
  have h5 := h4
  obtain ⟨a1, a2, a3, a4⟩ := h5
  subst h3
  subst a3
  refine ⟨⟨by omega, by omega⟩, fun _ => ⟨⟨by omega, by omega⟩, fun c => absurd c (by omega), fun _ => ⟨⟨by omega, by omega⟩, fun _ => ?_, fun c => absurd c (by omega)⟩⟩, fun c => absurd rfl c⟩
  refine al_get (al_i9 h4) h1 hn (fun q hq => ⟨q, _, rfl, hq, hp _ ⟨by omega, by omega, rfl, al_i9 h4⟩ FrL.i9⟩)
theorem lst_prev {post : Int → St → Prop} {G : Gr} {u : St} {n p cap x : Int} {W : Int → Int} (hx : x ≠ 0) (hxr : InR x) (h : Lst G u n p W cap) (hn : 0 < p) (hp : ∀ u', Lst G u' n (p - 1) W cap → FrL u u' → post (W (p - 1)) u') : w_X4_pass post G u x := by
  obtain ⟨h1, h2, h3, h4⟩ := h
  have h5 := h4
  obtain ⟨a1, a2, a3, a4⟩ := h5
  subst h3
  subst a3
  refine ⟨hxr, fun c => absurd c hx, fun _ => ⟨⟨by omega, by omega⟩, fun c => absurd c (by omega), fun _ => ⟨⟨by omega, by omega⟩, fun _ => ?_, fun c => absurd c (by omega)⟩⟩⟩
  refine al_get (al_i9 h4) (by omega) (by omega) (fun q hq => ⟨q, _, rfl, hq, hp _ ⟨by omega, by omega, rfl, al_i9 h4⟩ FrL.i9⟩)
theorem lst_insert {post : Int → St → Prop} {G : Gr} {u : St} {mc ms : Nat} {n p x cap : Int} {W : Int → Int} (h : Lst G u n p W cap) (hn : n < 100) (hx : InR x) (hc : 0 ≤ ncap cap n - cap) (hmc : 1 + (ncap cap n - cap) ≤ mc) (hms : 1 + 4 * (ncap cap n - cap) ≤ ms) (hp : ∀ u', Lst G u' (n + 1) (p + 1) (insW W p x) (ncap cap n) → FrL u u' → post (n + 1) u') : w_X4_insert post mc ms G u x := by
  obtain ⟨h1, h2, h3, h4⟩ := h
  have h5 := h4
  obtain ⟨a1, a2, a3, a4⟩ := h5
  subst h3
  subst a3
  refine ⟨⟨by omega, by omega⟩, fun c => absurd c (by omega), fun _ => ⟨⟨by omega, by omega⟩, fun c => absurd c (by omega), fun _ => ⟨⟨by omega, by omega⟩, fun _ => ⟨1, 1, by omega, by omega, ?_⟩, fun c => absurd c (by omega)⟩⟩⟩
  refine box_of hx (by omega) (by omega) (fun u1 q hq hF hA => ⟨mc - 1, ms - 1, by omega, by omega, ?_⟩)
  refine al_add (hA _ _ _ h4) hn ⟨h1, h2⟩ hq (by omega) (by omega) (fun u2 hA2 hF2 => ?_)
  have e9 : sI u2 9 = sI u 9 := (hF2.1 9 (by decide) (by decide)).trans (hF.1 9 (by decide) (by decide))
  have e11 : sI u2 11 = sI u 11 + 1 := hA2.2.2.1
  show post (sI u2 11) _
  rw [e11]
  exact hp _ ⟨by omega, by omega, by rw [sI_pI, if_pos rfl, e9], al_i9 hA2⟩ ((hF.L.tr hF2.L).tr FrL.i9)
theorem lst_exchA {post : Int → St → Prop} {G : Gr} {u : St} {mc ms : Nat} {n p x cap : Int} {W : Int → Int} (h : Lst G u n p W cap) (hn : p < n) (hx : InR x) (hmc : 1 ≤ mc) (hms : 1 ≤ ms) (hp : ∀ u', Lst G u' n p (setW W p x) cap → FrL u u' → post (W p) u') : w_X4_exchange post mc ms G u x 0 := by
  obtain ⟨h1, h2, h3, h4⟩ := h
  have h5 := h4
  obtain ⟨a1, a2, a3, a4⟩ := h5
  subst h3
  subst a3
  refine ⟨⟨by omega, by omega⟩, fun _ => ⟨⟨by omega, by omega⟩, fun c => absurd c (by omega), fun _ => ⟨⟨by omega, by omega⟩, fun _ => ⟨1, 1, by omega, by omega, ?_⟩, fun c => absurd c (by omega)⟩⟩, fun c => absurd rfl c⟩
  refine box_of hx (by omega) (by omega) (fun u1 q hq hF hA => ?_)
  refine al_set (hA _ _ _ h4) h1 hn hq (fun u2 q0 hb hA2 hF2 => ⟨q0, _, rfl, hb, ?_⟩)
  have e9 : sI u2 9 = sI u 9 := (hF2.1 9 (by decide) (by decide)).trans (hF.1 9 (by decide) (by decide))
  exact hp _ ⟨by omega, by omega, e9, hA2⟩ (hF.L.tr hF2.L)
theorem lst_exchB {post : Int → St → Prop} {G : Gr} {u : St} {mc ms : Nat} {n p x cap : Int} {W : Int → Int} (h : Lst G u n p W cap) (hn : 0 < p) (hx : InR x) (hmc : 1 ≤ mc) (hms : 1 ≤ ms) (hp : ∀ u', Lst G u' n p (setW W (p - 1) x) cap → FrL u u' → post (W (p - 1)) u') : w_X4_exchange post mc ms G u x 1 := by
  obtain ⟨h1, h2, h3, h4⟩ := h
  have h5 := h4
  obtain ⟨a1, a2, a3, a4⟩ := h5
  subst h3
  subst a3
  refine ⟨⟨by omega, by omega⟩, fun c => absurd c (by omega), fun _ => ⟨⟨by omega, by omega⟩, fun c => absurd c (by omega), fun _ => ⟨⟨by omega, by omega⟩, fun _ => ⟨1, 1, by omega, by omega, ?_⟩, fun c => absurd c (by omega)⟩⟩⟩
  refine box_of hx (by omega) (by omega) (fun u1 q hq hF hA => ?_)
  refine al_set (hA _ _ _ h4) (by omega) (by omega) hq (fun u2 q0 hb hA2 hF2 => ⟨q0, _, rfl, hb, ?_⟩)
  have e9 : sI u2 9 = sI u 9 := (hF2.1 9 (by decide) (by decide)).trans (hF.1 9 (by decide) (by decide))
  exact hp _ ⟨by omega, by omega, e9, hA2⟩ (hF.L.tr hF2.L)
theorem lst_dropA {post : Int → St → Prop} {G : Gr} {u : St} {n p cap : Int} {W : Int → Int} (h : Lst G u n p W cap) (hn : p < n) (hp : ∀ u', Lst G u' (n - 1) p (drpW W p) cap → FrL u u' → post (W p) u') : w_X4_drop post G u 0 := by
  obtain ⟨h1, h2, h3, h4⟩ := h
  have h5 := h4
  obtain ⟨a1, a2, a3, a4⟩ := h5
  subst h3
  subst a3
  refine ⟨⟨by omega, by omega⟩, fun _ => ⟨⟨by omega, by omega⟩, fun c => absurd c (by omega), fun _ => ⟨⟨by omega, by omega⟩, fun _ => ?_, fun c => absurd c (by omega)⟩⟩, fun c => absurd rfl c⟩
  refine al_remove (al_i9 h4) h1 hn (fun u2 q0 hb hA2 hF2 => ⟨q0, _, rfl, hb, ?_⟩)
  have e9 : sI u2 9 = sI u 9 - 0 := hF2.1 9 (by decide) (by decide)
  exact hp _ ⟨by omega, by omega, by omega, hA2⟩ (FrL.i9.tr hF2.L)
theorem lst_dropB {post : Int → St → Prop} {G : Gr} {u : St} {n p cap : Int} {W : Int → Int} (h : Lst G u n p W cap) (hn : 0 < p) (hp : ∀ u', Lst G u' (n - 1) (p - 1) (drpW W (p - 1)) cap → FrL u u' → post (W (p - 1)) u') : w_X4_drop post G u 1 := by
  obtain ⟨h1, h2, h3, h4⟩ := h
  have h5 := h4
  obtain ⟨a1, a2, a3, a4⟩ := h5
  subst h3
  subst a3
  refine ⟨⟨by omega, by omega⟩, fun c => absurd c (by omega), fun _ => ⟨⟨by omega, by omega⟩, fun c => absurd c (by omega), fun _ => ⟨⟨by omega, by omega⟩, fun _ => ?_, fun c => absurd c (by omega)⟩⟩⟩
  refine al_remove (al_i9 h4) (by omega) (by omega) (fun u2 q0 hb hA2 hF2 => ⟨q0, _, rfl, hb, ?_⟩)
  have e9 : sI u2 9 = sI u 9 - 1 := hF2.1 9 (by decide) (by decide)
  exact hp _ ⟨by omega, by omega, by omega, hA2⟩ (FrL.i9.tr hF2.L)
theorem swp_of (W : Int → Int) (p : Int) : insW (drpW W p) (p - 1) (W p) = swpW W p := by
  funext j
  unfold insW drpW swpW
  by_cases h : j = p - 1
  · subst h
    rw [if_neg (by omega), if_pos rfl, if_pos rfl]
  · by_cases h2 : j = p
    · subst h2
      rw [if_neg (by omega), if_neg h, if_pos (by omega), if_neg h, if_pos rfl]
    · rw [if_neg h, if_neg h, if_neg h2]
      by_cases h3 : j < p - 1
      · rw [if_pos h3, if_pos (by omega)]
      · rw [if_neg h3, if_neg (by omega)]
        congr 1
        omega
theorem lst_cross {post : Int → St → Prop} {G : Gr} {u : St} {mc ms : Nat} {n p cap : Int} {W : Int → Int} (h : Lst G u n p W cap) (h0 : 0 < p) (hn : p < n) (hp : ∀ u', Lst G u' n p (swpW W p) cap → FrL u u' → post (W p) u') : w_X4_cross post mc ms G u := by
  obtain ⟨h1, h2, h3, h4⟩ := h
  have h5 := h4
  have hcap : n ≤ cap := by
    obtain ⟨ed, N, f, a, b, c, d, e⟩ := h4.inr (by omega)
    omega
  obtain ⟨a1, a2, a3, a4⟩ := h5
  subst h3
  subst a3
  have en : ncap cap (sI u 11 - 1) = cap := by unfold ncap; rw [if_neg (by omega)]
  refine ⟨⟨by omega, by omega⟩, fun c => absurd c (by omega), fun _ => ⟨⟨by omega, by omega⟩, fun _ => ?_, fun c => absurd c (by omega)⟩⟩
  refine al_remove h4 (by omega) (by omega) (fun u1 q0 hb hA1 hF1 => ⟨q0, _, rfl, hb, mc, ms, by omega, by omega, ?_⟩)
  refine al_add hA1 (by omega) (by omega) hb (by rw [en]; omega) (by rw [en]; omega) (fun u2 hA2 hF2 => ?_)
  rw [en, swp_of, show sI u 11 - 1 + 1 = sI u 11 by omega] at hA2
  have e9 : sI u2 9 = sI u 9 := (hF2.1 9 (by decide) (by decide)).trans (hF1.1 9 (by decide) (by decide))
  refine al_get hA2 (by omega) (by omega) (fun q hq => ⟨q, _, rfl, hq, ?_⟩)
  rw [e9, show swpW W (sI u 9) (sI u 9 - 1) = W (sI u 9) by unfold swpW; rw [if_pos rfl]]
  exact hp _ ⟨by omega, by omega, e9, hA2⟩ (hF1.L.tr hF2.L)
theorem lst_empty {post : St → Prop} {G : Gr} {u : St} {n p cap : Int} {W : Int → Int} (W' : Int → Int) (h : Lst G u n p W cap) (hp : ∀ u', Lst G u' 0 0 W' cap → FrL u u' → post u') : w_X4_empty post G u :=
  al_clear W' h.2.2.2 (fun _ hA hF => hp _ ⟨by omega, by omega, rfl, al_i9 hA⟩ (hF.L.tr FrL.i9))
theorem lst_wordOf {post : Int → Prop} {G : Gr} {u : St} {n p cap j : Int} {W : Int → Int} (h : Lst G u n p W cap) (h0 : 0 ≤ j) (hn : j < n) (hp : post (W j)) : w_X4_wordOf post G u j := by
  obtain ⟨h1, h2, h3, h4⟩ := h
  have h5 := h4
  obtain ⟨a1, a2, a3, a4⟩ := h5
  subst a3
  exact ⟨⟨by omega, by omega⟩, fun c => absurd c (by omega), fun _ => ⟨⟨by omega, by omega⟩, fun c => absurd c (by omega), fun _ => al_get h4 h0 hn (fun q hq => ⟨q, _, rfl, hq, hp⟩)⟩⟩
