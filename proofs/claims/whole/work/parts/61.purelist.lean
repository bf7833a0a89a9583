/-! the line of the list -/
/-- what the list's own acts leave alone -/
def FrA (G : Gr) (u u' : St) : Prop := (∀ k, k ≠ 10 → k ≠ 11 → sI u' k = sI u k) ∧ (∀ k, sA u' k = sA u k) ∧ (∀ k, k ≠ 0 → sR u' k = sR u k) ∧ (∀ q ∈ sL u, ∀ x b f, sF u q = ndE x b f → q ∈ sL u' ∧ sF u' q = ndE x b f) ∧ (∀ q v, isBox G u q v → isBox G u' q v)
theorem FrA.rf {G : Gr} {u : St} : FrA G u u := ⟨fun _ _ _ => rfl, fun _ => rfl, fun _ _ => rfl, fun q hq x b f h => ⟨hq, h⟩, fun _ _ h => h⟩
theorem FrA.tr {G : Gr} {u v w : St} (h : FrA G u v) (h' : FrA G v w) : FrA G u w := ⟨fun k a b => (h'.1 k a b).trans (h.1 k a b), fun k => (h'.2.1 k).trans (h.2.1 k), fun k a => (h'.2.2.1 k a).trans (h.2.2.1 k a), fun q hq x b f e => h'.2.2.2.1 q (h.2.2.2.1 q hq x b f e).1 x b f (h.2.2.2.1 q hq x b f e).2, fun q v e => h'.2.2.2.2 q v (h.2.2.2.2 q v e)⟩
def AL (G : Gr) (u : St) (n : Int) (W : Int → Int) (cap : Int) : Prop := 0 ≤ n ∧ n ≤ 100 ∧ sI u 11 = n ∧ ((cap = 0 ∧ n = 0 ∧ sR u 0 = some G.2.2.2.2) ∨ ∃ (ed N : Nat) (f : Nat → Option Nat), cap = N ∧ 10 ≤ N ∧ N ≤ 148 ∧ n ≤ N ∧ sR u 0 = some ed ∧ ed ∈ sL u ∧ sF u ed = arrE G N f ∧ ∀ j : Nat, (j : Int) < n → ∃ q, f j = some q ∧ isBox G u q (W j))
def ncap (cap n : Int) : Int := if n = cap then (if cap = 0 then 10 else cap + cap / 2) else cap
theorem isBox_arr {G : Gr} {u : St} {q ed n n' : Nat} {v : Int} {f f' : Nat → Option Nat} (h : isBox G u q v) (he : sF u ed = arrE G n f) : isBox G (pF u ed (arrE G n' f')) q v := by
  rcases h with ⟨h1, h2⟩ | h
  · refine Or.inl ⟨h1, ?_⟩
    rw [sF_pF]
    by_cases e : q = ed
    · subst e
      rw [he] at h2
      cases h2
    · rw [if_neg e]
      exact h2
  · exact Or.inr h
theorem isBox_new {G : Gr} {u : St} {q q0 : Nat} {v : Int} {x : va_E} (h : isBox G u q v) (he : q0 ∉ sL u) : isBox G (pN u q0 x) q v := by
  rcases h with ⟨h1, h2⟩ | h
  · refine Or.inl ⟨List.mem_append_left _ h1, ?_⟩
    rw [sF_pN, if_neg (fun (e : q = q0) => he (e ▸ h1))]
    exact h2
  · exact Or.inr h
theorem FrA.arr {G : Gr} {u : St} {ed n n' : Nat} {f f' : Nat → Option Nat} (he : sF u ed = arrE G n f) : FrA G u (pF u ed (arrE G n' f')) := ⟨fun _ _ _ => rfl, fun _ => rfl, fun _ _ => rfl, fun q hq x b f h => ⟨hq, by
  rw [sF_pF]
  by_cases e : q = ed
  · subst e
    rw [he] at h
    cases h
  · rw [if_neg e]
    exact h⟩, fun _ _ h => isBox_arr h he⟩
theorem FrA.new {G : Gr} {u : St} {q0 : Nat} {x : va_E} (he : q0 ∉ sL u) : FrA G u (pN u q0 x) := ⟨fun _ _ _ => rfl, fun _ => rfl, fun _ _ => rfl, fun q hq x b f h => ⟨List.mem_append_left _ hq, by
  rw [sF_pN, if_neg (fun (e : q = q0) => he (e ▸ hq))]
  exact h⟩, fun _ _ h => isBox_new h he⟩
theorem FrA.i10 {G : Gr} {u : St} {z : Int} : FrA G u (pI u 10 z) := ⟨fun k a b => by rw [sI_pI, if_neg a], fun _ => rfl, fun _ _ => rfl, fun q hq x b f h => ⟨hq, h⟩, fun _ _ h => h⟩
theorem FrA.i11 {G : Gr} {u : St} {z : Int} : FrA G u (pI u 11 z) := ⟨fun k a b => by rw [sI_pI, if_neg b], fun _ => rfl, fun _ _ => rfl, fun q hq x b f h => ⟨hq, h⟩, fun _ _ h => h⟩
theorem FrA.r0 {G : Gr} {u : St} {z : Option Nat} : FrA G u (pR u 0 z) := ⟨fun k a b => rfl, fun _ => rfl, fun k a => by rw [sR_pR, if_neg a], fun q hq x b f h => ⟨hq, h⟩, fun _ _ h => h⟩
theorem al_keep {G : Gr} {u u' : St} {n cap : Int} {W : Int → Int} (h : AL G u n W cap) (e11 : sI u' 11 = sI u 11) (eR : sR u' 0 = sR u 0) (eB : ∀ q v, isBox G u q v → isBox G u' q v) (eA : ∀ (q N : Nat) (f : Nat → Option Nat), q ∈ sL u → sF u q = arrE G N f → q ∈ sL u' ∧ sF u' q = arrE G N f) : AL G u' n W cap := by
  obtain ⟨h1, h2, h3, h4⟩ := h
  refine ⟨h1, h2, e11.trans h3, ?_⟩
  rcases h4 with ⟨a, b, c⟩ | ⟨ed, N, f, a, b, c, d, e, g, i, j⟩
  · exact Or.inl ⟨a, b, eR.trans c⟩
  · refine Or.inr ⟨ed, N, f, a, b, c, d, eR.trans e, (eA ed N f g i).1, (eA ed N f g i).2, fun k hk => ?_⟩
    obtain ⟨q, q1, q2⟩ := j k hk
    exact ⟨q, q1, eB q _ q2⟩
theorem add_fin {G : Gr} {w : St} {ed N q : Nat} {f : Nat → Option Nat} {n i x : Int} {W : Int → Int} (hed : ed ∈ sL w) (hf : sF w ed = arrE G N f) (hR : sR w 0 = some ed) (hN : 10 ≤ N ∧ N ≤ 148) (hn : 0 ≤ n ∧ n < 100) (hnN : n + 1 ≤ N) (hi : 0 ≤ i ∧ i ≤ n) (he : ∀ j : Nat, (j : Int) < n → ∃ q, f j = some q ∧ isBox G w q (W j)) (hq : isBox G w q x) : AL G (pI (pF (pF w ed (arrE G N (va_cpy f f i.toNat (i + 1).toNat (n - i).toNat))) ed (arrE G N (va_up (va_cpy f f i.toNat (i + 1).toNat (n - i).toNat) i.toNat (some q)))) 11 (n + 1)) (n + 1) (insW W i x) N ∧ FrA G w (pI (pF (pF w ed (arrE G N (va_cpy f f i.toNat (i + 1).toNat (n - i).toNat))) ed (arrE G N (va_up (va_cpy f f i.toNat (i + 1).toNat (n - i).toNat) i.toNat (some q)))) 11 (n + 1)) := by
  have hF : FrA G w (pI (pF (pF w ed (arrE G N (va_cpy f f i.toNat (i + 1).toNat (n - i).toNat))) ed (arrE G N (va_up (va_cpy f f i.toNat (i + 1).toNat (n - i).toNat) i.toNat (some q)))) 11 (n + 1)) := ((FrA.arr hf).tr (FrA.arr (by rw [sF_pF, if_pos rfl]))).tr FrA.i11
  refine ⟨⟨by omega, by omega, by rw [sI_pI, if_pos rfl], Or.inr ⟨ed, N, va_up (va_cpy f f i.toNat (i + 1).toNat (n - i).toNat) i.toNat (some q), rfl, hN.1, hN.2, hnN, hR, hed, ?_, fun j hj => ?_⟩⟩, hF⟩
  · rw [sF_pI, sF_pF, if_pos rfl]
  · unfold va_up va_cpy insW
    by_cases c1 : (j : Int) < i
    · rw [if_neg (by omega), if_neg (by omega), if_pos c1]
      obtain ⟨r, r1, r2⟩ := he j (by omega)
      exact ⟨r, r1, hF.2.2.2.2 _ _ r2⟩
    · by_cases c2 : (j : Int) = i
      · rw [if_pos (by omega), if_neg c1, if_pos c2]
        exact ⟨q, rfl, hF.2.2.2.2 _ _ hq⟩
      · rw [if_neg (by omega), if_pos (by omega), if_neg c1, if_neg c2]
        obtain ⟨r, r1, r2⟩ := he (j - 1) (by omega)
        refine ⟨r, ?_, ?_⟩
        · rw [← r1]
          congr 1
          omega
        · rw [show (j : Int) - 1 = ((j - 1 : Nat) : Int) by omega]
          exact hF.2.2.2.2 _ _ r2
theorem allBox_of {G : Gr} {u : St} {f : Nat → Option Nat} {n lo m : Int} {W : Int → Int} (he : ∀ j : Nat, (j : Int) < n → ∃ q, f j = some q ∧ isBox G u q (W j)) (h : lo + m ≤ n) : allBox G u f lo m := by
  intro j a b y hy
  obtain ⟨q, q1, q2⟩ := he j (by omega)
  rw [q1] at hy
  cases hy
  exact ⟨_, q2⟩
theorem al_add {post : St → Prop} {G : Gr} {u : St} {mc ms q : Nat} {n i x cap : Int} {W : Int → Int} (h : AL G u n W cap) (hn : n < 100) (hi : 0 ≤ i ∧ i ≤ n) (hq : isBox G u q x) (hmc : ncap cap n - cap ≤ mc) (hms : 4 * (ncap cap n - cap) ≤ ms) (hp : ∀ u', AL G u' (n + 1) (insW W i x) (ncap cap n) → FrA G u u' → post u') : w_Jx4a65c_add_7a177 post mc ms G u i (some q) := by
  obtain ⟨h1, h2, h3, h4⟩ := h
  subst h3
  unfold w_Jx4a65c_add_7a177 w_Jx4a65c_rangeCheckForAdd_d00df
  refine ⟨⟨by omega, by omega⟩, ⟨by omega, by omega⟩, fun c => absurd c (by omega), fun _ => ⟨fun _ => ?_, fun c => absurd c (by omega)⟩⟩
  rcases h4 with ⟨a, b, c⟩ | ⟨ed, N, f, a, b, c, d, e, g, k, j⟩
  · subst a
    have e0 : ncap 0 (sI u 11) = 10 := by rw [b]; rfl
    rw [e0] at hmc hms hp
    refine Or.inl ⟨c, ⟨by omega, by omega⟩, fun c => absurd b c, fun _ => ⟨1, 10, by omega, by omega, 1, 10, by omega, by omega, Or.inl ⟨c, ?_, ?_, by omega, by omega, fun q0 hq0 => ?_⟩⟩⟩
    · show 0 ≤ sI u 11 + 1
      omega
    · show sI u 11 + 1 ≤ 10
      omega
    · have hx := isBox_new (G := G) (x := arrE G 10 (fun _ => none)) hq hq0
      have hF : FrA G u (pR (pN (pI u 10 (sI u 10 + 1)) q0 (arrE G 10 (fun _ => none))) 0 (some q0)) := (FrA.i10.tr (FrA.new hq0)).tr FrA.r0
      have hfin := add_fin (G := G) (w := pR (pN (pI u 10 (sI u 10 + 1)) q0 (arrE G 10 (fun _ => none))) 0 (some q0)) (ed := q0) (N := 10) (q := q) (f := fun _ => none) (n := sI u 11) (i := i) (x := x) (W := W) (List.mem_append_right _ List.mem_cons_self) (by rw [sF_pR, sF_pN, if_pos rfl]) rfl (by omega) (by omega) (by omega) (by omega) (fun j hj => absurd hj (by omega)) hx
      refine ⟨q0, rfl, 10, fun _ => none, List.mem_append_right _ List.mem_cons_self, by rw [sF_pR, sF_pN, if_pos rfl], by omega, by omega, by omega, by omega, by omega, by omega, allBox_of (n := sI u 11) (W := W) (fun j hj => absurd hj (by omega)) (by omega), 10, _, List.mem_append_right _ List.mem_cons_self, by rw [sF_pF, if_pos rfl], by omega, by omega, q, x, rfl, isBox_arr hx (by rw [sF_pR, sF_pN, if_pos rfl]), ?_⟩
      exact hp _ hfin.1 (hF.tr hfin.2)
  · subst a
    refine Or.inr ⟨ed, e, N, f, g, k, by omega, ⟨by omega, by omega⟩, ⟨by omega, by omega⟩, fun c1 => ?_, fun c1 => ?_⟩
    · have e0 : ncap N (sI u 11) = N := by unfold ncap; rw [if_neg c1]
      rw [e0] at hp
      have hfin := add_fin (G := G) (w := pI u 10 (sI u 10 + 1)) (ed := ed) (N := N) (q := q) (f := f) (n := sI u 11) (i := i) (x := x) (W := W) g k e (by omega) (by omega) (by omega) hi j hq
      refine ⟨by omega, by omega, by omega, by omega, by omega, allBox_of (n := sI u 11) (W := W) j (by omega), N, _, g, by rw [sF_pF, if_pos rfl], by omega, by omega, q, x, rfl, isBox_arr hq k, ?_⟩
      exact hp _ hfin.1 (FrA.i10.tr hfin.2)
    · have e0 : ncap N (sI u 11) = ((N + N / 2 : Nat) : Int) := by unfold ncap; rw [if_pos c1, if_neg (by omega)]; omega
      rw [e0] at hp hmc hms
      refine ⟨1, N + N / 2, by omega, by omega, 1, N + N / 2, by omega, by omega, Or.inr ⟨ed, N, f, e, g, k, by omega, by omega, ?_, by omega, by omega, allBox_of (n := sI u 11) (W := W) j (by omega), fun q0 hq0 => ?_⟩⟩
      · show sI u 11 + 1 = N + 1
        omega
      · have hF : FrA G u (pR (pN (pI u 10 (sI u 10 + 1)) q0 (arrE G (N + N / 2) (va_cpy f (fun _ => none) 0 0 N))) 0 (some q0)) := (FrA.i10.tr (FrA.new hq0)).tr FrA.r0
        have hx := hF.2.2.2.2 _ _ hq
        have hj : ∀ j : Nat, (j : Int) < sI u 11 → ∃ q, va_cpy f (fun _ => none) 0 0 N j = some q ∧ isBox G (pR (pN (pI u 10 (sI u 10 + 1)) q0 (arrE G (N + N / 2) (va_cpy f (fun _ => none) 0 0 N))) 0 (some q0)) q (W j) := by
          intro t ht
          obtain ⟨r, r1, r2⟩ := j t ht
          refine ⟨r, ?_, hF.2.2.2.2 _ _ r2⟩
          unfold va_cpy
          rw [if_pos (by omega), ← r1]
          congr 1
          omega
        have hfin := add_fin (G := G) (w := pR (pN (pI u 10 (sI u 10 + 1)) q0 (arrE G (N + N / 2) (va_cpy f (fun _ => none) 0 0 N))) 0 (some q0)) (ed := q0) (N := N + N / 2) (q := q) (n := sI u 11) (i := i) (x := x) (W := W) (List.mem_append_right _ List.mem_cons_self) (by rw [sF_pR, sF_pN, if_pos rfl]) rfl (by omega) (by omega) (by omega) hi hj hx
        refine ⟨q0, rfl, N + N / 2, _, List.mem_append_right _ List.mem_cons_self, by rw [sF_pR, sF_pN, if_pos rfl], by omega, by omega, by omega, by omega, by omega, by omega, allBox_of (n := sI u 11) (W := W) hj (by omega), N + N / 2, _, List.mem_append_right _ List.mem_cons_self, by rw [sF_pF, if_pos rfl], by omega, by omega, q, x, rfl, isBox_arr hx (by rw [sF_pR, sF_pN, if_pos rfl]), ?_⟩
        exact hp _ hfin.1 (hF.tr hfin.2)
