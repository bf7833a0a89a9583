/-! the pure side: a text of n words, the caret ahead of place p; in two rows, the nearest word last in both -/
def insW (W : Int → Int) (p x : Int) : Int → Int := fun j => if j < p then W j else if j = p then x else W (j - 1)
def drpW (W : Int → Int) (q : Int) : Int → Int := fun j => if j < q then W j else W (j + 1)
def setW (W : Int → Int) (i x : Int) : Int → Int := fun j => if j = i then x else W j
def swpW (W : Int → Int) (p : Int) : Int → Int := fun j => if j = p - 1 then W p else if j = p then W (p - 1) else W j
theorem drp_ins (W : Int → Int) (p x : Int) : drpW (insW W p x) p = W := by
  funext j
  unfold drpW insW
  by_cases h : j < p
  · simp [h]
  · simp only [if_neg h, if_neg (show ¬ j + 1 < p by omega), if_neg (show ¬ j + 1 = p by omega)]
    congr 1
    omega
theorem ins_drp (W : Int → Int) (q : Int) : insW (drpW W q) q (W q) = W := by
  funext j
  unfold drpW insW
  by_cases h : j < q
  · simp [h]
  · by_cases h2 : j = q
    · simp [h2]
    · simp only [if_neg h, if_neg h2, if_neg (show ¬ j - 1 < q by omega)]
      congr 1
      omega
theorem set_set (W : Int → Int) (i x : Int) : setW (setW W i x) i (W i) = W := by
  funext j
  unfold setW
  by_cases h : j = i
  · simp [h]
  · simp [h]
theorem swp_swp (W : Int → Int) (p : Int) : swpW (swpW W p) p = W := by
  funext j
  unfold swpW
  by_cases h : j = p - 1
  · subst h
    simp
    intro h3
    omega
  · by_cases h2 : j = p
    · subst h2
      rw [if_neg h, if_pos rfl, if_pos rfl]
    · simp [h, h2]
def TA (a b : Int → Int) (c d n p : Int) (W : Int → Int) : Prop := 0 ≤ p ∧ p ≤ n ∧ n ≤ 100 ∧ c = p ∧ d = n - p ∧ (∀ j, 0 ≤ j → j < p → a j = W j) ∧ (∀ j, 0 ≤ j → j < n - p → b j = W (n - 1 - j))
theorem TA.last {a b : Int → Int} {c d n p : Int} {W : Int → Int} (h : TA a b c d n p W) (hn : p < n) : b (d - 1) = W p := by
  obtain ⟨h1, h2, h3, h4, h5, h6, h7⟩ := h
  rw [h5, h7 (n - p - 1) (by omega) (by omega)]
  congr 1
  omega
theorem TA.first {a b : Int → Int} {c d n p : Int} {W : Int → Int} (h : TA a b c d n p W) (hn : 0 < p) : a (c - 1) = W (p - 1) := by
  obtain ⟨h1, h2, h3, h4, h5, h6, h7⟩ := h
  rw [h4, h6 (p - 1) (by omega) (by omega)]
theorem TA.next {a b : Int → Int} {c d n p : Int} {W : Int → Int} (h : TA a b c d n p W) (hn : p < n) : TA (zset a c (b (d - 1))) b (c + 1) (d - 1) n (p + 1) W := by
  have e := h.last hn
  obtain ⟨h1, h2, h3, h4, h5, h6, h7⟩ := h
  rw [e]
  refine ⟨by omega, by omega, by omega, by omega, by omega, fun j a b => ?_, fun j a b => h7 j a (by omega)⟩
  rw [zset_at]
  by_cases hj : j = c
  · rw [if_pos hj, hj, h4]
  · rw [if_neg hj]
    exact h6 j a (by omega)
theorem TA.prev {a b : Int → Int} {c d n p : Int} {W : Int → Int} (h : TA a b c d n p W) (hn : 0 < p) : TA a (zset b d (a (c - 1))) (c - 1) (d + 1) n (p - 1) W := by
  have e := h.first hn
  obtain ⟨h1, h2, h3, h4, h5, h6, h7⟩ := h
  rw [e]
  refine ⟨by omega, by omega, by omega, by omega, by omega, fun j a b => h6 j a (by omega), fun j a b => ?_⟩
  rw [zset_at]
  by_cases hj : j = d
  · rw [if_pos hj, hj, h5]
    congr 1
    omega
  · rw [if_neg hj]
    exact h7 j a (by omega)
theorem TA.ins {a b : Int → Int} {c d n p : Int} {W : Int → Int} (x : Int) (h : TA a b c d n p W) (hn : n < 100) : TA (zset a c x) b (c + 1) d (n + 1) (p + 1) (insW W p x) := by
  obtain ⟨h1, h2, h3, h4, h5, h6, h7⟩ := h
  refine ⟨by omega, by omega, by omega, by omega, by omega, fun j a b => ?_, fun j a b => ?_⟩
  · rw [zset_at]
    unfold insW
    by_cases hj : j = c
    · rw [if_pos hj, if_neg (by omega), if_pos (by omega)]
    · rw [if_neg hj, if_pos (by omega)]
      exact h6 j a (by omega)
  · unfold insW
    rw [if_neg (by omega), if_neg (by omega), h7 j a (by omega)]
    congr 1
    omega
theorem TA.setB {a b : Int → Int} {c d n p : Int} {W : Int → Int} (x : Int) (h : TA a b c d n p W) (hn : 0 < p) : TA (zset a (c - 1) x) b c d n p (setW W (p - 1) x) := by
  obtain ⟨h1, h2, h3, h4, h5, h6, h7⟩ := h
  refine ⟨h1, h2, h3, h4, h5, fun j a b => ?_, fun j a b => ?_⟩
  · rw [zset_at]
    unfold setW
    by_cases hj : j = c - 1
    · rw [if_pos hj, if_pos (by omega)]
    · rw [if_neg hj, if_neg (by omega)]
      exact h6 j a b
  · unfold setW
    rw [if_neg (by omega)]
    exact h7 j a b
theorem TA.setA {a b : Int → Int} {c d n p : Int} {W : Int → Int} (x : Int) (h : TA a b c d n p W) (hn : p < n) : TA a (zset b (d - 1) x) c d n p (setW W p x) := by
  obtain ⟨h1, h2, h3, h4, h5, h6, h7⟩ := h
  refine ⟨h1, h2, h3, h4, h5, fun j a b => ?_, fun j a b => ?_⟩
  · unfold setW
    rw [if_neg (by omega)]
    exact h6 j a b
  · rw [zset_at]
    unfold setW
    by_cases hj : j = d - 1
    · rw [if_pos hj, if_pos (by omega)]
    · rw [if_neg hj, if_neg (by omega)]
      exact h7 j a b
theorem TA.drpB {a b : Int → Int} {c d n p : Int} {W : Int → Int} (h : TA a b c d n p W) (hn : 0 < p) : TA a b (c - 1) d (n - 1) (p - 1) (drpW W (p - 1)) := by
  obtain ⟨h1, h2, h3, h4, h5, h6, h7⟩ := h
  refine ⟨by omega, by omega, by omega, by omega, by omega, fun j a b => ?_, fun j a b => ?_⟩
  · unfold drpW
    rw [if_pos (by omega)]
    exact h6 j a (by omega)
  · unfold drpW
    rw [if_neg (by omega), h7 j a (by omega)]
    congr 1
    omega
theorem TA.drpA {a b : Int → Int} {c d n p : Int} {W : Int → Int} (h : TA a b c d n p W) (hn : p < n) : TA a b c (d - 1) (n - 1) p (drpW W p) := by
  obtain ⟨h1, h2, h3, h4, h5, h6, h7⟩ := h
  refine ⟨by omega, by omega, by omega, by omega, by omega, fun j a b => ?_, fun j a b => ?_⟩
  · unfold drpW
    rw [if_pos (by omega)]
    exact h6 j a (by omega)
  · unfold drpW
    rw [if_neg (by omega), h7 j a (by omega)]
    congr 1
    omega
theorem TA.swp {a b : Int → Int} {c d n p : Int} {W : Int → Int} (h : TA a b c d n p W) (hp : 0 < p) (hn : p < n) : TA (zset a (c - 1) (b (d - 1))) (zset b (d - 1) (a (c - 1))) c d n p (swpW W p) := by
  have e1 := h.first hp
  have e2 := h.last hn
  obtain ⟨h1, h2, h3, h4, h5, h6, h7⟩ := h
  rw [e1, e2]
  refine ⟨h1, h2, h3, h4, h5, fun j a b => ?_, fun j a b => ?_⟩
  · rw [zset_at]
    unfold swpW
    by_cases hj : j = c - 1
    · rw [if_pos hj, if_pos (by omega)]
    · rw [if_neg hj, if_neg (by omega), if_neg (by omega)]
      exact h6 j a b
  · rw [zset_at]
    unfold swpW
    by_cases hj : j = d - 1
    · rw [if_pos hj, if_neg (by omega), if_pos (by omega)]
    · rw [if_neg hj, if_neg (by omega), if_neg (by omega)]
      exact h7 j a b
theorem TA.nil {a b : Int → Int} {W : Int → Int} : TA a b 0 0 0 0 W := ⟨by omega, by omega, by omega, rfl, rfl, fun j a b => absurd b (by omega), fun j a b => absurd b (by omega)⟩
theorem TA.at {a b : Int → Int} {c d n p j : Int} {W : Int → Int} (h : TA a b c d n p W) (hj : p ≤ j) (hn : j < n) : b (d - 1 - (j - c)) = W j := by
  obtain ⟨h1, h2, h3, h4, h5, h6, h7⟩ := h
  rw [h7 (d - 1 - (j - c)) (by omega) (by omega)]
  congr 1
  omega
/-! the line of rows -/
def Rows (u : St) (n p : Int) (W : Int → Int) : Prop := TA (sA u 3) (sA u 4) (sA u 5 0) (sA u 5 1) n p W
def Els6 (u u' : St) : Prop := (∀ k, sI u' k = sI u k) ∧ (∀ k, sR u' k = sR u k) ∧ sL u' = sL u ∧ sF u' = sF u ∧ ∀ k, k ≠ 3 → k ≠ 4 → k ≠ 5 → sA u' k = sA u k
theorem rows_next {post : Int → St → Prop} {u : St} {n p : Int} {W : Int → Int} (h : Rows u n p W) (hn : p < n) (hp : ∀ u', Rows u' n (p + 1) W → Els6 u u' → post (W p) u') : w_X6_pass post u 0 := by
  have hT := TA.next h hn
  have e := TA.last h hn
  obtain ⟨h1, h2, h3, h4, h5, h6, h7⟩ := h
  have key : post (W p) (pA (pA (pA u 5 1 (sA u 5 1 - 1)) 3 (sA u 5 0) (sA u 4 (sA u 5 1 - 1))) 5 0 (sA u 5 0 + 1)) := hp _ hT ⟨fun _ => rfl, fun _ => rfl, rfl, rfl, fun k k3 k4 k5 => by simp [sA_pA, k3, k5]⟩
  exact ⟨⟨by omega, by omega⟩, fun _ => ⟨⟨by omega, by omega⟩, fun c => absurd c (by omega), fun _ => ⟨⟨by omega, by omega⟩, fun _ => ⟨by omega, by omega, by omega, by omega, by rw [e]; rw [e] at key; exact key⟩, fun c => absurd c (by omega)⟩⟩, fun c => absurd rfl c⟩
theorem rows_prev {post : Int → St → Prop} {u : St} {n p : Int} {W : Int → Int} {x : Int} (hx : x ≠ 0) (hxr : InR x) (h : Rows u n p W) (hn : 0 < p) (hp : ∀ u', Rows u' n (p - 1) W → Els6 u u' → post (W (p - 1)) u') : w_X6_pass post u x := by
  have hT := TA.prev h hn
  have e := TA.first h hn
  obtain ⟨h1, h2, h3, h4, h5, h6, h7⟩ := h
  have key : post (W (p - 1)) (pA (pA (pA u 5 0 (sA u 5 0 - 1)) 4 (sA u 5 1) (sA u 3 (sA u 5 0 - 1))) 5 1 (sA u 5 1 + 1)) := hp _ hT ⟨fun _ => rfl, fun _ => rfl, rfl, rfl, fun k k3 k4 k5 => by simp [sA_pA, k4, k5]⟩
  exact ⟨hxr, fun c => absurd c hx, fun _ => ⟨⟨by omega, by omega⟩, fun c => absurd c (by omega), fun _ => ⟨⟨by omega, by omega⟩, fun _ => ⟨by omega, by omega, by omega, by omega, by rw [e]; rw [e] at key; exact key⟩, fun c => absurd c (by omega)⟩⟩⟩
theorem rows_insert {post : Int → St → Prop} {u : St} {n p x : Int} {W : Int → Int} (h : Rows u n p W) (hn : n < 100) (hp : ∀ u', Rows u' (n + 1) (p + 1) (insW W p x) → Els6 u u' → post (n + 1) u') : w_X6_insert post u x := by
  have hT := TA.ins x h hn
  obtain ⟨h1, h2, h3, h4, h5, h6, h7⟩ := h
  have key : post (n + 1) (pA (pA u 3 (sA u 5 0) x) 5 0 (sA u 5 0 + 1)) := hp _ hT ⟨fun _ => rfl, fun _ => rfl, rfl, rfl, fun k k3 k4 k5 => by simp [sA_pA, k3, k5]⟩
  have e : sA (pA (pA u 3 (sA u 5 0) x) 5 0 (sA u 5 0 + 1)) 5 0 + sA (pA (pA u 3 (sA u 5 0) x) 5 0 (sA u 5 0 + 1)) 5 1 = n + 1 := by
    show sA u 5 0 + 1 + sA u 5 1 = n + 1
    omega
  exact ⟨⟨by omega, by omega⟩, fun _ => ⟨by omega, by omega, by unfold w_X6_length; rw [e]; exact key⟩, fun c => absurd c (by omega)⟩
theorem rows_exchA {post : Int → St → Prop} {u : St} {n p x : Int} {W : Int → Int} (h : Rows u n p W) (hn : p < n) (hp : ∀ u', Rows u' n p (setW W p x) → Els6 u u' → post (W p) u') : w_X6_exchange post u x 0 := by
  have hT := TA.setA x h hn
  have e := TA.last h hn
  obtain ⟨h1, h2, h3, h4, h5, h6, h7⟩ := h
  have key : post (W p) (pA u 4 (sA u 5 1 - 1) x) := hp _ hT ⟨fun _ => rfl, fun _ => rfl, rfl, rfl, fun k k3 k4 k5 => by simp [sA_pA, k4]⟩
  exact ⟨⟨by omega, by omega⟩, fun _ => ⟨⟨by omega, by omega⟩, fun _ => ⟨by omega, by omega, by rw [e]; exact key⟩, fun c => absurd c (by omega)⟩, fun c => absurd rfl c⟩
theorem rows_exchB {post : Int → St → Prop} {u : St} {n p x : Int} {W : Int → Int} (h : Rows u n p W) (hn : 0 < p) (hp : ∀ u', Rows u' n p (setW W (p - 1) x) → Els6 u u' → post (W (p - 1)) u') : w_X6_exchange post u x 1 := by
  have hT := TA.setB x h hn
  have e := TA.first h hn
  obtain ⟨h1, h2, h3, h4, h5, h6, h7⟩ := h
  have key : post (W (p - 1)) (pA u 3 (sA u 5 0 - 1) x) := hp _ hT ⟨fun _ => rfl, fun _ => rfl, rfl, rfl, fun k k3 k4 k5 => by simp [sA_pA, k3]⟩
  exact ⟨⟨by omega, by omega⟩, fun c => absurd c (by omega), fun _ => ⟨⟨by omega, by omega⟩, fun _ => ⟨by omega, by omega, by rw [e]; exact key⟩, fun c => absurd c (by omega)⟩⟩
theorem rows_dropA {post : Int → St → Prop} {u : St} {n p : Int} {W : Int → Int} (h : Rows u n p W) (hn : p < n) (hp : ∀ u', Rows u' (n - 1) p (drpW W p) → Els6 u u' → post (W p) u') : w_X6_drop post u 0 := by
  have hT := TA.drpA h hn
  have e := TA.last h hn
  obtain ⟨h1, h2, h3, h4, h5, h6, h7⟩ := h
  have key : post (W p) (pA u 5 1 (sA u 5 1 - 1)) := hp _ hT ⟨fun _ => rfl, fun _ => rfl, rfl, rfl, fun k k3 k4 k5 => by simp [sA_pA, k5]⟩
  exact ⟨⟨by omega, by omega⟩, fun _ => ⟨⟨by omega, by omega⟩, fun _ => ⟨by omega, by omega, by rw [e]; exact key⟩, fun c => absurd c (by omega)⟩, fun c => absurd rfl c⟩
theorem rows_dropB {post : Int → St → Prop} {u : St} {n p : Int} {W : Int → Int} (h : Rows u n p W) (hn : 0 < p) (hp : ∀ u', Rows u' (n - 1) (p - 1) (drpW W (p - 1)) → Els6 u u' → post (W (p - 1)) u') : w_X6_drop post u 1 := by
  have hT := TA.drpB h hn
  have e := TA.first h hn
  obtain ⟨h1, h2, h3, h4, h5, h6, h7⟩ := h
  have key : post (W (p - 1)) (pA u 5 0 (sA u 5 0 - 1)) := hp _ hT ⟨fun _ => rfl, fun _ => rfl, rfl, rfl, fun k k3 k4 k5 => by simp [sA_pA, k5]⟩
  exact ⟨⟨by omega, by omega⟩, fun c => absurd c (by omega), fun _ => ⟨⟨by omega, by omega⟩, fun _ => ⟨by omega, by omega, by rw [e]; exact key⟩, fun c => absurd c (by omega)⟩⟩
theorem rows_cross {post : Int → St → Prop} {u : St} {n p : Int} {W : Int → Int} (h : Rows u n p W) (h0 : 0 < p) (hn : p < n) (hp : ∀ u', Rows u' n p (swpW W p) → Els6 u u' → post (W p) u') : w_X6_cross post u := by
  have hT := TA.swp h h0 hn
  have e := TA.last h hn
  obtain ⟨h1, h2, h3, h4, h5, h6, h7⟩ := h
  have key : post (W p) (pA (pA u 4 (sA u 5 1 - 1) (sA u 3 (sA u 5 0 - 1))) 3 (sA u 5 0 - 1) (sA u 4 (sA u 5 1 - 1))) := hp _ hT ⟨fun _ => rfl, fun _ => rfl, rfl, rfl, fun k k3 k4 k5 => by simp [sA_pA, k3, k4]⟩
  exact ⟨⟨by omega, by omega⟩, fun c => absurd c (by omega), fun _ => ⟨⟨by omega, by omega⟩, fun _ => ⟨by omega, by omega, by omega, by omega, by rw [e]; rw [e] at key; exact key⟩, fun c => absurd c (by omega)⟩⟩
theorem rows_empty {post : St → Prop} {u : St} (W : Int → Int) (hp : ∀ u', Rows u' 0 0 W → Els6 u u' → post u') : w_X6_empty post u :=
  hp _ TA.nil ⟨fun _ => rfl, fun _ => rfl, rfl, rfl, fun k k3 k4 k5 => by simp [sA_pA, k5]⟩
theorem rows_wordOf {post : Int → Prop} {u : St} {n p j : Int} {W : Int → Int} (h : Rows u n p W) (h0 : 0 ≤ j) (hn : j < n) (hp : post (W j)) : w_X6_wordOf post u j := by
  have hT := fun (hj : p ≤ j) => TA.at h hj hn
  obtain ⟨h1, h2, h3, h4, h5, h6, h7⟩ := h
  refine ⟨⟨by omega, by omega⟩, fun c => absurd c (by omega), fun _ => ⟨⟨by omega, by omega⟩, fun _ => ⟨⟨by omega, by omega⟩, fun c => ⟨by omega, by omega, ?_⟩, fun c => ⟨by omega, by omega, ?_⟩⟩, fun c => absurd c (by omega)⟩⟩
  · have e := hT (by omega)
    rw [show sA u 5 0 + sA u 5 1 - 1 - j = sA u 5 1 - 1 - (j - sA u 5 0) by omega, e]
    exact hp
  · rw [h6 j h0 (by omega)]
    exact hp
