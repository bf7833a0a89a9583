/-! the pure side: the line of rows -/
def Rows (u : St) (n p : Int) (W : Int → Int) : Prop := 0 ≤ p ∧ p ≤ n ∧ n ≤ 100 ∧ sA u 5 0 = p ∧ sA u 5 1 = n - p ∧ (∀ j, 0 ≤ j → j < p → sA u 3 j = W j) ∧ (∀ j, 0 ≤ j → j < n - p → sA u 4 j = W (n - 1 - j))
def Els6 (u u' : St) : Prop := (∀ k, sI u' k = sI u k) ∧ (∀ k, sR u' k = sR u k) ∧ sL u' = sL u ∧ sF u' = sF u ∧ ∀ k, k ≠ 3 → k ≠ 4 → k ≠ 5 → sA u' k = sA u k
theorem rows_next {post : Int → St → Prop} {u : St} {n p : Int} {W : Int → Int} (h : Rows u n p W) (hn : p < n) (hp : ∀ u', Rows u' n (p + 1) W → Els6 u u' → post (W p) u') : w_X6_pass post u 0 := by
  obtain ⟨h1, h2, h3, h4, h5, h6, h7⟩ := h
  have e1 : sA u 4 (n - p - 1) = W p := by
    rw [h7 (n - p - 1) (by omega) (by omega)]
    congr 1
    omega
  unfold w_X6_pass
  rw [h4, h5]
  refine ⟨⟨by omega, by omega⟩, fun _ => ⟨⟨by omega, by omega⟩, fun c => absurd c (by omega), fun _ => ⟨⟨by omega, by omega⟩, fun _ => ⟨by omega, by omega, by omega, by omega, ?_⟩, fun c => absurd c (by omega)⟩⟩, fun c => absurd rfl c⟩
  rw [e1]
  refine hp _ ⟨by omega, by omega, by omega, ?_, ?_, fun j a b => ?_, fun j a b => ?_⟩ ⟨fun _ => rfl, fun _ => rfl, rfl, rfl, fun k k3 k4 k5 => ?_⟩
  · simp [sA_pA, zset_at]
  · simp [sA_pA, zset_at]
    omega
  · by_cases hj : j = p
    · subst hj
      simp [sA_pA, zset_at]
    · simp [sA_pA, zset_at, hj]
      exact h6 j a (by omega)
  · simp [sA_pA]
    exact h7 j a (by omega)
  · simp [sA_pA, k3, k5]
theorem rows_prev {post : Int → St → Prop} {u : St} {n p : Int} {W : Int → Int} {x : Int} (hx : x ≠ 0) (hxr : InR x) (h : Rows u n p W) (hn : 0 < p) (hp : ∀ u', Rows u' n (p - 1) W → Els6 u u' → post (W (p - 1)) u') : w_X6_pass post u x := by
  obtain ⟨h1, h2, h3, h4, h5, h6, h7⟩ := h
  have e1 : sA u 3 (p - 1) = W (p - 1) := h6 (p - 1) (by omega) (by omega)
  unfold w_X6_pass
  rw [h4, h5]
  refine ⟨hxr, fun c => absurd c hx, fun _ => ⟨⟨by omega, by omega⟩, fun c => absurd c (by omega), fun _ => ⟨⟨by omega, by omega⟩, fun _ => ⟨by omega, by omega, by omega, by omega, ?_⟩, fun c => absurd c (by omega)⟩⟩⟩
  rw [e1]
  refine hp _ ⟨by omega, by omega, by omega, ?_, ?_, fun j a b => ?_, fun j a b => ?_⟩ ⟨fun _ => rfl, fun _ => rfl, rfl, rfl, fun k k3 k4 k5 => ?_⟩
  · simp [sA_pA, zset_at]
  · simp [sA_pA, zset_at]
    omega
  · simp [sA_pA]
    exact h6 j a (by omega)
  · by_cases hj : j = n - p
    · subst hj
      simp [sA_pA, zset_at]
      congr 1
      omega
    · simp [sA_pA, zset_at, hj]
      exact h7 j a (by omega)
  · simp [sA_pA, k4, k5]
