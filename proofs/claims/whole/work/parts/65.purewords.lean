/-! words -/
/-- how many letters a number has; -1 if one of them is none -/
def wl : Nat → Int → Int
  | 0, _ => 0
  | n + 1, x => if x ≤ 0 then 0 else if x % 27 = 0 then -1 else if wl n (x / 27) < 0 then -1 else wl n (x / 27) + 1
def ltr : Nat → Int → Int
  | 0, _ => 0
  | n + 1, x => if x ≤ 0 then 0 else ltr n (x / 27) + 1
def isW (x : Int) : Prop := 1 ≤ x ∧ x ≤ 387420488 ∧ 0 ≤ wl 7 x
theorem isW.inr {x : Int} (h : isW x) : InR x := ⟨by have := h.1; omega, by have := h.2.1; omega⟩
theorem pw_div {x : Int} {n : Nat} (h : x < (27 : Int) ^ (n + 1)) : x / 27 < (27 : Int) ^ n := by
  rw [Int.pow_succ] at h
  omega
theorem X9_isWord_loop {post : Int → Prop} : ∀ (n : Nat) (x : Int), x < (27 : Int) ^ n → InR x → (0 ≤ wl n x → post 1) → (wl n x < 0 → post 0) → Lp (B_X9_isWord_15 post) (n + 1) x
  | 0, x, h, hr, h1, h0 => ⟨hr, fun _ => h1 (by unfold wl; omega), fun c => absurd h (by rw [Int.pow_zero]; omega)⟩
  | n + 1, x, h, hr, h1, h0 => by
    refine ⟨hr, fun c => h1 (by unfold wl; rw [if_pos c]; omega), fun c => ⟨by omega, ⟨by omega, by omega⟩, fun c2 => ?_, fun c2 => h0 (by unfold wl; rw [if_neg c, if_pos c2]; omega)⟩⟩
    refine X9_isWord_loop n (x / 27) (pw_div h) ⟨by omega, by omega⟩ (fun d => h1 ?_) (fun d => h0 ?_)
    · unfold wl
      rw [if_neg c, if_neg c2, if_neg (by omega)]
      omega
    · unfold wl
      rw [if_neg c, if_neg c2, if_pos d]
      omega
theorem X9_isWord_ok {post : Int → Prop} {x : Int} (hr : InR x) (h1 : isW x → post 1) (h0 : ¬ isW x → post 0) : w_X9_isWord post x := by
  refine ⟨hr, fun c => h0 (fun d => ?_), fun c => ⟨fun c2 => ⟨8, X9_isWord_loop 7 x (by omega) hr (fun d => h1 ⟨by omega, c2, d⟩) (fun d => h0 (fun e => ?_))⟩, fun c2 => h0 (fun d => c2 d.2.1)⟩⟩
  · have := d.1
    omega
  · have := e.2.2
    omega
theorem require_ok {post px : Prop} {mc ms : Nat} {u : St} {x : Int} (hr : InR x) (hmc : 1 ≤ mc) (hms : 6 ≤ ms) (h1 : isW x → post) (h0 : ¬ isW x → px) : w_X9_requireWord post px mc ms u x :=
  X9_isWord_ok hr (fun h => ⟨by decide, fun _ => h1 h, fun c => absurd c (by decide)⟩) (fun h => ⟨by decide, fun c => absurd rfl c, fun _ => ⟨by omega, by omega, h0 h⟩⟩)
theorem X10_letters_loop {post : Int → Prop} : ∀ (n : Nat) (a x : Int), x < (27 : Int) ^ n → InR x → post (a + ltr n x) → Lp (B_X10_letters_4 post) (n + 1) (a, x)
  | 0, a, x, h, hr, h1 => ⟨hr, fun _ => (by unfold ltr at h1; rw [Int.add_zero] at h1; exact h1), fun c => absurd h (by rw [Int.pow_zero]; show ¬ x < 1; have c : ¬ x ≤ 0 := c; omega)⟩
  | n + 1, a, x, h, hr, h1 => by
    unfold ltr at h1
    refine ⟨hr, fun c => ?_, fun c => ⟨?_, ?_⟩⟩
    · have c : x ≤ 0 := c
      rw [if_pos c, Int.add_zero] at h1
      exact h1
    · have c : ¬ x ≤ 0 := c
      show 0 ≤ x
      omega
    · have c : ¬ x ≤ 0 := c
      rw [if_neg c, show a + (ltr n (x / 27) + 1) = a + 1 + ltr n (x / 27) by omega] at h1
      exact X10_letters_loop n (a + 1) (x / 27) (pw_div h) ⟨by omega, by omega⟩ h1
theorem X9_letters_loop {post : Int → Prop} : ∀ (n : Nat) (a x : Int), x < (27 : Int) ^ n → InR x → post (a + ltr n x) → Lp (B_X9_lettersOf_4 post) (n + 1) (a, x)
  | 0, a, x, h, hr, h1 => ⟨hr, fun _ => (by unfold ltr at h1; rw [Int.add_zero] at h1; exact h1), fun c => absurd h (by rw [Int.pow_zero]; show ¬ x < 1; have c : ¬ x ≤ 0 := c; omega)⟩
  | n + 1, a, x, h, hr, h1 => by
    unfold ltr at h1
    refine ⟨hr, fun c => ?_, fun c => ⟨?_, ?_⟩⟩
    · have c : x ≤ 0 := c
      rw [if_pos c, Int.add_zero] at h1
      exact h1
    · have c : ¬ x ≤ 0 := c
      show 0 ≤ x
      omega
    · have c : ¬ x ≤ 0 := c
      rw [if_neg c, show a + (ltr n (x / 27) + 1) = a + 1 + ltr n (x / 27) by omega] at h1
      exact X9_letters_loop n (a + 1) (x / 27) (pw_div h) ⟨by omega, by omega⟩ h1
theorem X10_letters_ok {post : Int → Prop} {x : Int} (hr : InR x) (h : post (ltr 7 x)) : w_X10_letters post x := ⟨8, X10_letters_loop 7 0 x (by omega) hr (by rw [Int.zero_add]; exact h)⟩
theorem X9_letters_ok {post : Int → Prop} {x : Int} (hr : InR x) (h : post (ltr 7 x)) : w_X9_lettersOf post x := ⟨8, X9_letters_loop 7 0 x (by omega) hr (by rw [Int.zero_add]; exact h)⟩
theorem ltr_le : ∀ (k n : Nat) (x : Int), x < (27 : Int) ^ k → ltr n x ≤ k
  | _, 0, x, _ => by unfold ltr; omega
  | 0, n + 1, x, h => by
    rw [Int.pow_zero] at h
    unfold ltr
    rw [if_pos (by omega)]
    omega
  | k + 1, n + 1, x, h => by
    unfold ltr
    have := ltr_le k n (x / 27) (pw_div h)
    split <;> omega
theorem ltr_ge : ∀ (k n : Nat) (x : Int), (27 : Int) ^ k ≤ x → k < n → k + 1 ≤ ltr n x
  | _, 0, x, _, h2 => absurd h2 (by omega)
  | 0, n + 1, x, h, _ => by
    rw [Int.pow_zero] at h
    unfold ltr
    rw [if_neg (by omega)]
    have h3 : ∀ (m : Nat) (y : Int), 0 ≤ ltr m y := by
      intro m
      induction m with
      | zero => intro y; unfold ltr; omega
      | succ m ih =>
        intro y
        unfold ltr
        have := ih (y / 27)
        split <;> omega
    have := h3 n (x / 27)
    omega
  | k + 1, n + 1, x, h, h2 => by
    have h3 : (0 : Int) < (27 : Int) ^ (k + 1) := Int.pow_pos (by decide)
    have h4 : (27 : Int) ^ k ≤ x / 27 := by
      rw [Int.pow_succ] at h
      omega
    unfold ltr
    rw [if_neg (by omega)]
    have := ltr_ge k n (x / 27) h4 (by omega)
    omega
theorem letters_in {post : Int → Prop} {y : Int} (hy : InR y) (k1 : 1 ≤ ltr 7 y → ltr 7 y ≤ 6 → post 1) (k0 : ¬ (1 ≤ ltr 7 y ∧ ltr 7 y ≤ 6) → post 0) : w_X10_letters (fun (z4 : Int) => (w_X10_in (fun (z5 : Int) => (z5 = 0 ∨ z5 = 1) ∧ post z5) z4 1 6)) y := by
  refine X10_letters_ok hy ?_
  have h1 := ltr_le 7 7 y (by omega)
  have h2 : 0 ≤ ltr 7 y := by
    by_cases c : 1 ≤ y
    · have := ltr_ge 0 7 y (by rw [Int.pow_zero]; exact c) (by decide)
      omega
    · unfold ltr
      rw [if_pos (by omega)]
      omega
  exact ⟨⟨by omega, by omega⟩, by decide, fun c => ⟨Or.inl rfl, k0 (by omega)⟩, fun c => ⟨by decide, fun c2 => ⟨Or.inl rfl, k0 (by omega)⟩, fun c2 => ⟨Or.inr rfl, k1 (by omega) (by omega)⟩⟩⟩
theorem X10_isWord_lp {post : Int → Prop} {y : Int} (hy : InR y) : ∀ (n : Nat) (x : Int), x < (27 : Int) ^ n → InR x → (0 ≤ wl n x → 1 ≤ ltr 7 y → ltr 7 y ≤ 6 → post 1) → (¬ (0 ≤ wl n x ∧ 1 ≤ ltr 7 y ∧ ltr 7 y ≤ 6) → post 0) → Lp (B_X10_isWord_2 post y) (n + 1) x
  | 0, x, h, hr, h1, h0 => ⟨hr, fun _ => letters_in hy (h1 (by unfold wl; omega)) (fun c => h0 (fun d => c d.2)), fun c => absurd h (by rw [Int.pow_zero]; omega)⟩
  | n + 1, x, h, hr, h1, h0 => by
    refine ⟨hr, fun c => letters_in hy (h1 (by unfold wl; rw [if_pos c]; omega)) (fun c => h0 (fun d => c d.2)), fun c => ⟨by omega, ⟨by omega, by omega⟩, fun c2 => ?_, fun c2 => h0 (by unfold wl; rw [if_neg c, if_pos c2]; omega)⟩⟩
    refine X10_isWord_lp hy n (x / 27) (pw_div h) ⟨by omega, by omega⟩ (fun d => h1 ?_) (fun d => h0 (fun e => d ?_))
    · unfold wl
      rw [if_neg c, if_neg c2, if_neg (by omega)]
      omega
    · refine ⟨?_, e.2⟩
      have e1 := e.1
      unfold wl at e1
      rw [if_neg c, if_neg c2] at e1
      split at e1 <;> omega
theorem X10_isWord_ok {post : Int → Prop} {x : Int} (hr : InR x) (h1 : isW x → post 1) (h0 : ¬ isW x → post 0) : w_X10_isWord post x := by
  refine ⟨8, X10_isWord_lp hr 7 x (by omega) hr (fun a b c => h1 ⟨?_, ?_, a⟩) (fun a => h0 (fun b => a ⟨b.2.2, ?_, ?_⟩))⟩
  · by_cases d : 1 ≤ x
    · exact d
    · unfold ltr at b
      rw [if_pos (by omega)] at b
      omega
  · by_cases d : x ≤ 387420488
    · exact d
    · have := ltr_ge 6 7 x (by omega) (by decide)
      omega
  · have := ltr_ge 0 7 x (by rw [Int.pow_zero]; exact b.1) (by decide)
    omega
  · exact ltr_le 6 7 x (by have := b.2.1; omega)
theorem fails_ok {post : Int → St → Prop} {u : St} {x : Int} (h0 : sI u 0 = 0) (hx : x = 0 ∨ x = 1) (h1 : x = 1 → post 0 u) (h2 : x = 0 → post 1 (pI u 0 1)) : w_X10_fails post u x 1 := by
  refine ⟨⟨by omega, by omega⟩, fun c => ⟨⟨by omega, by omega⟩, fun _ => h1 (by omega), fun c => absurd h0 c⟩, fun c => ⟨⟨by omega, by omega⟩, fun c => absurd h0 c, fun _ => ⟨by decide, fun c => absurd c (by decide), fun _ => h2 c⟩⟩⟩
theorem noWord_ok {post : Int → St → Prop} {u : St} {x : Int} (h0 : sI u 0 = 0) (hr : InR x) (h1 : isW x → post 0 u) (h2 : ¬ isW x → post 1 (pI u 0 1)) : w_X10_noWord post u x :=
  X10_isWord_ok hr (fun h => fails_ok h0 (Or.inr rfl) (fun _ => ⟨Or.inl rfl, h1 h⟩) (fun c => absurd c (by decide))) (fun h => fails_ok h0 (Or.inl rfl) (fun c => absurd c (by decide)) (fun _ => ⟨Or.inr rfl, h2 h⟩))
