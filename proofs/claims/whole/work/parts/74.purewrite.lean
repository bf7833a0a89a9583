/-! write -/
abbrev Sx : Type := (Int → Int) × Int
def putF (s : Sx) (b : Int) : Sx := (zset s.1 s.2 b, s.2 + 1)
def dg (x : Int) (e : Nat) : Int := x / (27 : Int) ^ e % 27
def spellF (x : Int) : Nat → Sx → Sx
  | 0, s => s
  | e + 1, s => spellF x e (if dg x e = 0 then s else putF s (96 + dg x e))
def Wrt (a : Nat) (i : Nat) (u : St) (s : Sx) : Prop := sI u i = s.2 ∧ 0 ≤ s.2 ∧ ∀ j, 0 ≤ j → j < s.2 → sA u a j = s.1 j
def FrW (a i : Nat) (u u' : St) : Prop := (∀ k, k ≠ i → sI u' k = sI u k) ∧ (∀ k, k ≠ a → sA u' k = sA u k) ∧ (∀ k, sR u' k = sR u k) ∧ sL u' = sL u ∧ sF u' = sF u
theorem FrW.rf {a i : Nat} {u : St} : FrW a i u u := ⟨fun _ _ => rfl, fun _ _ => rfl, fun _ => rfl, rfl, rfl⟩
theorem FrW.tr {a i : Nat} {u v w : St} (h : FrW a i u v) (h' : FrW a i v w) : FrW a i u w := ⟨fun k q => (h'.1 k q).trans (h.1 k q), fun k q => (h'.2.1 k q).trans (h.2.1 k q), fun k => (h'.2.2.1 k).trans (h.2.2.1 k), h'.2.2.2.1.trans h.2.2.2.1, h'.2.2.2.2.trans h.2.2.2.2⟩
theorem wrt_put {a i : Nat} {u : St} {s : Sx} {b : Int} (h : Wrt a i u s) : Wrt a i (pI (pA u a (sI u i) b) i (sI u i + 1)) (putF s b) ∧ FrW a i u (pI (pA u a (sI u i) b) i (sI u i + 1)) := by
  obtain ⟨h1, h2, h3⟩ := h
  refine ⟨⟨?_, ?_, fun j c d => ?_⟩, fun k q => by rw [sI_pI, if_neg q, sI_pA], fun k q => by rw [sA_pI, sA_pA, if_neg q], fun _ => rfl, rfl, rfl⟩
  · rw [sI_pI, if_pos rfl, h1]
    rfl
  · show 0 ≤ s.2 + 1
    omega
  · have d : j < s.2 + 1 := d
    rw [sA_pI, sA_pA, if_pos rfl]
    show zset (sA u a) (sI u i) b j = zset s.1 s.2 b j
    rw [h1, zset_at, zset_at]
    by_cases e : j = s.2
    · rw [if_pos e, if_pos e]
    · rw [if_neg e, if_neg e]
      exact h3 j c (by omega)
theorem put_c {post : St → Prop} {u : St} {s : Sx} {b : Int} (h : Wrt 12 3 u s) (hs : s.2 < 701) (hb : 0 ≤ b ∧ b < 65536) (hp : ∀ u', Wrt 12 3 u' (putF s b) → FrW 12 3 u u' → post u') : w_X9_put post u b := by
  have e := h.1
  have e0 := h.2.1
  have k := wrt_put (b := b) h
  exact ⟨⟨by omega, by omega⟩, fun c => absurd c (by omega), fun _ => ⟨by omega, by omega, hb.1, hb.2, hp _ k.1 k.2⟩⟩
theorem writes_m {post : St → Prop} {v : St} {s : Sx} {b : Int} (h : Wrt 14 14 v s) (hs : s.2 < 720) (hp : ∀ v', Wrt 14 14 v' (putF s b) → FrW 14 14 v v' → post v') : w_X10_writes post v b := by
  have e := h.1
  have e0 := h.2.1
  have k := wrt_put (b := b) h
  exact ⟨by omega, by omega, hp _ k.1 k.2⟩
theorem dg_b (x : Int) (e : Nat) : 0 ≤ dg x e ∧ dg x e < 27 := by
  unfold dg
  omega
theorem spell_n (x : Int) : ∀ (e : Nat) (s : Sx), s.2 ≤ (spellF x e s).2 ∧ (spellF x e s).2 ≤ s.2 + e
  | 0, s => by unfold spellF; omega
  | e + 1, s => by
    unfold spellF
    have h := spell_n x e (if dg x e = 0 then s else putF s (96 + dg x e))
    have h2 : s.2 ≤ (if dg x e = 0 then s else putF s (96 + dg x e)).2 ∧ (if dg x e = 0 then s else putF s (96 + dg x e)).2 ≤ s.2 + 1 := by
      by_cases c : dg x e = 0
      · rw [if_pos c]
        omega
      · rw [if_neg c]
        show s.2 ≤ s.2 + 1 ∧ s.2 + 1 ≤ s.2 + 1
        omega
    omega
/-- the place of the digit before e -/
def pl : Nat → Int
  | 0 => 0
  | e + 1 => (27 : Int) ^ e
theorem pl_div : ∀ e : Nat, (27 : Int) ^ e / 27 = pl e
  | 0 => rfl
  | e + 1 => by
    rw [Int.pow_succ]
    show (27 : Int) ^ e * 27 / 27 = (27 : Int) ^ e
    omega
theorem pw_b {e : Nat} (h : e ≤ 6) : 0 < (27 : Int) ^ e ∧ (27 : Int) ^ e ≤ 387420489 := by
  rcases (show e = 0 ∨ e = 1 ∨ e = 2 ∨ e = 3 ∨ e = 4 ∨ e = 5 ∨ e = 6 by omega) with rfl | rfl | rfl | rfl | rfl | rfl | rfl <;> decide
theorem spell_c {post : St → Prop} {x : Int} (hx : InR x) (hx0 : 0 ≤ x) : ∀ (e : Nat), e ≤ 6 → ∀ (u : St) (s : Sx), Wrt 12 3 u s → s.2 + e ≤ 701 → (∀ u', Wrt 12 3 u' (spellF x e s) → FrW 12 3 u u' → post u') → Lp (B_X9_spell_3 post x) (e + 1) (u, pl e)
  | 0, _, u, s, h, _, hp => ⟨(by show InR (0 : Int); decide), fun _ => hp u h FrW.rf, fun c => absurd (show (0 : Int) ≤ 0 by decide) c⟩
  | e + 1, he, u, s, h, hs, hp => by
    have pb := pw_b (show e ≤ 6 by omega)
    have hd := dg_b x e
    have q0 : 0 ≤ x / (27 : Int) ^ e := Int.ediv_nonneg hx0 (by omega)
    have q1 : x / (27 : Int) ^ e ≤ x := Int.ediv_le_self _ hx0
    refine ⟨⟨by show -2147483648 ≤ (27 : Int) ^ e; omega, by show (27 : Int) ^ e ≤ 2147483647; omega⟩, fun c => absurd pb.1 (by have c : (27 : Int) ^ e ≤ 0 := c; omega), fun _ => ⟨hx, hx0, pb.1, ⟨by show -2147483648 ≤ x / (27 : Int) ^ e; omega, by show x / (27 : Int) ^ e ≤ 2147483647; omega⟩, q0, ⟨by show -2147483648 ≤ dg x e; omega, by show dg x e ≤ 2147483647; omega⟩, fun c => ⟨by show 0 ≤ (27 : Int) ^ e; omega, ?_⟩, fun c => ⟨by show 0 ≤ 97 + dg x e - 1; omega, by show 97 + dg x e - 1 < 65536; omega, ?_⟩⟩⟩
    · have c : dg x e = 0 := c
      show Lp (B_X9_spell_3 post x) (e + 1) (u, (27 : Int) ^ e / 27)
      rw [pl_div]
      refine spell_c hx hx0 e (by omega) u s h (by omega) ?_
      unfold spellF at hp
      rw [if_pos c] at hp
      exact hp
    · have c : ¬ dg x e = 0 := c
      show w_X9_put _ u (97 + dg x e - 1)
      rw [show 97 + dg x e - 1 = 96 + dg x e by omega]
      refine put_c h (by omega) (by omega) (fun u' a b => ⟨by show 0 ≤ (27 : Int) ^ e; omega, ?_⟩)
      show Lp (B_X9_spell_3 post x) (e + 1) (u', (27 : Int) ^ e / 27)
      rw [pl_div]
      refine spell_c hx hx0 e (by omega) u' _ a (by show s.2 + 1 + (e : Int) ≤ 701; omega) (fun u2 a2 b2 => hp u2 ?_ (b.tr b2))
      unfold spellF
      rw [if_neg c]
      exact a2
theorem dg_0 {x : Int} {e : Nat} (h0 : 0 ≤ x) (h : x < (27 : Int) ^ e) : dg x e = 0 := by
  unfold dg
  rw [Int.ediv_eq_zero_of_lt h0 h]
  rfl
theorem dg_s (x : Int) (e : Nat) : dg x (e + 1) = dg (x / 27) e := by
  unfold dg
  rw [show (27 : Int) ^ (e + 1) = 27 * (27 : Int) ^ e by rw [Int.pow_succ, Int.mul_comm], Int.ediv_ediv_of_nonneg (by decide)]
theorem dg_n : ∀ (e n : Nat) (x : Int), 0 ≤ wl n x → e < n → (27 : Int) ^ e ≤ x → dg x e ≠ 0
  | _, 0, x, _, h, _ => absurd h (by omega)
  | 0, n + 1, x, h, _, h2 => by
    rw [Int.pow_zero] at h2
    unfold wl at h
    rw [if_neg (by omega)] at h
    unfold dg
    rw [Int.pow_zero]
    split at h <;> omega
  | e + 1, n + 1, x, h, h1, h2 => by
    have p0 : (0 : Int) < (27 : Int) ^ e := Int.pow_pos (by decide)
    rw [Int.pow_succ] at h2
    rw [dg_s]
    unfold wl at h
    rw [if_neg (by omega)] at h
    refine dg_n e n (x / 27) ?_ (by omega) (by omega)
    split at h
    · omega
    · split at h <;> omega
theorem letters_of {x : Int} (h : isW x) : ∃ m : Nat, m ≤ 5 ∧ (27 : Int) ^ m ≤ x ∧ x < (27 : Int) ^ (m + 1) := by
  obtain ⟨h1, h2, -⟩ := h
  by_cases c1 : x < 27
  · exact ⟨0, by omega, h1, c1⟩
  by_cases c2 : x < 729
  · exact ⟨1, by omega, (by show (27 : Int) ≤ x; omega), c2⟩
  by_cases c3 : x < 19683
  · exact ⟨2, by omega, (by show (729 : Int) ≤ x; omega), c3⟩
  by_cases c4 : x < 531441
  · exact ⟨3, by omega, (by show (19683 : Int) ≤ x; omega), c4⟩
  by_cases c5 : x < 14348907
  · exact ⟨4, by omega, (by show (531441 : Int) ≤ x; omega), c5⟩
  · exact ⟨5, by omega, (by show (14348907 : Int) ≤ x; omega), (by show x < (387420489 : Int); omega)⟩
theorem pw_le (m : Nat) : ∀ e : Nat, (27 : Int) ^ m ≤ (27 : Int) ^ (m + e)
  | 0 => Int.le_refl _
  | e + 1 => by
    have h := pw_le m e
    have h0 : (0 : Int) < (27 : Int) ^ (m + e) := Int.pow_pos (by decide)
    rw [show m + (e + 1) = m + e + 1 by omega, Int.pow_succ]
    omega
theorem pw_mono {i j : Nat} (h : i ≤ j) : (27 : Int) ^ i ≤ (27 : Int) ^ j := by
  have e := pw_le i (j - i)
  rw [show i + (j - i) = j by omega] at e
  exact e
theorem spell_more {x : Int} {m : Nat} (h0 : 0 ≤ x) (h : x < (27 : Int) ^ m) : ∀ (e : Nat) (s : Sx), spellF x (m + e) s = spellF x m s
  | 0, s => rfl
  | e + 1, s => by
    show spellF x (m + e) (if dg x (m + e) = 0 then s else putF s (96 + dg x (m + e))) = _
    have hle : (27 : Int) ^ m ≤ (27 : Int) ^ (m + e) := pw_mono (by omega)
    rw [if_pos (dg_0 h0 (by omega)), spell_more h0 h e s]
theorem spell_m2 {post : St → Prop} {K2 : Int → Prop} {x : Int} (hx : isW x) : ∀ (e : Nat), e ≤ 6 → (∀ i : Nat, i < e → (27 : Int) ^ i ≤ x) → ∀ (u : St) (s : Sx), Wrt 14 14 u s → s.2 + e ≤ 719 → (∀ u', Wrt 14 14 u' (spellF x e s) → FrW 14 14 u u' → post u') → Lp (B_X10_writesWord_20 post x K2) (e + 1) (u, pl e)
  | 0, _, _, u, s, h, _, hp => ⟨(by show InR (0 : Int); decide), fun _ => hp u h FrW.rf, fun c => absurd (show (0 : Int) ≤ 0 by decide) c⟩
  | e + 1, he, hi, u, s, h, hs, hp => by
    have pb := pw_b (show e ≤ 6 by omega)
    have hd := dg_b x e
    have hx0 : 0 ≤ x := by have := hx.1; omega
    have hxr := hx.inr
    have q0 : 0 ≤ x / (27 : Int) ^ e := Int.ediv_nonneg hx0 (by omega)
    have q1 : x / (27 : Int) ^ e ≤ x := Int.ediv_le_self _ hx0
    have c := dg_n e 7 x hx.2.2 (by omega) (hi e (by omega))
    refine ⟨⟨by show -2147483648 ≤ (27 : Int) ^ e; omega, by show (27 : Int) ^ e ≤ 2147483647; omega⟩, fun c => absurd pb.1 (by have c : (27 : Int) ^ e ≤ 0 := c; omega), fun _ => ⟨hxr, hx0, pb.1, ⟨by show -2147483648 ≤ x / (27 : Int) ^ e; omega, by show x / (27 : Int) ^ e ≤ 2147483647; omega⟩, q0, ?_⟩⟩
    show w_X10_writes _ u (97 + dg x e - 1)
    rw [show 97 + dg x e - 1 = 96 + dg x e by omega]
    refine writes_m h (by omega) (fun u' a b => ⟨by show 0 ≤ (27 : Int) ^ e; omega, ?_⟩)
    show Lp (B_X10_writesWord_20 post x K2) (e + 1) (u', (27 : Int) ^ e / 27)
    rw [pl_div]
    refine spell_m2 hx e (by omega) (fun i hi2 => hi i (by omega)) u' _ a (by show s.2 + 1 + (e : Int) ≤ 719; omega) (fun u2 a2 b2 => hp u2 ?_ (b.tr b2))
    unfold spellF
    rw [if_neg c]
    exact a2
theorem writesWord_m {post : St → Prop} {x : Int} {u : St} {s : Sx} (hx : isW x) (h : Wrt 14 14 u s) (hs : s.2 ≤ 710) (hp : ∀ u', Wrt 14 14 u' (spellF x 6 s) → FrW 14 14 u u' → post u') : w_X10_writesWord post u x := by
  obtain ⟨m, m5, ml, mu⟩ := letters_of hx
  have hx0 : 0 ≤ x := by have := hx.1; omega
  have hxr := hx.inr
  have key : ∀ d i : Nat, i + d = m → Lp (B_X10_writesWord_2 post u x) (d + 1) ((27 : Int) ^ i) := by
    intro d
    induction d with
    | zero =>
      intro i hi
      have pb := pw_b (show i ≤ 6 by omega)
      have q0 : 0 ≤ x / (27 : Int) ^ i := Int.ediv_nonneg hx0 (by omega)
      have q1 : x / (27 : Int) ^ i ≤ x := Int.ediv_le_self _ hx0
      have e : i = m := by omega
      subst e
      refine ⟨hxr, ⟨by omega, by omega⟩, hx0, pb.1, ⟨by omega, by omega⟩, fun _ => ⟨i + 1 + 1, ?_⟩, fun c => absurd ?_ c⟩
      · refine spell_m2 hx (i + 1) (by omega) (fun j hj => ?_) u s h (by omega) (fun u' a b => hp u' ?_ b)
        · have := pw_mono (show j ≤ i by omega)
          omega
        · have := spell_more hx0 mu (6 - (i + 1)) s
          rw [show i + 1 + (6 - (i + 1)) = 6 by omega] at this
          rw [this]
          exact a
      · rw [Int.pow_succ, Int.mul_comm] at mu
        exact Int.ediv_lt_of_lt_mul pb.1 mu
    | succ d ih =>
      intro i hi
      have pb := pw_b (show i ≤ 6 by omega)
      have q0 : 0 ≤ x / (27 : Int) ^ i := Int.ediv_nonneg hx0 (by omega)
      have q1 : x / (27 : Int) ^ i ≤ x := Int.ediv_le_self _ hx0
      have hle := pw_mono (show i + 1 ≤ m by omega)
      have q2 : 27 ≤ x / (27 : Int) ^ i := by
        refine (Int.le_ediv_iff_mul_le pb.1).mpr ?_
        rw [Int.mul_comm, ← Int.pow_succ]
        omega
      refine ⟨hxr, ⟨by omega, by omega⟩, hx0, pb.1, ⟨by omega, by omega⟩, fun c => absurd c (by omega), fun _ => ?_⟩
      have := ih (i + 1) (by omega)
      rw [Int.pow_succ] at this
      exact this
  have := key m 0 (by omega)
  rw [Int.pow_zero] at this
  exact ⟨m + 1, this⟩
