/-! scripts: a row of acts, by the class's tokens and by the reference's items side by side -/
abbrev Pr : Type := Int × Int
abbrev alone (k : Int) : Prop := k = 46 ∨ k = 44 ∨ k = 45 ∨ k = 37
abbrev wsgn (k : Int) : Prop := k = 43 ∨ k = 61 ∨ k = 62 ∨ k = 60
def Sml (Kd Nm E IK IV : Int → Int) (a b : Pr) : Prop := E a.1 = b.1 ∧ IK a.2 = Kd a.1 ∧ b.2 = a.2 + 1 ∧ ((alone (Kd a.1) ∧ b.1 = a.1 + 1) ∨ (wsgn (Kd a.1) ∧ b.1 = a.1 + 2 ∧ Kd (a.1 + 1) = 1 ∧ IV a.2 = Nm (a.1 + 1)) ∨ (Kd a.1 = 64 ∧ b.1 = a.1 + 2 ∧ Kd (a.1 + 1) = 2 ∧ IV a.2 = Nm (a.1 + 1)))
def Hdr (Kd Nm IK IV : Int → Int) (a : Pr) : Prop := Kd (a.1 + 1) = 123 ∧ IK a.2 = 123 ∧ ((Kd a.1 = 42 ∧ IV a.2 = 0) ∨ (Kd a.1 = 2 ∧ IV a.2 = Nm a.1 ∧ 1 ≤ Nm a.1 ∧ Nm a.1 ≤ 20))
def Pth (R : Pr → Pr → Prop) : Nat → Pr → Pr → Prop
  | 0, a, b => a = b
  | m + 1, a, b => ∃ c, R a c ∧ Pth R m c b
def Ac (Kd Nm E IK IV IE : Int → Int) : Nat → Pr → Pr → Prop
  | 0, a, b => Sml Kd Nm E IK IV a b
  | d + 1, a, b => Sml Kd Nm E IK IV a b ∨ ∃ (m : Nat) (c : Pr), Pth (Ac Kd Nm E IK IV IE d) m (a.1 + 2, a.2 + 1) c ∧ Hdr Kd Nm IK IV a ∧ E a.1 = b.1 ∧ b = (c.1 + 1, c.2 + 1) ∧ Kd c.1 = 125 ∧ IK c.2 = 125 ∧ IE a.2 = c.2
theorem Ac.sml {Kd Nm E IK IV IE : Int → Int} {d : Nat} {a b : Pr} (h : Sml Kd Nm E IK IV a b) : Ac Kd Nm E IK IV IE d a b := by
  cases d with
  | zero => exact h
  | succ d => exact Or.inl h
theorem Pth.snoc {R : Pr → Pr → Prop} {b c : Pr} (h : R b c) : ∀ {m : Nat} {a : Pr}, Pth R m a b → Pth R (m + 1) a c
  | 0, _, e => ⟨c, e ▸ h, rfl⟩
  | _ + 1, _, ⟨x, h1, h2⟩ => ⟨x, h1, Pth.snoc h h2⟩
theorem Pth.mono {R : Pr → Pr → Prop} (hR : ∀ a b, R a b → a.1 < b.1 ∧ a.2 < b.2) : ∀ {m : Nat} {a b : Pr}, Pth R m a b → a.1 ≤ b.1 ∧ a.2 ≤ b.2
  | 0, _, _, e => e ▸ ⟨Int.le_refl _, Int.le_refl _⟩
  | _ + 1, _, _, ⟨_, h1, h2⟩ => by
    have := hR _ _ h1
    have := Pth.mono hR h2
    omega
theorem Ac.mono {Kd Nm E IK IV IE : Int → Int} : ∀ (d : Nat) (a b : Pr), Ac Kd Nm E IK IV IE d a b → a.1 < b.1 ∧ a.2 < b.2
  | 0, a, b, ⟨_, _, h2, h3⟩ => by
    rcases h3 with ⟨_, h⟩ | ⟨_, h, _⟩ | ⟨_, h, _⟩ <;> omega
  | d + 1, a, b, h => by
    rcases h with ⟨_, _, h2, h3⟩ | ⟨m, c, h1, _, _, h4, _⟩
    · rcases h3 with ⟨_, h⟩ | ⟨_, h, _⟩ | ⟨_, h, _⟩ <;> omega
    · have h5 : a.1 + 2 ≤ c.1 ∧ a.2 + 1 ≤ c.2 := Pth.mono (Ac.mono d) h1
      rw [h4]
      show a.1 < c.1 + 1 ∧ a.2 < c.2 + 1
      omega
theorem Ac.pmono {Kd Nm E IK IV IE : Int → Int} {d m : Nat} {a b : Pr} (h : Pth (Ac Kd Nm E IK IV IE d) m a b) : a.1 ≤ b.1 ∧ a.2 ≤ b.2 := Pth.mono (Ac.mono d) h
/-- the rows of ends, kinds and values alike between two places -/
def Agr (E E' IK IK' IV IV' IE IE' : Int → Int) (a b : Pr) : Prop := (∀ j, a.1 ≤ j → j < b.1 → E' j = E j) ∧ (∀ j, a.2 ≤ j → j < b.2 → IK' j = IK j ∧ IV' j = IV j ∧ IE' j = IE j)
theorem Agr.sub {E E' IK IK' IV IV' IE IE' : Int → Int} {a b a' b' : Pr} (h : Agr E E' IK IK' IV IV' IE IE' a b) (h1 : a.1 ≤ a'.1) (h2 : b'.1 ≤ b.1) (h3 : a.2 ≤ a'.2) (h4 : b'.2 ≤ b.2) : Agr E E' IK IK' IV IV' IE IE' a' b' := ⟨fun j p q => h.1 j (by omega) (by omega), fun j p q => h.2 j (by omega) (by omega)⟩
theorem Pth.fr {E E' IK IK' IV IV' IE IE' : Int → Int} {R R' : Pr → Pr → Prop} (hR : ∀ a b, R a b → a.1 < b.1 ∧ a.2 < b.2) (hRR : ∀ a b, R a b → Agr E E' IK IK' IV IV' IE IE' a b → R' a b) : ∀ {m : Nat} {a b : Pr}, Pth R m a b → Agr E E' IK IK' IV IV' IE IE' a b → Pth R' m a b
  | 0, _, _, e, _ => e
  | _ + 1, a, b, ⟨x, h1, h2⟩, h => by
    have p1 := hR _ _ h1
    have p2 := Pth.mono hR h2
    exact ⟨x, hRR _ _ h1 (h.sub (by omega) (by omega) (by omega) (by omega)), Pth.fr hR hRR h2 (h.sub (by omega) (by omega) (by omega) (by omega))⟩
theorem Sml.fr {Kd Nm E E' IK IK' IV IV' IE IE' : Int → Int} {a b : Pr} (h : Sml Kd Nm E IK IV a b) (hA : Agr E E' IK IK' IV IV' IE IE' a b) : Sml Kd Nm E' IK' IV' a b := by
  have p := Ac.mono (IE := IE) 0 a b h
  obtain ⟨h0, h1, h2, h3⟩ := h
  have q := hA.2 a.2 (Int.le_refl _) p.2
  refine ⟨(hA.1 a.1 (Int.le_refl _) p.1).trans h0, q.1.trans h1, h2, ?_⟩
  rw [q.2.1]
  exact h3
theorem Ac.fr {Kd Nm E E' IK IK' IV IV' IE IE' : Int → Int} : ∀ (d : Nat) (a b : Pr), Ac Kd Nm E IK IV IE d a b → Agr E E' IK IK' IV IV' IE IE' a b → Ac Kd Nm E' IK' IV' IE' d a b
  | 0, a, b, h, hA => Sml.fr (IE := IE) (IE' := IE') h hA
  | d + 1, a, b, h, hA => by
    have p := Ac.mono (d + 1) a b h
    rcases h with h | ⟨m, c, h1, h2, h3, h4, h5, h6, h7⟩
    · exact Or.inl (Sml.fr h hA)
    · have q : a.1 + 2 ≤ c.1 ∧ a.2 + 1 ≤ c.2 := Ac.pmono h1
      have eb1 : b.1 = c.1 + 1 := by rw [h4]
      have eb2 : b.2 = c.2 + 1 := by rw [h4]
      have r := hA.2 a.2 (Int.le_refl _) p.2
      refine Or.inr ⟨m, c, Pth.fr (Ac.mono d) (Ac.fr d) h1 (hA.sub (by show a.1 ≤ a.1 + 2; omega) (by omega) (by show a.2 ≤ a.2 + 1; omega) (by omega)), ?_, (hA.1 a.1 (Int.le_refl _) p.1).trans h3, h4, h5, (hA.2 c.2 (by omega) (by omega)).1.trans h6, r.2.2.trans h7⟩
      unfold Hdr
      rw [r.1, r.2.1]
      exact h2
theorem Ac.pfr {Kd Nm E E' IK IK' IV IV' IE IE' : Int → Int} {d m : Nat} {a b : Pr} (h : Pth (Ac Kd Nm E IK IV IE d) m a b) (hA : Agr E E' IK IK' IV IV' IE IE' a b) : Pth (Ac Kd Nm E' IK' IV' IE' d) m a b := Pth.fr (Ac.mono d) (Ac.fr d) h hA
/-! the class's grammar, a token at a time -/
theorem kOf_ok {post : Int → Prop} {u : St} {t : Int} (h0 : 0 ≤ t) (h1 : t < sI u 16) (h3 : sI u 16 ≤ 300) (h : post (sA u 7 t)) : w_X7_kindOf post u t := ⟨⟨by omega, by omega⟩, fun c => absurd c (by omega), fun _ => ⟨⟨by omega, by omega⟩, fun c => absurd c (by omega), fun _ => ⟨h0, by omega, h⟩⟩⟩
theorem nOf_ok {post : Int → Prop} {u : St} {t : Int} (h0 : 0 ≤ t) (h1 : t < sI u 16) (h3 : sI u 16 ≤ 300) (h : post (sA u 8 t)) : w_X7_numberOf post u t := ⟨⟨by omega, by omega⟩, fun c => absurd c (by omega), fun _ => ⟨⟨by omega, by omega⟩, fun c => absurd c (by omega), fun _ => ⟨h0, by omega, h⟩⟩⟩
theorem eOf_ok {post : Int → Prop} {u : St} {t : Int} (h0 : 0 ≤ t) (h1 : t < sI u 16) (h3 : sI u 16 ≤ 300) (h : post (sA u 10 t)) : w_X7_endOf post u t := ⟨⟨by omega, by omega⟩, fun c => absurd c (by omega), fun _ => ⟨⟨by omega, by omega⟩, fun c => absurd c (by omega), fun _ => ⟨h0, by omega, h⟩⟩⟩
/-- what the class does with a token's outcome -/
abbrev clK (post : Int → St → Prop) (L : Int) (f : Nat) (t : Int) : Int → St → Prop := fun z u' => (InR z) ∧ ((¬ z = 4 → Lp (B_X7_misfitOfScript_9 post L) f (u', z, t + 1)) ∧ (z = 4 → (0 ≤ t) ∧ (t < 300) ∧ post (sA u' 9 t) u'))
theorem cl_tok {post : Int → St → Prop} {L t wd : Int} {f : Nat} {u : St} (h0 : 0 ≤ t) (h1 : t < sI u 16) (h3 : sI u 16 ≤ 300) (h : w_X7_wantedBehind (clK post L f t) u t wd) : Lp (B_X7_misfitOfScript_9 post L) (f + 1) (u, wd, t) :=
  ⟨⟨by show -2147483648 ≤ t; omega, by show t ≤ 2147483647; omega⟩, ⟨by show -2147483648 ≤ sI u 16; omega, by show sI u 16 ≤ 2147483647; omega⟩, fun c => absurd h1 (by have c : sI u 16 ≤ t := c; omega), fun _ => h⟩
theorem cl_end {post : Int → St → Prop} {L t wd : Int} {f : Nat} {u : St} (h1 : t = sI u 16) (h0 : 0 ≤ t) (h3 : sI u 16 ≤ 300) (hw : InR wd) (ho : InR (sI u 15)) (hn : (wd ≠ 0 ∨ sI u 15 ≠ 0) → post L u) (hy : wd = 0 → sI u 15 = 0 → post (-1) u) : Lp (B_X7_misfitOfScript_9 post L) (f + 1) (u, wd, t) :=
  ⟨⟨by show -2147483648 ≤ t; omega, by show t ≤ 2147483647; omega⟩, ⟨by show -2147483648 ≤ sI u 16; omega, by show sI u 16 ≤ 2147483647; omega⟩, fun _ => ⟨hw, fun c => hn (Or.inl c), fun c => ⟨ho, fun d => hn (Or.inr d), fun d => hy c d⟩⟩, fun c => absurd h1 (by have c : ¬ sI u 16 ≤ t := c; omega)⟩
theorem wb_0 {post : Int → St → Prop} {u : St} {t : Int} (h0 : 0 ≤ t) (h1 : t < sI u 16) (h3 : sI u 16 ≤ 300) (hk : InR (sA u 7 t)) (hb : ¬ sA u 7 t = 125 → w_X7_beginAct post u t (sA u 7 t)) (hc : sA u 7 t = 125 → w_X7_close post u (t + 1)) : w_X7_wantedBehind post u t 0 :=
  kOf_ok h0 h1 h3 ⟨by decide, fun c => absurd c (by decide), fun c => absurd c (by decide), fun c => absurd c (by decide), fun _ => ⟨hk, hb, hc⟩⟩
theorem wb_1 {post : Int → St → Prop} {u : St} {t : Int} (h0 : 0 ≤ t) (h1 : t < sI u 16) (h3 : sI u 16 ≤ 300) (hk : InR (sA u 7 t)) (hb : ¬ sA u 7 t = 1 → post 4 u) (hc : sA u 7 t = 1 → post 0 u) : w_X7_wantedBehind post u t 1 :=
  kOf_ok h0 h1 h3 ⟨by decide, fun _ => ⟨hk, hb, hc⟩, fun c => absurd c (by decide), fun c => absurd c (by decide), fun c => absurd (Or.inl rfl) c⟩
theorem wb_2 {post : Int → St → Prop} {u : St} {t : Int} (h0 : 0 ≤ t) (h1 : t < sI u 16) (h3 : sI u 16 ≤ 300) (hk : InR (sA u 7 t)) (hb : ¬ sA u 7 t = 2 → post 4 u) (hc : sA u 7 t = 2 → post 0 u) : w_X7_wantedBehind post u t 2 :=
  kOf_ok h0 h1 h3 ⟨by decide, fun c => absurd c (by decide), fun _ => ⟨hk, hb, hc⟩, fun c => absurd c (by decide), fun c => absurd (Or.inr (Or.inl rfl)) c⟩
theorem wb_3 {post : Int → St → Prop} {u : St} {t : Int} (h0 : 0 ≤ t) (h1 : t < sI u 16) (h3 : sI u 16 ≤ 300) (hk : InR (sA u 7 t)) (ho : 0 ≤ sI u 15 ∧ sI u 15 ≤ 4) (hb : ¬ sA u 7 t = 123 → post 4 u) (h4 : sI u 15 = 4 → post 4 u) (hc : sA u 7 t = 123 → sI u 15 < 4 → post 0 (pI (pA u 11 (sI u 15) (t - 1)) 15 (sI u 15 + 1))) : w_X7_wantedBehind post u t 3 :=
  kOf_ok h0 h1 h3 ⟨by decide, fun c => absurd c (by decide), fun c => absurd c (by decide), fun _ => ⟨hk, hb, fun d => ⟨⟨by omega, by omega⟩, fun e => ⟨ho.1, e, hc d e⟩, fun e => h4 (by omega)⟩⟩, fun c => absurd (Or.inr (Or.inr rfl)) c⟩
theorem ba_alone {post : Int → St → Prop} {u : St} {t k : Int} (hk : alone k) (h0 : 0 ≤ t) (h3 : t < 300) (h : post 0 (pA u 10 t (t + 1))) : w_X7_beginAct post u t k :=
  ⟨⟨by omega, by omega⟩, fun c => absurd c (by omega), fun _ => ⟨h0, h3, h⟩, fun c => absurd c (by omega), fun c => absurd c (by omega), fun c => absurd c (by omega), fun c => absurd c (by omega)⟩
theorem ba_word {post : Int → St → Prop} {u : St} {t k : Int} (hk : wsgn k) (h0 : 0 ≤ t) (h3 : t < 300) (h : post 1 (pA u 10 t (t + 2))) : w_X7_beginAct post u t k :=
  ⟨⟨by omega, by omega⟩, fun c => absurd c (by omega), fun c => absurd c (by omega), fun c => absurd c (by omega), fun _ => ⟨h0, h3, h⟩, fun c => absurd c (by omega), fun c => absurd c (by omega)⟩
theorem ba_at {post : Int → St → Prop} {u : St} {t : Int} (h0 : 0 ≤ t) (h3 : t < 300) (h : post 2 (pA u 10 t (t + 2))) : w_X7_beginAct post u t 64 :=
  ⟨by decide, fun c => absurd c (by omega), fun c => absurd c (by omega), fun c => absurd c (by omega), fun c => absurd c (by omega), fun _ => ⟨h0, h3, h⟩, fun c => absurd c (by omega)⟩
theorem ba_star {post : Int → St → Prop} {u : St} {t : Int} (h : post 3 u) : w_X7_beginAct post u t 42 :=
  ⟨by decide, fun c => absurd c (by omega), fun c => absurd c (by omega), fun _ => h, fun c => absurd c (by omega), fun c => absurd c (by omega), fun c => absurd c (by omega)⟩
theorem ba_num {post : Int → St → Prop} {u : St} {t : Int} (h0 : 0 ≤ t) (h3 : t < 300) (hr : InR (sA u 8 t)) (hy : 1 ≤ sA u 8 t → sA u 8 t ≤ 20 → post 3 u) (hn : ¬ (1 ≤ sA u 8 t ∧ sA u 8 t ≤ 20) → post 4 u) : w_X7_beginAct post u t 2 :=
  ⟨by decide, fun _ => ⟨h0, h3, hr, fun c => hn (by omega), fun c => ⟨fun d => hn (by omega), fun d => hy (by omega) (by omega)⟩⟩, fun c => absurd c (by omega), fun c => absurd c (by omega), fun c => absurd c (by omega), fun c => absurd c (by omega), fun c => absurd c (by omega)⟩
theorem ba_no {post : Int → St → Prop} {u : St} {t k : Int} (hr : InR k) (hk : ¬ alone k ∧ ¬ wsgn k ∧ k ≠ 64 ∧ k ≠ 42 ∧ k ≠ 2) (h : post 4 u) : w_X7_beginAct post u t k :=
  ⟨hr, fun c => absurd c (by omega), fun c => absurd c (by omega), fun c => absurd c (by omega), fun c => absurd c (by omega), fun c => absurd c (by omega), fun _ => h⟩
theorem close_ok {post : Int → St → Prop} {u : St} {e : Int} (ho : 0 ≤ sI u 15 ∧ sI u 15 ≤ 4) (h0 : sI u 15 = 0 → post 4 u) (h1 : 1 ≤ sI u 15 → 0 ≤ sA u 11 (sI u 15 - 1) ∧ sA u 11 (sI u 15 - 1) < 300 ∧ post 0 (pA (pI u 15 (sI u 15 - 1)) 10 (sA u 11 (sI u 15 - 1)) e)) : w_X7_close post u e :=
  ⟨⟨by omega, by omega⟩, fun c => ⟨by omega, by omega, (h1 c).1, (h1 c).2.1, (h1 c).2.2⟩, fun c => h0 (by omega)⟩
/-! the reference's grammar -/
abbrev raC (Q : Int → St → Prop) (K : St × Int → Prop) (o : Int) : Int → St → Prop := fun z u11 => (InR z) ∧ ((¬ z = 0 → (0 ≤ (sI u11 13) - 1) ∧ ((sI u11 13) - 1 < 300) ∧ (InR (sA u11 8 ((sI u11 13) - 1))) ∧ ((sA u11 8 ((sI u11 13) - 1) = 123 → (0 ≤ o) ∧ (o < 4) ∧ K ((pA u11 11 o ((sI u11 13) - 1)), o + 1)) ∧ (¬ sA u11 8 ((sI u11 13) - 1) = 123 → K (u11, o)))) ∧ (z = 0 → Q 0 u11))
theorem ra_item {Q : Int → St → Prop} {n : Nat} {w : St} {o : Int} (h7 : InR (sI w 7)) (h70 : sI w 7 ≠ 0) (ho : 0 ≤ o ∧ o ≤ 4) (h9 : sI w 7 = 1 → InR (sI w 9)) (hne : o = 0 ∨ ¬ (sI w 7 = 1 ∧ sI w 9 = 125)) (h : w_X10_readsItem (raC Q (Lp (B_X10_readsAll_16 Q) n) o) w o) : Lp (B_X10_readsAll_16 Q) (n + 1) (w, o) :=
  ⟨h7, fun c => absurd c h70, fun _ => ⟨⟨by show -2147483648 ≤ o; omega, by show o ≤ 2147483647; omega⟩, fun _ => h, fun c => ⟨h7, fun _ => ⟨by decide, fun _ => h, fun d => absurd rfl d⟩, fun d => ⟨h9 d, by decide, fun _ => ⟨by decide, fun _ => h, fun f => absurd rfl f⟩, fun d2 => absurd hne (by have c : ¬ o ≤ 0 := c; have d : sI w 7 = 1 := d; have d2 : sI w 9 = 125 := d2; omega)⟩⟩⟩⟩
def kIt (w : St) (p q : Int) : St := pI (pA (pA w 8 (sI w 13) p) 9 (sI w 13) q) 13 (sI w 13 + 1)
theorem keepsItem_ok {post : St → Prop} {w : St} {p q : Int} (h0 : 0 ≤ sI w 13) (h1 : sI w 13 < 300) (h : post (kIt w p q)) : w_X10_keepsItem post w p q := ⟨h0, h1, h⟩
theorem ri_no {post : Int → St → Prop} {w : St} {o : Int} (h : sI w 7 = 3 ∨ sI w 7 = 4) (hp : post 0 w) : w_X10_readsItem post w o :=
  ⟨⟨by omega, by omega⟩, fun _ => ⟨fun _ => hp, fun c => absurd c (by omega)⟩, fun c => absurd c (by omega)⟩
theorem ri_brace {post : Int → St → Prop} {w : St} {o : Int} (h : sI w 7 = 1) (h9 : sI w 9 = 123 ∨ sI w 9 = 125) (hp : post 0 w) : w_X10_readsItem post w o :=
  ⟨⟨by omega, by omega⟩, fun _ => ⟨fun _ => hp, fun _ => ⟨⟨by omega, by omega⟩, fun _ => hp, fun c => ⟨fun d => absurd h9 (by omega), fun _ => hp⟩⟩⟩, fun c => absurd c (by omega)⟩
theorem ri_range {post : Int → St → Prop} {w : St} {o : Int} (h : sI w 7 = 2) (hr : InR (sI w 9)) (h9 : ¬ (1 ≤ sI w 9 ∧ sI w 9 ≤ 20)) (hp : post 0 w) : w_X10_readsItem post w o :=
  ⟨⟨by omega, by omega⟩, fun c => absurd h c, fun _ => in_ok hr (by decide) (by decide) (fun _ => ⟨by decide, fun f => absurd rfl f, fun _ => hp⟩) (fun a b => absurd ⟨a, b⟩ h9)⟩
theorem ri_alone {post : Int → St → Prop} {w w1 : St} {o k : Int} (h : sI w 7 = 1) (h9 : sI w 9 = k) (hk : alone k) (hr : ∀ p : St → Prop, p w1 → w_X10_reads p w) (h0 : 0 ≤ sI w1 13) (h1 : sI w1 13 < 300) (hp : post 1 (kIt w1 k 0)) : w_X10_readsItem post w o := by
  subst h9
  exact ⟨⟨by omega, by omega⟩, fun _ => ⟨fun c => absurd h c, fun _ => ⟨⟨by omega, by omega⟩, fun c => absurd c (by omega), fun _ => ⟨fun _ => hr _ ⟨fun _ => ⟨fun _ => ⟨h0, h1, hp⟩, fun _ => ⟨fun _ => ⟨h0, h1, hp⟩, fun _ => ⟨fun _ => ⟨h0, h1, hp⟩, fun _ => ⟨fun c => absurd hk (by omega), fun _ => ⟨h0, h1, hp⟩⟩⟩⟩⟩, fun c => absurd c (by omega)⟩, fun c => absurd c (by omega)⟩⟩⟩, fun c => absurd c (by omega)⟩
theorem ri_word {post : Int → St → Prop} {w w1 : St} {o k : Int} (h : sI w 7 = 1) (h9 : sI w 9 = k) (hk : wsgn k) (hr : ∀ p : St → Prop, p w1 → w_X10_reads p w) (h7 : InR (sI w1 7)) (h0 : 0 ≤ sI w1 13) (h1 : sI w1 13 < 300) (hn : ¬ sI w1 7 = 3 → post 0 w1) (hp : sI w1 7 = 3 → w_X10_reads (fun u => post 1 u) (kIt w1 k (sI w1 9))) : w_X10_readsItem post w o := by
  subst h9
  exact ⟨⟨by omega, by omega⟩, fun _ => ⟨fun c => absurd h c, fun _ => ⟨⟨by omega, by omega⟩, fun c => absurd c (by omega), fun _ => ⟨fun _ => hr _ ⟨fun _ => ⟨fun c => absurd c (by omega), fun _ => ⟨fun c => absurd c (by omega), fun _ => ⟨fun c => absurd c (by omega), fun _ => ⟨fun _ => ⟨fun _ => ⟨h7, fun c => ⟨h0, h1, hp c⟩, hn⟩, fun c => absurd c (by omega)⟩, fun c => absurd c (by omega)⟩⟩⟩⟩, fun c => absurd c (by omega)⟩, fun c => absurd c (by omega)⟩⟩⟩, fun c => absurd c (by omega)⟩
theorem ri_at {post : Int → St → Prop} {w w1 : St} {o : Int} (h : sI w 7 = 1) (h9 : sI w 9 = 64) (hr : ∀ p : St → Prop, p w1 → w_X10_reads p w) (h7 : InR (sI w1 7)) (h0 : 0 ≤ sI w1 13) (h1 : sI w1 13 < 300) (hn : ¬ sI w1 7 = 2 → post 0 w1) (hp : sI w1 7 = 2 → w_X10_reads (fun u => post 1 u) (kIt w1 64 (sI w1 9))) : w_X10_readsItem post w o := by
  refine ⟨⟨by omega, by omega⟩, fun _ => ⟨fun c => absurd h c, fun _ => ⟨⟨by omega, by omega⟩, fun c => absurd c (by omega), fun _ => ⟨fun _ => hr _ ⟨fun _ => ⟨fun c => absurd c (by omega), fun _ => ⟨fun c => absurd c (by omega), fun _ => ⟨fun c => absurd c (by omega), fun _ => ⟨fun _ => ⟨fun c => absurd h9 c, fun _ => ⟨h7, fun c => ⟨h0, h1, ?_⟩, hn⟩⟩, fun c => absurd c (by omega)⟩⟩⟩⟩, fun c => absurd c (by omega)⟩, fun c => absurd c (by omega)⟩⟩⟩, fun c => absurd c (by omega)⟩
  rw [h9]
  exact hp c
theorem opens_ok {post : Int → St → Prop} {w : St} {o q : Int} (h7 : InR (sI w 7)) (h9 : sI w 7 = 1 → InR (sI w 9)) (ho : 0 ≤ o ∧ o ≤ 4) (h0 : 0 ≤ sI w 13) (h1 : sI w 13 < 300) (hn : ¬ (sI w 7 = 1 ∧ sI w 9 = 123 ∧ o < 4) → post 0 w) (hp : sI w 7 = 1 → sI w 9 = 123 → o < 4 → w_X10_reads (fun u => post 1 u) (kIt w 123 q)) : w_X10_opens post w o q :=
  ⟨h7, fun c => ⟨by decide, fun _ => hn (by omega), fun f => absurd rfl f⟩, fun c => ⟨h9 c, by decide, fun d => ⟨by decide, fun _ => hn (by omega), fun f => absurd rfl f⟩, fun d => ⟨by decide, fun f => absurd f (by decide), fun _ => ⟨⟨by omega, by omega⟩, fun e => ⟨h0, h1, hp c d (by omega)⟩, fun e => hn (by omega)⟩⟩⟩⟩
theorem ri_star {post : Int → St → Prop} {w w1 : St} {o : Int} (h : sI w 7 = 1) (h9 : sI w 9 = 42) (hr : ∀ p : St → Prop, p w1 → w_X10_reads p w) (hp : w_X10_opens (fun (z43 : Int) (u44 : St) => (z43 = 0 ∨ z43 = 1) ∧ post z43 u44) w1 o 0) : w_X10_readsItem post w o :=
  ⟨⟨by omega, by omega⟩, fun _ => ⟨fun c => absurd h c, fun _ => ⟨⟨by omega, by omega⟩, fun c => absurd c (by omega), fun _ => ⟨fun _ => hr _ ⟨fun c => absurd h9 c, fun _ => hp⟩, fun c => absurd c (by omega)⟩⟩⟩, fun c => absurd c (by omega)⟩
theorem ri_times {post : Int → St → Prop} {w w1 : St} {o : Int} (h : sI w 7 = 2) (h9 : 1 ≤ sI w 9 ∧ sI w 9 ≤ 20) (hr : ∀ p : St → Prop, p w1 → w_X10_reads p w) (hp : w_X10_opens (fun (z43 : Int) (u44 : St) => (z43 = 0 ∨ z43 = 1) ∧ post z43 u44) w1 o (sI w 9)) : w_X10_readsItem post w o :=
  ⟨⟨by omega, by omega⟩, fun c => absurd h c, fun _ => in_ok ⟨by omega, by omega⟩ (by decide) (by decide) (fun c => absurd h9 c) (fun _ _ => ⟨by decide, fun _ => hr _ hp, fun f => absurd f (by decide)⟩)⟩
