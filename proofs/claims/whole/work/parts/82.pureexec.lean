/-! doing a script: the class's calls beside the reference's loop -/
def StC (u : St) (c : Int) (Kd Nm E : Int → Int) (S0 : Int) : Prop := sI u 16 = c ∧ sA u 7 = Kd ∧ sA u 8 = Nm ∧ sA u 10 = E ∧ sI u 0 = S0
theorem StC.fx {u u' : St} {c S0 : Int} {Kd Nm E : Int → Int} (h : StC u c Kd Nm E S0) (hF : Fx u u') : StC u' c Kd Nm E S0 := ⟨(hF.1 16 (by omega)).trans h.1, (hF.2 7 (by omega)).trans h.2.1, (hF.2 8 (by omega)).trans h.2.2.1, (hF.2 10 (by omega)).trans h.2.2.2.1, (hF.1 0 (by omega)).trans h.2.2.2.2⟩
def StM (v : St) (it : Int) (IK IV IE : Int → Int) : Prop := sI v 13 = it ∧ sA v 8 = IK ∧ sA v 9 = IV ∧ sA v 10 = IE
def FxR (o : Int) (v v' : St) : Prop := (∀ k, k = 0 ∨ 5 < k → sI v' k = sI v k) ∧ (∀ k, 5 < k → k < 11 ∨ 13 < k → sA v' k = sA v k) ∧ (∀ k j, 10 < k → k < 14 → j < o → sA v' k j = sA v k j)
theorem FxR.rf {o : Int} {v : St} : FxR o v v := ⟨fun _ _ => rfl, fun _ _ _ => rfl, fun _ _ _ _ _ => rfl⟩
theorem FxR.tr {o : Int} {u v w : St} (h : FxR o u v) (h' : FxR o v w) : FxR o u w := ⟨fun k a => (h'.1 k a).trans (h.1 k a), fun k a b => (h'.2.1 k a b).trans (h.2.1 k a b), fun k j a b c => (h'.2.2 k j a b c).trans (h.2.2 k j a b c)⟩
theorem FxR.le {o o' : Int} {v v' : St} (h : FxR o v v') (hle : o' ≤ o) : FxR o' v v' := ⟨h.1, h.2.1, fun k j a b c => h.2.2 k j a b (by omega)⟩
theorem FxM.r {o : Int} {v v' : St} (h : FxM v v') : FxR o v v' := ⟨h.1, fun k a _ => h.2 k a, fun k j a _ _ => by rw [h.2 k (by omega)]⟩
theorem FxR.a {o i z : Int} {k : Nat} {v : St} (hk : 10 < k ∧ k < 14) (hi : o ≤ i) : FxR o v (pA v k i z) := ⟨fun _ _ => rfl, fun j a b => by rw [sA_pA, if_neg (by omega)], fun k' j a b c => by
  rw [sA_pA]
  by_cases e : k' = k
  · rw [if_pos e, zset_at, if_neg (by omega), e]
  · rw [if_neg e]⟩
theorem StM.fx {v v' : St} {o it : Int} {IK IV IE : Int → Int} (h : StM v it IK IV IE) (hF : FxR o v v') : StM v' it IK IV IE := ⟨(hF.1 13 (by omega)).trans h.1, (hF.2.1 8 (by omega) (by omega)).trans h.2.1, (hF.2.1 9 (by omega) (by omega)).trans h.2.2.1, (hF.2.1 10 (by omega) (by omega)).trans h.2.2.2⟩
theorem mj_a {v : St} {g : Sg} {k : Nat} {i z : Int} (h : MJ v g) (hk : 5 < k) : MJ (pA v k i z) g := mj_x h (fun _ _ _ => rfl) (fun j a => by rw [sA_pA, if_neg (by omega)])
/-- where the reference is, when the class's outcome is z: on at bi, at the end, or on its way out of braces -/
def Fin (Q : Int → St → Prop) (n : Nat) (z q : Int) (v : St) (o bi : Int) : Prop := (z = 0 → Lp (B_X10_runs_6 Q) n (v, o, q, bi)) ∧ (z = -6 → Q q (pI v 12 (-6))) ∧ (z ≠ 0 → z ≠ -6 → ∃ m, Lp (B_X10_runs_216 Q v q z (Lp (B_X10_runs_6 Q) n)) m o)
def Out (S0 : Int) (g g' : Sg) (z : Int) (ca cb : Nat) : Prop := VS g' ∧ (z = 0 ∨ z = -6 ∨ (-5 ≤ z ∧ z ≤ -2)) ∧ gA g ≤ gA g' ∧ gA g' - S0 ≤ 300 ∧ gC g ≤ gC g' ∧ (ca : Int) ≤ (gA g' - gA g) + (gC g' - gC g) ∧ (cb : Int) ≤ (gA g' - gA g) + 4 * (gC g' - gC g)
def RefX (it : Int) (IK IV IE : Int → Int) (S0 : Int) (g g' : Sg) (z : Int) (M : Nat) (o ai bi : Int) : Prop := ∀ (v : St) (Q : Int → St → Prop) (n : Nat), MJ v g → StM v it IK IV IE → (∀ v', MJ v' g' → FxR o v v' → Fin Q n z (gA g' - S0) v' o bi) → Lp (B_X10_runs_6 Q) (n + M) (v, o, gA g - S0, ai)
abbrev attK (post : Int → St → Prop) : Int → St → Prop := fun (z : Int) (u9 : St) => (InR z) ∧ ((0 ≤ z → post 0 u9) ∧ (¬ 0 ≤ z → post z u9))
/-- one act of a script -/
theorem op_of {G : Gr} {wc : (Int → St → Prop) → Nat → Nat → St → Prop} {wm : (Int → St → Prop) → St → Prop} {g : Sg} {k x y S0 it : Int} {IK IV IE : Int → Int} (hact : Act G wc wm g) (hV : VS g) (hs0 : 0 ≤ gA g - S0) (hs1 : gA g - S0 ≤ 300)
    (hat : ∀ (u : St) (post : Int → St → Prop) (a b : Nat), InR (sI u 4 - sI u 0) → (sI u 4 - sI u 0 < 300 → wc (attK post) a b u) → (¬ sI u 4 - sI u 0 < 300 → post (-6) u) → w_X9_attempt post a b G u k x)
    (hdo : ∀ (v : St) (post : Int → St → Prop), wm post v → w_X10_does post v k y) (hk : k ≠ 123 ∧ k ≠ 125 ∧ InR k) (o ai : Int) (h0 : 0 ≤ ai) (h1 : ai < it) (h3 : it ≤ 300) (ek : IK ai = k) (ey : IV ai = y) :
    ∃ (z : Int) (g' : Sg) (ca cb : Nat), Out S0 g g' z ca cb ∧ (∀ (u : St) (post : Int → St → Prop), AJ G u g → sI u 0 = S0 → (∀ u', AJ G u' g' → Fx u u' → post z u') → w_X9_attempt post ca cb G u k x) ∧ RefX it IK IV IE S0 g g' z 1 o ai (ai + 1) := by
  have href : ∀ (v : St) (Q : Int → St → Prop) (n : Nat), StM v it IK IV IE → (¬ gA g - S0 = 300 → wm (fun (z15 : Int) (u16 : St) => (InR z15) ∧ ((z15 < 0 → (∃ m : Nat, Lp (B_X10_runs_216 Q u16 (gA g - S0) z15 (Lp (B_X10_runs_6 Q) n)) m o)) ∧ (¬ z15 < 0 → Lp (B_X10_runs_6 Q) n (u16, o, gA g - S0 + 1, ai + 1)))) v) → (gA g - S0 = 300 → Q (gA g - S0) (pI v 12 (-6))) → Lp (B_X10_runs_6 Q) (n + 1) (v, o, gA g - S0, ai) := by
    intro v Q n hM hn hy
    obtain ⟨m1, m2, m3, m4⟩ := hM
    show (InR ai) ∧ (InR (sI v 13)) ∧ ((sI v 13 ≤ ai → Q (gA g - S0) v) ∧ (¬ sI v 13 ≤ ai → (0 ≤ ai) ∧ (ai < 300) ∧ (InR (sA v 8 ai)) ∧ ((¬ sA v 8 ai = 123 → ((¬ sA v 8 ai = 125 → (InR (gA g - S0)) ∧ ((¬ gA g - S0 = 300 → (w_X10_does _ v (sA v 8 ai) (sA v 9 ai))) ∧ (gA g - S0 = 300 → Q (gA g - S0) (pI v 12 (-6))))) ∧ (sA v 8 ai = 125 → _))) ∧ (sA v 8 ai = 123 → _))))
    rw [m1, m2, m3, ek, ey]
    exact ⟨⟨by omega, by omega⟩, ⟨by omega, by omega⟩, fun c => absurd h1 (by omega), fun _ => ⟨h0, by omega, hk.2.2, fun _ => ⟨fun _ => ⟨⟨by omega, by omega⟩, fun d => hdo v _ (hn d), hy⟩, fun d => absurd d hk.2.1⟩, fun d => absurd d hk.1⟩⟩
  by_cases hq : gA g - S0 = 300
  · refine ⟨-6, g, 0, 0, ⟨hV, Or.inr (Or.inl rfl), Int.le_refl _, hs1, Int.le_refl _, by omega, by omega⟩, fun u post h hu0 hp => ?_, fun v Q n h hM hF => ?_⟩
    · have e4 : sI u 4 = gA g := h.2.2.1
      exact hat u post 0 0 ⟨by omega, by omega⟩ (fun d => absurd d (by omega)) (fun _ => hp u h Fx.rf)
    · exact href v Q n hM (fun d => absurd hq d) (fun _ => (hF v h FxR.rf).2.1 rfl)
  · obtain ⟨z0, g1, a, b, hV1, hz, hC, hd, hc, hm⟩ := hact
    by_cases hneg : z0 < 0
    · rcases hd with ⟨-, d1, d2, d3, d4, d5, d6⟩ | ⟨d0, -⟩
      · refine ⟨z0, g1, a, b, ⟨hV1, Or.inr (Or.inr ⟨d1, d2⟩), by omega, by omega, hC, by omega, by omega⟩, fun u post h hu0 hp => ?_, fun v Q n h hM hF => ?_⟩
        · have e4 : sI u 4 = gA g := h.2.2.1
          exact hat u post a b ⟨by omega, by omega⟩ (fun _ => hc u _ h (fun u' A F => ⟨hz, fun d => absurd hneg (by omega), fun _ => hp u' A F⟩)) (fun d => absurd d (by omega))
        · refine href v Q n hM (fun _ => hm v _ h (fun v' M F => ⟨hz, fun _ => ?_, fun d => absurd hneg d⟩)) (fun d => absurd d hq)
          have e := (hF v' M F.r).2.2 (by omega) (by omega)
          rw [d5] at e
          exact e
      · omega
    · rcases hd with ⟨d0, -⟩ | ⟨d0, d1, d2, d3⟩
      · omega
      · refine ⟨0, g1, a, b, ⟨hV1, Or.inl rfl, by omega, by omega, hC, by omega, by omega⟩, fun u post h hu0 hp => ?_, fun v Q n h hM hF => ?_⟩
        · have e4 : sI u 4 = gA g := h.2.2.1
          exact hat u post a b ⟨by omega, by omega⟩ (fun _ => hc u _ h (fun u' A F => ⟨hz, fun _ => hp u' A F, fun d => absurd d0 d⟩)) (fun d => absurd d (by omega))
        · refine href v Q n hM (fun _ => hm v _ h (fun v' M F => ⟨hz, fun d => absurd d hneg, fun _ => ?_⟩)) (fun d => absurd d hq)
          have e := (hF v' M F.r).1 rfl
          rw [d1] at e
          rw [show gA g - S0 + 1 = gA g + 1 - S0 by omega]
          exact e
theorem at_37 {post : Int → St → Prop} {G : Gr} {u : St} {a b : Nat} {x : Int} (hr : InR (sI u 4 - sI u 0)) (h : sI u 4 - sI u 0 < 300 → w_X1_cross (attK post) a b G u) (h6 : ¬ sI u 4 - sI u 0 < 300 → post (-6) u) : w_X9_attempt post a b G u 37 x :=
  ⟨hr, fun c => ⟨by decide, fun _ => ⟨a, b, by omega, by omega, h c⟩, fun d => absurd d (by decide), fun d => absurd d (by decide), fun d => absurd d (by decide), fun d => absurd d (by decide), fun d => absurd d (by decide), fun d => absurd d (by decide), fun d => absurd d (by decide), fun d => absurd (by decide) d⟩, h6⟩
theorem at_43 {post : Int → St → Prop} {G : Gr} {u : St} {a b : Nat} {x : Int} (hr : InR (sI u 4 - sI u 0)) (h : sI u 4 - sI u 0 < 300 → w_X1_insert (attK post) a b G u x) (h6 : ¬ sI u 4 - sI u 0 < 300 → post (-6) u) : w_X9_attempt post a b G u 43 x :=
  ⟨hr, fun c => ⟨by decide, fun d => absurd d (by decide), fun _ => ⟨a, b, by omega, by omega, h c⟩, fun d => absurd d (by decide), fun d => absurd d (by decide), fun d => absurd d (by decide), fun d => absurd d (by decide), fun d => absurd d (by decide), fun d => absurd d (by decide), fun d => absurd (by decide) d⟩, h6⟩
theorem at_44 {post : Int → St → Prop} {G : Gr} {u : St} {a b : Nat} {x : Int} (hr : InR (sI u 4 - sI u 0)) (h : sI u 4 - sI u 0 < 300 → w_X1_pass (attK post) G u 1) (h6 : ¬ sI u 4 - sI u 0 < 300 → post (-6) u) : w_X9_attempt post a b G u 44 x :=
  ⟨hr, fun c => ⟨by decide, fun d => absurd d (by decide), fun d => absurd d (by decide), fun _ => h c, fun d => absurd d (by decide), fun d => absurd d (by decide), fun d => absurd d (by decide), fun d => absurd d (by decide), fun d => absurd d (by decide), fun d => absurd (by decide) d⟩, h6⟩
theorem at_45 {post : Int → St → Prop} {G : Gr} {u : St} {a b : Nat} {x : Int} (hr : InR (sI u 4 - sI u 0)) (h : sI u 4 - sI u 0 < 300 → w_X1_drop (attK post) G u) (h6 : ¬ sI u 4 - sI u 0 < 300 → post (-6) u) : w_X9_attempt post a b G u 45 x :=
  ⟨hr, fun c => ⟨by decide, fun d => absurd d (by decide), fun d => absurd d (by decide), fun d => absurd d (by decide), fun _ => h c, fun d => absurd d (by decide), fun d => absurd d (by decide), fun d => absurd d (by decide), fun d => absurd d (by decide), fun d => absurd (by decide) d⟩, h6⟩
theorem at_46 {post : Int → St → Prop} {G : Gr} {u : St} {a b : Nat} {x : Int} (hr : InR (sI u 4 - sI u 0)) (h : sI u 4 - sI u 0 < 300 → w_X1_pass (attK post) G u 0) (h6 : ¬ sI u 4 - sI u 0 < 300 → post (-6) u) : w_X9_attempt post a b G u 46 x :=
  ⟨hr, fun c => ⟨by decide, fun d => absurd d (by decide), fun d => absurd d (by decide), fun d => absurd d (by decide), fun d => absurd d (by decide), fun _ => h c, fun d => absurd d (by decide), fun d => absurd d (by decide), fun d => absurd d (by decide), fun d => absurd (by decide) d⟩, h6⟩
theorem at_60 {post : Int → St → Prop} {G : Gr} {u : St} {a b : Nat} {x : Int} (hr : InR (sI u 4 - sI u 0)) (h : sI u 4 - sI u 0 < 300 → w_X1_seek (attK post) G u x 1) (h6 : ¬ sI u 4 - sI u 0 < 300 → post (-6) u) : w_X9_attempt post a b G u 60 x :=
  ⟨hr, fun c => ⟨by decide, fun d => absurd d (by decide), fun d => absurd d (by decide), fun d => absurd d (by decide), fun d => absurd d (by decide), fun d => absurd d (by decide), fun _ => h c, fun d => absurd d (by decide), fun d => absurd d (by decide), fun d => absurd (by decide) d⟩, h6⟩
theorem at_61 {post : Int → St → Prop} {G : Gr} {u : St} {a b : Nat} {x : Int} (hr : InR (sI u 4 - sI u 0)) (h : sI u 4 - sI u 0 < 300 → w_X1_exchange (attK post) a b G u x) (h6 : ¬ sI u 4 - sI u 0 < 300 → post (-6) u) : w_X9_attempt post a b G u 61 x :=
  ⟨hr, fun c => ⟨by decide, fun d => absurd d (by decide), fun d => absurd d (by decide), fun d => absurd d (by decide), fun d => absurd d (by decide), fun d => absurd d (by decide), fun d => absurd d (by decide), fun _ => ⟨a, b, by omega, by omega, h c⟩, fun d => absurd d (by decide), fun d => absurd (by decide) d⟩, h6⟩
theorem at_62 {post : Int → St → Prop} {G : Gr} {u : St} {a b : Nat} {x : Int} (hr : InR (sI u 4 - sI u 0)) (h : sI u 4 - sI u 0 < 300 → w_X1_seek (attK post) G u x 0) (h6 : ¬ sI u 4 - sI u 0 < 300 → post (-6) u) : w_X9_attempt post a b G u 62 x :=
  ⟨hr, fun c => ⟨by decide, fun d => absurd d (by decide), fun d => absurd d (by decide), fun d => absurd d (by decide), fun d => absurd d (by decide), fun d => absurd d (by decide), fun d => absurd d (by decide), fun d => absurd d (by decide), fun _ => h c, fun d => absurd (by decide) d⟩, h6⟩
theorem at_64 {post : Int → St → Prop} {G : Gr} {u : St} {a b : Nat} {x : Int} (hr : InR (sI u 4 - sI u 0)) (h : sI u 4 - sI u 0 < 300 → w_X1_go (attK post) G u x) (h6 : ¬ sI u 4 - sI u 0 < 300 → post (-6) u) : w_X9_attempt post a b G u 64 x :=
  ⟨hr, fun c => ⟨by decide, fun d => absurd d (by decide), fun d => absurd d (by decide), fun d => absurd d (by decide), fun d => absurd d (by decide), fun d => absurd d (by decide), fun d => absurd d (by decide), fun d => absurd d (by decide), fun d => absurd d (by decide), fun _ => h c⟩, h6⟩
theorem do_k {post : Int → St → Prop} {v : St} {k y : Int} (hk : InR k) (h37 : k = 37 → w_X10_swaps post v) (h43 : k = 43 → w_X10_adds post v y) (h44 : k = 44 → w_X10_passesBack post v) (h45 : k = 45 → w_X10_removes post v) (h46 : k = 46 → w_X10_passes post v) (h60 : k = 60 → w_X10_finds post v y 1) (h61 : k = 61 → w_X10_sets post v y) (h62 : k = 62 → w_X10_finds post v y 0) (h64 : ¬ (k = 37 ∨ k = 43 ∨ k = 44 ∨ k = 45 ∨ k = 46 ∨ k = 60 ∨ k = 61 ∨ k = 62) → w_X10_moves post v y) : w_X10_does post v k y := ⟨hk, h37, h43, h44, h45, h46, h60, h61, h62, h64⟩
theorem op_ex {G : Gr} {g : Sg} {k x y S0 it : Int} {IK IV IE : Int → Int} (hk : alone k ∨ (wsgn k ∧ isW y ∧ x = y) ∨ (k = 64 ∧ InR y ∧ x = y)) (hV : VS g) (hs0 : 0 ≤ gA g - S0) (hs1 : gA g - S0 ≤ 300) (o ai : Int) (h0 : 0 ≤ ai) (h1 : ai < it) (h3 : it ≤ 300) (ek : IK ai = k) (ey : IV ai = y) :
    ∃ (z : Int) (g' : Sg) (ca cb : Nat), Out S0 g g' z ca cb ∧ (∀ (u : St) (post : Int → St → Prop), AJ G u g → sI u 0 = S0 → (∀ u', AJ G u' g' → Fx u u' → post z u') → w_X9_attempt post ca cb G u k x) ∧ RefX it IK IV IE S0 g g' z 1 o ai (ai + 1) := by
  rcases hk with (hk | hk | hk | hk) | ⟨hk | hk | hk | hk, hw, hx⟩ | ⟨hk, hr, hx⟩
  · subst hk
    exact op_of (act_next (G := G) hV) hV hs0 hs1 (fun u post a b r p q => at_46 r p q) (fun v post p => do_k (by decide) (fun d => absurd d (by decide)) (fun d => absurd d (by decide)) (fun d => absurd d (by decide)) (fun d => absurd d (by decide)) (fun _ => p) (fun d => absurd d (by decide)) (fun d => absurd d (by decide)) (fun d => absurd d (by decide)) (fun d => absurd (by decide) d)) (by decide) o ai h0 h1 h3 ek ey
  · subst hk
    exact op_of (act_prev (G := G) hV) hV hs0 hs1 (fun u post a b r p q => at_44 r p q) (fun v post p => do_k (by decide) (fun d => absurd d (by decide)) (fun d => absurd d (by decide)) (fun _ => p) (fun d => absurd d (by decide)) (fun d => absurd d (by decide)) (fun d => absurd d (by decide)) (fun d => absurd d (by decide)) (fun d => absurd d (by decide)) (fun d => absurd (by decide) d)) (by decide) o ai h0 h1 h3 ek ey
  · subst hk
    exact op_of (act_drop (G := G) hV) hV hs0 hs1 (fun u post a b r p q => at_45 r p q) (fun v post p => do_k (by decide) (fun d => absurd d (by decide)) (fun d => absurd d (by decide)) (fun d => absurd d (by decide)) (fun _ => p) (fun d => absurd d (by decide)) (fun d => absurd d (by decide)) (fun d => absurd d (by decide)) (fun d => absurd d (by decide)) (fun d => absurd (by decide) d)) (by decide) o ai h0 h1 h3 ek ey
  · subst hk
    exact op_of (act_cross (G := G) hV) hV hs0 hs1 (fun u post a b r p q => at_37 r p q) (fun v post p => do_k (by decide) (fun _ => p) (fun d => absurd d (by decide)) (fun d => absurd d (by decide)) (fun d => absurd d (by decide)) (fun d => absurd d (by decide)) (fun d => absurd d (by decide)) (fun d => absurd d (by decide)) (fun d => absurd d (by decide)) (fun d => absurd (by decide) d)) (by decide) o ai h0 h1 h3 ek ey
  · subst hk
    subst hx
    exact op_of (act_insert (G := G) hw hV) hV hs0 hs1 (fun u post a b r p q => at_43 r p q) (fun v post p => do_k (by decide) (fun d => absurd d (by decide)) (fun _ => p) (fun d => absurd d (by decide)) (fun d => absurd d (by decide)) (fun d => absurd d (by decide)) (fun d => absurd d (by decide)) (fun d => absurd d (by decide)) (fun d => absurd d (by decide)) (fun d => absurd (by decide) d)) (by decide) o ai h0 h1 h3 ek ey
  · subst hk
    subst hx
    exact op_of (act_exch (G := G) hw hV) hV hs0 hs1 (fun u post a b r p q => at_61 r p q) (fun v post p => do_k (by decide) (fun d => absurd d (by decide)) (fun d => absurd d (by decide)) (fun d => absurd d (by decide)) (fun d => absurd d (by decide)) (fun d => absurd d (by decide)) (fun d => absurd d (by decide)) (fun _ => p) (fun d => absurd d (by decide)) (fun d => absurd (by decide) d)) (by decide) o ai h0 h1 h3 ek ey
  · subst hk
    subst hx
    exact op_of (act_seekF (G := G) hw hV) hV hs0 hs1 (fun u post a b r p q => at_62 r p q) (fun v post p => do_k (by decide) (fun d => absurd d (by decide)) (fun d => absurd d (by decide)) (fun d => absurd d (by decide)) (fun d => absurd d (by decide)) (fun d => absurd d (by decide)) (fun d => absurd d (by decide)) (fun d => absurd d (by decide)) (fun _ => p) (fun d => absurd (by decide) d)) (by decide) o ai h0 h1 h3 ek ey
  · subst hk
    subst hx
    exact op_of (act_seekB (G := G) hw hV) hV hs0 hs1 (fun u post a b r p q => at_60 r p q) (fun v post p => do_k (by decide) (fun d => absurd d (by decide)) (fun d => absurd d (by decide)) (fun d => absurd d (by decide)) (fun d => absurd d (by decide)) (fun d => absurd d (by decide)) (fun _ => p) (fun d => absurd d (by decide)) (fun d => absurd d (by decide)) (fun d => absurd (by decide) d)) (by decide) o ai h0 h1 h3 ek ey
  · subst hk
    subst hx
    exact op_of (act_go (G := G) hr hV) hV hs0 hs1 (fun u post a b r p q => at_64 r p q) (fun v post p => do_k (by decide) (fun d => absurd d (by decide)) (fun d => absurd d (by decide)) (fun d => absurd d (by decide)) (fun d => absurd d (by decide)) (fun d => absurd d (by decide)) (fun d => absurd d (by decide)) (fun d => absurd d (by decide)) (fun d => absurd d (by decide)) (fun _ => p)) (by decide) o ai h0 h1 h3 ek ey
