/-! doing a script: rows of acts, and blocks -/
def Cx (c it : Int) (Kd Nm : Int → Int) (S0 : Int) : Prop := c ≤ 300 ∧ it ≤ 300 ∧ (∀ t, 0 ≤ t → t < c → Kd t = 1 → isW (Nm t)) ∧ (∀ t, 0 ≤ t → t < c → Kd t = 2 → InR (Nm t)) ∧ (∀ t, 0 ≤ t → t < c → InR (Kd t)) ∧ 0 ≤ S0 ∧ S0 ≤ 1000000
def PathX (G : Gr) (c it : Int) (Kd Nm E IK IV IE : Int → Int) (S0 : Int) (d o : Nat) (a b : Pr) : Prop := ∀ g : Sg, VS g → 0 ≤ gA g - S0 → gA g - S0 ≤ 300 → ∃ (z : Int) (g' : Sg) (ca cb N M : Nat), Out S0 g g' z ca cb ∧
  (∀ (u : St) (post : Int → St → Prop) (mc ms kc ks : Nat), AJ G u g → StC u c Kd Nm E S0 → kc + ca ≤ mc → ks + cb ≤ ms → (∀ u', AJ G u' g' → Fx u u' → post z u') → Lp (B_X9_perform_9 (wb_X9_repeatTimes (wP (d + 1))) (wb_X9_repeatUntilRefused (wP (d + 1))) post mc ms G b.1 o) N (u, 0, a.1, a.1, kc, ks)) ∧ RefX it IK IV IE S0 g g' z M o a.2 b.2
def ActX (G : Gr) (c it : Int) (Kd Nm E IK IV IE : Int → Int) (S0 : Int) (d o : Nat) (a b : Pr) : Prop := E a.1 = b.1 ∧ ∀ g : Sg, VS g → 0 ≤ gA g - S0 → gA g - S0 ≤ 300 → ∃ (z : Int) (g' : Sg) (ca cb M : Nat), Out S0 g g' z ca cb ∧
  ((Kd a.1 ≠ 42 ∧ Kd a.1 ≠ 2 ∧ ∃ x, (∀ (u : St) (p : Int → Prop), sI u 16 = c → sA u 8 = Nm → p x → w_X7_numberOf p u (a.1 + 1)) ∧ ∀ (u : St) (post : Int → St → Prop), AJ G u g → StC u c Kd Nm E S0 → (∀ u', AJ G u' g' → Fx u u' → post z u') → w_X9_attempt post ca cb G u (Kd a.1) x) ∨
   (Kd a.1 = 2 ∧ ∀ (u : St) (post : Int → St → Prop), AJ G u g → StC u c Kd Nm E S0 → (∀ u', AJ G u' g' → Fx u u' → post z u') → wb_X9_repeatTimes (wP (d + 1)) post ca cb G u a.1 o) ∨
   (Kd a.1 = 42 ∧ ∀ (u : St) (post : Int → St → Prop), AJ G u g → StC u c Kd Nm E S0 → (∀ u', AJ G u' g' → Fx u u' → post z u') → wb_X9_repeatUntilRefused (wP (d + 1)) post ca cb G u a.1 o)) ∧ RefX it IK IV IE S0 g g' z M o a.2 b.2
theorem skip_lp {WT WU : PT2} {post : Int → St → Prop} {mc ms kc ks N : Nat} {G : Gr} {to o st : Int} {u : St} (h0 : st ≤ to) (h1 : to ≤ 300) : ∀ (k : Nat) (x : Int), x + k = st → 0 ≤ x → Lp (B_X9_perform_9 WT WU post mc ms G to o) N (u, 0, st, st, kc, ks) → Lp (B_X9_perform_9 WT WU post mc ms G to o) (N + k) (u, 0, st, x, kc, ks)
  | 0, x, e, _, h => by
    rw [show x = st by omega]
    exact h
  | k + 1, x, e, hx, h => by
    have := skip_lp (WT := WT) (WU := WU) (post := post) (mc := mc) (ms := ms) (G := G) (o := o) (u := u) h0 h1 k (x + 1) (by omega) (by omega) h
    exact ⟨⟨by show -2147483648 ≤ x; omega, by show x ≤ 2147483647; omega⟩, ⟨by omega, by omega⟩, fun c => absurd c (by show ¬ to ≤ x; omega), fun _ => ⟨(by show InR (0 : Int); decide), fun c => absurd rfl c, fun _ => ⟨⟨by show -2147483648 ≤ st; omega, by show st ≤ 2147483647; omega⟩, fun _ => this, fun c => absurd c (by show ¬ x = st; omega)⟩⟩⟩
theorem out_z {S0 : Int} {g g' : Sg} {z : Int} {ca cb : Nat} (h : Out S0 g g' z ca cb) : InR z := by
  rcases h.2.1 with r | r | r <;> exact ⟨by omega, by omega⟩
theorem out_tr {S0 z1 z2 : Int} {g g1 g2 : Sg} {a1 b1 a2 b2 : Nat} (h : Out S0 g g1 z1 a1 b1) (h' : Out S0 g1 g2 z2 a2 b2) : Out S0 g g2 z2 (a1 + a2) (b1 + b2) := by
  obtain ⟨-, -, q3, -, q5, q6, q7⟩ := h
  obtain ⟨r1, r2, r3, r4, r5, r6, r7⟩ := h'
  exact ⟨r1, r2, by omega, r4, by omega, by omega, by omega⟩
theorem path_of {G : Gr} {c it S0 : Int} {Kd Nm E IK IV IE : Int → Int} {d o : Nat} (hC : Cx c it Kd Nm S0) (hA : ∀ a b : Pr, Ac Kd Nm E IK IV IE d a b → 0 ≤ a.1 → 0 ≤ a.2 → b.1 ≤ c → b.2 ≤ it → ActX G c it Kd Nm E IK IV IE S0 d o a b) : ∀ (m : Nat) (a b : Pr), Pth (Ac Kd Nm E IK IV IE d) m a b → 0 ≤ a.1 → 0 ≤ a.2 → b.1 ≤ c → b.2 ≤ it → PathX G c it Kd Nm E IK IV IE S0 d o a b
  | 0, a, b, e, a0, a1, b0, b1 => by
    have e : a = b := e
    subst e
    intro g hV s0 s1
    have hc := hC.1
    refine ⟨0, g, 0, 0, 1, 0, ⟨hV, Or.inl rfl, Int.le_refl _, s1, Int.le_refl _, by omega, by omega⟩, fun u post mc ms kc ks h hS hmc hms hp => ?_, fun v Q n h hM hF => (hF v h FxR.rf).1 rfl⟩
    exact ⟨⟨by show -2147483648 ≤ a.1; omega, by show a.1 ≤ 2147483647; omega⟩, ⟨by omega, by omega⟩, fun _ => ⟨by show kc ≤ mc; omega, by show ks ≤ ms; omega, hp u h Fx.rf⟩, fun f => absurd (Int.le_refl _) f⟩
  | m + 1, a, b, ⟨x, h1, h2⟩, a0, a1, b0, b1 => by
    have p1 := Ac.mono d a x h1
    have p2 : x.1 ≤ b.1 ∧ x.2 ≤ b.2 := Ac.pmono h2
    have hc := hC.1
    have hX := hA a x h1 a0 a1 (by omega) (by omega)
    have hP := path_of hC hA m x b h2 (by omega) (by omega) b0 b1
    obtain ⟨eE, hX⟩ := hX
    intro g hV s0 s1
    obtain ⟨z, g1, ca, cb, M1, hO, hcl, href⟩ := hX g hV s0 s1
    -- the class's step at an act
    have step : ∀ (N : Nat) (u : St) (post : Int → St → Prop) (mc ms kc ks : Nat), AJ G u g → StC u c Kd Nm E S0 → kc + ca ≤ mc → ks + cb ≤ ms → (∀ u', AJ G u' g1 → Fx u u' → Lp (B_X9_perform_9 (wb_X9_repeatTimes (wP (d + 1))) (wb_X9_repeatUntilRefused (wP (d + 1))) post mc ms G b.1 o) N (u', z, x.1, a.1 + 1, kc + ca, ks + cb)) → Lp (B_X9_perform_9 (wb_X9_repeatTimes (wP (d + 1))) (wb_X9_repeatUntilRefused (wP (d + 1))) post mc ms G b.1 o) (N + 1) (u, 0, a.1, a.1, kc, ks) := by
      intro N u post mc ms kc ks h hS hmc hms hp
      obtain ⟨s16, s7, s8, s10, s00⟩ := hS
      have hS : StC u c Kd Nm E S0 := ⟨s16, s7, s8, s10, s00⟩
      refine ⟨⟨by show -2147483648 ≤ a.1; omega, by show a.1 ≤ 2147483647; omega⟩, ⟨by omega, by omega⟩, fun f => absurd f (by show ¬ b.1 ≤ a.1; omega), fun _ => ⟨(by show InR (0 : Int); decide), fun f => absurd rfl f, fun _ => ⟨⟨by show -2147483648 ≤ a.1; omega, by show a.1 ≤ 2147483647; omega⟩, fun f => absurd rfl f, fun _ => ⟨by show kc ≤ mc; omega, by show ks ≤ ms; omega, ?_⟩⟩⟩⟩
      refine eOf_ok (t := a.1) a0 (by show a.1 < sI u 16; omega) (by show sI u 16 ≤ 300; omega) ?_
      refine kOf_ok (t := a.1) a0 (by show a.1 < sI u 16; omega) (by show sI u 16 ≤ 300; omega) ?_
      have ek : sA u 7 a.1 = Kd a.1 := by rw [s7]
      have ee : sA u 10 a.1 = x.1 := by rw [s10]; exact eE
      show (InR (sA u 7 a.1)) ∧ _
      rw [ek]
      show (InR (Kd a.1)) ∧ ((¬ Kd a.1 = 42 → ((¬ Kd a.1 = 2 → (w_X7_numberOf (fun (z25 : Int) => (∃ a27 b28 : Nat, (kc + a27 ≤ mc) ∧ (ks + b28 ≤ ms) ∧ w_X9_attempt (fun (z26 : Int) (u31 : St) => Lp (B_X9_perform_9 (wb_X9_repeatTimes (wP (d + 1))) (wb_X9_repeatUntilRefused (wP (d + 1))) post mc ms G b.1 o) N (u31, z26, sA u 10 a.1, a.1 + 1, kc + a27, ks + b28)) a27 b28 G u (Kd a.1) z25)) u (a.1 + 1))) ∧ (Kd a.1 = 2 → (∃ a33 b34 : Nat, (kc + a33 ≤ mc) ∧ (ks + b34 ≤ ms) ∧ wb_X9_repeatTimes (wP (d + 1)) (fun (z32 : Int) (u37 : St) => Lp (B_X9_perform_9 (wb_X9_repeatTimes (wP (d + 1))) (wb_X9_repeatUntilRefused (wP (d + 1))) post mc ms G b.1 o) N (u37, z32, sA u 10 a.1, a.1 + 1, kc + a33, ks + b34)) a33 b34 G u a.1 o)))) ∧ (Kd a.1 = 42 → (∃ a39 b40 : Nat, (kc + a39 ≤ mc) ∧ (ks + b40 ≤ ms) ∧ wb_X9_repeatUntilRefused (wP (d + 1)) (fun (z38 : Int) (u43 : St) => Lp (B_X9_perform_9 (wb_X9_repeatTimes (wP (d + 1))) (wb_X9_repeatUntilRefused (wP (d + 1))) post mc ms G b.1 o) N (u43, z38, sA u 10 a.1, a.1 + 1, kc + a39, ks + b40)) a39 b40 G u a.1 o)))
      rw [ee]
      refine ⟨hC.2.2.2.2.1 a.1 a0 (by omega), fun f => ⟨fun f2 => ?_, fun f2 => ?_⟩, fun f => ?_⟩
      · rcases hcl with ⟨-, -, y, hn, ha⟩ | ⟨q, -⟩ | ⟨q, -⟩
        · exact hn u _ s16 s8 ⟨ca, cb, hmc, hms, ha u _ h hS hp⟩
        · exact absurd q f2
        · exact absurd q f
      · rcases hcl with ⟨-, q, -⟩ | ⟨-, ha⟩ | ⟨q, -⟩
        · exact absurd f2 q
        · exact ⟨ca, cb, hmc, hms, ha u _ h hS hp⟩
        · exact absurd q f
      · rcases hcl with ⟨q, -⟩ | ⟨q, -⟩ | ⟨-, ha⟩
        · exact absurd f q
        · omega
        · exact ⟨ca, cb, hmc, hms, ha u _ h hS hp⟩
    have hzr := out_z hO
    by_cases hz : z = 0
    · subst hz
      have q3 := hO.2.2.1
      have q4 := hO.2.2.2.1
      obtain ⟨z2, g2, ca2, cb2, N2, M2, hO2, hcl2, href2⟩ := hP g1 hO.1 (by omega) q4
      refine ⟨z2, g2, ca + ca2, cb + cb2, N2 + (x.1 - (a.1 + 1)).toNat + 1, M2 + M1, out_tr hO hO2, fun u post mc ms kc ks h hS hmc hms hp => ?_, fun v Q n h hM hF => ?_⟩
      · refine step _ u post mc ms kc ks h hS (by omega) (by omega) (fun u' A F => ?_)
        exact skip_lp p2.1 (by omega) _ _ (by omega) (by omega) (hcl2 u' post mc ms (kc + ca) (ks + cb) A (hS.fx F) (by omega) (by omega) (fun u'' A2 F2 => hp u'' A2 (F.tr F2)))
      · have e := href v Q (n + M2) h hM (fun v' hv' hf' => ⟨fun _ => href2 v' Q n hv' (hM.fx hf') (fun v'' hv'' hf'' => hF v'' hv'' (hf'.tr hf'')), fun f => absurd f (by decide), fun f => absurd rfl f⟩)
        rw [show n + (M2 + M1) = n + M2 + M1 by omega]
        exact e
    · refine ⟨z, g1, ca, cb, 2, M1, hO, fun u post mc ms kc ks h hS hmc hms hp => ?_, fun v Q n h hM hF => ?_⟩
      · refine step 1 u post mc ms kc ks h hS hmc hms (fun u' A F => ?_)
        exact ⟨⟨by show -2147483648 ≤ a.1 + 1; omega, by show a.1 + 1 ≤ 2147483647; omega⟩, ⟨by omega, by omega⟩, fun _ => ⟨by show kc + ca ≤ mc; omega, by show ks + cb ≤ ms; omega, hp u' A F⟩, fun _ => ⟨hzr, fun _ => ⟨by show kc + ca ≤ mc; omega, by show ks + cb ≤ ms; omega, hp u' A F⟩, fun f => absurd f hz⟩⟩
      · exact href v Q n h hM (fun v' hv' hf' => ⟨fun f => absurd f hz, (hF v' hv' hf').2.1, (hF v' hv' hf').2.2⟩)
/-- the reference on its way out of a block that counts -/
theorem unw_n {Q : Int → St → Prop} {v : St} {q z : Int} {K : St × Int × Int × Int → Prop} {o : Nat} (ho : o ≤ 3) (hl : InR (sA v 12 o)) (h1 : 1 ≤ sA v 12 o) (h : ∃ m, Lp (B_X10_runs_216 Q v q z K) m (o : Int)) : ∃ m, Lp (B_X10_runs_216 Q v q z K) m (((o + 1 : Nat)) : Int) := by
  obtain ⟨m, h⟩ := h
  refine ⟨m + 1, ⟨by omega, by omega⟩, fun f => absurd f (by omega), fun _ => ?_⟩
  have e1 : (((o + 1 : Nat)) : Int) - 1 = o := by omega
  have e2 : (((o + 1 : Nat)) : Int) + -1 = o := by omega
  rw [e1, e2]
  exact ⟨by omega, by omega, hl, fun f => absurd h1 (by omega), fun _ => h⟩
/-- .. and of one that doesn't -/
theorem unw_s {Q : Int → St → Prop} {v : St} {q z i : Int} {K : St × Int × Int × Int → Prop} {o : Nat} (ho : o ≤ 3) (hl : sA v 12 o = 0) (hb : sA v 11 o = i) (hi : 0 ≤ i ∧ i < 300) (h : K (v, (o : Int), q, sA v 10 i + 1)) : ∃ m, Lp (B_X10_runs_216 Q v q z K) m (((o + 1 : Nat)) : Int) := by
  refine ⟨1, ⟨by omega, by omega⟩, fun f => absurd f (by omega), fun _ => ?_⟩
  have e1 : (((o + 1 : Nat)) : Int) - 1 = o := by omega
  have e2 : (((o + 1 : Nat)) : Int) + -1 = o := by omega
  rw [e1, e2, hl, hb]
  exact ⟨by omega, by omega, by decide, fun _ => ⟨by omega, by omega, hi.1, hi.2, h⟩, fun f => absurd (Int.le_refl 0) f⟩
/-- the reference at a closing brace -/
theorem ref_close {Q : Int → St → Prop} {v : St} {n : Nat} {q ic it : Int} {IK IV IE : Int → Int} {o : Nat} (ho : o ≤ 3) (hM : StM v it IK IV IE) (h0 : 0 ≤ ic) (h1 : ic < it) (h3 : it ≤ 300) (hk : IK ic = 125) (hq : InR q) (hl : InR (sA v 12 o)) (hd : InR (sA v 13 o))
    (k1 : 1 ≤ sA v 12 o → sA v 12 o ≤ 1 → Lp (B_X10_runs_6 Q) n (pA v 13 o q, (o : Int), q, ic + 1))
    (k2 : 1 < sA v 12 o → Lp (B_X10_runs_6 Q) n (pA (pA v 13 o q) 12 o (sA v 12 o - 1), (((o + 1 : Nat)) : Int), q, sA v 11 o + 1))
    (k3 : sA v 12 o = 0 → q ≤ sA v 13 o → Lp (B_X10_runs_6 Q) n (pA v 13 o q, (o : Int), q, ic + 1))
    (k4 : sA v 12 o = 0 → ¬ q ≤ sA v 13 o → Lp (B_X10_runs_6 Q) n (pA v 13 o q, (((o + 1 : Nat)) : Int), q, sA v 11 o + 1)) (hpos : 0 ≤ sA v 12 o) : Lp (B_X10_runs_6 Q) (n + 1) (v, (((o + 1 : Nat)) : Int), q, ic) := by
  obtain ⟨m1, m2, m3, m4⟩ := hM
  have ek : sA v 8 ic = 125 := by rw [m2]; exact hk
  have e1 : (((o + 1 : Nat)) : Int) - 1 = o := by omega
  have e2 : (((o + 1 : Nat)) : Int) + -1 = o := by omega
  refine ⟨⟨by show -2147483648 ≤ ic; omega, by show ic ≤ 2147483647; omega⟩, ⟨by show -2147483648 ≤ sI v 13; omega, by show sI v 13 ≤ 2147483647; omega⟩, fun f => absurd h1 (by have f : sI v 13 ≤ ic := f; omega), fun _ => ⟨h0, by show ic < 300; omega, by show InR (sA v 8 ic); rw [ek]; decide, fun _ => ⟨fun f => absurd ek f, fun _ => ?_⟩, fun f => absurd f (by show ¬ sA v 8 ic = 123; rw [ek]; decide)⟩⟩
  show (0 ≤ (((o + 1 : Nat)) : Int) - 1) ∧ ((((o + 1 : Nat)) : Int) - 1 < 4) ∧ (InR (sA v 12 ((((o + 1 : Nat)) : Int) - 1))) ∧ ((¬ sA v 12 ((((o + 1 : Nat)) : Int) - 1) = 0 → ((sA v 12 ((((o + 1 : Nat)) : Int) - 1) ≤ 1 → Lp (B_X10_runs_6 Q) n ((pA v 13 ((((o + 1 : Nat)) : Int) - 1) q), (((o + 1 : Nat)) : Int) + (-1), q, ic + 1)) ∧ (¬ sA v 12 ((((o + 1 : Nat)) : Int) - 1) ≤ 1 → ((sA v 12 ((((o + 1 : Nat)) : Int) - 1) ≤ 0 → _) ∧ (¬ sA v 12 ((((o + 1 : Nat)) : Int) - 1) ≤ 0 → Lp (B_X10_runs_6 Q) n ((pA (pA v 13 ((((o + 1 : Nat)) : Int) - 1) q) 12 ((((o + 1 : Nat)) : Int) - 1) ((sA v 12 ((((o + 1 : Nat)) : Int) - 1)) - 1)), (((o + 1 : Nat)) : Int), q, (sA v 11 ((((o + 1 : Nat)) : Int) - 1)) + 1)))))) ∧ (sA v 12 ((((o + 1 : Nat)) : Int) - 1) = 0 → (InR q) ∧ (InR (sA v 13 ((((o + 1 : Nat)) : Int) - 1))) ∧ ((q ≤ sA v 13 ((((o + 1 : Nat)) : Int) - 1) → Lp (B_X10_runs_6 Q) n ((pA v 13 ((((o + 1 : Nat)) : Int) - 1) q), (((o + 1 : Nat)) : Int) + (-1), q, ic + 1)) ∧ (¬ q ≤ sA v 13 ((((o + 1 : Nat)) : Int) - 1) → Lp (B_X10_runs_6 Q) n ((pA v 13 ((((o + 1 : Nat)) : Int) - 1) q), (((o + 1 : Nat)) : Int), q, (sA v 11 ((((o + 1 : Nat)) : Int) - 1)) + 1)))))
  rw [e1, e2]
  exact ⟨by omega, by omega, hl, fun f => ⟨fun f2 => k1 (by omega) f2, fun f2 => ⟨fun f3 => absurd f3 (by omega), fun _ => k2 (by omega)⟩⟩, fun f => ⟨hq, hd, fun f2 => k3 f f2, fun f2 => k4 f f2⟩⟩
/-- the reference at an opening brace -/
theorem ref_open {Q : Int → St → Prop} {v : St} {n : Nat} {q i it : Int} {IK IV IE : Int → Int} {o : Nat} (ho : o ≤ 3) (hM : StM v it IK IV IE) (h0 : 0 ≤ i) (h1 : i < it) (h3 : it ≤ 300) (hk : IK i = 123) (h : Lp (B_X10_runs_6 Q) n (pA (pA (pA v 11 o i) 12 o (IV i)) 13 o q, (((o + 1 : Nat)) : Int), q, i + 1)) : Lp (B_X10_runs_6 Q) (n + 1) (v, (o : Int), q, i) := by
  obtain ⟨m1, m2, m3, m4⟩ := hM
  have ek : sA v 8 i = 123 := by rw [m2]; exact hk
  have ev : sA v 9 i = IV i := by rw [m3]
  refine ⟨⟨by show -2147483648 ≤ i; omega, by show i ≤ 2147483647; omega⟩, ⟨by show -2147483648 ≤ sI v 13; omega, by show sI v 13 ≤ 2147483647; omega⟩, fun f => absurd h1 (by have f : sI v 13 ≤ i := f; omega), fun _ => ⟨h0, by show i < 300; omega, by show InR (sA v 8 i); rw [ek]; decide, fun f => absurd ek f, fun _ => ⟨by show (0 : Int) ≤ (o : Int); omega, by show (o : Int) < 4; omega, ?_⟩⟩⟩
  show Lp (B_X10_runs_6 Q) n (pA (pA (pA v 11 o i) 12 o (sA v 9 i)) 13 o q, (o : Int) + 1, q, i + 1)
  rw [ev, show (o : Int) + 1 = ((o + 1 : Nat) : Int) by omega]
  exact h
