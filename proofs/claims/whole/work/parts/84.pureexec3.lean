/-! blocks done -/
/-- an inner row called by a block: the class's call of perform -/
theorem call_P {G : Gr} {c it S0 : Int} {Kd Nm E IK IV IE : Int → Int} {d o : Nat} {a b : Pr} (h : PathX G c it Kd Nm E IK IV IE S0 d o a b) {g : Sg} (hV : VS g) (s0 : 0 ≤ gA g - S0) (s1 : gA g - S0 ≤ 300) : ∃ (z : Int) (g' : Sg) (ca cb M : Nat), Out S0 g g' z ca cb ∧ (∀ (u : St) (post : Int → St → Prop), AJ G u g → StC u c Kd Nm E S0 → (∀ u', AJ G u' g' → Fx u u' → post z u') → wP (d + 2) post ca cb G u a.1 b.1 o) ∧ RefX it IK IV IE S0 g g' z M o a.2 b.2 := by
  obtain ⟨z, g', ca, cb, N, M, hO, hcl, href⟩ := h g hV s0 s1
  exact ⟨z, g', ca, cb, M, hO, fun u post hA hS hp => ⟨N, hcl u post ca cb 0 0 hA hS (by omega) (by omega) hp⟩, href⟩
theorem times_x {G : Gr} {c it S0 : Int} {Kd Nm E IK IV IE : Int → Int} {d o : Nat} {t i tc ic times : Int} (hC : Cx c it Kd Nm S0) (ho : o ≤ 3) (hP : PathX G c it Kd Nm E IK IV IE S0 d (o + 1) (t + 2, i + 1) (tc, ic)) (t0 : 0 ≤ t) (t1 : t + 2 ≤ tc) (t2 : tc < c) (i0 : 0 ≤ i) (i1 : i + 1 ≤ ic) (i2 : ic < it) (eE : E t = tc + 1) (eK : IK ic = 125) (ht : times ≤ 20) :
    ∀ (r : Nat) (g : Sg), (1 ≤ r) → (r : Int) ≤ times → VS g → 0 ≤ gA g - S0 → gA g - S0 ≤ 300 → ∃ (z : Int) (g' : Sg) (ca cb N M : Nat), Out S0 g g' z ca cb ∧
      (∀ (u : St) (post : Int → St → Prop) (mc ms kc ks : Nat), AJ G u g → StC u c Kd Nm E S0 → kc + ca ≤ mc → ks + cb ≤ ms → (∀ u', AJ G u' g' → Fx u u' → post z u') → Lp (B_X9_repeatTimes_24 (wP (d + 2)) post mc ms G t o times) N (u, 0, times - r, kc, ks)) ∧
      (∀ (v : St) (Q : Int → St → Prop) (n : Nat), MJ v g → StM v it IK IV IE → sA v 11 o = i → sA v 12 o = r → InR (sA v 13 o) → (∀ v', MJ v' g' → FxR o v v' → Fin Q n z (gA g' - S0) v' o (ic + 1)) → Lp (B_X10_runs_6 Q) (n + M) (v, ((o + 1 : Nat) : Int), gA g - S0, i + 1))
  | 0, g, h, _, _, _, _ => absurd h (by omega)
  | r + 1, g, _, hr, hV, s0, s1 => by
    have hc := hC.1
    have hit := hC.2.1
    obtain ⟨z, g1, ca, cb, M1, hO, hcl, href⟩ := call_P hP hV s0 s1
    have hzr := out_z hO
    have q3 := hO.2.2.1
    have q4 := hO.2.2.2.1
    have eo : (((o + 1 : Nat)) : Int) = (o : Int) + 1 := by omega
    have step : ∀ (N : Nat) (u : St) (post : Int → St → Prop) (mc ms kc ks : Nat), AJ G u g → StC u c Kd Nm E S0 → kc + ca ≤ mc → ks + cb ≤ ms → (∀ u', AJ G u' g1 → Fx u u' → Lp (B_X9_repeatTimes_24 (wP (d + 2)) post mc ms G t o times) N (u', z, times - ((r + 1 : Nat) : Int) + 1, kc + ca, ks + cb)) → Lp (B_X9_repeatTimes_24 (wP (d + 2)) post mc ms G t o times) (N + 1) (u, 0, times - ((r + 1 : Nat) : Int), kc, ks) := by
      intro N u post mc ms kc ks h hS hmc hms hp
      obtain ⟨s16, s7, s8, s10, s00⟩ := hS
      refine ⟨⟨by show -2147483648 ≤ times - ((r + 1 : Nat) : Int); omega, by show times - ((r + 1 : Nat) : Int) ≤ 2147483647; omega⟩, ⟨by omega, by omega⟩, fun f => absurd f (by show ¬ times ≤ times - ((r + 1 : Nat) : Int); omega), fun _ => ⟨(by show InR (0 : Int); decide), fun f => absurd rfl f, fun _ => ⟨by show kc ≤ mc; omega, by show ks ≤ ms; omega, ?_⟩⟩⟩
      refine eOf_ok (t := t) t0 (by show t < sI u 16; omega) (by show sI u 16 ≤ 300; omega) ?_
      have ee : sA u 10 t = tc + 1 := by rw [s10]; exact eE
      refine ⟨ca, cb, hmc, hms, ?_⟩
      show wP (d + 2) _ ca cb G u (t + 2) (sA u 10 t - 1) ((o : Int) + 1)
      rw [ee, show tc + 1 - 1 = tc by omega, ← eo]
      exact hcl u _ h ⟨s16, s7, s8, s10, s00⟩ hp
    by_cases hz : z = 0
    · subst hz
      by_cases h1 : r = 0
      · subst h1
        refine ⟨0, g1, ca, cb, 2, 1 + M1, hO, fun u post mc ms kc ks h hS hmc hms hp => ?_, fun v Q n h hM h11 h12 h13 hF => ?_⟩
        · refine step 1 u post mc ms kc ks h hS hmc hms (fun u' A F => ?_)
          refine ⟨⟨by show -2147483648 ≤ times - ((0 + 1 : Nat) : Int) + 1; omega, by show times - ((0 + 1 : Nat) : Int) + 1 ≤ 2147483647; omega⟩, ⟨by omega, by omega⟩, fun _ => ⟨by show kc + ca ≤ mc; omega, by show ks + cb ≤ ms; omega, hp u' A F⟩, fun f => absurd (show times ≤ times - ((0 + 1 : Nat) : Int) + 1 by omega) f⟩
        · have e := href v Q (n + 1) h hM (fun v' hv' hf' => ⟨fun _ => ?_, fun f => absurd f (by decide), fun f => absurd rfl f⟩)
          · rw [show n + (1 + M1) = n + 1 + M1 by omega]
            exact e
          · have g11 : sA v' 11 o = i := (hf'.2.2 11 o (by decide) (by decide) (by omega)).trans h11
            have g12 : sA v' 12 o = ((0 + 1 : Nat) : Int) := (hf'.2.2 12 o (by decide) (by decide) (by omega)).trans h12
            have g13 : sA v' 13 o = sA v 13 o := hf'.2.2 13 o (by decide) (by decide) (by omega)
            refine ref_close ho (hM.fx hf') (by omega) i2 hit eK ⟨by omega, by omega⟩ (by rw [g12]; decide) (by rw [g13]; exact h13) (fun _ _ => ?_) (fun f => by omega) (fun f => by omega) (fun f => by omega) (by omega)
            exact (hF _ (mj_a hv' (by decide)) ((hf'.le (by omega)).tr (FxR.a (by decide) (Int.le_refl _)))).1 rfl
      · obtain ⟨z2, g2, ca2, cb2, N2, M2, hO2, hcl2, href2⟩ := times_x hC ho hP t0 t1 t2 i0 i1 i2 eE eK ht r g1 (by omega) (by omega) hO.1 (by omega) q4
        refine ⟨z2, g2, ca + ca2, cb + cb2, N2 + 1, M2 + 1 + M1, out_tr hO hO2, fun u post mc ms kc ks h hS hmc hms hp => ?_, fun v Q n h hM h11 h12 h13 hF => ?_⟩
        · refine step N2 u post mc ms kc ks h hS (by omega) (by omega) (fun u' A F => ?_)
          rw [show times - ((r + 1 : Nat) : Int) + 1 = times - (r : Int) by omega]
          exact hcl2 u' post mc ms (kc + ca) (ks + cb) A (hS.fx F) (by omega) (by omega) (fun u'' A2 F2 => hp u'' A2 (F.tr F2))
        · have e := href v Q (n + M2 + 1) h hM (fun v' hv' hf' => ⟨fun _ => ?_, fun f => absurd f (by decide), fun f => absurd rfl f⟩)
          · rw [show n + (M2 + 1 + M1) = n + M2 + 1 + M1 by omega]
            exact e
          · have g11 : sA v' 11 o = i := (hf'.2.2 11 o (by decide) (by decide) (by omega)).trans h11
            have g12 : sA v' 12 o = ((r + 1 : Nat) : Int) := (hf'.2.2 12 o (by decide) (by decide) (by omega)).trans h12
            have g13 : sA v' 13 o = sA v 13 o := hf'.2.2 13 o (by decide) (by decide) (by omega)
            refine ref_close ho (hM.fx hf') (by omega) i2 hit eK ⟨by omega, by omega⟩ (by rw [g12]; exact ⟨by omega, by omega⟩) (by rw [g13]; exact h13) (fun _ f => by omega) (fun _ => ?_) (fun f => by omega) (fun f => by omega) (by omega)
            rw [g11]
            have hf2 : FxR o v' (pA (pA v' 13 o (gA g1 - S0)) 12 o (sA v' 12 o - 1)) := (FxR.a (by decide) (Int.le_refl _)).tr (FxR.a (by decide) (Int.le_refl _))
            refine href2 (pA (pA v' 13 o (gA g1 - S0)) 12 o (sA v' 12 o - 1)) Q n (mj_a (mj_a hv' (by decide)) (by decide)) ((hM.fx hf').fx hf2) g11 ?_ ?_ (fun v'' hv'' hf'' => hF v'' hv'' (((hf'.le (by omega)).tr hf2).tr hf''))
            · show zset (sA v' 12) o (sA v' 12 o - 1) o = _
              rw [zset_at, if_pos rfl]
              omega
            · show InR (zset (sA v' 13) o (gA g1 - S0) o)
              rw [zset_at, if_pos rfl]
              exact ⟨by omega, by omega⟩
    · refine ⟨z, g1, ca, cb, 2, M1, hO, fun u post mc ms kc ks h hS hmc hms hp => ?_, fun v Q n h hM h11 h12 h13 hF => ?_⟩
      · refine step 1 u post mc ms kc ks h hS hmc hms (fun u' A F => ?_)
        exact ⟨⟨by show -2147483648 ≤ times - ((r + 1 : Nat) : Int) + 1; omega, by show times - ((r + 1 : Nat) : Int) + 1 ≤ 2147483647; omega⟩, ⟨by omega, by omega⟩, fun _ => ⟨by show kc + ca ≤ mc; omega, by show ks + cb ≤ ms; omega, hp u' A F⟩, fun _ => ⟨hzr, fun _ => ⟨by show kc + ca ≤ mc; omega, by show ks + cb ≤ ms; omega, hp u' A F⟩, fun f => absurd f hz⟩⟩
      · refine href v Q n h hM (fun v' hv' hf' => ⟨fun f => absurd f hz, (hF v' hv' (hf'.le (by omega))).2.1, fun f1 f2 => ?_⟩)
        have g12 : sA v' 12 o = ((r + 1 : Nat) : Int) := (hf'.2.2 12 o (by decide) (by decide) (by omega)).trans h12
        exact unw_n ho (by rw [g12]; exact ⟨by omega, by omega⟩) (by omega) ((hF v' hv' (hf'.le (by omega))).2.2 f1 f2)
theorem star_x {G : Gr} {c it S0 : Int} {Kd Nm E IK IV IE : Int → Int} {d o : Nat} {t i tc ic : Int} (hC : Cx c it Kd Nm S0) (ho : o ≤ 3) (hP : PathX G c it Kd Nm E IK IV IE S0 d (o + 1) (t + 2, i + 1) (tc, ic)) (t0 : 0 ≤ t) (t1 : t + 2 ≤ tc) (t2 : tc < c) (i0 : 0 ≤ i) (i1 : i + 1 ≤ ic) (i2 : ic < it) (eE : E t = tc + 1) (eK : IK ic = 125) (eI : IE i = ic) :
    ∀ (f : Nat) (g : Sg), 300 - (gA g - S0) < f → VS g → 0 ≤ gA g - S0 → gA g - S0 ≤ 300 → ∃ (z : Int) (g' : Sg) (ca cb N M : Nat), Out S0 g g' z ca cb ∧
      (∀ (u : St) (post : Int → St → Prop) (mc ms kc ks : Nat) (x : Int), 0 ≤ x → x ≤ gA g - S0 → AJ G u g → StC u c Kd Nm E S0 → kc + ca ≤ mc → ks + cb ≤ ms → (∀ u', AJ G u' g' → Fx u u' → post z u') → Lp (B_X9_repeatUntilRefused_16 (wP (d + 2)) post mc ms G t o 301) N (u, x, kc, ks)) ∧
      (∀ (v : St) (Q : Int → St → Prop) (n : Nat), MJ v g → StM v it IK IV IE → sA v 11 o = i → sA v 12 o = 0 → sA v 13 o = gA g - S0 → (∀ v', MJ v' g' → FxR o v v' → Fin Q n z (gA g' - S0) v' o (ic + 1)) → Lp (B_X10_runs_6 Q) (n + M) (v, ((o + 1 : Nat) : Int), gA g - S0, i + 1))
  | 0, g, h, _, _, s1 => absurd h (by omega)
  | f + 1, g, hf, hV, s0, s1 => by
    have hc := hC.1
    have hit := hC.2.1
    have hS0 := hC.2.2.2.2.2
    obtain ⟨z, g1, ca, cb, M1, hO, hcl, href⟩ := call_P hP hV s0 s1
    have hzr := out_z hO
    have q3 := hO.2.2.1
    have q4 := hO.2.2.2.1
    have eo : (((o + 1 : Nat)) : Int) = (o : Int) + 1 := by omega
    have step : ∀ (N : Nat) (u : St) (post : Int → St → Prop) (mc ms kc ks : Nat) (x : Int), 0 ≤ x → x ≤ gA g - S0 → AJ G u g → StC u c Kd Nm E S0 → kc + ca ≤ mc → ks + cb ≤ ms → (∀ u', AJ G u' g1 → Fx u u' → (InR z) ∧ ((¬ z = (-6) → ((¬ z = 0 → post 0 u') ∧ (z = 0 → (InR (sI u' 4)) ∧ (InR (sI u 4)) ∧ ((¬ sI u' 4 = sI u 4 → Lp (B_X9_repeatUntilRefused_16 (wP (d + 2)) post mc ms G t o 301) N (u', x + 1, kc + ca, ks + cb)) ∧ (sI u' 4 = sI u 4 → post 0 u'))))) ∧ (z = (-6) → post (-6) u'))) → Lp (B_X9_repeatUntilRefused_16 (wP (d + 2)) post mc ms G t o 301) (N + 1) (u, x, kc, ks) := by
      intro N u post mc ms kc ks x x0 x1 h hS hmc hms hp
      obtain ⟨s16, s7, s8, s10, s00⟩ := hS
      refine ⟨⟨by show -2147483648 ≤ x; omega, by show x ≤ 2147483647; omega⟩, by decide, fun f => absurd f (by show ¬ (301 : Int) ≤ x; omega), fun _ => ⟨by show kc ≤ mc; omega, by show ks ≤ ms; omega, ?_⟩⟩
      refine eOf_ok (t := t) t0 (by show t < sI u 16; omega) (by show sI u 16 ≤ 300; omega) ?_
      have ee : sA u 10 t = tc + 1 := by rw [s10]; exact eE
      refine ⟨ca, cb, hmc, hms, ?_⟩
      show wP (d + 2) _ ca cb G u (t + 2) (sA u 10 t - 1) ((o : Int) + 1)
      rw [ee, show tc + 1 - 1 = tc by omega, ← eo]
      exact hcl u _ h ⟨s16, s7, s8, s10, s00⟩ hp
    have fr : ∀ (v v' : St), FxR ((o + 1 : Nat) : Int) v v' → sA v' 11 o = sA v 11 o ∧ sA v' 12 o = sA v 12 o ∧ sA v' 13 o = sA v 13 o := fun v v' hf' => ⟨hf'.2.2 11 o (by decide) (by decide) (by omega), hf'.2.2 12 o (by decide) (by decide) (by omega), hf'.2.2 13 o (by decide) (by decide) (by omega)⟩
    by_cases hz : z = 0
    · subst hz
      by_cases hsame : gA g1 = gA g
      · refine ⟨0, g1, ca, cb, 1, 1 + M1, hO, fun u post mc ms kc ks x x0 x1 h hS hmc hms hp => ?_, fun v Q n h hM h11 h12 h13 hF => ?_⟩
        · refine step 0 u post mc ms kc ks x x0 x1 h hS hmc hms (fun u' A F => ⟨by decide, fun _ => ⟨fun f => absurd rfl f, fun _ => ?_⟩, fun f => absurd f (by decide)⟩)
          have e1 : sI u' 4 = gA g1 := A.2.2.1
          have e2 : sI u 4 = gA g := h.2.2.1
          exact ⟨⟨by omega, by omega⟩, ⟨by omega, by omega⟩, fun f => absurd (by omega) f, fun _ => hp u' A F⟩
        · have e := href v Q (n + 1) h hM (fun v' hv' hf' => ⟨fun _ => ?_, fun f => absurd f (by decide), fun f => absurd rfl f⟩)
          · rw [show n + (1 + M1) = n + 1 + M1 by omega]
            exact e
          · obtain ⟨g11, g12, g13⟩ := fr v v' hf'
            refine ref_close ho (hM.fx hf') (by omega) i2 hit eK ⟨by omega, by omega⟩ (by rw [g12, h12]; decide) (by rw [g13, h13]; exact ⟨by omega, by omega⟩) (fun f => by omega) (fun f => by omega) (fun _ _ => ?_) (fun _ f => absurd (by omega) f) (by omega)
            exact (hF _ (mj_a hv' (by decide)) ((hf'.le (by omega)).tr (FxR.a (by decide) (Int.le_refl _)))).1 rfl
      · obtain ⟨z2, g2, ca2, cb2, N2, M2, hO2, hcl2, href2⟩ := star_x hC ho hP t0 t1 t2 i0 i1 i2 eE eK eI f g1 (by omega) hO.1 (by omega) q4
        refine ⟨z2, g2, ca + ca2, cb + cb2, N2 + 1, M2 + 1 + M1, out_tr hO hO2, fun u post mc ms kc ks x x0 x1 h hS hmc hms hp => ?_, fun v Q n h hM h11 h12 h13 hF => ?_⟩
        · refine step N2 u post mc ms kc ks x x0 x1 h hS (by omega) (by omega) (fun u' A F => ⟨by decide, fun _ => ⟨fun f => absurd rfl f, fun _ => ?_⟩, fun f => absurd f (by decide)⟩)
          have e1 : sI u' 4 = gA g1 := A.2.2.1
          have e2 : sI u 4 = gA g := h.2.2.1
          exact ⟨⟨by omega, by omega⟩, ⟨by omega, by omega⟩, fun _ => hcl2 u' post mc ms (kc + ca) (ks + cb) (x + 1) (by omega) (by omega) A (hS.fx F) (by omega) (by omega) (fun u'' A2 F2 => hp u'' A2 (F.tr F2)), fun f => absurd f (by omega)⟩
        · have e := href v Q (n + M2 + 1) h hM (fun v' hv' hf' => ⟨fun _ => ?_, fun f => absurd f (by decide), fun f => absurd rfl f⟩)
          · rw [show n + (M2 + 1 + M1) = n + M2 + 1 + M1 by omega]
            exact e
          · obtain ⟨g11, g12, g13⟩ := fr v v' hf'
            refine ref_close ho (hM.fx hf') (by omega) i2 hit eK ⟨by omega, by omega⟩ (by rw [g12, h12]; decide) (by rw [g13, h13]; exact ⟨by omega, by omega⟩) (fun f => by omega) (fun f => by omega) (fun _ f => by omega) (fun _ _ => ?_) (by omega)
            rw [g11, h11]
            have hf2 : FxR o v' (pA v' 13 o (gA g1 - S0)) := FxR.a (by decide) (Int.le_refl _)
            refine href2 (pA v' 13 o (gA g1 - S0)) Q n (mj_a hv' (by decide)) ((hM.fx hf').fx hf2) (g11.trans h11) (g12.trans h12) ?_ (fun v'' hv'' hf'' => hF v'' hv'' (((hf'.le (by omega)).tr hf2).tr hf''))
            show zset (sA v' 13) o (gA g1 - S0) o = _
            rw [zset_at, if_pos rfl]
    · by_cases h6 : z = -6
      · refine ⟨z, g1, ca, cb, 1, M1, hO, fun u post mc ms kc ks x x0 x1 h hS hmc hms hp => ?_, fun v Q n h hM h11 h12 h13 hF => ?_⟩
        · refine step 0 u post mc ms kc ks x x0 x1 h hS hmc hms (fun u' A F => ⟨hzr, fun f => absurd h6 f, fun _ => ?_⟩)
          have e := hp u' A F
          rw [h6] at e
          exact e
        · exact href v Q n h hM (fun v' hv' hf' => ⟨fun f => absurd f hz, (hF v' hv' (hf'.le (by omega))).2.1, fun _ f2 => absurd h6 f2⟩)
      · refine ⟨0, g1, ca, cb, 1, M1, ⟨hO.1, Or.inl rfl, hO.2.2⟩, fun u post mc ms kc ks x x0 x1 h hS hmc hms hp => ?_, fun v Q n h hM h11 h12 h13 hF => ?_⟩
        · exact step 0 u post mc ms kc ks x x0 x1 h hS hmc hms (fun u' A F => ⟨hzr, fun _ => ⟨fun _ => hp u' A F, fun f => absurd f hz⟩, fun f => absurd f h6⟩)
        · refine href v Q n h hM (fun v' hv' hf' => ⟨fun f => absurd f hz, fun f => absurd f h6, fun _ _ => ?_⟩)
          obtain ⟨g11, g12, g13⟩ := fr v v' hf'
          refine unw_s (i := i) ho (g12.trans h12) (g11.trans h11) ⟨i0, by omega⟩ ?_
          have e10 : sA v' 10 i = ic := by rw [(hM.fx hf').2.2.2]; exact eI
          rw [e10]
          exact (hF v' hv' (hf'.le (by omega))).1 rfl
theorem act_x {G : Gr} {c it S0 : Int} {Kd Nm E IK IV IE : Int → Int} (hC : Cx c it Kd Nm S0) : ∀ (d o : Nat), o + d = 4 → ∀ a b : Pr, Ac Kd Nm E IK IV IE d a b → 0 ≤ a.1 → 0 ≤ a.2 → b.1 ≤ c → b.2 ≤ it → ActX G c it Kd Nm E IK IV IE S0 d o a b := by
  have hc := hC.1
  have hit := hC.2.1
  have sml : ∀ (d o : Nat) (a b : Pr), Sml Kd Nm E IK IV a b → 0 ≤ a.1 → 0 ≤ a.2 → b.1 ≤ c → b.2 ≤ it → ActX G c it Kd Nm E IK IV IE S0 d o a b := by
    intro d o a b h a0 a1 b0 b1
    obtain ⟨h0, h1, h2, h3⟩ := h
    refine ⟨h0, fun g hV s0 s1 => ?_⟩
    have fin : ∀ x : Int, (alone (Kd a.1) ∨ (wsgn (Kd a.1) ∧ isW (IV a.2) ∧ x = IV a.2) ∨ (Kd a.1 = 64 ∧ InR (IV a.2) ∧ x = IV a.2)) → (∀ (u : St) (p : Int → Prop), sI u 16 = c → sA u 8 = Nm → p x → w_X7_numberOf p u (a.1 + 1)) → ∃ (z : Int) (g' : Sg) (ca cb M : Nat), Out S0 g g' z ca cb ∧
  ((Kd a.1 ≠ 42 ∧ Kd a.1 ≠ 2 ∧ ∃ x, (∀ (u : St) (p : Int → Prop), sI u 16 = c → sA u 8 = Nm → p x → w_X7_numberOf p u (a.1 + 1)) ∧ ∀ (u : St) (post : Int → St → Prop), AJ G u g → StC u c Kd Nm E S0 → (∀ u', AJ G u' g' → Fx u u' → post z u') → w_X9_attempt post ca cb G u (Kd a.1) x) ∨
   (Kd a.1 = 2 ∧ ∀ (u : St) (post : Int → St → Prop), AJ G u g → StC u c Kd Nm E S0 → (∀ u', AJ G u' g' → Fx u u' → post z u') → wb_X9_repeatTimes (wP (d + 1)) post ca cb G u a.1 o) ∨
   (Kd a.1 = 42 ∧ ∀ (u : St) (post : Int → St → Prop), AJ G u g → StC u c Kd Nm E S0 → (∀ u', AJ G u' g' → Fx u u' → post z u') → wb_X9_repeatUntilRefused (wP (d + 1)) post ca cb G u a.1 o)) ∧ RefX it IK IV IE S0 g g' z M o a.2 b.2 := by
      intro x hk hn
      obtain ⟨z, g', ca, cb, hO, hcl, href⟩ := op_ex (G := G) (IE := IE) (x := x) hk hV s0 s1 o a.2 a1 (by omega) hit h1 rfl
      refine ⟨z, g', ca, cb, 1, hO, Or.inl ⟨by omega, by omega, x, hn, fun u post h hS hp => hcl u post h hS.2.2.2.2 hp⟩, ?_⟩
      rw [h2]
      exact href
    rcases h3 with ⟨hk, hb⟩ | ⟨hk, hb, hk1, hv⟩ | ⟨hk, hb, hk1, hv⟩
    · by_cases q : a.1 + 1 < c
      · exact fin (Nm (a.1 + 1)) (Or.inl hk) (fun u p e16 e8 hp => nOf_ok (by omega) (by omega) (by omega) (by rw [e8]; exact hp))
      · exact fin 0 (Or.inl hk) (fun u p e16 e8 hp => ⟨⟨by omega, by omega⟩, fun f => absurd f (by omega), fun _ => ⟨⟨by omega, by omega⟩, fun _ => hp, fun f => absurd f (by omega)⟩⟩)
    · refine fin (Nm (a.1 + 1)) (Or.inr (Or.inl ⟨hk, ?_, hv.symm⟩)) (fun u p e16 e8 hp => nOf_ok (by omega) (by omega) (by omega) (by rw [e8]; exact hp))
      rw [hv]
      exact hC.2.2.1 _ (by omega) (by omega) hk1
    · refine fin (Nm (a.1 + 1)) (Or.inr (Or.inr ⟨hk, ?_, hv.symm⟩)) (fun u p e16 e8 hp => nOf_ok (by omega) (by omega) (by omega) (by rw [e8]; exact hp))
      rw [hv]
      exact hC.2.2.2.1 _ (by omega) (by omega) hk1
  intro d
  induction d with
  | zero =>
    intro o ho a b h a0 a1 b0 b1
    exact sml 0 o a b h a0 a1 b0 b1
  | succ d ih =>
    intro o ho a b h a0 a1 b0 b1
    rcases h with h | ⟨m, x, h1, h2, h3, h4, h5, h6, h7⟩
    · exact sml (d + 1) o a b h a0 a1 b0 b1
    · have hm : a.1 + 2 ≤ x.1 ∧ a.2 + 1 ≤ x.2 := Ac.pmono h1
      have eb1 : b.1 = x.1 + 1 := by rw [h4]
      have eb2 : b.2 = x.2 + 1 := by rw [h4]
      obtain ⟨k1, k2, k3⟩ := h2
      have hP : PathX G c it Kd Nm E IK IV IE S0 d (o + 1) (a.1 + 2, a.2 + 1) (x.1, x.2) := path_of hC (ih (o + 1) (by omega)) m _ _ h1 (by show 0 ≤ a.1 + 2; omega) (by show 0 ≤ a.2 + 1; omega) (by omega) (by omega)
      have eE : E a.1 = x.1 + 1 := h3.trans eb1
      refine ⟨h3, fun g hV s0 s1 => ?_⟩
      rcases k3 with ⟨kk, kv⟩ | ⟨kk, kv, kr⟩
      · obtain ⟨z, g', ca, cb, N, M, hO, hcl, href⟩ := star_x hC (by omega) hP a0 hm.1 (by omega) a1 hm.2 (by omega) eE h6 h7 ((300 - (gA g - S0)).toNat + 1) g (by omega) hV s0 s1
        refine ⟨z, g', ca, cb, M + 1, hO, Or.inr (Or.inr ⟨kk, fun u post h hS hp => ⟨⟨by omega, by omega⟩, fun f => absurd f (by omega), fun _ => ⟨N, hcl u post ca cb 0 0 0 (Int.le_refl 0) s0 h hS (by omega) (by omega) hp⟩⟩⟩), fun v Q n h hM hF => ?_⟩
        rw [show n + (M + 1) = n + M + 1 by omega]
        have hf2 : FxR o v (pA (pA (pA v 11 o a.2) 12 o (IV a.2)) 13 o (gA g - S0)) := ((FxR.a (by decide) (Int.le_refl _)).tr (FxR.a (by decide) (Int.le_refl _))).tr (FxR.a (by decide) (Int.le_refl _))
        refine ref_open (by omega) hM a1 (by omega) hit k2 (href _ Q n (mj_a (mj_a (mj_a h (by decide)) (by decide)) (by decide)) (hM.fx hf2) ?_ ?_ ?_ (fun v' hv' hf' => by rw [eb2] at hF; exact hF v' hv' (hf2.tr hf')))
        · show zset (sA v 11) o a.2 o = a.2
          rw [zset_at, if_pos rfl]
        · show zset (sA v 12) o (IV a.2) o = 0
          rw [zset_at, if_pos rfl, kv]
        · show zset (sA v 13) o (gA g - S0) o = gA g - S0
          rw [zset_at, if_pos rfl]
      · obtain ⟨z, g', ca, cb, N, M, hO, hcl, href⟩ := times_x (times := Nm a.1) hC (by omega) hP a0 hm.1 (by omega) a1 hm.2 (by omega) eE h6 kr.2 (Nm a.1).toNat g (by omega) (by omega) hV s0 s1
        refine ⟨z, g', ca, cb, M + 1, hO, Or.inr (Or.inl ⟨kk, fun u post h hS hp => ⟨⟨by omega, by omega⟩, fun f => absurd f (by omega), fun _ => ?_⟩⟩), fun v Q n h hM hF => ?_⟩
        · refine nOf_ok a0 (by have := hS.1; omega) (by have := hS.1; omega) ⟨N, ?_⟩
          have e := hcl u post ca cb 0 0 h hS (by omega) (by omega) hp
          rw [show Nm a.1 - ((Nm a.1).toNat : Int) = 0 by omega] at e
          rw [hS.2.2.1]
          exact e
        · rw [show n + (M + 1) = n + M + 1 by omega]
          have hf2 : FxR o v (pA (pA (pA v 11 o a.2) 12 o (IV a.2)) 13 o (gA g - S0)) := ((FxR.a (by decide) (Int.le_refl _)).tr (FxR.a (by decide) (Int.le_refl _))).tr (FxR.a (by decide) (Int.le_refl _))
          refine ref_open (by omega) hM a1 (by omega) hit k2 (href _ Q n (mj_a (mj_a (mj_a h (by decide)) (by decide)) (by decide)) (hM.fx hf2) ?_ ?_ ?_ (fun v' hv' hf' => by rw [eb2] at hF; exact hF v' hv' (hf2.tr hf')))
          · show zset (sA v 11) o a.2 o = a.2
            rw [zset_at, if_pos rfl]
          · show zset (sA v 12) o (IV a.2) o = ((Nm a.1).toNat : Int)
            rw [zset_at, if_pos rfl, kv]
            omega
          · show InR (zset (sA v 13) o (gA g - S0) o)
            rw [zset_at, if_pos rfl]
            exact ⟨by omega, by omega⟩
