/-! run -/
theorem aj_p {G : Gr} {u u' : St} {g : Sg} (h : AJ G u g) (hF : FrP u u') : AJ G u' g := by
  obtain ⟨f1, f2, f3, f4, f5⟩ := hF
  refine ⟨txt_keep h.1 (fun k a b => f1 k (by omega)) (fun k a b => f2 k (by omega) (by omega)) f3 f4 f5, ?_⟩
  obtain ⟨h1, h2, h3, h4, h5, h6, h7, h8⟩ := h.2
  unfold EJ
  rw [f1 5 (by decide), f1 4 (by decide), f1 7 (by decide), f1 6 (by decide), f1 8 (by decide), f2 0 (by decide) (by decide), f2 1 (by decide) (by decide), f2 2 (by decide) (by decide)]
  exact ⟨h1, h2, h3, h4, h5, h6, h7, h8⟩
theorem st_13 (G : Gr) : St_13 G (Inv G) := by
  intro k c0 sl u v hk hI
  have hm := inv_m hI hk
  obtain ⟨g, hV, hA, hu, hv, hO⟩ := hI.2.2
  obtain ⟨o1, o2, o3, o4, o5, o6, o7, o8, o9, o10⟩ := hO
  refine ⟨500, 1000, hm.1, hm.2, ?_⟩
  have hT : TpM v (sA u 6) (sI u 14) := ⟨o1, o3, fun j a b => o4 j a b⟩
  refine split_ok rfl o2 o3 (fun j a b => (o4 j a b).2) (fun u1 hW hF => ?_)
  have w0 := hW.1
  have w1 := hW.2.1
  obtain ⟨A, hR⟩ := row_of hW
  have hu1 := aj_s hu hF
  have e14 : sI u1 14 = sI u 14 := hF.1 14 (by decide)
  have hTv : TpM (pI (pI (pI v 0 0) 10 0) 13 0) (sA u 6) (sI u 14) := hT
  obtain ⟨wa, aa, fa, ra⟩ := next_det (i := 0) hTv hR (Int.le_refl 0) w0 (by show (0 : Int) = A 0; exact hR.2.1.symm)
  have e13 : sI wa 13 = 0 := (fa.1 13 (by omega)).trans rfl
  have ew0 : sI wa 0 = 0 := (fa.1 0 (by omega)).trans rfl
  have hPI : PI (sA u 6) (sI u 14) (sI u1 16) A (sA u1 7) (sA u1 8) (sA u1 9) (pI u1 15 0) wa 0 0 := ⟨⟨rfl, rfl, rfl, rfl⟩, by decide, rfl, Int.le_refl 0, w0, aa, hTv.fr fa, by omega, by omega, fun l hl => absurd hl (by omega), fun l l' _ hl => absurd hl (by omega), 0, by show ((0 : Int), (0 : Int)) = (0, sI wa 13); rw [e13]⟩
  obtain ⟨N, M, r, z, u', w', hcl, href, hFP, hFM, hout⟩ := parse_ex hR (by omega) o2 ((sI u1 16).toNat + 1) (pI u1 15 0) wa 0 0 hPI (by omega)
  show w_X7_misfitOfScript _ u1 (sI u1 14)
  rw [e14]
  refine ⟨N, hcl _ ?_⟩
  have hFP1 : FrP u1 u' := FrP.i15.tr hFP
  have hAu' : AJ G u' g := aj_p hu1 hFP1
  have c1 : sI u' 2 = sI u 2 := (hFP1.1 2 (by decide)).trans (hF.1 2 (by decide))
  have c3 : sI u' 3 = sI u 3 := (hFP1.1 3 (by decide)).trans (hF.1 3 (by decide))
  have c12 : sA u' 12 = sA u 12 := (hFP1.2.1 12 (by decide) (by decide)).trans (hF.2.1 12 (by omega))
  have c4 : sI u' 4 = gA g := hAu'.2.2.1
  -- the reference behind its parser
  have mI : ∀ j, (0 < j ∧ j < 7) ∨ (10 < j ∧ j ≠ 13) → sI w' j = sI v j := fun j hj => by
    rw [hFM.1 j (by omega) (by omega), fa.1 j (by omega), sI_pI, if_neg (by omega), sI_pI, if_neg (by omega), sI_pI, if_neg (by omega)]
  have mA : ∀ j, j < 8 ∨ 11 < j → sA w' j = sA v j := fun j hj => (hFM.2 j hj).trans (fa.a j)
  have m0 : sI w' 0 = 0 := (hFM.1 0 (by omega) (by decide)).trans ew0
  have hMw : MJ w' g := mj_x hv (fun j a b => mI j (by omega)) (fun j a => mA j (by omega))
  have hrun : ∀ (Q : Int → St → Prop), (InR z) ∧ ((z = 0 → (w_X10_fails (fun (z5 : Int) (u6 : St) => (InR z5) ∧ ((z5 = 0 → (w_X10_runs (fun (z9 : Int) (u10 : St) => Q z9 u10) u6)) ∧ (¬ z5 = 0 → Q 0 u6))) (pI (pI (pI w' 11 (sI w' 8)) 12 0) 6 0) z 1)) ∧ (¬ z = 0 → (w_X10_fails (fun (z11 : Int) (u12 : St) => (InR z11) ∧ ((z11 = 0 → (w_X10_runs (fun (z15 : Int) (u16 : St) => Q z15 u16) u12)) ∧ (¬ z11 = 0 → Q 0 u12))) (pI (pI (pI w' 11 (-1)) 12 0) 6 0) z 1))) → w_X10_run Q v := fun Q h => ra _ ⟨M, href _ h⟩
  rcases hout with ⟨rfl, r0, rL, r8⟩ | ⟨rfl, rfl, hP⟩
  · refine ⟨⟨by omega, by omega⟩, fun f => absurd f (by omega), fun _ => ⟨by decide, by decide, ?_⟩⟩
    refine hrun _ ⟨by decide, fun _ => fails_ok (u := pI (pI (pI w' 11 (sI w' 8)) 12 0) 6 0) m0 (Or.inl rfl) (fun f => absurd f (by decide)) (fun _ => ⟨by decide, fun f => absurd f (by decide), fun _ => ⟨rfl, inv_c hI ⟨g, hV, by omega, aj_i (aj_i (aj_i hAu' (Or.inl (by decide))) (Or.inr (by decide))) (Or.inl (by decide)), mj_x hMw (fun j a b => ?_) (fun j a => rfl), ?_⟩⟩⟩), fun f => absurd rfl f⟩
    · rw [sI_pI, if_neg (by omega), sI_pI, if_neg (by omega), sI_pI, if_neg (by omega), sI_pI, if_neg (by omega)]
    · refine ⟨rfl, Int.le_refl 0, (by show (0 : Int) ≤ 300; decide), fun j a b => absurd b (by show ¬ j < 0; omega), r8, rfl, ?_, ?_, ?_, fun j a b => ?_⟩
      · show sI w' 14 = sI u' 3
        rw [mI 14 (by omega), c3]
        exact o7
      · show 0 ≤ sI u' 3
        rw [c3]
        exact o8
      · show sI u' 3 ≤ 701
        rw [c3]
        exact o9
      · have b : j < sI u' 3 := b
        rw [c3] at b
        show sA w' 14 j = sA u' 12 j
        rw [mA 14 (by omega), c12]
        exact o10 j a b
  · obtain ⟨⟨p1, p2, p3, p4⟩, p5, p6, p7, p8, p9, p10, p11, p12, -, -, m, p15⟩ := hP
    refine ⟨by decide, fun _ => ?_, fun f => absurd rfl f⟩
    have hC : Cx (sI u1 16) (sI w' 13) (sA u1 7) (sA u1 8) (gA g) := ⟨by omega, by omega, fun t a b e => hR.word a b e, fun t a b e => by have := hR.number a b e; exact ⟨by omega, by omega⟩, fun t a b => kind_inr hR a b, hV.2.2.2.2.1, by omega⟩
    have hPX : PathX G (sI u1 16) (sI w' 13) (sA u1 7) (sA u1 8) (sA u' 10) (sA w' 8) (sA w' 9) (sA w' 10) (gA g) 4 0 (0, 0) (sI u1 16, sI w' 13) := path_of hC (act_x hC 4 0 rfl) m _ _ p15 (Int.le_refl 0) (Int.le_refl 0) (Int.le_refl _) (Int.le_refl _)
    obtain ⟨z, g', ca, cb, M2, hO, hcl2, href2⟩ := call_P hPX hV (by omega) (by omega)
    have g0 := hV.2.2.2.2.2.1
    have g1 := hO.1.2.2.2.2.2.2
    have q3 := hO.2.2.1
    have q4 := hO.2.2.2.1
    have q5 := hO.2.2.2.2.1
    have q6 := hO.2.2.2.2.2.1
    have q7 := hO.2.2.2.2.2.2
    refine ⟨ca, cb, by omega, by omega, ?_⟩
    show wP 6 _ ca cb G (pI (pI (pI (pI u' 1 (-1)) 14 0) 2 0) 0 (sI u' 4)) 0 (sI u' 16) 0
    rw [p1]
    refine hcl2 _ _ (aj_i (aj_i (aj_i (aj_i hAu' (Or.inl (by decide))) (Or.inr (by decide))) (Or.inl (by decide))) (Or.inl (by decide))) ⟨p1, p2, p3, rfl, c4⟩ (fun u2 hA2 hF2 => ?_)
    have d0 : sI u2 0 = gA g := (hF2.1 0 (by omega)).trans c4
    have d4 : sI u2 4 = gA g' := hA2.2.2.1
    have d1 : sI u2 1 = -1 := (hF2.1 1 (by omega)).trans rfl
    have d14 : sI u2 14 = 0 := (hF2.1 14 (by omega)).trans rfl
    have d3 : sI u2 3 = sI u 3 := (hF2.1 3 (by omega)).trans c3
    have d12 : sA u2 12 = sA u 12 := (hF2.2 12 (by omega)).trans c12
    show w_X10_run (fun z' v' => w_X10_thrown (fun t => t = 0 ∧ z' = sI u2 4 - sI u2 0 ∧ Inv G (k + 1) (c0 + 500) (sl + 1000) (pI u2 2 z) v') v') v
    rw [d0, d4]
    refine hrun _ ⟨by decide, fun f => absurd f (by decide), fun _ => fails_ok (u := pI (pI (pI w' 11 (-1)) 12 0) 6 0) m0 (Or.inr rfl) (fun _ => ⟨by decide, fun _ => ⟨1 + M2, ?_⟩, fun f => absurd rfl f⟩) (fun f => absurd f (by decide))⟩
    have hMs : MJ (pI (pI (pI w' 11 (-1)) 12 0) 6 0) g := mj_x hMw (fun j a b => by rw [sI_pI, if_neg (by omega), sI_pI, if_neg (by omega), sI_pI, if_neg (by omega)]) (fun j a => rfl)
    -- every end of the run
    have fin : ∀ v', MJ v' g' → FxR 0 (pI (pI (pI w' 11 (-1)) 12 0) 6 0) v' → ∀ v'' : St, (∀ j, j ≠ 12 → sI v'' j = sI v' j) → (∀ j, sA v'' j = sA v' j) → sI v'' 12 = z → w_X10_thrown (fun t => t = 0 ∧ gA g' - gA g = gA g' - gA g ∧ Inv G (k + 1) (c0 + 500) (sl + 1000) (pI u2 2 z) v'') v'' := by
      intro v' hMv hfx v'' hI2 hA3 h12
      refine ⟨?_, rfl, inv_c hI ⟨g', hO.1, by omega, aj_i hA2 (Or.inl (by decide)), mj_x hMv (fun j a b => hI2 j (by omega)) (fun j a => hA3 j), ?_⟩⟩
      · show sI v'' 0 = 0
        rw [hI2 0 (by decide), hfx.1 0 (by omega)]
        exact m0
      · refine ⟨?_, ?_, ?_, fun j a b => ?_, ?_, ?_, ?_, ?_, ?_, fun j a b => ?_⟩
        · show sI v'' 6 = sI u2 14
          rw [hI2 6 (by decide), hfx.1 6 (by omega), d14]
          rfl
        · show 0 ≤ sI u2 14
          omega
        · show sI u2 14 ≤ 300
          omega
        · have b : j < sI u2 14 := b
          omega
        · show sI v'' 11 = sI u2 1
          rw [hI2 11 (by decide), hfx.1 11 (by omega), d1]
          rfl
        · show sI v'' 12 = z
          exact h12
        · show sI v'' 14 = sI u2 3
          rw [hI2 14 (by decide), hfx.1 14 (by omega), d3]
          exact (mI 14 (by omega)).trans o7
        · show 0 ≤ sI u2 3
          omega
        · show sI u2 3 ≤ 701
          omega
        · have b : j < sI u2 3 := b
          show sA v'' 14 j = sA u2 12 j
          rw [hA3 14, hfx.2.1 14 (by omega) (by omega), d12]
          show sA w' 14 j = _
          rw [mA 14 (by omega)]
          exact o10 j a (by omega)
    have e := href2 (pI (pI (pI w' 11 (-1)) 12 0) 6 0) (fun (z15 : Int) (u16 : St) => w_X10_thrown (fun t => t = 0 ∧ z15 = gA g' - gA g ∧ Inv G (k + 1) (c0 + 500) (sl + 1000) (pI u2 2 z) u16) u16) 1 hMs ⟨rfl, rfl, rfl, rfl⟩ (fun v' hv' hf' => ⟨fun hz => ?_, fun hz => ?_, fun hz1 hz2 => ⟨1, ?_⟩⟩)
    · rw [Int.sub_self] at e
      exact e
    · have e13 : sI v' 13 = sI w' 13 := (hf'.1 13 (by omega)).trans rfl
      refine ⟨⟨by show -2147483648 ≤ sI w' 13; omega, by show sI w' 13 ≤ 2147483647; omega⟩, ⟨by show -2147483648 ≤ sI v' 13; omega, by show sI v' 13 ≤ 2147483647; omega⟩, fun _ => ?_, fun f => absurd (show sI v' 13 ≤ sI w' 13 by omega) f⟩
      refine fin v' hv' hf' v' (fun _ _ => rfl) (fun _ => rfl) ?_
      rw [hf'.1 12 (by omega), hz]
      rfl
    · refine fin v' hv' hf' (pI v' 12 (-6)) (fun j hj => by rw [sI_pI, if_neg hj]) (fun _ => rfl) ?_
      rw [sI_pI, if_pos rfl, hz]
    · refine ⟨(by show InR ((0 : Nat) : Int); decide), fun _ => ⟨fun f => absurd rfl f, fun _ => ?_⟩, fun f => absurd (show ((0 : Nat) : Int) ≤ 0 by decide) f⟩
      refine fin v' hv' hf' (pI v' 12 z) (fun j hj => by rw [sI_pI, if_neg hj]) (fun _ => rfl) ?_
      rw [sI_pI, if_pos rfl]
