/-! the start, and all steps -/
theorem chainS_at {f : Nat → va_E} : ∀ (ns : List Nat) (r : Option Nat), chainS f r ns → r = ns[0]? ∧ ∀ (i : Nat) (h : i < ns.length), ∃ (x : Int) (b : Option Nat), f ns[i] = ndE x b ns[i + 1]?
  | [], _, h => ⟨h, fun i h => absurd h (by simp)⟩
  | q :: qs, _, ⟨h1, w, b, n, h2, h3⟩ => by
    obtain ⟨e1, e2⟩ := chainS_at qs n h3
    refine ⟨h1, fun i hi => ?_⟩
    cases i with
    | zero => exact ⟨w, b, by rw [e1] at h2; exact h2⟩
    | succ i => exact e2 i (by simpa using hi)
theorem start_inv (G : Gr) (r0 : Option Nat) (ns L1 : List Nat) (f1 : Nat → va_E) (h : Spare [] (fun _ => ndE 0 none none) 100 r0 ns L1 f1) : Inv G 0 141 10226 (uC0 G.2.2.2.2 r0 L1 f1) uM0 := by
  obtain ⟨h1, h2, h3, h4, h5, h6⟩ := h
  obtain ⟨e1, e2⟩ := chainS_at ns r0 h6
  have hnd : ∀ i : Int, 0 ≤ i → (hi : i < 100) → ns.getD i.toNat 0 = ns[i.toNat]'(by omega) := fun i a b => by
    have : i.toNat < ns.length := by omega
    simp [List.getD, this]
  have hlk : ∀ j : Int, 0 ≤ j → lk (fun i => ns.getD i.toNat 0) 100 j = ns[j.toNat]? := fun j a => by
    by_cases c : j < 100
    · rw [lk_in a c, hnd j a c]
      exact (List.getElem?_eq_getElem (by omega)).symm
    · rw [lk_out (by omega)]
      exact (List.getElem?_eq_none (by omega)).symm
  have hW : ∀ j, 0 ≤ j → j < (0 : Int) → isW ((fun _ : Int => (0 : Int)) j) := fun j a b => absurd b (by omega)
  have hL : Lst G (uC0 G.2.2.2.2 r0 L1 f1) 0 0 (fun _ => 0) 0 := ⟨Int.le_refl 0, Int.le_refl 0, rfl, Int.le_refl 0, by decide, rfl, Or.inl ⟨rfl, rfl, rfl⟩⟩
  have hC : Chn (uC0 G.2.2.2.2 r0 L1 f1) 0 0 (fun _ => 0) := by
    refine ⟨Int.le_refl 0, Int.le_refl 0, by decide, rfl, rfl, (fun i => ns.getD i.toNat 0), ⟨fun i j a b c d e => ?_, fun i a b => ?_, fun i a b => absurd b (by omega), fun i _ b a => ?_⟩, ?_, ?_, ?_⟩
    · have e : ns.getD i.toNat 0 = ns.getD j.toNat 0 := e
      rw [hnd i a b, hnd j c d] at e
      have hp := List.pairwise_iff_getElem.mp h2
      by_cases q : i = j
      · exact q
      · exfalso
        by_cases r : i < j
        · exact hp i.toNat j.toNat (by omega) (by omega) (by omega) e
        · exact hp j.toNat i.toNat (by omega) (by omega) (by omega) e.symm
    · show ns.getD i.toNat 0 ∈ L1
      rw [hnd i a b]
      exact (h3 _).mpr (Or.inr (List.getElem_mem _))
    · obtain ⟨x, y, q⟩ := e2 i.toNat (by omega)
      refine ⟨x, y, ?_⟩
      show f1 (ns.getD i.toNat 0) = _
      rw [hnd i a b, q, hlk (i + 1) (by omega), show (i + 1).toNat = i.toNat + 1 by omega]
    · exact (lk_out (by omega)).symm
    · exact (lk_out (by omega)).symm
    · rw [hlk 0 (Int.le_refl 0)]
      exact e1
  refine ⟨by omega, by omega, (fun _ => (0, 0, fun _ => 0), 0, 0, 0, (fun _ => 0), 0), ⟨Int.le_refl 0, (by show (0 : Int) ≤ 50; decide), fun _ _ _ => ⟨Int.le_refl 0, Int.le_refl 0, (by show (0 : Int) ≤ 100; decide), hW⟩, Or.inl rfl, Int.le_refl 0, Int.le_refl 0, (by show (0 : Int) ≤ 148; decide)⟩, (by show (0 : Int) ≤ 300 * (0 : Nat); decide), ⟨⟨hL, hC, TA.nil, hW⟩, rfl, rfl, fun _ _ _ => rfl, rfl, Int.le_refl 0, (by show (0 : Int) < 50; decide), rfl, fun i a b => absurd b (by show ¬ i < 0; omega)⟩, ⟨TA.nil, rfl, rfl, fun _ _ _ => rfl, rfl, fun i a b => absurd b (by show ¬ i < 0; omega)⟩, rfl, Int.le_refl 0, (by show (0 : Int) ≤ 300; decide), fun j a b => absurd b (by show ¬ j < 0; omega), rfl, rfl, rfl, Int.le_refl 0, (by show (0 : Int) ≤ 701; decide), fun j a b => absurd b (by show ¬ j < 0; omega)⟩
theorem all_steps (G : Gr) : Steps G (Inv G) := ⟨inv_up, st_0 G, st_1 G, st_2 G, st_3 G, st_4 G, st_5 G, st_6 G, st_7 G, st_8 G, st_9 G, st_10 G, st_11 G, st_12 G, st_13 G, st_14 G, st_15 G, st_16 G, st_17 G, st_18 G, st_19 G, st_20 G, st_21 G, st_22 G, st_23 G, st_24 G, st_25 G, st_26 G, st_27 G, st_28 G, st_29 G, st_30 G, st_31 G, st_32 G, st_33 G, st_34 G, st_35 G, st_36 G, st_37 G, st_38 G, st_39 G⟩
