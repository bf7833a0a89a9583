/-! what holds of the tables at the law's entry -/
theorem arrOf_kind {s : State} {cA comp : ClassId} {k : Class} {ty : FieldType} (hk : s.vm.classes[cA]? = some k) (hkind : k.kind = .array comp ty) : ArrOfT s cA ty := fun n z => ⟨fun x => by simp [arrV], k, hk, comp, hkind⟩
theorem ground_kn {s : State} {b : Nat} (hts : ∀ w ∈ lw_tbl, w.before #[Value.ref b] s = true) : ∀ c : Nat, ∃ d : ClassId × (Nat → Nat), ∀ q, cls_[c]? = some q → u_Kn s q.1 q.2.1 q.2.2 d.1 d.2 := by
  have hta : ∀ w ∈ lw_all, w.before #[Value.ref b] s = true := fun w h => hts w (lwa_tbl h)
  have one : ∀ {C : String} {T : u_T} {N n : Nat}, (∀ x ∈ u_ws C T N, x ∈ lw_all) → Cond.instantiable C n ∈ lw_all → ∃ d : ClassId × (Nat → Nat), ∀ q, some (C, T, N) = some q → u_Kn s q.1 q.2.1 q.2.2 d.1 d.2 := fun {C T N n} hin hi => by
    obtain ⟨cC, iS, h⟩ := u_known (args := #[Value.ref b]) hta hin (hta _ hi)
    exact ⟨(cC, iS), fun q hq => by cases hq; exact h⟩
  intro c
  by_cases hc : c < 13
  · have h13 : c = 0 ∨ c = 1 ∨ c = 2 ∨ c = 3 ∨ c = 4 ∨ c = 5 ∨ c = 6 ∨ c = 7 ∨ c = 8 ∨ c = 9 ∨ c = 10 ∨ c = 11 ∨ c = 12 := by omega
    rcases h13 with rfl | rfl | rfl | rfl | rfl | rfl | rfl | rfl | rfl | rfl | rfl | rfl | rfl
    · exact one inX0 qin_X0
    · exact one inX1 qin_X1
    · exact one inX2 qin_X2
    · exact one inX3 qin_X3
    · exact one inX4 qin_X4
    · exact one inX5 qin_X5
    · exact one inX6 qin_X6
    · exact one inX7 qin_X7
    · exact one inX8 qin_X8
    · exact one inX9 qin_X9
    · exact one inX10 qin_X10
    · exact one inJx4a65c qin_Jx4a65c
    · exact one (n := 1) inJ6 (lwa_all (L := [Cond.instantiable RJ6 1]) (by decide +kernel) _ List.mem_cons_self)
  · refine ⟨(0, fun _ => 0), fun q hq => ?_⟩
    have := (List.getElem?_eq_some_iff.mp hq).1
    exact absurd (show c < 13 from this) hc
theorem gt_mem {w : Cond} (i : Nat) (h : lw_tbl[i]? = some w) : w ∈ lw_tbl := List.mem_of_getElem? h
theorem ground_K {s : State} {b : Nat} (hts : ∀ w ∈ lw_tbl, w.before #[Value.ref b] s = true) : ∃ (D : va_G) (k : Nat → ClassId), va_K D cls_ (tys_ k) s := by
  have h1 := ground_kn hts
  have hta : ∀ w ∈ lw_all, w.before #[Value.ref b] s = true := fun w h => hts w (lwa_tbl h)
  obtain ⟨c0, k0, p0, f0, g0, e0⟩ := Cond.arrayClass_spec (hta _ q_acI4)
  obtain ⟨c1, k1, p1, f1, g1, e1⟩ := Cond.arrayClass_spec (hta _ q_acC4)
  obtain ⟨c4, k4, p4, f4, g4, e4⟩ := Cond.arrayClass_spec (hta _ q_acL4)
  obtain ⟨p2, c2, k2, f2, -, g2, e2, n2⟩ := Cond.arrayOver_spec (hts (Cond.arrayOver (.object "java/lang/Object")) (by decide +kernel))
  obtain ⟨p3, c3, k3, f3, g3, e3, n3⟩ := Cond.arrayOver_specA (hts (Cond.arrayOver (.array .int)) (by decide +kernel))
  refine ⟨(fun c => (Classical.choose (h1 c)).1, fun c => (Classical.choose (h1 c)).2), fun j => match j with | 0 => c0 | 1 => c1 | 2 => c2 | 3 => c3 | _ => c4, fun c q hq => Classical.choose_spec (h1 c) q hq, fun j q hq => ?_⟩
  by_cases hj : j < 5
  · have h5 : j = 0 ∨ j = 1 ∨ j = 2 ∨ j = 3 ∨ j = 4 := by omega
    rcases h5 with rfl | rfl | rfl | rfl | rfl
    · cases hq
      exact ⟨arrOf_kind g0 e0, f0⟩
    · cases hq
      exact ⟨arrOf_kind g1 e1, f1⟩
    · cases hq
      exact ⟨arrOf_kind g2 e2, k2, p2, g2, e2, f2, n2⟩
    · cases hq
      exact ⟨arrOf_kind g3 e3, n3⟩
    · cases hq
      exact ⟨arrOf_kind g4 e4, f4⟩
  · exact absurd (show j < 5 from (List.getElem?_eq_some_iff.mp hq).1) hj
