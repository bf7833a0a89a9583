/-! what holds of the JDK's own cells at the law's entry -/
abbrev tmCache : Term := .static "java/lang/Integer$IntegerCache" "cache" "[Ljava/lang/Integer;"
abbrev tmEmpty : Term := .static "java/util/ArrayList" "DEFAULTCAPACITY_EMPTY_ELEMENTDATA" "[Ljava/lang/Object;"
theorem ground_GW {s : State} {b : Nat} (hts : ∀ w ∈ lw_tbl, w.before #[Value.ref b] s = true) (hg : ∀ w ∈ flatC (Jvm.Cond.and given_1 narrow_1), w.before #[Value.ref b] s = true) : GW s := by
  refine ⟨List.forall_mem_cons.mpr ⟨va_Nw.of rfl (hts _ (by decide +kernel)), List.forall_mem_cons.mpr ⟨va_Nw.of rfl (hts _ (by decide +kernel)), List.forall_mem_cons.mpr ⟨va_Nw.of rfl (hts _ (by decide +kernel)), List.forall_mem_cons.mpr ⟨va_Nw.of rfl (hts _ (by decide +kernel)), fun _ h => nomatch h⟩⟩⟩⟩, List.forall_mem_cons.mpr ⟨va_Nw.of rfl (hts _ (by decide +kernel)), List.forall_mem_cons.mpr ⟨va_Nw.of rfl (hts _ (by decide +kernel)), List.forall_mem_cons.mpr ⟨va_Nw.of rfl (hts _ (by decide +kernel)), List.forall_mem_cons.mpr ⟨va_Nw.of rfl (hts _ (by decide +kernel)), fun _ h => nomatch h⟩⟩⟩⟩, ?_⟩
  refine List.forall_mem_cons.mpr ⟨va_Nw.of rfl (hts _ (by decide +kernel)), List.forall_mem_cons.mpr ⟨va_Nw.of rfl (hts _ (by decide +kernel)), List.forall_mem_cons.mpr ⟨va_Nw.of rfl (hts _ (by decide +kernel)), List.forall_mem_cons.mpr ⟨va_Nw.of rfl (hts _ (by decide +kernel)), List.forall_mem_cons.mpr ⟨va_Nw.of rfl (hts _ (by decide +kernel)), List.forall_mem_cons.mpr ⟨va_Nw.of rfl (hts _ (by decide +kernel)), List.forall_mem_cons.mpr ⟨va_Nw.of rfl (hts _ (by decide +kernel)), List.forall_mem_cons.mpr ⟨va_Nw.of rfl (hts _ (by decide +kernel)), fun _ h => nomatch h⟩⟩⟩⟩⟩⟩⟩⟩
theorem ground_JDK {s : State} {b : Nat} {A : Nat → Prop} (hA : ∀ a : Nat, a < s.heap.size → ¬ A a) (hts : ∀ w ∈ lw_tbl, w.before #[Value.ref b] s = true) (hg : ∀ w ∈ flatC (Jvm.Cond.and given_1 narrow_1), w.before #[Value.ref b] s = true) :
    ∃ (ad : Nat → Nat) (ca em : Nat), (vx_Zq Bundle.tN "UNASSIGNED_STACK" Bundle.steD A s s.heap ∧ vx_Zq Bundle.tN "SUPPRESSED_SENTINEL" Bundle.listD A s s.heap) ∧ (vb_C ad A s s.heap ∧ va_Z "java/lang/Integer$IntegerCache" "high" "I" (.int 127) A s s.heap ∧ va_Z "java/lang/Integer$IntegerCache" "cache" "[Ljava/lang/Integer;" (.ref ca) A s s.heap ∧ va_T (.object "java/lang/Integer") ca 256 (fun j => .ref (ad j)) A s s.heap) ∧
      va_Z "java/util/ArrayList" "DEFAULTCAPACITY_EMPTY_ELEMENTDATA" "[Ljava/lang/Object;" (.ref em) A s s.heap ∧ va_T (.object "java/lang/Object") em 0 (fun _ => .null) A s s.heap ∧ va_Mi "[Ljava/lang/Object;" (ad 256) s ∧ va_AO "java/lang/Object" s ∧ va_AOA .int s := by
  have l256 : (Term.length tmCache).eval #[Value.ref b] s none [] s = some (.int (Int32.ofNat 256)) := va_eqt (z := 256) (hg _ (by decide +kernel))
  obtain ⟨ad, hC, hel⟩ := vb_Cof (st := tmCache) rfl l256 (hg _ (by decide +kernel)) hA
  obtain ⟨ca, hca, hT⟩ := va_Tof (tm := tmCache) (ty := .object "java/lang/Integer") (N := 256) (f := fun j => .ref (ad j)) (by decide) (hg _ (by decide +kernel)) l256 hel hA
  obtain ⟨em, hem, hE⟩ := va_Tof (tm := tmEmpty) (ty := .object "java/lang/Object") (N := 0) (f := fun _ => .null) (by decide) (hg _ (by decide +kernel)) (va_eqt (z := 0) (hg _ (by decide +kernel))) (fun j hj => absurd hj (Nat.not_lt_zero j)) hA
  obtain ⟨mi, hm⟩ := va_Mi.of (C := "[Ljava/lang/Object;") (hg _ (by decide +kernel))
  have ek : ∀ k : Nat, k < 256 → (fun j => if j = 256 then mi else ad j) k = ad k := fun k hk => if_neg (by omega)
  have hC' : vb_C (fun j => if j = 256 then mi else ad j) A s s.heap := by
    refine ⟨fun k hk => ?_, fun k hk => ?_⟩
    · rw [ek k hk]
      exact hC.1 k hk
    · rw [ek k hk]
      exact hC.2 k hk
  have hT' : va_T (.object "java/lang/Integer") ca 256 (fun j => .ref (if j = 256 then mi else ad j)) A s s.heap := by
    obtain ⟨cell, t1, t2, t3, t4, t5, t6, t7⟩ := hT
    refine ⟨cell, t1, t2, t3, t4, t5, fun j hj => ?_, t7⟩
    exact (t6 j hj).trans (congrArg (fun q => some (Value.ref q)) (ek j hj).symm)
  exact ⟨fun j => if j = 256 then mi else ad j, ca, em, ⟨vx_Zqof (hts _ (by decide +kernel)) (hts _ (by decide +kernel)) (hg _ (by decide +kernel)) hA, vx_Zqof (hts _ (by decide +kernel)) (hts _ (by decide +kernel)) (hg _ (by decide +kernel)) hA⟩, ⟨hC', va_Zof (hts _ (by decide +kernel)) (hts _ (by decide +kernel)) (va_eqi (hg _ (by decide +kernel))) hA, va_Zof (hts _ (by decide +kernel)) (hts _ (by decide +kernel)) hca hA, hT'⟩, va_Zof (hts _ (by decide +kernel)) (hts _ (by decide +kernel)) hem hA, hE, (by show va_Mi _ (if (256 : Nat) = 256 then mi else ad 256) s; rw [if_pos rfl]; exact hm), va_AO.of (hts _ (by decide +kernel)), va_AOA.of (hts _ (by decide +kernel))⟩
theorem ground {s : State} {b : Nat} (hts : ∀ w ∈ lw_tbl, w.before #[Value.ref b] s = true) (hv : (Jvm.Cond.and given_1 narrow_1).before #[Value.ref b] s = true) : ∃ G : Gr, KK G s ∧ Gd G (fun q => s.heap.size ≤ q) s s.heap := by
  have hg := flat_of_before _ hv
  obtain ⟨D, k, hK⟩ := ground_K hts
  obtain ⟨ad, ca, em, h⟩ := ground_JDK (A := fun q => s.heap.size ≤ q) (fun a ha => Nat.not_le.mpr ha) hts hg
  exact ⟨(D, k, ad, ca, em), hK, ground_GW hts hg, h⟩
