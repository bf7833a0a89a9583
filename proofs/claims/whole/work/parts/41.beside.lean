/-! a contract held beside cells that the method doesn't reach -/
theorem met_imp {l : Launch} {y : MethodName} {S : Spec} {P P' : Array Value → State → Prop} {K : Program → Env → List Frame → State → Array Value → Prop} {Q Q' : Array Value → State → Outcome → State → Prop} (hM : MetFree l y S P K Q) (hP : ∀ a s, P' a s → P a s) (hQ : ∀ a s o t, P' a s → Q a s o t → Q' a s o t) : MetFree l y S P' K Q' := fun p e h1 h2 h3 s m args below hf ha hp hk => by
  obtain ⟨n, o, b1, b2, b3, q⟩ := hM p e h1 h2 h3 s m args below hf ha (hP _ _ hp) hk
  exact ⟨n, o, b1, b2, b3, hQ _ _ _ _ hp q⟩
section
variable {l : Launch} {G : Gr} {y : MethodName} {ws : List Cond} {rm : Room} {As : List Value} {w r w0 w1 : va_W} {mc ms sz : Nat} {st t U : State}
theorem vaA_mono (hs : ∀ x ∈ w, x ∈ w0) {q : Nat} (h : va_A w sz q) : va_A w0 sz q := by
  rcases h with ⟨k, e, h⟩ | h
  · obtain ⟨i, hi⟩ := List.getElem?_of_mem (hs _ (List.mem_of_getElem? h))
    exact Or.inl ⟨i, e, hi⟩
  · exact Or.inr h
theorem perm_l (hp : w0.Perm (w ++ r)) : ∀ x ∈ w, x ∈ w0 := fun _ hx => hp.mem_iff.mpr (List.mem_append_left _ hx)
theorem perm_r (hp : w0.Perm (w ++ r)) : ∀ x ∈ r, x ∈ w0 := fun _ hx => hp.mem_iff.mpr (List.mem_append_right _ hx)
theorem PreW.part (hp : w0.Perm (w ++ r)) (h : PreW G w0 sz U) : PreW G w sz U := by
  obtain ⟨h1, h2, h3, h4, h5⟩ := h
  refine ⟨h1, fun k q hk => ?_, h3, nodup_D.mpr ⟨?_, fun _ _ => trivial⟩, h5.narrow (fun q hq => vaA_mono (perm_l hp) hq)⟩
  · obtain ⟨i, hi⟩ := List.getElem?_of_mem (perm_l hp q (List.mem_of_getElem? hk))
    exact h2 i q hi
  · have hn := (hp.map Prod.fst).nodup_iff.mp (nodup_D.mp h4).1
    rw [List.map_append] at hn
    exact (List.nodup_append.mp hn).1
theorem PreW.three (h : PreW G w0 sz st) : st.heap.size = sz ∧ va_P G.1 cls_ w0 st.heap ∧ va_D (fun _ => True) w0 := ⟨h.1, h.2.1, h.2.2.2.1⟩
theorem BW.beside (hp : w0.Perm (w ++ r)) (h : st.heap.size = sz ∧ va_P G.1 cls_ w0 st.heap ∧ va_D (fun _ => True) w0) (hb : BW G w sz w1 t) (hF : va_F (va_A w sz) st t) : BW G w0 sz (w1 ++ r) t := by
  obtain ⟨h1, h2, h4⟩ := h
  have hn := (hp.map Prod.fst).nodup_iff.mp (nodup_D.mp h4).1
  rw [List.map_append] at hn
  obtain ⟨n1, n2, n3⟩ := List.nodup_append.mp hn
  have hlt : ∀ x ∈ r, x.1 < st.heap.size := fun x hx => by
    obtain ⟨i, hi⟩ := List.getElem?_of_mem (perm_r hp x hx)
    exact (h2 i x hi).lt
  have hout : ∀ x ∈ r, ¬ va_A w sz x.1 := fun x hx hA => by
    rcases hA with ⟨k, e, hk⟩ | hA
    · exact n3 x.1 (List.mem_map.mpr ⟨_, List.mem_of_getElem? hk, rfl⟩) x.1 (List.mem_map.mpr ⟨_, hx, rfl⟩) rfl
    · have := hlt x hx
      omega
  have hd := nodup_D.mp hb.2.2
  refine ⟨hb.1.app (fun k q hk => ?_), hb.2.1, nodup_D.mpr ⟨?_, fun x hx => ?_⟩⟩
  · have hq := List.mem_of_getElem? hk
    obtain ⟨i, hi⟩ := List.getElem?_of_mem (perm_r hp q hq)
    exact (h2 i q hi).kept (hF.2 q.1 (hlt q hq) (hout q hq))
  · rw [List.map_append]
    refine List.nodup_append.mpr ⟨hd.1, n2, fun a ha b hb' e => ?_⟩
    obtain ⟨x, hx, rfl⟩ := List.mem_map.mp ha
    obtain ⟨z, hz, rfl⟩ := List.mem_map.mp hb'
    exact hout z hz (e ▸ hd.2 x hx)
  · rcases List.mem_append.mp hx with hx | hx
    · exact vaA_mono (perm_l hp) (hd.2 x hx)
    · obtain ⟨i, hi⟩ := List.getElem?_of_mem (perm_r hp x hx)
      exact va_A.in hi
theorem vaF_mono (hp : w0.Perm (w ++ r)) (hF : va_F (va_A w sz) st t) : va_F (va_A w0 sz) st t := ⟨hF.1, fun q h1 h2 => hF.2 q h1 (fun z => h2 (vaA_mono (perm_l hp) z))⟩
abbrev Bes (r : va_W) (Post : Int → va_W → Prop) : Int → va_W → Prop := fun z w' => ∃ w1, w' = w1 ++ r ∧ Post z w1
abbrev BesV (r : va_W) (Post : va_W → Prop) : va_W → Prop := fun w' => ∃ w1, w' = w1 ++ r ∧ Post w1
theorem QcI.beside {Post : Int → va_W → Prop} (hp : w0.Perm (w ++ r)) {a : Array Value} {o : Outcome} (h : st.heap.size = sz ∧ va_P G.1 cls_ w0 st.heap ∧ va_D (fun _ => True) w0) (hq : QcI G w sz Post a st o t) : QcI G w0 sz (Bes r Post) a st o t := by
  obtain ⟨⟨v, u, e1, ⟨z, e2, hz⟩, hb⟩, hF⟩ := hq
  exact ⟨⟨v, u ++ r, e1, ⟨z, e2, u, rfl, hz⟩, BW.beside hp h hb hF⟩, vaF_mono hp hF⟩
theorem QcV.beside {Post : va_W → Prop} (hp : w0.Perm (w ++ r)) {a : Array Value} {o : Outcome} (h : st.heap.size = sz ∧ va_P G.1 cls_ w0 st.heap ∧ va_D (fun _ => True) w0) (hq : QcV G w sz Post a st o t) : QcV G w0 sz (BesV r Post) a st o t := by
  obtain ⟨⟨u, e1, hz, hb⟩, hF⟩ := hq
  exact ⟨⟨u ++ r, e1, ⟨u, rfl, hz⟩, BW.beside hp h hb hF⟩, vaF_mono hp hF⟩
theorem Ct.beside {Post : Int → va_W → Prop} (hp : w0.Perm (w ++ r)) (hC : Ct l G y ws rm As w mc ms Post) : Ct l G y ws rm As w0 mc ms (Bes r Post) := fun sz =>
  met_imp (hC sz) (fun _ _ h => ⟨h.1, h.2.part hp⟩) (fun _ _ _ _ hpre hq => ⟨QcI.beside hp hpre.2.three hq.1, hq.2.imp fun _ hL => ⟨hL.1, fun q hq => vaA_mono (perm_l hp) (hL.2 q hq)⟩⟩)
theorem CtV.beside {Post : va_W → Prop} (hp : w0.Perm (w ++ r)) (hC : CtV l G y ws rm As w mc ms Post) : CtV l G y ws rm As w0 mc ms (BesV r Post) := fun sz =>
  met_imp (hC sz) (fun _ _ h => ⟨h.1, h.2.part hp⟩) (fun _ _ _ _ hpre hq => ⟨QcV.beside hp hpre.2.three hq.1, hq.2.imp fun _ hL => ⟨hL.1, fun q hq => vaA_mono (perm_l hp) (hL.2 q hq)⟩⟩)
theorem CtD.beside {Post : UInt64 → va_W → Prop} (hp : w0.Perm (w ++ r)) (hC : CtD l G y ws rm As w mc ms Post) : CtD l G y ws rm As w0 mc ms (fun z w' => ∃ w1, w' = w1 ++ r ∧ Post z w1) := fun sz =>
  met_imp (hC sz) (fun _ _ h => ⟨h.1, h.2.part hp⟩) (fun _ s _ t hpre hq => by
    obtain ⟨d, hd, ⟨⟨v, u, e1, hz, hb⟩, hF⟩, L, hL, hf⟩ := hq
    have h3 : (s.setDrawn d).heap.size = sz ∧ va_P G.1 cls_ w0 (s.setDrawn d).heap ∧ va_D (fun _ => True) w0 := hpre.2.three
    exact ⟨d, hd, ⟨⟨v, u ++ r, e1, ⟨u, rfl, hz⟩, BW.beside hp h3 hb hF⟩, vaF_mono hp hF⟩, L, hL, fun q hq => vaA_mono (perm_l hp) (hf q hq)⟩)
theorem CtF.beside {Post : UInt32 → va_W → Prop} (hp : w0.Perm (w ++ r)) (hC : CtF l G y ws rm As w mc ms Post) : CtF l G y ws rm As w0 mc ms (fun z w' => ∃ w1, w' = w1 ++ r ∧ Post z w1) := fun sz =>
  met_imp (hC sz) (fun _ _ h => ⟨h.1, h.2.part hp⟩) (fun _ s _ t hpre hq => by
    obtain ⟨d, hd, ⟨⟨v, u, e1, hz, hb⟩, hF⟩, L, hL, hf⟩ := hq
    have h3 : (s.setDrawn d).heap.size = sz ∧ va_P G.1 cls_ w0 (s.setDrawn d).heap ∧ va_D (fun _ => True) w0 := hpre.2.three
    exact ⟨d, hd, ⟨⟨v, u ++ r, e1, ⟨u, rfl, hz⟩, BW.beside hp h3 hb hF⟩, vaF_mono hp hF⟩, L, hL, fun q hq => vaA_mono (perm_l hp) (hf q hq)⟩)
theorem XcE.beside {E E' : String} {PX : va_W → Prop} (hp : w0.Perm (w ++ r)) (h : st.heap.size = sz ∧ va_P G.1 cls_ w0 st.heap ∧ va_D (fun _ => True) w0) (hx : XcE G w sz E PX E' st t) : XcE G w0 sz E (BesV r PX) E' st t := by
  obtain ⟨u, hz, ⟨e1, hb⟩, hF⟩ := hx
  exact ⟨u ++ r, ⟨u, rfl, hz⟩, ⟨e1, BW.beside hp h hb hF⟩, vaF_mono hp hF⟩
theorem vxT.beside {E : String} {PX : va_W → Prop} (hp : w0.Perm (w ++ r)) {q : Nat} (h : st.heap.size = sz ∧ va_P G.1 cls_ w0 st.heap ∧ va_D (fun _ => True) w0) (hx : vx_T (XcE G w sz E PX) st q t mc ms (va_A w sz)) : vx_T (XcE G w0 sz E (BesV r PX)) st q t mc ms (va_A w0 sz) := by
  obtain ⟨E', ce, L, a1, a2, a3, a4, a5, a6, a7⟩ := hx
  exact ⟨E', ce, L, XcE.beside hp h a1, a2, a3, a4, a5, a6, fun z hz => vaA_mono (perm_l hp) (a7 z hz)⟩
theorem CtX.beside {E : String} {Post : Int → va_W → Prop} {PX : va_W → Prop} (hp : w0.Perm (w ++ r)) (hC : CtX l G y ws rm As w mc ms Post E PX) : CtX l G y ws rm As w0 mc ms (Bes r Post) E (BesV r PX) := fun sz =>
  met_imp (hC sz) (fun _ _ h => ⟨h.1, h.2.part hp⟩) (fun _ _ _ _ hpre hq => hq.imp
    (fun hq => ⟨QcI.beside hp hpre.2.three hq.1, hq.2.imp fun _ hL => ⟨hL.1, fun q hq => vaA_mono (perm_l hp) (hL.2 q hq)⟩⟩)
    (fun ⟨q, e, hx⟩ => ⟨q, e, vxT.beside hp hpre.2.three hx⟩))
theorem CtXV.beside {E : String} {Post : va_W → Prop} {PX : va_W → Prop} (hp : w0.Perm (w ++ r)) (hC : CtXV l G y ws rm As w mc ms Post E PX) : CtXV l G y ws rm As w0 mc ms (BesV r Post) E (BesV r PX) := fun sz =>
  met_imp (hC sz) (fun _ _ h => ⟨h.1, h.2.part hp⟩) (fun _ _ _ _ hpre hq => hq.imp
    (fun hq => ⟨QcV.beside hp hpre.2.three hq.1, hq.2.imp fun _ hL => ⟨hL.1, fun q hq => vaA_mono (perm_l hp) (hL.2 q hq)⟩⟩)
    (fun ⟨q, e, hx⟩ => ⟨q, e, vxT.beside hp hpre.2.three hx⟩))
end
