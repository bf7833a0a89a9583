/-! objects made: the world as what was there, what is made now, and the pool -/
def wq (x t : va_W) (L : List Nat) (f : Nat → va_E) : va_W := (x ++ t) ++ va_pl L f
theorem wq_at {x t : va_W} {L : List Nat} {f : Nat → va_E} {j : Nat} {c : Nat × va_E} (hj : t[j]? = some c) : (wq x t L f)[x.length + j]? = some c := by
  have hlt := (List.getElem?_eq_some_iff.mp hj).1
  unfold wq
  rw [List.getElem?_append_left (by rw [List.length_append]; omega), List.getElem?_append_right (Nat.le_add_right _ _), Nat.add_sub_cancel_left]
  exact hj
theorem wq_set {x t : va_W} {L : List Nat} {f : Nat → va_E} {j : Nat} {c : Nat × va_E} (hj : j < t.length) : (wq x t L f).set (x.length + j) c = wq x (t.set j c) L f := by
  unfold wq
  rw [List.set_append_left _ _ (by rw [List.length_append]; omega), List.set_append_right _ _ (Nat.le_add_right _ _), Nat.add_sub_cancel_left]
theorem wq_mv {x t t2 : va_W} {L : List Nat} {f : Nat → va_E} : wq x (t ++ t2) L f = wq (x ++ t) t2 L f := by
  unfold wq
  rw [← List.append_assoc x t t2]
theorem nodup_D {A : Nat → Prop} {w : va_W} : va_D A w ↔ (w.map Prod.fst).Nodup ∧ ∀ q ∈ w, A q.1 := by
  constructor
  · intro h
    refine ⟨?_, fun q hq => ?_⟩
    · rw [List.Nodup, List.pairwise_iff_getElem]
      intro i j hi hj hij he
      rw [List.length_map] at hi hj
      rw [List.getElem_map, List.getElem_map] at he
      have := h.1 i j _ _ (List.getElem?_eq_getElem hi) (List.getElem?_eq_getElem hj) he
      omega
    · obtain ⟨i, hi⟩ := List.getElem?_of_mem hq
      exact h.2 i q hi
  · rintro ⟨h1, h2⟩
    refine ⟨fun i j p q hi hj he => ?_, fun k q hk => h2 q (List.mem_of_getElem? hk)⟩
    rw [List.Nodup, List.pairwise_iff_getElem] at h1
    obtain ⟨hi1, hi2⟩ := List.getElem?_eq_some_iff.mp hi
    obtain ⟨hj1, hj2⟩ := List.getElem?_eq_some_iff.mp hj
    rcases Nat.lt_trichotomy i j with hlt | heq | hgt
    · exact absurd (by rw [List.getElem_map, List.getElem_map, hi2, hj2]; exact he) (h1 i j (by rw [List.length_map]; exact hi1) (by rw [List.length_map]; exact hj1) hlt)
    · exact heq
    · exact absurd (by rw [List.getElem_map, List.getElem_map, hi2, hj2]; exact he.symm) (h1 j i (by rw [List.length_map]; exact hj1) (by rw [List.length_map]; exact hi1) hgt)
theorem HW.perm {G : Gr} {A : Nat → Prop} {H0 H : Heap} {w w' : va_W} {locs : List Loc} (hp : w.Perm w') (h : HW G A H0 w H locs) : HW G A H0 w' H locs := by
  refine ⟨fun k q hk => ?_, ?_, h.2.2⟩
  · obtain ⟨i, hi⟩ := List.getElem?_of_mem (hp.mem_iff.mpr (List.mem_of_getElem? hk))
    exact h.1 i q hi
  · have h1 := nodup_D.mp h.2.1
    exact nodup_D.mpr ⟨(hp.map Prod.fst).nodup_iff.mp h1.1, fun q hq => h1.2 q (hp.mem_iff.mpr hq)⟩
theorem q_acI4 : Cond.arrayClass .int ∈ lw_all := lwa 204 (by decide +kernel) (by decide +kernel)
theorem q_acC4 : Cond.arrayClass .char ∈ lw_all := lwa 331 (by decide +kernel) (by decide +kernel)
section
variable {p : Program} {l : Launch} {e : Env} {R : Room} {s : State} {m : MethodId} {args : Array Value} {below : List Frame} {meth : Method} {c : Code} {H : Heap} {locs : List Loc} {cells slots : Nat} {Q : State → Prop}
variable {cc : ByteArray} {own : String} {nL pc : Nat} {ls : Array Slot} {rest : List Value} {G : Gr} {A : Nat → Prop} {x t : va_W} {L : List Nat} {f : Nat → va_E}
theorem HW.back {q : Nat × va_E} (h : HW G A s.heap (wq x t L f ++ [q]) H locs) : HW G A s.heap (wq x (t ++ [q]) L f) H locs := by
  refine h.perm ?_
  unfold wq
  rw [List.append_assoc, ← List.append_assoc x t [q], List.append_assoc (x ++ t)]
  exact List.Perm.append_left _ List.perm_append_comm
theorem r_newQ (X : CallFix p m c cc nL s args lw_all own) (K : KK G s) (h : HW G A s.heap (wq x t L f) H locs) {C : String} {T : u_T} {N ci idx : Nat} {ty : Nat → FieldType} {fs : List Value} (hin : ∀ x ∈ u_ws C T N, x ∈ lw_all) (hty : ∀ k, k < N → parseFieldDescriptor (T k).2.2.1 = some (ty k)) (hc : cls_[ci]? = some (C, T, N)) (hcl : Cond.classLink own idx C ∈ lw_all) (hinst : Cond.instantiable C N ∈ lw_all) (hini : Cond.initialized C ∈ lw_all) (hfs : ∀ j, j < N → defaultValue (ty j) = vp_V fs j) (hb : cells + 1 ≤ R.cells ∧ slots + N ≤ R.slots) (hdg : decode cc pc = .ok (.new idx, 3))
    (kk : ∀ (q : Nat) (H1 : Heap), HW G A s.heap (wq x (t ++ [(q, .inr (ci, fs))]) L f) H1 locs → W p l e R s m args below meth c H1 locs (cells + 1) (slots + N) Q (F0 m (pc + 3) ls (.ref q :: rest))) : W p l e R s m args below meth c H locs cells slots Q (F0 m pc ls rest) :=
  r_new X K h hin hty hc hcl hinst hini hfs hb hdg (fun q H1 h1 => kk q H1 h1.back)
theorem vp_cell0 (N : Nat) (cA : ClassId) : vp_cell cA (N, .inl (aI (fun _ => 0))) = arrV cA N (fun _ => .int 0) := rfl
theorem r_newI (X : CallFix p m c cc nL s args lw_all own) (K : KK G s) (h : HW G A s.heap (wq x t L f) H locs) (N : Nat) {i : Int} (hi : i = N) (hN : N ≤ 100000) (hb : cells + 1 ≤ R.cells ∧ slots + N ≤ R.slots) (hdg : decode cc pc = .ok (.newarray .int, 2))
    (kk : ∀ (q : Nat) (H1 : Heap), HW G A s.heap (wq x (t ++ [(q, .inl (G.2.1 0, N, .inl (aI (fun _ => 0))))]) L f) H1 locs → W p l e R s m args below meth c H1 locs (cells + 1) (slots + N) Q (F0 m (pc + 2) ls (.ref q :: rest))) : W p l e R s m args below meth c H locs cells slots Q (F0 m pc ls (zI i :: rest)) := by
  subst hi
  refine va_newa (atype := .int) (ty := .int) (N' := N) (a0 := (N, .inl (aI (fun _ => 0)))) X.1 X.2.1 (X.2.2.2.2 _ q_acI4) rfl K h.1 h.2.1 h.2.2.1 h.2.2.2 (fun cA => vp_cell0 N cA) (fun q9 => ?_) (by rw [zr_cl (by omega) (by omega), Int.toNat_natCast]) (by show N * 4 ≤ _; omega) hb.1 hb.2 hdg (fun q cA H1 hK1 hP hD hS => ?_)
  · have := (zr_lt (x := (N : Int)) (y := 0) ⟨by omega, by omega⟩ zr_0).mp q9
    omega
  · have h4 := (hK1.2 (tys_ G.2.1).length (cA, .int) (by rw [List.getElem?_append_right (Nat.le_refl _), Nat.sub_self]; rfl)).2
    have h4' := (K.2 0 (G.2.1 0, .int) rfl).2
    have e1 : cA = G.2.1 0 := Option.some.inj (h4.symm.trans h4')
    subst e1
    exact kk q H1 (HW.back ⟨hP, hD, hS, h.2.2.2⟩)
theorem r_newC (X : CallFix p m c cc nL s args lw_all own) (K : KK G s) (h : HW G A s.heap (wq x t L f) H locs) (N : Nat) {i : Int} (hi : i = N) (hN : N ≤ 100000) (hb : cells + 1 ≤ R.cells ∧ slots + N ≤ R.slots) (hdg : decode cc pc = .ok (.newarray .char, 2))
    (kk : ∀ (q : Nat) (H1 : Heap), HW G A s.heap (wq x (t ++ [(q, .inl (G.2.1 1, N, .inl (aI (fun _ => 0))))]) L f) H1 locs → W p l e R s m args below meth c H1 locs (cells + 1) (slots + N) Q (F0 m (pc + 2) ls (.ref q :: rest))) : W p l e R s m args below meth c H locs cells slots Q (F0 m pc ls (zI i :: rest)) := by
  subst hi
  refine va_newa (atype := .char) (ty := .char) (N' := N) (a0 := (N, .inl (aI (fun _ => 0)))) X.1 X.2.1 (X.2.2.2.2 _ q_acC4) rfl K h.1 h.2.1 h.2.2.1 h.2.2.2 (fun cA => vp_cell0 N cA) (fun q9 => ?_) (by rw [zr_cl (by omega) (by omega), Int.toNat_natCast]) (by show N * 2 ≤ _; omega) hb.1 hb.2 hdg (fun q cA H1 hK1 hP hD hS => ?_)
  · have := (zr_lt (x := (N : Int)) (y := 0) ⟨by omega, by omega⟩ zr_0).mp q9
    omega
  · have h4 := (hK1.2 (tys_ G.2.1).length (cA, .char) (by rw [List.getElem?_append_right (Nat.le_refl _), Nat.sub_self]; rfl)).2
    have h4' := (K.2 1 (G.2.1 1, .char) rfl).2
    have e1 : cA = G.2.1 1 := Option.some.inj (h4.symm.trans h4')
    subst e1
    exact kk q H1 (HW.back ⟨hP, hD, hS, h.2.2.2⟩)
theorem r_putF (X : CallFix p m c cc nL s args lw_all own) (K : KK G s) (h : HW G A s.heap (wq x t L f) H locs) {C : String} {T : u_T} {N ci idx q : Nat} {fs : List Value} {v : Value} (hin : ∀ x ∈ u_ws C T N, x ∈ lw_all) {ty0 : Nat → FieldType} (hty : ∀ k, k < N → parseFieldDescriptor (T k).2.2.1 = some (ty0 k)) (hnm : ∀ a, a < N → ∀ b, b < N → a ≠ b → (T a).2.1 ≠ (T b).2.1) (j : Nat) (he : t[j]? = some (q, .inr (ci, fs))) (hc : cls_[ci]? = some (C, T, N)) (k : Nat) (hk : k < N) (hl : Cond.fieldLink own idx (T k).1 (T k).2.1 (T k).2.2.1 ∈ lw_all) (hfin : (T k).2.2.2 = true) (hname : meth.name = "<init>") (hdecl : (T k).1 = own) (hn : narrow (ty0 k) v = v) (hfit : fits (ty0 k) v = true) (hlen : k < fs.length) (hdg : decode cc pc = .ok (.putfield idx, 3))
    (kk : ∀ (H1 : Heap) (locs1 : List Loc), HW G A s.heap (wq x (t.set j (q, .inr (ci, fs.set k v))) L f) H1 locs1 → W p l e R s m args below meth c H1 locs1 cells slots Q (F0 m (pc + 3) ls rest)) : W p l e R s m args below meth c H locs cells slots Q (F0 m pc ls (v :: .ref q :: rest)) :=
  va_putF X.1 X.2.1 X.2.2.2.2 hin ty0 hty hnm X.2.2.2.1 K h.1 h.2.1 h.2.2.1 (x.length + j) (wq_at he) hc k hk (X.2.2.2.2 _ hl) (fun _ h9 => h9) hfin hname hdecl (hty k hk) hn hfit hlen hdg (fun H1 locs1 a1 a2 a3 => by rw [wq_set (List.getElem?_eq_some_iff.mp he).1] at a1 a2; exact kk H1 locs1 ⟨a1, a2, a3, h.2.2.2⟩)
theorem r_putQ (X : CallFix p m c cc nL s args lw_all own) (K : KK G s) (h : HW G A s.heap (wq x t L f) H locs) {C : String} {T : u_T} {N ci idx q : Nat} {fs : List Value} {v : Value} (hin : ∀ x ∈ u_ws C T N, x ∈ lw_all) {ty0 : Nat → FieldType} (hty : ∀ k, k < N → parseFieldDescriptor (T k).2.2.1 = some (ty0 k)) (hnm : ∀ a, a < N → ∀ b, b < N → a ≠ b → (T a).2.1 ≠ (T b).2.1) (j : Nat) (he : t[j]? = some (q, .inr (ci, fs))) (hc : cls_[ci]? = some (C, T, N)) (k : Nat) (hk : k < N) (hl : Cond.fieldLink own idx (T k).1 (T k).2.1 (T k).2.2.1 ∈ lw_all) (hfin : (T k).2.2.2 = false) (hn : narrow (ty0 k) v = v) (hfit : fits (ty0 k) v = true) (hlen : k < fs.length) (hdg : decode cc pc = .ok (.putfield idx, 3))
    (kk : ∀ (H1 : Heap) (locs1 : List Loc), HW G A s.heap (wq x (t.set j (q, .inr (ci, fs.set k v))) L f) H1 locs1 → W p l e R s m args below meth c H1 locs1 cells slots Q (F0 m (pc + 3) ls rest)) : W p l e R s m args below meth c H locs cells slots Q (F0 m pc ls (v :: .ref q :: rest)) :=
  r_put X K h hin hty hnm (x.length + j) (wq_at he) hc k hk hl hfin hn hfit hlen hdg (fun H1 locs1 a1 => by rw [wq_set (List.getElem?_eq_some_iff.mp he).1] at a1; exact kk H1 locs1 a1)
theorem r_getQ (X : CallFix p m c cc nL s args lw_all own) (K : KK G s) (h : HW G A s.heap (wq x t L f) H locs) {C : String} {T : u_T} {N ci idx q : Nat} {fs : List Value} {v : Value} (hin : ∀ x ∈ u_ws C T N, x ∈ lw_all) (j : Nat) (he : t[j]? = some (q, .inr (ci, fs))) (hc : cls_[ci]? = some (C, T, N)) (k : Nat) (hk : k < N) (hl : Cond.fieldLink own idx (T k).1 (T k).2.1 (T k).2.2.1 ∈ lw_all) (hv : fs[k]? = some v) (hdg : decode cc pc = .ok (.getfield idx, 3)) (kk : W p l e R s m args below meth c H locs cells slots Q (F0 m (pc + 3) ls (v :: rest))) : W p l e R s m args below meth c H locs cells slots Q (F0 m pc ls (.ref q :: rest)) :=
  r_get X K h hin (x.length + j) (wq_at he) hc k hk hl hv hdg kk
/-- a nest mate's constructor -/
theorem r_callINv (X : CallFix p m c cc nL s args lw_all own) (K : KK G s) (g : Gd G A s s.heap) {w : va_W} (h : HW G A s.heap w H locs) {y : MethodName} {bytes : ByteArray} {maxL n idx b : Nat} {host : String} {rm' : Room} {As : List Value} {mc' ms' : Nat} {Post : va_W → Prop}
    (hC : CtV l G y (ws_ y bytes maxL none) rm' (.ref b :: As) w mc' ms' Post) (hnest : (own, idx, y, host) ∈ gNest) (hcode : Cond.code y bytes maxL none ∈ lw_all) (hini : Cond.initialized y.cls ∈ lw_all) (hinst : Cond.instanceMethod y ∈ lw_all) (hy : y.name = "<init>") (hd : y.cls ≠ "java/lang/invoke/MethodHandle" ∧ y.cls ≠ "java/lang/invoke/VarHandle" ∧ (parseMethodDescriptor y.desc).map (fun d => d.parameters.length) = some n) (hrm : rm'.cells = mc' ∧ rm'.slots = ms') (hR : rm'.frames + 1 ≤ R.frames ∧ 8 + (maxL + 11) + rm'.locals ≤ R.locals) (hn : As.length = n) (hls : ls.size = nL) {st : List Value} (hst : st = As.reverse ++ .ref b :: rest) (hW : (rest.map fun v => v.category).sum ≤ 8) (hdg : decode cc pc = .ok (.invokespecial idx, 3)) (hb : cells + mc' ≤ R.cells ∧ slots + ms' ≤ R.slots)
    (kk : ∀ (w' : va_W) (H1 : Heap) (locs1 : List Loc), Post w' → HW G A s.heap w' H1 locs1 → W p l e R s m args below meth c H1 locs1 (cells + mc') (slots + ms') Q (F0 m (pc + 3) ls rest)) : W p l e R s m args below meth c H locs cells slots Q (F0 m pc ls st) := by
  subst hst
  refine va_callv (va_runIN (As := As) (rest := rest) X (hC H.size) ⟨va_cnB n X.2.2.2.2 (lw_ws hcode) rfl hrm.1 hrm.2 (g.1.2.2 _ hnest) (X.2.2.2.2 _ hini) hd hR, hy, X.2.2.2.2 _ hinst⟩ ⟨PreW.blind, fun U hU hW => ⟨rfl, h.pre K g hU hW⟩⟩ rfl hn hls rfl (lv_room hW) hdg hb) h.2.2.1 (fun q _ hq => h.incl q hq) h.incl (fun u t H1 locs1 ht hvm hw hB hz1 hk1 hS => ?_)
  exact kk u H1 locs1 hw ⟨by rw [← ht]; exact hB.1, hB.2.2.weaken (fun _ _ _ hq => h.incl _ hq), hS, h.2.2.2⟩
end
