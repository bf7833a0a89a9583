/-! the list's array: rows -/
theorem q_acN : Cond.native arraycopyName ∈ lw_all := lwa 444 (by decide +kernel) (by decide +kernel)
theorem q_acS : Cond.static arraycopyName ∈ lw_all := lwa 443 (by decide +kernel) (by decide +kernel)
theorem q_acI : Cond.initialized "java/lang/System" ∈ lw_all := lwa 86 (by decide +kernel) (by decide +kernel)
theorem q_acL : Cond.methodLink RJx4a65c 112 arraycopyName ∈ lw_all := lwa 442 (by decide +kernel) (by decide +kernel)
def allBox (G : Gr) (u : St) (f : Nat → Option Nat) (lo n : Int) : Prop := ∀ j : Nat, lo ≤ j → j < lo + n → ∀ y : Nat, f j = some y → ∃ v, isBox G u y v
section
variable {p : Program} {l : Launch} {e : Env} {R : Room} {s : State} {m : MethodId} {args : Array Value} {below : List Frame} {meth : Method} {c : Code} {H : Heap} {locs : List Loc} {cells slots : Nat} {Q : State → Prop}
variable {cc : ByteArray} {own : String} {nL pc : Nat} {ls : Array Slot} {rest : List Value} {G : Gr} {A : Nat → Prop} {a : Nat → Nat} {u : St} {r : Option Nat} {q n : Nat} {f : Nat → Option Nat}
theorem pool_at (hL : q ∈ sL u) {x : va_E} (hF : sF u q = x) : ∃ k : Nat, (WC G a u)[k]? = some (q, x) := by
  obtain ⟨k, hk⟩ := va_pl_get (X := stC G a u) (f := sF u) hL
  rw [hF] at hk
  exact ⟨k, hk⟩
theorem pool_set {H0 : Heap} (h : HW G A H0 (WC G a u) H locs) (hL : q ∈ sL u) {x y : va_E} (hF : sF u q = x) {k : Nat} (hk : (WC G a u)[k]? = some (q, x)) : (WC G a u).set k (q, y) = WC G a (pF u q y) := by
  rw [← hF] at hk
  exact va_pl_set h.2.1 hL hk
theorem r_aalen (X : CallFix p m c cc nL s args lw_all own) (K : KK G s) (h : HW G A s.heap (WC G a u) H locs) (hr : r = some q) (hL : q ∈ sL u) (hF : sF u q = arrE G n f) (hdg : decode cc pc = .ok (.arraylength, 1)) (kk : W p l e R s m args below meth c H locs cells slots Q (F0 m (pc + 1) ls (zI n :: rest))) : W p l e R s m args below meth c H locs cells slots Q (F0 m pc ls (va_rf r :: rest)) := by
  subst hr
  obtain ⟨k, hk⟩ := pool_at (G := G) (a := a) hL hF
  exact r_alen (n := n) X K h k hk rfl rfl hdg kk
theorem r_aalen0 (X : CallFix p m c cc nL s args lw_all own) (g : Gd G A s s.heap) (h : HW G A s.heap (WC G a u) H locs) (hr : r = some G.2.2.2.2) (hdg : decode cc pc = .ok (.arraylength, 1)) (kk : W p l e R s m args below meth c H locs cells slots Q (F0 m (pc + 1) ls (zI 0 :: rest))) : W p l e R s m args below meth c H locs cells slots Q (F0 m pc ls (va_rf r :: rest)) := by
  subst hr
  exact va_tlen X.1 X.2.1 g.2.2.2.2.1 h.2.2.1 rfl hdg kk
theorem r_aaldq (X : CallFix p m c cc nL s args lw_all own) (K : KK G s) (h : HW G A s.heap (WC G a u) H locs) {i : Int} (hr : r = some q) (hL : q ∈ sL u) (hF : sF u q = arrE G n f) (h0 : 0 ≤ i) (h1 : i < n) (hn : (n : Int) < 2147483648) (hdg : decode cc pc = .ok (.aaload, 1)) (kk : W p l e R s m args below meth c H locs cells slots Q (F0 m (pc + 1) ls (va_rf (f i.toNat) :: rest))) : W p l e R s m args below meth c H locs cells slots Q (F0 m pc ls (zI i :: va_rf r :: rest)) := by
  subst hr
  obtain ⟨k, hk⟩ := pool_at (G := G) (a := a) hL hF
  exact va_aldq X.1 X.2.1 K h.1 k 2 hk rfl (zr_vp h0 h1 (by omega)) hdg (by rw [zr_cl h0 (by omega)]; exact kk)
theorem r_aastN (X : CallFix p m c cc nL s args lw_all own) (K : KK G s) (h : HW G A s.heap (WC G a u) H locs) {i : Int} (hr : r = some q) (hL : q ∈ sL u) (hF : sF u q = arrE G n f) (h0 : 0 ≤ i) (h1 : i < n) (hn : (n : Int) < 2147483648) (hdg : decode cc pc = .ok (.aastore, 1)) (kk : ∀ (H1 : Heap) (locs1 : List Loc), HW G A s.heap (WC G a (pF u q (arrE G n (va_up f i.toNat none)))) H1 locs1 → W p l e R s m args below meth c H1 locs1 cells slots Q (F0 m (pc + 1) ls rest)) : W p l e R s m args below meth c H locs cells slots Q (F0 m pc ls (va_rf none :: zI i :: va_rf r :: rest)) := by
  subst hr
  obtain ⟨k, hk⟩ := pool_at (G := G) (a := a) hL hF
  refine va_astqN X.1 X.2.1 K h.1 h.2.1 h.2.2.1 k 2 hk rfl (zr_vp h0 h1 (by omega)) hdg (fun H1 locs1 a1 a2 a3 => kk H1 locs1 ?_)
  rw [zr_cl h0 (by omega)] at a1 a2
  rw [← pool_set h hL hF hk]
  exact ⟨a1, a2, a3, h.2.2.2⟩
theorem r_aastq (X : CallFix p m c cc nL s args lw_all own) (K : KK G s) (g : Gd G A s s.heap) (h : HW G A s.heap (WC G a u) H locs) {i v : Int} {x : Option Nat} {y : Nat} (hr : r = some q) (hL : q ∈ sL u) (hF : sF u q = arrE G n f) (h0 : 0 ≤ i) (h1 : i < n) (hn : (n : Int) < 2147483648) (hx : x = some y) (hb : isBox G u y v) (hdg : decode cc pc = .ok (.aastore, 1)) (kk : ∀ (H1 : Heap) (locs1 : List Loc), HW G A s.heap (WC G a (pF u q (arrE G n (va_up f i.toNat x)))) H1 locs1 → W p l e R s m args below meth c H1 locs1 cells slots Q (F0 m (pc + 1) ls rest)) : W p l e R s m args below meth c H locs cells slots Q (F0 m pc ls (va_rf x :: zI i :: va_rf r :: rest)) := by
  subst hr hx
  obtain ⟨k, hk⟩ := pool_at (G := G) (a := a) hL hF
  refine vb_astq X.1 X.2.1 K h.1 h.2.1 h.2.2.1 k 2 hk rfl (hb.recv K g h) (vb_asgC (g.1.1 ("java/lang/Integer", "java/lang/Object") (by decide))) (zr_vp h0 h1 (by omega)) hdg (fun H1 locs1 a1 a2 a3 => kk H1 locs1 ?_)
  rw [zr_cl h0 (by omega)] at a1 a2
  rw [← pool_set h hL hF hk]
  exact ⟨a1, a2, a3, h.2.2.2⟩
/-- System.arraycopy within the one array -/
theorem r_acopy (X : CallFix p m c cc nL s args lw_all RJx4a65c) (K : KK G s) (g : Gd G A s s.heap) (h : HW G A s.heap (WC G a u) H locs) {sp dp k : Int} (hr : r = some q) (hL : q ∈ sL u) (hF : sF u q = arrE G n f) (h0 : 0 ≤ sp) (h1 : 0 ≤ dp) (h2 : 0 ≤ k) (h3 : sp + k ≤ n) (h4 : dp + k ≤ n) (hn : (n : Int) < 2147483648) (hb : allBox G u f sp k) (hls : ls.size = nL) (hR : 1 ≤ R.frames ∧ (rest.map fun v => v.category).sum + (nativeFrameWords "java/lang/System" "arraycopy" 5 + 11) ≤ R.locals) (hdg : decode cc pc = .ok (.invokestatic 112, 3)) (kk : ∀ (H1 : Heap) (locs1 : List Loc), HW G A s.heap (WC G a (pF u q (arrE G n (va_cpy f f sp.toNat dp.toNat k.toNat)))) H1 locs1 → W p l e R s m args below meth c H1 locs1 cells slots Q (F0 m (pc + 3) ls rest)) : W p l e R s m args below meth c H locs cells slots Q (F0 m pc ls (zI k :: zI dp :: va_rf r :: zI sp :: va_rf r :: rest)) := by
  subst hr
  obtain ⟨kp, hk⟩ := pool_at (G := G) (a := a) hL hF
  have e1 := zr_cl h0 (show sp < 2147483648 by omega)
  have e2 := zr_cl h1 (show dp < 2147483648 by omega)
  have e3 := zr_cl h2 (show k < 2147483648 by omega)
  have neg : ∀ z : Int, 0 ≤ z → z < 2147483648 → ¬ Int32.ofInt z < 0 := fun z z0 z1 q9 => by
    have := (zr_lt (x := z) (y := 0) ⟨by omega, by omega⟩ zr_0).mp q9
    omega
  refine va_copyq X.1 X.2.1 (by rw [X.2.2.1, hls]) X.2.2.2.1 (X.2.2.2.2 _ q_acL) (X.2.2.2.2 _ q_acN) (X.2.2.2.2 _ q_acS) (X.2.2.2.2 _ q_acI) K h.1 h.2.1 h.2.2.1 kp kp 2 2 hk hk rfl rfl (neg _ h0 (by omega)) (neg _ h1 (by omega)) (neg _ h2 (by omega)) (by rw [e1, e3]; omega) (by rw [e2, e3]; omega) (C := "java/lang/Integer") (fun i hi y hy => ?_) (vb_asgC (g.1.1 ("java/lang/Integer", "java/lang/Object") (by decide))) hR.1 hR.2 hdg (fun H1 locs1 a1 a2 a3 => kk H1 locs1 ?_)
  · rw [e1] at hy
    rw [e3] at hi
    obtain ⟨v, hv⟩ := hb (sp.toNat + i) (by omega) (by omega) y hy
    exact hv.recv K g h
  · rw [e1, e2, e3] at a1 a2
    rw [← pool_set h hL hF hk]
    exact ⟨a1, a2, a3, h.2.2.2⟩
/-- System.arraycopy from one array to another -/
theorem r_acopy2 (X : CallFix p m c cc nL s args lw_all own) {idx q2 n2 : Nat} {f2 : Nat → Option Nat} (hcl : Cond.methodLink own idx arraycopyName ∈ lw_all) (K : KK G s) (g : Gd G A s s.heap) (h : HW G A s.heap (WC G a u) H locs) {sp dp k : Int} (hr : r = some q) (hL : q ∈ sL u) (hF : sF u q = arrE G n f) (hL2 : q2 ∈ sL u) (hF2 : sF u q2 = arrE G n2 f2) (h0 : 0 ≤ sp) (h1 : 0 ≤ dp) (h2 : 0 ≤ k) (h3 : sp + k ≤ n) (h4 : dp + k ≤ n2) (hn2 : (n2 : Int) < 2147483648) (hn : (n : Int) < 2147483648) (hb : allBox G u f sp k) (hls : ls.size = nL) (hR : 1 ≤ R.frames ∧ (rest.map fun v => v.category).sum + (nativeFrameWords "java/lang/System" "arraycopy" 5 + 11) ≤ R.locals) (hdg : decode cc pc = .ok (.invokestatic idx, 3)) (kk : ∀ (H1 : Heap) (locs1 : List Loc), HW G A s.heap (WC G a (pF u q2 (arrE G n2 (va_cpy f f2 sp.toNat dp.toNat k.toNat)))) H1 locs1 → W p l e R s m args below meth c H1 locs1 cells slots Q (F0 m (pc + 3) ls rest)) : W p l e R s m args below meth c H locs cells slots Q (F0 m pc ls (zI k :: zI dp :: .ref q2 :: zI sp :: va_rf r :: rest)) := by
  subst hr
  obtain ⟨kp, hk⟩ := pool_at (G := G) (a := a) hL hF
  obtain ⟨kp2, hk2⟩ := pool_at (G := G) (a := a) hL2 hF2
  have e1 := zr_cl h0 (show sp < 2147483648 by omega)
  have e2 := zr_cl h1 (show dp < 2147483648 by omega)
  have e3 := zr_cl h2 (show k < 2147483648 by omega)
  have neg : ∀ z : Int, 0 ≤ z → z < 2147483648 → ¬ Int32.ofInt z < 0 := fun z z0 z1 q9 => by
    have := (zr_lt (x := z) (y := 0) ⟨by omega, by omega⟩ zr_0).mp q9
    omega
  refine va_copyq X.1 X.2.1 (by rw [X.2.2.1, hls]) X.2.2.2.1 (X.2.2.2.2 _ hcl) (X.2.2.2.2 _ q_acN) (X.2.2.2.2 _ q_acS) (X.2.2.2.2 _ q_acI) K h.1 h.2.1 h.2.2.1 kp kp2 2 2 hk hk2 rfl rfl (neg _ h0 (by omega)) (neg _ h1 (by omega)) (neg _ h2 (by omega)) (by rw [e1, e3]; omega) (by rw [e2, e3]; omega) (C := "java/lang/Integer") (fun i hi y hy => ?_) (vb_asgC (g.1.1 ("java/lang/Integer", "java/lang/Object") (by decide))) hR.1 hR.2 hdg (fun H1 locs1 a1 a2 a3 => kk H1 locs1 ?_)
  · rw [e1] at hy
    rw [e3] at hi
    obtain ⟨v, hv⟩ := hb (sp.toNat + i) (by omega) (by omega) y hy
    exact hv.recv K g h
  · rw [e1, e2, e3] at a1 a2
    rw [← pool_set h hL2 hF2 hk2]
    exact ⟨a1, a2, a3, h.2.2.2⟩
theorem r_newO (X : CallFix p m c cc nL s args lw_all own) (K : KK G s) (g : Gd G A s s.heap) (h : HW G A s.heap (WC G a u) H locs) {idx N : Nat} {i : Int} (hi : i = N) (hN : N ≤ 100000) (hcl : Cond.classLink own idx "java/lang/Object" ∈ lw_all) (hb : cells + 1 ≤ R.cells ∧ slots + N ≤ R.slots) (hdg : decode cc pc = .ok (.anewarray idx, 3)) (kk : ∀ (q : Nat) (H1 : Heap), q ∉ sL u → HW G A s.heap (WC G a (pN u q (arrE G N (fun _ => none)))) H1 locs → W p l e R s m args below meth c H1 locs (cells + 1) (slots + N) Q (F0 m (pc + 3) ls (.ref q :: rest))) : W p l e R s m args below meth c H locs cells slots Q (F0 m pc ls (zI i :: rest)) := by
  subst hi
  refine va_newq (N' := N) X.1 X.2.1 X.2.2.2.1 (X.2.2.2.2 _ hcl) g.2.2.2.2.2.2.1 K h.1 h.2.1 h.2.2.1 h.2.2.2 (fun q9 => ?_) (by rw [zr_cl (by omega) (by omega), Int.toNat_natCast]) (by omega) hb.1 hb.2 hdg (fun q cA H1 hK1 hP hD hS => ?_)
  · have := (zr_lt (x := (N : Int)) (y := 0) ⟨by omega, by omega⟩ zr_0).mp q9
    omega
  · obtain ⟨-, kA, comp, h1, h2, h3, h4⟩ := hK1.2 (tys_ G.2.1).length (cA, .object "java/lang/Object") (by rw [List.getElem?_append_right (Nat.le_refl _), Nat.sub_self]; rfl)
    obtain ⟨-, kA', comp', h1', h2', h3', h4'⟩ := K.2 2 (G.2.1 2, .object "java/lang/Object") rfl
    have e1 : cA = G.2.1 2 := Option.some.inj (h4.symm.trans h4')
    subst e1
    obtain ⟨hq, hW⟩ := HW.pushC (G := G) (a := a) (u := u) (A := A) (H0 := s.heap) (H := H1) (locs := locs) (q := q) (x := arrE G N (fun _ => none)) ⟨hP, hD, hS, h.2.2.2⟩
    exact kk q H1 hq hW
theorem arr_recv (K : KK G s) (h : HW G A s.heap (WC G a u) H locs) (hL : q ∈ sL u) (hF : sF u q = arrE G n f) : ∃ cell : Cell, H[q]? = some cell ∧ cell.vm.isStatics = false ∧ s.vm.findClass "[Ljava/lang/Object;" = some cell.cls := by
  obtain ⟨k, hk⟩ := pool_at (G := G) (a := a) hL hF
  obtain ⟨-, kA', comp', h1', h2', h3', h4'⟩ := K.2 2 (G.2.1 2, .object "java/lang/Object") rfl
  exact ⟨_, h.1 k _ hk, rfl, h4'⟩
theorem z_dup_x1 (X : CallFix p m c cc nL s args lw_all own) {v v2 : Value} (hv : v.category = 1) (hv2 : v2.category = 1) (hdg : decode cc pc = .ok (.dup_x1, 1)) (kk : W p l e R s m args below meth c H locs cells slots Q (F0 m (pc + 1) ls (v :: v2 :: v :: rest))) : W p l e R s m args below meth c H locs cells slots Q (F0 m pc ls (v :: v2 :: rest)) := lv_dup_x1 X.1 X.2.1 hdg hv hv2 kk
end
