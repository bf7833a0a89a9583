/-! the law's world: an object of the class, a reference, and the cell for a long -/
def LWd (G : Gr) (a a' : Nat → Nat) (o : Nat) (u v : St) (f : Nat → Int64) : va_W := WC G a u ++ (WM G a' v ++ [(o, longE G f)])
theorem LWd.permM {G : Gr} {a a' : Nat → Nat} {o : Nat} {u v : St} {f : Nat → Int64} : (LWd G a a' o u v f).Perm (WM G a' v ++ (WC G a u ++ [(o, longE G f)])) := List.perm_append_comm_assoc _ _ _
theorem LWd.permW {G : Gr} {a a' : Nat → Nat} {o : Nat} {u v : St} {f : Nat → Int64} : (LWd G a a' o u v f).Perm ((WC G a u ++ [(o, longE G f)]) ++ WM G a' v) := by
  unfold LWd
  rw [List.append_assoc]
  exact List.Perm.append_left _ List.perm_append_comm
def LkW (own : String) (idx : Nat) (y : MethodName) (cc : ByteArray) (maxL : Nat) (ret : Option FieldType) (hh : List (Nat × Nat × Nat × Nat)) (n : Nat) : Prop := GoodIn lw_all (va_wsS own idx y (wsW_ y cc maxL ret hh)) ∧ (y.cls ≠ "java/lang/invoke/MethodHandle" ∧ y.cls ≠ "java/lang/invoke/VarHandle" ∧ (parseMethodDescriptor y.desc).map (fun d => d.parameters.length) = some n)
theorem LkW.of {own : String} {idx : Nat} {y : MethodName} {cc : ByteArray} {maxL : Nat} {ret : Option FieldType} {hh : List (Nat × Nat × Nat × Nat)} {n : Nat} (h1 : Cond.methodLink own idx y ∈ lw_all) (h2 : Cond.static y ∈ lw_all) (h4 : Cond.initialized y.cls ∈ lw_all) (h5 : Cond.codeWith y cc maxL ret hh ∈ lw_all) (h6 : y.cls ≠ "java/lang/invoke/MethodHandle" ∧ y.cls ≠ "java/lang/invoke/VarHandle" ∧ (parseMethodDescriptor y.desc).map (fun d => d.parameters.length) = some n) : LkW own idx y cc maxL ret hh n := by
  refine ⟨goodIn_app (fun w hw => ?_) (fun w hw => ?_), h6⟩
  · have hm : w ∈ lw_all := by
      simp only [List.mem_cons, List.not_mem_nil, or_false] at hw
      rcases hw with rfl | rfl | rfl <;> assumption
    exact ⟨hm, lw_good _ hm⟩
  · rcases List.mem_cons.mp hw with rfl | hw
    · exact ⟨h5, lw_good _ h5⟩
    · exact ⟨hw, lw_good _ hw⟩
section
variable {p : Program} {l : Launch} {e : Env} {R : Room} {s : State} {m : MethodId} {args : Array Value} {below : List Frame} {meth : Method} {c : Code} {H : Heap} {locs : List Loc} {cells slots : Nat} {Q : State → Prop}
variable {cc : ByteArray} {own : String} {nL pc : Nat} {ls : Array Slot} {rest : List Value} {G : Gr} {A : Nat → Prop} {a a' : Nat → Nat} {o : Nat} {u v : St} {f : Nat → Int64}
variable {y : MethodName} {bytes : ByteArray} {maxL n idx : Nat} {ret : Option FieldType} {rm' : Room} {As : List Value} {mc' ms' : Nat}
theorem r_lawC (X : CallFix p m c cc nL s args lw_all own) (K : KK G s) (g : Gd G A s s.heap) (h : HW G A s.heap (LWd G a a' o u v f) H locs) {post : Int → St → Prop}
    (hC : Ct l G y (ws_ y bytes maxL ret) rm' (.ref (a 0) :: As) (WC G a u) mc' ms' (Po (WC G a) post)) (lk : LkV own idx RX9 y bytes maxL ret n) (hrm : rm'.cells = mc' ∧ rm'.slots = ms') (hR : rm'.frames + 1 ≤ R.frames ∧ 8 + (maxL + 11) + rm'.locals ≤ R.locals) (hn : As.length = n) (hls : ls.size = nL) {st : List Value} (hst : st = As.reverse ++ .ref (a 0) :: rest) (hW : (rest.map fun v => v.category).sum ≤ 8) (hdg : decode cc pc = .ok (.invokevirtual idx, 3)) (hb : cells + mc' ≤ R.cells ∧ slots + ms' ≤ R.slots)
    (kk : ∀ (z : Int) (u' : St) (H1 : Heap) (locs1 : List Loc), post z u' → HW G A s.heap (LWd G a a' o u' v f) H1 locs1 → W p l e R s m args below meth c H1 locs1 (cells + mc') (slots + ms') Q (F0 m (pc + 3) ls (zI z :: rest))) : W p l e R s m args below meth c H locs cells slots Q (F0 m pc ls st) :=
  r_callVi (fs := [.ref (a 1), .ref (a 8), .ref (a 9), zI (sI u 0), zI (sI u 1), zI (sI u 2), .ref (a 23), zI (sI u 3)]) X K g h (Ct.beside (r := WM G a' v ++ [(o, longE G f)]) (List.Perm.refl _) hC) lk 0 rfl rfl hrm hR hn hls hst hW hdg hb (fun z w' H1 locs1 hp h1 => by
    obtain ⟨w1, rfl, u', rfl, hz⟩ := hp
    exact kk z u' H1 locs1 hz h1)
theorem r_lawCp (X : CallFix p m c cc nL s args lw_all own) (K : KK G s) (g : Gd G A s s.heap) (h : HW G A s.heap (LWd G a a' o u v f) H locs) {post : Int → Prop}
    (hC : Ct l G y (ws_ y bytes maxL ret) rm' (.ref (a 0) :: As) (WC G a u) mc' ms' (PoP (WC G a u) post)) (lk : LkV own idx RX9 y bytes maxL ret n) (hrm : rm'.cells = mc' ∧ rm'.slots = ms') (hR : rm'.frames + 1 ≤ R.frames ∧ 8 + (maxL + 11) + rm'.locals ≤ R.locals) (hn : As.length = n) (hls : ls.size = nL) {st : List Value} (hst : st = As.reverse ++ .ref (a 0) :: rest) (hW : (rest.map fun v => v.category).sum ≤ 8) (hdg : decode cc pc = .ok (.invokevirtual idx, 3)) (hb : cells + mc' ≤ R.cells ∧ slots + ms' ≤ R.slots)
    (kk : ∀ (z : Int) (H1 : Heap) (locs1 : List Loc), post z → HW G A s.heap (LWd G a a' o u v f) H1 locs1 → W p l e R s m args below meth c H1 locs1 (cells + mc') (slots + ms') Q (F0 m (pc + 3) ls (zI z :: rest))) : W p l e R s m args below meth c H locs cells slots Q (F0 m pc ls st) :=
  r_callVi (fs := [.ref (a 1), .ref (a 8), .ref (a 9), zI (sI u 0), zI (sI u 1), zI (sI u 2), .ref (a 23), zI (sI u 3)]) X K g h (Ct.beside (r := WM G a' v ++ [(o, longE G f)]) (List.Perm.refl _) hC) lk 0 rfl rfl hrm hR hn hls hst hW hdg hb (fun z w' H1 locs1 hp h1 => by
    obtain ⟨w1, rfl, rfl, hz⟩ := hp
    exact kk z H1 locs1 hz h1)
theorem LWd.atM : ∃ fs, (LWd G a a' o u v f)[(WC G a u).length]? = some (a' 0, .inr (10, fs)) := ⟨_, by
  unfold LWd
  rw [List.getElem?_append_right (Nat.le_refl _), Nat.sub_self]
  rfl⟩
theorem r_lawM (X : CallFix p m c cc nL s args lw_all own) (K : KK G s) (g : Gd G A s s.heap) (h : HW G A s.heap (LWd G a a' o u v f) H locs) {post : Int → St → Prop}
    (hC : Ct l G y (ws_ y bytes maxL ret) rm' (.ref (a' 0) :: As) (WM G a' v) mc' ms' (Po (WM G a') post)) (lk : LkV own idx RX10 y bytes maxL ret n) (hrm : rm'.cells = mc' ∧ rm'.slots = ms') (hR : rm'.frames + 1 ≤ R.frames ∧ 8 + (maxL + 11) + rm'.locals ≤ R.locals) (hn : As.length = n) (hls : ls.size = nL) {st : List Value} (hst : st = As.reverse ++ .ref (a' 0) :: rest) (hW : (rest.map fun v => v.category).sum ≤ 8) (hdg : decode cc pc = .ok (.invokevirtual idx, 3)) (hb : cells + mc' ≤ R.cells ∧ slots + ms' ≤ R.slots)
    (kk : ∀ (z : Int) (v' : St) (H1 : Heap) (locs1 : List Loc), post z v' → HW G A s.heap (LWd G a a' o u v' f) H1 locs1 → W p l e R s m args below meth c H1 locs1 (cells + mc') (slots + ms') Q (F0 m (pc + 3) ls (zI z :: rest))) : W p l e R s m args below meth c H locs cells slots Q (F0 m pc ls st) := by
  obtain ⟨fs, he⟩ := LWd.atM (G := G) (a := a) (a' := a') (o := o) (u := u) (v := v) (f := f)
  exact r_callVi X K g h (Ct.beside (r := WC G a u ++ [(o, longE G f)]) LWd.permM hC) lk _ he rfl hrm hR hn hls hst hW hdg hb (fun z w' H1 locs1 hp h1 => by
    obtain ⟨w1, rfl, v', rfl, hz⟩ := hp
    exact kk z v' H1 locs1 hz (h1.perm LWd.permM.symm))
theorem r_lawMp (X : CallFix p m c cc nL s args lw_all own) (K : KK G s) (g : Gd G A s s.heap) (h : HW G A s.heap (LWd G a a' o u v f) H locs) {post : Int → Prop}
    (hC : Ct l G y (ws_ y bytes maxL ret) rm' (.ref (a' 0) :: As) (WM G a' v) mc' ms' (PoP (WM G a' v) post)) (lk : LkV own idx RX10 y bytes maxL ret n) (hrm : rm'.cells = mc' ∧ rm'.slots = ms') (hR : rm'.frames + 1 ≤ R.frames ∧ 8 + (maxL + 11) + rm'.locals ≤ R.locals) (hn : As.length = n) (hls : ls.size = nL) {st : List Value} (hst : st = As.reverse ++ .ref (a' 0) :: rest) (hW : (rest.map fun v => v.category).sum ≤ 8) (hdg : decode cc pc = .ok (.invokevirtual idx, 3)) (hb : cells + mc' ≤ R.cells ∧ slots + ms' ≤ R.slots)
    (kk : ∀ (z : Int) (H1 : Heap) (locs1 : List Loc), post z → HW G A s.heap (LWd G a a' o u v f) H1 locs1 → W p l e R s m args below meth c H1 locs1 (cells + mc') (slots + ms') Q (F0 m (pc + 3) ls (zI z :: rest))) : W p l e R s m args below meth c H locs cells slots Q (F0 m pc ls st) := by
  obtain ⟨fs, he⟩ := LWd.atM (G := G) (a := a) (a' := a') (o := o) (u := u) (v := v) (f := f)
  exact r_callVi X K g h (Ct.beside (r := WC G a u ++ [(o, longE G f)]) LWd.permM hC) lk _ he rfl hrm hR hn hls hst hW hdg hb (fun z w' H1 locs1 hp h1 => by
    obtain ⟨w1, rfl, rfl, hz⟩ := hp
    exact kk z H1 locs1 hz (h1.perm LWd.permM.symm))
/-- a wrapper: 0 and its answer in the cell, or 1 -/
theorem r_lawW (X : CallFix p m c cc nL s args lw_all own) (K : KK G s) (g : Gd G A s s.heap) (h : HW G A s.heap (LWd G a a' o u v f) H locs) {hh : List (Nat × Nat × Nat × Nat)} {Post : Int → va_W → Prop} {PX : va_W → Prop}
    (hC : Ct l G y (wsW_ y bytes maxL ret hh) rm' As (WC G a u ++ [(o, longE G f)]) mc' ms' (PoW G o f Post PX)) (lk : LkW own idx y bytes maxL ret hh n) (hrm : rm'.cells = mc' ∧ rm'.slots = ms') (hR : rm'.frames + 1 ≤ R.frames ∧ 8 + (maxL + 11) + rm'.locals ≤ R.locals) (hn : As.length = n) (hls : ls.size = nL) {st : List Value} (hst : st = As.reverse ++ rest) (hW : (rest.map fun v => v.category).sum ≤ 8) (hdg : decode cc pc = .ok (.invokestatic idx, 3)) (hb : cells + mc' ≤ R.cells ∧ slots + ms' ≤ R.slots)
    (k0 : ∀ (z : Int) (w1 : va_W) (H1 : Heap) (locs1 : List Loc), Post z w1 → HW G A s.heap (w1 ++ (WM G a' v ++ [(o, longE G (vp_updL f 0 (Int32.ofInt z).toInt64))])) H1 locs1 → W p l e R s m args below meth c H1 locs1 (cells + mc') (slots + ms') Q (F0 m (pc + 3) ls (zI 0 :: rest)))
    (k1 : ∀ (w1 : va_W) (H1 : Heap) (locs1 : List Loc), PX w1 → HW G A s.heap (w1 ++ (WM G a' v ++ [(o, longE G f)])) H1 locs1 → W p l e R s m args below meth c H1 locs1 (cells + mc') (slots + ms') Q (F0 m (pc + 3) ls (zI 1 :: rest))) : W p l e R s m args below meth c H locs cells slots Q (F0 m pc ls st) := by
  subst hst
  refine va_calli (vx_runSW (As := As) (rest := rest) X ((Ct.beside (r := WM G a' v) LWd.permW hC) H.size) (vx_cwSW n X.2.2.2.2 lk.1 rfl hrm.1 hrm.2 lk.2 hR) ⟨PreW.blind, fun U hU hW => ⟨rfl, h.pre K g hU hW⟩⟩ rfl hn hls rfl (lv_room hW) hdg hb) h.2.2.1 (fun q _ hq => h.incl q hq) h.incl (fun r9 u9 t H1 locs1 ht hvm hw hB hz1 hk1 hS => ?_)
  obtain ⟨z9, rfl, w9, rfl, hp⟩ := hw
  have h9 : HW G A s.heap (w9 ++ WM G a' v) H1 locs1 := ⟨by rw [← ht]; exact hB.1, hB.2.2.weaken (fun _ _ _ hq => h.incl _ hq), hS, h.2.2.2⟩
  rcases hp with ⟨rfl, z, w1, rfl, hp⟩ | ⟨rfl, w1, rfl, hp⟩
  · exact k0 z w1 H1 locs1 hp (h9.perm (by rw [List.append_assoc]; exact List.Perm.append_left _ List.perm_append_comm))
  · exact k1 w1 H1 locs1 hp (h9.perm (by rw [List.append_assoc]; exact List.Perm.append_left _ List.perm_append_comm))
/-- an int of the script -/
theorem r_scr (X : CallFix p m c cc nL s args lw_all own) {w : va_W} (h : HW G A s.heap w H locs) {b L : Nat} {xs : Nat → Int32} (hX : va_X b L xs s s.heap) (hbl : b < s.heap.size) (hbA : ¬ A b) {i : Int} {j : Nat} (hi : i = j) (hj : j < L) (hL : L ≤ 3072) (hdg : decode cc pc = .ok (.iaload, 1)) (kk : W p l e R s m args below meth c H locs cells slots Q (F0 m (pc + 1) ls (zI (xs j).toInt :: rest))) : W p l e R s m args below meth c H locs cells slots Q (F0 m pc ls (zI i :: .ref b :: rest)) := by
  subst hi
  have e1 : (Int32.ofInt (j : Int)).toNatClampNeg = j := by rw [zr_cl (by omega) (by omega), Int.toNat_natCast]
  refine va_sld X.1 X.2.1 hX hbl hbA h.2.2.1 (fun q9 => ?_) hdg ?_
  · rcases q9 with q9 | q9
    · have := (zr_lt (x := (j : Int)) (y := 0) ⟨by omega, by omega⟩ zr_0).mp q9
      omega
    · rw [e1] at q9
      omega
  · rw [e1]
    have e2 : zI (xs j).toInt = .int (xs j) := congrArg Value.int (Int32.ofInt_toInt _)
    rw [← e2]
    exact kk
/-- the long in the cell -/
theorem r_lald (X : CallFix p m c cc nL s args lw_all own) (K : KK G s) (h : HW G A s.heap (LWd G a a' o u v f) H locs) (hdg : decode cc pc = .ok (.laload, 1)) (kk : W p l e R s m args below meth c H locs cells slots Q (F0 m (pc + 1) ls (.long (f 0) :: rest))) : W p l e R s m args below meth c H locs cells slots Q (F0 m pc ls (zI 0 :: .ref o :: rest)) := by
  have h9 : HW G A s.heap ((WC G a u ++ WM G a' v) ++ [(o, longE G f)]) H locs := by
    unfold LWd at h
    rw [← List.append_assoc] at h
    exact h
  exact va_lald X.1 X.2.1 K h9.1 (WC G a u ++ WM G a' v).length 4 (n := 1) (f := f) (by rw [List.getElem?_append_right (Nat.le_refl _), Nat.sub_self]; rfl) rfl (fun q => by rcases q with q | q; exact absurd q (by decide); exact absurd q (by decide)) hdg kk
end
