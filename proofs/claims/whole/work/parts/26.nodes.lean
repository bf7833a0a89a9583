/-! nodes of the pool -/
abbrev ndE (x : Int) (b f : Option Nat) : va_E := .inr (5, [zI x, va_rf b, va_rf f])
section
variable {p : Program} {l : Launch} {e : Env} {R : Room} {s : State} {m : MethodId} {args : Array Value} {below : List Frame} {meth : Method} {c : Code} {H : Heap} {locs : List Loc} {cells slots : Nat} {Q : State → Prop}
variable {cc : ByteArray} {own : String} {nL pc : Nat} {ls : Array Slot} {rest : List Value} {G : Gr} {A : Nat → Prop} {a : Nat → Nat} {u : St} {lv lv' : List (Nat × Value)}
theorem gN_word (X : CallFix p m c cc nL s args lw_all own) (K : KK G s) (h : HW G A s.heap (WC G a u) H locs) {r : Option Nat} {q : Nat} {w : Int} {b f : Option Nat} (hr : r = some q) (hL : q ∈ sL u) (hF : sF u q = ndE w b f) {idx : Nat} (hl : Cond.fieldLink own idx "Caretline$Node" "word" "I" ∈ lw_all) (hdg : decode cc pc = .ok (.getfield idx, 3)) (kk : W p l e R s m args below meth c H locs cells slots Q (F0 m (pc + 3) ls (zI w :: rest))) : W p l e R s m args below meth c H locs cells slots Q (F0 m pc ls (va_rf r :: rest)) := by
  subst hr
  obtain ⟨k, hk⟩ := va_pl_get (X := stC G a u) (f := sF u) hL
  rw [hF] at hk
  exact r_get X K h inX5 k hk rfl 0 (by decide) hl rfl hdg kk
theorem pN_word (X : CallFix p m c cc nL s args lw_all own) (K : KK G s) (h : HW G A s.heap (WC G a u) H locs) {r : Option Nat} {q : Nat} {w : Int} {b f : Option Nat} (hr : r = some q) (hL : q ∈ sL u) (hF : sF u q = ndE w b f) {idx : Nat} {x : Int} (hl : Cond.fieldLink own idx "Caretline$Node" "word" "I" ∈ lw_all) (hdg : decode cc pc = .ok (.putfield idx, 3)) (kk : ∀ (H1 : Heap) (locs1 : List Loc), HW G A s.heap (WC G a (pF u q (ndE x b f))) H1 locs1 → W p l e R s m args below meth c H1 locs1 cells slots Q (F0 m (pc + 3) ls rest)) : W p l e R s m args below meth c H locs cells slots Q (F0 m pc ls (zI x :: va_rf r :: rest)) := by
  subst hr
  obtain ⟨k, hk⟩ := va_pl_get (X := stC G a u) (f := sF u) hL
  have hk0 := hk
  rw [hF] at hk
  refine r_put X K h inX5 tyX5_ok nmX5 k hk rfl 0 (by decide) hl rfl rfl rfl (Nat.le_of_ble_eq_true rfl) hdg (fun H1 locs1 h1 => kk H1 locs1 ?_)
  have e1 : (WC G a u).set k (q, ndE x b f) = WC G a (pF u q (ndE x b f)) := va_pl_set h.2.1 hL hk0
  rw [← e1]
  exact h1
theorem gN_before (X : CallFix p m c cc nL s args lw_all own) (K : KK G s) (h : HW G A s.heap (WC G a u) H locs) {r : Option Nat} {q : Nat} {w : Int} {b f : Option Nat} (hr : r = some q) (hL : q ∈ sL u) (hF : sF u q = ndE w b f) {idx : Nat} (hl : Cond.fieldLink own idx "Caretline$Node" "before" "LCaretline$Node;" ∈ lw_all) (hdg : decode cc pc = .ok (.getfield idx, 3)) (kk : W p l e R s m args below meth c H locs cells slots Q (F0 m (pc + 3) ls (va_rf b :: rest))) : W p l e R s m args below meth c H locs cells slots Q (F0 m pc ls (va_rf r :: rest)) := by
  subst hr
  obtain ⟨k, hk⟩ := va_pl_get (X := stC G a u) (f := sF u) hL
  rw [hF] at hk
  exact r_get X K h inX5 k hk rfl 1 (by decide) hl rfl hdg kk
theorem pN_before (X : CallFix p m c cc nL s args lw_all own) (K : KK G s) (h : HW G A s.heap (WC G a u) H locs) {r : Option Nat} {q : Nat} {w : Int} {b f : Option Nat} (hr : r = some q) (hL : q ∈ sL u) (hF : sF u q = ndE w b f) {idx : Nat} {x : Option Nat} (hl : Cond.fieldLink own idx "Caretline$Node" "before" "LCaretline$Node;" ∈ lw_all) (hdg : decode cc pc = .ok (.putfield idx, 3)) (kk : ∀ (H1 : Heap) (locs1 : List Loc), HW G A s.heap (WC G a (pF u q (ndE w x f))) H1 locs1 → W p l e R s m args below meth c H1 locs1 cells slots Q (F0 m (pc + 3) ls rest)) : W p l e R s m args below meth c H locs cells slots Q (F0 m pc ls (va_rf x :: va_rf r :: rest)) := by
  subst hr
  obtain ⟨k, hk⟩ := va_pl_get (X := stC G a u) (f := sF u) hL
  have hk0 := hk
  rw [hF] at hk
  refine r_put X K h inX5 tyX5_ok nmX5 k hk rfl 1 (by decide) hl rfl (by cases x <;> rfl) (by cases x <;> rfl) (Nat.le_of_ble_eq_true rfl) hdg (fun H1 locs1 h1 => kk H1 locs1 ?_)
  have e1 : (WC G a u).set k (q, ndE w x f) = WC G a (pF u q (ndE w x f)) := va_pl_set h.2.1 hL hk0
  rw [← e1]
  exact h1
theorem gN_after (X : CallFix p m c cc nL s args lw_all own) (K : KK G s) (h : HW G A s.heap (WC G a u) H locs) {r : Option Nat} {q : Nat} {w : Int} {b f : Option Nat} (hr : r = some q) (hL : q ∈ sL u) (hF : sF u q = ndE w b f) {idx : Nat} (hl : Cond.fieldLink own idx "Caretline$Node" "after" "LCaretline$Node;" ∈ lw_all) (hdg : decode cc pc = .ok (.getfield idx, 3)) (kk : W p l e R s m args below meth c H locs cells slots Q (F0 m (pc + 3) ls (va_rf f :: rest))) : W p l e R s m args below meth c H locs cells slots Q (F0 m pc ls (va_rf r :: rest)) := by
  subst hr
  obtain ⟨k, hk⟩ := va_pl_get (X := stC G a u) (f := sF u) hL
  rw [hF] at hk
  exact r_get X K h inX5 k hk rfl 2 (by decide) hl rfl hdg kk
theorem pN_after (X : CallFix p m c cc nL s args lw_all own) (K : KK G s) (h : HW G A s.heap (WC G a u) H locs) {r : Option Nat} {q : Nat} {w : Int} {b f : Option Nat} (hr : r = some q) (hL : q ∈ sL u) (hF : sF u q = ndE w b f) {idx : Nat} {x : Option Nat} (hl : Cond.fieldLink own idx "Caretline$Node" "after" "LCaretline$Node;" ∈ lw_all) (hdg : decode cc pc = .ok (.putfield idx, 3)) (kk : ∀ (H1 : Heap) (locs1 : List Loc), HW G A s.heap (WC G a (pF u q (ndE w b x))) H1 locs1 → W p l e R s m args below meth c H1 locs1 cells slots Q (F0 m (pc + 3) ls rest)) : W p l e R s m args below meth c H locs cells slots Q (F0 m pc ls (va_rf x :: va_rf r :: rest)) := by
  subst hr
  obtain ⟨k, hk⟩ := va_pl_get (X := stC G a u) (f := sF u) hL
  have hk0 := hk
  rw [hF] at hk
  refine r_put X K h inX5 tyX5_ok nmX5 k hk rfl 2 (by decide) hl rfl (by cases x <;> rfl) (by cases x <;> rfl) (Nat.le_of_ble_eq_true rfl) hdg (fun H1 locs1 h1 => kk H1 locs1 ?_)
  have e1 : (WC G a u).set k (q, ndE w b x) = WC G a (pF u q (ndE w b x)) := va_pl_set h.2.1 hL hk0
  rw [← e1]
  exact h1
end
