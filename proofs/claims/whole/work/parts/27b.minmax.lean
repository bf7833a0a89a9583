/-! min and max -/
theorem q_minc : Cond.code Lib.Math.min.name Lib.Math.min.code 2 (some .int) ∈ lw_all := lwa 413 (by decide +kernel) (by decide +kernel)
theorem q_mins : Cond.static Lib.Math.min.name ∈ lw_all := lwa 412 (by decide +kernel) (by decide +kernel)
theorem q_mini : Cond.initialized "java/lang/Math" ∈ lw_all := lwa 71 (by decide +kernel) (by decide +kernel)
theorem q_maxc : Cond.code Lib.Math.max.name Lib.Math.max.code 2 (some .int) ∈ lw_all := lwa 599 (by decide +kernel) (by decide +kernel)
theorem q_maxs : Cond.static Lib.Math.max.name ∈ lw_all := lwa 598 (by decide +kernel) (by decide +kernel)
theorem q_maxi : Cond.initialized "java/lang/Math" ∈ lw_all := lwa 71 (by decide +kernel) (by decide +kernel)
section
variable {p : Program} {l : Launch} {e : Env} {R : Room} {s : State} {m : MethodId} {args : Array Value} {below : List Frame} {meth : Method} {c : Code} {H : Heap} {locs : List Loc} {cells slots : Nat} {Q : State → Prop}
variable {cc : ByteArray} {own : String} {nL pc : Nat} {ls : Array Slot} {rest : List Value}
theorem z_mmin (X : CallFix p m c cc nL s args lw_all own) {x y : Int} {idx : Nat} (hx : InR x) (hy : InR y) (hl : Cond.methodLink own idx Lib.Math.min.name ∈ lw_all) (hls : ls.size = nL) (hR : 1 ≤ R.frames ∧ (rest.map fun v => v.category).sum + 13 ≤ R.locals) (hc : cells ≤ R.cells ∧ slots ≤ R.slots) (hdg : decode cc pc = .ok (.invokestatic idx, 3)) (kk : W p l e R s m args below meth c H locs cells slots Q (F0 m (pc + 3) ls (zI (min x y) :: rest))) : W p l e R s m args below meth c H locs cells slots Q (F0 m pc ls (zI y :: zI x :: rest)) := by
  refine va_mmin X.1 X.2.1 (by rw [X.2.2.1, hls]) X.2.2.2.1 (X.2.2.2.2 _ hl) (X.2.2.2.2 _ q_mins) (X.2.2.2.2 _ q_mini) (X.2.2.2.2 _ q_minc) hR.1 hR.2 hc.1 hc.2 hdg ?_
  have he : (if Int32.ofInt y < Int32.ofInt x then Int32.ofInt y else Int32.ofInt x) = Int32.ofInt (min x y) := by
    by_cases q : y < x
    · rw [if_pos ((zr_lt hy hx).mpr q)]
      exact congrArg Int32.ofInt (by omega)
    · rw [if_neg (fun z => q ((zr_lt hy hx).mp z))]
      exact congrArg Int32.ofInt (by omega)
  rw [he]
  exact kk
theorem z_mmax (X : CallFix p m c cc nL s args lw_all own) {x y : Int} {idx : Nat} (hx : InR x) (hy : InR y) (hl : Cond.methodLink own idx Lib.Math.max.name ∈ lw_all) (hls : ls.size = nL) (hR : 1 ≤ R.frames ∧ (rest.map fun v => v.category).sum + 13 ≤ R.locals) (hc : cells ≤ R.cells ∧ slots ≤ R.slots) (hdg : decode cc pc = .ok (.invokestatic idx, 3)) (kk : W p l e R s m args below meth c H locs cells slots Q (F0 m (pc + 3) ls (zI (max x y) :: rest))) : W p l e R s m args below meth c H locs cells slots Q (F0 m pc ls (zI y :: zI x :: rest)) := by
  refine va_mmax X.1 X.2.1 (by rw [X.2.2.1, hls]) X.2.2.2.1 (X.2.2.2.2 _ hl) (X.2.2.2.2 _ q_maxs) (X.2.2.2.2 _ q_maxi) (X.2.2.2.2 _ q_maxc) hR.1 hR.2 hc.1 hc.2 hdg ?_
  have he : (if Int32.ofInt x < Int32.ofInt y then Int32.ofInt y else Int32.ofInt x) = Int32.ofInt (max x y) := by
    by_cases q : x < y
    · rw [if_pos ((zr_lt hx hy).mpr q)]
      exact congrArg Int32.ofInt (by omega)
    · rw [if_neg (fun z => q ((zr_lt hx hy).mp z))]
      exact congrArg Int32.ofInt (by omega)
  rw [he]
  exact kk
end
