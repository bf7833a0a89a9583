/-! what a contract says of its end, in short words; switches -/
abbrev Po (wf : St → va_W) (post : Int → St → Prop) : Int → va_W → Prop := fun z w' => ∃ u', w' = wf u' ∧ post z u'
abbrev PoV (wf : St → va_W) (post : St → Prop) : va_W → Prop := fun w' => ∃ u', w' = wf u' ∧ post u'
abbrev PoP (w : va_W) (post : Int → Prop) : Int → va_W → Prop := fun z w' => w' = w ∧ post z
abbrev PoQ (w : va_W) (post : Prop) : va_W → Prop := fun w' => w' = w ∧ post
abbrev EndI (G : Gr) (w0 : va_W) (Post : Int → va_W → Prop) (args : Array Value) (s : State) (mc ms : Nat) (below : List Frame) : State → Prop := MQ below (QcI G w0 s.heap.size Post) args s mc ms (va_A w0 s.heap.size)
abbrev EndV (G : Gr) (w0 : va_W) (Post : va_W → Prop) (args : Array Value) (s : State) (mc ms : Nat) (below : List Frame) : State → Prop := MQ below (QcV G w0 s.heap.size Post) args s mc ms (va_A w0 s.heap.size)
theorem off_none : ∀ (l : List (Int × Int)) (d x : Int), (∀ o ∈ l, o.1 ≠ x) → Op.lookupswitch.offset l d x = d
  | [], _, _, _ => rfl
  | (a, o) :: r, d, x, h => by
    rw [Op.lookupswitch.offset_cons, if_neg (h (a, o) List.mem_cons_self)]
    exact off_none r d x (fun q hq => h q (List.mem_cons_of_mem _ hq))
section
variable {p : Program} {l : Launch} {e : Env} {R : Room} {s : State} {m : MethodId} {args : Array Value} {below : List Frame} {meth : Method} {c : Code} {H : Heap} {locs : List Loc} {cells slots : Nat} {Q : State → Prop}
variable {cc : ByteArray} {own : String} {nL pc : Nat} {ls : Array Slot} {rest : List Value}
theorem z_top {x y : Int} (hxy : x = y) (kk : W p l e R s m args below meth c H locs cells slots Q (F0 m pc ls (zI y :: rest))) : W p l e R s m args below meth c H locs cells slots Q (F0 m pc ls (zI x :: rest)) := hxy ▸ kk
theorem z_tableOut (X : CallFix p m c cc nL s args lw_all own) {x dflt lo hi : Int} {offs : Array Int} {len tgt : Nat} (hx : InR x) (hdg : decode cc pc = .ok (.tableswitch dflt lo hi offs, len)) (ht : (pc : Int) + dflt = (tgt : Int)) (hh : (x < lo ∨ hi < x) ∨ ∃ j : Nat, x = lo + j ∧ lo + j ≤ hi ∧ offs[j]? = some dflt) (kk : W p l e R s m args below meth c H locs cells slots Q (F0 m tgt ls rest)) : W p l e R s m args below meth c H locs cells slots Q (F0 m pc ls (zI x :: rest)) := by
  rcases hh with h | ⟨j, rfl, h2, hj⟩
  · exact lv_tableOut X.1 X.2.1 hdg (by rw [zr_toInt hx]; exact h) ht kk
  · refine lv_tableIn X.1 X.2.1 hdg (by rw [zr_toInt hx]; omega) (by rw [zr_toInt hx]; omega) (off := dflt) ?_ ht kk
    rw [zr_toInt hx, show lo + (j : Int) - lo = j by omega, Int.toNat_natCast]
    exact hj
theorem z_lookupOut (X : CallFix p m c cc nL s args lw_all own) {x dflt : Int} {ps : Array (Int × Int)} {len tgt : Nat} (hx : InR x) (hdg : decode cc pc = .ok (.lookupswitch dflt ps, len)) (ht : (pc : Int) + dflt = (tgt : Int)) (hp : (ps.toList.zip (ps.toList.drop 1)).all (fun (a, next) => a.1 < next.1) = true) (L : List (Int × Int)) (hL : ps.toList = L) (ho : ∀ o ∈ L, o.1 ≠ x) (kk : W p l e R s m args below meth c H locs cells slots Q (F0 m tgt ls rest)) : W p l e R s m args below meth c H locs cells slots Q (F0 m pc ls (zI x :: rest)) := by
  subst hL
  exact lv_lookup X.1 X.2.1 hdg hp (by rw [zr_toInt hx]; exact off_none _ _ _ ho) ht kk
end
