/-! the list's growing -/
theorem zI_cat (x : Int) : (zI x).category = 1 := rfl
theorem ref_cat (q : Nat) : (Value.ref q).category = 1 := rfl
theorem q_386 : Cond.classLink RX4 30 "java/lang/Integer" ∈ lw_all := lwa 386 (by decide +kernel) (by decide +kernel)
def w_Jx4a65c_grow_92f84 (post : Option Nat → St → Prop) (mc ms : Nat) (G : Gr) (u : St) (p1 : Int) : Prop :=
  (sR u 0 = some G.2.2.2.2 ∧ 0 ≤ p1 ∧ p1 ≤ 10 ∧ 1 ≤ mc ∧ 10 ≤ ms ∧ ∀ q : Nat, q ∉ sL u → post (some q) (pR (pN u q (arrE G 10 (fun _ => none))) 0 (some q))) ∨
  (∃ (ed n : Nat) (f : Nat → Option Nat), sR u 0 = some ed ∧ ed ∈ sL u ∧ sF u ed = arrE G n f ∧ 2 ≤ n ∧ n ≤ 1000 ∧ p1 = (n : Int) + 1 ∧ 1 ≤ mc ∧ n + n / 2 ≤ ms ∧ allBox G u f 0 n ∧ ∀ q : Nat, q ∉ sL u → post (some q) (pR (pN u q (arrE G (n + n / 2) (va_cpy f (fun _ => none) 0 0 n))) 0 (some q)))
abbrev rm_Jx4a65c_grow_92f84 (mc ms : Nat) : Room := { frames := 8, cells := mc, slots := ms, locals := 250 }
theorem ct_Jx4a65c_grow_92f84 {l : Launch} {G : Gr} {a : Nat → Nat} (mc ms : Nat) (u : St) (p1 : Int) (post : Option Nat → St → Prop) (hw : w_Jx4a65c_grow_92f84 post mc ms G u p1) : CtQ l G yJx4a65c_grow_92f84 (ws_ yJx4a65c_grow_92f84 cJx4a65c_grow_92f84 4 (some (.array (.object "java/lang/Object")))) (rm_Jx4a65c_grow_92f84 mc ms) [.ref (a 5), zI p1] (WC G a u) mc ms (PoR (WC G a) post) := by
  sorry
