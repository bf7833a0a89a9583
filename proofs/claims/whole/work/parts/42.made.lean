/-! what the constructors made is a state -/
theorem perm_by {α : Type} (d : α) (w w' : List α) (ix : List Nat) (h : ix.Perm (List.range w.length)) (e : w' = ix.map (fun i => w.getD i d)) : w.Perm w' := by
  have h1 : (List.range w.length).map (fun i => w.getD i d) = w := by
    apply List.ext_getElem
    · rw [List.length_map, List.length_range]
    · intro i h1 h2
      rw [List.getElem_map, List.getElem_range, List.getD_eq_getElem?_getD, List.getElem?_eq_getElem h2, Option.getD_some]
  have h2 := (h.map (fun i => w.getD i d)).symm
  rw [h1, ← e] at h2
  exact h2
def plN (l : List Nat) : Nat → Nat := fun k => l.getD k 0
/-- the state of a new object of the class -/
def uC0 (E : Nat) (r0 : Option Nat) (L : List Nat) (f : Nat → va_E) : St := (fun k => if k = 1 then -1 else 0, fun _ _ => 0, fun k => if k = 0 then some E else if k = 3 then r0 else none, L, f)
/-- the state of a new reference -/
def uM0 : St := (fun k => if k = 11 then -1 else 0, fun _ _ => 0, fun _ => none, [], fun _ => ndE 0 none none)
set_option maxRecDepth 100000 in
set_option maxHeartbeats 4000000 in
theorem made_C {G : Gr} {x : va_W} {L : List Nat} {f : Nat → va_E} {r0 : Option Nat} (q a1 a2 a3 a4 a5 a6 a7 a8 a9 a10 a11 a12 a13 a14 a15 a16 a17 a18 a19 a20 a21 a22 a23 : Nat) : (wq x [(q, .inr (9, [.ref a1, .ref a15, .ref a17, zI 0, zI (-1), zI 0, .ref a23, zI 0])), (a1, .inr (1, [.ref a2, .ref a11, .ref a14, zI 0, zI 0])), (a2, .inr (3, [.ref a3, .ref a5, .ref a6, zI 0])), (a3, .inr (4, [.ref a4, zI 0])), (a4, .inr (11, [zI 0, .ref G.2.2.2.2, zI 0])), (a5, .inr (0, [.null, .null, va_rf r0, zI 0, zI 0])), (a6, .inr (6, [.ref a7, .ref a10])), (a7, .inl (G.2.1 3, 2, .inr (.inr (.inr (.inr (fun j => if j < 2 then (if j = 0 then some a8 else some a9) else none)))))), (a8, .inl (G.2.1 0, 100, .inl (aI (fun _ => 0)))), (a9, .inl (G.2.1 0, 100, .inl (aI (fun _ => 0)))), (a10, .inl (G.2.1 0, 2, .inl (aI (fun _ => 0)))), (a11, .inr (2, [.ref a12, .ref a13, zI 0, zI 0])), (a12, .inl (G.2.1 0, 50, .inl (aI (fun _ => 0)))), (a13, .inl (G.2.1 0, 50, .inl (aI (fun _ => 0)))), (a14, .inl (G.2.1 0, 4, .inl (aI (fun _ => 0)))), (a15, .inr (8, [.ref a16, zI 0])), (a16, .inl (G.2.1 0, 300, .inl (aI (fun _ => 0)))), (a17, .inr (7, [.ref a18, .ref a19, .ref a20, .ref a21, .ref a22, zI 0, zI 0])), (a18, .inl (G.2.1 0, 300, .inl (aI (fun _ => 0)))), (a19, .inl (G.2.1 0, 300, .inl (aI (fun _ => 0)))), (a20, .inl (G.2.1 0, 300, .inl (aI (fun _ => 0)))), (a21, .inl (G.2.1 0, 300, .inl (aI (fun _ => 0)))), (a22, .inl (G.2.1 0, 4, .inl (aI (fun _ => 0)))), (a23, .inl (G.2.1 1, 701, .inl (aI (fun _ => 0))))] L f).Perm (x ++ WC G (plN [q, a1, a11, a2, a3, a4, a5, a6, a15, a17, a14, a12, a13, a7, a8, a9, a10, a16, a18, a19, a20, a21, a22, a23]) (uC0 G.2.2.2.2 r0 L f)) := by
  unfold wq WC
  rw [List.append_assoc]
  refine List.Perm.append_left _ (List.Perm.append_right _ ?_)
  exact perm_by (q, .inl (G.2.1 0, 0, .inl (aI (fun _ => 0)))) _ _ [0, 1, 11, 2, 3, 4, 5, 6, 15, 17, 14, 12, 13, 7, 8, 9, 10, 16, 18, 19, 20, 21, 22, 23] (show List.Perm [0, 1, 11, 2, 3, 4, 5, 6, 15, 17, 14, 12, 13, 7, 8, 9, 10, 16, 18, 19, 20, 21, 22, 23] (List.range 24) from by decide +kernel) rfl
set_option maxRecDepth 100000 in
set_option maxHeartbeats 4000000 in
theorem made_M {G : Gr} {x : va_W} {f : Nat → va_E} (q a1 a2 a3 a4 a5 a6 a7 a8 a9 a10 a11 a12 a13 a14 a15 : Nat) : wq x [(q, .inr (10, [zI 0, .ref a1, .ref a2, zI 0, zI 0, zI 0, zI 0, .ref a3, .ref a4, .ref a5, .ref a6, zI 0, .ref a7, zI 0, zI 0, zI 0, zI 0, zI 0, zI (-1), zI 0, .ref a8, .ref a9, .ref a10, .ref a11, zI 0, .ref a12, .ref a13, .ref a14, .ref a15, zI 0])), (a1, .inl (G.2.1 0, 101, .inl (aI (fun _ => 0)))), (a2, .inl (G.2.1 0, 101, .inl (aI (fun _ => 0)))), (a3, .inl (G.2.1 0, 6, .inl (aI (fun _ => 0)))), (a4, .inl (G.2.1 0, 5000, .inl (aI (fun _ => 0)))), (a5, .inl (G.2.1 0, 50, .inl (aI (fun _ => 0)))), (a6, .inl (G.2.1 0, 50, .inl (aI (fun _ => 0)))), (a7, .inl (G.2.1 0, 300, .inl (aI (fun _ => 0)))), (a8, .inl (G.2.1 0, 100, .inl (aI (fun _ => 0)))), (a9, .inl (G.2.1 0, 300, .inl (aI (fun _ => 0)))), (a10, .inl (G.2.1 0, 300, .inl (aI (fun _ => 0)))), (a11, .inl (G.2.1 0, 300, .inl (aI (fun _ => 0)))), (a12, .inl (G.2.1 0, 4, .inl (aI (fun _ => 0)))), (a13, .inl (G.2.1 0, 4, .inl (aI (fun _ => 0)))), (a14, .inl (G.2.1 0, 4, .inl (aI (fun _ => 0)))), (a15, .inl (G.2.1 0, 720, .inl (aI (fun _ => 0))))] [] f = x ++ WM G (plN [q, a1, a2, a3, a4, a5, a6, a7, a8, a9, a10, a11, a12, a13, a14, a15]) uM0 := by
  unfold wq
  rw [List.append_assoc]
  rfl
