/-! constructors -/
theorem qo_X5_init : Cond.methodLink RX5 1 Lib.objectInit ∈ lw_all := lwa_all (L := [Cond.methodLink RX5 1 Lib.objectInit]) (by decide +kernel) _ List.mem_cons_self
theorem ct_X5_init {l : Launch} {G : Gr} {w : va_W} (q : Nat) : CtV l G yX5_init (ws_ yX5_init cX5_init 1 none) { frames := 1, cells := 0, slots := 0, locals := 12 } [.ref q] w 0 0 (fun w' => w' = w) := by
  refine CtV.of (by decide) (Nat.le_of_ble_eq_true rfl) ?_
  intro p e s m args below meth c ls X hr hlk K g h hl
  have hl : lv_has ls 1 [(0, .ref q)] := hl
  refine z_aload_n X hl 0 rfl rfl dX5_init_0 ?_
  refine r_objInit X qo_X5_init (lv_size hl) ⟨Nat.le_of_ble_eq_true rfl, Nat.le_of_ble_eq_true rfl⟩ dX5_init_1 ?_
  exact r_vret X hr hlk K h (Nat.le_refl _) (Nat.le_refl _) dX5_init_4 rfl
theorem qo_Jxa1e45_init_da8c8 : Cond.methodLink RJxa1e45 1 Lib.objectInit ∈ lw_all := lwa_all (L := [Cond.methodLink RJxa1e45 1 Lib.objectInit]) (by decide +kernel) _ List.mem_cons_self
theorem ct_Jxa1e45_init_da8c8 {l : Launch} {G : Gr} {w : va_W} (q : Nat) : CtV l G yJxa1e45_init_da8c8 (ws_ yJxa1e45_init_da8c8 cJxa1e45_init_da8c8 1 none) { frames := 1, cells := 0, slots := 0, locals := 12 } [.ref q] w 0 0 (fun w' => w' = w) := by
  refine CtV.of (by decide) (Nat.le_of_ble_eq_true rfl) ?_
  intro p e s m args below meth c ls X hr hlk K g h hl
  have hl : lv_has ls 1 [(0, .ref q)] := hl
  refine z_aload_n X hl 0 rfl rfl dJxa1e45_init_da8c8_0 ?_
  refine r_objInit X qo_Jxa1e45_init_da8c8 (lv_size hl) ⟨Nat.le_of_ble_eq_true rfl, Nat.le_of_ble_eq_true rfl⟩ dJxa1e45_init_da8c8_1 ?_
  exact r_vret X hr hlk K h (Nat.le_refl _) (Nat.le_refl _) dJxa1e45_init_da8c8_4 rfl
theorem qc_X5_init : Cond.code yX5_init cX5_init 1 none ∈ lw_all := lwa_all (L := [Cond.code yX5_init cX5_init 1 none]) (by decide +kernel) _ List.mem_cons_self
theorem qi_X5_init : Cond.instanceMethod yX5_init ∈ lw_all := lwa_all (L := [Cond.instanceMethod yX5_init]) (by decide +kernel) _ List.mem_cons_self
theorem qn_X5_init : Cond.initialized yX5_init.cls ∈ lw_all := lwa_all (L := [Cond.initialized yX5_init.cls]) (by decide +kernel) _ List.mem_cons_self
theorem qc_Jxa1e45_init_da8c8 : Cond.code yJxa1e45_init_da8c8 cJxa1e45_init_da8c8 1 none ∈ lw_all := lwa_all (L := [Cond.code yJxa1e45_init_da8c8 cJxa1e45_init_da8c8 1 none]) (by decide +kernel) _ List.mem_cons_self
theorem qi_Jxa1e45_init_da8c8 : Cond.instanceMethod yJxa1e45_init_da8c8 ∈ lw_all := lwa_all (L := [Cond.instanceMethod yJxa1e45_init_da8c8]) (by decide +kernel) _ List.mem_cons_self
theorem qn_Jxa1e45_init_da8c8 : Cond.initialized yJxa1e45_init_da8c8.cls ∈ lw_all := lwa_all (L := [Cond.initialized yJxa1e45_init_da8c8.cls]) (by decide +kernel) _ List.mem_cons_self
theorem qc_Jxc12de_init_da8c8 : Cond.code yJxc12de_init_da8c8 cJxc12de_init_da8c8 1 none ∈ lw_all := lwa_all (L := [Cond.code yJxc12de_init_da8c8 cJxc12de_init_da8c8 1 none]) (by decide +kernel) _ List.mem_cons_self
theorem qi_Jxc12de_init_da8c8 : Cond.instanceMethod yJxc12de_init_da8c8 ∈ lw_all := lwa_all (L := [Cond.instanceMethod yJxc12de_init_da8c8]) (by decide +kernel) _ List.mem_cons_self
theorem qn_Jxc12de_init_da8c8 : Cond.initialized yJxc12de_init_da8c8.cls ∈ lw_all := lwa_all (L := [Cond.initialized yJxc12de_init_da8c8.cls]) (by decide +kernel) _ List.mem_cons_self
theorem qc_Jx4a65c_init_da8c8 : Cond.code yJx4a65c_init_da8c8 cJx4a65c_init_da8c8 1 none ∈ lw_all := lwa_all (L := [Cond.code yJx4a65c_init_da8c8 cJx4a65c_init_da8c8 1 none]) (by decide +kernel) _ List.mem_cons_self
theorem qi_Jx4a65c_init_da8c8 : Cond.instanceMethod yJx4a65c_init_da8c8 ∈ lw_all := lwa_all (L := [Cond.instanceMethod yJx4a65c_init_da8c8]) (by decide +kernel) _ List.mem_cons_self
theorem qn_Jx4a65c_init_da8c8 : Cond.initialized yJx4a65c_init_da8c8.cls ∈ lw_all := lwa_all (L := [Cond.initialized yJx4a65c_init_da8c8.cls]) (by decide +kernel) _ List.mem_cons_self
theorem qc_X0_init : Cond.code yX0_init cX0_init 3 none ∈ lw_all := lwa_all (L := [Cond.code yX0_init cX0_init 3 none]) (by decide +kernel) _ List.mem_cons_self
theorem qi_X0_init : Cond.instanceMethod yX0_init ∈ lw_all := lwa_all (L := [Cond.instanceMethod yX0_init]) (by decide +kernel) _ List.mem_cons_self
theorem qn_X0_init : Cond.initialized yX0_init.cls ∈ lw_all := lwa_all (L := [Cond.initialized yX0_init.cls]) (by decide +kernel) _ List.mem_cons_self
theorem qc_X1_init : Cond.code yX1_init cX1_init 1 none ∈ lw_all := lwa_all (L := [Cond.code yX1_init cX1_init 1 none]) (by decide +kernel) _ List.mem_cons_self
theorem qi_X1_init : Cond.instanceMethod yX1_init ∈ lw_all := lwa_all (L := [Cond.instanceMethod yX1_init]) (by decide +kernel) _ List.mem_cons_self
theorem qn_X1_init : Cond.initialized yX1_init.cls ∈ lw_all := lwa_all (L := [Cond.initialized yX1_init.cls]) (by decide +kernel) _ List.mem_cons_self
theorem qc_X2_init : Cond.code yX2_init cX2_init 1 none ∈ lw_all := lwa_all (L := [Cond.code yX2_init cX2_init 1 none]) (by decide +kernel) _ List.mem_cons_self
theorem qi_X2_init : Cond.instanceMethod yX2_init ∈ lw_all := lwa_all (L := [Cond.instanceMethod yX2_init]) (by decide +kernel) _ List.mem_cons_self
theorem qn_X2_init : Cond.initialized yX2_init.cls ∈ lw_all := lwa_all (L := [Cond.initialized yX2_init.cls]) (by decide +kernel) _ List.mem_cons_self
theorem qc_X3_init : Cond.code yX3_init cX3_init 1 none ∈ lw_all := lwa_all (L := [Cond.code yX3_init cX3_init 1 none]) (by decide +kernel) _ List.mem_cons_self
theorem qi_X3_init : Cond.instanceMethod yX3_init ∈ lw_all := lwa_all (L := [Cond.instanceMethod yX3_init]) (by decide +kernel) _ List.mem_cons_self
theorem qn_X3_init : Cond.initialized yX3_init.cls ∈ lw_all := lwa_all (L := [Cond.initialized yX3_init.cls]) (by decide +kernel) _ List.mem_cons_self
theorem qc_X4_init : Cond.code yX4_init cX4_init 1 none ∈ lw_all := lwa_all (L := [Cond.code yX4_init cX4_init 1 none]) (by decide +kernel) _ List.mem_cons_self
theorem qi_X4_init : Cond.instanceMethod yX4_init ∈ lw_all := lwa_all (L := [Cond.instanceMethod yX4_init]) (by decide +kernel) _ List.mem_cons_self
theorem qn_X4_init : Cond.initialized yX4_init.cls ∈ lw_all := lwa_all (L := [Cond.initialized yX4_init.cls]) (by decide +kernel) _ List.mem_cons_self
theorem qc_X6_init : Cond.code yX6_init cX6_init 1 none ∈ lw_all := lwa_all (L := [Cond.code yX6_init cX6_init 1 none]) (by decide +kernel) _ List.mem_cons_self
theorem qi_X6_init : Cond.instanceMethod yX6_init ∈ lw_all := lwa_all (L := [Cond.instanceMethod yX6_init]) (by decide +kernel) _ List.mem_cons_self
theorem qn_X6_init : Cond.initialized yX6_init.cls ∈ lw_all := lwa_all (L := [Cond.initialized yX6_init.cls]) (by decide +kernel) _ List.mem_cons_self
theorem qc_X7_init : Cond.code yX7_init cX7_init 1 none ∈ lw_all := lwa_all (L := [Cond.code yX7_init cX7_init 1 none]) (by decide +kernel) _ List.mem_cons_self
theorem qi_X7_init : Cond.instanceMethod yX7_init ∈ lw_all := lwa_all (L := [Cond.instanceMethod yX7_init]) (by decide +kernel) _ List.mem_cons_self
theorem qn_X7_init : Cond.initialized yX7_init.cls ∈ lw_all := lwa_all (L := [Cond.initialized yX7_init.cls]) (by decide +kernel) _ List.mem_cons_self
theorem qc_X8_init : Cond.code yX8_init cX8_init 1 none ∈ lw_all := lwa_all (L := [Cond.code yX8_init cX8_init 1 none]) (by decide +kernel) _ List.mem_cons_self
theorem qi_X8_init : Cond.instanceMethod yX8_init ∈ lw_all := lwa_all (L := [Cond.instanceMethod yX8_init]) (by decide +kernel) _ List.mem_cons_self
theorem qn_X8_init : Cond.initialized yX8_init.cls ∈ lw_all := lwa_all (L := [Cond.initialized yX8_init.cls]) (by decide +kernel) _ List.mem_cons_self
theorem qc_X9_init : Cond.code yX9_init cX9_init 1 none ∈ lw_all := lwa_all (L := [Cond.code yX9_init cX9_init 1 none]) (by decide +kernel) _ List.mem_cons_self
theorem qi_X9_init : Cond.instanceMethod yX9_init ∈ lw_all := lwa_all (L := [Cond.instanceMethod yX9_init]) (by decide +kernel) _ List.mem_cons_self
theorem qn_X9_init : Cond.initialized yX9_init.cls ∈ lw_all := lwa_all (L := [Cond.initialized yX9_init.cls]) (by decide +kernel) _ List.mem_cons_self
theorem qc_X10_init : Cond.code yX10_init cX10_init 1 none ∈ lw_all := lwa_all (L := [Cond.code yX10_init cX10_init 1 none]) (by decide +kernel) _ List.mem_cons_self
theorem qi_X10_init : Cond.instanceMethod yX10_init ∈ lw_all := lwa_all (L := [Cond.instanceMethod yX10_init]) (by decide +kernel) _ List.mem_cons_self
theorem qn_X10_init : Cond.initialized yX10_init.cls ∈ lw_all := lwa_all (L := [Cond.initialized yX10_init.cls]) (by decide +kernel) _ List.mem_cons_self
theorem ql_Jxc12de_1 : Cond.methodLink RJxc12de 1 yJxa1e45_init_da8c8 ∈ lw_all := lwa_all (L := [Cond.methodLink RJxc12de 1 yJxa1e45_init_da8c8]) (by decide +kernel) _ List.mem_cons_self
theorem lkI_Jxc12de_1 : LkI RJxc12de 1 yJxa1e45_init_da8c8 cJxa1e45_init_da8c8 1 0 := LkI.of ql_Jxc12de_1 qi_Jxa1e45_init_da8c8 qn_Jxa1e45_init_da8c8 qc_Jxa1e45_init_da8c8 rfl (by decide +kernel)
theorem ql_Jx4a65c_1 : Cond.methodLink RJx4a65c 1 yJxc12de_init_da8c8 ∈ lw_all := lwa_all (L := [Cond.methodLink RJx4a65c 1 yJxc12de_init_da8c8]) (by decide +kernel) _ List.mem_cons_self
theorem lkI_Jx4a65c_1 : LkI RJx4a65c 1 yJxc12de_init_da8c8 cJxc12de_init_da8c8 1 0 := LkI.of ql_Jx4a65c_1 qi_Jxc12de_init_da8c8 qn_Jxc12de_init_da8c8 qc_Jxc12de_init_da8c8 rfl (by decide +kernel)
theorem qf_mod : Cond.fieldLink RJxc12de 7 "java/util/AbstractList" "modCount" "I" ∈ lw_all := lwa_all (L := [Cond.fieldLink RJxc12de 7 "java/util/AbstractList" "modCount" "I"]) (by decide +kernel) _ List.mem_cons_self
theorem ct_Jxc12de_init_da8c8 {l : Launch} {G : Gr} {x : va_W} {L : List Nat} {f : Nat → va_E} (q : Nat) : CtV l G yJxc12de_init_da8c8 (ws_ yJxc12de_init_da8c8 cJxc12de_init_da8c8 1 none) { frames := 2, cells := 0, slots := 0, locals := 40 } [.ref q] (wq x [(q, .inr (11, [zI 0, .null, zI 0]))] L f) 0 0 (fun w' => w' = wq x [(q, .inr (11, [zI 0, .null, zI 0]))] L f) := by
  refine CtV.of (by decide) (Nat.le_of_ble_eq_true rfl) ?_
  intro p e s m args below meth c ls X hr hlk K g h hl
  have hl : lv_has ls 1 [(0, .ref q)] := hl
  refine z_aload_n X hl 0 rfl rfl dJxc12de_init_da8c8_0 ?_
  refine r_callIv (rest := []) X K g h (ct_Jxa1e45_init_da8c8 q) lkI_Jxc12de_1 ⟨rfl, rfl⟩ ⟨Nat.le_of_ble_eq_true rfl, Nat.le_of_ble_eq_true rfl⟩ rfl (lv_size hl) rfl (Nat.le_of_ble_eq_true rfl) dJxc12de_init_da8c8_1 ⟨Nat.le_of_ble_eq_true rfl, Nat.le_of_ble_eq_true rfl⟩ (fun w' H locs hp h => ?_)
  subst hp
  refine z_aload_n X hl 0 rfl rfl dJxc12de_init_da8c8_4 ?_
  refine z_iconst X dJxc12de_init_da8c8_5 ?_
  refine r_putQ X K h inJx4a65c tyJx4a65c_ok nmJx4a65c 0 rfl rfl 0 (by decide) qf_mod rfl rfl rfl (Nat.le_of_ble_eq_true rfl) dJxc12de_init_da8c8_6 (fun H locs h => ?_)
  exact r_vret X hr hlk K h (Nat.le_refl _) (Nat.le_refl _) dJxc12de_init_da8c8_9 rfl
theorem ct_Jx4a65c_init_da8c8 {l : Launch} {G : Gr} {x : va_W} {L : List Nat} {f : Nat → va_E} (q : Nat) : CtV l G yJx4a65c_init_da8c8 (ws_ yJx4a65c_init_da8c8 cJx4a65c_init_da8c8 1 none) { frames := 3, cells := 0, slots := 0, locals := 70 } [.ref q] (wq x [(q, .inr (11, [zI 0, .null, zI 0]))] L f) 0 0 (fun w' => w' = wq x [(q, .inr (11, [zI 0, .ref G.2.2.2.2, zI 0]))] L f) := by
  refine CtV.of (by decide) (Nat.le_of_ble_eq_true rfl) ?_
  intro p e s m args below meth c ls X hr hlk K g h hl
  have hl : lv_has ls 1 [(0, .ref q)] := hl
  refine z_aload_n X hl 0 rfl rfl dJx4a65c_init_da8c8_0 ?_
  refine r_callIv (rest := []) X K g h (ct_Jxc12de_init_da8c8 q) lkI_Jx4a65c_1 ⟨rfl, rfl⟩ ⟨Nat.le_of_ble_eq_true rfl, Nat.le_of_ble_eq_true rfl⟩ rfl (lv_size hl) rfl (Nat.le_of_ble_eq_true rfl) dJx4a65c_init_da8c8_1 ⟨Nat.le_of_ble_eq_true rfl, Nat.le_of_ble_eq_true rfl⟩ (fun w' H locs hp h => ?_)
  subst hp
  refine z_aload_n X hl 0 rfl rfl dJx4a65c_init_da8c8_4 ?_
  refine va_gets X.1 X.2.1 g.2.2.2.1 h.2.2.1 X.2.2.2.1 (X.2.2.2.2 _ q_127) (fun _ h9 => h9) dJx4a65c_init_da8c8_5 ?_
  refine r_putQ X K h inJx4a65c tyJx4a65c_ok nmJx4a65c 0 rfl rfl 1 (by decide) q_129 rfl rfl rfl (Nat.le_of_ble_eq_true rfl) dJx4a65c_init_da8c8_8 (fun H locs h => ?_)
  exact r_vret X hr hlk K h (Nat.le_refl _) (Nat.le_refl _) dJx4a65c_init_da8c8_11 rfl
def chainS (f : Nat → va_E) : Option Nat → List Nat → Prop
  | r, [] => r = none
  | r, q :: qs => r = some q ∧ ∃ (w : Int) (b n : Option Nat), f q = ndE w b n ∧ chainS f n qs
theorem chainS.keep {f f' : Nat → va_E} : ∀ {ns : List Nat} {r : Option Nat}, (∀ q ∈ ns, f' q = f q) → chainS f r ns → chainS f' r ns
  | [], _, _, h => h
  | q :: qs, _, hk, ⟨h1, w, b, n, h2, h3⟩ => ⟨h1, w, b, n, (hk q List.mem_cons_self).trans h2, chainS.keep (fun z hz => hk z (List.mem_cons_of_mem _ hz)) h3⟩
def Spare (L : List Nat) (f : Nat → va_E) (i : Nat) (r : Option Nat) (ns L' : List Nat) (f' : Nat → va_E) : Prop := ns.length = i ∧ ns.Nodup ∧ (∀ q, q ∈ L' ↔ q ∈ L ∨ q ∈ ns) ∧ (∀ q ∈ ns, q ∉ L) ∧ (∀ q, q ∉ ns → f' q = f q) ∧ chainS f' r ns
theorem Spare.push {L : List Nat} {f : Nat → va_E} {i : Nat} {r : Option Nat} {ns L' : List Nat} {f' : Nat → va_E} (h : Spare L f i r ns L' f') {q : Nat} (hq : q ∉ L') {w : Int} {b : Option Nat} : Spare L f (i + 1) (some q) (q :: ns) (L' ++ [q]) (va_up f' q (ndE w b r)) := by
  obtain ⟨h1, h2, h3, h4, h5, h6⟩ := h
  have hq1 : q ∉ L := fun z => hq ((h3 q).mpr (Or.inl z))
  have hq2 : q ∉ ns := fun z => hq ((h3 q).mpr (Or.inr z))
  refine ⟨by rw [List.length_cons, h1], List.nodup_cons.mpr ⟨hq2, h2⟩, fun z => ?_, fun z hz => ?_, fun z hz => ?_, rfl, w, b, r, if_pos rfl, chainS.keep (fun z hz => if_neg (fun (e : z = q) => hq2 (e ▸ hz))) h6⟩
  · rw [List.mem_append, List.mem_singleton, h3 z, List.mem_cons]
    constructor
    · rintro ((a | a) | a)
      · exact Or.inl a
      · exact Or.inr (Or.inr a)
      · exact Or.inr (Or.inl a)
    · rintro (a | a | a)
      · exact Or.inl (Or.inl a)
      · exact Or.inr a
      · exact Or.inl (Or.inr a)
  · rcases List.mem_cons.mp hz with rfl | hz
    · exact hq1
    · exact h4 z hz
  · rw [List.mem_cons, not_or] at hz
    exact (if_neg hz.1).trans (h5 z hz.2)
section
variable {p : Program} {l : Launch} {e : Env} {R : Room} {s : State} {m : MethodId} {args : Array Value} {below : List Frame} {meth : Method} {c : Code} {H : Heap} {locs : List Loc} {cells slots : Nat} {Q : State → Prop}
variable {cc : ByteArray} {own : String} {nL pc : Nat} {ls : Array Slot} {rest : List Value} {G : Gr} {A : Nat → Prop} {x t : va_W} {L : List Nat} {f : Nat → va_E}
theorem HW.pushQ {H0 : Heap} {q : Nat} {y : va_E} (h : HW G A H0 (wq x t L f ++ [(q, y)]) H locs) : q ∉ L ∧ HW G A H0 (wq x t (L ++ [q]) (va_up f q y)) H locs := by
  have hq : q ∉ L := HW.fresh h
  refine ⟨hq, ?_⟩
  unfold wq at h
  rw [List.append_assoc, va_pl_push hq] at h
  exact h
theorem r_putNQ (X : CallFix p m c cc nL s args lw_all own) (K : KK G s) (h : HW G A s.heap (wq x t L f) H locs) {q idx : Nat} {w : Int} {b n r : Option Nat} (hL : q ∈ L) (hF : f q = ndE w b n) (hl : Cond.fieldLink own idx "Caretline$Node" "after" "LCaretline$Node;" ∈ lw_all) (hdg : decode cc pc = .ok (.putfield idx, 3)) (kk : ∀ (H1 : Heap) (locs1 : List Loc), HW G A s.heap (wq x t L (va_up f q (ndE w b r))) H1 locs1 → W p l e R s m args below meth c H1 locs1 cells slots Q (F0 m (pc + 3) ls rest)) : W p l e R s m args below meth c H locs cells slots Q (F0 m pc ls (va_rf r :: .ref q :: rest)) := by
  obtain ⟨k, hk⟩ := va_pl_get (X := x ++ t) (f := f) hL
  have hk0 := hk
  rw [hF] at hk
  refine r_put X K h inX5 tyX5_ok nmX5 k hk rfl 2 (by decide) hl rfl (by cases r <;> rfl) (by cases r <;> rfl) (Nat.le_of_ble_eq_true rfl) hdg (fun H1 locs1 h1 => kk H1 locs1 ?_)
  have e1 : (wq x t L f).set k (q, ndE w b r) = wq x t L (va_up f q (ndE w b r)) := va_pl_set h.2.1 hL hk0
  rw [← e1]
  exact h1
end
theorem qcl_X0_9 : Cond.classLink RX0 9 RX5 ∈ lw_all := lwa_all (L := [Cond.classLink RX0 9 RX5]) (by decide +kernel) _ List.mem_cons_self
theorem qin_X5 : Cond.instantiable RX5 3 ∈ lw_all := lwa_all (L := [Cond.instantiable RX5 3]) (by decide +kernel) _ List.mem_cons_self
theorem qni_X5 : Cond.initialized RX5 ∈ lw_all := lwa_all (L := [Cond.initialized RX5]) (by decide +kernel) _ List.mem_cons_self
theorem qo_X0_init : Cond.methodLink RX0 3 Lib.objectInit ∈ lw_all := lwa_all (L := [Cond.methodLink RX0 3 Lib.objectInit]) (by decide +kernel) _ List.mem_cons_self
set_option maxRecDepth 100000 in
set_option maxHeartbeats 4000000 in
theorem ct_X0_init {l : Launch} {G : Gr} {x : va_W} {L : List Nat} {f : Nat → va_E} (q : Nat) : CtV l G yX0_init (ws_ yX0_init cX0_init 3 none) { frames := 2, cells := 100, slots := 300, locals := 40 } [.ref q] (wq x [(q, .inr (0, [.null, .null, .null, zI 0, zI 0]))] L f) 100 300 (fun w' => ∃ (r : Option Nat) (ns L' : List Nat) (f' : Nat → va_E), Spare L f 100 r ns L' f' ∧ w' = wq x [(q, .inr (0, [.null, .null, va_rf r, zI 0, zI 0]))] L' f') := by
  refine CtV.of (by decide) (Nat.le_of_ble_eq_true rfl) ?_
  intro p e s m args below meth c ls X hr hlk K g h hl
  have hl : lv_has ls 3 [(0, .ref q)] := hl
  have key : ∀ (k i : Nat) (r : Option Nat) (ns L1 : List Nat) (f1 : Nat → va_E) (H : Heap) (locs : List Loc) (ls : Array Slot), i + k = 100 → Spare L f i r ns L1 f1 → HW G (va_A (wq x [(q, .inr (0, [.null, .null, .null, zI 0, zI 0]))] L f) s.heap.size) s.heap (wq x [(q, .inr (0, [.null, .null, va_rf r, zI 0, zI 0]))] L1 f1) H locs → lv_has ls 3 [(0, .ref q), (1, zI i)] → W p l e { frames := 2, cells := 100, slots := 300, locals := 40 } s m args below meth c H locs i (3 * i) (MQ below (QcV G (wq x [(q, .inr (0, [.null, .null, .null, zI 0, zI 0]))] L f) s.heap.size (fun w' => ∃ (r : Option Nat) (ns L' : List Nat) (f' : Nat → va_E), Spare L f 100 r ns L' f' ∧ w' = wq x [(q, .inr (0, [.null, .null, va_rf r, zI 0, zI 0]))] L' f')) args s 100 300 (va_A (wq x [(q, .inr (0, [.null, .null, .null, zI 0, zI 0]))] L f) s.heap.size)) (F0 m 6 ls []) := by
    intro k
    induction k with
    | zero =>
      intro i r ns L1 f1 H locs ls hi hsp h hl
      have hi : i = 100 := by omega
      subst hi
      refine z_iload_n X hl 1 rfl rfl dX0_init_6 ?_
      refine z_bipush (v := 100) X dX0_init_7 (by decide) ?_
      refine z_icmp_ge (tgt := 39) X (by decide) (by decide) dX0_init_9 (by decide) (fun _ => ?_) (fun c1 => absurd c1 (by decide))
      exact r_vret X hr hlk K h (Nat.le_refl _) (Nat.le_refl _) dX0_init_39 ⟨r, ns, L1, f1, hsp, rfl⟩
    | succ k ih =>
      intro i r ns L1 f1 H locs ls hi hsp h hl
      refine z_iload_n X hl 1 rfl rfl dX0_init_6 ?_
      refine z_bipush (v := 100) X dX0_init_7 (by decide) ?_
      refine z_icmp_ge (tgt := 39) X ⟨by omega, by omega⟩ (by decide) dX0_init_9 (by decide) (fun c1 => absurd c1 (by omega)) (fun _ => ?_)
      refine r_new X K h inX5 tyX5_ok (ci := 5) (fs := [zI 0, .null, .null]) rfl qcl_X0_9 qin_X5 qni_X5 (fun j hj => by rcases (show j = 0 ∨ j = 1 ∨ j = 2 by omega) with rfl | rfl | rfl <;> rfl) ⟨by show i + 1 ≤ 100; omega, by show 3 * i + 3 ≤ 300; omega⟩ dX0_init_12 (fun nq H h => ?_)
      obtain ⟨hnq, h⟩ := h.pushQ
      refine z_dup X rfl dX0_init_15 ?_
      refine r_callINv (host := RX9) (rest := [.ref nq]) X K g h (ct_X5_init nq) (by decide) qc_X5_init qn_X5_init qi_X5_init rfl (by decide +kernel) ⟨rfl, rfl⟩ ⟨Nat.le_of_ble_eq_true rfl, Nat.le_of_ble_eq_true rfl⟩ rfl (lv_size hl) rfl (Nat.le_of_ble_eq_true rfl) dX0_init_16 ⟨by show i + 1 + 0 ≤ 100; omega, by show 3 * i + 3 + 0 ≤ 300; omega⟩ (fun w' H locs hp h => ?_)
      subst hp
      refine z_astore_n (i := 2) (lv' := [(2, .ref nq), (0, .ref q), (1, zI i)]) X hl rfl (by decide) dX0_init_19 rfl (fun ls hl => ?_)
      refine z_aload_n X hl 0 rfl rfl dX0_init_20 ?_
      refine z_aload_n X hl 1 rfl rfl dX0_init_21 ?_
      refine r_getQ X K h inX0 0 rfl rfl 2 (by decide) q_173 (v := va_rf r) rfl dX0_init_22 ?_
      refine r_putNQ (w := 0) (b := none) (n := none) (r := r) X K h (List.mem_append_right _ List.mem_cons_self) (if_pos rfl) q_163 dX0_init_25 (fun H locs h => ?_)
      rw [bx_uu] at h
      refine z_aload_n X hl 1 rfl rfl dX0_init_28 ?_
      refine z_aload_n X hl 0 rfl rfl dX0_init_29 ?_
      refine r_putQ X K h inX0 tyX0_ok nmX0 0 rfl rfl 2 (by decide) q_173 rfl rfl rfl (Nat.le_of_ble_eq_true rfl) dX0_init_30 (fun H locs h => ?_)
      refine z_iinc (i := 1) (lv' := [(1, zI ((i : Int) + 1)), (2, .ref nq), (0, .ref q)]) X hl 2 rfl (by decide) dX0_init_33 rfl (fun ls hl => ?_)
      refine z_goto (tgt := 6) X dX0_init_36 (by decide) ?_
      exact ih (i + 1) (some nq) (nq :: ns) (L1 ++ [nq]) (va_up f1 nq (ndE 0 none r)) H locs ls (by omega) (hsp.push hnq) h (lv_sub hl [2, 0] rfl)
  refine z_aload_n X hl 0 rfl rfl dX0_init_0 ?_
  refine r_objInit X qo_X0_init (lv_size hl) ⟨Nat.le_of_ble_eq_true rfl, Nat.le_of_ble_eq_true rfl⟩ dX0_init_1 ?_
  refine z_iconst X dX0_init_4 ?_
  refine z_istore_n (i := 1) (lv' := [(1, zI 0), (0, .ref q)]) X hl rfl (by decide) dX0_init_5 rfl (fun ls hl => ?_)
  exact key 100 0 none [] L f s.heap [] ls rfl ⟨rfl, List.nodup_nil, fun z => ⟨Or.inl, fun z => z.elim id (fun z => nomatch z)⟩, fun _ z => (nomatch z), fun _ _ => rfl, rfl⟩ h (lv_sub hl [1, 0] rfl)
