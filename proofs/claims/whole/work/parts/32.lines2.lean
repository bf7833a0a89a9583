/-! the chain of nodes, the line as a list -/
def w_X0_pass (post : Int → St → Prop) (u0 : St) (p1 : Int) : Prop :=
(InR p1) ∧ ((p1 = 0 → ((sR u0 2 = none → post (-2) u0) ∧
 (∀ q4 : Nat, sR u0 2 = some q4 → (∃ (w7 : Int) (b8 f9 : Option Nat), (q4 ∈ sL (pR u0 1 (sR u0 2))) ∧ (sF (pR u0 1 (sR u0 2)) q4 = ndE w7 b8 f9) ∧ (∃ (w13 : Int) (b14 f15 : Option Nat), (q4 ∈ sL (pI (pR (pR u0 1 (sR u0 2)) 2 f9) 12 ((sI u0 12) + 1))) ∧ (sF (pI (pR (pR u0 1 (sR u0 2)) 2 f9) 12 ((sI u0 12) + 1)) q4 = ndE w13 b14 f15) ∧ post w13 (pI (pR (pR u0 1 (sR u0 2)) 2 f9) 12 ((sI u0 12) + 1))))))) ∧
 (¬ p1 = 0 → ((sR u0 1 = none → post (-2) u0) ∧
 (∀ q19 : Nat, sR u0 1 = some q19 → (∃ (w21 : Int) (b22 f23 : Option Nat), (q19 ∈ sL u0) ∧ (sF u0 q19 = ndE w21 b22 f23) ∧ (∃ (w28 : Int) (b29 f30 : Option Nat), (q19 ∈ sL (pI (pR (pR u0 1 b22) 2 (sR u0 1)) 12 ((sI u0 12) + (-1)))) ∧ (sF (pI (pR (pR u0 1 b22) 2 (sR u0 1)) 12 ((sI u0 12) + (-1))) q19 = ndE w28 b29 f30) ∧ post w28 (pI (pR (pR u0 1 b22) 2 (sR u0 1)) 12 ((sI u0 12) + (-1)))))))))
abbrev rm_X0_pass : Room := { frames := 0, cells := 0, slots := 0, locals := 0 }
set_option maxRecDepth 100000 in
set_option maxHeartbeats 4000000 in
theorem ct_X0_pass {l : Launch} {G : Gr} {a : Nat → Nat} (u0 : St) (p1 : Int) (post : Int → St → Prop) (hw : w_X0_pass post u0 p1) : Ct l G yX0_pass (ws_ yX0_pass cX0_pass 3 (some .int)) rm_X0_pass [.ref (a 6), zI p1] (WC G a u0) 0 0 (Po (WC G a) post) := by
  refine Ct.of (by decide) (Nat.le_of_ble_eq_true rfl) ?_
  intro p e s m args below meth c ls X hr hlk K g h hl
  have hl : lv_has ls 3 [(0, .ref (a 6)), (1, zI p1)] := hl
  obtain ⟨H, hH⟩ : ∃ H, H = s.heap := ⟨_, rfl⟩
  obtain ⟨locs, hL⟩ : ∃ L : List Loc, L = [] := ⟨_, rfl⟩
  replace h : HW G (va_A (WC G a u0) s.heap.size) s.heap (WC G a u0) H locs := by rw [hH, hL]; exact h
  suffices hg : W p l e rm_X0_pass s m args below meth c H locs 0 0 (EndI G (WC G a u0) (Po (WC G a) post) args s 0 0 below) (F0 m 0 ls []) by rw [hH, hL] at hg; exact hg
  clear hH hL
  refine z_iload_n X hl 1 rfl rfl dX0_pass_0 ?_
  obtain ⟨h1, hw⟩ := hw
  refine z_if_eq (tgt := 11) X h1 dX0_pass_1 (by decide) (fun c2 => ?_) (fun c2 => ?_)
  · replace hw := hw.1 c2
    refine z_aload_n X hl 0 rfl rfl dX0_pass_11 ?_
    refine gC_X0_ahead (r := sR u0 2) X K h rfl q_172 dX0_pass_12 ?_
    refine z_astoreR_n (i := 2) (lv' := [(2, va_rf (sR u0 2)), (0, .ref (a 6)), (1, zI p1)]) X hl rfl (by decide) dX0_pass_15 rfl (fun ls hl => ?_)
    refine z_aloadR_n X hl 0 rfl rfl dX0_pass_16 ?_
    refine z_ifnonnull (tgt := 23) X dX0_pass_17 (by decide) (fun c3 => ?_) (fun q4 c3 => ?_)
    · replace hw := hw.1 c3
      refine z_bipush (v := (-2)) X dX0_pass_20 (by decide) ?_
      exact r_iret X hr hlk K h (Nat.le_refl _) (Nat.le_refl _) dX0_pass_22 ⟨_, rfl, hw⟩
    · replace hw := hw.2 q4 c3
      refine z_aload_n X hl 1 rfl rfl dX0_pass_23 ?_
      refine z_iload_n X hl 2 rfl rfl dX0_pass_24 ?_
      refine z_if_eq (tgt := 35) X h1 dX0_pass_25 (by decide) (fun _ => ?_) (fun c5 => absurd c5 (by omega))
      refine z_aloadR_n X hl 0 rfl rfl dX0_pass_35 ?_
      refine pC_X0_behind X K h q_171 dX0_pass_36 (fun H locs h => ?_)
      refine z_aload_n X hl 1 rfl rfl dX0_pass_39 ?_
      refine z_iload_n X hl 2 rfl rfl dX0_pass_40 ?_
      refine z_if_eq (tgt := 48) X h1 dX0_pass_41 (by decide) (fun _ => ?_) (fun c6 => absurd c6 (by omega))
      refine z_aloadR_n X hl 0 rfl rfl dX0_pass_48 ?_
      obtain ⟨w7, b8, f9, hL10, hF11, hw⟩ := hw
      refine gN_after X K h c3 hL10 hF11 q_163 dX0_pass_49 ?_
      refine pC_X0_ahead X K h q_172 dX0_pass_52 (fun H locs h => ?_)
      refine z_aload_n X hl 1 rfl rfl dX0_pass_55 ?_
      refine z_dup X rfl dX0_pass_56 ?_
      refine gC_X0_caret (x := sI u0 12) X K h rfl q_174 dX0_pass_57 ?_
      refine z_iload_n X hl 2 rfl rfl dX0_pass_60 ?_
      refine z_if_eq (tgt := 68) X h1 dX0_pass_61 (by decide) (fun _ => ?_) (fun c12 => absurd c12 (by omega))
      refine z_iconst X dX0_pass_68 ?_
      refine z_iadd X dX0_pass_69 ?_
      refine pC_X0_caret X K h q_174 dX0_pass_70 (fun H locs h => ?_)
      refine z_aloadR_n X hl 0 rfl rfl dX0_pass_73 ?_
      obtain ⟨w13, b14, f15, hL16, hF17, hw⟩ := hw
      refine gN_word X K h c3 hL16 hF17 q_161 dX0_pass_74 ?_
      exact r_iret X hr hlk K h (Nat.le_refl _) (Nat.le_refl _) dX0_pass_77 ⟨_, rfl, hw⟩
  · replace hw := hw.2 c2
    refine z_aload_n X hl 0 rfl rfl dX0_pass_4 ?_
    refine gC_X0_behind (r := sR u0 1) X K h rfl q_171 dX0_pass_5 ?_
    refine z_goto (tgt := 15) X dX0_pass_8 (by decide) ?_
    refine z_astoreR_n (i := 2) (lv' := [(2, va_rf (sR u0 1)), (0, .ref (a 6)), (1, zI p1)]) X hl rfl (by decide) dX0_pass_15 rfl (fun ls hl => ?_)
    refine z_aloadR_n X hl 0 rfl rfl dX0_pass_16 ?_
    refine z_ifnonnull (tgt := 23) X dX0_pass_17 (by decide) (fun c18 => ?_) (fun q19 c18 => ?_)
    · replace hw := hw.1 c18
      refine z_bipush (v := (-2)) X dX0_pass_20 (by decide) ?_
      exact r_iret X hr hlk K h (Nat.le_refl _) (Nat.le_refl _) dX0_pass_22 ⟨_, rfl, hw⟩
    · replace hw := hw.2 q19 c18
      refine z_aload_n X hl 1 rfl rfl dX0_pass_23 ?_
      refine z_iload_n X hl 2 rfl rfl dX0_pass_24 ?_
      refine z_if_eq (tgt := 35) X h1 dX0_pass_25 (by decide) (fun c20 => absurd c20 (by omega)) (fun _ => ?_)
      refine z_aloadR_n X hl 0 rfl rfl dX0_pass_28 ?_
      obtain ⟨w21, b22, f23, hL24, hF25, hw⟩ := hw
      refine gN_before X K h c18 hL24 hF25 q_162 dX0_pass_29 ?_
      refine z_goto (tgt := 36) X dX0_pass_32 (by decide) ?_
      refine pC_X0_behind X K h q_171 dX0_pass_36 (fun H locs h => ?_)
      refine z_aload_n X hl 1 rfl rfl dX0_pass_39 ?_
      refine z_iload_n X hl 2 rfl rfl dX0_pass_40 ?_
      refine z_if_eq (tgt := 48) X h1 dX0_pass_41 (by decide) (fun c26 => absurd c26 (by omega)) (fun _ => ?_)
      refine z_aloadR_n X hl 0 rfl rfl dX0_pass_44 ?_
      refine z_goto (tgt := 52) X dX0_pass_45 (by decide) ?_
      refine pC_X0_ahead X K h q_172 dX0_pass_52 (fun H locs h => ?_)
      refine z_aload_n X hl 1 rfl rfl dX0_pass_55 ?_
      refine z_dup X rfl dX0_pass_56 ?_
      refine gC_X0_caret (x := sI u0 12) X K h rfl q_174 dX0_pass_57 ?_
      refine z_iload_n X hl 2 rfl rfl dX0_pass_60 ?_
      refine z_if_eq (tgt := 68) X h1 dX0_pass_61 (by decide) (fun c27 => absurd c27 (by omega)) (fun _ => ?_)
      refine z_iconst X dX0_pass_64 ?_
      refine z_goto (tgt := 69) X dX0_pass_65 (by decide) ?_
      refine z_iadd X dX0_pass_69 ?_
      refine pC_X0_caret X K h q_174 dX0_pass_70 (fun H locs h => ?_)
      refine z_aloadR_n X hl 0 rfl rfl dX0_pass_73 ?_
      obtain ⟨w28, b29, f30, hL31, hF32, hw⟩ := hw
      refine gN_word X K h c18 hL31 hF32 q_161 dX0_pass_74 ?_
      exact r_iret X hr hlk K h (Nat.le_refl _) (Nat.le_refl _) dX0_pass_77 ⟨_, rfl, hw⟩
def w_X0_join (post : St → Prop) (u0 : St) (p0 : Option Nat) (p1 : Option Nat) : Prop :=
((p0 = none → ((p1 = none → post u0) ∧
 (∀ q4 : Nat, p1 = some q4 → (∃ (w5 : Int) (b6 f7 : Option Nat), (q4 ∈ sL u0) ∧ (sF u0 q4 = ndE w5 b6 f7) ∧ post (pF u0 q4 (ndE w5 p0 f7)))))) ∧
 (∀ q2 : Nat, p0 = some q2 → (∃ (w10 : Int) (b11 f12 : Option Nat), (q2 ∈ sL u0) ∧ (sF u0 q2 = ndE w10 b11 f12) ∧ ((p1 = none → post (pF u0 q2 (ndE w10 b11 p1))) ∧
 (∀ q16 : Nat, p1 = some q16 → (∃ (w17 : Int) (b18 f19 : Option Nat), (q16 ∈ sL (pF u0 q2 (ndE w10 b11 p1))) ∧ (sF (pF u0 q2 (ndE w10 b11 p1)) q16 = ndE w17 b18 f19) ∧ post (pF (pF u0 q2 (ndE w10 b11 p1)) q16 (ndE w17 p0 f19))))))))
abbrev rm_X0_join : Room := { frames := 0, cells := 0, slots := 0, locals := 0 }
set_option maxRecDepth 100000 in
set_option maxHeartbeats 4000000 in
theorem ct_X0_join {l : Launch} {G : Gr} {a : Nat → Nat} (u0 : St) (p0 : Option Nat) (p1 : Option Nat) (post : St → Prop) (hw : w_X0_join post u0 p0 p1) : CtV l G yX0_join (ws_ yX0_join cX0_join 2 (none)) rm_X0_join [va_rf p0, va_rf p1] (WC G a u0) 0 0 (PoV (WC G a) post) := by
  refine CtV.of (by decide) (by simp [lg_sl, rf_cat, zI_cat, ref_cat]) ?_
  intro p e s m args below meth c ls X hr hlk K g h hl
  have hl : lv_has ls 2 [(0, va_rf p0), (1, va_rf p1)] := by simpa [lv_args, rf_cat, zI_cat, ref_cat] using hl
  obtain ⟨H, hH⟩ : ∃ H, H = s.heap := ⟨_, rfl⟩
  obtain ⟨locs, hL⟩ : ∃ L : List Loc, L = [] := ⟨_, rfl⟩
  replace h : HW G (va_A (WC G a u0) s.heap.size) s.heap (WC G a u0) H locs := by rw [hH, hL]; exact h
  suffices hg : W p l e rm_X0_join s m args below meth c H locs 0 0 (EndV G (WC G a u0) (PoV (WC G a) post) args s 0 0 below) (F0 m 0 ls []) by rw [hH, hL] at hg; exact hg
  clear hH hL
  refine z_aloadR_n X hl 0 rfl rfl dX0_join_0 ?_
  refine z_ifnull (tgt := 9) X dX0_join_1 (by decide) (fun c1 => ?_) (fun q2 c1 => ?_)
  · replace hw := hw.1 c1
    refine z_aloadR_n X hl 1 rfl rfl dX0_join_9 ?_
    refine z_ifnull (tgt := 18) X dX0_join_10 (by decide) (fun c3 => ?_) (fun q4 c3 => ?_)
    · replace hw := hw.1 c3
      exact r_vret X hr hlk K h (Nat.le_refl _) (Nat.le_refl _) dX0_join_18 ⟨_, rfl, hw⟩
    · replace hw := hw.2 q4 c3
      refine z_aloadR_n X hl 1 rfl rfl dX0_join_13 ?_
      refine z_aloadR_n X hl 0 rfl rfl dX0_join_14 ?_
      obtain ⟨w5, b6, f7, hL8, hF9, hw⟩ := hw
      refine pN_before X K h c3 hL8 hF9 q_162 dX0_join_15 (fun H locs h => ?_)
      exact r_vret X hr hlk K h (Nat.le_refl _) (Nat.le_refl _) dX0_join_18 ⟨_, rfl, hw⟩
  · replace hw := hw.2 q2 c1
    refine z_aloadR_n X hl 0 rfl rfl dX0_join_4 ?_
    refine z_aloadR_n X hl 1 rfl rfl dX0_join_5 ?_
    obtain ⟨w10, b11, f12, hL13, hF14, hw⟩ := hw
    refine pN_after X K h c1 hL13 hF14 q_163 dX0_join_6 (fun H locs h => ?_)
    refine z_aloadR_n X hl 1 rfl rfl dX0_join_9 ?_
    refine z_ifnull (tgt := 18) X dX0_join_10 (by decide) (fun c15 => ?_) (fun q16 c15 => ?_)
    · replace hw := hw.1 c15
      exact r_vret X hr hlk K h (Nat.le_refl _) (Nat.le_refl _) dX0_join_18 ⟨_, rfl, hw⟩
    · replace hw := hw.2 q16 c15
      refine z_aloadR_n X hl 1 rfl rfl dX0_join_13 ?_
      refine z_aloadR_n X hl 0 rfl rfl dX0_join_14 ?_
      obtain ⟨w17, b18, f19, hL20, hF21, hw⟩ := hw
      refine pN_before X K h c15 hL20 hF21 q_162 dX0_join_15 (fun H locs h => ?_)
      exact r_vret X hr hlk K h (Nat.le_refl _) (Nat.le_refl _) dX0_join_18 ⟨_, rfl, hw⟩
def w_X0_insert (post : Int → St → Prop) (u0 : St) (p1 : Int) : Prop :=
((sR u0 3 = none → post (-5) u0) ∧
 (∀ q2 : Nat, sR u0 3 = some q2 → (∃ (w3 : Int) (b4 f5 : Option Nat), (q2 ∈ sL u0) ∧ (sF u0 q2 = ndE w3 b4 f5) ∧ (∃ (w8 : Int) (b9 f10 : Option Nat), (q2 ∈ sL (pR u0 3 f5)) ∧ (sF (pR u0 3 f5) q2 = ndE w8 b9 f10) ∧ (w_X0_join (fun  (u13 : St) => (w_X0_join (fun  (u14 : St) => post ((sI u14 13) + 1) (pI (pI (pR u14 1 (sR u0 3)) 12 ((sI u14 12) + 1)) 13 ((sI u14 13) + 1))) u13 (sR u0 3) (sR u13 2))) (pF (pR u0 3 f5) q2 (ndE p1 b9 f10)) (sR u0 1) (sR u0 3))))))
abbrev rm_X0_insert : Room := { frames := 1, cells := 0, slots := 0, locals := 21 }
set_option maxRecDepth 100000 in
set_option maxHeartbeats 4000000 in
theorem ct_X0_insert {l : Launch} {G : Gr} {a : Nat → Nat} (u0 : St) (p1 : Int) (post : Int → St → Prop) (hw : w_X0_insert post u0 p1) : Ct l G yX0_insert (ws_ yX0_insert cX0_insert 3 (some .int)) rm_X0_insert [.ref (a 6), zI p1] (WC G a u0) 0 0 (Po (WC G a) post) := by
  refine Ct.of (by decide) (Nat.le_of_ble_eq_true rfl) ?_
  intro p e s m args below meth c ls X hr hlk K g h hl
  have hl : lv_has ls 3 [(0, .ref (a 6)), (1, zI p1)] := hl
  obtain ⟨H, hH⟩ : ∃ H, H = s.heap := ⟨_, rfl⟩
  obtain ⟨locs, hL⟩ : ∃ L : List Loc, L = [] := ⟨_, rfl⟩
  replace h : HW G (va_A (WC G a u0) s.heap.size) s.heap (WC G a u0) H locs := by rw [hH, hL]; exact h
  suffices hg : W p l e rm_X0_insert s m args below meth c H locs 0 0 (EndI G (WC G a u0) (Po (WC G a) post) args s 0 0 below) (F0 m 0 ls []) by rw [hH, hL] at hg; exact hg
  clear hH hL
  refine z_aload_n X hl 0 rfl rfl dX0_insert_0 ?_
  refine gC_X0_spare (r := sR u0 3) X K h rfl q_173 dX0_insert_1 ?_
  refine z_astoreR_n (i := 2) (lv' := [(2, va_rf (sR u0 3)), (0, .ref (a 6)), (1, zI p1)]) X hl rfl (by decide) dX0_insert_4 rfl (fun ls hl => ?_)
  refine z_aloadR_n X hl 0 rfl rfl dX0_insert_5 ?_
  refine z_ifnonnull (tgt := 12) X dX0_insert_6 (by decide) (fun c1 => ?_) (fun q2 c1 => ?_)
  · replace hw := hw.1 c1
    refine z_bipush (v := (-5)) X dX0_insert_9 (by decide) ?_
    exact r_iret X hr hlk K h (Nat.le_refl _) (Nat.le_refl _) dX0_insert_11 ⟨_, rfl, hw⟩
  · replace hw := hw.2 q2 c1
    refine z_aload_n X hl 1 rfl rfl dX0_insert_12 ?_
    refine z_aloadR_n X hl 0 rfl rfl dX0_insert_13 ?_
    obtain ⟨w3, b4, f5, hL6, hF7, hw⟩ := hw
    refine gN_after X K h c1 hL6 hF7 q_163 dX0_insert_14 ?_
    refine pC_X0_spare X K h q_173 dX0_insert_17 (fun H locs h => ?_)
    refine z_aloadR_n X hl 0 rfl rfl dX0_insert_20 ?_
    refine z_iload_n X hl 2 rfl rfl dX0_insert_21 ?_
    obtain ⟨w8, b9, f10, hL11, hF12, hw⟩ := hw
    refine pN_word X K h c1 hL11 hF12 q_161 dX0_insert_22 (fun H locs h => ?_)
    refine z_aload_n X hl 1 rfl rfl dX0_insert_25 ?_
    refine gC_X0_behind (r := sR u0 1) X K h rfl q_171 dX0_insert_26 ?_
    refine z_aloadR_n X hl 0 rfl rfl dX0_insert_29 ?_
    refine r_callSv (rest := []) X K g h (ct_X0_join (pF (pR u0 3 f5) q2 (ndE p1 b9 f10)) (sR u0 1) (sR u0 3) _ hw) lk_X0_37 ⟨rfl, rfl⟩ ⟨Nat.le_of_ble_eq_true rfl, Nat.le_of_ble_eq_true rfl⟩ rfl (lv_size hl) rfl (Nat.le_of_ble_eq_true rfl) dX0_insert_30 ⟨Nat.le_of_ble_eq_true rfl, Nat.le_of_ble_eq_true rfl⟩ (fun w' H locs hp h => ?_)
    obtain ⟨u13, rfl, hw⟩ := hp
    refine z_aloadR_n X hl 0 rfl rfl dX0_insert_33 ?_
    refine z_aload_n X hl 1 rfl rfl dX0_insert_34 ?_
    refine gC_X0_ahead (r := sR u13 2) X K h rfl q_172 dX0_insert_35 ?_
    refine r_callSv (rest := []) X K g h (ct_X0_join u13 (sR u0 3) (sR u13 2) _ hw) lk_X0_37 ⟨rfl, rfl⟩ ⟨Nat.le_of_ble_eq_true rfl, Nat.le_of_ble_eq_true rfl⟩ rfl (lv_size hl) rfl (Nat.le_of_ble_eq_true rfl) dX0_insert_38 ⟨Nat.le_of_ble_eq_true rfl, Nat.le_of_ble_eq_true rfl⟩ (fun w' H locs hp h => ?_)
    obtain ⟨u14, rfl, hw⟩ := hp
    refine z_aload_n X hl 1 rfl rfl dX0_insert_41 ?_
    refine z_aloadR_n X hl 0 rfl rfl dX0_insert_42 ?_
    refine pC_X0_behind X K h q_171 dX0_insert_43 (fun H locs h => ?_)
    refine z_aload_n X hl 1 rfl rfl dX0_insert_46 ?_
    refine z_dup X rfl dX0_insert_47 ?_
    refine gC_X0_caret (x := sI u14 12) X K h rfl q_174 dX0_insert_48 ?_
    refine z_iconst X dX0_insert_51 ?_
    refine z_iadd X dX0_insert_52 ?_
    refine pC_X0_caret X K h q_174 dX0_insert_53 (fun H locs h => ?_)
    refine z_aload_n X hl 1 rfl rfl dX0_insert_56 ?_
    refine z_dup X rfl dX0_insert_57 ?_
    refine gC_X0_count (x := sI u14 13) X K h rfl q_176 dX0_insert_58 ?_
    refine z_iconst X dX0_insert_61 ?_
    refine z_iadd X dX0_insert_62 ?_
    refine pC_X0_count X K h q_176 dX0_insert_63 (fun H locs h => ?_)
    refine z_aload_n X hl 1 rfl rfl dX0_insert_66 ?_
    refine gC_X0_count (x := (sI u14 13) + 1) X K h rfl q_176 dX0_insert_67 ?_
    exact r_iret X hr hlk K h (Nat.le_refl _) (Nat.le_refl _) dX0_insert_70 ⟨_, rfl, hw⟩
def w_X0_exchange (post : Int → St → Prop) (u0 : St) (p1 : Int) (p2 : Int) : Prop :=
(InR p2) ∧ ((p2 = 0 → ((sR u0 2 = none → post (-3) u0) ∧
 (∀ q4 : Nat, sR u0 2 = some q4 → (∃ (w5 : Int) (b6 f7 : Option Nat), (q4 ∈ sL u0) ∧ (sF u0 q4 = ndE w5 b6 f7) ∧ post w5 (pF u0 q4 (ndE p1 b6 f7)))))) ∧
 (¬ p2 = 0 → ((sR u0 1 = none → post (-3) u0) ∧
 (∀ q11 : Nat, sR u0 1 = some q11 → (∃ (w12 : Int) (b13 f14 : Option Nat), (q11 ∈ sL u0) ∧ (sF u0 q11 = ndE w12 b13 f14) ∧ post w12 (pF u0 q11 (ndE p1 b13 f14)))))))
abbrev rm_X0_exchange : Room := { frames := 0, cells := 0, slots := 0, locals := 0 }
set_option maxRecDepth 100000 in
set_option maxHeartbeats 4000000 in
theorem ct_X0_exchange {l : Launch} {G : Gr} {a : Nat → Nat} (u0 : St) (p1 : Int) (p2 : Int) (post : Int → St → Prop) (hw : w_X0_exchange post u0 p1 p2) : Ct l G yX0_exchange (ws_ yX0_exchange cX0_exchange 5 (some .int)) rm_X0_exchange [.ref (a 6), zI p1, zI p2] (WC G a u0) 0 0 (Po (WC G a) post) := by
  refine Ct.of (by decide) (Nat.le_of_ble_eq_true rfl) ?_
  intro p e s m args below meth c ls X hr hlk K g h hl
  have hl : lv_has ls 5 [(0, .ref (a 6)), (1, zI p1), (2, zI p2)] := hl
  obtain ⟨H, hH⟩ : ∃ H, H = s.heap := ⟨_, rfl⟩
  obtain ⟨locs, hL⟩ : ∃ L : List Loc, L = [] := ⟨_, rfl⟩
  replace h : HW G (va_A (WC G a u0) s.heap.size) s.heap (WC G a u0) H locs := by rw [hH, hL]; exact h
  suffices hg : W p l e rm_X0_exchange s m args below meth c H locs 0 0 (EndI G (WC G a u0) (Po (WC G a) post) args s 0 0 below) (F0 m 0 ls []) by rw [hH, hL] at hg; exact hg
  clear hH hL
  refine z_iload_n X hl 2 rfl rfl dX0_exchange_0 ?_
  obtain ⟨h1, hw⟩ := hw
  refine z_if_eq (tgt := 11) X h1 dX0_exchange_1 (by decide) (fun c2 => ?_) (fun c2 => ?_)
  · replace hw := hw.1 c2
    refine z_aload_n X hl 0 rfl rfl dX0_exchange_11 ?_
    refine gC_X0_ahead (r := sR u0 2) X K h rfl q_172 dX0_exchange_12 ?_
    refine z_astoreR_n (i := 3) (lv' := [(3, va_rf (sR u0 2)), (0, .ref (a 6)), (1, zI p1), (2, zI p2)]) X hl rfl (by decide) dX0_exchange_15 rfl (fun ls hl => ?_)
    refine z_aloadR_n X hl 0 rfl rfl dX0_exchange_16 ?_
    refine z_ifnonnull (tgt := 23) X dX0_exchange_17 (by decide) (fun c3 => ?_) (fun q4 c3 => ?_)
    · replace hw := hw.1 c3
      refine z_bipush (v := (-3)) X dX0_exchange_20 (by decide) ?_
      exact r_iret X hr hlk K h (Nat.le_refl _) (Nat.le_refl _) dX0_exchange_22 ⟨_, rfl, hw⟩
    · replace hw := hw.2 q4 c3
      refine z_aloadR_n X hl 0 rfl rfl dX0_exchange_23 ?_
      obtain ⟨w5, b6, f7, hL8, hF9, hw⟩ := hw
      refine gN_word X K h c3 hL8 hF9 q_161 dX0_exchange_24 ?_
      refine z_istore (i := 4) (lv' := [(4, zI w5), (3, va_rf (sR u0 2)), (0, .ref (a 6)), (1, zI p1), (2, zI p2)]) X hl (by decide) dX0_exchange_27 (by simp [List.filter, rf_cat, zI_cat, ref_cat]) (fun ls hl => ?_)
      refine z_aloadR_n X hl 1 rfl rfl dX0_exchange_29 ?_
      refine z_iload_n X hl 3 rfl rfl dX0_exchange_30 ?_
      refine pN_word X K h c3 hL8 hF9 q_161 dX0_exchange_31 (fun H locs h => ?_)
      refine z_iload X hl 0 rfl dX0_exchange_34 ?_
      exact r_iret X hr hlk K h (Nat.le_refl _) (Nat.le_refl _) dX0_exchange_36 ⟨_, rfl, hw⟩
  · replace hw := hw.2 c2
    refine z_aload_n X hl 0 rfl rfl dX0_exchange_4 ?_
    refine gC_X0_behind (r := sR u0 1) X K h rfl q_171 dX0_exchange_5 ?_
    refine z_goto (tgt := 15) X dX0_exchange_8 (by decide) ?_
    refine z_astoreR_n (i := 3) (lv' := [(3, va_rf (sR u0 1)), (0, .ref (a 6)), (1, zI p1), (2, zI p2)]) X hl rfl (by decide) dX0_exchange_15 rfl (fun ls hl => ?_)
    refine z_aloadR_n X hl 0 rfl rfl dX0_exchange_16 ?_
    refine z_ifnonnull (tgt := 23) X dX0_exchange_17 (by decide) (fun c10 => ?_) (fun q11 c10 => ?_)
    · replace hw := hw.1 c10
      refine z_bipush (v := (-3)) X dX0_exchange_20 (by decide) ?_
      exact r_iret X hr hlk K h (Nat.le_refl _) (Nat.le_refl _) dX0_exchange_22 ⟨_, rfl, hw⟩
    · replace hw := hw.2 q11 c10
      refine z_aloadR_n X hl 0 rfl rfl dX0_exchange_23 ?_
      obtain ⟨w12, b13, f14, hL15, hF16, hw⟩ := hw
      refine gN_word X K h c10 hL15 hF16 q_161 dX0_exchange_24 ?_
      refine z_istore (i := 4) (lv' := [(4, zI w12), (3, va_rf (sR u0 1)), (0, .ref (a 6)), (1, zI p1), (2, zI p2)]) X hl (by decide) dX0_exchange_27 (by simp [List.filter, rf_cat, zI_cat, ref_cat]) (fun ls hl => ?_)
      refine z_aloadR_n X hl 1 rfl rfl dX0_exchange_29 ?_
      refine z_iload_n X hl 3 rfl rfl dX0_exchange_30 ?_
      refine pN_word X K h c10 hL15 hF16 q_161 dX0_exchange_31 (fun H locs h => ?_)
      refine z_iload X hl 0 rfl dX0_exchange_34 ?_
      exact r_iret X hr hlk K h (Nat.le_refl _) (Nat.le_refl _) dX0_exchange_36 ⟨_, rfl, hw⟩
def w_X0_drop (post : Int → St → Prop) (u0 : St) (p1 : Int) : Prop :=
(InR p1) ∧ ((p1 = 0 → ((sR u0 2 = none → post (-3) u0) ∧
 (∀ q4 : Nat, sR u0 2 = some q4 → (∃ (w7 : Int) (b8 f9 : Option Nat), (q4 ∈ sL (pR u0 1 (sR u0 1))) ∧ (sF (pR u0 1 (sR u0 1)) q4 = ndE w7 b8 f9) ∧ (w_X0_join (fun  (u12 : St) => (∃ (w13 : Int) (b14 f15 : Option Nat), (q4 ∈ sL u12) ∧ (sF u12 q4 = ndE w13 b14 f15) ∧ (∃ (w18 : Int) (b19 f20 : Option Nat), (q4 ∈ sL (pF u12 q4 (ndE w13 none f15))) ∧ (sF (pF u12 q4 (ndE w13 none f15)) q4 = ndE w18 b19 f20) ∧ (∃ (w24 : Int) (b25 f26 : Option Nat), (q4 ∈ sL (pI (pI (pR (pF (pF u12 q4 (ndE w13 none f15)) q4 (ndE w18 b19 (sR u12 3))) 3 (sR u0 2)) 12 ((sI u12 12) - 0)) 13 ((sI u12 13) - 1))) ∧ (sF (pI (pI (pR (pF (pF u12 q4 (ndE w13 none f15)) q4 (ndE w18 b19 (sR u12 3))) 3 (sR u0 2)) 12 ((sI u12 12) - 0)) 13 ((sI u12 13) - 1)) q4 = ndE w24 b25 f26) ∧ post w24 (pI (pI (pR (pF (pF u12 q4 (ndE w13 none f15)) q4 (ndE w18 b19 (sR u12 3))) 3 (sR u0 2)) 12 ((sI u12 12) - 0)) 13 ((sI u12 13) - 1)))))) (pR (pR u0 1 (sR u0 1)) 2 f9) (sR u0 1) f9))))) ∧
 (¬ p1 = 0 → ((sR u0 1 = none → post (-3) u0) ∧
 (∀ q30 : Nat, sR u0 1 = some q30 → (∃ (w32 : Int) (b33 f34 : Option Nat), (q30 ∈ sL u0) ∧ (sF u0 q30 = ndE w32 b33 f34) ∧ (w_X0_join (fun  (u38 : St) => (∃ (w39 : Int) (b40 f41 : Option Nat), (q30 ∈ sL u38) ∧ (sF u38 q30 = ndE w39 b40 f41) ∧ (∃ (w44 : Int) (b45 f46 : Option Nat), (q30 ∈ sL (pF u38 q30 (ndE w39 none f41))) ∧ (sF (pF u38 q30 (ndE w39 none f41)) q30 = ndE w44 b45 f46) ∧ (∃ (w50 : Int) (b51 f52 : Option Nat), (q30 ∈ sL (pI (pI (pR (pF (pF u38 q30 (ndE w39 none f41)) q30 (ndE w44 b45 (sR u38 3))) 3 (sR u0 1)) 12 ((sI u38 12) - 1)) 13 ((sI u38 13) - 1))) ∧ (sF (pI (pI (pR (pF (pF u38 q30 (ndE w39 none f41)) q30 (ndE w44 b45 (sR u38 3))) 3 (sR u0 1)) 12 ((sI u38 12) - 1)) 13 ((sI u38 13) - 1)) q30 = ndE w50 b51 f52) ∧ post w50 (pI (pI (pR (pF (pF u38 q30 (ndE w39 none f41)) q30 (ndE w44 b45 (sR u38 3))) 3 (sR u0 1)) 12 ((sI u38 12) - 1)) 13 ((sI u38 13) - 1)))))) (pR (pR u0 1 b33) 2 (sR u0 2)) b33 (sR u0 2)))))))
abbrev rm_X0_drop : Room := { frames := 1, cells := 0, slots := 0, locals := 21 }
set_option maxRecDepth 100000 in
set_option maxHeartbeats 4000000 in
theorem ct_X0_drop {l : Launch} {G : Gr} {a : Nat → Nat} (u0 : St) (p1 : Int) (post : Int → St → Prop) (hw : w_X0_drop post u0 p1) : Ct l G yX0_drop (ws_ yX0_drop cX0_drop 3 (some .int)) rm_X0_drop [.ref (a 6), zI p1] (WC G a u0) 0 0 (Po (WC G a) post) := by
  refine Ct.of (by decide) (Nat.le_of_ble_eq_true rfl) ?_
  intro p e s m args below meth c ls X hr hlk K g h hl
  have hl : lv_has ls 3 [(0, .ref (a 6)), (1, zI p1)] := hl
  obtain ⟨H, hH⟩ : ∃ H, H = s.heap := ⟨_, rfl⟩
  obtain ⟨locs, hL⟩ : ∃ L : List Loc, L = [] := ⟨_, rfl⟩
  replace h : HW G (va_A (WC G a u0) s.heap.size) s.heap (WC G a u0) H locs := by rw [hH, hL]; exact h
  suffices hg : W p l e rm_X0_drop s m args below meth c H locs 0 0 (EndI G (WC G a u0) (Po (WC G a) post) args s 0 0 below) (F0 m 0 ls []) by rw [hH, hL] at hg; exact hg
  clear hH hL
  refine z_iload_n X hl 1 rfl rfl dX0_drop_0 ?_
  obtain ⟨h1, hw⟩ := hw
  refine z_if_eq (tgt := 11) X h1 dX0_drop_1 (by decide) (fun c2 => ?_) (fun c2 => ?_)
  · replace hw := hw.1 c2
    refine z_aload_n X hl 0 rfl rfl dX0_drop_11 ?_
    refine gC_X0_ahead (r := sR u0 2) X K h rfl q_172 dX0_drop_12 ?_
    refine z_astoreR_n (i := 2) (lv' := [(2, va_rf (sR u0 2)), (0, .ref (a 6)), (1, zI p1)]) X hl rfl (by decide) dX0_drop_15 rfl (fun ls hl => ?_)
    refine z_aloadR_n X hl 0 rfl rfl dX0_drop_16 ?_
    refine z_ifnonnull (tgt := 23) X dX0_drop_17 (by decide) (fun c3 => ?_) (fun q4 c3 => ?_)
    · replace hw := hw.1 c3
      refine z_bipush (v := (-3)) X dX0_drop_20 (by decide) ?_
      exact r_iret X hr hlk K h (Nat.le_refl _) (Nat.le_refl _) dX0_drop_22 ⟨_, rfl, hw⟩
    · replace hw := hw.2 q4 c3
      refine z_aload_n X hl 1 rfl rfl dX0_drop_23 ?_
      refine z_iload_n X hl 2 rfl rfl dX0_drop_24 ?_
      refine z_if_eq (tgt := 35) X h1 dX0_drop_25 (by decide) (fun _ => ?_) (fun c5 => absurd c5 (by omega))
      refine z_aload_n X hl 1 rfl rfl dX0_drop_35 ?_
      refine gC_X0_behind (r := sR u0 1) X K h rfl q_171 dX0_drop_36 ?_
      refine pC_X0_behind X K h q_171 dX0_drop_39 (fun H locs h => ?_)
      refine z_aload_n X hl 1 rfl rfl dX0_drop_42 ?_
      refine z_iload_n X hl 2 rfl rfl dX0_drop_43 ?_
      refine z_if_eq (tgt := 54) X h1 dX0_drop_44 (by decide) (fun _ => ?_) (fun c6 => absurd c6 (by omega))
      refine z_aloadR_n X hl 0 rfl rfl dX0_drop_54 ?_
      obtain ⟨w7, b8, f9, hL10, hF11, hw⟩ := hw
      refine gN_after X K h c3 hL10 hF11 q_163 dX0_drop_55 ?_
      refine pC_X0_ahead X K h q_172 dX0_drop_58 (fun H locs h => ?_)
      refine z_aload_n X hl 1 rfl rfl dX0_drop_61 ?_
      refine gC_X0_behind (r := sR u0 1) X K h rfl q_171 dX0_drop_62 ?_
      refine z_aload_n X hl 1 rfl rfl dX0_drop_65 ?_
      refine gC_X0_ahead (r := f9) X K h rfl q_172 dX0_drop_66 ?_
      refine r_callSv (rest := []) X K g h (ct_X0_join (pR (pR u0 1 (sR u0 1)) 2 f9) (sR u0 1) f9 _ hw) lk_X0_37 ⟨rfl, rfl⟩ ⟨Nat.le_of_ble_eq_true rfl, Nat.le_of_ble_eq_true rfl⟩ rfl (lv_size hl) rfl (Nat.le_of_ble_eq_true rfl) dX0_drop_69 ⟨Nat.le_of_ble_eq_true rfl, Nat.le_of_ble_eq_true rfl⟩ (fun w' H locs hp h => ?_)
      obtain ⟨u12, rfl, hw⟩ := hp
      refine z_aloadR_n X hl 0 rfl rfl dX0_drop_72 ?_
      refine z_null X dX0_drop_73 ?_
      obtain ⟨w13, b14, f15, hL16, hF17, hw⟩ := hw
      refine pN_before X K h c3 hL16 hF17 q_162 dX0_drop_74 (fun H locs h => ?_)
      refine z_aloadR_n X hl 0 rfl rfl dX0_drop_77 ?_
      refine z_aload_n X hl 1 rfl rfl dX0_drop_78 ?_
      refine gC_X0_spare (r := sR u12 3) X K h rfl q_173 dX0_drop_79 ?_
      obtain ⟨w18, b19, f20, hL21, hF22, hw⟩ := hw
      refine pN_after X K h c3 hL21 hF22 q_163 dX0_drop_82 (fun H locs h => ?_)
      refine z_aload_n X hl 1 rfl rfl dX0_drop_85 ?_
      refine z_aloadR_n X hl 0 rfl rfl dX0_drop_86 ?_
      refine pC_X0_spare X K h q_173 dX0_drop_87 (fun H locs h => ?_)
      refine z_aload_n X hl 1 rfl rfl dX0_drop_90 ?_
      refine z_dup X rfl dX0_drop_91 ?_
      refine gC_X0_caret (x := sI u12 12) X K h rfl q_174 dX0_drop_92 ?_
      refine z_iload_n X hl 2 rfl rfl dX0_drop_95 ?_
      refine z_if_eq (tgt := 103) X h1 dX0_drop_96 (by decide) (fun _ => ?_) (fun c23 => absurd c23 (by omega))
      refine z_iconst X dX0_drop_103 ?_
      refine z_isub X dX0_drop_104 ?_
      refine pC_X0_caret X K h q_174 dX0_drop_105 (fun H locs h => ?_)
      refine z_aload_n X hl 1 rfl rfl dX0_drop_108 ?_
      refine z_dup X rfl dX0_drop_109 ?_
      refine gC_X0_count (x := sI u12 13) X K h rfl q_176 dX0_drop_110 ?_
      refine z_iconst X dX0_drop_113 ?_
      refine z_isub X dX0_drop_114 ?_
      refine pC_X0_count X K h q_176 dX0_drop_115 (fun H locs h => ?_)
      refine z_aloadR_n X hl 0 rfl rfl dX0_drop_118 ?_
      obtain ⟨w24, b25, f26, hL27, hF28, hw⟩ := hw
      refine gN_word X K h c3 hL27 hF28 q_161 dX0_drop_119 ?_
      exact r_iret X hr hlk K h (Nat.le_refl _) (Nat.le_refl _) dX0_drop_122 ⟨_, rfl, hw⟩
  · replace hw := hw.2 c2
    refine z_aload_n X hl 0 rfl rfl dX0_drop_4 ?_
    refine gC_X0_behind (r := sR u0 1) X K h rfl q_171 dX0_drop_5 ?_
    refine z_goto (tgt := 15) X dX0_drop_8 (by decide) ?_
    refine z_astoreR_n (i := 2) (lv' := [(2, va_rf (sR u0 1)), (0, .ref (a 6)), (1, zI p1)]) X hl rfl (by decide) dX0_drop_15 rfl (fun ls hl => ?_)
    refine z_aloadR_n X hl 0 rfl rfl dX0_drop_16 ?_
    refine z_ifnonnull (tgt := 23) X dX0_drop_17 (by decide) (fun c29 => ?_) (fun q30 c29 => ?_)
    · replace hw := hw.1 c29
      refine z_bipush (v := (-3)) X dX0_drop_20 (by decide) ?_
      exact r_iret X hr hlk K h (Nat.le_refl _) (Nat.le_refl _) dX0_drop_22 ⟨_, rfl, hw⟩
    · replace hw := hw.2 q30 c29
      refine z_aload_n X hl 1 rfl rfl dX0_drop_23 ?_
      refine z_iload_n X hl 2 rfl rfl dX0_drop_24 ?_
      refine z_if_eq (tgt := 35) X h1 dX0_drop_25 (by decide) (fun c31 => absurd c31 (by omega)) (fun _ => ?_)
      refine z_aloadR_n X hl 0 rfl rfl dX0_drop_28 ?_
      obtain ⟨w32, b33, f34, hL35, hF36, hw⟩ := hw
      refine gN_before X K h c29 hL35 hF36 q_162 dX0_drop_29 ?_
      refine z_goto (tgt := 39) X dX0_drop_32 (by decide) ?_
      refine pC_X0_behind X K h q_171 dX0_drop_39 (fun H locs h => ?_)
      refine z_aload_n X hl 1 rfl rfl dX0_drop_42 ?_
      refine z_iload_n X hl 2 rfl rfl dX0_drop_43 ?_
      refine z_if_eq (tgt := 54) X h1 dX0_drop_44 (by decide) (fun c37 => absurd c37 (by omega)) (fun _ => ?_)
      refine z_aload_n X hl 1 rfl rfl dX0_drop_47 ?_
      refine gC_X0_ahead (r := sR u0 2) X K h rfl q_172 dX0_drop_48 ?_
      refine z_goto (tgt := 58) X dX0_drop_51 (by decide) ?_
      refine pC_X0_ahead X K h q_172 dX0_drop_58 (fun H locs h => ?_)
      refine z_aload_n X hl 1 rfl rfl dX0_drop_61 ?_
      refine gC_X0_behind (r := b33) X K h rfl q_171 dX0_drop_62 ?_
      refine z_aload_n X hl 1 rfl rfl dX0_drop_65 ?_
      refine gC_X0_ahead (r := sR u0 2) X K h rfl q_172 dX0_drop_66 ?_
      refine r_callSv (rest := []) X K g h (ct_X0_join (pR (pR u0 1 b33) 2 (sR u0 2)) b33 (sR u0 2) _ hw) lk_X0_37 ⟨rfl, rfl⟩ ⟨Nat.le_of_ble_eq_true rfl, Nat.le_of_ble_eq_true rfl⟩ rfl (lv_size hl) rfl (Nat.le_of_ble_eq_true rfl) dX0_drop_69 ⟨Nat.le_of_ble_eq_true rfl, Nat.le_of_ble_eq_true rfl⟩ (fun w' H locs hp h => ?_)
      obtain ⟨u38, rfl, hw⟩ := hp
      refine z_aloadR_n X hl 0 rfl rfl dX0_drop_72 ?_
      refine z_null X dX0_drop_73 ?_
      obtain ⟨w39, b40, f41, hL42, hF43, hw⟩ := hw
      refine pN_before X K h c29 hL42 hF43 q_162 dX0_drop_74 (fun H locs h => ?_)
      refine z_aloadR_n X hl 0 rfl rfl dX0_drop_77 ?_
      refine z_aload_n X hl 1 rfl rfl dX0_drop_78 ?_
      refine gC_X0_spare (r := sR u38 3) X K h rfl q_173 dX0_drop_79 ?_
      obtain ⟨w44, b45, f46, hL47, hF48, hw⟩ := hw
      refine pN_after X K h c29 hL47 hF48 q_163 dX0_drop_82 (fun H locs h => ?_)
      refine z_aload_n X hl 1 rfl rfl dX0_drop_85 ?_
      refine z_aloadR_n X hl 0 rfl rfl dX0_drop_86 ?_
      refine pC_X0_spare X K h q_173 dX0_drop_87 (fun H locs h => ?_)
      refine z_aload_n X hl 1 rfl rfl dX0_drop_90 ?_
      refine z_dup X rfl dX0_drop_91 ?_
      refine gC_X0_caret (x := sI u38 12) X K h rfl q_174 dX0_drop_92 ?_
      refine z_iload_n X hl 2 rfl rfl dX0_drop_95 ?_
      refine z_if_eq (tgt := 103) X h1 dX0_drop_96 (by decide) (fun c49 => absurd c49 (by omega)) (fun _ => ?_)
      refine z_iconst X dX0_drop_99 ?_
      refine z_goto (tgt := 104) X dX0_drop_100 (by decide) ?_
      refine z_isub X dX0_drop_104 ?_
      refine pC_X0_caret X K h q_174 dX0_drop_105 (fun H locs h => ?_)
      refine z_aload_n X hl 1 rfl rfl dX0_drop_108 ?_
      refine z_dup X rfl dX0_drop_109 ?_
      refine gC_X0_count (x := sI u38 13) X K h rfl q_176 dX0_drop_110 ?_
      refine z_iconst X dX0_drop_113 ?_
      refine z_isub X dX0_drop_114 ?_
      refine pC_X0_count X K h q_176 dX0_drop_115 (fun H locs h => ?_)
      refine z_aloadR_n X hl 0 rfl rfl dX0_drop_118 ?_
      obtain ⟨w50, b51, f52, hL53, hF54, hw⟩ := hw
      refine gN_word X K h c29 hL53 hF54 q_161 dX0_drop_119 ?_
      exact r_iret X hr hlk K h (Nat.le_refl _) (Nat.le_refl _) dX0_drop_122 ⟨_, rfl, hw⟩
def w_X0_cross (post : Int → St → Prop) (u0 : St) : Prop :=
((sR u0 1 = none → post (-2) u0) ∧
 (∀ q2 : Nat, sR u0 1 = some q2 → ((sR u0 2 = none → post (-2) u0) ∧
 (∀ q4 : Nat, sR u0 2 = some q4 → (∃ (w5 : Int) (b6 f7 : Option Nat), (q4 ∈ sL u0) ∧ (sF u0 q4 = ndE w5 b6 f7) ∧ (∃ (w10 : Int) (b11 f12 : Option Nat), (q2 ∈ sL u0) ∧ (sF u0 q2 = ndE w10 b11 f12) ∧ (∃ (w15 : Int) (b16 f17 : Option Nat), (q2 ∈ sL (pF u0 q4 (ndE w10 b6 f7))) ∧ (sF (pF u0 q4 (ndE w10 b6 f7)) q2 = ndE w15 b16 f17) ∧ post w5 (pF (pF u0 q4 (ndE w10 b6 f7)) q2 (ndE w5 b16 f17)))))))))
abbrev rm_X0_cross : Room := { frames := 0, cells := 0, slots := 0, locals := 0 }
set_option maxRecDepth 100000 in
set_option maxHeartbeats 4000000 in
theorem ct_X0_cross {l : Launch} {G : Gr} {a : Nat → Nat} (u0 : St) (post : Int → St → Prop) (hw : w_X0_cross post u0) : Ct l G yX0_cross (ws_ yX0_cross cX0_cross 2 (some .int)) rm_X0_cross [.ref (a 6)] (WC G a u0) 0 0 (Po (WC G a) post) := by
  refine Ct.of (by decide) (Nat.le_of_ble_eq_true rfl) ?_
  intro p e s m args below meth c ls X hr hlk K g h hl
  have hl : lv_has ls 2 [(0, .ref (a 6))] := hl
  obtain ⟨H, hH⟩ : ∃ H, H = s.heap := ⟨_, rfl⟩
  obtain ⟨locs, hL⟩ : ∃ L : List Loc, L = [] := ⟨_, rfl⟩
  replace h : HW G (va_A (WC G a u0) s.heap.size) s.heap (WC G a u0) H locs := by rw [hH, hL]; exact h
  suffices hg : W p l e rm_X0_cross s m args below meth c H locs 0 0 (EndI G (WC G a u0) (Po (WC G a) post) args s 0 0 below) (F0 m 0 ls []) by rw [hH, hL] at hg; exact hg
  clear hH hL
  refine z_aload_n X hl 0 rfl rfl dX0_cross_0 ?_
  refine gC_X0_behind (r := sR u0 1) X K h rfl q_171 dX0_cross_1 ?_
  refine z_ifnull (tgt := 14) X dX0_cross_4 (by decide) (fun c1 => ?_) (fun q2 c1 => ?_)
  · replace hw := hw.1 c1
    refine z_bipush (v := (-2)) X dX0_cross_14 (by decide) ?_
    exact r_iret X hr hlk K h (Nat.le_refl _) (Nat.le_refl _) dX0_cross_16 ⟨_, rfl, hw⟩
  · replace hw := hw.2 q2 c1
    refine z_aload_n X hl 0 rfl rfl dX0_cross_7 ?_
    refine gC_X0_ahead (r := sR u0 2) X K h rfl q_172 dX0_cross_8 ?_
    refine z_ifnonnull (tgt := 17) X dX0_cross_11 (by decide) (fun c3 => ?_) (fun q4 c3 => ?_)
    · replace hw := hw.1 c3
      refine z_bipush (v := (-2)) X dX0_cross_14 (by decide) ?_
      exact r_iret X hr hlk K h (Nat.le_refl _) (Nat.le_refl _) dX0_cross_16 ⟨_, rfl, hw⟩
    · replace hw := hw.2 q4 c3
      refine z_aload_n X hl 0 rfl rfl dX0_cross_17 ?_
      refine gC_X0_ahead (r := sR u0 2) X K h rfl q_172 dX0_cross_18 ?_
      obtain ⟨w5, b6, f7, hL8, hF9, hw⟩ := hw
      refine gN_word X K h c3 hL8 hF9 q_161 dX0_cross_21 ?_
      refine z_istore_n (i := 1) (lv' := [(1, zI w5), (0, .ref (a 6))]) X hl rfl (by decide) dX0_cross_24 rfl (fun ls hl => ?_)
      refine z_aload_n X hl 1 rfl rfl dX0_cross_25 ?_
      refine gC_X0_ahead (r := sR u0 2) X K h rfl q_172 dX0_cross_26 ?_
      refine z_aload_n X hl 1 rfl rfl dX0_cross_29 ?_
      refine gC_X0_behind (r := sR u0 1) X K h rfl q_171 dX0_cross_30 ?_
      obtain ⟨w10, b11, f12, hL13, hF14, hw⟩ := hw
      refine gN_word X K h c1 hL13 hF14 q_161 dX0_cross_33 ?_
      refine pN_word X K h c3 hL8 hF9 q_161 dX0_cross_36 (fun H locs h => ?_)
      refine z_aload_n X hl 1 rfl rfl dX0_cross_39 ?_
      refine gC_X0_behind (r := sR u0 1) X K h rfl q_171 dX0_cross_40 ?_
      refine z_iload_n X hl 0 rfl rfl dX0_cross_43 ?_
      obtain ⟨w15, b16, f17, hL18, hF19, hw⟩ := hw
      refine pN_word X K h c1 hL18 hF19 q_161 dX0_cross_44 (fun H locs h => ?_)
      refine z_iload_n X hl 0 rfl rfl dX0_cross_47 ?_
      exact r_iret X hr hlk K h (Nat.le_refl _) (Nat.le_refl _) dX0_cross_48 ⟨_, rfl, hw⟩
def b_X0_empty_2 (post : St → Prop) (K2 : St × Int → Prop) (u1 : St) (x1_2 : Int) : Prop :=
(InR x1_2) ∧ ((100 ≤ x1_2 → post u1) ∧
 (¬ 100 ≤ x1_2 → (w_X0_drop (fun (z5 : Int) (u6 : St) => (w_X0_drop (fun (z7 : Int) (u8 : St) => K2 (u8, x1_2 + 1)) u6 0)) u1 1)))
def B_X0_empty_2 (post : St → Prop) : (St × Int → Prop) → St × Int → Prop := fun K t => b_X0_empty_2 post K t.1 t.2
def w_X0_empty (post : St → Prop) (u0 : St) : Prop :=
(∃ n : Nat, Lp (B_X0_empty_2 post) n (u0, 0))
abbrev rm_X0_empty : Room := { frames := 2, cells := 0, slots := 0, locals := 43 }
set_option maxRecDepth 100000 in
set_option maxHeartbeats 4000000 in
theorem ct_X0_empty {l : Launch} {G : Gr} {a : Nat → Nat} (u0 : St) (post : St → Prop) (hw : w_X0_empty post u0) : CtV l G yX0_empty (ws_ yX0_empty cX0_empty 2 (none)) rm_X0_empty [.ref (a 6)] (WC G a u0) 0 0 (PoV (WC G a) post) := by
  refine CtV.of (by decide) (Nat.le_of_ble_eq_true rfl) ?_
  intro p e s m args below meth c ls X hr hlk K g h hl
  have hl : lv_has ls 2 [(0, .ref (a 6))] := hl
  obtain ⟨H, hH⟩ : ∃ H, H = s.heap := ⟨_, rfl⟩
  obtain ⟨locs, hL⟩ : ∃ L : List Loc, L = [] := ⟨_, rfl⟩
  replace h : HW G (va_A (WC G a u0) s.heap.size) s.heap (WC G a u0) H locs := by rw [hH, hL]; exact h
  suffices hg : W p l e rm_X0_empty s m args below meth c H locs 0 0 (EndV G (WC G a u0) (PoV (WC G a) post) args s 0 0 below) (F0 m 0 ls []) by rw [hH, hL] at hg; exact hg
  clear hH hL
  refine z_iconst X dX0_empty_0 ?_
  refine z_istore_n (i := 1) (lv' := [(1, zI 0), (0, .ref (a 6))]) X hl rfl (by decide) dX0_empty_1 rfl (fun ls hl => ?_)
  obtain ⟨n2, hw⟩ := hw
  have key2 : ∀ (n : Nat) (t : St × Int) (H : Heap) (locs : List Loc) (ls : Array Slot), Lp (B_X0_empty_2 post) n t → HW G (va_A (WC G a u0) s.heap.size) s.heap (WC G a t.1) H locs → lv_has ls 2 [(0, .ref (a 6)), (1, zI t.2)] → W p l e rm_X0_empty s m args below meth c H locs 0 0 (EndV G (WC G a u0) (PoV (WC G a) post) args s 0 0 below) (F0 m 2 ls []) := by
    intro n
    induction n with
    | zero =>
      intro t H locs ls hw
      exact hw.elim
    | succ n2 ih2 =>
      rintro ⟨u1, x1_2⟩ H locs ls hw h hl
      replace hw : b_X0_empty_2 post (Lp (B_X0_empty_2 post) n2) u1 x1_2 := hw
      refine z_iload_n X hl 1 rfl rfl dX0_empty_2 ?_
      refine z_bipush (v := 100) X dX0_empty_3 (by decide) ?_
      obtain ⟨h3, hw⟩ := hw
      refine z_icmp_ge (tgt := 26) X h3 (by decide) dX0_empty_5 (by decide) (fun c4 => ?_) (fun c4 => ?_)
      · replace hw := hw.1 c4
        exact r_vret X hr hlk K h (Nat.le_refl _) (Nat.le_refl _) dX0_empty_26 ⟨_, rfl, hw⟩
      · replace hw := hw.2 c4
        refine z_aload_n X hl 0 rfl rfl dX0_empty_8 ?_
        refine z_iconst X dX0_empty_9 ?_
        refine r_callVi (rest := []) X K g h (ct_X0_drop u1 1 _ hw) lk_X0_44 6 rfl rfl ⟨rfl, rfl⟩ ⟨Nat.le_of_ble_eq_true rfl, Nat.le_of_ble_eq_true rfl⟩ rfl (lv_size hl) rfl (Nat.le_of_ble_eq_true rfl) dX0_empty_10 ⟨Nat.le_of_ble_eq_true rfl, Nat.le_of_ble_eq_true rfl⟩ (fun z5 w' H locs hp h => ?_)
        obtain ⟨u6, rfl, hw⟩ := hp
        refine z_pop X rfl dX0_empty_13 ?_
        refine z_aload_n X hl 0 rfl rfl dX0_empty_14 ?_
        refine z_iconst X dX0_empty_15 ?_
        refine r_callVi (rest := []) X K g h (ct_X0_drop u6 0 _ hw) lk_X0_44 6 rfl rfl ⟨rfl, rfl⟩ ⟨Nat.le_of_ble_eq_true rfl, Nat.le_of_ble_eq_true rfl⟩ rfl (lv_size hl) rfl (Nat.le_of_ble_eq_true rfl) dX0_empty_16 ⟨Nat.le_of_ble_eq_true rfl, Nat.le_of_ble_eq_true rfl⟩ (fun z7 w' H locs hp h => ?_)
        obtain ⟨u8, rfl, hw⟩ := hp
        refine z_pop X rfl dX0_empty_19 ?_
        refine z_iinc (lv' := [(1, zI (x1_2 + 1)), (0, .ref (a 6))]) X hl 1 rfl (by decide) dX0_empty_20 rfl (fun ls hl => ?_)
        refine z_goto (tgt := 2) X dX0_empty_23 (by decide) ?_
        exact ih2 (u8, x1_2 + 1) H locs ls hw h (lv_sub hl [1, 0] rfl)
  exact key2 n2 (u0, 0) H locs ls hw h (lv_sub hl [1, 0] rfl)
def b_X0_wordOf_56 (post : Int → Prop) (u21 : St) (y2_56 : Int) (y4_56 : Int) (K56 : Option Nat × Int → Prop) (x3_19 : Option Nat) (x5_20 : Int) : Prop :=
(InR x5_20) ∧ (InR y4_56) ∧ ((y4_56 ≤ x5_20 → ((x3_19 = none → post (-1)) ∧
 (∀ q26 : Nat, x3_19 = some q26 → (∃ (w27 : Int) (b28 f29 : Option Nat), (q26 ∈ sL u21) ∧ (sF u21 q26 = ndE w27 b28 f29) ∧ post w27)))) ∧
 (¬ y4_56 ≤ x5_20 → ((x3_19 = none → ((x3_19 = none → post (-1)) ∧
 (∀ q35 : Nat, x3_19 = some q35 → (∃ (w36 : Int) (b37 f38 : Option Nat), (q35 ∈ sL u21) ∧ (sF u21 q35 = ndE w36 b37 f38) ∧ post w36)))) ∧
 (∀ q33 : Nat, x3_19 = some q33 → (InR y2_56) ∧ ((y2_56 = 0 → (∃ (w43 : Int) (b44 f45 : Option Nat), (q33 ∈ sL u21) ∧ (sF u21 q33 = ndE w43 b44 f45) ∧ K56 (f45, x5_20 + 1))) ∧
 (¬ y2_56 = 0 → (∃ (w48 : Int) (b49 f50 : Option Nat), (q33 ∈ sL u21) ∧ (sF u21 q33 = ndE w48 b49 f50) ∧ K56 (b49, x5_20 + 1))))))))
def B_X0_wordOf_56 (post : Int → Prop) (u21 : St) (y2_56 : Int) (y4_56 : Int) : (Option Nat × Int → Prop) → Option Nat × Int → Prop := fun K t => b_X0_wordOf_56 post u21 y2_56 y4_56 K t.1 t.2
def j_X0_wordOf_51 (post : Int → Prop) (u18 : St) (x2_15 : Int) (x3_16 : Option Nat) (t17 : Int) : Prop :=
(∃ n : Nat, Lp (B_X0_wordOf_56 post u18 x2_15 t17) n (x3_16, 0))
def j_X0_wordOf_29 (post : Int → Prop) (u12 : St) (x1_9 : Int) (x2_10 : Int) (t11 : Option Nat) : Prop :=
(InR x2_10) ∧ ((x2_10 = 0 → (j_X0_wordOf_51 post u12 x2_10 t11 (x1_9 - (sI u12 12)))) ∧
 (¬ x2_10 = 0 → (j_X0_wordOf_51 post u12 x2_10 t11 (((sI u12 12) - 1) - x1_9))))
def j_X0_wordOf_13 (post : Int → Prop) (u6 : St) (x1_4 : Int) (t5 : Int) : Prop :=
(InR t5) ∧ ((t5 = 0 → (j_X0_wordOf_29 post u6 x1_4 t5 (sR u6 2))) ∧
 (¬ t5 = 0 → (j_X0_wordOf_29 post u6 x1_4 t5 (sR u6 1))))
def w_X0_wordOf (post : Int → Prop) (u0 : St) (p1 : Int) : Prop :=
(InR p1) ∧ (InR (sI u0 12)) ∧ ((sI u0 12 ≤ p1 → (j_X0_wordOf_13 post u0 p1 0)) ∧
 (¬ sI u0 12 ≤ p1 → (j_X0_wordOf_13 post u0 p1 1)))
abbrev rm_X0_wordOf : Room := { frames := 0, cells := 0, slots := 0, locals := 0 }
set_option maxRecDepth 100000 in
set_option maxHeartbeats 4000000 in
theorem ct_X0_wordOf {l : Launch} {G : Gr} {a : Nat → Nat} (u0 : St) (p1 : Int) (post : Int → Prop) (hw : w_X0_wordOf post u0 p1) : Ct l G yX0_wordOf (ws_ yX0_wordOf cX0_wordOf 6 (some .int)) rm_X0_wordOf [.ref (a 6), zI p1] (WC G a u0) 0 0 (PoP (WC G a u0) post) := by
  refine Ct.of (by decide) (Nat.le_of_ble_eq_true rfl) ?_
  intro p e s m args below meth c ls X hr hlk K g h hl
  have hl : lv_has ls 6 [(0, .ref (a 6)), (1, zI p1)] := hl
  obtain ⟨H, hH⟩ : ∃ H, H = s.heap := ⟨_, rfl⟩
  obtain ⟨locs, hL⟩ : ∃ L : List Loc, L = [] := ⟨_, rfl⟩
  replace h : HW G (va_A (WC G a u0) s.heap.size) s.heap (WC G a u0) H locs := by rw [hH, hL]; exact h
  suffices hg : W p l e rm_X0_wordOf s m args below meth c H locs 0 0 (EndI G (WC G a u0) (PoP (WC G a u0) post) args s 0 0 below) (F0 m 0 ls []) by rw [hH, hL] at hg; exact hg
  clear hH hL
  have J51 : ∀ (x2_15 : Int) (x3_16 : Option Nat) (t17 : Int) (H : Heap) (locs : List Loc) (ls : Array Slot), j_X0_wordOf_51 post u0 x2_15 x3_16 t17 → HW G (va_A (WC G a u0) s.heap.size) s.heap (WC G a u0) H locs → lv_has ls 6 [(2, zI x2_15), (3, va_rf x3_16)] → W p l e rm_X0_wordOf s m args below meth c H locs 0 0 (EndI G (WC G a u0) (PoP (WC G a u0) post) args s 0 0 below) (F0 m 51 ls [zI t17]) := by
    intro x2_15 x3_16 t17 H locs ls hw h hl
    refine z_istore (i := 4) (lv' := [(4, zI t17), (2, zI x2_15), (3, va_rf x3_16)]) X hl (by decide) dX0_wordOf_51 (by simp [List.filter, rf_cat, zI_cat, ref_cat]) (fun ls hl => ?_)
    refine z_iconst X dX0_wordOf_53 ?_
    refine z_istore (i := 5) (lv' := [(5, zI 0), (4, zI t17), (2, zI x2_15), (3, va_rf x3_16)]) X hl (by decide) dX0_wordOf_54 rfl (fun ls hl => ?_)
    obtain ⟨n56, hw⟩ := hw
    have key56 : ∀ (n : Nat) (t : Option Nat × Int) (H : Heap) (locs : List Loc) (ls : Array Slot), Lp (B_X0_wordOf_56 post u0 x2_15 t17) n t → HW G (va_A (WC G a u0) s.heap.size) s.heap (WC G a u0) H locs → lv_has ls 6 [(2, zI x2_15), (3, va_rf t.1), (4, zI t17), (5, zI t.2)] → W p l e rm_X0_wordOf s m args below meth c H locs 0 0 (EndI G (WC G a u0) (PoP (WC G a u0) post) args s 0 0 below) (F0 m 56 ls []) := by
      intro n
      induction n with
      | zero =>
        intro t H locs ls hw
        exact hw.elim
      | succ n56 ih56 =>
        rintro ⟨x3_19, x5_20⟩ H locs ls hw h hl
        replace hw : b_X0_wordOf_56 post u0 x2_15 t17 (Lp (B_X0_wordOf_56 post u0 x2_15 t17) n56) x3_19 x5_20 := hw
        refine z_iload X hl 3 rfl dX0_wordOf_56 ?_
        refine z_iload X hl 2 rfl dX0_wordOf_58 ?_
        obtain ⟨h22, h23, hw⟩ := hw
        refine z_icmp_ge (tgt := 89) X h22 h23 dX0_wordOf_60 (by decide) (fun c24 => ?_) (fun c24 => ?_)
        · replace hw := hw.1 c24
          refine z_aloadR_n X hl 1 rfl rfl dX0_wordOf_89 ?_
          refine z_ifnonnull (tgt := 97) X dX0_wordOf_90 (by decide) (fun c25 => ?_) (fun q26 c25 => ?_)
          · replace hw := hw.1 c25
            refine z_iconst X dX0_wordOf_93 ?_
            refine z_goto (tgt := 101) X dX0_wordOf_94 (by decide) ?_
            exact r_iret X hr hlk K h (Nat.le_refl _) (Nat.le_refl _) dX0_wordOf_101 ⟨rfl, hw⟩
          · replace hw := hw.2 q26 c25
            refine z_aloadR_n X hl 1 rfl rfl dX0_wordOf_97 ?_
            obtain ⟨w27, b28, f29, hL30, hF31, hw⟩ := hw
            refine gN_word X K h c25 hL30 hF31 q_161 dX0_wordOf_98 ?_
            exact r_iret X hr hlk K h (Nat.le_refl _) (Nat.le_refl _) dX0_wordOf_101 ⟨rfl, hw⟩
        · replace hw := hw.2 c24
          refine z_aloadR_n X hl 1 rfl rfl dX0_wordOf_63 ?_
          refine z_ifnull (tgt := 89) X dX0_wordOf_64 (by decide) (fun c32 => ?_) (fun q33 c32 => ?_)
          · replace hw := hw.1 c32
            refine z_aloadR_n X hl 1 rfl rfl dX0_wordOf_89 ?_
            refine z_ifnonnull (tgt := 97) X dX0_wordOf_90 (by decide) (fun c34 => ?_) (fun q35 c34 => ?_)
            · replace hw := hw.1 c34
              refine z_iconst X dX0_wordOf_93 ?_
              refine z_goto (tgt := 101) X dX0_wordOf_94 (by decide) ?_
              exact r_iret X hr hlk K h (Nat.le_refl _) (Nat.le_refl _) dX0_wordOf_101 ⟨rfl, hw⟩
            · replace hw := hw.2 q35 c34
              refine z_aloadR_n X hl 1 rfl rfl dX0_wordOf_97 ?_
              obtain ⟨w36, b37, f38, hL39, hF40, hw⟩ := hw
              refine gN_word X K h c34 hL39 hF40 q_161 dX0_wordOf_98 ?_
              exact r_iret X hr hlk K h (Nat.le_refl _) (Nat.le_refl _) dX0_wordOf_101 ⟨rfl, hw⟩
          · replace hw := hw.2 q33 c32
            refine z_iload_n X hl 0 rfl rfl dX0_wordOf_67 ?_
            obtain ⟨h41, hw⟩ := hw
            refine z_if_eq (tgt := 78) X h41 dX0_wordOf_68 (by decide) (fun c42 => ?_) (fun c42 => ?_)
            · replace hw := hw.1 c42
              refine z_aloadR_n X hl 1 rfl rfl dX0_wordOf_78 ?_
              obtain ⟨w43, b44, f45, hL46, hF47, hw⟩ := hw
              refine gN_after X K h c32 hL46 hF47 q_163 dX0_wordOf_79 ?_
              refine z_astoreR_n (i := 3) (lv' := [(3, va_rf f45), (2, zI x2_15), (4, zI t17), (5, zI x5_20)]) X hl rfl (by decide) dX0_wordOf_82 rfl (fun ls hl => ?_)
              refine z_iinc (lv' := [(5, zI (x5_20 + 1)), (3, va_rf f45), (2, zI x2_15), (4, zI t17)]) X hl 3 rfl (by decide) dX0_wordOf_83 rfl (fun ls hl => ?_)
              refine z_goto (tgt := 56) X dX0_wordOf_86 (by decide) ?_
              exact ih56 (f45, x5_20 + 1) H locs ls hw h (lv_sub hl [2, 1, 3, 0] rfl)
            · replace hw := hw.2 c42
              refine z_aloadR_n X hl 1 rfl rfl dX0_wordOf_71 ?_
              obtain ⟨w48, b49, f50, hL51, hF52, hw⟩ := hw
              refine gN_before X K h c32 hL51 hF52 q_162 dX0_wordOf_72 ?_
              refine z_goto (tgt := 82) X dX0_wordOf_75 (by decide) ?_
              refine z_astoreR_n (i := 3) (lv' := [(3, va_rf b49), (2, zI x2_15), (4, zI t17), (5, zI x5_20)]) X hl rfl (by decide) dX0_wordOf_82 rfl (fun ls hl => ?_)
              refine z_iinc (lv' := [(5, zI (x5_20 + 1)), (3, va_rf b49), (2, zI x2_15), (4, zI t17)]) X hl 3 rfl (by decide) dX0_wordOf_83 rfl (fun ls hl => ?_)
              refine z_goto (tgt := 56) X dX0_wordOf_86 (by decide) ?_
              exact ih56 (b49, x5_20 + 1) H locs ls hw h (lv_sub hl [2, 1, 3, 0] rfl)
    exact key56 n56 (x3_16, 0) H locs ls hw h (lv_sub hl [2, 3, 1, 0] rfl)
  have J29 : ∀ (x1_9 : Int) (x2_10 : Int) (t11 : Option Nat) (H : Heap) (locs : List Loc) (ls : Array Slot), j_X0_wordOf_29 post u0 x1_9 x2_10 t11 → HW G (va_A (WC G a u0) s.heap.size) s.heap (WC G a u0) H locs → lv_has ls 6 [(0, .ref (a 6)), (1, zI x1_9), (2, zI x2_10)] → W p l e rm_X0_wordOf s m args below meth c H locs 0 0 (EndI G (WC G a u0) (PoP (WC G a u0) post) args s 0 0 below) (F0 m 29 ls [va_rf t11]) := by
    intro x1_9 x2_10 t11 H locs ls hw h hl
    refine z_astoreR_n (i := 3) (lv' := [(3, va_rf t11), (0, .ref (a 6)), (1, zI x1_9), (2, zI x2_10)]) X hl rfl (by decide) dX0_wordOf_29 rfl (fun ls hl => ?_)
    refine z_iload_n X hl 3 rfl rfl dX0_wordOf_30 ?_
    obtain ⟨h13, hw⟩ := hw
    refine z_if_eq (tgt := 45) X h13 dX0_wordOf_31 (by decide) (fun c14 => ?_) (fun c14 => ?_)
    · replace hw := hw.1 c14
      refine z_iload_n X hl 2 rfl rfl dX0_wordOf_45 ?_
      refine z_aload_n X hl 1 rfl rfl dX0_wordOf_46 ?_
      refine gC_X0_caret (x := sI u0 12) X K h rfl q_174 dX0_wordOf_47 ?_
      refine z_isub X dX0_wordOf_50 ?_
      exact J51 x2_10 t11 (x1_9 - (sI u0 12)) H locs ls hw h (lv_sub hl [3, 0] rfl)
    · replace hw := hw.2 c14
      refine z_aload_n X hl 1 rfl rfl dX0_wordOf_34 ?_
      refine gC_X0_caret (x := sI u0 12) X K h rfl q_174 dX0_wordOf_35 ?_
      refine z_iconst X dX0_wordOf_38 ?_
      refine z_isub X dX0_wordOf_39 ?_
      refine z_iload_n X hl 2 rfl rfl dX0_wordOf_40 ?_
      refine z_isub X dX0_wordOf_41 ?_
      refine z_goto (tgt := 51) X dX0_wordOf_42 (by decide) ?_
      exact J51 x2_10 t11 (((sI u0 12) - 1) - x1_9) H locs ls hw h (lv_sub hl [3, 0] rfl)
  have J13 : ∀ (x1_4 : Int) (t5 : Int) (H : Heap) (locs : List Loc) (ls : Array Slot), j_X0_wordOf_13 post u0 x1_4 t5 → HW G (va_A (WC G a u0) s.heap.size) s.heap (WC G a u0) H locs → lv_has ls 6 [(0, .ref (a 6)), (1, zI x1_4)] → W p l e rm_X0_wordOf s m args below meth c H locs 0 0 (EndI G (WC G a u0) (PoP (WC G a u0) post) args s 0 0 below) (F0 m 13 ls [zI t5]) := by
    intro x1_4 t5 H locs ls hw h hl
    refine z_istore_n (i := 2) (lv' := [(2, zI t5), (0, .ref (a 6)), (1, zI x1_4)]) X hl rfl (by decide) dX0_wordOf_13 rfl (fun ls hl => ?_)
    refine z_iload_n X hl 0 rfl rfl dX0_wordOf_14 ?_
    obtain ⟨h7, hw⟩ := hw
    refine z_if_eq (tgt := 25) X h7 dX0_wordOf_15 (by decide) (fun c8 => ?_) (fun c8 => ?_)
    · replace hw := hw.1 c8
      refine z_aload_n X hl 1 rfl rfl dX0_wordOf_25 ?_
      refine gC_X0_ahead (r := sR u0 2) X K h rfl q_172 dX0_wordOf_26 ?_
      exact J29 x1_4 t5 (sR u0 2) H locs ls hw h (lv_sub hl [1, 2, 0] rfl)
    · replace hw := hw.2 c8
      refine z_aload_n X hl 1 rfl rfl dX0_wordOf_18 ?_
      refine gC_X0_behind (r := sR u0 1) X K h rfl q_171 dX0_wordOf_19 ?_
      refine z_goto (tgt := 29) X dX0_wordOf_22 (by decide) ?_
      exact J29 x1_4 t5 (sR u0 1) H locs ls hw h (lv_sub hl [1, 2, 0] rfl)
  refine z_iload_n X hl 1 rfl rfl dX0_wordOf_0 ?_
  refine z_aload_n X hl 0 rfl rfl dX0_wordOf_1 ?_
  refine gC_X0_caret (x := sI u0 12) X K h rfl q_174 dX0_wordOf_2 ?_
  obtain ⟨h1, h2, hw⟩ := hw
  refine z_icmp_ge (tgt := 12) X h1 h2 dX0_wordOf_5 (by decide) (fun c3 => ?_) (fun c3 => ?_)
  · replace hw := hw.1 c3
    refine z_iconst X dX0_wordOf_12 ?_
    exact J13 p1 0 H locs ls hw h (lv_sub hl [0, 1] rfl)
  · replace hw := hw.2 c3
    refine z_iconst X dX0_wordOf_8 ?_
    refine z_goto (tgt := 13) X dX0_wordOf_9 (by decide) ?_
    exact J13 p1 1 H locs ls hw h (lv_sub hl [0, 1] rfl)
def w_X4_pass (post : Int → St → Prop) (G : Gr) (u0 : St) (p1 : Int) : Prop :=
(InR p1) ∧ ((p1 = 0 → (InR (sI u0 9)) ∧ ((sI u0 9 < 0 → post (-2) u0) ∧
 (¬ sI u0 9 < 0 → (w_Jx4a65c_size_8abf5 (fun (z5 : Int) => (InR z5) ∧ ((sI u0 9 < z5 → (w_Jx4a65c_get_915e3 (fun (z9 : Option Nat) => (∃ (q10 : Nat) (w11 : Int), (z9 = some q10) ∧ (isBox G (pI u0 9 ((sI u0 9) + 1)) q10 w11) ∧ post w11 (pI u0 9 ((sI u0 9) + 1)))) G (pI u0 9 ((sI u0 9) + 1)) (sI u0 9))) ∧
 (¬ sI u0 9 < z5 → post (-2) u0))) u0)))) ∧
 (¬ p1 = 0 → (InR ((sI u0 9) - 1)) ∧ (((sI u0 9) - 1 < 0 → post (-2) u0) ∧
 (¬ (sI u0 9) - 1 < 0 → (w_Jx4a65c_size_8abf5 (fun (z16 : Int) => (InR z16) ∧ (((sI u0 9) - 1 < z16 → (w_Jx4a65c_get_915e3 (fun (z20 : Option Nat) => (∃ (q21 : Nat) (w22 : Int), (z20 = some q21) ∧ (isBox G (pI u0 9 ((sI u0 9) + (-1))) q21 w22) ∧ post w22 (pI u0 9 ((sI u0 9) + (-1))))) G (pI u0 9 ((sI u0 9) + (-1))) ((sI u0 9) - 1))) ∧
 (¬ (sI u0 9) - 1 < z16 → post (-2) u0))) u0)))))
abbrev rm_X4_pass : Room := { frames := 3, cells := 0, slots := 0, locals := 64 }
set_option maxRecDepth 100000 in
set_option maxHeartbeats 4000000 in
theorem ct_X4_pass {l : Launch} {G : Gr} {a : Nat → Nat} (u0 : St) (p1 : Int) (post : Int → St → Prop) (hw : w_X4_pass post G u0 p1) : Ct l G yX4_pass (ws_ yX4_pass cX4_pass 3 (some .int)) rm_X4_pass [.ref (a 4), zI p1] (WC G a u0) 0 0 (Po (WC G a) post) := by
  refine Ct.of (by decide) (Nat.le_of_ble_eq_true rfl) ?_
  intro p e s m args below meth c ls X hr hlk K g h hl
  have hl : lv_has ls 3 [(0, .ref (a 4)), (1, zI p1)] := hl
  obtain ⟨H, hH⟩ : ∃ H, H = s.heap := ⟨_, rfl⟩
  obtain ⟨locs, hL⟩ : ∃ L : List Loc, L = [] := ⟨_, rfl⟩
  replace h : HW G (va_A (WC G a u0) s.heap.size) s.heap (WC G a u0) H locs := by rw [hH, hL]; exact h
  suffices hg : W p l e rm_X4_pass s m args below meth c H locs 0 0 (EndI G (WC G a u0) (Po (WC G a) post) args s 0 0 below) (F0 m 0 ls []) by rw [hH, hL] at hg; exact hg
  clear hH hL
  refine z_iload_n X hl 1 rfl rfl dX4_pass_0 ?_
  obtain ⟨h1, hw⟩ := hw
  refine z_if_eq (tgt := 13) X h1 dX4_pass_1 (by decide) (fun c2 => ?_) (fun c2 => ?_)
  · replace hw := hw.1 c2
    refine z_aload_n X hl 0 rfl rfl dX4_pass_13 ?_
    refine gC_X4_caret (x := sI u0 9) X K h rfl q_142 dX4_pass_14 ?_
    refine z_istore_n (i := 2) (lv' := [(2, zI (sI u0 9)), (0, .ref (a 4)), (1, zI p1)]) X hl rfl (by decide) dX4_pass_17 rfl (fun ls hl => ?_)
    refine z_iload_n X hl 0 rfl rfl dX4_pass_18 ?_
    obtain ⟨h3, hw⟩ := hw
    refine z_if_lt (tgt := 33) X h3 dX4_pass_19 (by decide) (fun c4 => ?_) (fun c4 => ?_)
    · replace hw := hw.1 c4
      refine z_bipush (v := (-2)) X dX4_pass_33 (by decide) ?_
      exact r_iret X hr hlk K h (Nat.le_refl _) (Nat.le_refl _) dX4_pass_35 ⟨_, rfl, hw⟩
    · replace hw := hw.2 c4
      refine z_iload_n X hl 0 rfl rfl dX4_pass_22 ?_
      refine z_aload_n X hl 1 rfl rfl dX4_pass_23 ?_
      refine gC_X4_words X K h q_141 dX4_pass_24 ?_
      refine r_callVi (rest := [zI (sI u0 9)]) X K g h (ct_Jx4a65c_size_8abf5 u0 _ hw) lk_X4_22 5 rfl rfl ⟨rfl, rfl⟩ ⟨Nat.le_of_ble_eq_true rfl, Nat.le_of_ble_eq_true rfl⟩ rfl (lv_size hl) rfl (Nat.le_of_ble_eq_true rfl) dX4_pass_27 ⟨Nat.le_of_ble_eq_true rfl, Nat.le_of_ble_eq_true rfl⟩ (fun z5 w' H locs hp h => ?_)
      obtain ⟨rfl, hw⟩ := hp
      obtain ⟨h6, hw⟩ := hw
      refine z_icmp_lt (tgt := 36) X h3 h6 dX4_pass_30 (by decide) (fun c7 => ?_) (fun c7 => ?_)
      · replace hw := hw.1 c7
        refine z_aload_n X hl 1 rfl rfl dX4_pass_36 ?_
        refine z_dup X rfl dX4_pass_37 ?_
        refine gC_X4_caret (x := sI u0 9) X K h rfl q_142 dX4_pass_38 ?_
        refine z_iload_n X hl 2 rfl rfl dX4_pass_41 ?_
        refine z_if_eq (tgt := 49) X h1 dX4_pass_42 (by decide) (fun _ => ?_) (fun c8 => absurd c8 (by omega))
        refine z_iconst X dX4_pass_49 ?_
        refine z_iadd X dX4_pass_50 ?_
        refine pC_X4_caret X K h q_142 dX4_pass_51 (fun H locs h => ?_)
        refine z_aload_n X hl 1 rfl rfl dX4_pass_54 ?_
        refine gC_X4_words X K h q_141 dX4_pass_55 ?_
        refine z_iload_n X hl 0 rfl rfl dX4_pass_58 ?_
        refine r_callVq (rest := []) X K g h (ct_Jx4a65c_get_915e3 (pI u0 9 ((sI u0 9) + 1)) (sI u0 9) _ hw) lk_X4_26 5 rfl rfl ⟨rfl, rfl⟩ ⟨Nat.le_of_ble_eq_true rfl, Nat.le_of_ble_eq_true rfl⟩ rfl (lv_size hl) rfl (Nat.le_of_ble_eq_true rfl) dX4_pass_59 ⟨Nat.le_of_ble_eq_true rfl, Nat.le_of_ble_eq_true rfl⟩ (fun z9 w' H locs hp h => ?_)
        obtain ⟨rfl, hw⟩ := hp
        obtain ⟨q10, w11, hq12, hb13, hw⟩ := hw
        refine z_castI X K g h hq12 hb13 q_386 dX4_pass_62 ?_
        refine z_intValue X K g h hq12 hb13 lk_X4_32 ⟨Nat.le_of_ble_eq_true rfl, Nat.le_of_ble_eq_true rfl⟩ (lv_size hl) (Nat.le_of_ble_eq_true rfl) dX4_pass_65 ⟨Nat.le_of_ble_eq_true rfl, Nat.le_of_ble_eq_true rfl⟩ (fun H locs h => ?_)
        exact r_iret X hr hlk K h (Nat.le_refl _) (Nat.le_refl _) dX4_pass_68 ⟨_, rfl, hw⟩
      · replace hw := hw.2 c7
        refine z_bipush (v := (-2)) X dX4_pass_33 (by decide) ?_
        exact r_iret X hr hlk K h (Nat.le_refl _) (Nat.le_refl _) dX4_pass_35 ⟨_, rfl, hw⟩
  · replace hw := hw.2 c2
    refine z_aload_n X hl 0 rfl rfl dX4_pass_4 ?_
    refine gC_X4_caret (x := sI u0 9) X K h rfl q_142 dX4_pass_5 ?_
    refine z_iconst X dX4_pass_8 ?_
    refine z_isub X dX4_pass_9 ?_
    refine z_goto (tgt := 17) X dX4_pass_10 (by decide) ?_
    refine z_istore_n (i := 2) (lv' := [(2, zI ((sI u0 9) - 1)), (0, .ref (a 4)), (1, zI p1)]) X hl rfl (by decide) dX4_pass_17 rfl (fun ls hl => ?_)
    refine z_iload_n X hl 0 rfl rfl dX4_pass_18 ?_
    obtain ⟨h14, hw⟩ := hw
    refine z_if_lt (tgt := 33) X h14 dX4_pass_19 (by decide) (fun c15 => ?_) (fun c15 => ?_)
    · replace hw := hw.1 c15
      refine z_bipush (v := (-2)) X dX4_pass_33 (by decide) ?_
      exact r_iret X hr hlk K h (Nat.le_refl _) (Nat.le_refl _) dX4_pass_35 ⟨_, rfl, hw⟩
    · replace hw := hw.2 c15
      refine z_iload_n X hl 0 rfl rfl dX4_pass_22 ?_
      refine z_aload_n X hl 1 rfl rfl dX4_pass_23 ?_
      refine gC_X4_words X K h q_141 dX4_pass_24 ?_
      refine r_callVi (rest := [zI ((sI u0 9) - 1)]) X K g h (ct_Jx4a65c_size_8abf5 u0 _ hw) lk_X4_22 5 rfl rfl ⟨rfl, rfl⟩ ⟨Nat.le_of_ble_eq_true rfl, Nat.le_of_ble_eq_true rfl⟩ rfl (lv_size hl) rfl (Nat.le_of_ble_eq_true rfl) dX4_pass_27 ⟨Nat.le_of_ble_eq_true rfl, Nat.le_of_ble_eq_true rfl⟩ (fun z16 w' H locs hp h => ?_)
      obtain ⟨rfl, hw⟩ := hp
      obtain ⟨h17, hw⟩ := hw
      refine z_icmp_lt (tgt := 36) X h14 h17 dX4_pass_30 (by decide) (fun c18 => ?_) (fun c18 => ?_)
      · replace hw := hw.1 c18
        refine z_aload_n X hl 1 rfl rfl dX4_pass_36 ?_
        refine z_dup X rfl dX4_pass_37 ?_
        refine gC_X4_caret (x := sI u0 9) X K h rfl q_142 dX4_pass_38 ?_
        refine z_iload_n X hl 2 rfl rfl dX4_pass_41 ?_
        refine z_if_eq (tgt := 49) X h1 dX4_pass_42 (by decide) (fun c19 => absurd c19 (by omega)) (fun _ => ?_)
        refine z_iconst X dX4_pass_45 ?_
        refine z_goto (tgt := 50) X dX4_pass_46 (by decide) ?_
        refine z_iadd X dX4_pass_50 ?_
        refine pC_X4_caret X K h q_142 dX4_pass_51 (fun H locs h => ?_)
        refine z_aload_n X hl 1 rfl rfl dX4_pass_54 ?_
        refine gC_X4_words X K h q_141 dX4_pass_55 ?_
        refine z_iload_n X hl 0 rfl rfl dX4_pass_58 ?_
        refine r_callVq (rest := []) X K g h (ct_Jx4a65c_get_915e3 (pI u0 9 ((sI u0 9) + (-1))) ((sI u0 9) - 1) _ hw) lk_X4_26 5 rfl rfl ⟨rfl, rfl⟩ ⟨Nat.le_of_ble_eq_true rfl, Nat.le_of_ble_eq_true rfl⟩ rfl (lv_size hl) rfl (Nat.le_of_ble_eq_true rfl) dX4_pass_59 ⟨Nat.le_of_ble_eq_true rfl, Nat.le_of_ble_eq_true rfl⟩ (fun z20 w' H locs hp h => ?_)
        obtain ⟨rfl, hw⟩ := hp
        obtain ⟨q21, w22, hq23, hb24, hw⟩ := hw
        refine z_castI X K g h hq23 hb24 q_386 dX4_pass_62 ?_
        refine z_intValue X K g h hq23 hb24 lk_X4_32 ⟨Nat.le_of_ble_eq_true rfl, Nat.le_of_ble_eq_true rfl⟩ (lv_size hl) (Nat.le_of_ble_eq_true rfl) dX4_pass_65 ⟨Nat.le_of_ble_eq_true rfl, Nat.le_of_ble_eq_true rfl⟩ (fun H locs h => ?_)
        exact r_iret X hr hlk K h (Nat.le_refl _) (Nat.le_refl _) dX4_pass_68 ⟨_, rfl, hw⟩
      · replace hw := hw.2 c18
        refine z_bipush (v := (-2)) X dX4_pass_33 (by decide) ?_
        exact r_iret X hr hlk K h (Nat.le_refl _) (Nat.le_refl _) dX4_pass_35 ⟨_, rfl, hw⟩
def w_X4_insert (post : Int → St → Prop) (mc ms : Nat) (G : Gr) (u0 : St) (p1 : Int) : Prop :=
(w_Jx4a65c_size_8abf5 (fun (z1 : Int) => (InR z1) ∧ ((100 ≤ z1 → post (-5) u0) ∧
 (¬ 100 ≤ z1 → (InR (sI u0 9)) ∧ ((sI u0 9 < 0 → post (-5) u0) ∧
 (¬ sI u0 9 < 0 → (w_Jx4a65c_size_8abf5 (fun (z6 : Int) => (InR z6) ∧ ((sI u0 9 ≤ z6 → (∃ a10 b11 : Nat, (0 + a10 ≤ mc) ∧ (0 + b11 ≤ ms) ∧ w_J6_valueOf_2dffe (fun (z9 : Option Nat) (u14 : St) => (∃ a15 b16 : Nat, (0 + a10 + a15 ≤ mc) ∧ (0 + b11 + b16 ≤ ms) ∧ w_Jx4a65c_add_7a177 (fun  (u19 : St) => (w_Jx4a65c_size_8abf5 (fun (z20 : Int) => post z20 (pI u19 9 ((sI u19 9) + 1))) (pI u19 9 ((sI u19 9) + 1)))) a15 b16 G u14 (sI u0 9) z9)) a10 b11 G u0 p1)) ∧
 (¬ sI u0 9 ≤ z6 → post (-5) u0))) u0)))))) u0)
abbrev rm_X4_insert (mc ms : Nat) : Room := { frames := 11, cells := mc, slots := ms, locals := 317 }
set_option maxRecDepth 100000 in
set_option maxHeartbeats 4000000 in
theorem ct_X4_insert {l : Launch} {G : Gr} {a : Nat → Nat} (mc ms : Nat) (u0 : St) (p1 : Int) (post : Int → St → Prop) (hw : w_X4_insert post mc ms G u0 p1) : Ct l G yX4_insert (ws_ yX4_insert cX4_insert 2 (some .int)) (rm_X4_insert mc ms) [.ref (a 4), zI p1] (WC G a u0) mc ms (Po (WC G a) post) := by
  refine Ct.of (by decide) (Nat.le_of_ble_eq_true rfl) ?_
  intro p e s m args below meth c ls X hr hlk K g h hl
  have hl : lv_has ls 2 [(0, .ref (a 4)), (1, zI p1)] := hl
  obtain ⟨H, hH⟩ : ∃ H, H = s.heap := ⟨_, rfl⟩
  obtain ⟨locs, hL⟩ : ∃ L : List Loc, L = [] := ⟨_, rfl⟩
  replace h : HW G (va_A (WC G a u0) s.heap.size) s.heap (WC G a u0) H locs := by rw [hH, hL]; exact h
  suffices hg : W p l e (rm_X4_insert mc ms) s m args below meth c H locs 0 0 (EndI G (WC G a u0) (Po (WC G a) post) args s mc ms below) (F0 m 0 ls []) by rw [hH, hL] at hg; exact hg
  clear hH hL
  refine z_aload_n X hl 0 rfl rfl dX4_insert_0 ?_
  refine gC_X4_words X K h q_141 dX4_insert_1 ?_
  refine r_callVi (rest := []) X K g h (ct_Jx4a65c_size_8abf5 u0 _ hw) lk_X4_22 5 rfl rfl ⟨rfl, rfl⟩ ⟨Nat.le_of_ble_eq_true rfl, Nat.le_of_ble_eq_true rfl⟩ rfl (lv_size hl) rfl (Nat.le_of_ble_eq_true rfl) dX4_insert_4 ⟨(Nat.zero_le _), (Nat.zero_le _)⟩ (fun z1 w' H locs hp h => ?_)
  obtain ⟨rfl, hw⟩ := hp
  refine z_bipush (v := 100) X dX4_insert_7 (by decide) ?_
  obtain ⟨h2, hw⟩ := hw
  refine z_icmp_ge (tgt := 33) X h2 (by decide) dX4_insert_9 (by decide) (fun c3 => ?_) (fun c3 => ?_)
  · replace hw := hw.1 c3
    refine z_bipush (v := (-5)) X dX4_insert_33 (by decide) ?_
    exact r_iret X hr hlk K h (Nat.zero_le _) (Nat.zero_le _) dX4_insert_35 ⟨_, rfl, hw⟩
  · replace hw := hw.2 c3
    refine z_aload_n X hl 0 rfl rfl dX4_insert_12 ?_
    refine gC_X4_caret (x := sI u0 9) X K h rfl q_142 dX4_insert_13 ?_
    obtain ⟨h4, hw⟩ := hw
    refine z_if_lt (tgt := 33) X h4 dX4_insert_16 (by decide) (fun c5 => ?_) (fun c5 => ?_)
    · replace hw := hw.1 c5
      refine z_bipush (v := (-5)) X dX4_insert_33 (by decide) ?_
      exact r_iret X hr hlk K h (Nat.zero_le _) (Nat.zero_le _) dX4_insert_35 ⟨_, rfl, hw⟩
    · replace hw := hw.2 c5
      refine z_aload_n X hl 0 rfl rfl dX4_insert_19 ?_
      refine gC_X4_caret (x := sI u0 9) X K h rfl q_142 dX4_insert_20 ?_
      refine z_aload_n X hl 0 rfl rfl dX4_insert_23 ?_
      refine gC_X4_words X K h q_141 dX4_insert_24 ?_
      refine r_callVi (rest := [zI (sI u0 9)]) X K g h (ct_Jx4a65c_size_8abf5 u0 _ hw) lk_X4_22 5 rfl rfl ⟨rfl, rfl⟩ ⟨Nat.le_of_ble_eq_true rfl, Nat.le_of_ble_eq_true rfl⟩ rfl (lv_size hl) rfl (Nat.le_of_ble_eq_true rfl) dX4_insert_27 ⟨(Nat.zero_le _), (Nat.zero_le _)⟩ (fun z6 w' H locs hp h => ?_)
      obtain ⟨rfl, hw⟩ := hp
      obtain ⟨h7, hw⟩ := hw
      refine z_icmp_le (tgt := 36) X h4 h7 dX4_insert_30 (by decide) (fun c8 => ?_) (fun c8 => ?_)
      · replace hw := hw.1 c8
        refine z_aload_n X hl 0 rfl rfl dX4_insert_36 ?_
        refine gC_X4_words X K h q_141 dX4_insert_37 ?_
        refine z_aload_n X hl 0 rfl rfl dX4_insert_40 ?_
        refine gC_X4_caret (x := sI u0 9) X K h rfl q_142 dX4_insert_41 ?_
        refine z_iload_n X hl 1 rfl rfl dX4_insert_44 ?_
        obtain ⟨a10, b11, hk12, hs13, hw⟩ := hw
        refine r_callSq (rest := [zI (sI u0 9), .ref (a 5)]) X K g h (ct_J6_valueOf_2dffe a10 b11 u0 p1 _ hw) lk_X4_35 ⟨rfl, rfl⟩ ⟨Nat.le_of_ble_eq_true rfl, Nat.le_of_ble_eq_true rfl⟩ rfl (lv_size hl) rfl (Nat.le_of_ble_eq_true rfl) dX4_insert_45 ⟨hk12, hs13⟩ (fun z9 w' H locs hp h => ?_)
        obtain ⟨u14, rfl, hw⟩ := hp
        obtain ⟨a15, b16, hk17, hs18, hw⟩ := hw
        refine r_callVv (rest := []) X K g h (ct_Jx4a65c_add_7a177 a15 b16 u14 (sI u0 9) z9 _ hw) lk_X4_39 5 rfl rfl ⟨rfl, rfl⟩ ⟨Nat.le_of_ble_eq_true rfl, Nat.le_of_ble_eq_true rfl⟩ rfl (lv_size hl) rfl (Nat.le_of_ble_eq_true rfl) dX4_insert_48 ⟨hk17, hs18⟩ (fun w' H locs hp h => ?_)
        obtain ⟨u19, rfl, hw⟩ := hp
        refine z_aload_n X hl 0 rfl rfl dX4_insert_51 ?_
        refine z_dup X rfl dX4_insert_52 ?_
        refine gC_X4_caret (x := sI u19 9) X K h rfl q_142 dX4_insert_53 ?_
        refine z_iconst X dX4_insert_56 ?_
        refine z_iadd X dX4_insert_57 ?_
        refine pC_X4_caret X K h q_142 dX4_insert_58 (fun H locs h => ?_)
        refine z_aload_n X hl 0 rfl rfl dX4_insert_61 ?_
        refine gC_X4_words X K h q_141 dX4_insert_62 ?_
        refine r_callVi (rest := []) X K g h (ct_Jx4a65c_size_8abf5 (pI u19 9 ((sI u19 9) + 1)) _ hw) lk_X4_22 5 rfl rfl ⟨rfl, rfl⟩ ⟨Nat.le_of_ble_eq_true rfl, Nat.le_of_ble_eq_true rfl⟩ rfl (lv_size hl) rfl (Nat.le_of_ble_eq_true rfl) dX4_insert_65 ⟨hk17, hs18⟩ (fun z20 w' H locs hp h => ?_)
        obtain ⟨rfl, hw⟩ := hp
        exact r_iret X hr hlk K h hk17 hs18 dX4_insert_68 ⟨_, rfl, hw⟩
      · replace hw := hw.2 c8
        refine z_bipush (v := (-5)) X dX4_insert_33 (by decide) ?_
        exact r_iret X hr hlk K h (Nat.zero_le _) (Nat.zero_le _) dX4_insert_35 ⟨_, rfl, hw⟩
def w_X4_exchange (post : Int → St → Prop) (mc ms : Nat) (G : Gr) (u0 : St) (p1 : Int) (p2 : Int) : Prop :=
(InR p2) ∧ ((p2 = 0 → (InR (sI u0 9)) ∧ ((sI u0 9 < 0 → post (-3) u0) ∧
 (¬ sI u0 9 < 0 → (w_Jx4a65c_size_8abf5 (fun (z5 : Int) => (InR z5) ∧ ((sI u0 9 < z5 → (∃ a9 b10 : Nat, (0 + a9 ≤ mc) ∧ (0 + b10 ≤ ms) ∧ w_J6_valueOf_2dffe (fun (z8 : Option Nat) (u13 : St) => (w_Jx4a65c_set_bcc79 (fun (z14 : Option Nat) (u15 : St) => (∃ (q16 : Nat) (w17 : Int), (z14 = some q16) ∧ (isBox G u15 q16 w17) ∧ post w17 u15)) G u13 (sI u0 9) z8)) a9 b10 G u0 p1)) ∧
 (¬ sI u0 9 < z5 → post (-3) u0))) u0)))) ∧
 (¬ p2 = 0 → (InR ((sI u0 9) - 1)) ∧ (((sI u0 9) - 1 < 0 → post (-3) u0) ∧
 (¬ (sI u0 9) - 1 < 0 → (w_Jx4a65c_size_8abf5 (fun (z22 : Int) => (InR z22) ∧ (((sI u0 9) - 1 < z22 → (∃ a26 b27 : Nat, (0 + a26 ≤ mc) ∧ (0 + b27 ≤ ms) ∧ w_J6_valueOf_2dffe (fun (z25 : Option Nat) (u30 : St) => (w_Jx4a65c_set_bcc79 (fun (z31 : Option Nat) (u32 : St) => (∃ (q33 : Nat) (w34 : Int), (z31 = some q33) ∧ (isBox G u32 q33 w34) ∧ post w34 u32)) G u30 ((sI u0 9) - 1) z25)) a26 b27 G u0 p1)) ∧
 (¬ (sI u0 9) - 1 < z22 → post (-3) u0))) u0)))))
abbrev rm_X4_exchange (mc ms : Nat) : Room := { frames := 4, cells := mc, slots := ms, locals := 73 }
set_option maxRecDepth 100000 in
set_option maxHeartbeats 4000000 in
theorem ct_X4_exchange {l : Launch} {G : Gr} {a : Nat → Nat} (mc ms : Nat) (u0 : St) (p1 : Int) (p2 : Int) (post : Int → St → Prop) (hw : w_X4_exchange post mc ms G u0 p1 p2) : Ct l G yX4_exchange (ws_ yX4_exchange cX4_exchange 4 (some .int)) (rm_X4_exchange mc ms) [.ref (a 4), zI p1, zI p2] (WC G a u0) mc ms (Po (WC G a) post) := by
  refine Ct.of (by decide) (Nat.le_of_ble_eq_true rfl) ?_
  intro p e s m args below meth c ls X hr hlk K g h hl
  have hl : lv_has ls 4 [(0, .ref (a 4)), (1, zI p1), (2, zI p2)] := hl
  obtain ⟨H, hH⟩ : ∃ H, H = s.heap := ⟨_, rfl⟩
  obtain ⟨locs, hL⟩ : ∃ L : List Loc, L = [] := ⟨_, rfl⟩
  replace h : HW G (va_A (WC G a u0) s.heap.size) s.heap (WC G a u0) H locs := by rw [hH, hL]; exact h
  suffices hg : W p l e (rm_X4_exchange mc ms) s m args below meth c H locs 0 0 (EndI G (WC G a u0) (Po (WC G a) post) args s mc ms below) (F0 m 0 ls []) by rw [hH, hL] at hg; exact hg
  clear hH hL
  refine z_iload_n X hl 2 rfl rfl dX4_exchange_0 ?_
  obtain ⟨h1, hw⟩ := hw
  refine z_if_eq (tgt := 13) X h1 dX4_exchange_1 (by decide) (fun c2 => ?_) (fun c2 => ?_)
  · replace hw := hw.1 c2
    refine z_aload_n X hl 0 rfl rfl dX4_exchange_13 ?_
    refine gC_X4_caret (x := sI u0 9) X K h rfl q_142 dX4_exchange_14 ?_
    refine z_istore_n (i := 3) (lv' := [(3, zI (sI u0 9)), (0, .ref (a 4)), (1, zI p1), (2, zI p2)]) X hl rfl (by decide) dX4_exchange_17 rfl (fun ls hl => ?_)
    refine z_iload_n X hl 0 rfl rfl dX4_exchange_18 ?_
    obtain ⟨h3, hw⟩ := hw
    refine z_if_lt (tgt := 33) X h3 dX4_exchange_19 (by decide) (fun c4 => ?_) (fun c4 => ?_)
    · replace hw := hw.1 c4
      refine z_bipush (v := (-3)) X dX4_exchange_33 (by decide) ?_
      exact r_iret X hr hlk K h (Nat.zero_le _) (Nat.zero_le _) dX4_exchange_35 ⟨_, rfl, hw⟩
    · replace hw := hw.2 c4
      refine z_iload_n X hl 0 rfl rfl dX4_exchange_22 ?_
      refine z_aload_n X hl 1 rfl rfl dX4_exchange_23 ?_
      refine gC_X4_words X K h q_141 dX4_exchange_24 ?_
      refine r_callVi (rest := [zI (sI u0 9)]) X K g h (ct_Jx4a65c_size_8abf5 u0 _ hw) lk_X4_22 5 rfl rfl ⟨rfl, rfl⟩ ⟨Nat.le_of_ble_eq_true rfl, Nat.le_of_ble_eq_true rfl⟩ rfl (lv_size hl) rfl (Nat.le_of_ble_eq_true rfl) dX4_exchange_27 ⟨(Nat.zero_le _), (Nat.zero_le _)⟩ (fun z5 w' H locs hp h => ?_)
      obtain ⟨rfl, hw⟩ := hp
      obtain ⟨h6, hw⟩ := hw
      refine z_icmp_lt (tgt := 36) X h3 h6 dX4_exchange_30 (by decide) (fun c7 => ?_) (fun c7 => ?_)
      · replace hw := hw.1 c7
        refine z_aload_n X hl 1 rfl rfl dX4_exchange_36 ?_
        refine gC_X4_words X K h q_141 dX4_exchange_37 ?_
        refine z_iload_n X hl 0 rfl rfl dX4_exchange_40 ?_
        refine z_iload_n X hl 2 rfl rfl dX4_exchange_41 ?_
        obtain ⟨a9, b10, hk11, hs12, hw⟩ := hw
        refine r_callSq (rest := [zI (sI u0 9), .ref (a 5)]) X K g h (ct_J6_valueOf_2dffe a9 b10 u0 p1 _ hw) lk_X4_35 ⟨rfl, rfl⟩ ⟨Nat.le_of_ble_eq_true rfl, Nat.le_of_ble_eq_true rfl⟩ rfl (lv_size hl) rfl (Nat.le_of_ble_eq_true rfl) dX4_exchange_42 ⟨hk11, hs12⟩ (fun z8 w' H locs hp h => ?_)
        obtain ⟨u13, rfl, hw⟩ := hp
        refine r_callVq (rest := []) X K g h (ct_Jx4a65c_set_bcc79 u13 (sI u0 9) z8 _ hw) lk_X4_43 5 rfl rfl ⟨rfl, rfl⟩ ⟨Nat.le_of_ble_eq_true rfl, Nat.le_of_ble_eq_true rfl⟩ rfl (lv_size hl) rfl (Nat.le_of_ble_eq_true rfl) dX4_exchange_45 ⟨hk11, hs12⟩ (fun z14 w' H locs hp h => ?_)
        obtain ⟨u15, rfl, hw⟩ := hp
        obtain ⟨q16, w17, hq18, hb19, hw⟩ := hw
        refine z_castI X K g h hq18 hb19 q_386 dX4_exchange_48 ?_
        refine z_intValue X K g h hq18 hb19 lk_X4_32 ⟨Nat.le_of_ble_eq_true rfl, Nat.le_of_ble_eq_true rfl⟩ (lv_size hl) (Nat.le_of_ble_eq_true rfl) dX4_exchange_51 ⟨hk11, hs12⟩ (fun H locs h => ?_)
        exact r_iret X hr hlk K h hk11 hs12 dX4_exchange_54 ⟨_, rfl, hw⟩
      · replace hw := hw.2 c7
        refine z_bipush (v := (-3)) X dX4_exchange_33 (by decide) ?_
        exact r_iret X hr hlk K h (Nat.zero_le _) (Nat.zero_le _) dX4_exchange_35 ⟨_, rfl, hw⟩
  · replace hw := hw.2 c2
    refine z_aload_n X hl 0 rfl rfl dX4_exchange_4 ?_
    refine gC_X4_caret (x := sI u0 9) X K h rfl q_142 dX4_exchange_5 ?_
    refine z_iconst X dX4_exchange_8 ?_
    refine z_isub X dX4_exchange_9 ?_
    refine z_goto (tgt := 17) X dX4_exchange_10 (by decide) ?_
    refine z_istore_n (i := 3) (lv' := [(3, zI ((sI u0 9) - 1)), (0, .ref (a 4)), (1, zI p1), (2, zI p2)]) X hl rfl (by decide) dX4_exchange_17 rfl (fun ls hl => ?_)
    refine z_iload_n X hl 0 rfl rfl dX4_exchange_18 ?_
    obtain ⟨h20, hw⟩ := hw
    refine z_if_lt (tgt := 33) X h20 dX4_exchange_19 (by decide) (fun c21 => ?_) (fun c21 => ?_)
    · replace hw := hw.1 c21
      refine z_bipush (v := (-3)) X dX4_exchange_33 (by decide) ?_
      exact r_iret X hr hlk K h (Nat.zero_le _) (Nat.zero_le _) dX4_exchange_35 ⟨_, rfl, hw⟩
    · replace hw := hw.2 c21
      refine z_iload_n X hl 0 rfl rfl dX4_exchange_22 ?_
      refine z_aload_n X hl 1 rfl rfl dX4_exchange_23 ?_
      refine gC_X4_words X K h q_141 dX4_exchange_24 ?_
      refine r_callVi (rest := [zI ((sI u0 9) - 1)]) X K g h (ct_Jx4a65c_size_8abf5 u0 _ hw) lk_X4_22 5 rfl rfl ⟨rfl, rfl⟩ ⟨Nat.le_of_ble_eq_true rfl, Nat.le_of_ble_eq_true rfl⟩ rfl (lv_size hl) rfl (Nat.le_of_ble_eq_true rfl) dX4_exchange_27 ⟨(Nat.zero_le _), (Nat.zero_le _)⟩ (fun z22 w' H locs hp h => ?_)
      obtain ⟨rfl, hw⟩ := hp
      obtain ⟨h23, hw⟩ := hw
      refine z_icmp_lt (tgt := 36) X h20 h23 dX4_exchange_30 (by decide) (fun c24 => ?_) (fun c24 => ?_)
      · replace hw := hw.1 c24
        refine z_aload_n X hl 1 rfl rfl dX4_exchange_36 ?_
        refine gC_X4_words X K h q_141 dX4_exchange_37 ?_
        refine z_iload_n X hl 0 rfl rfl dX4_exchange_40 ?_
        refine z_iload_n X hl 2 rfl rfl dX4_exchange_41 ?_
        obtain ⟨a26, b27, hk28, hs29, hw⟩ := hw
        refine r_callSq (rest := [zI ((sI u0 9) - 1), .ref (a 5)]) X K g h (ct_J6_valueOf_2dffe a26 b27 u0 p1 _ hw) lk_X4_35 ⟨rfl, rfl⟩ ⟨Nat.le_of_ble_eq_true rfl, Nat.le_of_ble_eq_true rfl⟩ rfl (lv_size hl) rfl (Nat.le_of_ble_eq_true rfl) dX4_exchange_42 ⟨hk28, hs29⟩ (fun z25 w' H locs hp h => ?_)
        obtain ⟨u30, rfl, hw⟩ := hp
        refine r_callVq (rest := []) X K g h (ct_Jx4a65c_set_bcc79 u30 ((sI u0 9) - 1) z25 _ hw) lk_X4_43 5 rfl rfl ⟨rfl, rfl⟩ ⟨Nat.le_of_ble_eq_true rfl, Nat.le_of_ble_eq_true rfl⟩ rfl (lv_size hl) rfl (Nat.le_of_ble_eq_true rfl) dX4_exchange_45 ⟨hk28, hs29⟩ (fun z31 w' H locs hp h => ?_)
        obtain ⟨u32, rfl, hw⟩ := hp
        obtain ⟨q33, w34, hq35, hb36, hw⟩ := hw
        refine z_castI X K g h hq35 hb36 q_386 dX4_exchange_48 ?_
        refine z_intValue X K g h hq35 hb36 lk_X4_32 ⟨Nat.le_of_ble_eq_true rfl, Nat.le_of_ble_eq_true rfl⟩ (lv_size hl) (Nat.le_of_ble_eq_true rfl) dX4_exchange_51 ⟨hk28, hs29⟩ (fun H locs h => ?_)
        exact r_iret X hr hlk K h hk28 hs29 dX4_exchange_54 ⟨_, rfl, hw⟩
      · replace hw := hw.2 c24
        refine z_bipush (v := (-3)) X dX4_exchange_33 (by decide) ?_
        exact r_iret X hr hlk K h (Nat.zero_le _) (Nat.zero_le _) dX4_exchange_35 ⟨_, rfl, hw⟩
def w_X4_drop (post : Int → St → Prop) (G : Gr) (u0 : St) (p1 : Int) : Prop :=
(InR p1) ∧ ((p1 = 0 → (InR (sI u0 9)) ∧ ((sI u0 9 < 0 → post (-3) u0) ∧
 (¬ sI u0 9 < 0 → (w_Jx4a65c_size_8abf5 (fun (z5 : Int) => (InR z5) ∧ ((sI u0 9 < z5 → (w_Jx4a65c_remove_915e3 (fun (z9 : Option Nat) (u10 : St) => (∃ (q11 : Nat) (w12 : Int), (z9 = some q11) ∧ (isBox G u10 q11 w12) ∧ post w12 u10)) G (pI u0 9 ((sI u0 9) - 0)) (sI u0 9))) ∧
 (¬ sI u0 9 < z5 → post (-3) u0))) u0)))) ∧
 (¬ p1 = 0 → (InR ((sI u0 9) - 1)) ∧ (((sI u0 9) - 1 < 0 → post (-3) u0) ∧
 (¬ (sI u0 9) - 1 < 0 → (w_Jx4a65c_size_8abf5 (fun (z17 : Int) => (InR z17) ∧ (((sI u0 9) - 1 < z17 → (w_Jx4a65c_remove_915e3 (fun (z21 : Option Nat) (u22 : St) => (∃ (q23 : Nat) (w24 : Int), (z21 = some q23) ∧ (isBox G u22 q23 w24) ∧ post w24 u22)) G (pI u0 9 ((sI u0 9) - 1)) ((sI u0 9) - 1))) ∧
 (¬ (sI u0 9) - 1 < z17 → post (-3) u0))) u0)))))
abbrev rm_X4_drop : Room := { frames := 3, cells := 0, slots := 0, locals := 166 }
set_option maxRecDepth 100000 in
set_option maxHeartbeats 4000000 in
theorem ct_X4_drop {l : Launch} {G : Gr} {a : Nat → Nat} (u0 : St) (p1 : Int) (post : Int → St → Prop) (hw : w_X4_drop post G u0 p1) : Ct l G yX4_drop (ws_ yX4_drop cX4_drop 3 (some .int)) rm_X4_drop [.ref (a 4), zI p1] (WC G a u0) 0 0 (Po (WC G a) post) := by
  refine Ct.of (by decide) (Nat.le_of_ble_eq_true rfl) ?_
  intro p e s m args below meth c ls X hr hlk K g h hl
  have hl : lv_has ls 3 [(0, .ref (a 4)), (1, zI p1)] := hl
  obtain ⟨H, hH⟩ : ∃ H, H = s.heap := ⟨_, rfl⟩
  obtain ⟨locs, hL⟩ : ∃ L : List Loc, L = [] := ⟨_, rfl⟩
  replace h : HW G (va_A (WC G a u0) s.heap.size) s.heap (WC G a u0) H locs := by rw [hH, hL]; exact h
  suffices hg : W p l e rm_X4_drop s m args below meth c H locs 0 0 (EndI G (WC G a u0) (Po (WC G a) post) args s 0 0 below) (F0 m 0 ls []) by rw [hH, hL] at hg; exact hg
  clear hH hL
  refine z_iload_n X hl 1 rfl rfl dX4_drop_0 ?_
  obtain ⟨h1, hw⟩ := hw
  refine z_if_eq (tgt := 13) X h1 dX4_drop_1 (by decide) (fun c2 => ?_) (fun c2 => ?_)
  · replace hw := hw.1 c2
    refine z_aload_n X hl 0 rfl rfl dX4_drop_13 ?_
    refine gC_X4_caret (x := sI u0 9) X K h rfl q_142 dX4_drop_14 ?_
    refine z_istore_n (i := 2) (lv' := [(2, zI (sI u0 9)), (0, .ref (a 4)), (1, zI p1)]) X hl rfl (by decide) dX4_drop_17 rfl (fun ls hl => ?_)
    refine z_iload_n X hl 0 rfl rfl dX4_drop_18 ?_
    obtain ⟨h3, hw⟩ := hw
    refine z_if_lt (tgt := 33) X h3 dX4_drop_19 (by decide) (fun c4 => ?_) (fun c4 => ?_)
    · replace hw := hw.1 c4
      refine z_bipush (v := (-3)) X dX4_drop_33 (by decide) ?_
      exact r_iret X hr hlk K h (Nat.le_refl _) (Nat.le_refl _) dX4_drop_35 ⟨_, rfl, hw⟩
    · replace hw := hw.2 c4
      refine z_iload_n X hl 0 rfl rfl dX4_drop_22 ?_
      refine z_aload_n X hl 1 rfl rfl dX4_drop_23 ?_
      refine gC_X4_words X K h q_141 dX4_drop_24 ?_
      refine r_callVi (rest := [zI (sI u0 9)]) X K g h (ct_Jx4a65c_size_8abf5 u0 _ hw) lk_X4_22 5 rfl rfl ⟨rfl, rfl⟩ ⟨Nat.le_of_ble_eq_true rfl, Nat.le_of_ble_eq_true rfl⟩ rfl (lv_size hl) rfl (Nat.le_of_ble_eq_true rfl) dX4_drop_27 ⟨Nat.le_of_ble_eq_true rfl, Nat.le_of_ble_eq_true rfl⟩ (fun z5 w' H locs hp h => ?_)
      obtain ⟨rfl, hw⟩ := hp
      obtain ⟨h6, hw⟩ := hw
      refine z_icmp_lt (tgt := 36) X h3 h6 dX4_drop_30 (by decide) (fun c7 => ?_) (fun c7 => ?_)
      · replace hw := hw.1 c7
        refine z_aload_n X hl 1 rfl rfl dX4_drop_36 ?_
        refine z_dup X rfl dX4_drop_37 ?_
        refine gC_X4_caret (x := sI u0 9) X K h rfl q_142 dX4_drop_38 ?_
        refine z_iload_n X hl 2 rfl rfl dX4_drop_41 ?_
        refine z_if_eq (tgt := 49) X h1 dX4_drop_42 (by decide) (fun _ => ?_) (fun c8 => absurd c8 (by omega))
        refine z_iconst X dX4_drop_49 ?_
        refine z_isub X dX4_drop_50 ?_
        refine pC_X4_caret X K h q_142 dX4_drop_51 (fun H locs h => ?_)
        refine z_aload_n X hl 1 rfl rfl dX4_drop_54 ?_
        refine gC_X4_words X K h q_141 dX4_drop_55 ?_
        refine z_iload_n X hl 0 rfl rfl dX4_drop_58 ?_
        refine r_callVq (rest := []) X K g h (ct_Jx4a65c_remove_915e3 (pI u0 9 ((sI u0 9) - 0)) (sI u0 9) _ hw) lk_X4_47 5 rfl rfl ⟨rfl, rfl⟩ ⟨Nat.le_of_ble_eq_true rfl, Nat.le_of_ble_eq_true rfl⟩ rfl (lv_size hl) rfl (Nat.le_of_ble_eq_true rfl) dX4_drop_59 ⟨Nat.le_of_ble_eq_true rfl, Nat.le_of_ble_eq_true rfl⟩ (fun z9 w' H locs hp h => ?_)
        obtain ⟨u10, rfl, hw⟩ := hp
        obtain ⟨q11, w12, hq13, hb14, hw⟩ := hw
        refine z_castI X K g h hq13 hb14 q_386 dX4_drop_62 ?_
        refine z_intValue X K g h hq13 hb14 lk_X4_32 ⟨Nat.le_of_ble_eq_true rfl, Nat.le_of_ble_eq_true rfl⟩ (lv_size hl) (Nat.le_of_ble_eq_true rfl) dX4_drop_65 ⟨Nat.le_of_ble_eq_true rfl, Nat.le_of_ble_eq_true rfl⟩ (fun H locs h => ?_)
        exact r_iret X hr hlk K h (Nat.le_refl _) (Nat.le_refl _) dX4_drop_68 ⟨_, rfl, hw⟩
      · replace hw := hw.2 c7
        refine z_bipush (v := (-3)) X dX4_drop_33 (by decide) ?_
        exact r_iret X hr hlk K h (Nat.le_refl _) (Nat.le_refl _) dX4_drop_35 ⟨_, rfl, hw⟩
  · replace hw := hw.2 c2
    refine z_aload_n X hl 0 rfl rfl dX4_drop_4 ?_
    refine gC_X4_caret (x := sI u0 9) X K h rfl q_142 dX4_drop_5 ?_
    refine z_iconst X dX4_drop_8 ?_
    refine z_isub X dX4_drop_9 ?_
    refine z_goto (tgt := 17) X dX4_drop_10 (by decide) ?_
    refine z_istore_n (i := 2) (lv' := [(2, zI ((sI u0 9) - 1)), (0, .ref (a 4)), (1, zI p1)]) X hl rfl (by decide) dX4_drop_17 rfl (fun ls hl => ?_)
    refine z_iload_n X hl 0 rfl rfl dX4_drop_18 ?_
    obtain ⟨h15, hw⟩ := hw
    refine z_if_lt (tgt := 33) X h15 dX4_drop_19 (by decide) (fun c16 => ?_) (fun c16 => ?_)
    · replace hw := hw.1 c16
      refine z_bipush (v := (-3)) X dX4_drop_33 (by decide) ?_
      exact r_iret X hr hlk K h (Nat.le_refl _) (Nat.le_refl _) dX4_drop_35 ⟨_, rfl, hw⟩
    · replace hw := hw.2 c16
      refine z_iload_n X hl 0 rfl rfl dX4_drop_22 ?_
      refine z_aload_n X hl 1 rfl rfl dX4_drop_23 ?_
      refine gC_X4_words X K h q_141 dX4_drop_24 ?_
      refine r_callVi (rest := [zI ((sI u0 9) - 1)]) X K g h (ct_Jx4a65c_size_8abf5 u0 _ hw) lk_X4_22 5 rfl rfl ⟨rfl, rfl⟩ ⟨Nat.le_of_ble_eq_true rfl, Nat.le_of_ble_eq_true rfl⟩ rfl (lv_size hl) rfl (Nat.le_of_ble_eq_true rfl) dX4_drop_27 ⟨Nat.le_of_ble_eq_true rfl, Nat.le_of_ble_eq_true rfl⟩ (fun z17 w' H locs hp h => ?_)
      obtain ⟨rfl, hw⟩ := hp
      obtain ⟨h18, hw⟩ := hw
      refine z_icmp_lt (tgt := 36) X h15 h18 dX4_drop_30 (by decide) (fun c19 => ?_) (fun c19 => ?_)
      · replace hw := hw.1 c19
        refine z_aload_n X hl 1 rfl rfl dX4_drop_36 ?_
        refine z_dup X rfl dX4_drop_37 ?_
        refine gC_X4_caret (x := sI u0 9) X K h rfl q_142 dX4_drop_38 ?_
        refine z_iload_n X hl 2 rfl rfl dX4_drop_41 ?_
        refine z_if_eq (tgt := 49) X h1 dX4_drop_42 (by decide) (fun c20 => absurd c20 (by omega)) (fun _ => ?_)
        refine z_iconst X dX4_drop_45 ?_
        refine z_goto (tgt := 50) X dX4_drop_46 (by decide) ?_
        refine z_isub X dX4_drop_50 ?_
        refine pC_X4_caret X K h q_142 dX4_drop_51 (fun H locs h => ?_)
        refine z_aload_n X hl 1 rfl rfl dX4_drop_54 ?_
        refine gC_X4_words X K h q_141 dX4_drop_55 ?_
        refine z_iload_n X hl 0 rfl rfl dX4_drop_58 ?_
        refine r_callVq (rest := []) X K g h (ct_Jx4a65c_remove_915e3 (pI u0 9 ((sI u0 9) - 1)) ((sI u0 9) - 1) _ hw) lk_X4_47 5 rfl rfl ⟨rfl, rfl⟩ ⟨Nat.le_of_ble_eq_true rfl, Nat.le_of_ble_eq_true rfl⟩ rfl (lv_size hl) rfl (Nat.le_of_ble_eq_true rfl) dX4_drop_59 ⟨Nat.le_of_ble_eq_true rfl, Nat.le_of_ble_eq_true rfl⟩ (fun z21 w' H locs hp h => ?_)
        obtain ⟨u22, rfl, hw⟩ := hp
        obtain ⟨q23, w24, hq25, hb26, hw⟩ := hw
        refine z_castI X K g h hq25 hb26 q_386 dX4_drop_62 ?_
        refine z_intValue X K g h hq25 hb26 lk_X4_32 ⟨Nat.le_of_ble_eq_true rfl, Nat.le_of_ble_eq_true rfl⟩ (lv_size hl) (Nat.le_of_ble_eq_true rfl) dX4_drop_65 ⟨Nat.le_of_ble_eq_true rfl, Nat.le_of_ble_eq_true rfl⟩ (fun H locs h => ?_)
        exact r_iret X hr hlk K h (Nat.le_refl _) (Nat.le_refl _) dX4_drop_68 ⟨_, rfl, hw⟩
      · replace hw := hw.2 c19
        refine z_bipush (v := (-3)) X dX4_drop_33 (by decide) ?_
        exact r_iret X hr hlk K h (Nat.le_refl _) (Nat.le_refl _) dX4_drop_35 ⟨_, rfl, hw⟩
def w_X4_cross (post : Int → St → Prop) (mc ms : Nat) (G : Gr) (u0 : St) : Prop :=
(InR (sI u0 9)) ∧ ((sI u0 9 < 1 → post (-2) u0) ∧
 (¬ sI u0 9 < 1 → (w_Jx4a65c_size_8abf5 (fun (z3 : Int) => (InR z3) ∧ ((sI u0 9 < z3 → (w_Jx4a65c_remove_915e3 (fun (z6 : Option Nat) (u7 : St) => (∃ (q8 : Nat) (w9 : Int), (z6 = some q8) ∧ (isBox G u7 q8 w9) ∧ (∃ a12 b13 : Nat, (0 + a12 ≤ mc) ∧ (0 + b13 ≤ ms) ∧ w_Jx4a65c_add_7a177 (fun  (u16 : St) => (w_Jx4a65c_get_915e3 (fun (z17 : Option Nat) => (∃ (q18 : Nat) (w19 : Int), (z17 = some q18) ∧ (isBox G u16 q18 w19) ∧ post w19 u16)) G u16 ((sI u16 9) - 1))) a12 b13 G u7 ((sI u0 9) - 1) z6))) G u0 (sI u0 9))) ∧
 (¬ sI u0 9 < z3 → post (-2) u0))) u0)))
abbrev rm_X4_cross (mc ms : Nat) : Room := { frames := 11, cells := mc, slots := ms, locals := 317 }
set_option maxRecDepth 100000 in
set_option maxHeartbeats 4000000 in
theorem ct_X4_cross {l : Launch} {G : Gr} {a : Nat → Nat} (mc ms : Nat) (u0 : St) (post : Int → St → Prop) (hw : w_X4_cross post mc ms G u0) : Ct l G yX4_cross (ws_ yX4_cross cX4_cross 1 (some .int)) (rm_X4_cross mc ms) [.ref (a 4)] (WC G a u0) mc ms (Po (WC G a) post) := by
  refine Ct.of (by decide) (Nat.le_of_ble_eq_true rfl) ?_
  intro p e s m args below meth c ls X hr hlk K g h hl
  have hl : lv_has ls 1 [(0, .ref (a 4))] := hl
  obtain ⟨H, hH⟩ : ∃ H, H = s.heap := ⟨_, rfl⟩
  obtain ⟨locs, hL⟩ : ∃ L : List Loc, L = [] := ⟨_, rfl⟩
  replace h : HW G (va_A (WC G a u0) s.heap.size) s.heap (WC G a u0) H locs := by rw [hH, hL]; exact h
  suffices hg : W p l e (rm_X4_cross mc ms) s m args below meth c H locs 0 0 (EndI G (WC G a u0) (Po (WC G a) post) args s mc ms below) (F0 m 0 ls []) by rw [hH, hL] at hg; exact hg
  clear hH hL
  refine z_aload_n X hl 0 rfl rfl dX4_cross_0 ?_
  refine gC_X4_caret (x := sI u0 9) X K h rfl q_142 dX4_cross_1 ?_
  refine z_iconst X dX4_cross_4 ?_
  obtain ⟨h1, hw⟩ := hw
  refine z_icmp_lt (tgt := 22) X h1 (by decide) dX4_cross_5 (by decide) (fun c2 => ?_) (fun c2 => ?_)
  · replace hw := hw.1 c2
    refine z_bipush (v := (-2)) X dX4_cross_22 (by decide) ?_
    exact r_iret X hr hlk K h (Nat.zero_le _) (Nat.zero_le _) dX4_cross_24 ⟨_, rfl, hw⟩
  · replace hw := hw.2 c2
    refine z_aload_n X hl 0 rfl rfl dX4_cross_8 ?_
    refine gC_X4_caret (x := sI u0 9) X K h rfl q_142 dX4_cross_9 ?_
    refine z_aload_n X hl 0 rfl rfl dX4_cross_12 ?_
    refine gC_X4_words X K h q_141 dX4_cross_13 ?_
    refine r_callVi (rest := [zI (sI u0 9)]) X K g h (ct_Jx4a65c_size_8abf5 u0 _ hw) lk_X4_22 5 rfl rfl ⟨rfl, rfl⟩ ⟨Nat.le_of_ble_eq_true rfl, Nat.le_of_ble_eq_true rfl⟩ rfl (lv_size hl) rfl (Nat.le_of_ble_eq_true rfl) dX4_cross_16 ⟨(Nat.zero_le _), (Nat.zero_le _)⟩ (fun z3 w' H locs hp h => ?_)
    obtain ⟨rfl, hw⟩ := hp
    obtain ⟨h4, hw⟩ := hw
    refine z_icmp_lt (tgt := 25) X h1 h4 dX4_cross_19 (by decide) (fun c5 => ?_) (fun c5 => ?_)
    · replace hw := hw.1 c5
      refine z_aload_n X hl 0 rfl rfl dX4_cross_25 ?_
      refine gC_X4_words X K h q_141 dX4_cross_26 ?_
      refine z_aload_n X hl 0 rfl rfl dX4_cross_29 ?_
      refine gC_X4_caret (x := sI u0 9) X K h rfl q_142 dX4_cross_30 ?_
      refine z_iconst X dX4_cross_33 ?_
      refine z_isub X dX4_cross_34 ?_
      refine z_aload_n X hl 0 rfl rfl dX4_cross_35 ?_
      refine gC_X4_words X K h q_141 dX4_cross_36 ?_
      refine z_aload_n X hl 0 rfl rfl dX4_cross_39 ?_
      refine gC_X4_caret (x := sI u0 9) X K h rfl q_142 dX4_cross_40 ?_
      refine r_callVq (rest := [zI ((sI u0 9) - 1), .ref (a 5)]) X K g h (ct_Jx4a65c_remove_915e3 u0 (sI u0 9) _ hw) lk_X4_47 5 rfl rfl ⟨rfl, rfl⟩ ⟨Nat.le_of_ble_eq_true rfl, Nat.le_of_ble_eq_true rfl⟩ rfl (lv_size hl) rfl (Nat.le_of_ble_eq_true rfl) dX4_cross_43 ⟨(Nat.zero_le _), (Nat.zero_le _)⟩ (fun z6 w' H locs hp h => ?_)
      obtain ⟨u7, rfl, hw⟩ := hp
      obtain ⟨q8, w9, hq10, hb11, hw⟩ := hw
      refine z_castI X K g h hq10 hb11 q_386 dX4_cross_46 ?_
      obtain ⟨a12, b13, hk14, hs15, hw⟩ := hw
      refine r_callVv (rest := []) X K g h (ct_Jx4a65c_add_7a177 a12 b13 u7 ((sI u0 9) - 1) z6 _ hw) lk_X4_39 5 rfl rfl ⟨rfl, rfl⟩ ⟨Nat.le_of_ble_eq_true rfl, Nat.le_of_ble_eq_true rfl⟩ rfl (lv_size hl) rfl (Nat.le_of_ble_eq_true rfl) dX4_cross_49 ⟨hk14, hs15⟩ (fun w' H locs hp h => ?_)
      obtain ⟨u16, rfl, hw⟩ := hp
      refine z_aload_n X hl 0 rfl rfl dX4_cross_52 ?_
      refine gC_X4_words X K h q_141 dX4_cross_53 ?_
      refine z_aload_n X hl 0 rfl rfl dX4_cross_56 ?_
      refine gC_X4_caret (x := sI u16 9) X K h rfl q_142 dX4_cross_57 ?_
      refine z_iconst X dX4_cross_60 ?_
      refine z_isub X dX4_cross_61 ?_
      refine r_callVq (rest := []) X K g h (ct_Jx4a65c_get_915e3 u16 ((sI u16 9) - 1) _ hw) lk_X4_26 5 rfl rfl ⟨rfl, rfl⟩ ⟨Nat.le_of_ble_eq_true rfl, Nat.le_of_ble_eq_true rfl⟩ rfl (lv_size hl) rfl (Nat.le_of_ble_eq_true rfl) dX4_cross_62 ⟨hk14, hs15⟩ (fun z17 w' H locs hp h => ?_)
      obtain ⟨rfl, hw⟩ := hp
      obtain ⟨q18, w19, hq20, hb21, hw⟩ := hw
      refine z_castI X K g h hq20 hb21 q_386 dX4_cross_65 ?_
      refine z_intValue X K g h hq20 hb21 lk_X4_32 ⟨Nat.le_of_ble_eq_true rfl, Nat.le_of_ble_eq_true rfl⟩ (lv_size hl) (Nat.le_of_ble_eq_true rfl) dX4_cross_68 ⟨hk14, hs15⟩ (fun H locs h => ?_)
      exact r_iret X hr hlk K h hk14 hs15 dX4_cross_71 ⟨_, rfl, hw⟩
    · replace hw := hw.2 c5
      refine z_bipush (v := (-2)) X dX4_cross_22 (by decide) ?_
      exact r_iret X hr hlk K h (Nat.zero_le _) (Nat.zero_le _) dX4_cross_24 ⟨_, rfl, hw⟩
def w_X4_empty (post : St → Prop) (G : Gr) (u0 : St) : Prop :=
(w_Jx4a65c_clear_da8c8 (fun  (u1 : St) => post (pI u1 9 0)) G u0)
abbrev rm_X4_empty : Room := { frames := 1, cells := 0, slots := 0, locals := 23 }
set_option maxRecDepth 100000 in
set_option maxHeartbeats 4000000 in
theorem ct_X4_empty {l : Launch} {G : Gr} {a : Nat → Nat} (u0 : St) (post : St → Prop) (hw : w_X4_empty post G u0) : CtV l G yX4_empty (ws_ yX4_empty cX4_empty 1 (none)) rm_X4_empty [.ref (a 4)] (WC G a u0) 0 0 (PoV (WC G a) post) := by
  refine CtV.of (by decide) (Nat.le_of_ble_eq_true rfl) ?_
  intro p e s m args below meth c ls X hr hlk K g h hl
  have hl : lv_has ls 1 [(0, .ref (a 4))] := hl
  obtain ⟨H, hH⟩ : ∃ H, H = s.heap := ⟨_, rfl⟩
  obtain ⟨locs, hL⟩ : ∃ L : List Loc, L = [] := ⟨_, rfl⟩
  replace h : HW G (va_A (WC G a u0) s.heap.size) s.heap (WC G a u0) H locs := by rw [hH, hL]; exact h
  suffices hg : W p l e rm_X4_empty s m args below meth c H locs 0 0 (EndV G (WC G a u0) (PoV (WC G a) post) args s 0 0 below) (F0 m 0 ls []) by rw [hH, hL] at hg; exact hg
  clear hH hL
  refine z_aload_n X hl 0 rfl rfl dX4_empty_0 ?_
  refine gC_X4_words X K h q_141 dX4_empty_1 ?_
  refine r_callVv (rest := []) X K g h (ct_Jx4a65c_clear_da8c8 u0 _ hw) lk_X4_50 5 rfl rfl ⟨rfl, rfl⟩ ⟨Nat.le_of_ble_eq_true rfl, Nat.le_of_ble_eq_true rfl⟩ rfl (lv_size hl) rfl (Nat.le_of_ble_eq_true rfl) dX4_empty_4 ⟨Nat.le_of_ble_eq_true rfl, Nat.le_of_ble_eq_true rfl⟩ (fun w' H locs hp h => ?_)
  obtain ⟨u1, rfl, hw⟩ := hp
  refine z_aload_n X hl 0 rfl rfl dX4_empty_7 ?_
  refine z_iconst X dX4_empty_8 ?_
  refine pC_X4_caret X K h q_142 dX4_empty_9 (fun H locs h => ?_)
  exact r_vret X hr hlk K h (Nat.le_refl _) (Nat.le_refl _) dX4_empty_12 ⟨_, rfl, hw⟩
def w_X4_length (post : Int → Prop) (u0 : St) : Prop :=
(w_Jx4a65c_size_8abf5 (fun (z1 : Int) => post z1) u0)
abbrev rm_X4_length : Room := { frames := 1, cells := 0, slots := 0, locals := 20 }
set_option maxRecDepth 100000 in
set_option maxHeartbeats 4000000 in
theorem ct_X4_length {l : Launch} {G : Gr} {a : Nat → Nat} (u0 : St) (post : Int → Prop) (hw : w_X4_length post u0) : Ct l G yX4_length (ws_ yX4_length cX4_length 1 (some .int)) rm_X4_length [.ref (a 4)] (WC G a u0) 0 0 (PoP (WC G a u0) post) := by
  refine Ct.of (by decide) (Nat.le_of_ble_eq_true rfl) ?_
  intro p e s m args below meth c ls X hr hlk K g h hl
  have hl : lv_has ls 1 [(0, .ref (a 4))] := hl
  obtain ⟨H, hH⟩ : ∃ H, H = s.heap := ⟨_, rfl⟩
  obtain ⟨locs, hL⟩ : ∃ L : List Loc, L = [] := ⟨_, rfl⟩
  replace h : HW G (va_A (WC G a u0) s.heap.size) s.heap (WC G a u0) H locs := by rw [hH, hL]; exact h
  suffices hg : W p l e rm_X4_length s m args below meth c H locs 0 0 (EndI G (WC G a u0) (PoP (WC G a u0) post) args s 0 0 below) (F0 m 0 ls []) by rw [hH, hL] at hg; exact hg
  clear hH hL
  refine z_aload_n X hl 0 rfl rfl dX4_length_0 ?_
  refine gC_X4_words X K h q_141 dX4_length_1 ?_
  refine r_callVi (rest := []) X K g h (ct_Jx4a65c_size_8abf5 u0 _ hw) lk_X4_22 5 rfl rfl ⟨rfl, rfl⟩ ⟨Nat.le_of_ble_eq_true rfl, Nat.le_of_ble_eq_true rfl⟩ rfl (lv_size hl) rfl (Nat.le_of_ble_eq_true rfl) dX4_length_4 ⟨Nat.le_of_ble_eq_true rfl, Nat.le_of_ble_eq_true rfl⟩ (fun z1 w' H locs hp h => ?_)
  obtain ⟨rfl, hw⟩ := hp
  exact r_iret X hr hlk K h (Nat.le_refl _) (Nat.le_refl _) dX4_length_7 ⟨rfl, hw⟩
def w_X4_wordOf (post : Int → Prop) (G : Gr) (u0 : St) (p1 : Int) : Prop :=
(InR p1) ∧ ((p1 < 0 → post (-1)) ∧
 (¬ p1 < 0 → (w_Jx4a65c_size_8abf5 (fun (z3 : Int) => (InR z3) ∧ ((z3 ≤ p1 → post (-1)) ∧
 (¬ z3 ≤ p1 → (w_Jx4a65c_get_915e3 (fun (z6 : Option Nat) => (∃ (q7 : Nat) (w8 : Int), (z6 = some q7) ∧ (isBox G u0 q7 w8) ∧ post w8)) G u0 p1)))) u0)))
abbrev rm_X4_wordOf : Room := { frames := 3, cells := 0, slots := 0, locals := 64 }
set_option maxRecDepth 100000 in
set_option maxHeartbeats 4000000 in
theorem ct_X4_wordOf {l : Launch} {G : Gr} {a : Nat → Nat} (u0 : St) (p1 : Int) (post : Int → Prop) (hw : w_X4_wordOf post G u0 p1) : Ct l G yX4_wordOf (ws_ yX4_wordOf cX4_wordOf 2 (some .int)) rm_X4_wordOf [.ref (a 4), zI p1] (WC G a u0) 0 0 (PoP (WC G a u0) post) := by
  refine Ct.of (by decide) (Nat.le_of_ble_eq_true rfl) ?_
  intro p e s m args below meth c ls X hr hlk K g h hl
  have hl : lv_has ls 2 [(0, .ref (a 4)), (1, zI p1)] := hl
  obtain ⟨H, hH⟩ : ∃ H, H = s.heap := ⟨_, rfl⟩
  obtain ⟨locs, hL⟩ : ∃ L : List Loc, L = [] := ⟨_, rfl⟩
  replace h : HW G (va_A (WC G a u0) s.heap.size) s.heap (WC G a u0) H locs := by rw [hH, hL]; exact h
  suffices hg : W p l e rm_X4_wordOf s m args below meth c H locs 0 0 (EndI G (WC G a u0) (PoP (WC G a u0) post) args s 0 0 below) (F0 m 0 ls []) by rw [hH, hL] at hg; exact hg
  clear hH hL
  refine z_iload_n X hl 1 rfl rfl dX4_wordOf_0 ?_
  obtain ⟨h1, hw⟩ := hw
  refine z_if_lt (tgt := 32) X h1 dX4_wordOf_1 (by decide) (fun c2 => ?_) (fun c2 => ?_)
  · replace hw := hw.1 c2
    refine z_iconst X dX4_wordOf_32 ?_
    exact r_iret X hr hlk K h (Nat.le_refl _) (Nat.le_refl _) dX4_wordOf_33 ⟨rfl, hw⟩
  · replace hw := hw.2 c2
    refine z_iload_n X hl 1 rfl rfl dX4_wordOf_4 ?_
    refine z_aload_n X hl 0 rfl rfl dX4_wordOf_5 ?_
    refine gC_X4_words X K h q_141 dX4_wordOf_6 ?_
    refine r_callVi (rest := [zI p1]) X K g h (ct_Jx4a65c_size_8abf5 u0 _ hw) lk_X4_22 5 rfl rfl ⟨rfl, rfl⟩ ⟨Nat.le_of_ble_eq_true rfl, Nat.le_of_ble_eq_true rfl⟩ rfl (lv_size hl) rfl (Nat.le_of_ble_eq_true rfl) dX4_wordOf_9 ⟨Nat.le_of_ble_eq_true rfl, Nat.le_of_ble_eq_true rfl⟩ (fun z3 w' H locs hp h => ?_)
    obtain ⟨rfl, hw⟩ := hp
    obtain ⟨h4, hw⟩ := hw
    refine z_icmp_ge (tgt := 32) X h1 h4 dX4_wordOf_12 (by decide) (fun c5 => ?_) (fun c5 => ?_)
    · replace hw := hw.1 c5
      refine z_iconst X dX4_wordOf_32 ?_
      exact r_iret X hr hlk K h (Nat.le_refl _) (Nat.le_refl _) dX4_wordOf_33 ⟨rfl, hw⟩
    · replace hw := hw.2 c5
      refine z_aload_n X hl 0 rfl rfl dX4_wordOf_15 ?_
      refine gC_X4_words X K h q_141 dX4_wordOf_16 ?_
      refine z_iload_n X hl 1 rfl rfl dX4_wordOf_19 ?_
      refine r_callVq (rest := []) X K g h (ct_Jx4a65c_get_915e3 u0 p1 _ hw) lk_X4_26 5 rfl rfl ⟨rfl, rfl⟩ ⟨Nat.le_of_ble_eq_true rfl, Nat.le_of_ble_eq_true rfl⟩ rfl (lv_size hl) rfl (Nat.le_of_ble_eq_true rfl) dX4_wordOf_20 ⟨Nat.le_of_ble_eq_true rfl, Nat.le_of_ble_eq_true rfl⟩ (fun z6 w' H locs hp h => ?_)
      obtain ⟨rfl, hw⟩ := hp
      obtain ⟨q7, w8, hq9, hb10, hw⟩ := hw
      refine z_castI X K g h hq9 hb10 q_386 dX4_wordOf_23 ?_
      refine z_intValue X K g h hq9 hb10 lk_X4_32 ⟨Nat.le_of_ble_eq_true rfl, Nat.le_of_ble_eq_true rfl⟩ (lv_size hl) (Nat.le_of_ble_eq_true rfl) dX4_wordOf_26 ⟨Nat.le_of_ble_eq_true rfl, Nat.le_of_ble_eq_true rfl⟩ (fun H locs h => ?_)
      refine z_goto (tgt := 33) X dX4_wordOf_29 (by decide) ?_
      exact r_iret X hr hlk K h (Nat.le_refl _) (Nat.le_refl _) dX4_wordOf_33 ⟨rfl, hw⟩
