/-! the three lines, the acts -/
def w_X3_has (post : Int → Prop) (u0 : St) (p1 : Int) : Prop :=
(InR p1) ∧ ((p1 = 0 → (w_X6_caret (fun (z3 : Int) => (w_X6_length (fun (z4 : Int) => (InR z3) ∧ (InR z4) ∧ ((z4 ≤ z3 → post 0) ∧
 (¬ z4 ≤ z3 → post 1))) u0)) u0)) ∧
 (¬ p1 = 0 → (w_X6_caret (fun (z8 : Int) => (InR z8) ∧ ((z8 ≤ 0 → post 0) ∧
 (¬ z8 ≤ 0 → post 1))) u0)))
abbrev rm_X3_has : Room := { frames := 1, cells := 0, slots := 0, locals := 20 }
set_option maxRecDepth 100000 in
set_option maxHeartbeats 4000000 in
theorem ct_X3_has {l : Launch} {G : Gr} {a : Nat → Nat} (u0 : St) (p1 : Int) (post : Int → Prop) (hw : w_X3_has post u0 p1) : Ct l G yX3_has (ws_ yX3_has cX3_has 2 (some .boolean)) rm_X3_has [.ref (a 3), zI p1] (WC G a u0) 0 0 (PoP (WC G a u0) post) := by
  refine Ct.of (by decide) (Nat.le_of_ble_eq_true rfl) ?_
  intro p e s m args below meth c ls X hr hlk K g h hl
  have hl : lv_has ls 2 [(0, .ref (a 3)), (1, zI p1)] := hl
  obtain ⟨H, hH⟩ : ∃ H, H = s.heap := ⟨_, rfl⟩
  obtain ⟨locs, hL⟩ : ∃ L : List Loc, L = [] := ⟨_, rfl⟩
  replace h : HW G (va_A (WC G a u0) s.heap.size) s.heap (WC G a u0) H locs := by rw [hH, hL]; exact h
  suffices hg : W p l e rm_X3_has s m args below meth c H locs 0 0 (EndI G (WC G a u0) (PoP (WC G a u0) post) args s 0 0 below) (F0 m 0 ls []) by rw [hH, hL] at hg; exact hg
  clear hH hL
  refine z_iload_n X hl 1 rfl rfl dX3_has_0 ?_
  obtain ⟨h1, hw⟩ := hw
  refine z_if_eq (tgt := 22) X h1 dX3_has_1 (by decide) (fun c2 => ?_) (fun c2 => ?_)
  · replace hw := hw.1 c2
    refine z_aload_n X hl 0 rfl rfl dX3_has_22 ?_
    refine gC_X3_rows X K h q_207 dX3_has_23 ?_
    refine r_callVi (rest := []) X K g h (ct_X6_caret u0 _ hw) lk_X3_73 7 rfl rfl ⟨rfl, rfl⟩ ⟨Nat.le_of_ble_eq_true rfl, Nat.le_of_ble_eq_true rfl⟩ rfl (lv_size hl) rfl (Nat.le_of_ble_eq_true rfl) dX3_has_26 ⟨Nat.le_of_ble_eq_true rfl, Nat.le_of_ble_eq_true rfl⟩ (fun z3 w' H locs hp h => ?_)
    obtain ⟨rfl, hw⟩ := hp
    refine z_aload_n X hl 0 rfl rfl dX3_has_29 ?_
    refine gC_X3_rows X K h q_207 dX3_has_30 ?_
    refine r_callVi (rest := [zI z3]) X K g h (ct_X6_length u0 _ hw) lk_X3_74 7 rfl rfl ⟨rfl, rfl⟩ ⟨Nat.le_of_ble_eq_true rfl, Nat.le_of_ble_eq_true rfl⟩ rfl (lv_size hl) rfl (Nat.le_of_ble_eq_true rfl) dX3_has_33 ⟨Nat.le_of_ble_eq_true rfl, Nat.le_of_ble_eq_true rfl⟩ (fun z4 w' H locs hp h => ?_)
    obtain ⟨rfl, hw⟩ := hp
    obtain ⟨h5, h6, hw⟩ := hw
    refine z_icmp_ge (tgt := 43) X h5 h6 dX3_has_36 (by decide) (fun c7 => ?_) (fun c7 => ?_)
    · replace hw := hw.1 c7
      refine z_iconst X dX3_has_43 ?_
      exact r_zret X hr hlk K h (Nat.le_refl _) (Nat.le_refl _) dX3_has_44 (by decide) ⟨rfl, hw⟩
    · replace hw := hw.2 c7
      refine z_iconst X dX3_has_39 ?_
      refine z_goto (tgt := 44) X dX3_has_40 (by decide) ?_
      exact r_zret X hr hlk K h (Nat.le_refl _) (Nat.le_refl _) dX3_has_44 (by decide) ⟨rfl, hw⟩
  · replace hw := hw.2 c2
    refine z_aload_n X hl 0 rfl rfl dX3_has_4 ?_
    refine gC_X3_rows X K h q_207 dX3_has_5 ?_
    refine r_callVi (rest := []) X K g h (ct_X6_caret u0 _ hw) lk_X3_73 7 rfl rfl ⟨rfl, rfl⟩ ⟨Nat.le_of_ble_eq_true rfl, Nat.le_of_ble_eq_true rfl⟩ rfl (lv_size hl) rfl (Nat.le_of_ble_eq_true rfl) dX3_has_8 ⟨Nat.le_of_ble_eq_true rfl, Nat.le_of_ble_eq_true rfl⟩ (fun z8 w' H locs hp h => ?_)
    obtain ⟨rfl, hw⟩ := hp
    obtain ⟨h9, hw⟩ := hw
    refine z_if_le (tgt := 18) X h9 dX3_has_11 (by decide) (fun c10 => ?_) (fun c10 => ?_)
    · replace hw := hw.1 c10
      refine z_iconst X dX3_has_18 ?_
      refine z_goto (tgt := 44) X dX3_has_19 (by decide) ?_
      exact r_zret X hr hlk K h (Nat.le_refl _) (Nat.le_refl _) dX3_has_44 (by decide) ⟨rfl, hw⟩
    · replace hw := hw.2 c10
      refine z_iconst X dX3_has_14 ?_
      refine z_goto (tgt := 44) X dX3_has_15 (by decide) ?_
      exact r_zret X hr hlk K h (Nat.le_refl _) (Nat.le_refl _) dX3_has_44 (by decide) ⟨rfl, hw⟩
def w_X1_refuse (post : Int → St → Prop) (u0 : St) (p1 : Int) : Prop :=
(InR ((-2) - p1)) ∧ (((-2) - p1 < 0 → post p1 u0) ∧
 (¬ (-2) - p1 < 0 → ((4 ≤ (-2) - p1 → post p1 u0) ∧
 (¬ 4 ≤ (-2) - p1 → (0 ≤ (-2) - p1) ∧ ((-2) - p1 < 4) ∧ post p1 (pA u0 0 ((-2) - p1) ((sA u0 0 ((-2) - p1)) + 1))))))
abbrev rm_X1_refuse : Room := { frames := 0, cells := 0, slots := 0, locals := 0 }
set_option maxRecDepth 100000 in
set_option maxHeartbeats 4000000 in
theorem ct_X1_refuse {l : Launch} {G : Gr} {a : Nat → Nat} (u0 : St) (p1 : Int) (post : Int → St → Prop) (hw : w_X1_refuse post u0 p1) : Ct l G yX1_refuse (ws_ yX1_refuse cX1_refuse 3 (some .int)) rm_X1_refuse [.ref (a 1), zI p1] (WC G a u0) 0 0 (Po (WC G a) post) := by
  refine Ct.of (by decide) (Nat.le_of_ble_eq_true rfl) ?_
  intro p e s m args below meth c ls X hr hlk K g h hl
  have hl : lv_has ls 3 [(0, .ref (a 1)), (1, zI p1)] := hl
  obtain ⟨H, hH⟩ : ∃ H, H = s.heap := ⟨_, rfl⟩
  obtain ⟨locs, hL⟩ : ∃ L : List Loc, L = [] := ⟨_, rfl⟩
  replace h : HW G (va_A (WC G a u0) s.heap.size) s.heap (WC G a u0) H locs := by rw [hH, hL]; exact h
  suffices hg : W p l e rm_X1_refuse s m args below meth c H locs 0 0 (EndI G (WC G a u0) (Po (WC G a) post) args s 0 0 below) (F0 m 0 ls []) by rw [hH, hL] at hg; exact hg
  clear hH hL
  refine z_bipush (v := (-2)) X dX1_refuse_0 (by decide) ?_
  refine z_iload_n X hl 1 rfl rfl dX1_refuse_2 ?_
  refine z_isub X dX1_refuse_3 ?_
  refine z_istore_n (i := 2) (lv' := [(2, zI ((-2) - p1)), (0, .ref (a 1)), (1, zI p1)]) X hl rfl (by decide) dX1_refuse_4 rfl (fun ls hl => ?_)
  refine z_iload_n X hl 0 rfl rfl dX1_refuse_5 ?_
  obtain ⟨h1, hw⟩ := hw
  refine z_if_lt (tgt := 28) X h1 dX1_refuse_6 (by decide) (fun c2 => ?_) (fun c2 => ?_)
  · replace hw := hw.1 c2
    refine z_iload_n X hl 2 rfl rfl dX1_refuse_28 ?_
    exact r_iret X hr hlk K h (Nat.le_refl _) (Nat.le_refl _) dX1_refuse_29 ⟨_, rfl, hw⟩
  · replace hw := hw.2 c2
    refine z_iload_n X hl 0 rfl rfl dX1_refuse_9 ?_
    refine z_aload_n X hl 1 rfl rfl dX1_refuse_10 ?_
    refine gC_X1_refused X K h q_244 dX1_refuse_11 ?_
    refine nC_0 X K h dX1_refuse_14 ?_
    refine z_icmp_ge (tgt := 28) X h1 (by decide) dX1_refuse_15 (by decide) (fun c3 => ?_) (fun c3 => ?_)
    · replace hw := hw.1 c3
      refine z_iload_n X hl 2 rfl rfl dX1_refuse_28 ?_
      exact r_iret X hr hlk K h (Nat.le_refl _) (Nat.le_refl _) dX1_refuse_29 ⟨_, rfl, hw⟩
    · replace hw := hw.2 c3
      refine z_aload_n X hl 1 rfl rfl dX1_refuse_18 ?_
      refine gC_X1_refused X K h q_244 dX1_refuse_19 ?_
      refine z_iload_n X hl 0 rfl rfl dX1_refuse_22 ?_
      refine z_dup2 X rfl rfl dX1_refuse_23 ?_
      obtain ⟨h4, h5, hw⟩ := hw
      refine lC_0 (x := sA u0 0 ((-2) - p1)) X K h h4 h5 rfl dX1_refuse_24 ?_
      refine z_iconst X dX1_refuse_25 ?_
      refine z_iadd X dX1_refuse_26 ?_
      refine sC_0 X K h h4 h5 dX1_refuse_27 (fun H locs h => ?_)
      refine z_iload_n X hl 2 rfl rfl dX1_refuse_28 ?_
      exact r_iret X hr hlk K h (Nat.le_refl _) (Nat.le_refl _) dX1_refuse_29 ⟨_, rfl, hw⟩
def w_X3_caret (post : Int → Prop) (u0 : St) : Prop :=
(w_X6_caret (fun (z1 : Int) => post z1) u0)
abbrev rm_X3_caret : Room := { frames := 1, cells := 0, slots := 0, locals := 20 }
set_option maxRecDepth 100000 in
set_option maxHeartbeats 4000000 in
theorem ct_X3_caret {l : Launch} {G : Gr} {a : Nat → Nat} (u0 : St) (post : Int → Prop) (hw : w_X3_caret post u0) : Ct l G yX3_caret (ws_ yX3_caret cX3_caret 1 (some .int)) rm_X3_caret [.ref (a 3)] (WC G a u0) 0 0 (PoP (WC G a u0) post) := by
  refine Ct.of (by decide) (Nat.le_of_ble_eq_true rfl) ?_
  intro p e s m args below meth c ls X hr hlk K g h hl
  have hl : lv_has ls 1 [(0, .ref (a 3))] := hl
  obtain ⟨H, hH⟩ : ∃ H, H = s.heap := ⟨_, rfl⟩
  obtain ⟨locs, hL⟩ : ∃ L : List Loc, L = [] := ⟨_, rfl⟩
  replace h : HW G (va_A (WC G a u0) s.heap.size) s.heap (WC G a u0) H locs := by rw [hH, hL]; exact h
  suffices hg : W p l e rm_X3_caret s m args below meth c H locs 0 0 (EndI G (WC G a u0) (PoP (WC G a u0) post) args s 0 0 below) (F0 m 0 ls []) by rw [hH, hL] at hg; exact hg
  clear hH hL
  refine z_aload_n X hl 0 rfl rfl dX3_caret_0 ?_
  refine gC_X3_rows X K h q_207 dX3_caret_1 ?_
  refine r_callVi (rest := []) X K g h (ct_X6_caret u0 _ hw) lk_X3_73 7 rfl rfl ⟨rfl, rfl⟩ ⟨Nat.le_of_ble_eq_true rfl, Nat.le_of_ble_eq_true rfl⟩ rfl (lv_size hl) rfl (Nat.le_of_ble_eq_true rfl) dX3_caret_4 ⟨Nat.le_of_ble_eq_true rfl, Nat.le_of_ble_eq_true rfl⟩ (fun z1 w' H locs hp h => ?_)
  obtain ⟨rfl, hw⟩ := hp
  exact r_iret X hr hlk K h (Nat.le_refl _) (Nat.le_refl _) dX3_caret_7 ⟨rfl, hw⟩
def w_X3_common (post : Int → St → Prop) (u0 : St) (p1 : Int) (p2 : Int) (p3 : Int) : Prop :=
(InR p1) ∧ (InR p2) ∧ ((¬ p1 = p2 → post p3 (pI u0 8 ((sI u0 8) + 1))) ∧
 (p1 = p2 → (InR p3) ∧ ((p2 = p3 → post p3 u0) ∧
 (¬ p2 = p3 → post p3 (pI u0 8 ((sI u0 8) + 1))))))
abbrev rm_X3_common : Room := { frames := 0, cells := 0, slots := 0, locals := 0 }
set_option maxRecDepth 100000 in
set_option maxHeartbeats 4000000 in
theorem ct_X3_common {l : Launch} {G : Gr} {a : Nat → Nat} (u0 : St) (p1 : Int) (p2 : Int) (p3 : Int) (post : Int → St → Prop) (hw : w_X3_common post u0 p1 p2 p3) : Ct l G yX3_common (ws_ yX3_common cX3_common 4 (some .int)) rm_X3_common [.ref (a 3), zI p1, zI p2, zI p3] (WC G a u0) 0 0 (Po (WC G a) post) := by
  refine Ct.of (by decide) (Nat.le_of_ble_eq_true rfl) ?_
  intro p e s m args below meth c ls X hr hlk K g h hl
  have hl : lv_has ls 4 [(0, .ref (a 3)), (1, zI p1), (2, zI p2), (3, zI p3)] := hl
  obtain ⟨H, hH⟩ : ∃ H, H = s.heap := ⟨_, rfl⟩
  obtain ⟨locs, hL⟩ : ∃ L : List Loc, L = [] := ⟨_, rfl⟩
  replace h : HW G (va_A (WC G a u0) s.heap.size) s.heap (WC G a u0) H locs := by rw [hH, hL]; exact h
  suffices hg : W p l e rm_X3_common s m args below meth c H locs 0 0 (EndI G (WC G a u0) (Po (WC G a) post) args s 0 0 below) (F0 m 0 ls []) by rw [hH, hL] at hg; exact hg
  clear hH hL
  refine z_iload_n X hl 1 rfl rfl dX3_common_0 ?_
  refine z_iload_n X hl 2 rfl rfl dX3_common_1 ?_
  obtain ⟨h1, h2, hw⟩ := hw
  refine z_icmp_ne (tgt := 10) X h1 h2 dX3_common_2 (by decide) (fun c3 => ?_) (fun c3 => ?_)
  · replace hw := hw.1 c3
    refine z_aload_n X hl 0 rfl rfl dX3_common_10 ?_
    refine z_dup X rfl dX3_common_11 ?_
    refine gC_X3_unlikeAnswers (x := sI u0 8) X K h rfl q_208 dX3_common_12 ?_
    refine z_iconst X dX3_common_15 ?_
    refine z_iadd X dX3_common_16 ?_
    refine pC_X3_unlikeAnswers X K h q_208 dX3_common_17 (fun H locs h => ?_)
    refine z_iload_n X hl 3 rfl rfl dX3_common_20 ?_
    exact r_iret X hr hlk K h (Nat.le_refl _) (Nat.le_refl _) dX3_common_21 ⟨_, rfl, hw⟩
  · replace hw := hw.2 c3
    refine z_iload_n X hl 2 rfl rfl dX3_common_5 ?_
    refine z_iload_n X hl 3 rfl rfl dX3_common_6 ?_
    obtain ⟨h4, hw⟩ := hw
    refine z_icmp_eq (tgt := 20) X h2 h4 dX3_common_7 (by decide) (fun c5 => ?_) (fun c5 => ?_)
    · replace hw := hw.1 c5
      refine z_iload_n X hl 3 rfl rfl dX3_common_20 ?_
      exact r_iret X hr hlk K h (Nat.le_refl _) (Nat.le_refl _) dX3_common_21 ⟨_, rfl, hw⟩
    · replace hw := hw.2 c5
      refine z_aload_n X hl 0 rfl rfl dX3_common_10 ?_
      refine z_dup X rfl dX3_common_11 ?_
      refine gC_X3_unlikeAnswers (x := sI u0 8) X K h rfl q_208 dX3_common_12 ?_
      refine z_iconst X dX3_common_15 ?_
      refine z_iadd X dX3_common_16 ?_
      refine pC_X3_unlikeAnswers X K h q_208 dX3_common_17 (fun H locs h => ?_)
      refine z_iload_n X hl 3 rfl rfl dX3_common_20 ?_
      exact r_iret X hr hlk K h (Nat.le_refl _) (Nat.le_refl _) dX3_common_21 ⟨_, rfl, hw⟩
def w_X3_pass (post : Int → St → Prop) (G : Gr) (u0 : St) (p1 : Int) : Prop :=
(w_X4_pass (fun (z1 : Int) (u2 : St) => (w_X0_pass (fun (z3 : Int) (u4 : St) => (w_X6_pass (fun (z5 : Int) (u6 : St) => (w_X3_common (fun (z7 : Int) (u8 : St) => post z7 u8) u6 z1 z3 z5)) u4 p1)) u2 p1)) G u0 p1)
abbrev rm_X3_pass : Room := { frames := 4, cells := 0, slots := 0, locals := 86 }
set_option maxRecDepth 100000 in
set_option maxHeartbeats 4000000 in
theorem ct_X3_pass {l : Launch} {G : Gr} {a : Nat → Nat} (u0 : St) (p1 : Int) (post : Int → St → Prop) (hw : w_X3_pass post G u0 p1) : Ct l G yX3_pass (ws_ yX3_pass cX3_pass 2 (some .int)) rm_X3_pass [.ref (a 3), zI p1] (WC G a u0) 0 0 (Po (WC G a) post) := by
  refine Ct.of (by decide) (Nat.le_of_ble_eq_true rfl) ?_
  intro p e s m args below meth c ls X hr hlk K g h hl
  have hl : lv_has ls 2 [(0, .ref (a 3)), (1, zI p1)] := hl
  obtain ⟨H, hH⟩ : ∃ H, H = s.heap := ⟨_, rfl⟩
  obtain ⟨locs, hL⟩ : ∃ L : List Loc, L = [] := ⟨_, rfl⟩
  replace h : HW G (va_A (WC G a u0) s.heap.size) s.heap (WC G a u0) H locs := by rw [hH, hL]; exact h
  suffices hg : W p l e rm_X3_pass s m args below meth c H locs 0 0 (EndI G (WC G a u0) (Po (WC G a) post) args s 0 0 below) (F0 m 0 ls []) by rw [hH, hL] at hg; exact hg
  clear hH hL
  refine z_aload_n X hl 0 rfl rfl dX3_pass_0 ?_
  refine z_aload_n X hl 0 rfl rfl dX3_pass_1 ?_
  refine gC_X3_list X K h q_205 dX3_pass_2 ?_
  refine z_iload_n X hl 1 rfl rfl dX3_pass_5 ?_
  refine r_callVi (rest := [.ref (a 3)]) X K g h (ct_X4_pass u0 p1 _ hw) lk_X3_32 4 rfl rfl ⟨rfl, rfl⟩ ⟨Nat.le_of_ble_eq_true rfl, Nat.le_of_ble_eq_true rfl⟩ rfl (lv_size hl) rfl (Nat.le_of_ble_eq_true rfl) dX3_pass_6 ⟨Nat.le_of_ble_eq_true rfl, Nat.le_of_ble_eq_true rfl⟩ (fun z1 w' H locs hp h => ?_)
  obtain ⟨u2, rfl, hw⟩ := hp
  refine z_aload_n X hl 0 rfl rfl dX3_pass_9 ?_
  refine gC_X3_chain X K h q_206 dX3_pass_10 ?_
  refine z_iload_n X hl 1 rfl rfl dX3_pass_13 ?_
  refine r_callVi (rest := [zI z1, .ref (a 3)]) X K g h (ct_X0_pass u2 p1 _ hw) lk_X3_36 6 rfl rfl ⟨rfl, rfl⟩ ⟨Nat.le_of_ble_eq_true rfl, Nat.le_of_ble_eq_true rfl⟩ rfl (lv_size hl) rfl (Nat.le_of_ble_eq_true rfl) dX3_pass_14 ⟨Nat.le_of_ble_eq_true rfl, Nat.le_of_ble_eq_true rfl⟩ (fun z3 w' H locs hp h => ?_)
  obtain ⟨u4, rfl, hw⟩ := hp
  refine z_aload_n X hl 0 rfl rfl dX3_pass_17 ?_
  refine gC_X3_rows X K h q_207 dX3_pass_18 ?_
  refine z_iload_n X hl 1 rfl rfl dX3_pass_21 ?_
  refine r_callVi (rest := [zI z3, zI z1, .ref (a 3)]) X K g h (ct_X6_pass u4 p1 _ hw) lk_X3_37 7 rfl rfl ⟨rfl, rfl⟩ ⟨Nat.le_of_ble_eq_true rfl, Nat.le_of_ble_eq_true rfl⟩ rfl (lv_size hl) rfl (Nat.le_of_ble_eq_true rfl) dX3_pass_22 ⟨Nat.le_of_ble_eq_true rfl, Nat.le_of_ble_eq_true rfl⟩ (fun z5 w' H locs hp h => ?_)
  obtain ⟨u6, rfl, hw⟩ := hp
  refine r_callVi (rest := []) X K g h (ct_X3_common u6 z1 z3 z5 _ hw) lk_X3_38 3 rfl rfl ⟨rfl, rfl⟩ ⟨Nat.le_of_ble_eq_true rfl, Nat.le_of_ble_eq_true rfl⟩ rfl (lv_size hl) rfl (Nat.le_of_ble_eq_true rfl) dX3_pass_25 ⟨Nat.le_of_ble_eq_true rfl, Nat.le_of_ble_eq_true rfl⟩ (fun z7 w' H locs hp h => ?_)
  obtain ⟨u8, rfl, hw⟩ := hp
  exact r_iret X hr hlk K h (Nat.le_refl _) (Nat.le_refl _) dX3_pass_28 ⟨_, rfl, hw⟩
def w_X1_conclude (post : St → Prop) (u0 : St) (p1 : Int) (p2 : Int) (p3 : Int) : Prop :=
(w_X2_keep (fun  (u1 : St) => post (pI (pI u1 4 ((sI u1 4) + 1)) 5 p3)) u0 p1 p2)
abbrev rm_X1_conclude : Room := { frames := 2, cells := 0, slots := 0, locals := 43 }
set_option maxRecDepth 100000 in
set_option maxHeartbeats 4000000 in
theorem ct_X1_conclude {l : Launch} {G : Gr} {a : Nat → Nat} (u0 : St) (p1 : Int) (p2 : Int) (p3 : Int) (post : St → Prop) (hw : w_X1_conclude post u0 p1 p2 p3) : CtV l G yX1_conclude (ws_ yX1_conclude cX1_conclude 4 (none)) rm_X1_conclude [.ref (a 1), zI p1, zI p2, zI p3] (WC G a u0) 0 0 (PoV (WC G a) post) := by
  refine CtV.of (by decide) (Nat.le_of_ble_eq_true rfl) ?_
  intro p e s m args below meth c ls X hr hlk K g h hl
  have hl : lv_has ls 4 [(0, .ref (a 1)), (1, zI p1), (2, zI p2), (3, zI p3)] := hl
  obtain ⟨H, hH⟩ : ∃ H, H = s.heap := ⟨_, rfl⟩
  obtain ⟨locs, hL⟩ : ∃ L : List Loc, L = [] := ⟨_, rfl⟩
  replace h : HW G (va_A (WC G a u0) s.heap.size) s.heap (WC G a u0) H locs := by rw [hH, hL]; exact h
  suffices hg : W p l e rm_X1_conclude s m args below meth c H locs 0 0 (EndV G (WC G a u0) (PoV (WC G a) post) args s 0 0 below) (F0 m 0 ls []) by rw [hH, hL] at hg; exact hg
  clear hH hL
  refine z_aload_n X hl 0 rfl rfl dX1_conclude_0 ?_
  refine gC_X1_history X K h q_242 dX1_conclude_1 ?_
  refine z_iload_n X hl 1 rfl rfl dX1_conclude_4 ?_
  refine z_iload_n X hl 2 rfl rfl dX1_conclude_5 ?_
  refine r_callVv (rest := []) X K g h (ct_X2_keep u0 p1 p2 _ hw) lk_X1_91 2 rfl rfl ⟨rfl, rfl⟩ ⟨Nat.le_of_ble_eq_true rfl, Nat.le_of_ble_eq_true rfl⟩ rfl (lv_size hl) rfl (Nat.le_of_ble_eq_true rfl) dX1_conclude_6 ⟨Nat.le_of_ble_eq_true rfl, Nat.le_of_ble_eq_true rfl⟩ (fun w' H locs hp h => ?_)
  obtain ⟨u1, rfl, hw⟩ := hp
  refine z_aload_n X hl 0 rfl rfl dX1_conclude_9 ?_
  refine z_dup X rfl dX1_conclude_10 ?_
  refine gC_X1_done (x := sI u1 4) X K h rfl q_246 dX1_conclude_11 ?_
  refine z_iconst X dX1_conclude_14 ?_
  refine z_iadd X dX1_conclude_15 ?_
  refine pC_X1_done X K h q_246 dX1_conclude_16 (fun H locs h => ?_)
  refine z_aload_n X hl 0 rfl rfl dX1_conclude_19 ?_
  refine z_iload_n X hl 3 rfl rfl dX1_conclude_20 ?_
  refine pC_X1_side X K h q_248 dX1_conclude_21 (fun H locs h => ?_)
  exact r_vret X hr hlk K h (Nat.le_refl _) (Nat.le_refl _) dX1_conclude_24 ⟨_, rfl, hw⟩
def w_X1_pass (post : Int → St → Prop) (G : Gr) (u0 : St) (p1 : Int) : Prop :=
(w_X3_has (fun (z1 : Int) => (InR z1) ∧ ((¬ z1 = 0 → (w_X3_caret (fun (z4 : Int) => (w_X3_pass (fun (z5 : Int) (u6 : St) => (InR p1) ∧ ((p1 = 0 → (w_X1_conclude (fun  (u9 : St) => post z5 u9) u6 0 z4 1)) ∧
 (¬ p1 = 0 → (w_X1_conclude (fun  (u10 : St) => post z5 u10) u6 0 z4 2)))) G u0 p1)) u0)) ∧
 (z1 = 0 → (w_X1_refuse (fun (z11 : Int) (u12 : St) => post z11 u12) u0 (-2))))) u0 p1)
abbrev rm_X1_pass : Room := { frames := 5, cells := 0, slots := 0, locals := 107 }
set_option maxRecDepth 100000 in
set_option maxHeartbeats 4000000 in
theorem ct_X1_pass {l : Launch} {G : Gr} {a : Nat → Nat} (u0 : St) (p1 : Int) (post : Int → St → Prop) (hw : w_X1_pass post G u0 p1) : Ct l G yX1_pass (ws_ yX1_pass cX1_pass 4 (some .int)) rm_X1_pass [.ref (a 1), zI p1] (WC G a u0) 0 0 (Po (WC G a) post) := by
  refine Ct.of (by decide) (Nat.le_of_ble_eq_true rfl) ?_
  intro p e s m args below meth c ls X hr hlk K g h hl
  have hl : lv_has ls 4 [(0, .ref (a 1)), (1, zI p1)] := hl
  obtain ⟨H, hH⟩ : ∃ H, H = s.heap := ⟨_, rfl⟩
  obtain ⟨locs, hL⟩ : ∃ L : List Loc, L = [] := ⟨_, rfl⟩
  replace h : HW G (va_A (WC G a u0) s.heap.size) s.heap (WC G a u0) H locs := by rw [hH, hL]; exact h
  suffices hg : W p l e rm_X1_pass s m args below meth c H locs 0 0 (EndI G (WC G a u0) (Po (WC G a) post) args s 0 0 below) (F0 m 0 ls []) by rw [hH, hL] at hg; exact hg
  clear hH hL
  refine z_aload_n X hl 0 rfl rfl dX1_pass_0 ?_
  refine gC_X1_lines X K h q_240 dX1_pass_1 ?_
  refine z_iload_n X hl 1 rfl rfl dX1_pass_4 ?_
  refine r_callVi (rest := []) X K g h (ct_X3_has u0 p1 _ hw) lk_X1_33 3 rfl rfl ⟨rfl, rfl⟩ ⟨Nat.le_of_ble_eq_true rfl, Nat.le_of_ble_eq_true rfl⟩ rfl (lv_size hl) rfl (Nat.le_of_ble_eq_true rfl) dX1_pass_5 ⟨Nat.le_of_ble_eq_true rfl, Nat.le_of_ble_eq_true rfl⟩ (fun z1 w' H locs hp h => ?_)
  obtain ⟨rfl, hw⟩ := hp
  obtain ⟨h2, hw⟩ := hw
  refine z_if_ne (tgt := 18) X h2 dX1_pass_8 (by decide) (fun c3 => ?_) (fun c3 => ?_)
  · replace hw := hw.1 c3
    refine z_aload_n X hl 0 rfl rfl dX1_pass_18 ?_
    refine gC_X1_lines X K h q_240 dX1_pass_19 ?_
    refine r_callVi (rest := []) X K g h (ct_X3_caret u0 _ hw) lk_X1_41 3 rfl rfl ⟨rfl, rfl⟩ ⟨Nat.le_of_ble_eq_true rfl, Nat.le_of_ble_eq_true rfl⟩ rfl (lv_size hl) rfl (Nat.le_of_ble_eq_true rfl) dX1_pass_22 ⟨Nat.le_of_ble_eq_true rfl, Nat.le_of_ble_eq_true rfl⟩ (fun z4 w' H locs hp h => ?_)
    obtain ⟨rfl, hw⟩ := hp
    refine z_istore_n (i := 2) (lv' := [(2, zI z4), (0, .ref (a 1)), (1, zI p1)]) X hl rfl (by decide) dX1_pass_25 rfl (fun ls hl => ?_)
    refine z_aload_n X hl 1 rfl rfl dX1_pass_26 ?_
    refine gC_X1_lines X K h q_240 dX1_pass_27 ?_
    refine z_iload_n X hl 2 rfl rfl dX1_pass_30 ?_
    refine r_callVi (rest := []) X K g h (ct_X3_pass u0 p1 _ hw) lk_X1_45 3 rfl rfl ⟨rfl, rfl⟩ ⟨Nat.le_of_ble_eq_true rfl, Nat.le_of_ble_eq_true rfl⟩ rfl (lv_size hl) rfl (Nat.le_of_ble_eq_true rfl) dX1_pass_31 ⟨Nat.le_of_ble_eq_true rfl, Nat.le_of_ble_eq_true rfl⟩ (fun z5 w' H locs hp h => ?_)
    obtain ⟨u6, rfl, hw⟩ := hp
    refine z_istore_n (i := 3) (lv' := [(3, zI z5), (2, zI z4), (0, .ref (a 1)), (1, zI p1)]) X hl rfl (by decide) dX1_pass_34 rfl (fun ls hl => ?_)
    refine z_aload_n X hl 2 rfl rfl dX1_pass_35 ?_
    refine z_iconst X dX1_pass_36 ?_
    refine z_iload_n X hl 1 rfl rfl dX1_pass_37 ?_
    refine z_iload_n X hl 3 rfl rfl dX1_pass_38 ?_
    obtain ⟨h7, hw⟩ := hw
    refine z_if_eq (tgt := 46) X h7 dX1_pass_39 (by decide) (fun c8 => ?_) (fun c8 => ?_)
    · replace hw := hw.1 c8
      refine z_iconst X dX1_pass_46 ?_
      refine r_callVv (rest := []) X K g h (ct_X1_conclude u6 0 z4 1 _ hw) lk_X1_49 1 rfl rfl ⟨rfl, rfl⟩ ⟨Nat.le_of_ble_eq_true rfl, Nat.le_of_ble_eq_true rfl⟩ rfl (lv_size hl) rfl (Nat.le_of_ble_eq_true rfl) dX1_pass_47 ⟨Nat.le_of_ble_eq_true rfl, Nat.le_of_ble_eq_true rfl⟩ (fun w' H locs hp h => ?_)
      obtain ⟨u9, rfl, hw⟩ := hp
      refine z_iload_n X hl 0 rfl rfl dX1_pass_50 ?_
      exact r_iret X hr hlk K h (Nat.le_refl _) (Nat.le_refl _) dX1_pass_51 ⟨_, rfl, hw⟩
    · replace hw := hw.2 c8
      refine z_iconst X dX1_pass_42 ?_
      refine z_goto (tgt := 47) X dX1_pass_43 (by decide) ?_
      refine r_callVv (rest := []) X K g h (ct_X1_conclude u6 0 z4 2 _ hw) lk_X1_49 1 rfl rfl ⟨rfl, rfl⟩ ⟨Nat.le_of_ble_eq_true rfl, Nat.le_of_ble_eq_true rfl⟩ rfl (lv_size hl) rfl (Nat.le_of_ble_eq_true rfl) dX1_pass_47 ⟨Nat.le_of_ble_eq_true rfl, Nat.le_of_ble_eq_true rfl⟩ (fun w' H locs hp h => ?_)
      obtain ⟨u10, rfl, hw⟩ := hp
      refine z_iload_n X hl 0 rfl rfl dX1_pass_50 ?_
      exact r_iret X hr hlk K h (Nat.le_refl _) (Nat.le_refl _) dX1_pass_51 ⟨_, rfl, hw⟩
  · replace hw := hw.2 c3
    refine z_aload_n X hl 0 rfl rfl dX1_pass_11 ?_
    refine z_bipush (v := (-2)) X dX1_pass_12 (by decide) ?_
    refine r_callVi (rest := []) X K g h (ct_X1_refuse u0 (-2) _ hw) lk_X1_37 1 rfl rfl ⟨rfl, rfl⟩ ⟨Nat.le_of_ble_eq_true rfl, Nat.le_of_ble_eq_true rfl⟩ rfl (lv_size hl) rfl (Nat.le_of_ble_eq_true rfl) dX1_pass_14 ⟨Nat.le_of_ble_eq_true rfl, Nat.le_of_ble_eq_true rfl⟩ (fun z11 w' H locs hp h => ?_)
    obtain ⟨u12, rfl, hw⟩ := hp
    exact r_iret X hr hlk K h (Nat.le_refl _) (Nat.le_refl _) dX1_pass_17 ⟨_, rfl, hw⟩
def w_X3_length (post : Int → Prop) (u0 : St) : Prop :=
(w_X6_length (fun (z1 : Int) => post z1) u0)
abbrev rm_X3_length : Room := { frames := 1, cells := 0, slots := 0, locals := 20 }
set_option maxRecDepth 100000 in
set_option maxHeartbeats 4000000 in
theorem ct_X3_length {l : Launch} {G : Gr} {a : Nat → Nat} (u0 : St) (post : Int → Prop) (hw : w_X3_length post u0) : Ct l G yX3_length (ws_ yX3_length cX3_length 1 (some .int)) rm_X3_length [.ref (a 3)] (WC G a u0) 0 0 (PoP (WC G a u0) post) := by
  refine Ct.of (by decide) (Nat.le_of_ble_eq_true rfl) ?_
  intro p e s m args below meth c ls X hr hlk K g h hl
  have hl : lv_has ls 1 [(0, .ref (a 3))] := hl
  obtain ⟨H, hH⟩ : ∃ H, H = s.heap := ⟨_, rfl⟩
  obtain ⟨locs, hL⟩ : ∃ L : List Loc, L = [] := ⟨_, rfl⟩
  replace h : HW G (va_A (WC G a u0) s.heap.size) s.heap (WC G a u0) H locs := by rw [hH, hL]; exact h
  suffices hg : W p l e rm_X3_length s m args below meth c H locs 0 0 (EndI G (WC G a u0) (PoP (WC G a u0) post) args s 0 0 below) (F0 m 0 ls []) by rw [hH, hL] at hg; exact hg
  clear hH hL
  refine z_aload_n X hl 0 rfl rfl dX3_length_0 ?_
  refine gC_X3_rows X K h q_207 dX3_length_1 ?_
  refine r_callVi (rest := []) X K g h (ct_X6_length u0 _ hw) lk_X3_74 7 rfl rfl ⟨rfl, rfl⟩ ⟨Nat.le_of_ble_eq_true rfl, Nat.le_of_ble_eq_true rfl⟩ rfl (lv_size hl) rfl (Nat.le_of_ble_eq_true rfl) dX3_length_4 ⟨Nat.le_of_ble_eq_true rfl, Nat.le_of_ble_eq_true rfl⟩ (fun z1 w' H locs hp h => ?_)
  obtain ⟨rfl, hw⟩ := hp
  exact r_iret X hr hlk K h (Nat.le_refl _) (Nat.le_refl _) dX3_length_7 ⟨rfl, hw⟩
def w_X3_insert (post : Int → St → Prop) (mc ms : Nat) (G : Gr) (u0 : St) (p1 : Int) : Prop :=
(∃ a2 b3 : Nat, (0 + a2 ≤ mc) ∧ (0 + b3 ≤ ms) ∧ w_X4_insert (fun (z1 : Int) (u6 : St) => (w_X0_insert (fun (z7 : Int) (u8 : St) => (w_X6_insert (fun (z9 : Int) (u10 : St) => (w_X3_common (fun (z11 : Int) (u12 : St) => post z11 u12) u10 z1 z7 z9)) u8 p1)) u6 p1)) a2 b3 G u0 p1)
abbrev rm_X3_insert (mc ms : Nat) : Room := { frames := 12, cells := mc, slots := ms, locals := 338 }
set_option maxRecDepth 100000 in
set_option maxHeartbeats 4000000 in
theorem ct_X3_insert {l : Launch} {G : Gr} {a : Nat → Nat} (mc ms : Nat) (u0 : St) (p1 : Int) (post : Int → St → Prop) (hw : w_X3_insert post mc ms G u0 p1) : Ct l G yX3_insert (ws_ yX3_insert cX3_insert 2 (some .int)) (rm_X3_insert mc ms) [.ref (a 3), zI p1] (WC G a u0) mc ms (Po (WC G a) post) := by
  refine Ct.of (by decide) (Nat.le_of_ble_eq_true rfl) ?_
  intro p e s m args below meth c ls X hr hlk K g h hl
  have hl : lv_has ls 2 [(0, .ref (a 3)), (1, zI p1)] := hl
  obtain ⟨H, hH⟩ : ∃ H, H = s.heap := ⟨_, rfl⟩
  obtain ⟨locs, hL⟩ : ∃ L : List Loc, L = [] := ⟨_, rfl⟩
  replace h : HW G (va_A (WC G a u0) s.heap.size) s.heap (WC G a u0) H locs := by rw [hH, hL]; exact h
  suffices hg : W p l e (rm_X3_insert mc ms) s m args below meth c H locs 0 0 (EndI G (WC G a u0) (Po (WC G a) post) args s mc ms below) (F0 m 0 ls []) by rw [hH, hL] at hg; exact hg
  clear hH hL
  refine z_aload_n X hl 0 rfl rfl dX3_insert_0 ?_
  refine z_aload_n X hl 0 rfl rfl dX3_insert_1 ?_
  refine gC_X3_list X K h q_205 dX3_insert_2 ?_
  refine z_iload_n X hl 1 rfl rfl dX3_insert_5 ?_
  obtain ⟨a2, b3, hk4, hs5, hw⟩ := hw
  refine r_callVi (rest := [.ref (a 3)]) X K g h (ct_X4_insert a2 b3 u0 p1 _ hw) lk_X3_42 4 rfl rfl ⟨rfl, rfl⟩ ⟨Nat.le_of_ble_eq_true rfl, Nat.le_of_ble_eq_true rfl⟩ rfl (lv_size hl) rfl (Nat.le_of_ble_eq_true rfl) dX3_insert_6 ⟨hk4, hs5⟩ (fun z1 w' H locs hp h => ?_)
  obtain ⟨u6, rfl, hw⟩ := hp
  refine z_aload_n X hl 0 rfl rfl dX3_insert_9 ?_
  refine gC_X3_chain X K h q_206 dX3_insert_10 ?_
  refine z_iload_n X hl 1 rfl rfl dX3_insert_13 ?_
  refine r_callVi (rest := [zI z1, .ref (a 3)]) X K g h (ct_X0_insert u6 p1 _ hw) lk_X3_46 6 rfl rfl ⟨rfl, rfl⟩ ⟨Nat.le_of_ble_eq_true rfl, Nat.le_of_ble_eq_true rfl⟩ rfl (lv_size hl) rfl (Nat.le_of_ble_eq_true rfl) dX3_insert_14 ⟨hk4, hs5⟩ (fun z7 w' H locs hp h => ?_)
  obtain ⟨u8, rfl, hw⟩ := hp
  refine z_aload_n X hl 0 rfl rfl dX3_insert_17 ?_
  refine gC_X3_rows X K h q_207 dX3_insert_18 ?_
  refine z_iload_n X hl 1 rfl rfl dX3_insert_21 ?_
  refine r_callVi (rest := [zI z7, zI z1, .ref (a 3)]) X K g h (ct_X6_insert u8 p1 _ hw) lk_X3_47 7 rfl rfl ⟨rfl, rfl⟩ ⟨Nat.le_of_ble_eq_true rfl, Nat.le_of_ble_eq_true rfl⟩ rfl (lv_size hl) rfl (Nat.le_of_ble_eq_true rfl) dX3_insert_22 ⟨hk4, hs5⟩ (fun z9 w' H locs hp h => ?_)
  obtain ⟨u10, rfl, hw⟩ := hp
  refine r_callVi (rest := []) X K g h (ct_X3_common u10 z1 z7 z9 _ hw) lk_X3_38 3 rfl rfl ⟨rfl, rfl⟩ ⟨Nat.le_of_ble_eq_true rfl, Nat.le_of_ble_eq_true rfl⟩ rfl (lv_size hl) rfl (Nat.le_of_ble_eq_true rfl) dX3_insert_25 ⟨hk4, hs5⟩ (fun z11 w' H locs hp h => ?_)
  obtain ⟨u12, rfl, hw⟩ := hp
  exact r_iret X hr hlk K h hk4 hs5 dX3_insert_28 ⟨_, rfl, hw⟩
def w_X1_insert (post : Int → St → Prop) (mc ms : Nat) (G : Gr) (u0 : St) (p1 : Int) : Prop :=
(w_X3_length (fun (z1 : Int) => (InR z1) ∧ ((z1 < 100 → (∃ a5 b6 : Nat, (0 + a5 ≤ mc) ∧ (0 + b6 ≤ ms) ∧ w_X3_insert (fun (z4 : Int) (u9 : St) => (w_X1_conclude (fun  (u10 : St) => (w_X3_length (fun (z11 : Int) => post z11 u10) u10)) u9 1 0 0)) a5 b6 G u0 p1)) ∧
 (¬ z1 < 100 → (w_X1_refuse (fun (z12 : Int) (u13 : St) => post z12 u13) u0 (-5))))) u0)
abbrev rm_X1_insert (mc ms : Nat) : Room := { frames := 13, cells := mc, slots := ms, locals := 359 }
set_option maxRecDepth 100000 in
set_option maxHeartbeats 4000000 in
theorem ct_X1_insert {l : Launch} {G : Gr} {a : Nat → Nat} (mc ms : Nat) (u0 : St) (p1 : Int) (post : Int → St → Prop) (hw : w_X1_insert post mc ms G u0 p1) : Ct l G yX1_insert (ws_ yX1_insert cX1_insert 2 (some .int)) (rm_X1_insert mc ms) [.ref (a 1), zI p1] (WC G a u0) mc ms (Po (WC G a) post) := by
  refine Ct.of (by decide) (Nat.le_of_ble_eq_true rfl) ?_
  intro p e s m args below meth c ls X hr hlk K g h hl
  have hl : lv_has ls 2 [(0, .ref (a 1)), (1, zI p1)] := hl
  obtain ⟨H, hH⟩ : ∃ H, H = s.heap := ⟨_, rfl⟩
  obtain ⟨locs, hL⟩ : ∃ L : List Loc, L = [] := ⟨_, rfl⟩
  replace h : HW G (va_A (WC G a u0) s.heap.size) s.heap (WC G a u0) H locs := by rw [hH, hL]; exact h
  suffices hg : W p l e (rm_X1_insert mc ms) s m args below meth c H locs 0 0 (EndI G (WC G a u0) (Po (WC G a) post) args s mc ms below) (F0 m 0 ls []) by rw [hH, hL] at hg; exact hg
  clear hH hL
  refine z_aload_n X hl 0 rfl rfl dX1_insert_0 ?_
  refine gC_X1_lines X K h q_240 dX1_insert_1 ?_
  refine r_callVi (rest := []) X K g h (ct_X3_length u0 _ hw) lk_X1_53 3 rfl rfl ⟨rfl, rfl⟩ ⟨Nat.le_of_ble_eq_true rfl, Nat.le_of_ble_eq_true rfl⟩ rfl (lv_size hl) rfl (Nat.le_of_ble_eq_true rfl) dX1_insert_4 ⟨(Nat.zero_le _), (Nat.zero_le _)⟩ (fun z1 w' H locs hp h => ?_)
  obtain ⟨rfl, hw⟩ := hp
  refine z_bipush (v := 100) X dX1_insert_7 (by decide) ?_
  obtain ⟨h2, hw⟩ := hw
  refine z_icmp_lt (tgt := 19) X h2 (by decide) dX1_insert_9 (by decide) (fun c3 => ?_) (fun c3 => ?_)
  · replace hw := hw.1 c3
    refine z_aload_n X hl 0 rfl rfl dX1_insert_19 ?_
    refine gC_X1_lines X K h q_240 dX1_insert_20 ?_
    refine z_iload_n X hl 1 rfl rfl dX1_insert_23 ?_
    obtain ⟨a5, b6, hk7, hs8, hw⟩ := hw
    refine r_callVi (rest := []) X K g h (ct_X3_insert a5 b6 u0 p1 _ hw) lk_X1_56 3 rfl rfl ⟨rfl, rfl⟩ ⟨Nat.le_of_ble_eq_true rfl, Nat.le_of_ble_eq_true rfl⟩ rfl (lv_size hl) rfl (Nat.le_of_ble_eq_true rfl) dX1_insert_24 ⟨hk7, hs8⟩ (fun z4 w' H locs hp h => ?_)
    obtain ⟨u9, rfl, hw⟩ := hp
    refine z_pop X rfl dX1_insert_27 ?_
    refine z_aload_n X hl 0 rfl rfl dX1_insert_28 ?_
    refine z_iconst X dX1_insert_29 ?_
    refine z_iconst X dX1_insert_30 ?_
    refine z_iconst X dX1_insert_31 ?_
    refine r_callVv (rest := []) X K g h (ct_X1_conclude u9 1 0 0 _ hw) lk_X1_49 1 rfl rfl ⟨rfl, rfl⟩ ⟨Nat.le_of_ble_eq_true rfl, Nat.le_of_ble_eq_true rfl⟩ rfl (lv_size hl) rfl (Nat.le_of_ble_eq_true rfl) dX1_insert_32 ⟨hk7, hs8⟩ (fun w' H locs hp h => ?_)
    obtain ⟨u10, rfl, hw⟩ := hp
    refine z_aload_n X hl 0 rfl rfl dX1_insert_35 ?_
    refine gC_X1_lines X K h q_240 dX1_insert_36 ?_
    refine r_callVi (rest := []) X K g h (ct_X3_length u10 _ hw) lk_X1_53 3 rfl rfl ⟨rfl, rfl⟩ ⟨Nat.le_of_ble_eq_true rfl, Nat.le_of_ble_eq_true rfl⟩ rfl (lv_size hl) rfl (Nat.le_of_ble_eq_true rfl) dX1_insert_39 ⟨hk7, hs8⟩ (fun z11 w' H locs hp h => ?_)
    obtain ⟨rfl, hw⟩ := hp
    exact r_iret X hr hlk K h hk7 hs8 dX1_insert_42 ⟨_, rfl, hw⟩
  · replace hw := hw.2 c3
    refine z_aload_n X hl 0 rfl rfl dX1_insert_12 ?_
    refine z_bipush (v := (-5)) X dX1_insert_13 (by decide) ?_
    refine r_callVi (rest := []) X K g h (ct_X1_refuse u0 (-5) _ hw) lk_X1_37 1 rfl rfl ⟨rfl, rfl⟩ ⟨Nat.le_of_ble_eq_true rfl, Nat.le_of_ble_eq_true rfl⟩ rfl (lv_size hl) rfl (Nat.le_of_ble_eq_true rfl) dX1_insert_15 ⟨(Nat.zero_le _), (Nat.zero_le _)⟩ (fun z12 w' H locs hp h => ?_)
    obtain ⟨u13, rfl, hw⟩ := hp
    exact r_iret X hr hlk K h (Nat.zero_le _) (Nat.zero_le _) dX1_insert_18 ⟨_, rfl, hw⟩
def w_X3_exchange (post : Int → St → Prop) (mc ms : Nat) (G : Gr) (u0 : St) (p1 : Int) (p2 : Int) : Prop :=
(∃ a2 b3 : Nat, (0 + a2 ≤ mc) ∧ (0 + b3 ≤ ms) ∧ w_X4_exchange (fun (z1 : Int) (u6 : St) => (w_X0_exchange (fun (z7 : Int) (u8 : St) => (w_X6_exchange (fun (z9 : Int) (u10 : St) => (w_X3_common (fun (z11 : Int) (u12 : St) => post z11 u12) u10 z1 z7 z9)) u8 p1 p2)) u6 p1 p2)) a2 b3 G u0 p1 p2)
abbrev rm_X3_exchange (mc ms : Nat) : Room := { frames := 5, cells := mc, slots := ms, locals := 96 }
set_option maxRecDepth 100000 in
set_option maxHeartbeats 4000000 in
theorem ct_X3_exchange {l : Launch} {G : Gr} {a : Nat → Nat} (mc ms : Nat) (u0 : St) (p1 : Int) (p2 : Int) (post : Int → St → Prop) (hw : w_X3_exchange post mc ms G u0 p1 p2) : Ct l G yX3_exchange (ws_ yX3_exchange cX3_exchange 3 (some .int)) (rm_X3_exchange mc ms) [.ref (a 3), zI p1, zI p2] (WC G a u0) mc ms (Po (WC G a) post) := by
  refine Ct.of (by decide) (Nat.le_of_ble_eq_true rfl) ?_
  intro p e s m args below meth c ls X hr hlk K g h hl
  have hl : lv_has ls 3 [(0, .ref (a 3)), (1, zI p1), (2, zI p2)] := hl
  obtain ⟨H, hH⟩ : ∃ H, H = s.heap := ⟨_, rfl⟩
  obtain ⟨locs, hL⟩ : ∃ L : List Loc, L = [] := ⟨_, rfl⟩
  replace h : HW G (va_A (WC G a u0) s.heap.size) s.heap (WC G a u0) H locs := by rw [hH, hL]; exact h
  suffices hg : W p l e (rm_X3_exchange mc ms) s m args below meth c H locs 0 0 (EndI G (WC G a u0) (Po (WC G a) post) args s mc ms below) (F0 m 0 ls []) by rw [hH, hL] at hg; exact hg
  clear hH hL
  refine z_aload_n X hl 0 rfl rfl dX3_exchange_0 ?_
  refine z_aload_n X hl 0 rfl rfl dX3_exchange_1 ?_
  refine gC_X3_list X K h q_205 dX3_exchange_2 ?_
  refine z_iload_n X hl 1 rfl rfl dX3_exchange_5 ?_
  refine z_iload_n X hl 2 rfl rfl dX3_exchange_6 ?_
  obtain ⟨a2, b3, hk4, hs5, hw⟩ := hw
  refine r_callVi (rest := [.ref (a 3)]) X K g h (ct_X4_exchange a2 b3 u0 p1 p2 _ hw) lk_X3_48 4 rfl rfl ⟨rfl, rfl⟩ ⟨Nat.le_of_ble_eq_true rfl, Nat.le_of_ble_eq_true rfl⟩ rfl (lv_size hl) rfl (Nat.le_of_ble_eq_true rfl) dX3_exchange_7 ⟨hk4, hs5⟩ (fun z1 w' H locs hp h => ?_)
  obtain ⟨u6, rfl, hw⟩ := hp
  refine z_aload_n X hl 0 rfl rfl dX3_exchange_10 ?_
  refine gC_X3_chain X K h q_206 dX3_exchange_11 ?_
  refine z_iload_n X hl 1 rfl rfl dX3_exchange_14 ?_
  refine z_iload_n X hl 2 rfl rfl dX3_exchange_15 ?_
  refine r_callVi (rest := [zI z1, .ref (a 3)]) X K g h (ct_X0_exchange u6 p1 p2 _ hw) lk_X3_52 6 rfl rfl ⟨rfl, rfl⟩ ⟨Nat.le_of_ble_eq_true rfl, Nat.le_of_ble_eq_true rfl⟩ rfl (lv_size hl) rfl (Nat.le_of_ble_eq_true rfl) dX3_exchange_16 ⟨hk4, hs5⟩ (fun z7 w' H locs hp h => ?_)
  obtain ⟨u8, rfl, hw⟩ := hp
  refine z_aload_n X hl 0 rfl rfl dX3_exchange_19 ?_
  refine gC_X3_rows X K h q_207 dX3_exchange_20 ?_
  refine z_iload_n X hl 1 rfl rfl dX3_exchange_23 ?_
  refine z_iload_n X hl 2 rfl rfl dX3_exchange_24 ?_
  refine r_callVi (rest := [zI z7, zI z1, .ref (a 3)]) X K g h (ct_X6_exchange u8 p1 p2 _ hw) lk_X3_53 7 rfl rfl ⟨rfl, rfl⟩ ⟨Nat.le_of_ble_eq_true rfl, Nat.le_of_ble_eq_true rfl⟩ rfl (lv_size hl) rfl (Nat.le_of_ble_eq_true rfl) dX3_exchange_25 ⟨hk4, hs5⟩ (fun z9 w' H locs hp h => ?_)
  obtain ⟨u10, rfl, hw⟩ := hp
  refine r_callVi (rest := []) X K g h (ct_X3_common u10 z1 z7 z9 _ hw) lk_X3_38 3 rfl rfl ⟨rfl, rfl⟩ ⟨Nat.le_of_ble_eq_true rfl, Nat.le_of_ble_eq_true rfl⟩ rfl (lv_size hl) rfl (Nat.le_of_ble_eq_true rfl) dX3_exchange_28 ⟨hk4, hs5⟩ (fun z11 w' H locs hp h => ?_)
  obtain ⟨u12, rfl, hw⟩ := hp
  exact r_iret X hr hlk K h hk4 hs5 dX3_exchange_31 ⟨_, rfl, hw⟩
def w_X1_exchange (post : Int → St → Prop) (mc ms : Nat) (G : Gr) (u0 : St) (p1 : Int) : Prop :=
(InR (sI u0 5)) ∧ ((¬ sI u0 5 = 0 → ((¬ sI u0 5 = 1 → (∃ a5 b6 : Nat, (0 + a5 ≤ mc) ∧ (0 + b6 ≤ ms) ∧ w_X3_exchange (fun (z4 : Int) (u9 : St) => (w_X1_conclude (fun  (u11 : St) => post z4 u11) u9 3 z4 (sI u9 5))) a5 b6 G u0 p1 0)) ∧
 (sI u0 5 = 1 → (∃ a13 b14 : Nat, (0 + a13 ≤ mc) ∧ (0 + b14 ≤ ms) ∧ w_X3_exchange (fun (z12 : Int) (u17 : St) => (w_X1_conclude (fun  (u19 : St) => post z12 u19) u17 2 z12 (sI u17 5))) a13 b14 G u0 p1 1)))) ∧
 (sI u0 5 = 0 → (w_X1_refuse (fun (z20 : Int) (u21 : St) => post z20 u21) u0 (-3))))
abbrev rm_X1_exchange (mc ms : Nat) : Room := { frames := 6, cells := mc, slots := ms, locals := 118 }
set_option maxRecDepth 100000 in
set_option maxHeartbeats 4000000 in
theorem ct_X1_exchange {l : Launch} {G : Gr} {a : Nat → Nat} (mc ms : Nat) (u0 : St) (p1 : Int) (post : Int → St → Prop) (hw : w_X1_exchange post mc ms G u0 p1) : Ct l G yX1_exchange (ws_ yX1_exchange cX1_exchange 4 (some .int)) (rm_X1_exchange mc ms) [.ref (a 1), zI p1] (WC G a u0) mc ms (Po (WC G a) post) := by
  refine Ct.of (by decide) (Nat.le_of_ble_eq_true rfl) ?_
  intro p e s m args below meth c ls X hr hlk K g h hl
  have hl : lv_has ls 4 [(0, .ref (a 1)), (1, zI p1)] := hl
  obtain ⟨H, hH⟩ : ∃ H, H = s.heap := ⟨_, rfl⟩
  obtain ⟨locs, hL⟩ : ∃ L : List Loc, L = [] := ⟨_, rfl⟩
  replace h : HW G (va_A (WC G a u0) s.heap.size) s.heap (WC G a u0) H locs := by rw [hH, hL]; exact h
  suffices hg : W p l e (rm_X1_exchange mc ms) s m args below meth c H locs 0 0 (EndI G (WC G a u0) (Po (WC G a) post) args s mc ms below) (F0 m 0 ls []) by rw [hH, hL] at hg; exact hg
  clear hH hL
  refine z_aload_n X hl 0 rfl rfl dX1_exchange_0 ?_
  refine gC_X1_side (x := sI u0 5) X K h rfl q_248 dX1_exchange_1 ?_
  obtain ⟨h1, hw⟩ := hw
  refine z_if_ne (tgt := 14) X h1 dX1_exchange_4 (by decide) (fun c2 => ?_) (fun c2 => ?_)
  · replace hw := hw.1 c2
    refine z_aload_n X hl 0 rfl rfl dX1_exchange_14 ?_
    refine gC_X1_side (x := sI u0 5) X K h rfl q_248 dX1_exchange_15 ?_
    refine z_iconst X dX1_exchange_18 ?_
    refine z_icmp_ne (tgt := 26) X h1 (by decide) dX1_exchange_19 (by decide) (fun c3 => ?_) (fun c3 => ?_)
    · replace hw := hw.1 c3
      refine z_iconst X dX1_exchange_26 ?_
      refine z_istore_n (i := 2) (lv' := [(2, zI 0), (0, .ref (a 1)), (1, zI p1)]) X hl rfl (by decide) dX1_exchange_27 rfl (fun ls hl => ?_)
      refine z_aload_n X hl 1 rfl rfl dX1_exchange_28 ?_
      refine gC_X1_lines X K h q_240 dX1_exchange_29 ?_
      refine z_iload_n X hl 2 rfl rfl dX1_exchange_32 ?_
      refine z_iload_n X hl 0 rfl rfl dX1_exchange_33 ?_
      obtain ⟨a5, b6, hk7, hs8, hw⟩ := hw
      refine r_callVi (rest := []) X K g h (ct_X3_exchange a5 b6 u0 p1 0 _ hw) lk_X1_59 3 rfl rfl ⟨rfl, rfl⟩ ⟨Nat.le_of_ble_eq_true rfl, Nat.le_of_ble_eq_true rfl⟩ rfl (lv_size hl) rfl (Nat.le_of_ble_eq_true rfl) dX1_exchange_34 ⟨hk7, hs8⟩ (fun z4 w' H locs hp h => ?_)
      obtain ⟨u9, rfl, hw⟩ := hp
      refine z_istore_n (i := 3) (lv' := [(3, zI z4), (2, zI 0), (0, .ref (a 1)), (1, zI p1)]) X hl rfl (by decide) dX1_exchange_37 rfl (fun ls hl => ?_)
      refine z_aload_n X hl 2 rfl rfl dX1_exchange_38 ?_
      refine z_iload_n X hl 1 rfl rfl dX1_exchange_39 ?_
      refine z_if_eq (tgt := 47) X (by decide) dX1_exchange_40 (by decide) (fun _ => ?_) (fun c10 => absurd c10 (by decide))
      refine z_iconst X dX1_exchange_47 ?_
      refine z_iload_n X hl 0 rfl rfl dX1_exchange_48 ?_
      refine z_aload_n X hl 2 rfl rfl dX1_exchange_49 ?_
      refine gC_X1_side (x := sI u9 5) X K h rfl q_248 dX1_exchange_50 ?_
      refine r_callVv (rest := []) X K g h (ct_X1_conclude u9 3 z4 (sI u9 5) _ hw) lk_X1_49 1 rfl rfl ⟨rfl, rfl⟩ ⟨Nat.le_of_ble_eq_true rfl, Nat.le_of_ble_eq_true rfl⟩ rfl (lv_size hl) rfl (Nat.le_of_ble_eq_true rfl) dX1_exchange_53 ⟨hk7, hs8⟩ (fun w' H locs hp h => ?_)
      obtain ⟨u11, rfl, hw⟩ := hp
      refine z_iload_n X hl 0 rfl rfl dX1_exchange_56 ?_
      exact r_iret X hr hlk K h hk7 hs8 dX1_exchange_57 ⟨_, rfl, hw⟩
    · replace hw := hw.2 c3
      refine z_iconst X dX1_exchange_22 ?_
      refine z_goto (tgt := 27) X dX1_exchange_23 (by decide) ?_
      refine z_istore_n (i := 2) (lv' := [(2, zI 1), (0, .ref (a 1)), (1, zI p1)]) X hl rfl (by decide) dX1_exchange_27 rfl (fun ls hl => ?_)
      refine z_aload_n X hl 1 rfl rfl dX1_exchange_28 ?_
      refine gC_X1_lines X K h q_240 dX1_exchange_29 ?_
      refine z_iload_n X hl 2 rfl rfl dX1_exchange_32 ?_
      refine z_iload_n X hl 0 rfl rfl dX1_exchange_33 ?_
      obtain ⟨a13, b14, hk15, hs16, hw⟩ := hw
      refine r_callVi (rest := []) X K g h (ct_X3_exchange a13 b14 u0 p1 1 _ hw) lk_X1_59 3 rfl rfl ⟨rfl, rfl⟩ ⟨Nat.le_of_ble_eq_true rfl, Nat.le_of_ble_eq_true rfl⟩ rfl (lv_size hl) rfl (Nat.le_of_ble_eq_true rfl) dX1_exchange_34 ⟨hk15, hs16⟩ (fun z12 w' H locs hp h => ?_)
      obtain ⟨u17, rfl, hw⟩ := hp
      refine z_istore_n (i := 3) (lv' := [(3, zI z12), (2, zI 1), (0, .ref (a 1)), (1, zI p1)]) X hl rfl (by decide) dX1_exchange_37 rfl (fun ls hl => ?_)
      refine z_aload_n X hl 2 rfl rfl dX1_exchange_38 ?_
      refine z_iload_n X hl 1 rfl rfl dX1_exchange_39 ?_
      refine z_if_eq (tgt := 47) X (by decide) dX1_exchange_40 (by decide) (fun c18 => absurd c18 (by decide)) (fun _ => ?_)
      refine z_iconst X dX1_exchange_43 ?_
      refine z_goto (tgt := 48) X dX1_exchange_44 (by decide) ?_
      refine z_iload_n X hl 0 rfl rfl dX1_exchange_48 ?_
      refine z_aload_n X hl 2 rfl rfl dX1_exchange_49 ?_
      refine gC_X1_side (x := sI u17 5) X K h rfl q_248 dX1_exchange_50 ?_
      refine r_callVv (rest := []) X K g h (ct_X1_conclude u17 2 z12 (sI u17 5) _ hw) lk_X1_49 1 rfl rfl ⟨rfl, rfl⟩ ⟨Nat.le_of_ble_eq_true rfl, Nat.le_of_ble_eq_true rfl⟩ rfl (lv_size hl) rfl (Nat.le_of_ble_eq_true rfl) dX1_exchange_53 ⟨hk15, hs16⟩ (fun w' H locs hp h => ?_)
      obtain ⟨u19, rfl, hw⟩ := hp
      refine z_iload_n X hl 0 rfl rfl dX1_exchange_56 ?_
      exact r_iret X hr hlk K h hk15 hs16 dX1_exchange_57 ⟨_, rfl, hw⟩
  · replace hw := hw.2 c2
    refine z_aload_n X hl 0 rfl rfl dX1_exchange_7 ?_
    refine z_bipush (v := (-3)) X dX1_exchange_8 (by decide) ?_
    refine r_callVi (rest := []) X K g h (ct_X1_refuse u0 (-3) _ hw) lk_X1_37 1 rfl rfl ⟨rfl, rfl⟩ ⟨Nat.le_of_ble_eq_true rfl, Nat.le_of_ble_eq_true rfl⟩ rfl (lv_size hl) rfl (Nat.le_of_ble_eq_true rfl) dX1_exchange_10 ⟨(Nat.zero_le _), (Nat.zero_le _)⟩ (fun z20 w' H locs hp h => ?_)
    obtain ⟨u21, rfl, hw⟩ := hp
    exact r_iret X hr hlk K h (Nat.zero_le _) (Nat.zero_le _) dX1_exchange_13 ⟨_, rfl, hw⟩
def w_X3_drop (post : Int → St → Prop) (G : Gr) (u0 : St) (p1 : Int) : Prop :=
(w_X4_drop (fun (z1 : Int) (u2 : St) => (w_X0_drop (fun (z3 : Int) (u4 : St) => (w_X6_drop (fun (z5 : Int) (u6 : St) => (w_X3_common (fun (z7 : Int) (u8 : St) => post z7 u8) u6 z1 z3 z5)) u4 p1)) u2 p1)) G u0 p1)
abbrev rm_X3_drop : Room := { frames := 4, cells := 0, slots := 0, locals := 188 }
set_option maxRecDepth 100000 in
set_option maxHeartbeats 4000000 in
theorem ct_X3_drop {l : Launch} {G : Gr} {a : Nat → Nat} (u0 : St) (p1 : Int) (post : Int → St → Prop) (hw : w_X3_drop post G u0 p1) : Ct l G yX3_drop (ws_ yX3_drop cX3_drop 2 (some .int)) rm_X3_drop [.ref (a 3), zI p1] (WC G a u0) 0 0 (Po (WC G a) post) := by
  refine Ct.of (by decide) (Nat.le_of_ble_eq_true rfl) ?_
  intro p e s m args below meth c ls X hr hlk K g h hl
  have hl : lv_has ls 2 [(0, .ref (a 3)), (1, zI p1)] := hl
  obtain ⟨H, hH⟩ : ∃ H, H = s.heap := ⟨_, rfl⟩
  obtain ⟨locs, hL⟩ : ∃ L : List Loc, L = [] := ⟨_, rfl⟩
  replace h : HW G (va_A (WC G a u0) s.heap.size) s.heap (WC G a u0) H locs := by rw [hH, hL]; exact h
  suffices hg : W p l e rm_X3_drop s m args below meth c H locs 0 0 (EndI G (WC G a u0) (Po (WC G a) post) args s 0 0 below) (F0 m 0 ls []) by rw [hH, hL] at hg; exact hg
  clear hH hL
  refine z_aload_n X hl 0 rfl rfl dX3_drop_0 ?_
  refine z_aload_n X hl 0 rfl rfl dX3_drop_1 ?_
  refine gC_X3_list X K h q_205 dX3_drop_2 ?_
  refine z_iload_n X hl 1 rfl rfl dX3_drop_5 ?_
  refine r_callVi (rest := [.ref (a 3)]) X K g h (ct_X4_drop u0 p1 _ hw) lk_X3_54 4 rfl rfl ⟨rfl, rfl⟩ ⟨Nat.le_of_ble_eq_true rfl, Nat.le_of_ble_eq_true rfl⟩ rfl (lv_size hl) rfl (Nat.le_of_ble_eq_true rfl) dX3_drop_6 ⟨Nat.le_of_ble_eq_true rfl, Nat.le_of_ble_eq_true rfl⟩ (fun z1 w' H locs hp h => ?_)
  obtain ⟨u2, rfl, hw⟩ := hp
  refine z_aload_n X hl 0 rfl rfl dX3_drop_9 ?_
  refine gC_X3_chain X K h q_206 dX3_drop_10 ?_
  refine z_iload_n X hl 1 rfl rfl dX3_drop_13 ?_
  refine r_callVi (rest := [zI z1, .ref (a 3)]) X K g h (ct_X0_drop u2 p1 _ hw) lk_X3_57 6 rfl rfl ⟨rfl, rfl⟩ ⟨Nat.le_of_ble_eq_true rfl, Nat.le_of_ble_eq_true rfl⟩ rfl (lv_size hl) rfl (Nat.le_of_ble_eq_true rfl) dX3_drop_14 ⟨Nat.le_of_ble_eq_true rfl, Nat.le_of_ble_eq_true rfl⟩ (fun z3 w' H locs hp h => ?_)
  obtain ⟨u4, rfl, hw⟩ := hp
  refine z_aload_n X hl 0 rfl rfl dX3_drop_17 ?_
  refine gC_X3_rows X K h q_207 dX3_drop_18 ?_
  refine z_iload_n X hl 1 rfl rfl dX3_drop_21 ?_
  refine r_callVi (rest := [zI z3, zI z1, .ref (a 3)]) X K g h (ct_X6_drop u4 p1 _ hw) lk_X3_58 7 rfl rfl ⟨rfl, rfl⟩ ⟨Nat.le_of_ble_eq_true rfl, Nat.le_of_ble_eq_true rfl⟩ rfl (lv_size hl) rfl (Nat.le_of_ble_eq_true rfl) dX3_drop_22 ⟨Nat.le_of_ble_eq_true rfl, Nat.le_of_ble_eq_true rfl⟩ (fun z5 w' H locs hp h => ?_)
  obtain ⟨u6, rfl, hw⟩ := hp
  refine r_callVi (rest := []) X K g h (ct_X3_common u6 z1 z3 z5 _ hw) lk_X3_38 3 rfl rfl ⟨rfl, rfl⟩ ⟨Nat.le_of_ble_eq_true rfl, Nat.le_of_ble_eq_true rfl⟩ rfl (lv_size hl) rfl (Nat.le_of_ble_eq_true rfl) dX3_drop_25 ⟨Nat.le_of_ble_eq_true rfl, Nat.le_of_ble_eq_true rfl⟩ (fun z7 w' H locs hp h => ?_)
  obtain ⟨u8, rfl, hw⟩ := hp
  exact r_iret X hr hlk K h (Nat.le_refl _) (Nat.le_refl _) dX3_drop_28 ⟨_, rfl, hw⟩
def w_X1_drop (post : Int → St → Prop) (G : Gr) (u0 : St) : Prop :=
(InR (sI u0 5)) ∧ ((¬ sI u0 5 = 0 → ((¬ sI u0 5 = 1 → (w_X3_drop (fun (z4 : Int) (u5 : St) => (w_X1_conclude (fun  (u7 : St) => post z4 u7) u5 5 z4 0)) G u0 0)) ∧
 (sI u0 5 = 1 → (w_X3_drop (fun (z8 : Int) (u9 : St) => (w_X1_conclude (fun  (u11 : St) => post z8 u11) u9 4 z8 0)) G u0 1)))) ∧
 (sI u0 5 = 0 → (w_X1_refuse (fun (z12 : Int) (u13 : St) => post z12 u13) u0 (-3))))
abbrev rm_X1_drop : Room := { frames := 5, cells := 0, slots := 0, locals := 209 }
set_option maxRecDepth 100000 in
set_option maxHeartbeats 4000000 in
theorem ct_X1_drop {l : Launch} {G : Gr} {a : Nat → Nat} (u0 : St) (post : Int → St → Prop) (hw : w_X1_drop post G u0) : Ct l G yX1_drop (ws_ yX1_drop cX1_drop 3 (some .int)) rm_X1_drop [.ref (a 1)] (WC G a u0) 0 0 (Po (WC G a) post) := by
  refine Ct.of (by decide) (Nat.le_of_ble_eq_true rfl) ?_
  intro p e s m args below meth c ls X hr hlk K g h hl
  have hl : lv_has ls 3 [(0, .ref (a 1))] := hl
  obtain ⟨H, hH⟩ : ∃ H, H = s.heap := ⟨_, rfl⟩
  obtain ⟨locs, hL⟩ : ∃ L : List Loc, L = [] := ⟨_, rfl⟩
  replace h : HW G (va_A (WC G a u0) s.heap.size) s.heap (WC G a u0) H locs := by rw [hH, hL]; exact h
  suffices hg : W p l e rm_X1_drop s m args below meth c H locs 0 0 (EndI G (WC G a u0) (Po (WC G a) post) args s 0 0 below) (F0 m 0 ls []) by rw [hH, hL] at hg; exact hg
  clear hH hL
  refine z_aload_n X hl 0 rfl rfl dX1_drop_0 ?_
  refine gC_X1_side (x := sI u0 5) X K h rfl q_248 dX1_drop_1 ?_
  obtain ⟨h1, hw⟩ := hw
  refine z_if_ne (tgt := 14) X h1 dX1_drop_4 (by decide) (fun c2 => ?_) (fun c2 => ?_)
  · replace hw := hw.1 c2
    refine z_aload_n X hl 0 rfl rfl dX1_drop_14 ?_
    refine gC_X1_side (x := sI u0 5) X K h rfl q_248 dX1_drop_15 ?_
    refine z_iconst X dX1_drop_18 ?_
    refine z_icmp_ne (tgt := 26) X h1 (by decide) dX1_drop_19 (by decide) (fun c3 => ?_) (fun c3 => ?_)
    · replace hw := hw.1 c3
      refine z_iconst X dX1_drop_26 ?_
      refine z_istore_n (i := 1) (lv' := [(1, zI 0), (0, .ref (a 1))]) X hl rfl (by decide) dX1_drop_27 rfl (fun ls hl => ?_)
      refine z_aload_n X hl 1 rfl rfl dX1_drop_28 ?_
      refine gC_X1_lines X K h q_240 dX1_drop_29 ?_
      refine z_iload_n X hl 0 rfl rfl dX1_drop_32 ?_
      refine r_callVi (rest := []) X K g h (ct_X3_drop u0 0 _ hw) lk_X1_63 3 rfl rfl ⟨rfl, rfl⟩ ⟨Nat.le_of_ble_eq_true rfl, Nat.le_of_ble_eq_true rfl⟩ rfl (lv_size hl) rfl (Nat.le_of_ble_eq_true rfl) dX1_drop_33 ⟨Nat.le_of_ble_eq_true rfl, Nat.le_of_ble_eq_true rfl⟩ (fun z4 w' H locs hp h => ?_)
      obtain ⟨u5, rfl, hw⟩ := hp
      refine z_istore_n (i := 2) (lv' := [(2, zI z4), (1, zI 0), (0, .ref (a 1))]) X hl rfl (by decide) dX1_drop_36 rfl (fun ls hl => ?_)
      refine z_aload_n X hl 2 rfl rfl dX1_drop_37 ?_
      refine z_iload_n X hl 1 rfl rfl dX1_drop_38 ?_
      refine z_if_eq (tgt := 46) X (by decide) dX1_drop_39 (by decide) (fun _ => ?_) (fun c6 => absurd c6 (by decide))
      refine z_iconst X dX1_drop_46 ?_
      refine z_iload_n X hl 0 rfl rfl dX1_drop_47 ?_
      refine z_iconst X dX1_drop_48 ?_
      refine r_callVv (rest := []) X K g h (ct_X1_conclude u5 5 z4 0 _ hw) lk_X1_49 1 rfl rfl ⟨rfl, rfl⟩ ⟨Nat.le_of_ble_eq_true rfl, Nat.le_of_ble_eq_true rfl⟩ rfl (lv_size hl) rfl (Nat.le_of_ble_eq_true rfl) dX1_drop_49 ⟨Nat.le_of_ble_eq_true rfl, Nat.le_of_ble_eq_true rfl⟩ (fun w' H locs hp h => ?_)
      obtain ⟨u7, rfl, hw⟩ := hp
      refine z_iload_n X hl 0 rfl rfl dX1_drop_52 ?_
      exact r_iret X hr hlk K h (Nat.le_refl _) (Nat.le_refl _) dX1_drop_53 ⟨_, rfl, hw⟩
    · replace hw := hw.2 c3
      refine z_iconst X dX1_drop_22 ?_
      refine z_goto (tgt := 27) X dX1_drop_23 (by decide) ?_
      refine z_istore_n (i := 1) (lv' := [(1, zI 1), (0, .ref (a 1))]) X hl rfl (by decide) dX1_drop_27 rfl (fun ls hl => ?_)
      refine z_aload_n X hl 1 rfl rfl dX1_drop_28 ?_
      refine gC_X1_lines X K h q_240 dX1_drop_29 ?_
      refine z_iload_n X hl 0 rfl rfl dX1_drop_32 ?_
      refine r_callVi (rest := []) X K g h (ct_X3_drop u0 1 _ hw) lk_X1_63 3 rfl rfl ⟨rfl, rfl⟩ ⟨Nat.le_of_ble_eq_true rfl, Nat.le_of_ble_eq_true rfl⟩ rfl (lv_size hl) rfl (Nat.le_of_ble_eq_true rfl) dX1_drop_33 ⟨Nat.le_of_ble_eq_true rfl, Nat.le_of_ble_eq_true rfl⟩ (fun z8 w' H locs hp h => ?_)
      obtain ⟨u9, rfl, hw⟩ := hp
      refine z_istore_n (i := 2) (lv' := [(2, zI z8), (1, zI 1), (0, .ref (a 1))]) X hl rfl (by decide) dX1_drop_36 rfl (fun ls hl => ?_)
      refine z_aload_n X hl 2 rfl rfl dX1_drop_37 ?_
      refine z_iload_n X hl 1 rfl rfl dX1_drop_38 ?_
      refine z_if_eq (tgt := 46) X (by decide) dX1_drop_39 (by decide) (fun c10 => absurd c10 (by decide)) (fun _ => ?_)
      refine z_iconst X dX1_drop_42 ?_
      refine z_goto (tgt := 47) X dX1_drop_43 (by decide) ?_
      refine z_iload_n X hl 0 rfl rfl dX1_drop_47 ?_
      refine z_iconst X dX1_drop_48 ?_
      refine r_callVv (rest := []) X K g h (ct_X1_conclude u9 4 z8 0 _ hw) lk_X1_49 1 rfl rfl ⟨rfl, rfl⟩ ⟨Nat.le_of_ble_eq_true rfl, Nat.le_of_ble_eq_true rfl⟩ rfl (lv_size hl) rfl (Nat.le_of_ble_eq_true rfl) dX1_drop_49 ⟨Nat.le_of_ble_eq_true rfl, Nat.le_of_ble_eq_true rfl⟩ (fun w' H locs hp h => ?_)
      obtain ⟨u11, rfl, hw⟩ := hp
      refine z_iload_n X hl 0 rfl rfl dX1_drop_52 ?_
      exact r_iret X hr hlk K h (Nat.le_refl _) (Nat.le_refl _) dX1_drop_53 ⟨_, rfl, hw⟩
  · replace hw := hw.2 c2
    refine z_aload_n X hl 0 rfl rfl dX1_drop_7 ?_
    refine z_bipush (v := (-3)) X dX1_drop_8 (by decide) ?_
    refine r_callVi (rest := []) X K g h (ct_X1_refuse u0 (-3) _ hw) lk_X1_37 1 rfl rfl ⟨rfl, rfl⟩ ⟨Nat.le_of_ble_eq_true rfl, Nat.le_of_ble_eq_true rfl⟩ rfl (lv_size hl) rfl (Nat.le_of_ble_eq_true rfl) dX1_drop_10 ⟨Nat.le_of_ble_eq_true rfl, Nat.le_of_ble_eq_true rfl⟩ (fun z12 w' H locs hp h => ?_)
    obtain ⟨u13, rfl, hw⟩ := hp
    exact r_iret X hr hlk K h (Nat.le_refl _) (Nat.le_refl _) dX1_drop_13 ⟨_, rfl, hw⟩
def b_X3_go_16 (post : St → Prop) (G : Gr) (y1_16 : Int) (y2_16 : Int) (K16 : St × Int → Prop) (u8 : St) (x3_9 : Int) : Prop :=
(InR x3_9) ∧ ((100 ≤ x3_9 → post u8) ∧
 (¬ 100 ≤ x3_9 → (w_X3_caret (fun (z12 : Int) => (InR z12) ∧ (InR y1_16) ∧ ((z12 = y1_16 → post u8) ∧
 (¬ z12 = y1_16 → (w_X4_pass (fun (z16 : Int) (u17 : St) => (w_X0_pass (fun (z18 : Int) (u19 : St) => (w_X6_pass (fun (z20 : Int) (u21 : St) => (w_X3_common (fun (z22 : Int) (u23 : St) => K16 (u23, x3_9 + 1)) u21 z16 z18 z20)) u19 y2_16)) u17 y2_16)) G u8 y2_16)))) u8)))
def B_X3_go_16 (post : St → Prop) (G : Gr) (y1_16 : Int) (y2_16 : Int) : (St × Int → Prop) → St × Int → Prop := fun K t => b_X3_go_16 post G y1_16 y2_16 K t.1 t.2
def j_X3_go_13 (post : St → Prop) (G : Gr) (u7 : St) (x1_5 : Int) (t6 : Int) : Prop :=
(∃ n : Nat, Lp (B_X3_go_16 post G x1_5 t6) n (u7, 0))
def w_X3_go (post : St → Prop) (G : Gr) (u0 : St) (p1 : Int) : Prop :=
(w_X3_caret (fun (z1 : Int) => (InR p1) ∧ (InR z1) ∧ ((z1 ≤ p1 → (j_X3_go_13 post G u0 p1 0)) ∧
 (¬ z1 ≤ p1 → (j_X3_go_13 post G u0 p1 1)))) u0)
abbrev rm_X3_go : Room := { frames := 4, cells := 0, slots := 0, locals := 86 }
set_option maxRecDepth 100000 in
set_option maxHeartbeats 4000000 in
theorem ct_X3_go {l : Launch} {G : Gr} {a : Nat → Nat} (u0 : St) (p1 : Int) (post : St → Prop) (hw : w_X3_go post G u0 p1) : CtV l G yX3_go (ws_ yX3_go cX3_go 4 (none)) rm_X3_go [.ref (a 3), zI p1] (WC G a u0) 0 0 (PoV (WC G a) post) := by
  refine CtV.of (by decide) (Nat.le_of_ble_eq_true rfl) ?_
  intro p e s m args below meth c ls X hr hlk K g h hl
  have hl : lv_has ls 4 [(0, .ref (a 3)), (1, zI p1)] := hl
  obtain ⟨H, hH⟩ : ∃ H, H = s.heap := ⟨_, rfl⟩
  obtain ⟨locs, hL⟩ : ∃ L : List Loc, L = [] := ⟨_, rfl⟩
  replace h : HW G (va_A (WC G a u0) s.heap.size) s.heap (WC G a u0) H locs := by rw [hH, hL]; exact h
  suffices hg : W p l e rm_X3_go s m args below meth c H locs 0 0 (EndV G (WC G a u0) (PoV (WC G a) post) args s 0 0 below) (F0 m 0 ls []) by rw [hH, hL] at hg; exact hg
  clear hH hL
  have J13 : ∀ (u7 : St) (x1_5 : Int) (t6 : Int) (H : Heap) (locs : List Loc) (ls : Array Slot), j_X3_go_13 post G u7 x1_5 t6 → HW G (va_A (WC G a u0) s.heap.size) s.heap (WC G a u7) H locs → lv_has ls 4 [(0, .ref (a 3)), (1, zI x1_5)] → W p l e rm_X3_go s m args below meth c H locs 0 0 (EndV G (WC G a u0) (PoV (WC G a) post) args s 0 0 below) (F0 m 13 ls [zI t6]) := by
    intro u7 x1_5 t6 H locs ls hw h hl
    refine z_istore_n (i := 2) (lv' := [(2, zI t6), (0, .ref (a 3)), (1, zI x1_5)]) X hl rfl (by decide) dX3_go_13 rfl (fun ls hl => ?_)
    refine z_iconst X dX3_go_14 ?_
    refine z_istore_n (i := 3) (lv' := [(3, zI 0), (2, zI t6), (0, .ref (a 3)), (1, zI x1_5)]) X hl rfl (by decide) dX3_go_15 rfl (fun ls hl => ?_)
    obtain ⟨n16, hw⟩ := hw
    have key16 : ∀ (n : Nat) (t : St × Int) (H : Heap) (locs : List Loc) (ls : Array Slot), Lp (B_X3_go_16 post G x1_5 t6) n t → HW G (va_A (WC G a u0) s.heap.size) s.heap (WC G a t.1) H locs → lv_has ls 4 [(0, .ref (a 3)), (1, zI x1_5), (2, zI t6), (3, zI t.2)] → W p l e rm_X3_go s m args below meth c H locs 0 0 (EndV G (WC G a u0) (PoV (WC G a) post) args s 0 0 below) (F0 m 16 ls []) := by
      intro n
      induction n with
      | zero =>
        intro t H locs ls hw
        exact hw.elim
      | succ n16 ih16 =>
        rintro ⟨u8, x3_9⟩ H locs ls hw h hl
        replace hw : b_X3_go_16 post G x1_5 t6 (Lp (B_X3_go_16 post G x1_5 t6) n16) u8 x3_9 := hw
        refine z_iload_n X hl 3 rfl rfl dX3_go_16 ?_
        refine z_bipush (v := 100) X dX3_go_17 (by decide) ?_
        obtain ⟨h10, hw⟩ := hw
        refine z_icmp_ge (tgt := 65) X h10 (by decide) dX3_go_19 (by decide) (fun c11 => ?_) (fun c11 => ?_)
        · replace hw := hw.1 c11
          exact r_vret X hr hlk K h (Nat.le_refl _) (Nat.le_refl _) dX3_go_65 ⟨_, rfl, hw⟩
        · replace hw := hw.2 c11
          refine z_aload_n X hl 0 rfl rfl dX3_go_22 ?_
          refine r_callVi (rest := []) X K g h (ct_X3_caret u8 _ hw) lk_X3_64 3 rfl rfl ⟨rfl, rfl⟩ ⟨Nat.le_of_ble_eq_true rfl, Nat.le_of_ble_eq_true rfl⟩ rfl (lv_size hl) rfl (Nat.le_of_ble_eq_true rfl) dX3_go_23 ⟨Nat.le_of_ble_eq_true rfl, Nat.le_of_ble_eq_true rfl⟩ (fun z12 w' H locs hp h => ?_)
          obtain ⟨rfl, hw⟩ := hp
          refine z_iload_n X hl 1 rfl rfl dX3_go_26 ?_
          obtain ⟨h13, h14, hw⟩ := hw
          refine z_icmp_eq (tgt := 65) X h13 h14 dX3_go_27 (by decide) (fun c15 => ?_) (fun c15 => ?_)
          · replace hw := hw.1 c15
            exact r_vret X hr hlk K h (Nat.le_refl _) (Nat.le_refl _) dX3_go_65 ⟨_, rfl, hw⟩
          · replace hw := hw.2 c15
            refine z_aload_n X hl 0 rfl rfl dX3_go_30 ?_
            refine z_aload_n X hl 0 rfl rfl dX3_go_31 ?_
            refine gC_X3_list X K h q_205 dX3_go_32 ?_
            refine z_iload_n X hl 2 rfl rfl dX3_go_35 ?_
            refine r_callVi (rest := [.ref (a 3)]) X K g h (ct_X4_pass u8 t6 _ hw) lk_X3_32 4 rfl rfl ⟨rfl, rfl⟩ ⟨Nat.le_of_ble_eq_true rfl, Nat.le_of_ble_eq_true rfl⟩ rfl (lv_size hl) rfl (Nat.le_of_ble_eq_true rfl) dX3_go_36 ⟨Nat.le_of_ble_eq_true rfl, Nat.le_of_ble_eq_true rfl⟩ (fun z16 w' H locs hp h => ?_)
            obtain ⟨u17, rfl, hw⟩ := hp
            refine z_aload_n X hl 0 rfl rfl dX3_go_39 ?_
            refine gC_X3_chain X K h q_206 dX3_go_40 ?_
            refine z_iload_n X hl 2 rfl rfl dX3_go_43 ?_
            refine r_callVi (rest := [zI z16, .ref (a 3)]) X K g h (ct_X0_pass u17 t6 _ hw) lk_X3_36 6 rfl rfl ⟨rfl, rfl⟩ ⟨Nat.le_of_ble_eq_true rfl, Nat.le_of_ble_eq_true rfl⟩ rfl (lv_size hl) rfl (Nat.le_of_ble_eq_true rfl) dX3_go_44 ⟨Nat.le_of_ble_eq_true rfl, Nat.le_of_ble_eq_true rfl⟩ (fun z18 w' H locs hp h => ?_)
            obtain ⟨u19, rfl, hw⟩ := hp
            refine z_aload_n X hl 0 rfl rfl dX3_go_47 ?_
            refine gC_X3_rows X K h q_207 dX3_go_48 ?_
            refine z_iload_n X hl 2 rfl rfl dX3_go_51 ?_
            refine r_callVi (rest := [zI z18, zI z16, .ref (a 3)]) X K g h (ct_X6_pass u19 t6 _ hw) lk_X3_37 7 rfl rfl ⟨rfl, rfl⟩ ⟨Nat.le_of_ble_eq_true rfl, Nat.le_of_ble_eq_true rfl⟩ rfl (lv_size hl) rfl (Nat.le_of_ble_eq_true rfl) dX3_go_52 ⟨Nat.le_of_ble_eq_true rfl, Nat.le_of_ble_eq_true rfl⟩ (fun z20 w' H locs hp h => ?_)
            obtain ⟨u21, rfl, hw⟩ := hp
            refine r_callVi (rest := []) X K g h (ct_X3_common u21 z16 z18 z20 _ hw) lk_X3_38 3 rfl rfl ⟨rfl, rfl⟩ ⟨Nat.le_of_ble_eq_true rfl, Nat.le_of_ble_eq_true rfl⟩ rfl (lv_size hl) rfl (Nat.le_of_ble_eq_true rfl) dX3_go_55 ⟨Nat.le_of_ble_eq_true rfl, Nat.le_of_ble_eq_true rfl⟩ (fun z22 w' H locs hp h => ?_)
            obtain ⟨u23, rfl, hw⟩ := hp
            refine z_pop X rfl dX3_go_58 ?_
            refine z_iinc (lv' := [(3, zI (x3_9 + 1)), (0, .ref (a 3)), (1, zI x1_5), (2, zI t6)]) X hl 3 rfl (by decide) dX3_go_59 rfl (fun ls hl => ?_)
            refine z_goto (tgt := 16) X dX3_go_62 (by decide) ?_
            exact ih16 (u23, x3_9 + 1) H locs ls hw h (lv_sub hl [1, 2, 3, 0] rfl)
    exact key16 n16 (u7, 0) H locs ls hw h (lv_sub hl [2, 3, 1, 0] rfl)
  refine z_iload_n X hl 1 rfl rfl dX3_go_0 ?_
  refine z_aload_n X hl 0 rfl rfl dX3_go_1 ?_
  refine r_callVi (rest := [zI p1]) X K g h (ct_X3_caret u0 _ hw) lk_X3_64 3 rfl rfl ⟨rfl, rfl⟩ ⟨Nat.le_of_ble_eq_true rfl, Nat.le_of_ble_eq_true rfl⟩ rfl (lv_size hl) rfl (Nat.le_of_ble_eq_true rfl) dX3_go_2 ⟨Nat.le_of_ble_eq_true rfl, Nat.le_of_ble_eq_true rfl⟩ (fun z1 w' H locs hp h => ?_)
  obtain ⟨rfl, hw⟩ := hp
  obtain ⟨h2, h3, hw⟩ := hw
  refine z_icmp_ge (tgt := 12) X h2 h3 dX3_go_5 (by decide) (fun c4 => ?_) (fun c4 => ?_)
  · replace hw := hw.1 c4
    refine z_iconst X dX3_go_12 ?_
    exact J13 u0 p1 0 H locs ls hw h (lv_sub hl [0, 1] rfl)
  · replace hw := hw.2 c4
    refine z_iconst X dX3_go_8 ?_
    refine z_goto (tgt := 13) X dX3_go_9 (by decide) ?_
    exact J13 u0 p1 1 H locs ls hw h (lv_sub hl [0, 1] rfl)
def w_X1_go (post : Int → St → Prop) (G : Gr) (u0 : St) (p1 : Int) : Prop :=
(InR p1) ∧ ((p1 < 0 → (w_X1_refuse (fun (z3 : Int) (u4 : St) => post z3 u4) u0 (-4))) ∧
 (¬ p1 < 0 → (w_X3_length (fun (z5 : Int) => (InR z5) ∧ ((p1 ≤ z5 → (w_X3_caret (fun (z8 : Int) => (w_X3_go (fun  (u9 : St) => (w_X1_conclude (fun  (u10 : St) => post p1 u10) u9 0 z8 0)) G u0 p1)) u0)) ∧
 (¬ p1 ≤ z5 → (w_X1_refuse (fun (z11 : Int) (u12 : St) => post z11 u12) u0 (-4))))) u0)))
abbrev rm_X1_go : Room := { frames := 5, cells := 0, slots := 0, locals := 109 }
set_option maxRecDepth 100000 in
set_option maxHeartbeats 4000000 in
theorem ct_X1_go {l : Launch} {G : Gr} {a : Nat → Nat} (u0 : St) (p1 : Int) (post : Int → St → Prop) (hw : w_X1_go post G u0 p1) : Ct l G yX1_go (ws_ yX1_go cX1_go 3 (some .int)) rm_X1_go [.ref (a 1), zI p1] (WC G a u0) 0 0 (Po (WC G a) post) := by
  refine Ct.of (by decide) (Nat.le_of_ble_eq_true rfl) ?_
  intro p e s m args below meth c ls X hr hlk K g h hl
  have hl : lv_has ls 3 [(0, .ref (a 1)), (1, zI p1)] := hl
  obtain ⟨H, hH⟩ : ∃ H, H = s.heap := ⟨_, rfl⟩
  obtain ⟨locs, hL⟩ : ∃ L : List Loc, L = [] := ⟨_, rfl⟩
  replace h : HW G (va_A (WC G a u0) s.heap.size) s.heap (WC G a u0) H locs := by rw [hH, hL]; exact h
  suffices hg : W p l e rm_X1_go s m args below meth c H locs 0 0 (EndI G (WC G a u0) (Po (WC G a) post) args s 0 0 below) (F0 m 0 ls []) by rw [hH, hL] at hg; exact hg
  clear hH hL
  refine z_iload_n X hl 1 rfl rfl dX1_go_0 ?_
  obtain ⟨h1, hw⟩ := hw
  refine z_if_lt (tgt := 15) X h1 dX1_go_1 (by decide) (fun c2 => ?_) (fun c2 => ?_)
  · replace hw := hw.1 c2
    refine z_aload_n X hl 0 rfl rfl dX1_go_15 ?_
    refine z_bipush (v := (-4)) X dX1_go_16 (by decide) ?_
    refine r_callVi (rest := []) X K g h (ct_X1_refuse u0 (-4) _ hw) lk_X1_37 1 rfl rfl ⟨rfl, rfl⟩ ⟨Nat.le_of_ble_eq_true rfl, Nat.le_of_ble_eq_true rfl⟩ rfl (lv_size hl) rfl (Nat.le_of_ble_eq_true rfl) dX1_go_18 ⟨Nat.le_of_ble_eq_true rfl, Nat.le_of_ble_eq_true rfl⟩ (fun z3 w' H locs hp h => ?_)
    obtain ⟨u4, rfl, hw⟩ := hp
    exact r_iret X hr hlk K h (Nat.le_refl _) (Nat.le_refl _) dX1_go_21 ⟨_, rfl, hw⟩
  · replace hw := hw.2 c2
    refine z_iload_n X hl 1 rfl rfl dX1_go_4 ?_
    refine z_aload_n X hl 0 rfl rfl dX1_go_5 ?_
    refine gC_X1_lines X K h q_240 dX1_go_6 ?_
    refine r_callVi (rest := [zI p1]) X K g h (ct_X3_length u0 _ hw) lk_X1_53 3 rfl rfl ⟨rfl, rfl⟩ ⟨Nat.le_of_ble_eq_true rfl, Nat.le_of_ble_eq_true rfl⟩ rfl (lv_size hl) rfl (Nat.le_of_ble_eq_true rfl) dX1_go_9 ⟨Nat.le_of_ble_eq_true rfl, Nat.le_of_ble_eq_true rfl⟩ (fun z5 w' H locs hp h => ?_)
    obtain ⟨rfl, hw⟩ := hp
    obtain ⟨h6, hw⟩ := hw
    refine z_icmp_le (tgt := 22) X h1 h6 dX1_go_12 (by decide) (fun c7 => ?_) (fun c7 => ?_)
    · replace hw := hw.1 c7
      refine z_aload_n X hl 0 rfl rfl dX1_go_22 ?_
      refine gC_X1_lines X K h q_240 dX1_go_23 ?_
      refine r_callVi (rest := []) X K g h (ct_X3_caret u0 _ hw) lk_X1_41 3 rfl rfl ⟨rfl, rfl⟩ ⟨Nat.le_of_ble_eq_true rfl, Nat.le_of_ble_eq_true rfl⟩ rfl (lv_size hl) rfl (Nat.le_of_ble_eq_true rfl) dX1_go_26 ⟨Nat.le_of_ble_eq_true rfl, Nat.le_of_ble_eq_true rfl⟩ (fun z8 w' H locs hp h => ?_)
      obtain ⟨rfl, hw⟩ := hp
      refine z_istore_n (i := 2) (lv' := [(2, zI z8), (0, .ref (a 1)), (1, zI p1)]) X hl rfl (by decide) dX1_go_29 rfl (fun ls hl => ?_)
      refine z_aload_n X hl 1 rfl rfl dX1_go_30 ?_
      refine gC_X1_lines X K h q_240 dX1_go_31 ?_
      refine z_iload_n X hl 2 rfl rfl dX1_go_34 ?_
      refine r_callVv (rest := []) X K g h (ct_X3_go u0 p1 _ hw) lk_X1_66 3 rfl rfl ⟨rfl, rfl⟩ ⟨Nat.le_of_ble_eq_true rfl, Nat.le_of_ble_eq_true rfl⟩ rfl (lv_size hl) rfl (Nat.le_of_ble_eq_true rfl) dX1_go_35 ⟨Nat.le_of_ble_eq_true rfl, Nat.le_of_ble_eq_true rfl⟩ (fun w' H locs hp h => ?_)
      obtain ⟨u9, rfl, hw⟩ := hp
      refine z_aload_n X hl 1 rfl rfl dX1_go_38 ?_
      refine z_iconst X dX1_go_39 ?_
      refine z_iload_n X hl 0 rfl rfl dX1_go_40 ?_
      refine z_iconst X dX1_go_41 ?_
      refine r_callVv (rest := []) X K g h (ct_X1_conclude u9 0 z8 0 _ hw) lk_X1_49 1 rfl rfl ⟨rfl, rfl⟩ ⟨Nat.le_of_ble_eq_true rfl, Nat.le_of_ble_eq_true rfl⟩ rfl (lv_size hl) rfl (Nat.le_of_ble_eq_true rfl) dX1_go_42 ⟨Nat.le_of_ble_eq_true rfl, Nat.le_of_ble_eq_true rfl⟩ (fun w' H locs hp h => ?_)
      obtain ⟨u10, rfl, hw⟩ := hp
      refine z_iload_n X hl 2 rfl rfl dX1_go_45 ?_
      exact r_iret X hr hlk K h (Nat.le_refl _) (Nat.le_refl _) dX1_go_46 ⟨_, rfl, hw⟩
    · replace hw := hw.2 c7
      refine z_aload_n X hl 0 rfl rfl dX1_go_15 ?_
      refine z_bipush (v := (-4)) X dX1_go_16 (by decide) ?_
      refine r_callVi (rest := []) X K g h (ct_X1_refuse u0 (-4) _ hw) lk_X1_37 1 rfl rfl ⟨rfl, rfl⟩ ⟨Nat.le_of_ble_eq_true rfl, Nat.le_of_ble_eq_true rfl⟩ rfl (lv_size hl) rfl (Nat.le_of_ble_eq_true rfl) dX1_go_18 ⟨Nat.le_of_ble_eq_true rfl, Nat.le_of_ble_eq_true rfl⟩ (fun z11 w' H locs hp h => ?_)
      obtain ⟨u12, rfl, hw⟩ := hp
      exact r_iret X hr hlk K h (Nat.le_refl _) (Nat.le_refl _) dX1_go_21 ⟨_, rfl, hw⟩
def w_X3_wordOf (post : Int → Prop) (u0 : St) (p1 : Int) : Prop :=
(w_X6_wordOf (fun (z1 : Int) => post z1) u0 p1)
abbrev rm_X3_wordOf : Room := { frames := 1, cells := 0, slots := 0, locals := 22 }
set_option maxRecDepth 100000 in
set_option maxHeartbeats 4000000 in
theorem ct_X3_wordOf {l : Launch} {G : Gr} {a : Nat → Nat} (u0 : St) (p1 : Int) (post : Int → Prop) (hw : w_X3_wordOf post u0 p1) : Ct l G yX3_wordOf (ws_ yX3_wordOf cX3_wordOf 2 (some .int)) rm_X3_wordOf [.ref (a 3), zI p1] (WC G a u0) 0 0 (PoP (WC G a u0) post) := by
  refine Ct.of (by decide) (Nat.le_of_ble_eq_true rfl) ?_
  intro p e s m args below meth c ls X hr hlk K g h hl
  have hl : lv_has ls 2 [(0, .ref (a 3)), (1, zI p1)] := hl
  obtain ⟨H, hH⟩ : ∃ H, H = s.heap := ⟨_, rfl⟩
  obtain ⟨locs, hL⟩ : ∃ L : List Loc, L = [] := ⟨_, rfl⟩
  replace h : HW G (va_A (WC G a u0) s.heap.size) s.heap (WC G a u0) H locs := by rw [hH, hL]; exact h
  suffices hg : W p l e rm_X3_wordOf s m args below meth c H locs 0 0 (EndI G (WC G a u0) (PoP (WC G a u0) post) args s 0 0 below) (F0 m 0 ls []) by rw [hH, hL] at hg; exact hg
  clear hH hL
  refine z_aload_n X hl 0 rfl rfl dX3_wordOf_0 ?_
  refine gC_X3_rows X K h q_207 dX3_wordOf_1 ?_
  refine z_iload_n X hl 1 rfl rfl dX3_wordOf_4 ?_
  refine r_callVi (rest := []) X K g h (ct_X6_wordOf u0 p1 _ hw) lk_X3_77 7 rfl rfl ⟨rfl, rfl⟩ ⟨Nat.le_of_ble_eq_true rfl, Nat.le_of_ble_eq_true rfl⟩ rfl (lv_size hl) rfl (Nat.le_of_ble_eq_true rfl) dX3_wordOf_5 ⟨Nat.le_of_ble_eq_true rfl, Nat.le_of_ble_eq_true rfl⟩ (fun z1 w' H locs hp h => ?_)
  obtain ⟨rfl, hw⟩ := hp
  exact r_iret X hr hlk K h (Nat.le_refl _) (Nat.le_refl _) dX3_wordOf_8 ⟨rfl, hw⟩
def b_X3_stepsTo_43 (post : Int → Prop) (u18 : St) (y1_43 : Int) (y2_43 : Int) (y3_43 : Int) (y4_43 : Int) (K43 : Int → Prop) (x5_17 : Int) : Prop :=
(InR x5_17) ∧ (InR y3_43) ∧ ((y3_43 ≤ x5_17 → post 0) ∧
 (¬ y3_43 ≤ x5_17 → (InR y2_43) ∧ ((y2_43 = 0 → (w_X3_wordOf (fun (z24 : Int) => (InR z24) ∧ (InR y1_43) ∧ ((¬ z24 = y1_43 → K43 (x5_17 + 1)) ∧
 (z24 = y1_43 → post (x5_17 + 1)))) u18 (y4_43 + x5_17))) ∧
 (¬ y2_43 = 0 → (w_X3_wordOf (fun (z28 : Int) => (InR z28) ∧ (InR y1_43) ∧ ((¬ z28 = y1_43 → K43 (x5_17 + 1)) ∧
 (z28 = y1_43 → post (x5_17 + 1)))) u18 (y4_43 - x5_17))))))
def B_X3_stepsTo_43 (post : Int → Prop) (u18 : St) (y1_43 : Int) (y2_43 : Int) (y3_43 : Int) (y4_43 : Int) : (Int → Prop) → Int → Prop := fun K t => b_X3_stepsTo_43 post u18 y1_43 y2_43 y3_43 y4_43 K t
def j_X3_stepsTo_38 (post : Int → Prop) (u16 : St) (x1_12 : Int) (x2_13 : Int) (x3_14 : Int) (t15 : Int) : Prop :=
(∃ n : Nat, Lp (B_X3_stepsTo_43 post u16 x1_12 x2_13 x3_14 t15) n 0)
def j_X3_stepsTo_20 (post : Int → Prop) (u8 : St) (x1_5 : Int) (x2_6 : Int) (t7 : Int) : Prop :=
(InR x2_6) ∧ ((x2_6 = 0 → (w_X3_caret (fun (z11 : Int) => (j_X3_stepsTo_38 post u8 x1_5 x2_6 t7 z11)) u8)) ∧
 (¬ x2_6 = 0 → (w_X3_caret (fun (z32 : Int) => (j_X3_stepsTo_38 post u8 x1_5 x2_6 t7 (z32 - 1))) u8)))
def w_X3_stepsTo (post : Int → Prop) (u0 : St) (p1 : Int) (p2 : Int) : Prop :=
(InR p2) ∧ ((p2 = 0 → (w_X3_length (fun (z3 : Int) => (w_X3_caret (fun (z4 : Int) => (j_X3_stepsTo_20 post u0 p1 p2 (z3 - z4))) u0)) u0)) ∧
 (¬ p2 = 0 → (w_X3_caret (fun (z33 : Int) => (j_X3_stepsTo_20 post u0 p1 p2 z33)) u0)))
abbrev rm_X3_stepsTo : Room := { frames := 2, cells := 0, slots := 0, locals := 43 }
set_option maxRecDepth 100000 in
set_option maxHeartbeats 4000000 in
theorem ct_X3_stepsTo {l : Launch} {G : Gr} {a : Nat → Nat} (u0 : St) (p1 : Int) (p2 : Int) (post : Int → Prop) (hw : w_X3_stepsTo post u0 p1 p2) : Ct l G yX3_stepsTo (ws_ yX3_stepsTo cX3_stepsTo 6 (some .int)) rm_X3_stepsTo [.ref (a 3), zI p1, zI p2] (WC G a u0) 0 0 (PoP (WC G a u0) post) := by
  refine Ct.of (by decide) (Nat.le_of_ble_eq_true rfl) ?_
  intro p e s m args below meth c ls X hr hlk K g h hl
  have hl : lv_has ls 6 [(0, .ref (a 3)), (1, zI p1), (2, zI p2)] := hl
  obtain ⟨H, hH⟩ : ∃ H, H = s.heap := ⟨_, rfl⟩
  obtain ⟨locs, hL⟩ : ∃ L : List Loc, L = [] := ⟨_, rfl⟩
  replace h : HW G (va_A (WC G a u0) s.heap.size) s.heap (WC G a u0) H locs := by rw [hH, hL]; exact h
  suffices hg : W p l e rm_X3_stepsTo s m args below meth c H locs 0 0 (EndI G (WC G a u0) (PoP (WC G a u0) post) args s 0 0 below) (F0 m 0 ls []) by rw [hH, hL] at hg; exact hg
  clear hH hL
  have J38 : ∀ (x1_12 : Int) (x2_13 : Int) (x3_14 : Int) (t15 : Int) (H : Heap) (locs : List Loc) (ls : Array Slot), j_X3_stepsTo_38 post u0 x1_12 x2_13 x3_14 t15 → HW G (va_A (WC G a u0) s.heap.size) s.heap (WC G a u0) H locs → lv_has ls 6 [(0, .ref (a 3)), (1, zI x1_12), (2, zI x2_13), (3, zI x3_14)] → W p l e rm_X3_stepsTo s m args below meth c H locs 0 0 (EndI G (WC G a u0) (PoP (WC G a u0) post) args s 0 0 below) (F0 m 38 ls [zI t15]) := by
    intro x1_12 x2_13 x3_14 t15 H locs ls hw h hl
    refine z_istore (i := 4) (lv' := [(4, zI t15), (0, .ref (a 3)), (1, zI x1_12), (2, zI x2_13), (3, zI x3_14)]) X hl (by decide) dX3_stepsTo_38 rfl (fun ls hl => ?_)
    refine z_iconst X dX3_stepsTo_40 ?_
    refine z_istore (i := 5) (lv' := [(5, zI 0), (4, zI t15), (0, .ref (a 3)), (1, zI x1_12), (2, zI x2_13), (3, zI x3_14)]) X hl (by decide) dX3_stepsTo_41 rfl (fun ls hl => ?_)
    obtain ⟨n43, hw⟩ := hw
    have key43 : ∀ (n : Nat) (t : Int) (H : Heap) (locs : List Loc) (ls : Array Slot), Lp (B_X3_stepsTo_43 post u0 x1_12 x2_13 x3_14 t15) n t → HW G (va_A (WC G a u0) s.heap.size) s.heap (WC G a u0) H locs → lv_has ls 6 [(0, .ref (a 3)), (1, zI x1_12), (2, zI x2_13), (3, zI x3_14), (4, zI t15), (5, zI t)] → W p l e rm_X3_stepsTo s m args below meth c H locs 0 0 (EndI G (WC G a u0) (PoP (WC G a u0) post) args s 0 0 below) (F0 m 43 ls []) := by
      intro n
      induction n with
      | zero =>
        intro t H locs ls hw
        exact hw.elim
      | succ n43 ih43 =>
        intro x5_17 H locs ls hw h hl
        replace hw : b_X3_stepsTo_43 post u0 x1_12 x2_13 x3_14 t15 (Lp (B_X3_stepsTo_43 post u0 x1_12 x2_13 x3_14 t15) n43) x5_17 := hw
        refine z_iload X hl 5 rfl dX3_stepsTo_43 ?_
        refine z_iload_n X hl 3 rfl rfl dX3_stepsTo_45 ?_
        obtain ⟨h19, h20, hw⟩ := hw
        refine z_icmp_ge (tgt := 85) X h19 h20 dX3_stepsTo_46 (by decide) (fun c21 => ?_) (fun c21 => ?_)
        · replace hw := hw.1 c21
          refine z_iconst X dX3_stepsTo_85 ?_
          exact r_iret X hr hlk K h (Nat.le_refl _) (Nat.le_refl _) dX3_stepsTo_86 ⟨rfl, hw⟩
        · replace hw := hw.2 c21
          refine z_aload_n X hl 0 rfl rfl dX3_stepsTo_49 ?_
          refine z_iload_n X hl 2 rfl rfl dX3_stepsTo_50 ?_
          obtain ⟨h22, hw⟩ := hw
          refine z_if_eq (tgt := 62) X h22 dX3_stepsTo_51 (by decide) (fun c23 => ?_) (fun c23 => ?_)
          · replace hw := hw.1 c23
            refine z_iload X hl 4 rfl dX3_stepsTo_62 ?_
            refine z_iload X hl 5 rfl dX3_stepsTo_64 ?_
            refine z_iadd X dX3_stepsTo_66 ?_
            refine r_callVi (rest := []) X K g h (ct_X3_wordOf u0 (t15 + x5_17) _ hw) lk_X3_81 3 rfl rfl ⟨rfl, rfl⟩ ⟨Nat.le_of_ble_eq_true rfl, Nat.le_of_ble_eq_true rfl⟩ rfl (lv_size hl) rfl (Nat.le_of_ble_eq_true rfl) dX3_stepsTo_67 ⟨Nat.le_of_ble_eq_true rfl, Nat.le_of_ble_eq_true rfl⟩ (fun z24 w' H locs hp h => ?_)
            obtain ⟨rfl, hw⟩ := hp
            refine z_iload_n X hl 1 rfl rfl dX3_stepsTo_70 ?_
            obtain ⟨h25, h26, hw⟩ := hw
            refine z_icmp_ne (tgt := 79) X h25 h26 dX3_stepsTo_71 (by decide) (fun c27 => ?_) (fun c27 => ?_)
            · replace hw := hw.1 c27
              refine z_iinc (lv' := [(5, zI (x5_17 + 1)), (0, .ref (a 3)), (1, zI x1_12), (2, zI x2_13), (3, zI x3_14), (4, zI t15)]) X hl 5 rfl (by decide) dX3_stepsTo_79 rfl (fun ls hl => ?_)
              refine z_goto (tgt := 43) X dX3_stepsTo_82 (by decide) ?_
              exact ih43 (x5_17 + 1) H locs ls hw h (lv_sub hl [1, 2, 3, 4, 5, 0] rfl)
            · replace hw := hw.2 c27
              refine z_iload X hl 5 rfl dX3_stepsTo_74 ?_
              refine z_iconst X dX3_stepsTo_76 ?_
              refine z_iadd X dX3_stepsTo_77 ?_
              exact r_iret X hr hlk K h (Nat.le_refl _) (Nat.le_refl _) dX3_stepsTo_78 ⟨rfl, hw⟩
          · replace hw := hw.2 c23
            refine z_iload X hl 4 rfl dX3_stepsTo_54 ?_
            refine z_iload X hl 5 rfl dX3_stepsTo_56 ?_
            refine z_isub X dX3_stepsTo_58 ?_
            refine z_goto (tgt := 67) X dX3_stepsTo_59 (by decide) ?_
            refine r_callVi (rest := []) X K g h (ct_X3_wordOf u0 (t15 - x5_17) _ hw) lk_X3_81 3 rfl rfl ⟨rfl, rfl⟩ ⟨Nat.le_of_ble_eq_true rfl, Nat.le_of_ble_eq_true rfl⟩ rfl (lv_size hl) rfl (Nat.le_of_ble_eq_true rfl) dX3_stepsTo_67 ⟨Nat.le_of_ble_eq_true rfl, Nat.le_of_ble_eq_true rfl⟩ (fun z28 w' H locs hp h => ?_)
            obtain ⟨rfl, hw⟩ := hp
            refine z_iload_n X hl 1 rfl rfl dX3_stepsTo_70 ?_
            obtain ⟨h29, h30, hw⟩ := hw
            refine z_icmp_ne (tgt := 79) X h29 h30 dX3_stepsTo_71 (by decide) (fun c31 => ?_) (fun c31 => ?_)
            · replace hw := hw.1 c31
              refine z_iinc (lv' := [(5, zI (x5_17 + 1)), (0, .ref (a 3)), (1, zI x1_12), (2, zI x2_13), (3, zI x3_14), (4, zI t15)]) X hl 5 rfl (by decide) dX3_stepsTo_79 rfl (fun ls hl => ?_)
              refine z_goto (tgt := 43) X dX3_stepsTo_82 (by decide) ?_
              exact ih43 (x5_17 + 1) H locs ls hw h (lv_sub hl [1, 2, 3, 4, 5, 0] rfl)
            · replace hw := hw.2 c31
              refine z_iload X hl 5 rfl dX3_stepsTo_74 ?_
              refine z_iconst X dX3_stepsTo_76 ?_
              refine z_iadd X dX3_stepsTo_77 ?_
              exact r_iret X hr hlk K h (Nat.le_refl _) (Nat.le_refl _) dX3_stepsTo_78 ⟨rfl, hw⟩
    exact key43 n43 0 H locs ls hw h (lv_sub hl [2, 3, 4, 5, 1, 0] rfl)
  have J20 : ∀ (x1_5 : Int) (x2_6 : Int) (t7 : Int) (H : Heap) (locs : List Loc) (ls : Array Slot), j_X3_stepsTo_20 post u0 x1_5 x2_6 t7 → HW G (va_A (WC G a u0) s.heap.size) s.heap (WC G a u0) H locs → lv_has ls 6 [(0, .ref (a 3)), (1, zI x1_5), (2, zI x2_6)] → W p l e rm_X3_stepsTo s m args below meth c H locs 0 0 (EndI G (WC G a u0) (PoP (WC G a u0) post) args s 0 0 below) (F0 m 20 ls [zI t7]) := by
    intro x1_5 x2_6 t7 H locs ls hw h hl
    refine z_istore_n (i := 3) (lv' := [(3, zI t7), (0, .ref (a 3)), (1, zI x1_5), (2, zI x2_6)]) X hl rfl (by decide) dX3_stepsTo_20 rfl (fun ls hl => ?_)
    refine z_iload_n X hl 3 rfl rfl dX3_stepsTo_21 ?_
    obtain ⟨h9, hw⟩ := hw
    refine z_if_eq (tgt := 34) X h9 dX3_stepsTo_22 (by decide) (fun c10 => ?_) (fun c10 => ?_)
    · replace hw := hw.1 c10
      refine z_aload_n X hl 1 rfl rfl dX3_stepsTo_34 ?_
      refine r_callVi (rest := []) X K g h (ct_X3_caret u0 _ hw) lk_X3_64 3 rfl rfl ⟨rfl, rfl⟩ ⟨Nat.le_of_ble_eq_true rfl, Nat.le_of_ble_eq_true rfl⟩ rfl (lv_size hl) rfl (Nat.le_of_ble_eq_true rfl) dX3_stepsTo_35 ⟨Nat.le_of_ble_eq_true rfl, Nat.le_of_ble_eq_true rfl⟩ (fun z11 w' H locs hp h => ?_)
      obtain ⟨rfl, hw⟩ := hp
      exact J38 x1_5 x2_6 t7 z11 H locs ls hw h (lv_sub hl [1, 2, 3, 0] rfl)
    · replace hw := hw.2 c10
      refine z_aload_n X hl 1 rfl rfl dX3_stepsTo_25 ?_
      refine r_callVi (rest := []) X K g h (ct_X3_caret u0 _ hw) lk_X3_64 3 rfl rfl ⟨rfl, rfl⟩ ⟨Nat.le_of_ble_eq_true rfl, Nat.le_of_ble_eq_true rfl⟩ rfl (lv_size hl) rfl (Nat.le_of_ble_eq_true rfl) dX3_stepsTo_26 ⟨Nat.le_of_ble_eq_true rfl, Nat.le_of_ble_eq_true rfl⟩ (fun z32 w' H locs hp h => ?_)
      obtain ⟨rfl, hw⟩ := hp
      refine z_iconst X dX3_stepsTo_29 ?_
      refine z_isub X dX3_stepsTo_30 ?_
      refine z_goto (tgt := 38) X dX3_stepsTo_31 (by decide) ?_
      exact J38 x1_5 x2_6 t7 (z32 - 1) H locs ls hw h (lv_sub hl [1, 2, 3, 0] rfl)
  refine z_iload_n X hl 2 rfl rfl dX3_stepsTo_0 ?_
  obtain ⟨h1, hw⟩ := hw
  refine z_if_eq (tgt := 11) X h1 dX3_stepsTo_1 (by decide) (fun c2 => ?_) (fun c2 => ?_)
  · replace hw := hw.1 c2
    refine z_aload_n X hl 0 rfl rfl dX3_stepsTo_11 ?_
    refine r_callVi (rest := []) X K g h (ct_X3_length u0 _ hw) lk_X3_80 3 rfl rfl ⟨rfl, rfl⟩ ⟨Nat.le_of_ble_eq_true rfl, Nat.le_of_ble_eq_true rfl⟩ rfl (lv_size hl) rfl (Nat.le_of_ble_eq_true rfl) dX3_stepsTo_12 ⟨Nat.le_of_ble_eq_true rfl, Nat.le_of_ble_eq_true rfl⟩ (fun z3 w' H locs hp h => ?_)
    obtain ⟨rfl, hw⟩ := hp
    refine z_aload_n X hl 0 rfl rfl dX3_stepsTo_15 ?_
    refine r_callVi (rest := [zI z3]) X K g h (ct_X3_caret u0 _ hw) lk_X3_64 3 rfl rfl ⟨rfl, rfl⟩ ⟨Nat.le_of_ble_eq_true rfl, Nat.le_of_ble_eq_true rfl⟩ rfl (lv_size hl) rfl (Nat.le_of_ble_eq_true rfl) dX3_stepsTo_16 ⟨Nat.le_of_ble_eq_true rfl, Nat.le_of_ble_eq_true rfl⟩ (fun z4 w' H locs hp h => ?_)
    obtain ⟨rfl, hw⟩ := hp
    refine z_isub X dX3_stepsTo_19 ?_
    exact J20 p1 p2 (z3 - z4) H locs ls hw h (lv_sub hl [0, 1, 2] rfl)
  · replace hw := hw.2 c2
    refine z_aload_n X hl 0 rfl rfl dX3_stepsTo_4 ?_
    refine r_callVi (rest := []) X K g h (ct_X3_caret u0 _ hw) lk_X3_64 3 rfl rfl ⟨rfl, rfl⟩ ⟨Nat.le_of_ble_eq_true rfl, Nat.le_of_ble_eq_true rfl⟩ rfl (lv_size hl) rfl (Nat.le_of_ble_eq_true rfl) dX3_stepsTo_5 ⟨Nat.le_of_ble_eq_true rfl, Nat.le_of_ble_eq_true rfl⟩ (fun z33 w' H locs hp h => ?_)
    obtain ⟨rfl, hw⟩ := hp
    refine z_goto (tgt := 20) X dX3_stepsTo_8 (by decide) ?_
    exact J20 p1 p2 z33 H locs ls hw h (lv_sub hl [0, 1, 2] rfl)
def b_X1_seek_33 (post : Int → St → Prop) (G : Gr) (y2_33 : Int) (y3_33 : Int) (y4_33 : Int) (K33 : St × Int → Prop) (u5 : St) (x5_6 : Int) : Prop :=
(InR x5_6) ∧ (InR y3_33) ∧ ((y3_33 ≤ x5_6 → (InR y2_33) ∧ ((y2_33 = 0 → (w_X1_conclude (fun  (u12 : St) => post y3_33 u12) u5 0 y4_33 1)) ∧
 (¬ y2_33 = 0 → (w_X1_conclude (fun  (u13 : St) => post y3_33 u13) u5 0 y4_33 2)))) ∧
 (¬ y3_33 ≤ x5_6 → (w_X3_pass (fun (z14 : Int) (u15 : St) => K33 (u15, x5_6 + 1)) G u5 y2_33)))
def B_X1_seek_33 (post : Int → St → Prop) (G : Gr) (y2_33 : Int) (y3_33 : Int) (y4_33 : Int) : (St × Int → Prop) → St × Int → Prop := fun K t => b_X1_seek_33 post G y2_33 y3_33 y4_33 K t.1 t.2
def w_X1_seek (post : Int → St → Prop) (G : Gr) (u0 : St) (p1 : Int) (p2 : Int) : Prop :=
(w_X3_stepsTo (fun (z1 : Int) => (InR z1) ∧ ((¬ z1 = 0 → (w_X3_caret (fun (z4 : Int) => (∃ n : Nat, Lp (B_X1_seek_33 post G p2 z1 z4) n (u0, 0))) u0)) ∧
 (z1 = 0 → (w_X1_refuse (fun (z16 : Int) (u17 : St) => post z16 u17) u0 (-2))))) u0 p1 p2)
abbrev rm_X1_seek : Room := { frames := 5, cells := 0, slots := 0, locals := 107 }
set_option maxRecDepth 100000 in
set_option maxHeartbeats 4000000 in
theorem ct_X1_seek {l : Launch} {G : Gr} {a : Nat → Nat} (u0 : St) (p1 : Int) (p2 : Int) (post : Int → St → Prop) (hw : w_X1_seek post G u0 p1 p2) : Ct l G yX1_seek (ws_ yX1_seek cX1_seek 6 (some .int)) rm_X1_seek [.ref (a 1), zI p1, zI p2] (WC G a u0) 0 0 (Po (WC G a) post) := by
  refine Ct.of (by decide) (Nat.le_of_ble_eq_true rfl) ?_
  intro p e s m args below meth c ls X hr hlk K g h hl
  have hl : lv_has ls 6 [(0, .ref (a 1)), (1, zI p1), (2, zI p2)] := hl
  obtain ⟨H, hH⟩ : ∃ H, H = s.heap := ⟨_, rfl⟩
  obtain ⟨locs, hL⟩ : ∃ L : List Loc, L = [] := ⟨_, rfl⟩
  replace h : HW G (va_A (WC G a u0) s.heap.size) s.heap (WC G a u0) H locs := by rw [hH, hL]; exact h
  suffices hg : W p l e rm_X1_seek s m args below meth c H locs 0 0 (EndI G (WC G a u0) (Po (WC G a) post) args s 0 0 below) (F0 m 0 ls []) by rw [hH, hL] at hg; exact hg
  clear hH hL
  refine z_aload_n X hl 0 rfl rfl dX1_seek_0 ?_
  refine gC_X1_lines X K h q_240 dX1_seek_1 ?_
  refine z_iload_n X hl 1 rfl rfl dX1_seek_4 ?_
  refine z_iload_n X hl 2 rfl rfl dX1_seek_5 ?_
  refine r_callVi (rest := []) X K g h (ct_X3_stepsTo u0 p1 p2 _ hw) lk_X1_70 3 rfl rfl ⟨rfl, rfl⟩ ⟨Nat.le_of_ble_eq_true rfl, Nat.le_of_ble_eq_true rfl⟩ rfl (lv_size hl) rfl (Nat.le_of_ble_eq_true rfl) dX1_seek_6 ⟨Nat.le_of_ble_eq_true rfl, Nat.le_of_ble_eq_true rfl⟩ (fun z1 w' H locs hp h => ?_)
  obtain ⟨rfl, hw⟩ := hp
  refine z_istore_n (i := 3) (lv' := [(3, zI z1), (0, .ref (a 1)), (1, zI p1), (2, zI p2)]) X hl rfl (by decide) dX1_seek_9 rfl (fun ls hl => ?_)
  refine z_iload_n X hl 0 rfl rfl dX1_seek_10 ?_
  obtain ⟨h2, hw⟩ := hw
  refine z_if_ne (tgt := 21) X h2 dX1_seek_11 (by decide) (fun c3 => ?_) (fun c3 => ?_)
  · replace hw := hw.1 c3
    refine z_aload_n X hl 1 rfl rfl dX1_seek_21 ?_
    refine gC_X1_lines X K h q_240 dX1_seek_22 ?_
    refine r_callVi (rest := []) X K g h (ct_X3_caret u0 _ hw) lk_X1_41 3 rfl rfl ⟨rfl, rfl⟩ ⟨Nat.le_of_ble_eq_true rfl, Nat.le_of_ble_eq_true rfl⟩ rfl (lv_size hl) rfl (Nat.le_of_ble_eq_true rfl) dX1_seek_25 ⟨Nat.le_of_ble_eq_true rfl, Nat.le_of_ble_eq_true rfl⟩ (fun z4 w' H locs hp h => ?_)
    obtain ⟨rfl, hw⟩ := hp
    refine z_istore (i := 4) (lv' := [(4, zI z4), (3, zI z1), (0, .ref (a 1)), (1, zI p1), (2, zI p2)]) X hl (by decide) dX1_seek_28 rfl (fun ls hl => ?_)
    refine z_iconst X dX1_seek_30 ?_
    refine z_istore (i := 5) (lv' := [(5, zI 0), (4, zI z4), (3, zI z1), (0, .ref (a 1)), (1, zI p1), (2, zI p2)]) X hl (by decide) dX1_seek_31 rfl (fun ls hl => ?_)
    obtain ⟨n33, hw⟩ := hw
    have key33 : ∀ (n : Nat) (t : St × Int) (H : Heap) (locs : List Loc) (ls : Array Slot), Lp (B_X1_seek_33 post G p2 z1 z4) n t → HW G (va_A (WC G a u0) s.heap.size) s.heap (WC G a t.1) H locs → lv_has ls 6 [(0, .ref (a 1)), (2, zI p2), (3, zI z1), (4, zI z4), (5, zI t.2)] → W p l e rm_X1_seek s m args below meth c H locs 0 0 (EndI G (WC G a u0) (Po (WC G a) post) args s 0 0 below) (F0 m 33 ls []) := by
      intro n
      induction n with
      | zero =>
        intro t H locs ls hw
        exact hw.elim
      | succ n33 ih33 =>
        rintro ⟨u5, x5_6⟩ H locs ls hw h hl
        replace hw : b_X1_seek_33 post G p2 z1 z4 (Lp (B_X1_seek_33 post G p2 z1 z4) n33) u5 x5_6 := hw
        refine z_iload X hl 4 rfl dX1_seek_33 ?_
        refine z_iload_n X hl 2 rfl rfl dX1_seek_35 ?_
        obtain ⟨h7, h8, hw⟩ := hw
        refine z_icmp_ge (tgt := 54) X h7 h8 dX1_seek_36 (by decide) (fun c9 => ?_) (fun c9 => ?_)
        · replace hw := hw.1 c9
          refine z_aload_n X hl 0 rfl rfl dX1_seek_54 ?_
          refine z_iconst X dX1_seek_55 ?_
          refine z_iload X hl 3 rfl dX1_seek_56 ?_
          refine z_iload_n X hl 1 rfl rfl dX1_seek_58 ?_
          obtain ⟨h10, hw⟩ := hw
          refine z_if_eq (tgt := 66) X h10 dX1_seek_59 (by decide) (fun c11 => ?_) (fun c11 => ?_)
          · replace hw := hw.1 c11
            refine z_iconst X dX1_seek_66 ?_
            refine r_callVv (rest := []) X K g h (ct_X1_conclude u5 0 z4 1 _ hw) lk_X1_49 1 rfl rfl ⟨rfl, rfl⟩ ⟨Nat.le_of_ble_eq_true rfl, Nat.le_of_ble_eq_true rfl⟩ rfl (lv_size hl) rfl (Nat.le_of_ble_eq_true rfl) dX1_seek_67 ⟨Nat.le_of_ble_eq_true rfl, Nat.le_of_ble_eq_true rfl⟩ (fun w' H locs hp h => ?_)
            obtain ⟨u12, rfl, hw⟩ := hp
            refine z_iload_n X hl 2 rfl rfl dX1_seek_70 ?_
            exact r_iret X hr hlk K h (Nat.le_refl _) (Nat.le_refl _) dX1_seek_71 ⟨_, rfl, hw⟩
          · replace hw := hw.2 c11
            refine z_iconst X dX1_seek_62 ?_
            refine z_goto (tgt := 67) X dX1_seek_63 (by decide) ?_
            refine r_callVv (rest := []) X K g h (ct_X1_conclude u5 0 z4 2 _ hw) lk_X1_49 1 rfl rfl ⟨rfl, rfl⟩ ⟨Nat.le_of_ble_eq_true rfl, Nat.le_of_ble_eq_true rfl⟩ rfl (lv_size hl) rfl (Nat.le_of_ble_eq_true rfl) dX1_seek_67 ⟨Nat.le_of_ble_eq_true rfl, Nat.le_of_ble_eq_true rfl⟩ (fun w' H locs hp h => ?_)
            obtain ⟨u13, rfl, hw⟩ := hp
            refine z_iload_n X hl 2 rfl rfl dX1_seek_70 ?_
            exact r_iret X hr hlk K h (Nat.le_refl _) (Nat.le_refl _) dX1_seek_71 ⟨_, rfl, hw⟩
        · replace hw := hw.2 c9
          refine z_aload_n X hl 0 rfl rfl dX1_seek_39 ?_
          refine gC_X1_lines X K h q_240 dX1_seek_40 ?_
          refine z_iload_n X hl 1 rfl rfl dX1_seek_43 ?_
          refine r_callVi (rest := []) X K g h (ct_X3_pass u5 p2 _ hw) lk_X1_45 3 rfl rfl ⟨rfl, rfl⟩ ⟨Nat.le_of_ble_eq_true rfl, Nat.le_of_ble_eq_true rfl⟩ rfl (lv_size hl) rfl (Nat.le_of_ble_eq_true rfl) dX1_seek_44 ⟨Nat.le_of_ble_eq_true rfl, Nat.le_of_ble_eq_true rfl⟩ (fun z14 w' H locs hp h => ?_)
          obtain ⟨u15, rfl, hw⟩ := hp
          refine z_pop X rfl dX1_seek_47 ?_
          refine z_iinc (lv' := [(5, zI (x5_6 + 1)), (0, .ref (a 1)), (2, zI p2), (3, zI z1), (4, zI z4)]) X hl 4 rfl (by decide) dX1_seek_48 rfl (fun ls hl => ?_)
          refine z_goto (tgt := 33) X dX1_seek_51 (by decide) ?_
          exact ih33 (u15, x5_6 + 1) H locs ls hw h (lv_sub hl [1, 2, 3, 4, 0] rfl)
    exact key33 n33 (u0, 0) H locs ls hw h (lv_sub hl [3, 5, 2, 1, 0] rfl)
  · replace hw := hw.2 c3
    refine z_aload_n X hl 1 rfl rfl dX1_seek_14 ?_
    refine z_bipush (v := (-2)) X dX1_seek_15 (by decide) ?_
    refine r_callVi (rest := []) X K g h (ct_X1_refuse u0 (-2) _ hw) lk_X1_37 1 rfl rfl ⟨rfl, rfl⟩ ⟨Nat.le_of_ble_eq_true rfl, Nat.le_of_ble_eq_true rfl⟩ rfl (lv_size hl) rfl (Nat.le_of_ble_eq_true rfl) dX1_seek_17 ⟨Nat.le_of_ble_eq_true rfl, Nat.le_of_ble_eq_true rfl⟩ (fun z16 w' H locs hp h => ?_)
    obtain ⟨u17, rfl, hw⟩ := hp
    exact r_iret X hr hlk K h (Nat.le_refl _) (Nat.le_refl _) dX1_seek_20 ⟨_, rfl, hw⟩
def w_X3_cross (post : Int → St → Prop) (mc ms : Nat) (G : Gr) (u0 : St) : Prop :=
(∃ a2 b3 : Nat, (0 + a2 ≤ mc) ∧ (0 + b3 ≤ ms) ∧ w_X4_cross (fun (z1 : Int) (u6 : St) => (w_X0_cross (fun (z7 : Int) (u8 : St) => (w_X6_cross (fun (z9 : Int) (u10 : St) => (w_X3_common (fun (z11 : Int) (u12 : St) => post z11 u12) u10 z1 z7 z9)) u8)) u6)) a2 b3 G u0)
abbrev rm_X3_cross (mc ms : Nat) : Room := { frames := 12, cells := mc, slots := ms, locals := 337 }
set_option maxRecDepth 100000 in
set_option maxHeartbeats 4000000 in
theorem ct_X3_cross {l : Launch} {G : Gr} {a : Nat → Nat} (mc ms : Nat) (u0 : St) (post : Int → St → Prop) (hw : w_X3_cross post mc ms G u0) : Ct l G yX3_cross (ws_ yX3_cross cX3_cross 1 (some .int)) (rm_X3_cross mc ms) [.ref (a 3)] (WC G a u0) mc ms (Po (WC G a) post) := by
  refine Ct.of (by decide) (Nat.le_of_ble_eq_true rfl) ?_
  intro p e s m args below meth c ls X hr hlk K g h hl
  have hl : lv_has ls 1 [(0, .ref (a 3))] := hl
  obtain ⟨H, hH⟩ : ∃ H, H = s.heap := ⟨_, rfl⟩
  obtain ⟨locs, hL⟩ : ∃ L : List Loc, L = [] := ⟨_, rfl⟩
  replace h : HW G (va_A (WC G a u0) s.heap.size) s.heap (WC G a u0) H locs := by rw [hH, hL]; exact h
  suffices hg : W p l e (rm_X3_cross mc ms) s m args below meth c H locs 0 0 (EndI G (WC G a u0) (Po (WC G a) post) args s mc ms below) (F0 m 0 ls []) by rw [hH, hL] at hg; exact hg
  clear hH hL
  refine z_aload_n X hl 0 rfl rfl dX3_cross_0 ?_
  refine z_aload_n X hl 0 rfl rfl dX3_cross_1 ?_
  refine gC_X3_list X K h q_205 dX3_cross_2 ?_
  obtain ⟨a2, b3, hk4, hs5, hw⟩ := hw
  refine r_callVi (rest := [.ref (a 3)]) X K g h (ct_X4_cross a2 b3 u0 _ hw) lk_X3_68 4 rfl rfl ⟨rfl, rfl⟩ ⟨Nat.le_of_ble_eq_true rfl, Nat.le_of_ble_eq_true rfl⟩ rfl (lv_size hl) rfl (Nat.le_of_ble_eq_true rfl) dX3_cross_5 ⟨hk4, hs5⟩ (fun z1 w' H locs hp h => ?_)
  obtain ⟨u6, rfl, hw⟩ := hp
  refine z_aload_n X hl 0 rfl rfl dX3_cross_8 ?_
  refine gC_X3_chain X K h q_206 dX3_cross_9 ?_
  refine r_callVi (rest := [zI z1, .ref (a 3)]) X K g h (ct_X0_cross u6 _ hw) lk_X3_71 6 rfl rfl ⟨rfl, rfl⟩ ⟨Nat.le_of_ble_eq_true rfl, Nat.le_of_ble_eq_true rfl⟩ rfl (lv_size hl) rfl (Nat.le_of_ble_eq_true rfl) dX3_cross_12 ⟨hk4, hs5⟩ (fun z7 w' H locs hp h => ?_)
  obtain ⟨u8, rfl, hw⟩ := hp
  refine z_aload_n X hl 0 rfl rfl dX3_cross_15 ?_
  refine gC_X3_rows X K h q_207 dX3_cross_16 ?_
  refine r_callVi (rest := [zI z7, zI z1, .ref (a 3)]) X K g h (ct_X6_cross u8 _ hw) lk_X3_72 7 rfl rfl ⟨rfl, rfl⟩ ⟨Nat.le_of_ble_eq_true rfl, Nat.le_of_ble_eq_true rfl⟩ rfl (lv_size hl) rfl (Nat.le_of_ble_eq_true rfl) dX3_cross_19 ⟨hk4, hs5⟩ (fun z9 w' H locs hp h => ?_)
  obtain ⟨u10, rfl, hw⟩ := hp
  refine r_callVi (rest := []) X K g h (ct_X3_common u10 z1 z7 z9 _ hw) lk_X3_38 3 rfl rfl ⟨rfl, rfl⟩ ⟨Nat.le_of_ble_eq_true rfl, Nat.le_of_ble_eq_true rfl⟩ rfl (lv_size hl) rfl (Nat.le_of_ble_eq_true rfl) dX3_cross_22 ⟨hk4, hs5⟩ (fun z11 w' H locs hp h => ?_)
  obtain ⟨u12, rfl, hw⟩ := hp
  exact r_iret X hr hlk K h hk4 hs5 dX3_cross_25 ⟨_, rfl, hw⟩
def w_X1_cross (post : Int → St → Prop) (mc ms : Nat) (G : Gr) (u0 : St) : Prop :=
(w_X3_has (fun (z1 : Int) => (InR z1) ∧ ((z1 = 0 → (w_X1_refuse (fun (z4 : Int) (u5 : St) => post z4 u5) u0 (-2))) ∧
 (¬ z1 = 0 → (w_X3_has (fun (z6 : Int) => (InR z6) ∧ ((¬ z6 = 0 → (∃ a10 b11 : Nat, (0 + a10 ≤ mc) ∧ (0 + b11 ≤ ms) ∧ w_X3_cross (fun (z9 : Int) (u14 : St) => (w_X1_conclude (fun  (u15 : St) => post z9 u15) u14 6 0 1)) a10 b11 G u0)) ∧
 (z6 = 0 → (w_X1_refuse (fun (z16 : Int) (u17 : St) => post z16 u17) u0 (-2))))) u0 0)))) u0 1)
abbrev rm_X1_cross (mc ms : Nat) : Room := { frames := 13, cells := mc, slots := ms, locals := 357 }
set_option maxRecDepth 100000 in
set_option maxHeartbeats 4000000 in
theorem ct_X1_cross {l : Launch} {G : Gr} {a : Nat → Nat} (mc ms : Nat) (u0 : St) (post : Int → St → Prop) (hw : w_X1_cross post mc ms G u0) : Ct l G yX1_cross (ws_ yX1_cross cX1_cross 2 (some .int)) (rm_X1_cross mc ms) [.ref (a 1)] (WC G a u0) mc ms (Po (WC G a) post) := by
  refine Ct.of (by decide) (Nat.le_of_ble_eq_true rfl) ?_
  intro p e s m args below meth c ls X hr hlk K g h hl
  have hl : lv_has ls 2 [(0, .ref (a 1))] := hl
  obtain ⟨H, hH⟩ : ∃ H, H = s.heap := ⟨_, rfl⟩
  obtain ⟨locs, hL⟩ : ∃ L : List Loc, L = [] := ⟨_, rfl⟩
  replace h : HW G (va_A (WC G a u0) s.heap.size) s.heap (WC G a u0) H locs := by rw [hH, hL]; exact h
  suffices hg : W p l e (rm_X1_cross mc ms) s m args below meth c H locs 0 0 (EndI G (WC G a u0) (Po (WC G a) post) args s mc ms below) (F0 m 0 ls []) by rw [hH, hL] at hg; exact hg
  clear hH hL
  refine z_aload_n X hl 0 rfl rfl dX1_cross_0 ?_
  refine gC_X1_lines X K h q_240 dX1_cross_1 ?_
  refine z_iconst X dX1_cross_4 ?_
  refine r_callVi (rest := []) X K g h (ct_X3_has u0 1 _ hw) lk_X1_33 3 rfl rfl ⟨rfl, rfl⟩ ⟨Nat.le_of_ble_eq_true rfl, Nat.le_of_ble_eq_true rfl⟩ rfl (lv_size hl) rfl (Nat.le_of_ble_eq_true rfl) dX1_cross_5 ⟨(Nat.zero_le _), (Nat.zero_le _)⟩ (fun z1 w' H locs hp h => ?_)
  obtain ⟨rfl, hw⟩ := hp
  obtain ⟨h2, hw⟩ := hw
  refine z_if_eq (tgt := 22) X h2 dX1_cross_8 (by decide) (fun c3 => ?_) (fun c3 => ?_)
  · replace hw := hw.1 c3
    refine z_aload_n X hl 0 rfl rfl dX1_cross_22 ?_
    refine z_bipush (v := (-2)) X dX1_cross_23 (by decide) ?_
    refine r_callVi (rest := []) X K g h (ct_X1_refuse u0 (-2) _ hw) lk_X1_37 1 rfl rfl ⟨rfl, rfl⟩ ⟨Nat.le_of_ble_eq_true rfl, Nat.le_of_ble_eq_true rfl⟩ rfl (lv_size hl) rfl (Nat.le_of_ble_eq_true rfl) dX1_cross_25 ⟨(Nat.zero_le _), (Nat.zero_le _)⟩ (fun z4 w' H locs hp h => ?_)
    obtain ⟨u5, rfl, hw⟩ := hp
    exact r_iret X hr hlk K h (Nat.zero_le _) (Nat.zero_le _) dX1_cross_28 ⟨_, rfl, hw⟩
  · replace hw := hw.2 c3
    refine z_aload_n X hl 0 rfl rfl dX1_cross_11 ?_
    refine gC_X1_lines X K h q_240 dX1_cross_12 ?_
    refine z_iconst X dX1_cross_15 ?_
    refine r_callVi (rest := []) X K g h (ct_X3_has u0 0 _ hw) lk_X1_33 3 rfl rfl ⟨rfl, rfl⟩ ⟨Nat.le_of_ble_eq_true rfl, Nat.le_of_ble_eq_true rfl⟩ rfl (lv_size hl) rfl (Nat.le_of_ble_eq_true rfl) dX1_cross_16 ⟨(Nat.zero_le _), (Nat.zero_le _)⟩ (fun z6 w' H locs hp h => ?_)
    obtain ⟨rfl, hw⟩ := hp
    obtain ⟨h7, hw⟩ := hw
    refine z_if_ne (tgt := 29) X h7 dX1_cross_19 (by decide) (fun c8 => ?_) (fun c8 => ?_)
    · replace hw := hw.1 c8
      refine z_aload_n X hl 0 rfl rfl dX1_cross_29 ?_
      refine gC_X1_lines X K h q_240 dX1_cross_30 ?_
      obtain ⟨a10, b11, hk12, hs13, hw⟩ := hw
      refine r_callVi (rest := []) X K g h (ct_X3_cross a10 b11 u0 _ hw) lk_X1_73 3 rfl rfl ⟨rfl, rfl⟩ ⟨Nat.le_of_ble_eq_true rfl, Nat.le_of_ble_eq_true rfl⟩ rfl (lv_size hl) rfl (Nat.le_of_ble_eq_true rfl) dX1_cross_33 ⟨hk12, hs13⟩ (fun z9 w' H locs hp h => ?_)
      obtain ⟨u14, rfl, hw⟩ := hp
      refine z_istore_n (i := 1) (lv' := [(1, zI z9), (0, .ref (a 1))]) X hl rfl (by decide) dX1_cross_36 rfl (fun ls hl => ?_)
      refine z_aload_n X hl 1 rfl rfl dX1_cross_37 ?_
      refine z_bipush (v := 6) X dX1_cross_38 (by decide) ?_
      refine z_iconst X dX1_cross_40 ?_
      refine z_iconst X dX1_cross_41 ?_
      refine r_callVv (rest := []) X K g h (ct_X1_conclude u14 6 0 1 _ hw) lk_X1_49 1 rfl rfl ⟨rfl, rfl⟩ ⟨Nat.le_of_ble_eq_true rfl, Nat.le_of_ble_eq_true rfl⟩ rfl (lv_size hl) rfl (Nat.le_of_ble_eq_true rfl) dX1_cross_42 ⟨hk12, hs13⟩ (fun w' H locs hp h => ?_)
      obtain ⟨u15, rfl, hw⟩ := hp
      refine z_iload_n X hl 0 rfl rfl dX1_cross_45 ?_
      exact r_iret X hr hlk K h hk12 hs13 dX1_cross_46 ⟨_, rfl, hw⟩
    · replace hw := hw.2 c8
      refine z_aload_n X hl 0 rfl rfl dX1_cross_22 ?_
      refine z_bipush (v := (-2)) X dX1_cross_23 (by decide) ?_
      refine r_callVi (rest := []) X K g h (ct_X1_refuse u0 (-2) _ hw) lk_X1_37 1 rfl rfl ⟨rfl, rfl⟩ ⟨Nat.le_of_ble_eq_true rfl, Nat.le_of_ble_eq_true rfl⟩ rfl (lv_size hl) rfl (Nat.le_of_ble_eq_true rfl) dX1_cross_25 ⟨(Nat.zero_le _), (Nat.zero_le _)⟩ (fun z16 w' H locs hp h => ?_)
      obtain ⟨u17, rfl, hw⟩ := hp
      exact r_iret X hr hlk K h (Nat.zero_le _) (Nat.zero_le _) dX1_cross_28 ⟨_, rfl, hw⟩
def w_X1_takeBack (post : Int → St → Prop) (mc ms : Nat) (G : Gr) (u0 : St) : Prop :=
(InR (sI u0 7)) ∧ ((¬ sI u0 7 = 0 → (w_X2_latestNumber (fun (z3 : Int) => (w_X2_latestKind (fun (z4 : Int) => (InR z4) ∧ ((z4 = 0 → (w_X3_go (fun  (u6 : St) => (w_X2_forgetLatest (fun  (u7 : St) => post (sI u7 7) (pI u7 5 0)) u6)) G u0 z3)) ∧
 (z4 = 1 → (w_X3_drop (fun (z9 : Int) (u10 : St) => (w_X2_forgetLatest (fun  (u11 : St) => post (sI u11 7) (pI u11 5 0)) u10)) G u0 1)) ∧
 (z4 = 2 → (∃ a14 b15 : Nat, (0 + a14 ≤ mc) ∧ (0 + b15 ≤ ms) ∧ w_X3_exchange (fun (z13 : Int) (u18 : St) => (w_X2_forgetLatest (fun  (u19 : St) => post (sI u19 7) (pI u19 5 0)) u18)) a14 b15 G u0 z3 1)) ∧
 (z4 = 3 → (∃ a22 b23 : Nat, (0 + a22 ≤ mc) ∧ (0 + b23 ≤ ms) ∧ w_X3_exchange (fun (z21 : Int) (u26 : St) => (w_X2_forgetLatest (fun  (u27 : St) => post (sI u27 7) (pI u27 5 0)) u26)) a22 b23 G u0 z3 0)) ∧
 (z4 = 4 → (∃ a30 b31 : Nat, (0 + a30 ≤ mc) ∧ (0 + b31 ≤ ms) ∧ w_X3_insert (fun (z29 : Int) (u34 : St) => (w_X2_forgetLatest (fun  (u35 : St) => post (sI u35 7) (pI u35 5 0)) u34)) a30 b31 G u0 z3)) ∧
 (z4 = 5 → (∃ a38 b39 : Nat, (0 + a38 ≤ mc) ∧ (0 + b39 ≤ ms) ∧ w_X3_insert (fun (z37 : Int) (u42 : St) => (w_X3_pass (fun (z43 : Int) (u44 : St) => (w_X2_forgetLatest (fun  (u45 : St) => post (sI u45 7) (pI u45 5 0)) u44)) G u42 1)) a38 b39 G u0 z3)) ∧
 (¬ (z4 = 0 ∨ z4 = 1 ∨ z4 = 2 ∨ z4 = 3 ∨ z4 = 4 ∨ z4 = 5) → (∃ a48 b49 : Nat, (0 + a48 ≤ mc) ∧ (0 + b49 ≤ ms) ∧ w_X3_cross (fun (z47 : Int) (u52 : St) => (w_X2_forgetLatest (fun  (u53 : St) => post (sI u53 7) (pI u53 5 0)) u52)) a48 b49 G u0)))) u0)) u0)) ∧
 (sI u0 7 = 0 → post (-1) u0))
abbrev rm_X1_takeBack (mc ms : Nat) : Room := { frames := 13, cells := mc, slots := ms, locals := 359 }
set_option maxRecDepth 100000 in
set_option maxHeartbeats 4000000 in
theorem ct_X1_takeBack {l : Launch} {G : Gr} {a : Nat → Nat} (mc ms : Nat) (u0 : St) (post : Int → St → Prop) (hw : w_X1_takeBack post mc ms G u0) : Ct l G yX1_takeBack (ws_ yX1_takeBack cX1_takeBack 2 (some .int)) (rm_X1_takeBack mc ms) [.ref (a 1)] (WC G a u0) mc ms (Po (WC G a) post) := by
  refine Ct.of (by decide) (Nat.le_of_ble_eq_true rfl) ?_
  intro p e s m args below meth c ls X hr hlk K g h hl
  have hl : lv_has ls 2 [(0, .ref (a 1))] := hl
  obtain ⟨H, hH⟩ : ∃ H, H = s.heap := ⟨_, rfl⟩
  obtain ⟨locs, hL⟩ : ∃ L : List Loc, L = [] := ⟨_, rfl⟩
  replace h : HW G (va_A (WC G a u0) s.heap.size) s.heap (WC G a u0) H locs := by rw [hH, hL]; exact h
  suffices hg : W p l e (rm_X1_takeBack mc ms) s m args below meth c H locs 0 0 (EndI G (WC G a u0) (Po (WC G a) post) args s mc ms below) (F0 m 0 ls []) by rw [hH, hL] at hg; exact hg
  clear hH hL
  refine z_aload_n X hl 0 rfl rfl dX1_takeBack_0 ?_
  refine gC_X1_history X K h q_242 dX1_takeBack_1 ?_
  refine gC_X2_kept (x := sI u0 7) X K h rfl q_229 dX1_takeBack_4 ?_
  obtain ⟨h1, hw⟩ := hw
  refine z_if_ne (tgt := 12) X h1 dX1_takeBack_7 (by decide) (fun c2 => ?_) (fun c2 => ?_)
  · replace hw := hw.1 c2
    refine z_aload_n X hl 0 rfl rfl dX1_takeBack_12 ?_
    refine gC_X1_history X K h q_242 dX1_takeBack_13 ?_
    refine r_callVi (rest := []) X K g h (ct_X2_latestNumber u0 _ hw) lk_X1_79 2 rfl rfl ⟨rfl, rfl⟩ ⟨Nat.le_of_ble_eq_true rfl, Nat.le_of_ble_eq_true rfl⟩ rfl (lv_size hl) rfl (Nat.le_of_ble_eq_true rfl) dX1_takeBack_16 ⟨(Nat.zero_le _), (Nat.zero_le _)⟩ (fun z3 w' H locs hp h => ?_)
    obtain ⟨rfl, hw⟩ := hp
    refine z_istore_n (i := 1) (lv' := [(1, zI z3), (0, .ref (a 1))]) X hl rfl (by decide) dX1_takeBack_19 rfl (fun ls hl => ?_)
    refine z_aload_n X hl 1 rfl rfl dX1_takeBack_20 ?_
    refine gC_X1_history X K h q_242 dX1_takeBack_21 ?_
    refine r_callVi (rest := []) X K g h (ct_X2_latestKind u0 _ hw) lk_X1_82 2 rfl rfl ⟨rfl, rfl⟩ ⟨Nat.le_of_ble_eq_true rfl, Nat.le_of_ble_eq_true rfl⟩ rfl (lv_size hl) rfl (Nat.le_of_ble_eq_true rfl) dX1_takeBack_24 ⟨(Nat.zero_le _), (Nat.zero_le _)⟩ (fun z4 w' H locs hp h => ?_)
    obtain ⟨rfl, hw⟩ := hp
    obtain ⟨h5, hw⟩ := hw
    by_cases c8 : z4 = 0
    · replace hw := hw.1 c8
      refine z_top c8 ?_
      refine lv_tableIn (off := 37) (tgt := 64) X.1 X.2.1 dX1_takeBack_27 (by decide) (by decide) (by decide) (by decide) ?_
      refine z_aload_n X hl 1 rfl rfl dX1_takeBack_64 ?_
      refine gC_X1_lines X K h q_240 dX1_takeBack_65 ?_
      refine z_iload_n X hl 0 rfl rfl dX1_takeBack_68 ?_
      refine r_callVv (rest := []) X K g h (ct_X3_go u0 z3 _ hw) lk_X1_66 3 rfl rfl ⟨rfl, rfl⟩ ⟨Nat.le_of_ble_eq_true rfl, Nat.le_of_ble_eq_true rfl⟩ rfl (lv_size hl) rfl (Nat.le_of_ble_eq_true rfl) dX1_takeBack_69 ⟨(Nat.zero_le _), (Nat.zero_le _)⟩ (fun w' H locs hp h => ?_)
      obtain ⟨u6, rfl, hw⟩ := hp
      refine z_goto (tgt := 154) X dX1_takeBack_72 (by decide) ?_
      refine z_aload_n X hl 1 rfl rfl dX1_takeBack_154 ?_
      refine gC_X1_history X K h q_242 dX1_takeBack_155 ?_
      refine r_callVv (rest := []) X K g h (ct_X2_forgetLatest u6 _ hw) lk_X1_85 2 rfl rfl ⟨rfl, rfl⟩ ⟨Nat.le_of_ble_eq_true rfl, Nat.le_of_ble_eq_true rfl⟩ rfl (lv_size hl) rfl (Nat.le_of_ble_eq_true rfl) dX1_takeBack_158 ⟨(Nat.zero_le _), (Nat.zero_le _)⟩ (fun w' H locs hp h => ?_)
      obtain ⟨u7, rfl, hw⟩ := hp
      refine z_aload_n X hl 1 rfl rfl dX1_takeBack_161 ?_
      refine z_iconst X dX1_takeBack_162 ?_
      refine pC_X1_side X K h q_248 dX1_takeBack_163 (fun H locs h => ?_)
      refine z_aload_n X hl 1 rfl rfl dX1_takeBack_166 ?_
      refine gC_X1_history X K h q_242 dX1_takeBack_167 ?_
      refine gC_X2_kept (x := sI u7 7) X K h rfl q_229 dX1_takeBack_170 ?_
      exact r_iret X hr hlk K h (Nat.zero_le _) (Nat.zero_le _) dX1_takeBack_173 ⟨_, rfl, hw⟩
    · by_cases c12 : z4 = 1
      · replace hw := hw.2.1 c12
        refine z_top c12 ?_
        refine lv_tableIn (off := 48) (tgt := 75) X.1 X.2.1 dX1_takeBack_27 (by decide) (by decide) (by decide) (by decide) ?_
        refine z_aload_n X hl 1 rfl rfl dX1_takeBack_75 ?_
        refine gC_X1_lines X K h q_240 dX1_takeBack_76 ?_
        refine z_iconst X dX1_takeBack_79 ?_
        refine r_callVi (rest := []) X K g h (ct_X3_drop u0 1 _ hw) lk_X1_63 3 rfl rfl ⟨rfl, rfl⟩ ⟨Nat.le_of_ble_eq_true rfl, Nat.le_of_ble_eq_true rfl⟩ rfl (lv_size hl) rfl (Nat.le_of_ble_eq_true rfl) dX1_takeBack_80 ⟨(Nat.zero_le _), (Nat.zero_le _)⟩ (fun z9 w' H locs hp h => ?_)
        obtain ⟨u10, rfl, hw⟩ := hp
        refine z_pop X rfl dX1_takeBack_83 ?_
        refine z_goto (tgt := 154) X dX1_takeBack_84 (by decide) ?_
        refine z_aload_n X hl 1 rfl rfl dX1_takeBack_154 ?_
        refine gC_X1_history X K h q_242 dX1_takeBack_155 ?_
        refine r_callVv (rest := []) X K g h (ct_X2_forgetLatest u10 _ hw) lk_X1_85 2 rfl rfl ⟨rfl, rfl⟩ ⟨Nat.le_of_ble_eq_true rfl, Nat.le_of_ble_eq_true rfl⟩ rfl (lv_size hl) rfl (Nat.le_of_ble_eq_true rfl) dX1_takeBack_158 ⟨(Nat.zero_le _), (Nat.zero_le _)⟩ (fun w' H locs hp h => ?_)
        obtain ⟨u11, rfl, hw⟩ := hp
        refine z_aload_n X hl 1 rfl rfl dX1_takeBack_161 ?_
        refine z_iconst X dX1_takeBack_162 ?_
        refine pC_X1_side X K h q_248 dX1_takeBack_163 (fun H locs h => ?_)
        refine z_aload_n X hl 1 rfl rfl dX1_takeBack_166 ?_
        refine gC_X1_history X K h q_242 dX1_takeBack_167 ?_
        refine gC_X2_kept (x := sI u11 7) X K h rfl q_229 dX1_takeBack_170 ?_
        exact r_iret X hr hlk K h (Nat.zero_le _) (Nat.zero_le _) dX1_takeBack_173 ⟨_, rfl, hw⟩
      · by_cases c20 : z4 = 2
        · replace hw := hw.2.2.1 c20
          refine z_top c20 ?_
          refine lv_tableIn (off := 60) (tgt := 87) X.1 X.2.1 dX1_takeBack_27 (by decide) (by decide) (by decide) (by decide) ?_
          refine z_aload_n X hl 1 rfl rfl dX1_takeBack_87 ?_
          refine gC_X1_lines X K h q_240 dX1_takeBack_88 ?_
          refine z_iload_n X hl 0 rfl rfl dX1_takeBack_91 ?_
          refine z_iconst X dX1_takeBack_92 ?_
          obtain ⟨a14, b15, hk16, hs17, hw⟩ := hw
          refine r_callVi (rest := []) X K g h (ct_X3_exchange a14 b15 u0 z3 1 _ hw) lk_X1_59 3 rfl rfl ⟨rfl, rfl⟩ ⟨Nat.le_of_ble_eq_true rfl, Nat.le_of_ble_eq_true rfl⟩ rfl (lv_size hl) rfl (Nat.le_of_ble_eq_true rfl) dX1_takeBack_93 ⟨hk16, hs17⟩ (fun z13 w' H locs hp h => ?_)
          obtain ⟨u18, rfl, hw⟩ := hp
          refine z_pop X rfl dX1_takeBack_96 ?_
          refine z_goto (tgt := 154) X dX1_takeBack_97 (by decide) ?_
          refine z_aload_n X hl 1 rfl rfl dX1_takeBack_154 ?_
          refine gC_X1_history X K h q_242 dX1_takeBack_155 ?_
          refine r_callVv (rest := []) X K g h (ct_X2_forgetLatest u18 _ hw) lk_X1_85 2 rfl rfl ⟨rfl, rfl⟩ ⟨Nat.le_of_ble_eq_true rfl, Nat.le_of_ble_eq_true rfl⟩ rfl (lv_size hl) rfl (Nat.le_of_ble_eq_true rfl) dX1_takeBack_158 ⟨hk16, hs17⟩ (fun w' H locs hp h => ?_)
          obtain ⟨u19, rfl, hw⟩ := hp
          refine z_aload_n X hl 1 rfl rfl dX1_takeBack_161 ?_
          refine z_iconst X dX1_takeBack_162 ?_
          refine pC_X1_side X K h q_248 dX1_takeBack_163 (fun H locs h => ?_)
          refine z_aload_n X hl 1 rfl rfl dX1_takeBack_166 ?_
          refine gC_X1_history X K h q_242 dX1_takeBack_167 ?_
          refine gC_X2_kept (x := sI u19 7) X K h rfl q_229 dX1_takeBack_170 ?_
          exact r_iret X hr hlk K h hk16 hs17 dX1_takeBack_173 ⟨_, rfl, hw⟩
        · by_cases c28 : z4 = 3
          · replace hw := hw.2.2.2.1 c28
            refine z_top c28 ?_
            refine lv_tableIn (off := 73) (tgt := 100) X.1 X.2.1 dX1_takeBack_27 (by decide) (by decide) (by decide) (by decide) ?_
            refine z_aload_n X hl 1 rfl rfl dX1_takeBack_100 ?_
            refine gC_X1_lines X K h q_240 dX1_takeBack_101 ?_
            refine z_iload_n X hl 0 rfl rfl dX1_takeBack_104 ?_
            refine z_iconst X dX1_takeBack_105 ?_
            obtain ⟨a22, b23, hk24, hs25, hw⟩ := hw
            refine r_callVi (rest := []) X K g h (ct_X3_exchange a22 b23 u0 z3 0 _ hw) lk_X1_59 3 rfl rfl ⟨rfl, rfl⟩ ⟨Nat.le_of_ble_eq_true rfl, Nat.le_of_ble_eq_true rfl⟩ rfl (lv_size hl) rfl (Nat.le_of_ble_eq_true rfl) dX1_takeBack_106 ⟨hk24, hs25⟩ (fun z21 w' H locs hp h => ?_)
            obtain ⟨u26, rfl, hw⟩ := hp
            refine z_pop X rfl dX1_takeBack_109 ?_
            refine z_goto (tgt := 154) X dX1_takeBack_110 (by decide) ?_
            refine z_aload_n X hl 1 rfl rfl dX1_takeBack_154 ?_
            refine gC_X1_history X K h q_242 dX1_takeBack_155 ?_
            refine r_callVv (rest := []) X K g h (ct_X2_forgetLatest u26 _ hw) lk_X1_85 2 rfl rfl ⟨rfl, rfl⟩ ⟨Nat.le_of_ble_eq_true rfl, Nat.le_of_ble_eq_true rfl⟩ rfl (lv_size hl) rfl (Nat.le_of_ble_eq_true rfl) dX1_takeBack_158 ⟨hk24, hs25⟩ (fun w' H locs hp h => ?_)
            obtain ⟨u27, rfl, hw⟩ := hp
            refine z_aload_n X hl 1 rfl rfl dX1_takeBack_161 ?_
            refine z_iconst X dX1_takeBack_162 ?_
            refine pC_X1_side X K h q_248 dX1_takeBack_163 (fun H locs h => ?_)
            refine z_aload_n X hl 1 rfl rfl dX1_takeBack_166 ?_
            refine gC_X1_history X K h q_242 dX1_takeBack_167 ?_
            refine gC_X2_kept (x := sI u27 7) X K h rfl q_229 dX1_takeBack_170 ?_
            exact r_iret X hr hlk K h hk24 hs25 dX1_takeBack_173 ⟨_, rfl, hw⟩
          · by_cases c36 : z4 = 4
            · replace hw := hw.2.2.2.2.1 c36
              refine z_top c36 ?_
              refine lv_tableIn (off := 86) (tgt := 113) X.1 X.2.1 dX1_takeBack_27 (by decide) (by decide) (by decide) (by decide) ?_
              refine z_aload_n X hl 1 rfl rfl dX1_takeBack_113 ?_
              refine gC_X1_lines X K h q_240 dX1_takeBack_114 ?_
              refine z_iload_n X hl 0 rfl rfl dX1_takeBack_117 ?_
              obtain ⟨a30, b31, hk32, hs33, hw⟩ := hw
              refine r_callVi (rest := []) X K g h (ct_X3_insert a30 b31 u0 z3 _ hw) lk_X1_56 3 rfl rfl ⟨rfl, rfl⟩ ⟨Nat.le_of_ble_eq_true rfl, Nat.le_of_ble_eq_true rfl⟩ rfl (lv_size hl) rfl (Nat.le_of_ble_eq_true rfl) dX1_takeBack_118 ⟨hk32, hs33⟩ (fun z29 w' H locs hp h => ?_)
              obtain ⟨u34, rfl, hw⟩ := hp
              refine z_pop X rfl dX1_takeBack_121 ?_
              refine z_goto (tgt := 154) X dX1_takeBack_122 (by decide) ?_
              refine z_aload_n X hl 1 rfl rfl dX1_takeBack_154 ?_
              refine gC_X1_history X K h q_242 dX1_takeBack_155 ?_
              refine r_callVv (rest := []) X K g h (ct_X2_forgetLatest u34 _ hw) lk_X1_85 2 rfl rfl ⟨rfl, rfl⟩ ⟨Nat.le_of_ble_eq_true rfl, Nat.le_of_ble_eq_true rfl⟩ rfl (lv_size hl) rfl (Nat.le_of_ble_eq_true rfl) dX1_takeBack_158 ⟨hk32, hs33⟩ (fun w' H locs hp h => ?_)
              obtain ⟨u35, rfl, hw⟩ := hp
              refine z_aload_n X hl 1 rfl rfl dX1_takeBack_161 ?_
              refine z_iconst X dX1_takeBack_162 ?_
              refine pC_X1_side X K h q_248 dX1_takeBack_163 (fun H locs h => ?_)
              refine z_aload_n X hl 1 rfl rfl dX1_takeBack_166 ?_
              refine gC_X1_history X K h q_242 dX1_takeBack_167 ?_
              refine gC_X2_kept (x := sI u35 7) X K h rfl q_229 dX1_takeBack_170 ?_
              exact r_iret X hr hlk K h hk32 hs33 dX1_takeBack_173 ⟨_, rfl, hw⟩
            · by_cases c46 : z4 = 5
              · replace hw := hw.2.2.2.2.2.1 c46
                refine z_top c46 ?_
                refine lv_tableIn (off := 98) (tgt := 125) X.1 X.2.1 dX1_takeBack_27 (by decide) (by decide) (by decide) (by decide) ?_
                refine z_aload_n X hl 1 rfl rfl dX1_takeBack_125 ?_
                refine gC_X1_lines X K h q_240 dX1_takeBack_126 ?_
                refine z_iload_n X hl 0 rfl rfl dX1_takeBack_129 ?_
                obtain ⟨a38, b39, hk40, hs41, hw⟩ := hw
                refine r_callVi (rest := []) X K g h (ct_X3_insert a38 b39 u0 z3 _ hw) lk_X1_56 3 rfl rfl ⟨rfl, rfl⟩ ⟨Nat.le_of_ble_eq_true rfl, Nat.le_of_ble_eq_true rfl⟩ rfl (lv_size hl) rfl (Nat.le_of_ble_eq_true rfl) dX1_takeBack_130 ⟨hk40, hs41⟩ (fun z37 w' H locs hp h => ?_)
                obtain ⟨u42, rfl, hw⟩ := hp
                refine z_pop X rfl dX1_takeBack_133 ?_
                refine z_aload_n X hl 1 rfl rfl dX1_takeBack_134 ?_
                refine gC_X1_lines X K h q_240 dX1_takeBack_135 ?_
                refine z_iconst X dX1_takeBack_138 ?_
                refine r_callVi (rest := []) X K g h (ct_X3_pass u42 1 _ hw) lk_X1_45 3 rfl rfl ⟨rfl, rfl⟩ ⟨Nat.le_of_ble_eq_true rfl, Nat.le_of_ble_eq_true rfl⟩ rfl (lv_size hl) rfl (Nat.le_of_ble_eq_true rfl) dX1_takeBack_139 ⟨hk40, hs41⟩ (fun z43 w' H locs hp h => ?_)
                obtain ⟨u44, rfl, hw⟩ := hp
                refine z_pop X rfl dX1_takeBack_142 ?_
                refine z_goto (tgt := 154) X dX1_takeBack_143 (by decide) ?_
                refine z_aload_n X hl 1 rfl rfl dX1_takeBack_154 ?_
                refine gC_X1_history X K h q_242 dX1_takeBack_155 ?_
                refine r_callVv (rest := []) X K g h (ct_X2_forgetLatest u44 _ hw) lk_X1_85 2 rfl rfl ⟨rfl, rfl⟩ ⟨Nat.le_of_ble_eq_true rfl, Nat.le_of_ble_eq_true rfl⟩ rfl (lv_size hl) rfl (Nat.le_of_ble_eq_true rfl) dX1_takeBack_158 ⟨hk40, hs41⟩ (fun w' H locs hp h => ?_)
                obtain ⟨u45, rfl, hw⟩ := hp
                refine z_aload_n X hl 1 rfl rfl dX1_takeBack_161 ?_
                refine z_iconst X dX1_takeBack_162 ?_
                refine pC_X1_side X K h q_248 dX1_takeBack_163 (fun H locs h => ?_)
                refine z_aload_n X hl 1 rfl rfl dX1_takeBack_166 ?_
                refine gC_X1_history X K h q_242 dX1_takeBack_167 ?_
                refine gC_X2_kept (x := sI u45 7) X K h rfl q_229 dX1_takeBack_170 ?_
                exact r_iret X hr hlk K h hk40 hs41 dX1_takeBack_173 ⟨_, rfl, hw⟩
              · replace hw := hw.2.2.2.2.2.2 (by omega)
                refine z_tableOut (tgt := 146) X h5 dX1_takeBack_27 (by decide) (Or.inl (by omega)) ?_
                refine z_aload_n X hl 1 rfl rfl dX1_takeBack_146 ?_
                refine gC_X1_lines X K h q_240 dX1_takeBack_147 ?_
                obtain ⟨a48, b49, hk50, hs51, hw⟩ := hw
                refine r_callVi (rest := []) X K g h (ct_X3_cross a48 b49 u0 _ hw) lk_X1_73 3 rfl rfl ⟨rfl, rfl⟩ ⟨Nat.le_of_ble_eq_true rfl, Nat.le_of_ble_eq_true rfl⟩ rfl (lv_size hl) rfl (Nat.le_of_ble_eq_true rfl) dX1_takeBack_150 ⟨hk50, hs51⟩ (fun z47 w' H locs hp h => ?_)
                obtain ⟨u52, rfl, hw⟩ := hp
                refine z_pop X rfl dX1_takeBack_153 ?_
                refine z_aload_n X hl 1 rfl rfl dX1_takeBack_154 ?_
                refine gC_X1_history X K h q_242 dX1_takeBack_155 ?_
                refine r_callVv (rest := []) X K g h (ct_X2_forgetLatest u52 _ hw) lk_X1_85 2 rfl rfl ⟨rfl, rfl⟩ ⟨Nat.le_of_ble_eq_true rfl, Nat.le_of_ble_eq_true rfl⟩ rfl (lv_size hl) rfl (Nat.le_of_ble_eq_true rfl) dX1_takeBack_158 ⟨hk50, hs51⟩ (fun w' H locs hp h => ?_)
                obtain ⟨u53, rfl, hw⟩ := hp
                refine z_aload_n X hl 1 rfl rfl dX1_takeBack_161 ?_
                refine z_iconst X dX1_takeBack_162 ?_
                refine pC_X1_side X K h q_248 dX1_takeBack_163 (fun H locs h => ?_)
                refine z_aload_n X hl 1 rfl rfl dX1_takeBack_166 ?_
                refine gC_X1_history X K h q_242 dX1_takeBack_167 ?_
                refine gC_X2_kept (x := sI u53 7) X K h rfl q_229 dX1_takeBack_170 ?_
                exact r_iret X hr hlk K h hk50 hs51 dX1_takeBack_173 ⟨_, rfl, hw⟩
  · replace hw := hw.2 c2
    refine z_iconst X dX1_takeBack_10 ?_
    exact r_iret X hr hlk K h (Nat.zero_le _) (Nat.zero_le _) dX1_takeBack_11 ⟨_, rfl, hw⟩
def w_X3_empty (post : St → Prop) (G : Gr) (u0 : St) : Prop :=
(w_X4_empty (fun  (u1 : St) => (w_X0_empty (fun  (u2 : St) => (w_X6_empty (fun  (u3 : St) => post u3) u2)) u1)) G u0)
abbrev rm_X3_empty : Room := { frames := 3, cells := 0, slots := 0, locals := 64 }
set_option maxRecDepth 100000 in
set_option maxHeartbeats 4000000 in
theorem ct_X3_empty {l : Launch} {G : Gr} {a : Nat → Nat} (u0 : St) (post : St → Prop) (hw : w_X3_empty post G u0) : CtV l G yX3_empty (ws_ yX3_empty cX3_empty 1 (none)) rm_X3_empty [.ref (a 3)] (WC G a u0) 0 0 (PoV (WC G a) post) := by
  refine CtV.of (by decide) (Nat.le_of_ble_eq_true rfl) ?_
  intro p e s m args below meth c ls X hr hlk K g h hl
  have hl : lv_has ls 1 [(0, .ref (a 3))] := hl
  obtain ⟨H, hH⟩ : ∃ H, H = s.heap := ⟨_, rfl⟩
  obtain ⟨locs, hL⟩ : ∃ L : List Loc, L = [] := ⟨_, rfl⟩
  replace h : HW G (va_A (WC G a u0) s.heap.size) s.heap (WC G a u0) H locs := by rw [hH, hL]; exact h
  suffices hg : W p l e rm_X3_empty s m args below meth c H locs 0 0 (EndV G (WC G a u0) (PoV (WC G a) post) args s 0 0 below) (F0 m 0 ls []) by rw [hH, hL] at hg; exact hg
  clear hH hL
  refine z_aload_n X hl 0 rfl rfl dX3_empty_0 ?_
  refine gC_X3_list X K h q_205 dX3_empty_1 ?_
  refine r_callVv (rest := []) X K g h (ct_X4_empty u0 _ hw) lk_X3_59 4 rfl rfl ⟨rfl, rfl⟩ ⟨Nat.le_of_ble_eq_true rfl, Nat.le_of_ble_eq_true rfl⟩ rfl (lv_size hl) rfl (Nat.le_of_ble_eq_true rfl) dX3_empty_4 ⟨Nat.le_of_ble_eq_true rfl, Nat.le_of_ble_eq_true rfl⟩ (fun w' H locs hp h => ?_)
  obtain ⟨u1, rfl, hw⟩ := hp
  refine z_aload_n X hl 0 rfl rfl dX3_empty_7 ?_
  refine gC_X3_chain X K h q_206 dX3_empty_8 ?_
  refine r_callVv (rest := []) X K g h (ct_X0_empty u1 _ hw) lk_X3_62 6 rfl rfl ⟨rfl, rfl⟩ ⟨Nat.le_of_ble_eq_true rfl, Nat.le_of_ble_eq_true rfl⟩ rfl (lv_size hl) rfl (Nat.le_of_ble_eq_true rfl) dX3_empty_11 ⟨Nat.le_of_ble_eq_true rfl, Nat.le_of_ble_eq_true rfl⟩ (fun w' H locs hp h => ?_)
  obtain ⟨u2, rfl, hw⟩ := hp
  refine z_aload_n X hl 0 rfl rfl dX3_empty_14 ?_
  refine gC_X3_rows X K h q_207 dX3_empty_15 ?_
  refine r_callVv (rest := []) X K g h (ct_X6_empty u2 _ hw) lk_X3_63 7 rfl rfl ⟨rfl, rfl⟩ ⟨Nat.le_of_ble_eq_true rfl, Nat.le_of_ble_eq_true rfl⟩ rfl (lv_size hl) rfl (Nat.le_of_ble_eq_true rfl) dX3_empty_18 ⟨Nat.le_of_ble_eq_true rfl, Nat.le_of_ble_eq_true rfl⟩ (fun w' H locs hp h => ?_)
  obtain ⟨u3, rfl, hw⟩ := hp
  exact r_vret X hr hlk K h (Nat.le_refl _) (Nat.le_refl _) dX3_empty_21 ⟨_, rfl, hw⟩
def w_X1_startAnew (post : St → Prop) (G : Gr) (u0 : St) : Prop :=
(w_X3_empty (fun  (u1 : St) => post (pI (pI u1 7 0) 5 0)) G u0)
abbrev rm_X1_startAnew : Room := { frames := 4, cells := 0, slots := 0, locals := 84 }
set_option maxRecDepth 100000 in
set_option maxHeartbeats 4000000 in
theorem ct_X1_startAnew {l : Launch} {G : Gr} {a : Nat → Nat} (u0 : St) (post : St → Prop) (hw : w_X1_startAnew post G u0) : CtV l G yX1_startAnew (ws_ yX1_startAnew cX1_startAnew 1 (none)) rm_X1_startAnew [.ref (a 1)] (WC G a u0) 0 0 (PoV (WC G a) post) := by
  refine CtV.of (by decide) (Nat.le_of_ble_eq_true rfl) ?_
  intro p e s m args below meth c ls X hr hlk K g h hl
  have hl : lv_has ls 1 [(0, .ref (a 1))] := hl
  obtain ⟨H, hH⟩ : ∃ H, H = s.heap := ⟨_, rfl⟩
  obtain ⟨locs, hL⟩ : ∃ L : List Loc, L = [] := ⟨_, rfl⟩
  replace h : HW G (va_A (WC G a u0) s.heap.size) s.heap (WC G a u0) H locs := by rw [hH, hL]; exact h
  suffices hg : W p l e rm_X1_startAnew s m args below meth c H locs 0 0 (EndV G (WC G a u0) (PoV (WC G a) post) args s 0 0 below) (F0 m 0 ls []) by rw [hH, hL] at hg; exact hg
  clear hH hL
  refine z_aload_n X hl 0 rfl rfl dX1_startAnew_0 ?_
  refine gC_X1_lines X K h q_240 dX1_startAnew_1 ?_
  refine r_callVv (rest := []) X K g h (ct_X3_empty u0 _ hw) lk_X1_88 3 rfl rfl ⟨rfl, rfl⟩ ⟨Nat.le_of_ble_eq_true rfl, Nat.le_of_ble_eq_true rfl⟩ rfl (lv_size hl) rfl (Nat.le_of_ble_eq_true rfl) dX1_startAnew_4 ⟨Nat.le_of_ble_eq_true rfl, Nat.le_of_ble_eq_true rfl⟩ (fun w' H locs hp h => ?_)
  obtain ⟨u1, rfl, hw⟩ := hp
  refine z_aload_n X hl 0 rfl rfl dX1_startAnew_7 ?_
  refine gC_X1_history X K h q_242 dX1_startAnew_8 ?_
  refine z_iconst X dX1_startAnew_11 ?_
  refine pC_X2_kept X K h q_229 dX1_startAnew_12 (fun H locs h => ?_)
  refine z_aload_n X hl 0 rfl rfl dX1_startAnew_15 ?_
  refine z_iconst X dX1_startAnew_16 ?_
  refine pC_X1_side X K h q_248 dX1_startAnew_17 (fun H locs h => ?_)
  exact r_vret X hr hlk K h (Nat.le_refl _) (Nat.le_refl _) dX1_startAnew_20 ⟨_, rfl, hw⟩
def b_X3_areListAndChainAlike_38 (post : Int → Prop) (G : Gr) (u9 : St) (K38 : Int → Prop) (x1_8 : Int) : Prop :=
(w_X4_length (fun (z10 : Int) => (InR x1_8) ∧ (InR z10) ∧ ((z10 ≤ x1_8 → post 1) ∧
 (¬ z10 ≤ x1_8 → (w_X4_wordOf (fun (z14 : Int) => (w_X0_wordOf (fun (z15 : Int) => (InR z14) ∧ (InR z15) ∧ ((z14 = z15 → K38 (x1_8 + 1)) ∧
 (¬ z14 = z15 → post 0))) u9 x1_8)) G u9 x1_8)))) u9)
def B_X3_areListAndChainAlike_38 (post : Int → Prop) (G : Gr) (u9 : St) : (Int → Prop) → Int → Prop := fun K t => b_X3_areListAndChainAlike_38 post G u9 K t
def w_X3_areListAndChainAlike (post : Int → Prop) (G : Gr) (u0 : St) : Prop :=
(w_X4_length (fun (z1 : Int) => (InR z1) ∧ (InR (sI u0 13)) ∧ ((¬ z1 = sI u0 13 → post 0) ∧
 (z1 = sI u0 13 → (InR (sI u0 9)) ∧ (InR (sI u0 12)) ∧ ((sI u0 9 = sI u0 12 → (∃ n : Nat, Lp (B_X3_areListAndChainAlike_38 post G u0) n 0)) ∧
 (¬ sI u0 9 = sI u0 12 → post 0))))) u0)
abbrev rm_X3_areListAndChainAlike : Room := { frames := 4, cells := 0, slots := 0, locals := 85 }
set_option maxRecDepth 100000 in
set_option maxHeartbeats 4000000 in
theorem ct_X3_areListAndChainAlike {l : Launch} {G : Gr} {a : Nat → Nat} (u0 : St) (post : Int → Prop) (hw : w_X3_areListAndChainAlike post G u0) : Ct l G yX3_areListAndChainAlike (ws_ yX3_areListAndChainAlike cX3_areListAndChainAlike 2 (some .boolean)) rm_X3_areListAndChainAlike [.ref (a 3)] (WC G a u0) 0 0 (PoP (WC G a u0) post) := by
  refine Ct.of (by decide) (Nat.le_of_ble_eq_true rfl) ?_
  intro p e s m args below meth c ls X hr hlk K g h hl
  have hl : lv_has ls 2 [(0, .ref (a 3))] := hl
  obtain ⟨H, hH⟩ : ∃ H, H = s.heap := ⟨_, rfl⟩
  obtain ⟨locs, hL⟩ : ∃ L : List Loc, L = [] := ⟨_, rfl⟩
  replace h : HW G (va_A (WC G a u0) s.heap.size) s.heap (WC G a u0) H locs := by rw [hH, hL]; exact h
  suffices hg : W p l e rm_X3_areListAndChainAlike s m args below meth c H locs 0 0 (EndI G (WC G a u0) (PoP (WC G a u0) post) args s 0 0 below) (F0 m 0 ls []) by rw [hH, hL] at hg; exact hg
  clear hH hL
  refine z_aload_n X hl 0 rfl rfl dX3_areListAndChainAlike_0 ?_
  refine gC_X3_list X K h q_205 dX3_areListAndChainAlike_1 ?_
  refine r_callVi (rest := []) X K g h (ct_X4_length u0 _ hw) lk_X3_82 4 rfl rfl ⟨rfl, rfl⟩ ⟨Nat.le_of_ble_eq_true rfl, Nat.le_of_ble_eq_true rfl⟩ rfl (lv_size hl) rfl (Nat.le_of_ble_eq_true rfl) dX3_areListAndChainAlike_4 ⟨Nat.le_of_ble_eq_true rfl, Nat.le_of_ble_eq_true rfl⟩ (fun z1 w' H locs hp h => ?_)
  obtain ⟨rfl, hw⟩ := hp
  refine z_aload_n X hl 0 rfl rfl dX3_areListAndChainAlike_7 ?_
  refine gC_X3_chain X K h q_206 dX3_areListAndChainAlike_8 ?_
  refine gC_X0_count (x := sI u0 13) X K h rfl q_177 dX3_areListAndChainAlike_11 ?_
  obtain ⟨h2, h3, hw⟩ := hw
  refine z_icmp_ne (tgt := 34) X h2 h3 dX3_areListAndChainAlike_14 (by decide) (fun c4 => ?_) (fun c4 => ?_)
  · replace hw := hw.1 c4
    refine z_iconst X dX3_areListAndChainAlike_34 ?_
    exact r_zret X hr hlk K h (Nat.le_refl _) (Nat.le_refl _) dX3_areListAndChainAlike_35 (by decide) ⟨rfl, hw⟩
  · replace hw := hw.2 c4
    refine z_aload_n X hl 0 rfl rfl dX3_areListAndChainAlike_17 ?_
    refine gC_X3_list X K h q_205 dX3_areListAndChainAlike_18 ?_
    refine gC_X4_caret (x := sI u0 9) X K h rfl q_143 dX3_areListAndChainAlike_21 ?_
    refine z_aload_n X hl 0 rfl rfl dX3_areListAndChainAlike_24 ?_
    refine gC_X3_chain X K h q_206 dX3_areListAndChainAlike_25 ?_
    refine gC_X0_caret (x := sI u0 12) X K h rfl q_175 dX3_areListAndChainAlike_28 ?_
    obtain ⟨h5, h6, hw⟩ := hw
    refine z_icmp_eq (tgt := 36) X h5 h6 dX3_areListAndChainAlike_31 (by decide) (fun c7 => ?_) (fun c7 => ?_)
    · replace hw := hw.1 c7
      refine z_iconst X dX3_areListAndChainAlike_36 ?_
      refine z_istore_n (i := 1) (lv' := [(1, zI 0), (0, .ref (a 3))]) X hl rfl (by decide) dX3_areListAndChainAlike_37 rfl (fun ls hl => ?_)
      obtain ⟨n38, hw⟩ := hw
      have key38 : ∀ (n : Nat) (t : Int) (H : Heap) (locs : List Loc) (ls : Array Slot), Lp (B_X3_areListAndChainAlike_38 post G u0) n t → HW G (va_A (WC G a u0) s.heap.size) s.heap (WC G a u0) H locs → lv_has ls 2 [(0, .ref (a 3)), (1, zI t)] → W p l e rm_X3_areListAndChainAlike s m args below meth c H locs 0 0 (EndI G (WC G a u0) (PoP (WC G a u0) post) args s 0 0 below) (F0 m 38 ls []) := by
        intro n
        induction n with
        | zero =>
          intro t H locs ls hw
          exact hw.elim
        | succ n38 ih38 =>
          intro x1_8 H locs ls hw h hl
          replace hw : b_X3_areListAndChainAlike_38 post G u0 (Lp (B_X3_areListAndChainAlike_38 post G u0) n38) x1_8 := hw
          refine z_iload_n X hl 1 rfl rfl dX3_areListAndChainAlike_38 ?_
          refine z_aload_n X hl 0 rfl rfl dX3_areListAndChainAlike_39 ?_
          refine gC_X3_list X K h q_205 dX3_areListAndChainAlike_40 ?_
          refine r_callVi (rest := [zI x1_8]) X K g h (ct_X4_length u0 _ hw) lk_X3_82 4 rfl rfl ⟨rfl, rfl⟩ ⟨Nat.le_of_ble_eq_true rfl, Nat.le_of_ble_eq_true rfl⟩ rfl (lv_size hl) rfl (Nat.le_of_ble_eq_true rfl) dX3_areListAndChainAlike_43 ⟨Nat.le_of_ble_eq_true rfl, Nat.le_of_ble_eq_true rfl⟩ (fun z10 w' H locs hp h => ?_)
          obtain ⟨rfl, hw⟩ := hp
          obtain ⟨h11, h12, hw⟩ := hw
          refine z_icmp_ge (tgt := 76) X h11 h12 dX3_areListAndChainAlike_46 (by decide) (fun c13 => ?_) (fun c13 => ?_)
          · replace hw := hw.1 c13
            refine z_iconst X dX3_areListAndChainAlike_76 ?_
            exact r_zret X hr hlk K h (Nat.le_refl _) (Nat.le_refl _) dX3_areListAndChainAlike_77 (by decide) ⟨rfl, hw⟩
          · replace hw := hw.2 c13
            refine z_aload_n X hl 0 rfl rfl dX3_areListAndChainAlike_49 ?_
            refine gC_X3_list X K h q_205 dX3_areListAndChainAlike_50 ?_
            refine z_iload_n X hl 1 rfl rfl dX3_areListAndChainAlike_53 ?_
            refine r_callVi (rest := []) X K g h (ct_X4_wordOf u0 x1_8 _ hw) lk_X3_90 4 rfl rfl ⟨rfl, rfl⟩ ⟨Nat.le_of_ble_eq_true rfl, Nat.le_of_ble_eq_true rfl⟩ rfl (lv_size hl) rfl (Nat.le_of_ble_eq_true rfl) dX3_areListAndChainAlike_54 ⟨Nat.le_of_ble_eq_true rfl, Nat.le_of_ble_eq_true rfl⟩ (fun z14 w' H locs hp h => ?_)
            obtain ⟨rfl, hw⟩ := hp
            refine z_aload_n X hl 0 rfl rfl dX3_areListAndChainAlike_57 ?_
            refine gC_X3_chain X K h q_206 dX3_areListAndChainAlike_58 ?_
            refine z_iload_n X hl 1 rfl rfl dX3_areListAndChainAlike_61 ?_
            refine r_callVi (rest := [zI z14]) X K g h (ct_X0_wordOf u0 x1_8 _ hw) lk_X3_91 6 rfl rfl ⟨rfl, rfl⟩ ⟨Nat.le_of_ble_eq_true rfl, Nat.le_of_ble_eq_true rfl⟩ rfl (lv_size hl) rfl (Nat.le_of_ble_eq_true rfl) dX3_areListAndChainAlike_62 ⟨Nat.le_of_ble_eq_true rfl, Nat.le_of_ble_eq_true rfl⟩ (fun z15 w' H locs hp h => ?_)
            obtain ⟨rfl, hw⟩ := hp
            obtain ⟨h16, h17, hw⟩ := hw
            refine z_icmp_eq (tgt := 70) X h16 h17 dX3_areListAndChainAlike_65 (by decide) (fun c18 => ?_) (fun c18 => ?_)
            · replace hw := hw.1 c18
              refine z_iinc (lv' := [(1, zI (x1_8 + 1)), (0, .ref (a 3))]) X hl 1 rfl (by decide) dX3_areListAndChainAlike_70 rfl (fun ls hl => ?_)
              refine z_goto (tgt := 38) X dX3_areListAndChainAlike_73 (by decide) ?_
              exact ih38 (x1_8 + 1) H locs ls hw h (lv_sub hl [1, 0] rfl)
            · replace hw := hw.2 c18
              refine z_iconst X dX3_areListAndChainAlike_68 ?_
              exact r_zret X hr hlk K h (Nat.le_refl _) (Nat.le_refl _) dX3_areListAndChainAlike_69 (by decide) ⟨rfl, hw⟩
      exact key38 n38 0 H locs ls hw h (lv_sub hl [1, 0] rfl)
    · replace hw := hw.2 c7
      refine z_iconst X dX3_areListAndChainAlike_34 ?_
      exact r_zret X hr hlk K h (Nat.le_refl _) (Nat.le_refl _) dX3_areListAndChainAlike_35 (by decide) ⟨rfl, hw⟩
