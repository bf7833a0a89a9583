/-! the rows, the history, the tape, the script: what each method needs, and its contract -/
def w_X2_keep (post : St → Prop) (u0 : St) (p1 : Int) (p2 : Int) : Prop :=
(InR ((sI u0 6) + 1)) ∧ (0 ≤ (sI u0 6) + 1) ∧ (0 ≤ ((sI u0 6) + 1) % 50) ∧ (((sI u0 6) + 1) % 50 < 50) ∧ (InR ((sI u0 7) + 1)) ∧ post (pI (pA (pA (pI u0 6 (((sI u0 6) + 1) % 50)) 1 (((sI u0 6) + 1) % 50) p1) 2 (((sI u0 6) + 1) % 50) p2) 7 (min ((sI u0 7) + 1) 50))
abbrev rm_X2_keep : Room := { frames := 1, cells := 0, slots := 0, locals := 21 }
set_option maxRecDepth 100000 in
set_option maxHeartbeats 4000000 in
theorem ct_X2_keep {l : Launch} {G : Gr} {a : Nat → Nat} (u0 : St) (p1 : Int) (p2 : Int) (post : St → Prop) (hw : w_X2_keep post u0 p1 p2) : CtV l G yX2_keep (ws_ yX2_keep cX2_keep 3 (none)) rm_X2_keep [.ref (a 2), zI p1, zI p2] (WC G a u0) 0 0 (PoV (WC G a) post) := by
  refine CtV.of (by decide) (Nat.le_of_ble_eq_true rfl) ?_
  intro p e s m args below meth c ls X hr hlk K g h hl
  have hl : lv_has ls 3 [(0, .ref (a 2)), (1, zI p1), (2, zI p2)] := hl
  obtain ⟨H, hH⟩ : ∃ H, H = s.heap := ⟨_, rfl⟩
  obtain ⟨locs, hL⟩ : ∃ L : List Loc, L = [] := ⟨_, rfl⟩
  replace h : HW G (va_A (WC G a u0) s.heap.size) s.heap (WC G a u0) H locs := by rw [hH, hL]; exact h
  suffices hg : W p l e rm_X2_keep s m args below meth c H locs 0 0 (EndV G (WC G a u0) (PoV (WC G a) post) args s 0 0 below) (F0 m 0 ls []) by rw [hH, hL] at hg; exact hg
  clear hH hL
  refine z_aload_n X hl 0 rfl rfl dX2_keep_0 ?_
  refine z_aload_n X hl 0 rfl rfl dX2_keep_1 ?_
  refine gC_X2_latest (x := sI u0 6) X K h rfl q_227 dX2_keep_2 ?_
  refine z_iconst X dX2_keep_5 ?_
  refine z_iadd X dX2_keep_6 ?_
  refine z_bipush (v := 50) X dX2_keep_7 (by decide) ?_
  obtain ⟨h1, h2, hw⟩ := hw
  refine z_irem X h1 (by decide) h2 (by decide) dX2_keep_9 ?_
  refine pC_X2_latest X K h q_227 dX2_keep_10 (fun H locs h => ?_)
  refine z_aload_n X hl 0 rfl rfl dX2_keep_13 ?_
  refine gC_X2_kinds X K h q_225 dX2_keep_14 ?_
  refine z_aload_n X hl 0 rfl rfl dX2_keep_17 ?_
  refine gC_X2_latest (x := ((sI u0 6) + 1) % 50) X K h rfl q_227 dX2_keep_18 ?_
  refine z_iload_n X hl 1 rfl rfl dX2_keep_21 ?_
  obtain ⟨h3, h4, hw⟩ := hw
  refine sC_1 X K h h3 h4 dX2_keep_22 (fun H locs h => ?_)
  refine z_aload_n X hl 0 rfl rfl dX2_keep_23 ?_
  refine gC_X2_numbers X K h q_226 dX2_keep_24 ?_
  refine z_aload_n X hl 0 rfl rfl dX2_keep_27 ?_
  refine gC_X2_latest (x := ((sI u0 6) + 1) % 50) X K h rfl q_227 dX2_keep_28 ?_
  refine z_iload_n X hl 2 rfl rfl dX2_keep_31 ?_
  refine sC_2 X K h h3 h4 dX2_keep_32 (fun H locs h => ?_)
  refine z_aload_n X hl 0 rfl rfl dX2_keep_33 ?_
  refine z_aload_n X hl 0 rfl rfl dX2_keep_34 ?_
  refine gC_X2_kept (x := sI u0 7) X K h rfl q_228 dX2_keep_35 ?_
  refine z_iconst X dX2_keep_38 ?_
  refine z_iadd X dX2_keep_39 ?_
  refine z_bipush (v := 50) X dX2_keep_40 (by decide) ?_
  obtain ⟨h5, hw⟩ := hw
  refine z_mmin X h5 (by decide) q_411 (lv_size hl) ⟨Nat.le_of_ble_eq_true rfl, Nat.le_of_ble_eq_true rfl⟩ ⟨Nat.le_of_ble_eq_true rfl, Nat.le_of_ble_eq_true rfl⟩ dX2_keep_42 ?_
  refine pC_X2_kept X K h q_228 dX2_keep_45 (fun H locs h => ?_)
  exact r_vret X hr hlk K h (Nat.le_refl _) (Nat.le_refl _) dX2_keep_48 ⟨_, rfl, hw⟩
def w_X2_latestKind (post : Int → Prop) (u0 : St) : Prop :=
(0 ≤ sI u0 6) ∧ (sI u0 6 < 50) ∧ post (sA u0 1 (sI u0 6))
abbrev rm_X2_latestKind : Room := { frames := 0, cells := 0, slots := 0, locals := 0 }
set_option maxRecDepth 100000 in
set_option maxHeartbeats 4000000 in
theorem ct_X2_latestKind {l : Launch} {G : Gr} {a : Nat → Nat} (u0 : St) (post : Int → Prop) (hw : w_X2_latestKind post u0) : Ct l G yX2_latestKind (ws_ yX2_latestKind cX2_latestKind 1 (some .int)) rm_X2_latestKind [.ref (a 2)] (WC G a u0) 0 0 (PoP (WC G a u0) post) := by
  refine Ct.of (by decide) (Nat.le_of_ble_eq_true rfl) ?_
  intro p e s m args below meth c ls X hr hlk K g h hl
  have hl : lv_has ls 1 [(0, .ref (a 2))] := hl
  obtain ⟨H, hH⟩ : ∃ H, H = s.heap := ⟨_, rfl⟩
  obtain ⟨locs, hL⟩ : ∃ L : List Loc, L = [] := ⟨_, rfl⟩
  replace h : HW G (va_A (WC G a u0) s.heap.size) s.heap (WC G a u0) H locs := by rw [hH, hL]; exact h
  suffices hg : W p l e rm_X2_latestKind s m args below meth c H locs 0 0 (EndI G (WC G a u0) (PoP (WC G a u0) post) args s 0 0 below) (F0 m 0 ls []) by rw [hH, hL] at hg; exact hg
  clear hH hL
  refine z_aload_n X hl 0 rfl rfl dX2_latestKind_0 ?_
  refine gC_X2_kinds X K h q_225 dX2_latestKind_1 ?_
  refine z_aload_n X hl 0 rfl rfl dX2_latestKind_4 ?_
  refine gC_X2_latest (x := sI u0 6) X K h rfl q_227 dX2_latestKind_5 ?_
  obtain ⟨h1, h2, hw⟩ := hw
  refine lC_1 (x := sA u0 1 (sI u0 6)) X K h h1 h2 rfl dX2_latestKind_8 ?_
  exact r_iret X hr hlk K h (Nat.le_refl _) (Nat.le_refl _) dX2_latestKind_9 ⟨rfl, hw⟩
def w_X2_latestNumber (post : Int → Prop) (u0 : St) : Prop :=
(0 ≤ sI u0 6) ∧ (sI u0 6 < 50) ∧ post (sA u0 2 (sI u0 6))
abbrev rm_X2_latestNumber : Room := { frames := 0, cells := 0, slots := 0, locals := 0 }
set_option maxRecDepth 100000 in
set_option maxHeartbeats 4000000 in
theorem ct_X2_latestNumber {l : Launch} {G : Gr} {a : Nat → Nat} (u0 : St) (post : Int → Prop) (hw : w_X2_latestNumber post u0) : Ct l G yX2_latestNumber (ws_ yX2_latestNumber cX2_latestNumber 1 (some .int)) rm_X2_latestNumber [.ref (a 2)] (WC G a u0) 0 0 (PoP (WC G a u0) post) := by
  refine Ct.of (by decide) (Nat.le_of_ble_eq_true rfl) ?_
  intro p e s m args below meth c ls X hr hlk K g h hl
  have hl : lv_has ls 1 [(0, .ref (a 2))] := hl
  obtain ⟨H, hH⟩ : ∃ H, H = s.heap := ⟨_, rfl⟩
  obtain ⟨locs, hL⟩ : ∃ L : List Loc, L = [] := ⟨_, rfl⟩
  replace h : HW G (va_A (WC G a u0) s.heap.size) s.heap (WC G a u0) H locs := by rw [hH, hL]; exact h
  suffices hg : W p l e rm_X2_latestNumber s m args below meth c H locs 0 0 (EndI G (WC G a u0) (PoP (WC G a u0) post) args s 0 0 below) (F0 m 0 ls []) by rw [hH, hL] at hg; exact hg
  clear hH hL
  refine z_aload_n X hl 0 rfl rfl dX2_latestNumber_0 ?_
  refine gC_X2_numbers X K h q_226 dX2_latestNumber_1 ?_
  refine z_aload_n X hl 0 rfl rfl dX2_latestNumber_4 ?_
  refine gC_X2_latest (x := sI u0 6) X K h rfl q_227 dX2_latestNumber_5 ?_
  obtain ⟨h1, h2, hw⟩ := hw
  refine lC_2 (x := sA u0 2 (sI u0 6)) X K h h1 h2 rfl dX2_latestNumber_8 ?_
  exact r_iret X hr hlk K h (Nat.le_refl _) (Nat.le_refl _) dX2_latestNumber_9 ⟨rfl, hw⟩
def w_X2_forgetLatest (post : St → Prop) (u0 : St) : Prop :=
(InR (((sI u0 6) + 50) - 1)) ∧ (0 ≤ ((sI u0 6) + 50) - 1) ∧ post (pI (pI u0 6 ((((sI u0 6) + 50) - 1) % 50)) 7 ((sI u0 7) - 1))
abbrev rm_X2_forgetLatest : Room := { frames := 0, cells := 0, slots := 0, locals := 0 }
set_option maxRecDepth 100000 in
set_option maxHeartbeats 4000000 in
theorem ct_X2_forgetLatest {l : Launch} {G : Gr} {a : Nat → Nat} (u0 : St) (post : St → Prop) (hw : w_X2_forgetLatest post u0) : CtV l G yX2_forgetLatest (ws_ yX2_forgetLatest cX2_forgetLatest 1 (none)) rm_X2_forgetLatest [.ref (a 2)] (WC G a u0) 0 0 (PoV (WC G a) post) := by
  refine CtV.of (by decide) (Nat.le_of_ble_eq_true rfl) ?_
  intro p e s m args below meth c ls X hr hlk K g h hl
  have hl : lv_has ls 1 [(0, .ref (a 2))] := hl
  obtain ⟨H, hH⟩ : ∃ H, H = s.heap := ⟨_, rfl⟩
  obtain ⟨locs, hL⟩ : ∃ L : List Loc, L = [] := ⟨_, rfl⟩
  replace h : HW G (va_A (WC G a u0) s.heap.size) s.heap (WC G a u0) H locs := by rw [hH, hL]; exact h
  suffices hg : W p l e rm_X2_forgetLatest s m args below meth c H locs 0 0 (EndV G (WC G a u0) (PoV (WC G a) post) args s 0 0 below) (F0 m 0 ls []) by rw [hH, hL] at hg; exact hg
  clear hH hL
  refine z_aload_n X hl 0 rfl rfl dX2_forgetLatest_0 ?_
  refine z_aload_n X hl 0 rfl rfl dX2_forgetLatest_1 ?_
  refine gC_X2_latest (x := sI u0 6) X K h rfl q_227 dX2_forgetLatest_2 ?_
  refine z_bipush (v := 50) X dX2_forgetLatest_5 (by decide) ?_
  refine z_iadd X dX2_forgetLatest_7 ?_
  refine z_iconst X dX2_forgetLatest_8 ?_
  refine z_isub X dX2_forgetLatest_9 ?_
  refine z_bipush (v := 50) X dX2_forgetLatest_10 (by decide) ?_
  obtain ⟨h1, h2, hw⟩ := hw
  refine z_irem X h1 (by decide) h2 (by decide) dX2_forgetLatest_12 ?_
  refine pC_X2_latest X K h q_227 dX2_forgetLatest_13 (fun H locs h => ?_)
  refine z_aload_n X hl 0 rfl rfl dX2_forgetLatest_16 ?_
  refine z_dup X rfl dX2_forgetLatest_17 ?_
  refine gC_X2_kept (x := sI u0 7) X K h rfl q_228 dX2_forgetLatest_18 ?_
  refine z_iconst X dX2_forgetLatest_21 ?_
  refine z_isub X dX2_forgetLatest_22 ?_
  refine pC_X2_kept X K h q_228 dX2_forgetLatest_23 (fun H locs h => ?_)
  exact r_vret X hr hlk K h (Nat.le_refl _) (Nat.le_refl _) dX2_forgetLatest_26 ⟨_, rfl, hw⟩
def w_X6_pass (post : Int → St → Prop) (u0 : St) (p1 : Int) : Prop :=
(InR p1) ∧ ((p1 = 0 → (InR (sA u0 5 1)) ∧ ((sA u0 5 1 < 1 → post (-2) u0) ∧
 (¬ sA u0 5 1 < 1 → (InR (sA u0 5 0)) ∧ ((sA u0 5 0 < 100 → (0 ≤ (sA u0 5 1) - 1) ∧ ((sA u0 5 1) - 1 < 100) ∧ (0 ≤ sA u0 5 0) ∧ (sA u0 5 0 < 100) ∧ post (sA u0 4 ((sA u0 5 1) - 1)) (pA (pA (pA u0 5 1 ((sA u0 5 1) - 1)) 3 (sA u0 5 0) (sA u0 4 ((sA u0 5 1) - 1))) 5 0 ((sA u0 5 0) + 1))) ∧
 (¬ sA u0 5 0 < 100 → post (-2) u0))))) ∧
 (¬ p1 = 0 → (InR (sA u0 5 0)) ∧ ((sA u0 5 0 < 1 → post (-2) u0) ∧
 (¬ sA u0 5 0 < 1 → (InR (sA u0 5 1)) ∧ ((sA u0 5 1 < 100 → (0 ≤ (sA u0 5 0) - 1) ∧ ((sA u0 5 0) - 1 < 100) ∧ (0 ≤ sA u0 5 1) ∧ (sA u0 5 1 < 100) ∧ post (sA u0 3 ((sA u0 5 0) - 1)) (pA (pA (pA u0 5 0 ((sA u0 5 0) - 1)) 4 (sA u0 5 1) (sA u0 3 ((sA u0 5 0) - 1))) 5 1 ((sA u0 5 1) + 1))) ∧
 (¬ sA u0 5 1 < 100 → post (-2) u0))))))
abbrev rm_X6_pass : Room := { frames := 0, cells := 0, slots := 0, locals := 0 }
set_option maxRecDepth 100000 in
set_option maxHeartbeats 4000000 in
theorem ct_X6_pass {l : Launch} {G : Gr} {a : Nat → Nat} (u0 : St) (p1 : Int) (post : Int → St → Prop) (hw : w_X6_pass post u0 p1) : Ct l G yX6_pass (ws_ yX6_pass cX6_pass 5 (some .int)) rm_X6_pass [.ref (a 7), zI p1] (WC G a u0) 0 0 (Po (WC G a) post) := by
  refine Ct.of (by decide) (Nat.le_of_ble_eq_true rfl) ?_
  intro p e s m args below meth c ls X hr hlk K g h hl
  have hl : lv_has ls 5 [(0, .ref (a 7)), (1, zI p1)] := hl
  obtain ⟨H, hH⟩ : ∃ H, H = s.heap := ⟨_, rfl⟩
  obtain ⟨locs, hL⟩ : ∃ L : List Loc, L = [] := ⟨_, rfl⟩
  replace h : HW G (va_A (WC G a u0) s.heap.size) s.heap (WC G a u0) H locs := by rw [hH, hL]; exact h
  suffices hg : W p l e rm_X6_pass s m args below meth c H locs 0 0 (EndI G (WC G a u0) (Po (WC G a) post) args s 0 0 below) (F0 m 0 ls []) by rw [hH, hL] at hg; exact hg
  clear hH hL
  refine z_iload_n X hl 1 rfl rfl dX6_pass_0 ?_
  obtain ⟨h1, hw⟩ := hw
  refine z_if_eq (tgt := 8) X h1 dX6_pass_1 (by decide) (fun c2 => ?_) (fun c2 => ?_)
  · replace hw := hw.1 c2
    refine z_iconst X dX6_pass_8 ?_
    refine z_istore_n (i := 2) (lv' := [(2, zI 1), (0, .ref (a 7)), (1, zI p1)]) X hl rfl (by decide) dX6_pass_9 rfl (fun ls hl => ?_)
    refine z_iload_n X hl 2 rfl rfl dX6_pass_10 ?_
    refine z_if_eq (tgt := 18) X h1 dX6_pass_11 (by decide) (fun _ => ?_) (fun c3 => absurd c3 (by omega))
    refine z_iconst X dX6_pass_18 ?_
    refine z_istore_n (i := 3) (lv' := [(3, zI 0), (2, zI 1), (0, .ref (a 7)), (1, zI p1)]) X hl rfl (by decide) dX6_pass_19 rfl (fun ls hl => ?_)
    refine z_aload_n X hl 2 rfl rfl dX6_pass_20 ?_
    refine gC_X6_counts X K h q_198 dX6_pass_21 ?_
    refine z_iload_n X hl 1 rfl rfl dX6_pass_24 ?_
    refine lC_5 (x := sA u0 5 1) X K h (by decide) (by decide) rfl dX6_pass_25 ?_
    refine z_iconst X dX6_pass_26 ?_
    obtain ⟨h4, hw⟩ := hw
    refine z_icmp_lt (tgt := 41) X h4 (by decide) dX6_pass_27 (by decide) (fun c5 => ?_) (fun c5 => ?_)
    · replace hw := hw.1 c5
      refine z_bipush (v := (-2)) X dX6_pass_41 (by decide) ?_
      exact r_iret X hr hlk K h (Nat.le_refl _) (Nat.le_refl _) dX6_pass_43 ⟨_, rfl, hw⟩
    · replace hw := hw.2 c5
      refine z_aload_n X hl 2 rfl rfl dX6_pass_30 ?_
      refine gC_X6_counts X K h q_198 dX6_pass_31 ?_
      refine z_iload_n X hl 0 rfl rfl dX6_pass_34 ?_
      refine lC_5 (x := sA u0 5 0) X K h (by decide) (by decide) rfl dX6_pass_35 ?_
      refine z_bipush (v := 100) X dX6_pass_36 (by decide) ?_
      obtain ⟨h6, hw⟩ := hw
      refine z_icmp_lt (tgt := 44) X h6 (by decide) dX6_pass_38 (by decide) (fun c7 => ?_) (fun c7 => ?_)
      · replace hw := hw.1 c7
        refine z_aload_n X hl 2 rfl rfl dX6_pass_44 ?_
        refine gC_X6_counts X K h q_198 dX6_pass_45 ?_
        refine z_iload_n X hl 1 rfl rfl dX6_pass_48 ?_
        refine z_dup2 X rfl rfl dX6_pass_49 ?_
        refine lC_5 (x := sA u0 5 1) X K h (by decide) (by decide) rfl dX6_pass_50 ?_
        refine z_iconst X dX6_pass_51 ?_
        refine z_isub X dX6_pass_52 ?_
        refine sC_5 X K h (by decide) (by decide) dX6_pass_53 (fun H locs h => ?_)
        refine z_aload_n X hl 2 rfl rfl dX6_pass_54 ?_
        refine gC_X6_rows X K h q_197 dX6_pass_55 ?_
        refine z_iload_n X hl 1 rfl rfl dX6_pass_58 ?_
        refine lC_rows X K h (by decide) dX6_pass_59 (fun c8 => absurd c8 (by decide)) (fun _ => ?_)
        refine z_aload_n X hl 2 rfl rfl dX6_pass_60 ?_
        refine gC_X6_counts X K h q_198 dX6_pass_61 ?_
        refine z_iload_n X hl 1 rfl rfl dX6_pass_64 ?_
        refine lC_5 (x := (sA u0 5 1) - 1) X K h (by decide) (by decide) rfl dX6_pass_65 ?_
        obtain ⟨h9, h10, hw⟩ := hw
        refine lC_4 (x := sA u0 4 ((sA u0 5 1) - 1)) X K h h9 h10 rfl dX6_pass_66 ?_
        refine z_istore (i := 4) (lv' := [(4, zI (sA u0 4 ((sA u0 5 1) - 1))), (3, zI 0), (2, zI 1), (0, .ref (a 7)), (1, zI p1)]) X hl (by decide) dX6_pass_67 rfl (fun ls hl => ?_)
        refine z_aload_n X hl 3 rfl rfl dX6_pass_69 ?_
        refine gC_X6_rows X K h q_197 dX6_pass_70 ?_
        refine z_iload_n X hl 1 rfl rfl dX6_pass_73 ?_
        refine lC_rows X K h (by decide) dX6_pass_74 (fun _ => ?_) (fun c11 => absurd c11 (by decide))
        refine z_aload_n X hl 3 rfl rfl dX6_pass_75 ?_
        refine gC_X6_counts X K h q_198 dX6_pass_76 ?_
        refine z_iload_n X hl 1 rfl rfl dX6_pass_79 ?_
        refine lC_5 (x := sA u0 5 0) X K h (by decide) (by decide) rfl dX6_pass_80 ?_
        refine z_iload X hl 0 rfl dX6_pass_81 ?_
        obtain ⟨h12, h13, hw⟩ := hw
        refine sC_3 X K h h12 h13 dX6_pass_83 (fun H locs h => ?_)
        refine z_aload_n X hl 3 rfl rfl dX6_pass_84 ?_
        refine gC_X6_counts X K h q_198 dX6_pass_85 ?_
        refine z_iload_n X hl 1 rfl rfl dX6_pass_88 ?_
        refine z_dup2 X rfl rfl dX6_pass_89 ?_
        refine lC_5 (x := sA u0 5 0) X K h (by decide) (by decide) rfl dX6_pass_90 ?_
        refine z_iconst X dX6_pass_91 ?_
        refine z_iadd X dX6_pass_92 ?_
        refine sC_5 X K h (by decide) (by decide) dX6_pass_93 (fun H locs h => ?_)
        refine z_iload X hl 0 rfl dX6_pass_94 ?_
        exact r_iret X hr hlk K h (Nat.le_refl _) (Nat.le_refl _) dX6_pass_96 ⟨_, rfl, hw⟩
      · replace hw := hw.2 c7
        refine z_bipush (v := (-2)) X dX6_pass_41 (by decide) ?_
        exact r_iret X hr hlk K h (Nat.le_refl _) (Nat.le_refl _) dX6_pass_43 ⟨_, rfl, hw⟩
  · replace hw := hw.2 c2
    refine z_iconst X dX6_pass_4 ?_
    refine z_goto (tgt := 9) X dX6_pass_5 (by decide) ?_
    refine z_istore_n (i := 2) (lv' := [(2, zI 0), (0, .ref (a 7)), (1, zI p1)]) X hl rfl (by decide) dX6_pass_9 rfl (fun ls hl => ?_)
    refine z_iload_n X hl 2 rfl rfl dX6_pass_10 ?_
    refine z_if_eq (tgt := 18) X h1 dX6_pass_11 (by decide) (fun c14 => absurd c14 (by omega)) (fun _ => ?_)
    refine z_iconst X dX6_pass_14 ?_
    refine z_goto (tgt := 19) X dX6_pass_15 (by decide) ?_
    refine z_istore_n (i := 3) (lv' := [(3, zI 1), (2, zI 0), (0, .ref (a 7)), (1, zI p1)]) X hl rfl (by decide) dX6_pass_19 rfl (fun ls hl => ?_)
    refine z_aload_n X hl 2 rfl rfl dX6_pass_20 ?_
    refine gC_X6_counts X K h q_198 dX6_pass_21 ?_
    refine z_iload_n X hl 1 rfl rfl dX6_pass_24 ?_
    refine lC_5 (x := sA u0 5 0) X K h (by decide) (by decide) rfl dX6_pass_25 ?_
    refine z_iconst X dX6_pass_26 ?_
    obtain ⟨h15, hw⟩ := hw
    refine z_icmp_lt (tgt := 41) X h15 (by decide) dX6_pass_27 (by decide) (fun c16 => ?_) (fun c16 => ?_)
    · replace hw := hw.1 c16
      refine z_bipush (v := (-2)) X dX6_pass_41 (by decide) ?_
      exact r_iret X hr hlk K h (Nat.le_refl _) (Nat.le_refl _) dX6_pass_43 ⟨_, rfl, hw⟩
    · replace hw := hw.2 c16
      refine z_aload_n X hl 2 rfl rfl dX6_pass_30 ?_
      refine gC_X6_counts X K h q_198 dX6_pass_31 ?_
      refine z_iload_n X hl 0 rfl rfl dX6_pass_34 ?_
      refine lC_5 (x := sA u0 5 1) X K h (by decide) (by decide) rfl dX6_pass_35 ?_
      refine z_bipush (v := 100) X dX6_pass_36 (by decide) ?_
      obtain ⟨h17, hw⟩ := hw
      refine z_icmp_lt (tgt := 44) X h17 (by decide) dX6_pass_38 (by decide) (fun c18 => ?_) (fun c18 => ?_)
      · replace hw := hw.1 c18
        refine z_aload_n X hl 2 rfl rfl dX6_pass_44 ?_
        refine gC_X6_counts X K h q_198 dX6_pass_45 ?_
        refine z_iload_n X hl 1 rfl rfl dX6_pass_48 ?_
        refine z_dup2 X rfl rfl dX6_pass_49 ?_
        refine lC_5 (x := sA u0 5 0) X K h (by decide) (by decide) rfl dX6_pass_50 ?_
        refine z_iconst X dX6_pass_51 ?_
        refine z_isub X dX6_pass_52 ?_
        refine sC_5 X K h (by decide) (by decide) dX6_pass_53 (fun H locs h => ?_)
        refine z_aload_n X hl 2 rfl rfl dX6_pass_54 ?_
        refine gC_X6_rows X K h q_197 dX6_pass_55 ?_
        refine z_iload_n X hl 1 rfl rfl dX6_pass_58 ?_
        refine lC_rows X K h (by decide) dX6_pass_59 (fun _ => ?_) (fun c19 => absurd c19 (by decide))
        refine z_aload_n X hl 2 rfl rfl dX6_pass_60 ?_
        refine gC_X6_counts X K h q_198 dX6_pass_61 ?_
        refine z_iload_n X hl 1 rfl rfl dX6_pass_64 ?_
        refine lC_5 (x := (sA u0 5 0) - 1) X K h (by decide) (by decide) rfl dX6_pass_65 ?_
        obtain ⟨h20, h21, hw⟩ := hw
        refine lC_3 (x := sA u0 3 ((sA u0 5 0) - 1)) X K h h20 h21 rfl dX6_pass_66 ?_
        refine z_istore (i := 4) (lv' := [(4, zI (sA u0 3 ((sA u0 5 0) - 1))), (3, zI 1), (2, zI 0), (0, .ref (a 7)), (1, zI p1)]) X hl (by decide) dX6_pass_67 rfl (fun ls hl => ?_)
        refine z_aload_n X hl 3 rfl rfl dX6_pass_69 ?_
        refine gC_X6_rows X K h q_197 dX6_pass_70 ?_
        refine z_iload_n X hl 1 rfl rfl dX6_pass_73 ?_
        refine lC_rows X K h (by decide) dX6_pass_74 (fun c22 => absurd c22 (by decide)) (fun _ => ?_)
        refine z_aload_n X hl 3 rfl rfl dX6_pass_75 ?_
        refine gC_X6_counts X K h q_198 dX6_pass_76 ?_
        refine z_iload_n X hl 1 rfl rfl dX6_pass_79 ?_
        refine lC_5 (x := sA u0 5 1) X K h (by decide) (by decide) rfl dX6_pass_80 ?_
        refine z_iload X hl 0 rfl dX6_pass_81 ?_
        obtain ⟨h23, h24, hw⟩ := hw
        refine sC_4 X K h h23 h24 dX6_pass_83 (fun H locs h => ?_)
        refine z_aload_n X hl 3 rfl rfl dX6_pass_84 ?_
        refine gC_X6_counts X K h q_198 dX6_pass_85 ?_
        refine z_iload_n X hl 1 rfl rfl dX6_pass_88 ?_
        refine z_dup2 X rfl rfl dX6_pass_89 ?_
        refine lC_5 (x := sA u0 5 1) X K h (by decide) (by decide) rfl dX6_pass_90 ?_
        refine z_iconst X dX6_pass_91 ?_
        refine z_iadd X dX6_pass_92 ?_
        refine sC_5 X K h (by decide) (by decide) dX6_pass_93 (fun H locs h => ?_)
        refine z_iload X hl 0 rfl dX6_pass_94 ?_
        exact r_iret X hr hlk K h (Nat.le_refl _) (Nat.le_refl _) dX6_pass_96 ⟨_, rfl, hw⟩
      · replace hw := hw.2 c18
        refine z_bipush (v := (-2)) X dX6_pass_41 (by decide) ?_
        exact r_iret X hr hlk K h (Nat.le_refl _) (Nat.le_refl _) dX6_pass_43 ⟨_, rfl, hw⟩
def w_X6_length (post : Int → Prop) (u0 : St) : Prop :=
post ((sA u0 5 0) + (sA u0 5 1))
abbrev rm_X6_length : Room := { frames := 0, cells := 0, slots := 0, locals := 0 }
set_option maxRecDepth 100000 in
set_option maxHeartbeats 4000000 in
theorem ct_X6_length {l : Launch} {G : Gr} {a : Nat → Nat} (u0 : St) (post : Int → Prop) (hw : w_X6_length post u0) : Ct l G yX6_length (ws_ yX6_length cX6_length 1 (some .int)) rm_X6_length [.ref (a 7)] (WC G a u0) 0 0 (PoP (WC G a u0) post) := by
  refine Ct.of (by decide) (Nat.le_of_ble_eq_true rfl) ?_
  intro p e s m args below meth c ls X hr hlk K g h hl
  have hl : lv_has ls 1 [(0, .ref (a 7))] := hl
  obtain ⟨H, hH⟩ : ∃ H, H = s.heap := ⟨_, rfl⟩
  obtain ⟨locs, hL⟩ : ∃ L : List Loc, L = [] := ⟨_, rfl⟩
  replace h : HW G (va_A (WC G a u0) s.heap.size) s.heap (WC G a u0) H locs := by rw [hH, hL]; exact h
  suffices hg : W p l e rm_X6_length s m args below meth c H locs 0 0 (EndI G (WC G a u0) (PoP (WC G a u0) post) args s 0 0 below) (F0 m 0 ls []) by rw [hH, hL] at hg; exact hg
  clear hH hL
  refine z_aload_n X hl 0 rfl rfl dX6_length_0 ?_
  refine gC_X6_counts X K h q_198 dX6_length_1 ?_
  refine z_iconst X dX6_length_4 ?_
  refine lC_5 (x := sA u0 5 0) X K h (by decide) (by decide) rfl dX6_length_5 ?_
  refine z_aload_n X hl 0 rfl rfl dX6_length_6 ?_
  refine gC_X6_counts X K h q_198 dX6_length_7 ?_
  refine z_iconst X dX6_length_10 ?_
  refine lC_5 (x := sA u0 5 1) X K h (by decide) (by decide) rfl dX6_length_11 ?_
  refine z_iadd X dX6_length_12 ?_
  exact r_iret X hr hlk K h (Nat.le_refl _) (Nat.le_refl _) dX6_length_13 ⟨rfl, hw⟩
def w_X6_insert (post : Int → St → Prop) (u0 : St) (p1 : Int) : Prop :=
(w_X6_length (fun (z1 : Int) => (InR z1) ∧ ((z1 < 100 → (0 ≤ sA u0 5 0) ∧ (sA u0 5 0 < 100) ∧ (w_X6_length (fun (z7 : Int) => post z7 (pA (pA u0 3 (sA u0 5 0) p1) 5 0 ((sA u0 5 0) + 1))) (pA (pA u0 3 (sA u0 5 0) p1) 5 0 ((sA u0 5 0) + 1)))) ∧
 (¬ z1 < 100 → post (-5) u0))) u0)
abbrev rm_X6_insert : Room := { frames := 1, cells := 0, slots := 0, locals := 20 }
set_option maxRecDepth 100000 in
set_option maxHeartbeats 4000000 in
theorem ct_X6_insert {l : Launch} {G : Gr} {a : Nat → Nat} (u0 : St) (p1 : Int) (post : Int → St → Prop) (hw : w_X6_insert post u0 p1) : Ct l G yX6_insert (ws_ yX6_insert cX6_insert 2 (some .int)) rm_X6_insert [.ref (a 7), zI p1] (WC G a u0) 0 0 (Po (WC G a) post) := by
  refine Ct.of (by decide) (Nat.le_of_ble_eq_true rfl) ?_
  intro p e s m args below meth c ls X hr hlk K g h hl
  have hl : lv_has ls 2 [(0, .ref (a 7)), (1, zI p1)] := hl
  obtain ⟨H, hH⟩ : ∃ H, H = s.heap := ⟨_, rfl⟩
  obtain ⟨locs, hL⟩ : ∃ L : List Loc, L = [] := ⟨_, rfl⟩
  replace h : HW G (va_A (WC G a u0) s.heap.size) s.heap (WC G a u0) H locs := by rw [hH, hL]; exact h
  suffices hg : W p l e rm_X6_insert s m args below meth c H locs 0 0 (EndI G (WC G a u0) (Po (WC G a) post) args s 0 0 below) (F0 m 0 ls []) by rw [hH, hL] at hg; exact hg
  clear hH hL
  refine z_aload_n X hl 0 rfl rfl dX6_insert_0 ?_
  refine r_callVi (rest := []) X K g h (ct_X6_length u0 _ hw) lk_X6_20 7 rfl rfl ⟨rfl, rfl⟩ ⟨Nat.le_of_ble_eq_true rfl, Nat.le_of_ble_eq_true rfl⟩ rfl (lv_size hl) rfl (Nat.le_of_ble_eq_true rfl) dX6_insert_1 ⟨Nat.le_of_ble_eq_true rfl, Nat.le_of_ble_eq_true rfl⟩ (fun z1 w' H locs hp h => ?_)
  obtain ⟨rfl, hw⟩ := hp
  refine z_bipush (v := 100) X dX6_insert_4 (by decide) ?_
  obtain ⟨h2, hw⟩ := hw
  refine z_icmp_lt (tgt := 12) X h2 (by decide) dX6_insert_6 (by decide) (fun c3 => ?_) (fun c3 => ?_)
  · replace hw := hw.1 c3
    refine z_aload_n X hl 0 rfl rfl dX6_insert_12 ?_
    refine gC_X6_rows X K h q_197 dX6_insert_13 ?_
    refine z_iconst X dX6_insert_16 ?_
    refine lC_rows X K h (by decide) dX6_insert_17 (fun _ => ?_) (fun c4 => absurd c4 (by decide))
    refine z_aload_n X hl 0 rfl rfl dX6_insert_18 ?_
    refine gC_X6_counts X K h q_198 dX6_insert_19 ?_
    refine z_iconst X dX6_insert_22 ?_
    refine lC_5 (x := sA u0 5 0) X K h (by decide) (by decide) rfl dX6_insert_23 ?_
    refine z_iload_n X hl 1 rfl rfl dX6_insert_24 ?_
    obtain ⟨h5, h6, hw⟩ := hw
    refine sC_3 X K h h5 h6 dX6_insert_25 (fun H locs h => ?_)
    refine z_aload_n X hl 0 rfl rfl dX6_insert_26 ?_
    refine gC_X6_counts X K h q_198 dX6_insert_27 ?_
    refine z_iconst X dX6_insert_30 ?_
    refine z_dup2 X rfl rfl dX6_insert_31 ?_
    refine lC_5 (x := sA u0 5 0) X K h (by decide) (by decide) rfl dX6_insert_32 ?_
    refine z_iconst X dX6_insert_33 ?_
    refine z_iadd X dX6_insert_34 ?_
    refine sC_5 X K h (by decide) (by decide) dX6_insert_35 (fun H locs h => ?_)
    refine z_aload_n X hl 0 rfl rfl dX6_insert_36 ?_
    refine r_callVi (rest := []) X K g h (ct_X6_length (pA (pA u0 3 (sA u0 5 0) p1) 5 0 ((sA u0 5 0) + 1)) _ hw) lk_X6_20 7 rfl rfl ⟨rfl, rfl⟩ ⟨Nat.le_of_ble_eq_true rfl, Nat.le_of_ble_eq_true rfl⟩ rfl (lv_size hl) rfl (Nat.le_of_ble_eq_true rfl) dX6_insert_37 ⟨Nat.le_of_ble_eq_true rfl, Nat.le_of_ble_eq_true rfl⟩ (fun z7 w' H locs hp h => ?_)
    obtain ⟨rfl, hw⟩ := hp
    exact r_iret X hr hlk K h (Nat.le_refl _) (Nat.le_refl _) dX6_insert_40 ⟨_, rfl, hw⟩
  · replace hw := hw.2 c3
    refine z_bipush (v := (-5)) X dX6_insert_9 (by decide) ?_
    exact r_iret X hr hlk K h (Nat.le_refl _) (Nat.le_refl _) dX6_insert_11 ⟨_, rfl, hw⟩
def w_X6_exchange (post : Int → St → Prop) (u0 : St) (p1 : Int) (p2 : Int) : Prop :=
(InR p2) ∧ ((p2 = 0 → (InR (sA u0 5 1)) ∧ ((1 ≤ sA u0 5 1 → (0 ≤ (sA u0 5 1) - 1) ∧ ((sA u0 5 1) - 1 < 100) ∧ post (sA u0 4 ((sA u0 5 1) - 1)) (pA u0 4 ((sA u0 5 1) - 1) p1)) ∧
 (¬ 1 ≤ sA u0 5 1 → post (-3) u0))) ∧
 (¬ p2 = 0 → (InR (sA u0 5 0)) ∧ ((1 ≤ sA u0 5 0 → (0 ≤ (sA u0 5 0) - 1) ∧ ((sA u0 5 0) - 1 < 100) ∧ post (sA u0 3 ((sA u0 5 0) - 1)) (pA u0 3 ((sA u0 5 0) - 1) p1)) ∧
 (¬ 1 ≤ sA u0 5 0 → post (-3) u0))))
abbrev rm_X6_exchange : Room := { frames := 0, cells := 0, slots := 0, locals := 0 }
set_option maxRecDepth 100000 in
set_option maxHeartbeats 4000000 in
theorem ct_X6_exchange {l : Launch} {G : Gr} {a : Nat → Nat} (u0 : St) (p1 : Int) (p2 : Int) (post : Int → St → Prop) (hw : w_X6_exchange post u0 p1 p2) : Ct l G yX6_exchange (ws_ yX6_exchange cX6_exchange 5 (some .int)) rm_X6_exchange [.ref (a 7), zI p1, zI p2] (WC G a u0) 0 0 (Po (WC G a) post) := by
  refine Ct.of (by decide) (Nat.le_of_ble_eq_true rfl) ?_
  intro p e s m args below meth c ls X hr hlk K g h hl
  have hl : lv_has ls 5 [(0, .ref (a 7)), (1, zI p1), (2, zI p2)] := hl
  obtain ⟨H, hH⟩ : ∃ H, H = s.heap := ⟨_, rfl⟩
  obtain ⟨locs, hL⟩ : ∃ L : List Loc, L = [] := ⟨_, rfl⟩
  replace h : HW G (va_A (WC G a u0) s.heap.size) s.heap (WC G a u0) H locs := by rw [hH, hL]; exact h
  suffices hg : W p l e rm_X6_exchange s m args below meth c H locs 0 0 (EndI G (WC G a u0) (Po (WC G a) post) args s 0 0 below) (F0 m 0 ls []) by rw [hH, hL] at hg; exact hg
  clear hH hL
  refine z_iload_n X hl 2 rfl rfl dX6_exchange_0 ?_
  obtain ⟨h1, hw⟩ := hw
  refine z_if_eq (tgt := 8) X h1 dX6_exchange_1 (by decide) (fun c2 => ?_) (fun c2 => ?_)
  · replace hw := hw.1 c2
    refine z_iconst X dX6_exchange_8 ?_
    refine z_istore_n (i := 3) (lv' := [(3, zI 1), (0, .ref (a 7)), (1, zI p1), (2, zI p2)]) X hl rfl (by decide) dX6_exchange_9 rfl (fun ls hl => ?_)
    refine z_aload_n X hl 1 rfl rfl dX6_exchange_10 ?_
    refine gC_X6_counts X K h q_198 dX6_exchange_11 ?_
    refine z_iload_n X hl 0 rfl rfl dX6_exchange_14 ?_
    refine lC_5 (x := sA u0 5 1) X K h (by decide) (by decide) rfl dX6_exchange_15 ?_
    refine z_iconst X dX6_exchange_16 ?_
    obtain ⟨h3, hw⟩ := hw
    refine z_icmp_ge (tgt := 23) X h3 (by decide) dX6_exchange_17 (by decide) (fun c4 => ?_) (fun c4 => ?_)
    · replace hw := hw.1 c4
      refine z_aload_n X hl 1 rfl rfl dX6_exchange_23 ?_
      refine gC_X6_rows X K h q_197 dX6_exchange_24 ?_
      refine z_iload_n X hl 0 rfl rfl dX6_exchange_27 ?_
      refine lC_rows X K h (by decide) dX6_exchange_28 (fun c5 => absurd c5 (by decide)) (fun _ => ?_)
      refine z_aload_n X hl 1 rfl rfl dX6_exchange_29 ?_
      refine gC_X6_counts X K h q_198 dX6_exchange_30 ?_
      refine z_iload_n X hl 0 rfl rfl dX6_exchange_33 ?_
      refine lC_5 (x := sA u0 5 1) X K h (by decide) (by decide) rfl dX6_exchange_34 ?_
      refine z_iconst X dX6_exchange_35 ?_
      refine z_isub X dX6_exchange_36 ?_
      obtain ⟨h6, h7, hw⟩ := hw
      refine lC_4 (x := sA u0 4 ((sA u0 5 1) - 1)) X K h h6 h7 rfl dX6_exchange_37 ?_
      refine z_istore (i := 4) (lv' := [(4, zI (sA u0 4 ((sA u0 5 1) - 1))), (3, zI 1), (0, .ref (a 7)), (1, zI p1), (2, zI p2)]) X hl (by decide) dX6_exchange_38 rfl (fun ls hl => ?_)
      refine z_aload_n X hl 2 rfl rfl dX6_exchange_40 ?_
      refine gC_X6_rows X K h q_197 dX6_exchange_41 ?_
      refine z_iload_n X hl 1 rfl rfl dX6_exchange_44 ?_
      refine lC_rows X K h (by decide) dX6_exchange_45 (fun c8 => absurd c8 (by decide)) (fun _ => ?_)
      refine z_aload_n X hl 2 rfl rfl dX6_exchange_46 ?_
      refine gC_X6_counts X K h q_198 dX6_exchange_47 ?_
      refine z_iload_n X hl 1 rfl rfl dX6_exchange_50 ?_
      refine lC_5 (x := sA u0 5 1) X K h (by decide) (by decide) rfl dX6_exchange_51 ?_
      refine z_iconst X dX6_exchange_52 ?_
      refine z_isub X dX6_exchange_53 ?_
      refine z_iload_n X hl 3 rfl rfl dX6_exchange_54 ?_
      refine sC_4 X K h h6 h7 dX6_exchange_55 (fun H locs h => ?_)
      refine z_iload X hl 0 rfl dX6_exchange_56 ?_
      exact r_iret X hr hlk K h (Nat.le_refl _) (Nat.le_refl _) dX6_exchange_58 ⟨_, rfl, hw⟩
    · replace hw := hw.2 c4
      refine z_bipush (v := (-3)) X dX6_exchange_20 (by decide) ?_
      exact r_iret X hr hlk K h (Nat.le_refl _) (Nat.le_refl _) dX6_exchange_22 ⟨_, rfl, hw⟩
  · replace hw := hw.2 c2
    refine z_iconst X dX6_exchange_4 ?_
    refine z_goto (tgt := 9) X dX6_exchange_5 (by decide) ?_
    refine z_istore_n (i := 3) (lv' := [(3, zI 0), (0, .ref (a 7)), (1, zI p1), (2, zI p2)]) X hl rfl (by decide) dX6_exchange_9 rfl (fun ls hl => ?_)
    refine z_aload_n X hl 1 rfl rfl dX6_exchange_10 ?_
    refine gC_X6_counts X K h q_198 dX6_exchange_11 ?_
    refine z_iload_n X hl 0 rfl rfl dX6_exchange_14 ?_
    refine lC_5 (x := sA u0 5 0) X K h (by decide) (by decide) rfl dX6_exchange_15 ?_
    refine z_iconst X dX6_exchange_16 ?_
    obtain ⟨h9, hw⟩ := hw
    refine z_icmp_ge (tgt := 23) X h9 (by decide) dX6_exchange_17 (by decide) (fun c10 => ?_) (fun c10 => ?_)
    · replace hw := hw.1 c10
      refine z_aload_n X hl 1 rfl rfl dX6_exchange_23 ?_
      refine gC_X6_rows X K h q_197 dX6_exchange_24 ?_
      refine z_iload_n X hl 0 rfl rfl dX6_exchange_27 ?_
      refine lC_rows X K h (by decide) dX6_exchange_28 (fun _ => ?_) (fun c11 => absurd c11 (by decide))
      refine z_aload_n X hl 1 rfl rfl dX6_exchange_29 ?_
      refine gC_X6_counts X K h q_198 dX6_exchange_30 ?_
      refine z_iload_n X hl 0 rfl rfl dX6_exchange_33 ?_
      refine lC_5 (x := sA u0 5 0) X K h (by decide) (by decide) rfl dX6_exchange_34 ?_
      refine z_iconst X dX6_exchange_35 ?_
      refine z_isub X dX6_exchange_36 ?_
      obtain ⟨h12, h13, hw⟩ := hw
      refine lC_3 (x := sA u0 3 ((sA u0 5 0) - 1)) X K h h12 h13 rfl dX6_exchange_37 ?_
      refine z_istore (i := 4) (lv' := [(4, zI (sA u0 3 ((sA u0 5 0) - 1))), (3, zI 0), (0, .ref (a 7)), (1, zI p1), (2, zI p2)]) X hl (by decide) dX6_exchange_38 rfl (fun ls hl => ?_)
      refine z_aload_n X hl 2 rfl rfl dX6_exchange_40 ?_
      refine gC_X6_rows X K h q_197 dX6_exchange_41 ?_
      refine z_iload_n X hl 1 rfl rfl dX6_exchange_44 ?_
      refine lC_rows X K h (by decide) dX6_exchange_45 (fun _ => ?_) (fun c14 => absurd c14 (by decide))
      refine z_aload_n X hl 2 rfl rfl dX6_exchange_46 ?_
      refine gC_X6_counts X K h q_198 dX6_exchange_47 ?_
      refine z_iload_n X hl 1 rfl rfl dX6_exchange_50 ?_
      refine lC_5 (x := sA u0 5 0) X K h (by decide) (by decide) rfl dX6_exchange_51 ?_
      refine z_iconst X dX6_exchange_52 ?_
      refine z_isub X dX6_exchange_53 ?_
      refine z_iload_n X hl 3 rfl rfl dX6_exchange_54 ?_
      refine sC_3 X K h h12 h13 dX6_exchange_55 (fun H locs h => ?_)
      refine z_iload X hl 0 rfl dX6_exchange_56 ?_
      exact r_iret X hr hlk K h (Nat.le_refl _) (Nat.le_refl _) dX6_exchange_58 ⟨_, rfl, hw⟩
    · replace hw := hw.2 c10
      refine z_bipush (v := (-3)) X dX6_exchange_20 (by decide) ?_
      exact r_iret X hr hlk K h (Nat.le_refl _) (Nat.le_refl _) dX6_exchange_22 ⟨_, rfl, hw⟩
def w_X6_drop (post : Int → St → Prop) (u0 : St) (p1 : Int) : Prop :=
(InR p1) ∧ ((p1 = 0 → (InR (sA u0 5 1)) ∧ ((1 ≤ sA u0 5 1 → (0 ≤ (sA u0 5 1) - 1) ∧ ((sA u0 5 1) - 1 < 100) ∧ post (sA u0 4 ((sA u0 5 1) - 1)) (pA u0 5 1 ((sA u0 5 1) - 1))) ∧
 (¬ 1 ≤ sA u0 5 1 → post (-3) u0))) ∧
 (¬ p1 = 0 → (InR (sA u0 5 0)) ∧ ((1 ≤ sA u0 5 0 → (0 ≤ (sA u0 5 0) - 1) ∧ ((sA u0 5 0) - 1 < 100) ∧ post (sA u0 3 ((sA u0 5 0) - 1)) (pA u0 5 0 ((sA u0 5 0) - 1))) ∧
 (¬ 1 ≤ sA u0 5 0 → post (-3) u0))))
abbrev rm_X6_drop : Room := { frames := 0, cells := 0, slots := 0, locals := 0 }
set_option maxRecDepth 100000 in
set_option maxHeartbeats 4000000 in
theorem ct_X6_drop {l : Launch} {G : Gr} {a : Nat → Nat} (u0 : St) (p1 : Int) (post : Int → St → Prop) (hw : w_X6_drop post u0 p1) : Ct l G yX6_drop (ws_ yX6_drop cX6_drop 3 (some .int)) rm_X6_drop [.ref (a 7), zI p1] (WC G a u0) 0 0 (Po (WC G a) post) := by
  refine Ct.of (by decide) (Nat.le_of_ble_eq_true rfl) ?_
  intro p e s m args below meth c ls X hr hlk K g h hl
  have hl : lv_has ls 3 [(0, .ref (a 7)), (1, zI p1)] := hl
  obtain ⟨H, hH⟩ : ∃ H, H = s.heap := ⟨_, rfl⟩
  obtain ⟨locs, hL⟩ : ∃ L : List Loc, L = [] := ⟨_, rfl⟩
  replace h : HW G (va_A (WC G a u0) s.heap.size) s.heap (WC G a u0) H locs := by rw [hH, hL]; exact h
  suffices hg : W p l e rm_X6_drop s m args below meth c H locs 0 0 (EndI G (WC G a u0) (Po (WC G a) post) args s 0 0 below) (F0 m 0 ls []) by rw [hH, hL] at hg; exact hg
  clear hH hL
  refine z_iload_n X hl 1 rfl rfl dX6_drop_0 ?_
  obtain ⟨h1, hw⟩ := hw
  refine z_if_eq (tgt := 8) X h1 dX6_drop_1 (by decide) (fun c2 => ?_) (fun c2 => ?_)
  · replace hw := hw.1 c2
    refine z_iconst X dX6_drop_8 ?_
    refine z_istore_n (i := 2) (lv' := [(2, zI 1), (0, .ref (a 7)), (1, zI p1)]) X hl rfl (by decide) dX6_drop_9 rfl (fun ls hl => ?_)
    refine z_aload_n X hl 1 rfl rfl dX6_drop_10 ?_
    refine gC_X6_counts X K h q_198 dX6_drop_11 ?_
    refine z_iload_n X hl 0 rfl rfl dX6_drop_14 ?_
    refine lC_5 (x := sA u0 5 1) X K h (by decide) (by decide) rfl dX6_drop_15 ?_
    refine z_iconst X dX6_drop_16 ?_
    obtain ⟨h3, hw⟩ := hw
    refine z_icmp_ge (tgt := 23) X h3 (by decide) dX6_drop_17 (by decide) (fun c4 => ?_) (fun c4 => ?_)
    · replace hw := hw.1 c4
      refine z_aload_n X hl 1 rfl rfl dX6_drop_23 ?_
      refine gC_X6_counts X K h q_198 dX6_drop_24 ?_
      refine z_iload_n X hl 0 rfl rfl dX6_drop_27 ?_
      refine z_dup2 X rfl rfl dX6_drop_28 ?_
      refine lC_5 (x := sA u0 5 1) X K h (by decide) (by decide) rfl dX6_drop_29 ?_
      refine z_iconst X dX6_drop_30 ?_
      refine z_isub X dX6_drop_31 ?_
      refine sC_5 X K h (by decide) (by decide) dX6_drop_32 (fun H locs h => ?_)
      refine z_aload_n X hl 1 rfl rfl dX6_drop_33 ?_
      refine gC_X6_rows X K h q_197 dX6_drop_34 ?_
      refine z_iload_n X hl 0 rfl rfl dX6_drop_37 ?_
      refine lC_rows X K h (by decide) dX6_drop_38 (fun c5 => absurd c5 (by decide)) (fun _ => ?_)
      refine z_aload_n X hl 1 rfl rfl dX6_drop_39 ?_
      refine gC_X6_counts X K h q_198 dX6_drop_40 ?_
      refine z_iload_n X hl 0 rfl rfl dX6_drop_43 ?_
      refine lC_5 (x := (sA u0 5 1) - 1) X K h (by decide) (by decide) rfl dX6_drop_44 ?_
      obtain ⟨h6, h7, hw⟩ := hw
      refine lC_4 (x := sA u0 4 ((sA u0 5 1) - 1)) X K h h6 h7 rfl dX6_drop_45 ?_
      exact r_iret X hr hlk K h (Nat.le_refl _) (Nat.le_refl _) dX6_drop_46 ⟨_, rfl, hw⟩
    · replace hw := hw.2 c4
      refine z_bipush (v := (-3)) X dX6_drop_20 (by decide) ?_
      exact r_iret X hr hlk K h (Nat.le_refl _) (Nat.le_refl _) dX6_drop_22 ⟨_, rfl, hw⟩
  · replace hw := hw.2 c2
    refine z_iconst X dX6_drop_4 ?_
    refine z_goto (tgt := 9) X dX6_drop_5 (by decide) ?_
    refine z_istore_n (i := 2) (lv' := [(2, zI 0), (0, .ref (a 7)), (1, zI p1)]) X hl rfl (by decide) dX6_drop_9 rfl (fun ls hl => ?_)
    refine z_aload_n X hl 1 rfl rfl dX6_drop_10 ?_
    refine gC_X6_counts X K h q_198 dX6_drop_11 ?_
    refine z_iload_n X hl 0 rfl rfl dX6_drop_14 ?_
    refine lC_5 (x := sA u0 5 0) X K h (by decide) (by decide) rfl dX6_drop_15 ?_
    refine z_iconst X dX6_drop_16 ?_
    obtain ⟨h8, hw⟩ := hw
    refine z_icmp_ge (tgt := 23) X h8 (by decide) dX6_drop_17 (by decide) (fun c9 => ?_) (fun c9 => ?_)
    · replace hw := hw.1 c9
      refine z_aload_n X hl 1 rfl rfl dX6_drop_23 ?_
      refine gC_X6_counts X K h q_198 dX6_drop_24 ?_
      refine z_iload_n X hl 0 rfl rfl dX6_drop_27 ?_
      refine z_dup2 X rfl rfl dX6_drop_28 ?_
      refine lC_5 (x := sA u0 5 0) X K h (by decide) (by decide) rfl dX6_drop_29 ?_
      refine z_iconst X dX6_drop_30 ?_
      refine z_isub X dX6_drop_31 ?_
      refine sC_5 X K h (by decide) (by decide) dX6_drop_32 (fun H locs h => ?_)
      refine z_aload_n X hl 1 rfl rfl dX6_drop_33 ?_
      refine gC_X6_rows X K h q_197 dX6_drop_34 ?_
      refine z_iload_n X hl 0 rfl rfl dX6_drop_37 ?_
      refine lC_rows X K h (by decide) dX6_drop_38 (fun _ => ?_) (fun c10 => absurd c10 (by decide))
      refine z_aload_n X hl 1 rfl rfl dX6_drop_39 ?_
      refine gC_X6_counts X K h q_198 dX6_drop_40 ?_
      refine z_iload_n X hl 0 rfl rfl dX6_drop_43 ?_
      refine lC_5 (x := (sA u0 5 0) - 1) X K h (by decide) (by decide) rfl dX6_drop_44 ?_
      obtain ⟨h11, h12, hw⟩ := hw
      refine lC_3 (x := sA u0 3 ((sA u0 5 0) - 1)) X K h h11 h12 rfl dX6_drop_45 ?_
      exact r_iret X hr hlk K h (Nat.le_refl _) (Nat.le_refl _) dX6_drop_46 ⟨_, rfl, hw⟩
    · replace hw := hw.2 c9
      refine z_bipush (v := (-3)) X dX6_drop_20 (by decide) ?_
      exact r_iret X hr hlk K h (Nat.le_refl _) (Nat.le_refl _) dX6_drop_22 ⟨_, rfl, hw⟩
def w_X6_cross (post : Int → St → Prop) (u0 : St) : Prop :=
(InR ((sA u0 5 0) - 1)) ∧ (((sA u0 5 0) - 1 < 0 → post (-2) u0) ∧
 (¬ (sA u0 5 0) - 1 < 0 → (InR ((sA u0 5 1) - 1)) ∧ ((0 ≤ (sA u0 5 1) - 1 → (0 ≤ (sA u0 5 1) - 1) ∧ ((sA u0 5 1) - 1 < 100) ∧ (0 ≤ (sA u0 5 0) - 1) ∧ ((sA u0 5 0) - 1 < 100) ∧ post (sA u0 4 ((sA u0 5 1) - 1)) (pA (pA u0 4 ((sA u0 5 1) - 1) (sA u0 3 ((sA u0 5 0) - 1))) 3 ((sA u0 5 0) - 1) (sA u0 4 ((sA u0 5 1) - 1)))) ∧
 (¬ 0 ≤ (sA u0 5 1) - 1 → post (-2) u0))))
abbrev rm_X6_cross : Room := { frames := 0, cells := 0, slots := 0, locals := 0 }
set_option maxRecDepth 100000 in
set_option maxHeartbeats 4000000 in
theorem ct_X6_cross {l : Launch} {G : Gr} {a : Nat → Nat} (u0 : St) (post : Int → St → Prop) (hw : w_X6_cross post u0) : Ct l G yX6_cross (ws_ yX6_cross cX6_cross 4 (some .int)) rm_X6_cross [.ref (a 7)] (WC G a u0) 0 0 (Po (WC G a) post) := by
  refine Ct.of (by decide) (Nat.le_of_ble_eq_true rfl) ?_
  intro p e s m args below meth c ls X hr hlk K g h hl
  have hl : lv_has ls 4 [(0, .ref (a 7))] := hl
  obtain ⟨H, hH⟩ : ∃ H, H = s.heap := ⟨_, rfl⟩
  obtain ⟨locs, hL⟩ : ∃ L : List Loc, L = [] := ⟨_, rfl⟩
  replace h : HW G (va_A (WC G a u0) s.heap.size) s.heap (WC G a u0) H locs := by rw [hH, hL]; exact h
  suffices hg : W p l e rm_X6_cross s m args below meth c H locs 0 0 (EndI G (WC G a u0) (Po (WC G a) post) args s 0 0 below) (F0 m 0 ls []) by rw [hH, hL] at hg; exact hg
  clear hH hL
  refine z_aload_n X hl 0 rfl rfl dX6_cross_0 ?_
  refine gC_X6_counts X K h q_198 dX6_cross_1 ?_
  refine z_iconst X dX6_cross_4 ?_
  refine lC_5 (x := sA u0 5 0) X K h (by decide) (by decide) rfl dX6_cross_5 ?_
  refine z_iconst X dX6_cross_6 ?_
  refine z_isub X dX6_cross_7 ?_
  refine z_istore_n (i := 1) (lv' := [(1, zI ((sA u0 5 0) - 1)), (0, .ref (a 7))]) X hl rfl (by decide) dX6_cross_8 rfl (fun ls hl => ?_)
  refine z_aload_n X hl 1 rfl rfl dX6_cross_9 ?_
  refine gC_X6_counts X K h q_198 dX6_cross_10 ?_
  refine z_iconst X dX6_cross_13 ?_
  refine lC_5 (x := sA u0 5 1) X K h (by decide) (by decide) rfl dX6_cross_14 ?_
  refine z_iconst X dX6_cross_15 ?_
  refine z_isub X dX6_cross_16 ?_
  refine z_istore_n (i := 2) (lv' := [(2, zI ((sA u0 5 1) - 1)), (1, zI ((sA u0 5 0) - 1)), (0, .ref (a 7))]) X hl rfl (by decide) dX6_cross_17 rfl (fun ls hl => ?_)
  refine z_iload_n X hl 1 rfl rfl dX6_cross_18 ?_
  obtain ⟨h1, hw⟩ := hw
  refine z_if_lt (tgt := 26) X h1 dX6_cross_19 (by decide) (fun c2 => ?_) (fun c2 => ?_)
  · replace hw := hw.1 c2
    refine z_bipush (v := (-2)) X dX6_cross_26 (by decide) ?_
    exact r_iret X hr hlk K h (Nat.le_refl _) (Nat.le_refl _) dX6_cross_28 ⟨_, rfl, hw⟩
  · replace hw := hw.2 c2
    refine z_iload_n X hl 0 rfl rfl dX6_cross_22 ?_
    obtain ⟨h3, hw⟩ := hw
    refine z_if_ge (tgt := 29) X h3 dX6_cross_23 (by decide) (fun c4 => ?_) (fun c4 => ?_)
    · replace hw := hw.1 c4
      refine z_aload_n X hl 2 rfl rfl dX6_cross_29 ?_
      refine gC_X6_rows X K h q_197 dX6_cross_30 ?_
      refine z_iconst X dX6_cross_33 ?_
      refine lC_rows X K h (by decide) dX6_cross_34 (fun c5 => absurd c5 (by decide)) (fun _ => ?_)
      refine z_iload_n X hl 0 rfl rfl dX6_cross_35 ?_
      obtain ⟨h6, h7, hw⟩ := hw
      refine lC_4 (x := sA u0 4 ((sA u0 5 1) - 1)) X K h h6 h7 rfl dX6_cross_36 ?_
      refine z_istore_n (i := 3) (lv' := [(3, zI (sA u0 4 ((sA u0 5 1) - 1))), (2, zI ((sA u0 5 1) - 1)), (1, zI ((sA u0 5 0) - 1)), (0, .ref (a 7))]) X hl rfl (by decide) dX6_cross_37 rfl (fun ls hl => ?_)
      refine z_aload_n X hl 3 rfl rfl dX6_cross_38 ?_
      refine gC_X6_rows X K h q_197 dX6_cross_39 ?_
      refine z_iconst X dX6_cross_42 ?_
      refine lC_rows X K h (by decide) dX6_cross_43 (fun c8 => absurd c8 (by decide)) (fun _ => ?_)
      refine z_iload_n X hl 1 rfl rfl dX6_cross_44 ?_
      refine z_aload_n X hl 3 rfl rfl dX6_cross_45 ?_
      refine gC_X6_rows X K h q_197 dX6_cross_46 ?_
      refine z_iconst X dX6_cross_49 ?_
      refine lC_rows X K h (by decide) dX6_cross_50 (fun _ => ?_) (fun c9 => absurd c9 (by decide))
      refine z_iload_n X hl 2 rfl rfl dX6_cross_51 ?_
      obtain ⟨h10, h11, hw⟩ := hw
      refine lC_3 (x := sA u0 3 ((sA u0 5 0) - 1)) X K h h10 h11 rfl dX6_cross_52 ?_
      refine sC_4 X K h h6 h7 dX6_cross_53 (fun H locs h => ?_)
      refine z_aload_n X hl 3 rfl rfl dX6_cross_54 ?_
      refine gC_X6_rows X K h q_197 dX6_cross_55 ?_
      refine z_iconst X dX6_cross_58 ?_
      refine lC_rows X K h (by decide) dX6_cross_59 (fun _ => ?_) (fun c12 => absurd c12 (by decide))
      refine z_iload_n X hl 2 rfl rfl dX6_cross_60 ?_
      refine z_iload_n X hl 0 rfl rfl dX6_cross_61 ?_
      refine sC_3 X K h h10 h11 dX6_cross_62 (fun H locs h => ?_)
      refine z_iload_n X hl 0 rfl rfl dX6_cross_63 ?_
      exact r_iret X hr hlk K h (Nat.le_refl _) (Nat.le_refl _) dX6_cross_64 ⟨_, rfl, hw⟩
    · replace hw := hw.2 c4
      refine z_bipush (v := (-2)) X dX6_cross_26 (by decide) ?_
      exact r_iret X hr hlk K h (Nat.le_refl _) (Nat.le_refl _) dX6_cross_28 ⟨_, rfl, hw⟩
def w_X6_empty (post : St → Prop) (u0 : St) : Prop :=
post (pA (pA u0 5 0 0) 5 1 0)
abbrev rm_X6_empty : Room := { frames := 0, cells := 0, slots := 0, locals := 0 }
set_option maxRecDepth 100000 in
set_option maxHeartbeats 4000000 in
theorem ct_X6_empty {l : Launch} {G : Gr} {a : Nat → Nat} (u0 : St) (post : St → Prop) (hw : w_X6_empty post u0) : CtV l G yX6_empty (ws_ yX6_empty cX6_empty 1 (none)) rm_X6_empty [.ref (a 7)] (WC G a u0) 0 0 (PoV (WC G a) post) := by
  refine CtV.of (by decide) (Nat.le_of_ble_eq_true rfl) ?_
  intro p e s m args below meth c ls X hr hlk K g h hl
  have hl : lv_has ls 1 [(0, .ref (a 7))] := hl
  obtain ⟨H, hH⟩ : ∃ H, H = s.heap := ⟨_, rfl⟩
  obtain ⟨locs, hL⟩ : ∃ L : List Loc, L = [] := ⟨_, rfl⟩
  replace h : HW G (va_A (WC G a u0) s.heap.size) s.heap (WC G a u0) H locs := by rw [hH, hL]; exact h
  suffices hg : W p l e rm_X6_empty s m args below meth c H locs 0 0 (EndV G (WC G a u0) (PoV (WC G a) post) args s 0 0 below) (F0 m 0 ls []) by rw [hH, hL] at hg; exact hg
  clear hH hL
  refine z_aload_n X hl 0 rfl rfl dX6_empty_0 ?_
  refine gC_X6_counts X K h q_198 dX6_empty_1 ?_
  refine z_iconst X dX6_empty_4 ?_
  refine z_iconst X dX6_empty_5 ?_
  refine sC_5 X K h (by decide) (by decide) dX6_empty_6 (fun H locs h => ?_)
  refine z_aload_n X hl 0 rfl rfl dX6_empty_7 ?_
  refine gC_X6_counts X K h q_198 dX6_empty_8 ?_
  refine z_iconst X dX6_empty_11 ?_
  refine z_iconst X dX6_empty_12 ?_
  refine sC_5 X K h (by decide) (by decide) dX6_empty_13 (fun H locs h => ?_)
  exact r_vret X hr hlk K h (Nat.le_refl _) (Nat.le_refl _) dX6_empty_14 ⟨_, rfl, hw⟩
def w_X6_caret (post : Int → Prop) (u0 : St) : Prop :=
post (sA u0 5 0)
abbrev rm_X6_caret : Room := { frames := 0, cells := 0, slots := 0, locals := 0 }
set_option maxRecDepth 100000 in
set_option maxHeartbeats 4000000 in
theorem ct_X6_caret {l : Launch} {G : Gr} {a : Nat → Nat} (u0 : St) (post : Int → Prop) (hw : w_X6_caret post u0) : Ct l G yX6_caret (ws_ yX6_caret cX6_caret 1 (some .int)) rm_X6_caret [.ref (a 7)] (WC G a u0) 0 0 (PoP (WC G a u0) post) := by
  refine Ct.of (by decide) (Nat.le_of_ble_eq_true rfl) ?_
  intro p e s m args below meth c ls X hr hlk K g h hl
  have hl : lv_has ls 1 [(0, .ref (a 7))] := hl
  obtain ⟨H, hH⟩ : ∃ H, H = s.heap := ⟨_, rfl⟩
  obtain ⟨locs, hL⟩ : ∃ L : List Loc, L = [] := ⟨_, rfl⟩
  replace h : HW G (va_A (WC G a u0) s.heap.size) s.heap (WC G a u0) H locs := by rw [hH, hL]; exact h
  suffices hg : W p l e rm_X6_caret s m args below meth c H locs 0 0 (EndI G (WC G a u0) (PoP (WC G a u0) post) args s 0 0 below) (F0 m 0 ls []) by rw [hH, hL] at hg; exact hg
  clear hH hL
  refine z_aload_n X hl 0 rfl rfl dX6_caret_0 ?_
  refine gC_X6_counts X K h q_198 dX6_caret_1 ?_
  refine z_iconst X dX6_caret_4 ?_
  refine lC_5 (x := sA u0 5 0) X K h (by decide) (by decide) rfl dX6_caret_5 ?_
  exact r_iret X hr hlk K h (Nat.le_refl _) (Nat.le_refl _) dX6_caret_6 ⟨rfl, hw⟩
def w_X6_wordOf (post : Int → Prop) (u0 : St) (p1 : Int) : Prop :=
(InR p1) ∧ ((p1 < 0 → post (-1)) ∧
 (¬ p1 < 0 → (InR ((((sA u0 5 0) + (sA u0 5 1)) - 1) - p1)) ∧ ((0 ≤ (((sA u0 5 0) + (sA u0 5 1)) - 1) - p1 → (InR (sA u0 5 0)) ∧ ((sA u0 5 0 ≤ p1 → (0 ≤ (((sA u0 5 0) + (sA u0 5 1)) - 1) - p1) ∧ ((((sA u0 5 0) + (sA u0 5 1)) - 1) - p1 < 100) ∧ post (sA u0 4 ((((sA u0 5 0) + (sA u0 5 1)) - 1) - p1))) ∧
 (¬ sA u0 5 0 ≤ p1 → (0 ≤ p1) ∧ (p1 < 100) ∧ post (sA u0 3 p1)))) ∧
 (¬ 0 ≤ (((sA u0 5 0) + (sA u0 5 1)) - 1) - p1 → post (-1)))))
abbrev rm_X6_wordOf : Room := { frames := 0, cells := 0, slots := 0, locals := 0 }
set_option maxRecDepth 100000 in
set_option maxHeartbeats 4000000 in
theorem ct_X6_wordOf {l : Launch} {G : Gr} {a : Nat → Nat} (u0 : St) (p1 : Int) (post : Int → Prop) (hw : w_X6_wordOf post u0 p1) : Ct l G yX6_wordOf (ws_ yX6_wordOf cX6_wordOf 3 (some .int)) rm_X6_wordOf [.ref (a 7), zI p1] (WC G a u0) 0 0 (PoP (WC G a u0) post) := by
  refine Ct.of (by decide) (Nat.le_of_ble_eq_true rfl) ?_
  intro p e s m args below meth c ls X hr hlk K g h hl
  have hl : lv_has ls 3 [(0, .ref (a 7)), (1, zI p1)] := hl
  obtain ⟨H, hH⟩ : ∃ H, H = s.heap := ⟨_, rfl⟩
  obtain ⟨locs, hL⟩ : ∃ L : List Loc, L = [] := ⟨_, rfl⟩
  replace h : HW G (va_A (WC G a u0) s.heap.size) s.heap (WC G a u0) H locs := by rw [hH, hL]; exact h
  suffices hg : W p l e rm_X6_wordOf s m args below meth c H locs 0 0 (EndI G (WC G a u0) (PoP (WC G a u0) post) args s 0 0 below) (F0 m 0 ls []) by rw [hH, hL] at hg; exact hg
  clear hH hL
  refine z_aload_n X hl 0 rfl rfl dX6_wordOf_0 ?_
  refine gC_X6_counts X K h q_198 dX6_wordOf_1 ?_
  refine z_iconst X dX6_wordOf_4 ?_
  refine lC_5 (x := sA u0 5 0) X K h (by decide) (by decide) rfl dX6_wordOf_5 ?_
  refine z_aload_n X hl 0 rfl rfl dX6_wordOf_6 ?_
  refine gC_X6_counts X K h q_198 dX6_wordOf_7 ?_
  refine z_iconst X dX6_wordOf_10 ?_
  refine lC_5 (x := sA u0 5 1) X K h (by decide) (by decide) rfl dX6_wordOf_11 ?_
  refine z_iadd X dX6_wordOf_12 ?_
  refine z_iconst X dX6_wordOf_13 ?_
  refine z_isub X dX6_wordOf_14 ?_
  refine z_iload_n X hl 1 rfl rfl dX6_wordOf_15 ?_
  refine z_isub X dX6_wordOf_16 ?_
  refine z_istore_n (i := 2) (lv' := [(2, zI ((((sA u0 5 0) + (sA u0 5 1)) - 1) - p1)), (0, .ref (a 7)), (1, zI p1)]) X hl rfl (by decide) dX6_wordOf_17 rfl (fun ls hl => ?_)
  refine z_iload_n X hl 2 rfl rfl dX6_wordOf_18 ?_
  obtain ⟨h1, hw⟩ := hw
  refine z_if_lt (tgt := 26) X h1 dX6_wordOf_19 (by decide) (fun c2 => ?_) (fun c2 => ?_)
  · replace hw := hw.1 c2
    refine z_iconst X dX6_wordOf_26 ?_
    exact r_iret X hr hlk K h (Nat.le_refl _) (Nat.le_refl _) dX6_wordOf_27 ⟨rfl, hw⟩
  · replace hw := hw.2 c2
    refine z_iload_n X hl 0 rfl rfl dX6_wordOf_22 ?_
    obtain ⟨h3, hw⟩ := hw
    refine z_if_ge (tgt := 28) X h3 dX6_wordOf_23 (by decide) (fun c4 => ?_) (fun c4 => ?_)
    · replace hw := hw.1 c4
      refine z_iload_n X hl 2 rfl rfl dX6_wordOf_28 ?_
      refine z_aload_n X hl 1 rfl rfl dX6_wordOf_29 ?_
      refine gC_X6_counts X K h q_198 dX6_wordOf_30 ?_
      refine z_iconst X dX6_wordOf_33 ?_
      refine lC_5 (x := sA u0 5 0) X K h (by decide) (by decide) rfl dX6_wordOf_34 ?_
      obtain ⟨h5, hw⟩ := hw
      refine z_icmp_ge (tgt := 49) X h1 h5 dX6_wordOf_35 (by decide) (fun c6 => ?_) (fun c6 => ?_)
      · replace hw := hw.1 c6
        refine z_aload_n X hl 1 rfl rfl dX6_wordOf_49 ?_
        refine gC_X6_rows X K h q_197 dX6_wordOf_50 ?_
        refine z_iconst X dX6_wordOf_53 ?_
        refine lC_rows X K h (by decide) dX6_wordOf_54 (fun c7 => absurd c7 (by decide)) (fun _ => ?_)
        refine z_iload_n X hl 0 rfl rfl dX6_wordOf_55 ?_
        obtain ⟨h8, h9, hw⟩ := hw
        refine lC_4 (x := sA u0 4 ((((sA u0 5 0) + (sA u0 5 1)) - 1) - p1)) X K h h8 h9 rfl dX6_wordOf_56 ?_
        exact r_iret X hr hlk K h (Nat.le_refl _) (Nat.le_refl _) dX6_wordOf_57 ⟨rfl, hw⟩
      · replace hw := hw.2 c6
        refine z_aload_n X hl 1 rfl rfl dX6_wordOf_38 ?_
        refine gC_X6_rows X K h q_197 dX6_wordOf_39 ?_
        refine z_iconst X dX6_wordOf_42 ?_
        refine lC_rows X K h (by decide) dX6_wordOf_43 (fun _ => ?_) (fun c10 => absurd c10 (by decide))
        refine z_iload_n X hl 2 rfl rfl dX6_wordOf_44 ?_
        obtain ⟨h11, h12, hw⟩ := hw
        refine lC_3 (x := sA u0 3 p1) X K h h11 h12 rfl dX6_wordOf_45 ?_
        refine z_goto (tgt := 57) X dX6_wordOf_46 (by decide) ?_
        exact r_iret X hr hlk K h (Nat.le_refl _) (Nat.le_refl _) dX6_wordOf_57 ⟨rfl, hw⟩
    · replace hw := hw.2 c4
      refine z_iconst X dX6_wordOf_26 ?_
      exact r_iret X hr hlk K h (Nat.le_refl _) (Nat.le_refl _) dX6_wordOf_27 ⟨rfl, hw⟩
def w_X7_kindOf (post : Int → Prop) (u0 : St) (p1 : Int) : Prop :=
(InR p1) ∧ ((p1 < 0 → post 0) ∧
 (¬ p1 < 0 → (InR (sI u0 16)) ∧ ((sI u0 16 ≤ p1 → post 0) ∧
 (¬ sI u0 16 ≤ p1 → (0 ≤ p1) ∧ (p1 < 300) ∧ post (sA u0 7 p1)))))
abbrev rm_X7_kindOf : Room := { frames := 0, cells := 0, slots := 0, locals := 0 }
set_option maxRecDepth 100000 in
set_option maxHeartbeats 4000000 in
theorem ct_X7_kindOf {l : Launch} {G : Gr} {a : Nat → Nat} (u0 : St) (p1 : Int) (post : Int → Prop) (hw : w_X7_kindOf post u0 p1) : Ct l G yX7_kindOf (ws_ yX7_kindOf cX7_kindOf 2 (some .int)) rm_X7_kindOf [.ref (a 9), zI p1] (WC G a u0) 0 0 (PoP (WC G a u0) post) := by
  refine Ct.of (by decide) (Nat.le_of_ble_eq_true rfl) ?_
  intro p e s m args below meth c ls X hr hlk K g h hl
  have hl : lv_has ls 2 [(0, .ref (a 9)), (1, zI p1)] := hl
  obtain ⟨H, hH⟩ : ∃ H, H = s.heap := ⟨_, rfl⟩
  obtain ⟨locs, hL⟩ : ∃ L : List Loc, L = [] := ⟨_, rfl⟩
  replace h : HW G (va_A (WC G a u0) s.heap.size) s.heap (WC G a u0) H locs := by rw [hH, hL]; exact h
  suffices hg : W p l e rm_X7_kindOf s m args below meth c H locs 0 0 (EndI G (WC G a u0) (PoP (WC G a u0) post) args s 0 0 below) (F0 m 0 ls []) by rw [hH, hL] at hg; exact hg
  clear hH hL
  refine z_iload_n X hl 1 rfl rfl dX7_kindOf_0 ?_
  obtain ⟨h1, hw⟩ := hw
  refine z_if_lt (tgt := 21) X h1 dX7_kindOf_1 (by decide) (fun c2 => ?_) (fun c2 => ?_)
  · replace hw := hw.1 c2
    refine z_iconst X dX7_kindOf_21 ?_
    exact r_iret X hr hlk K h (Nat.le_refl _) (Nat.le_refl _) dX7_kindOf_22 ⟨rfl, hw⟩
  · replace hw := hw.2 c2
    refine z_iload_n X hl 1 rfl rfl dX7_kindOf_4 ?_
    refine z_aload_n X hl 0 rfl rfl dX7_kindOf_5 ?_
    refine gC_X7_count (x := sI u0 16) X K h rfl q_289 dX7_kindOf_6 ?_
    obtain ⟨h3, hw⟩ := hw
    refine z_icmp_ge (tgt := 21) X h1 h3 dX7_kindOf_9 (by decide) (fun c4 => ?_) (fun c4 => ?_)
    · replace hw := hw.1 c4
      refine z_iconst X dX7_kindOf_21 ?_
      exact r_iret X hr hlk K h (Nat.le_refl _) (Nat.le_refl _) dX7_kindOf_22 ⟨rfl, hw⟩
    · replace hw := hw.2 c4
      refine z_aload_n X hl 0 rfl rfl dX7_kindOf_12 ?_
      refine gC_X7_kinds X K h q_283 dX7_kindOf_13 ?_
      refine z_iload_n X hl 1 rfl rfl dX7_kindOf_16 ?_
      obtain ⟨h5, h6, hw⟩ := hw
      refine lC_7 (x := sA u0 7 p1) X K h h5 h6 rfl dX7_kindOf_17 ?_
      refine z_goto (tgt := 22) X dX7_kindOf_18 (by decide) ?_
      exact r_iret X hr hlk K h (Nat.le_refl _) (Nat.le_refl _) dX7_kindOf_22 ⟨rfl, hw⟩
def w_X7_numberOf (post : Int → Prop) (u0 : St) (p1 : Int) : Prop :=
(InR p1) ∧ ((p1 < 0 → post 0) ∧
 (¬ p1 < 0 → (InR (sI u0 16)) ∧ ((sI u0 16 ≤ p1 → post 0) ∧
 (¬ sI u0 16 ≤ p1 → (0 ≤ p1) ∧ (p1 < 300) ∧ post (sA u0 8 p1)))))
abbrev rm_X7_numberOf : Room := { frames := 0, cells := 0, slots := 0, locals := 0 }
set_option maxRecDepth 100000 in
set_option maxHeartbeats 4000000 in
theorem ct_X7_numberOf {l : Launch} {G : Gr} {a : Nat → Nat} (u0 : St) (p1 : Int) (post : Int → Prop) (hw : w_X7_numberOf post u0 p1) : Ct l G yX7_numberOf (ws_ yX7_numberOf cX7_numberOf 2 (some .int)) rm_X7_numberOf [.ref (a 9), zI p1] (WC G a u0) 0 0 (PoP (WC G a u0) post) := by
  refine Ct.of (by decide) (Nat.le_of_ble_eq_true rfl) ?_
  intro p e s m args below meth c ls X hr hlk K g h hl
  have hl : lv_has ls 2 [(0, .ref (a 9)), (1, zI p1)] := hl
  obtain ⟨H, hH⟩ : ∃ H, H = s.heap := ⟨_, rfl⟩
  obtain ⟨locs, hL⟩ : ∃ L : List Loc, L = [] := ⟨_, rfl⟩
  replace h : HW G (va_A (WC G a u0) s.heap.size) s.heap (WC G a u0) H locs := by rw [hH, hL]; exact h
  suffices hg : W p l e rm_X7_numberOf s m args below meth c H locs 0 0 (EndI G (WC G a u0) (PoP (WC G a u0) post) args s 0 0 below) (F0 m 0 ls []) by rw [hH, hL] at hg; exact hg
  clear hH hL
  refine z_iload_n X hl 1 rfl rfl dX7_numberOf_0 ?_
  obtain ⟨h1, hw⟩ := hw
  refine z_if_lt (tgt := 21) X h1 dX7_numberOf_1 (by decide) (fun c2 => ?_) (fun c2 => ?_)
  · replace hw := hw.1 c2
    refine z_iconst X dX7_numberOf_21 ?_
    exact r_iret X hr hlk K h (Nat.le_refl _) (Nat.le_refl _) dX7_numberOf_22 ⟨rfl, hw⟩
  · replace hw := hw.2 c2
    refine z_iload_n X hl 1 rfl rfl dX7_numberOf_4 ?_
    refine z_aload_n X hl 0 rfl rfl dX7_numberOf_5 ?_
    refine gC_X7_count (x := sI u0 16) X K h rfl q_289 dX7_numberOf_6 ?_
    obtain ⟨h3, hw⟩ := hw
    refine z_icmp_ge (tgt := 21) X h1 h3 dX7_numberOf_9 (by decide) (fun c4 => ?_) (fun c4 => ?_)
    · replace hw := hw.1 c4
      refine z_iconst X dX7_numberOf_21 ?_
      exact r_iret X hr hlk K h (Nat.le_refl _) (Nat.le_refl _) dX7_numberOf_22 ⟨rfl, hw⟩
    · replace hw := hw.2 c4
      refine z_aload_n X hl 0 rfl rfl dX7_numberOf_12 ?_
      refine gC_X7_numbers X K h q_284 dX7_numberOf_13 ?_
      refine z_iload_n X hl 1 rfl rfl dX7_numberOf_16 ?_
      obtain ⟨h5, h6, hw⟩ := hw
      refine lC_8 (x := sA u0 8 p1) X K h h5 h6 rfl dX7_numberOf_17 ?_
      refine z_goto (tgt := 22) X dX7_numberOf_18 (by decide) ?_
      exact r_iret X hr hlk K h (Nat.le_refl _) (Nat.le_refl _) dX7_numberOf_22 ⟨rfl, hw⟩
def w_X7_endOf (post : Int → Prop) (u0 : St) (p1 : Int) : Prop :=
(InR p1) ∧ ((p1 < 0 → post 0) ∧
 (¬ p1 < 0 → (InR (sI u0 16)) ∧ ((sI u0 16 ≤ p1 → post 0) ∧
 (¬ sI u0 16 ≤ p1 → (0 ≤ p1) ∧ (p1 < 300) ∧ post (sA u0 10 p1)))))
abbrev rm_X7_endOf : Room := { frames := 0, cells := 0, slots := 0, locals := 0 }
set_option maxRecDepth 100000 in
set_option maxHeartbeats 4000000 in
theorem ct_X7_endOf {l : Launch} {G : Gr} {a : Nat → Nat} (u0 : St) (p1 : Int) (post : Int → Prop) (hw : w_X7_endOf post u0 p1) : Ct l G yX7_endOf (ws_ yX7_endOf cX7_endOf 2 (some .int)) rm_X7_endOf [.ref (a 9), zI p1] (WC G a u0) 0 0 (PoP (WC G a u0) post) := by
  refine Ct.of (by decide) (Nat.le_of_ble_eq_true rfl) ?_
  intro p e s m args below meth c ls X hr hlk K g h hl
  have hl : lv_has ls 2 [(0, .ref (a 9)), (1, zI p1)] := hl
  obtain ⟨H, hH⟩ : ∃ H, H = s.heap := ⟨_, rfl⟩
  obtain ⟨locs, hL⟩ : ∃ L : List Loc, L = [] := ⟨_, rfl⟩
  replace h : HW G (va_A (WC G a u0) s.heap.size) s.heap (WC G a u0) H locs := by rw [hH, hL]; exact h
  suffices hg : W p l e rm_X7_endOf s m args below meth c H locs 0 0 (EndI G (WC G a u0) (PoP (WC G a u0) post) args s 0 0 below) (F0 m 0 ls []) by rw [hH, hL] at hg; exact hg
  clear hH hL
  refine z_iload_n X hl 1 rfl rfl dX7_endOf_0 ?_
  obtain ⟨h1, hw⟩ := hw
  refine z_if_lt (tgt := 21) X h1 dX7_endOf_1 (by decide) (fun c2 => ?_) (fun c2 => ?_)
  · replace hw := hw.1 c2
    refine z_iconst X dX7_endOf_21 ?_
    exact r_iret X hr hlk K h (Nat.le_refl _) (Nat.le_refl _) dX7_endOf_22 ⟨rfl, hw⟩
  · replace hw := hw.2 c2
    refine z_iload_n X hl 1 rfl rfl dX7_endOf_4 ?_
    refine z_aload_n X hl 0 rfl rfl dX7_endOf_5 ?_
    refine gC_X7_count (x := sI u0 16) X K h rfl q_289 dX7_endOf_6 ?_
    obtain ⟨h3, hw⟩ := hw
    refine z_icmp_ge (tgt := 21) X h1 h3 dX7_endOf_9 (by decide) (fun c4 => ?_) (fun c4 => ?_)
    · replace hw := hw.1 c4
      refine z_iconst X dX7_endOf_21 ?_
      exact r_iret X hr hlk K h (Nat.le_refl _) (Nat.le_refl _) dX7_endOf_22 ⟨rfl, hw⟩
    · replace hw := hw.2 c4
      refine z_aload_n X hl 0 rfl rfl dX7_endOf_12 ?_
      refine gC_X7_ends X K h q_286 dX7_endOf_13 ?_
      refine z_iload_n X hl 1 rfl rfl dX7_endOf_16 ?_
      obtain ⟨h5, h6, hw⟩ := hw
      refine lC_10 (x := sA u0 10 p1) X K h h5 h6 rfl dX7_endOf_17 ?_
      refine z_goto (tgt := 22) X dX7_endOf_18 (by decide) ?_
      exact r_iret X hr hlk K h (Nat.le_refl _) (Nat.le_refl _) dX7_endOf_22 ⟨rfl, hw⟩
def w_X7_kindOfByte (post : Int → Prop) (p0 : Int) : Prop :=
(InR p0) ∧ ((p0 < 97 → ((p0 < 48 → ((p0 = 10 ∨ p0 = 32 → post 3) ∧
 (p0 = 37 ∨ p0 = 42 ∨ p0 = 43 ∨ p0 = 44 ∨ p0 = 45 ∨ p0 = 46 ∨ p0 = 60 ∨ p0 = 61 ∨ p0 = 62 ∨ p0 = 64 ∨ p0 = 123 ∨ p0 = 125 → post p0) ∧
 (¬ (p0 = 10 ∨ p0 = 32 ∨ p0 = 37 ∨ p0 = 42 ∨ p0 = 43 ∨ p0 = 44 ∨ p0 = 45 ∨ p0 = 46 ∨ p0 = 60 ∨ p0 = 61 ∨ p0 = 62 ∨ p0 = 64 ∨ p0 = 123 ∨ p0 = 125) → post 0))) ∧
 (¬ p0 < 48 → ((57 < p0 → ((p0 = 10 ∨ p0 = 32 → post 3) ∧
 (p0 = 37 ∨ p0 = 42 ∨ p0 = 43 ∨ p0 = 44 ∨ p0 = 45 ∨ p0 = 46 ∨ p0 = 60 ∨ p0 = 61 ∨ p0 = 62 ∨ p0 = 64 ∨ p0 = 123 ∨ p0 = 125 → post p0) ∧
 (¬ (p0 = 10 ∨ p0 = 32 ∨ p0 = 37 ∨ p0 = 42 ∨ p0 = 43 ∨ p0 = 44 ∨ p0 = 45 ∨ p0 = 46 ∨ p0 = 60 ∨ p0 = 61 ∨ p0 = 62 ∨ p0 = 64 ∨ p0 = 123 ∨ p0 = 125) → post 0))) ∧
 (¬ 57 < p0 → post 2))))) ∧
 (¬ p0 < 97 → ((122 < p0 → ((p0 < 48 → ((p0 = 10 ∨ p0 = 32 → post 3) ∧
 (p0 = 37 ∨ p0 = 42 ∨ p0 = 43 ∨ p0 = 44 ∨ p0 = 45 ∨ p0 = 46 ∨ p0 = 60 ∨ p0 = 61 ∨ p0 = 62 ∨ p0 = 64 ∨ p0 = 123 ∨ p0 = 125 → post p0) ∧
 (¬ (p0 = 10 ∨ p0 = 32 ∨ p0 = 37 ∨ p0 = 42 ∨ p0 = 43 ∨ p0 = 44 ∨ p0 = 45 ∨ p0 = 46 ∨ p0 = 60 ∨ p0 = 61 ∨ p0 = 62 ∨ p0 = 64 ∨ p0 = 123 ∨ p0 = 125) → post 0))) ∧
 (¬ p0 < 48 → ((57 < p0 → ((p0 = 10 ∨ p0 = 32 → post 3) ∧
 (p0 = 37 ∨ p0 = 42 ∨ p0 = 43 ∨ p0 = 44 ∨ p0 = 45 ∨ p0 = 46 ∨ p0 = 60 ∨ p0 = 61 ∨ p0 = 62 ∨ p0 = 64 ∨ p0 = 123 ∨ p0 = 125 → post p0) ∧
 (¬ (p0 = 10 ∨ p0 = 32 ∨ p0 = 37 ∨ p0 = 42 ∨ p0 = 43 ∨ p0 = 44 ∨ p0 = 45 ∨ p0 = 46 ∨ p0 = 60 ∨ p0 = 61 ∨ p0 = 62 ∨ p0 = 64 ∨ p0 = 123 ∨ p0 = 125) → post 0))) ∧
 (¬ 57 < p0 → post 2))))) ∧
 (¬ 122 < p0 → post 1))))
abbrev rm_X7_kindOfByte : Room := { frames := 0, cells := 0, slots := 0, locals := 0 }
set_option maxRecDepth 100000 in
set_option maxHeartbeats 4000000 in
theorem ct_X7_kindOfByte {l : Launch} {G : Gr} {w : va_W} (p0 : Int) (post : Int → Prop) (hw : w_X7_kindOfByte post p0) : Ct l G yX7_kindOfByte (ws_ yX7_kindOfByte cX7_kindOfByte 1 (some .int)) rm_X7_kindOfByte [zI p0] w 0 0 (PoP w post) := by
  refine Ct.of (by decide) (Nat.le_of_ble_eq_true rfl) ?_
  intro p e s m args below meth c ls X hr hlk K g h hl
  have hl : lv_has ls 1 [(0, zI p0)] := hl
  obtain ⟨H, hH⟩ : ∃ H, H = s.heap := ⟨_, rfl⟩
  obtain ⟨locs, hL⟩ : ∃ L : List Loc, L = [] := ⟨_, rfl⟩
  replace h : HW G (va_A w s.heap.size) s.heap (w) H locs := by rw [hH, hL]; exact h
  suffices hg : W p l e rm_X7_kindOfByte s m args below meth c H locs 0 0 (EndI G w (PoP w post) args s 0 0 below) (F0 m 0 ls []) by rw [hH, hL] at hg; exact hg
  clear hH hL
  refine z_iload_n X hl 0 rfl rfl dX7_kindOfByte_0 ?_
  refine z_bipush (v := 97) X dX7_kindOfByte_1 (by decide) ?_
  obtain ⟨h1, hw⟩ := hw
  refine z_icmp_lt (tgt := 14) X h1 (by decide) dX7_kindOfByte_3 (by decide) (fun c2 => ?_) (fun c2 => ?_)
  · replace hw := hw.1 c2
    refine z_iload_n X hl 0 rfl rfl dX7_kindOfByte_14 ?_
    refine z_bipush (v := 48) X dX7_kindOfByte_15 (by decide) ?_
    refine z_icmp_lt (tgt := 28) X h1 (by decide) dX7_kindOfByte_17 (by decide) (fun c3 => ?_) (fun c3 => ?_)
    · replace hw := hw.1 c3
      refine z_iload_n X hl 0 rfl rfl dX7_kindOfByte_28 ?_
      by_cases c4 : p0 = 10 ∨ p0 = 32
      · replace hw := hw.1 c4
        suffices hk : W p l e rm_X7_kindOfByte s m args below meth c H locs 0 0 (EndI G w (PoP w post) args s 0 0 below) (F0 m 152 ls []) by
          rcases c4 with c4 | c4
          · exact z_top c4 (lv_lookup (off := 123) (tgt := 152) X.1 X.2.1 dX7_kindOfByte_29 (by decide) (by decide) (by decide) hk)
          · exact z_top c4 (lv_lookup (off := 123) (tgt := 152) X.1 X.2.1 dX7_kindOfByte_29 (by decide) (by decide) (by decide) hk)
        refine z_iconst X dX7_kindOfByte_152 ?_
        exact r_iret X hr hlk K h (Nat.le_refl _) (Nat.le_refl _) dX7_kindOfByte_153 ⟨rfl, hw⟩
      · by_cases c5 : p0 = 37 ∨ p0 = 42 ∨ p0 = 43 ∨ p0 = 44 ∨ p0 = 45 ∨ p0 = 46 ∨ p0 = 60 ∨ p0 = 61 ∨ p0 = 62 ∨ p0 = 64 ∨ p0 = 123 ∨ p0 = 125
        · replace hw := hw.2.1 c5
          suffices hk : W p l e rm_X7_kindOfByte s m args below meth c H locs 0 0 (EndI G w (PoP w post) args s 0 0 below) (F0 m 154 ls []) by
            rcases c5 with c5 | c5 | c5 | c5 | c5 | c5 | c5 | c5 | c5 | c5 | c5 | c5
            · exact z_top c5 (lv_lookup (off := 125) (tgt := 154) X.1 X.2.1 dX7_kindOfByte_29 (by decide) (by decide) (by decide) hk)
            · exact z_top c5 (lv_lookup (off := 125) (tgt := 154) X.1 X.2.1 dX7_kindOfByte_29 (by decide) (by decide) (by decide) hk)
            · exact z_top c5 (lv_lookup (off := 125) (tgt := 154) X.1 X.2.1 dX7_kindOfByte_29 (by decide) (by decide) (by decide) hk)
            · exact z_top c5 (lv_lookup (off := 125) (tgt := 154) X.1 X.2.1 dX7_kindOfByte_29 (by decide) (by decide) (by decide) hk)
            · exact z_top c5 (lv_lookup (off := 125) (tgt := 154) X.1 X.2.1 dX7_kindOfByte_29 (by decide) (by decide) (by decide) hk)
            · exact z_top c5 (lv_lookup (off := 125) (tgt := 154) X.1 X.2.1 dX7_kindOfByte_29 (by decide) (by decide) (by decide) hk)
            · exact z_top c5 (lv_lookup (off := 125) (tgt := 154) X.1 X.2.1 dX7_kindOfByte_29 (by decide) (by decide) (by decide) hk)
            · exact z_top c5 (lv_lookup (off := 125) (tgt := 154) X.1 X.2.1 dX7_kindOfByte_29 (by decide) (by decide) (by decide) hk)
            · exact z_top c5 (lv_lookup (off := 125) (tgt := 154) X.1 X.2.1 dX7_kindOfByte_29 (by decide) (by decide) (by decide) hk)
            · exact z_top c5 (lv_lookup (off := 125) (tgt := 154) X.1 X.2.1 dX7_kindOfByte_29 (by decide) (by decide) (by decide) hk)
            · exact z_top c5 (lv_lookup (off := 125) (tgt := 154) X.1 X.2.1 dX7_kindOfByte_29 (by decide) (by decide) (by decide) hk)
            · exact z_top c5 (lv_lookup (off := 125) (tgt := 154) X.1 X.2.1 dX7_kindOfByte_29 (by decide) (by decide) (by decide) hk)
          refine z_iload_n X hl 0 rfl rfl dX7_kindOfByte_154 ?_
          exact r_iret X hr hlk K h (Nat.le_refl _) (Nat.le_refl _) dX7_kindOfByte_155 ⟨rfl, hw⟩
        · replace hw := hw.2.2 (by omega)
          refine z_lookupOut (tgt := 156) X h1 dX7_kindOfByte_29 (by decide) (by decide) [(10, 123), (32, 123), (37, 125), (42, 125), (43, 125), (44, 125), (45, 125), (46, 125), (60, 125), (61, 125), (62, 125), (64, 125), (123, 125), (125, 125)] rfl (by intro o7 ho7 hz; simp only [List.mem_cons, List.not_mem_nil, or_false] at ho7; rcases ho7 with rfl | rfl | rfl | rfl | rfl | rfl | rfl | rfl | rfl | rfl | rfl | rfl | rfl | rfl <;> simp only at hz <;> omega) ?_
          refine z_iconst X dX7_kindOfByte_156 ?_
          exact r_iret X hr hlk K h (Nat.le_refl _) (Nat.le_refl _) dX7_kindOfByte_157 ⟨rfl, hw⟩
    · replace hw := hw.2 c3
      refine z_iload_n X hl 0 rfl rfl dX7_kindOfByte_20 ?_
      refine z_bipush (v := 57) X dX7_kindOfByte_21 (by decide) ?_
      refine z_icmp_gt (tgt := 28) X h1 (by decide) dX7_kindOfByte_23 (by decide) (fun c8 => ?_) (fun c8 => ?_)
      · replace hw := hw.1 c8
        refine z_iload_n X hl 0 rfl rfl dX7_kindOfByte_28 ?_
        by_cases c9 : p0 = 10 ∨ p0 = 32
        · replace hw := hw.1 c9
          suffices hk : W p l e rm_X7_kindOfByte s m args below meth c H locs 0 0 (EndI G w (PoP w post) args s 0 0 below) (F0 m 152 ls []) by
            rcases c9 with c9 | c9
            · exact z_top c9 (lv_lookup (off := 123) (tgt := 152) X.1 X.2.1 dX7_kindOfByte_29 (by decide) (by decide) (by decide) hk)
            · exact z_top c9 (lv_lookup (off := 123) (tgt := 152) X.1 X.2.1 dX7_kindOfByte_29 (by decide) (by decide) (by decide) hk)
          refine z_iconst X dX7_kindOfByte_152 ?_
          exact r_iret X hr hlk K h (Nat.le_refl _) (Nat.le_refl _) dX7_kindOfByte_153 ⟨rfl, hw⟩
        · by_cases c10 : p0 = 37 ∨ p0 = 42 ∨ p0 = 43 ∨ p0 = 44 ∨ p0 = 45 ∨ p0 = 46 ∨ p0 = 60 ∨ p0 = 61 ∨ p0 = 62 ∨ p0 = 64 ∨ p0 = 123 ∨ p0 = 125
          · replace hw := hw.2.1 c10
            suffices hk : W p l e rm_X7_kindOfByte s m args below meth c H locs 0 0 (EndI G w (PoP w post) args s 0 0 below) (F0 m 154 ls []) by
              rcases c10 with c10 | c10 | c10 | c10 | c10 | c10 | c10 | c10 | c10 | c10 | c10 | c10
              · exact z_top c10 (lv_lookup (off := 125) (tgt := 154) X.1 X.2.1 dX7_kindOfByte_29 (by decide) (by decide) (by decide) hk)
              · exact z_top c10 (lv_lookup (off := 125) (tgt := 154) X.1 X.2.1 dX7_kindOfByte_29 (by decide) (by decide) (by decide) hk)
              · exact z_top c10 (lv_lookup (off := 125) (tgt := 154) X.1 X.2.1 dX7_kindOfByte_29 (by decide) (by decide) (by decide) hk)
              · exact z_top c10 (lv_lookup (off := 125) (tgt := 154) X.1 X.2.1 dX7_kindOfByte_29 (by decide) (by decide) (by decide) hk)
              · exact z_top c10 (lv_lookup (off := 125) (tgt := 154) X.1 X.2.1 dX7_kindOfByte_29 (by decide) (by decide) (by decide) hk)
              · exact z_top c10 (lv_lookup (off := 125) (tgt := 154) X.1 X.2.1 dX7_kindOfByte_29 (by decide) (by decide) (by decide) hk)
              · exact z_top c10 (lv_lookup (off := 125) (tgt := 154) X.1 X.2.1 dX7_kindOfByte_29 (by decide) (by decide) (by decide) hk)
              · exact z_top c10 (lv_lookup (off := 125) (tgt := 154) X.1 X.2.1 dX7_kindOfByte_29 (by decide) (by decide) (by decide) hk)
              · exact z_top c10 (lv_lookup (off := 125) (tgt := 154) X.1 X.2.1 dX7_kindOfByte_29 (by decide) (by decide) (by decide) hk)
              · exact z_top c10 (lv_lookup (off := 125) (tgt := 154) X.1 X.2.1 dX7_kindOfByte_29 (by decide) (by decide) (by decide) hk)
              · exact z_top c10 (lv_lookup (off := 125) (tgt := 154) X.1 X.2.1 dX7_kindOfByte_29 (by decide) (by decide) (by decide) hk)
              · exact z_top c10 (lv_lookup (off := 125) (tgt := 154) X.1 X.2.1 dX7_kindOfByte_29 (by decide) (by decide) (by decide) hk)
            refine z_iload_n X hl 0 rfl rfl dX7_kindOfByte_154 ?_
            exact r_iret X hr hlk K h (Nat.le_refl _) (Nat.le_refl _) dX7_kindOfByte_155 ⟨rfl, hw⟩
          · replace hw := hw.2.2 (by omega)
            refine z_lookupOut (tgt := 156) X h1 dX7_kindOfByte_29 (by decide) (by decide) [(10, 123), (32, 123), (37, 125), (42, 125), (43, 125), (44, 125), (45, 125), (46, 125), (60, 125), (61, 125), (62, 125), (64, 125), (123, 125), (125, 125)] rfl (by intro o12 ho12 hz; simp only [List.mem_cons, List.not_mem_nil, or_false] at ho12; rcases ho12 with rfl | rfl | rfl | rfl | rfl | rfl | rfl | rfl | rfl | rfl | rfl | rfl | rfl | rfl <;> simp only at hz <;> omega) ?_
            refine z_iconst X dX7_kindOfByte_156 ?_
            exact r_iret X hr hlk K h (Nat.le_refl _) (Nat.le_refl _) dX7_kindOfByte_157 ⟨rfl, hw⟩
      · replace hw := hw.2 c8
        refine z_iconst X dX7_kindOfByte_26 ?_
        exact r_iret X hr hlk K h (Nat.le_refl _) (Nat.le_refl _) dX7_kindOfByte_27 ⟨rfl, hw⟩
  · replace hw := hw.2 c2
    refine z_iload_n X hl 0 rfl rfl dX7_kindOfByte_6 ?_
    refine z_bipush (v := 122) X dX7_kindOfByte_7 (by decide) ?_
    refine z_icmp_gt (tgt := 14) X h1 (by decide) dX7_kindOfByte_9 (by decide) (fun c13 => ?_) (fun c13 => ?_)
    · replace hw := hw.1 c13
      refine z_iload_n X hl 0 rfl rfl dX7_kindOfByte_14 ?_
      refine z_bipush (v := 48) X dX7_kindOfByte_15 (by decide) ?_
      refine z_icmp_lt (tgt := 28) X h1 (by decide) dX7_kindOfByte_17 (by decide) (fun c14 => ?_) (fun c14 => ?_)
      · replace hw := hw.1 c14
        refine z_iload_n X hl 0 rfl rfl dX7_kindOfByte_28 ?_
        by_cases c15 : p0 = 10 ∨ p0 = 32
        · replace hw := hw.1 c15
          suffices hk : W p l e rm_X7_kindOfByte s m args below meth c H locs 0 0 (EndI G w (PoP w post) args s 0 0 below) (F0 m 152 ls []) by
            rcases c15 with c15 | c15
            · exact z_top c15 (lv_lookup (off := 123) (tgt := 152) X.1 X.2.1 dX7_kindOfByte_29 (by decide) (by decide) (by decide) hk)
            · exact z_top c15 (lv_lookup (off := 123) (tgt := 152) X.1 X.2.1 dX7_kindOfByte_29 (by decide) (by decide) (by decide) hk)
          refine z_iconst X dX7_kindOfByte_152 ?_
          exact r_iret X hr hlk K h (Nat.le_refl _) (Nat.le_refl _) dX7_kindOfByte_153 ⟨rfl, hw⟩
        · by_cases c16 : p0 = 37 ∨ p0 = 42 ∨ p0 = 43 ∨ p0 = 44 ∨ p0 = 45 ∨ p0 = 46 ∨ p0 = 60 ∨ p0 = 61 ∨ p0 = 62 ∨ p0 = 64 ∨ p0 = 123 ∨ p0 = 125
          · replace hw := hw.2.1 c16
            suffices hk : W p l e rm_X7_kindOfByte s m args below meth c H locs 0 0 (EndI G w (PoP w post) args s 0 0 below) (F0 m 154 ls []) by
              rcases c16 with c16 | c16 | c16 | c16 | c16 | c16 | c16 | c16 | c16 | c16 | c16 | c16
              · exact z_top c16 (lv_lookup (off := 125) (tgt := 154) X.1 X.2.1 dX7_kindOfByte_29 (by decide) (by decide) (by decide) hk)
              · exact z_top c16 (lv_lookup (off := 125) (tgt := 154) X.1 X.2.1 dX7_kindOfByte_29 (by decide) (by decide) (by decide) hk)
              · exact z_top c16 (lv_lookup (off := 125) (tgt := 154) X.1 X.2.1 dX7_kindOfByte_29 (by decide) (by decide) (by decide) hk)
              · exact z_top c16 (lv_lookup (off := 125) (tgt := 154) X.1 X.2.1 dX7_kindOfByte_29 (by decide) (by decide) (by decide) hk)
              · exact z_top c16 (lv_lookup (off := 125) (tgt := 154) X.1 X.2.1 dX7_kindOfByte_29 (by decide) (by decide) (by decide) hk)
              · exact z_top c16 (lv_lookup (off := 125) (tgt := 154) X.1 X.2.1 dX7_kindOfByte_29 (by decide) (by decide) (by decide) hk)
              · exact z_top c16 (lv_lookup (off := 125) (tgt := 154) X.1 X.2.1 dX7_kindOfByte_29 (by decide) (by decide) (by decide) hk)
              · exact z_top c16 (lv_lookup (off := 125) (tgt := 154) X.1 X.2.1 dX7_kindOfByte_29 (by decide) (by decide) (by decide) hk)
              · exact z_top c16 (lv_lookup (off := 125) (tgt := 154) X.1 X.2.1 dX7_kindOfByte_29 (by decide) (by decide) (by decide) hk)
              · exact z_top c16 (lv_lookup (off := 125) (tgt := 154) X.1 X.2.1 dX7_kindOfByte_29 (by decide) (by decide) (by decide) hk)
              · exact z_top c16 (lv_lookup (off := 125) (tgt := 154) X.1 X.2.1 dX7_kindOfByte_29 (by decide) (by decide) (by decide) hk)
              · exact z_top c16 (lv_lookup (off := 125) (tgt := 154) X.1 X.2.1 dX7_kindOfByte_29 (by decide) (by decide) (by decide) hk)
            refine z_iload_n X hl 0 rfl rfl dX7_kindOfByte_154 ?_
            exact r_iret X hr hlk K h (Nat.le_refl _) (Nat.le_refl _) dX7_kindOfByte_155 ⟨rfl, hw⟩
          · replace hw := hw.2.2 (by omega)
            refine z_lookupOut (tgt := 156) X h1 dX7_kindOfByte_29 (by decide) (by decide) [(10, 123), (32, 123), (37, 125), (42, 125), (43, 125), (44, 125), (45, 125), (46, 125), (60, 125), (61, 125), (62, 125), (64, 125), (123, 125), (125, 125)] rfl (by intro o18 ho18 hz; simp only [List.mem_cons, List.not_mem_nil, or_false] at ho18; rcases ho18 with rfl | rfl | rfl | rfl | rfl | rfl | rfl | rfl | rfl | rfl | rfl | rfl | rfl | rfl <;> simp only at hz <;> omega) ?_
            refine z_iconst X dX7_kindOfByte_156 ?_
            exact r_iret X hr hlk K h (Nat.le_refl _) (Nat.le_refl _) dX7_kindOfByte_157 ⟨rfl, hw⟩
      · replace hw := hw.2 c14
        refine z_iload_n X hl 0 rfl rfl dX7_kindOfByte_20 ?_
        refine z_bipush (v := 57) X dX7_kindOfByte_21 (by decide) ?_
        refine z_icmp_gt (tgt := 28) X h1 (by decide) dX7_kindOfByte_23 (by decide) (fun c19 => ?_) (fun c19 => ?_)
        · replace hw := hw.1 c19
          refine z_iload_n X hl 0 rfl rfl dX7_kindOfByte_28 ?_
          by_cases c20 : p0 = 10 ∨ p0 = 32
          · replace hw := hw.1 c20
            suffices hk : W p l e rm_X7_kindOfByte s m args below meth c H locs 0 0 (EndI G w (PoP w post) args s 0 0 below) (F0 m 152 ls []) by
              rcases c20 with c20 | c20
              · exact z_top c20 (lv_lookup (off := 123) (tgt := 152) X.1 X.2.1 dX7_kindOfByte_29 (by decide) (by decide) (by decide) hk)
              · exact z_top c20 (lv_lookup (off := 123) (tgt := 152) X.1 X.2.1 dX7_kindOfByte_29 (by decide) (by decide) (by decide) hk)
            refine z_iconst X dX7_kindOfByte_152 ?_
            exact r_iret X hr hlk K h (Nat.le_refl _) (Nat.le_refl _) dX7_kindOfByte_153 ⟨rfl, hw⟩
          · by_cases c21 : p0 = 37 ∨ p0 = 42 ∨ p0 = 43 ∨ p0 = 44 ∨ p0 = 45 ∨ p0 = 46 ∨ p0 = 60 ∨ p0 = 61 ∨ p0 = 62 ∨ p0 = 64 ∨ p0 = 123 ∨ p0 = 125
            · replace hw := hw.2.1 c21
              suffices hk : W p l e rm_X7_kindOfByte s m args below meth c H locs 0 0 (EndI G w (PoP w post) args s 0 0 below) (F0 m 154 ls []) by
                rcases c21 with c21 | c21 | c21 | c21 | c21 | c21 | c21 | c21 | c21 | c21 | c21 | c21
                · exact z_top c21 (lv_lookup (off := 125) (tgt := 154) X.1 X.2.1 dX7_kindOfByte_29 (by decide) (by decide) (by decide) hk)
                · exact z_top c21 (lv_lookup (off := 125) (tgt := 154) X.1 X.2.1 dX7_kindOfByte_29 (by decide) (by decide) (by decide) hk)
                · exact z_top c21 (lv_lookup (off := 125) (tgt := 154) X.1 X.2.1 dX7_kindOfByte_29 (by decide) (by decide) (by decide) hk)
                · exact z_top c21 (lv_lookup (off := 125) (tgt := 154) X.1 X.2.1 dX7_kindOfByte_29 (by decide) (by decide) (by decide) hk)
                · exact z_top c21 (lv_lookup (off := 125) (tgt := 154) X.1 X.2.1 dX7_kindOfByte_29 (by decide) (by decide) (by decide) hk)
                · exact z_top c21 (lv_lookup (off := 125) (tgt := 154) X.1 X.2.1 dX7_kindOfByte_29 (by decide) (by decide) (by decide) hk)
                · exact z_top c21 (lv_lookup (off := 125) (tgt := 154) X.1 X.2.1 dX7_kindOfByte_29 (by decide) (by decide) (by decide) hk)
                · exact z_top c21 (lv_lookup (off := 125) (tgt := 154) X.1 X.2.1 dX7_kindOfByte_29 (by decide) (by decide) (by decide) hk)
                · exact z_top c21 (lv_lookup (off := 125) (tgt := 154) X.1 X.2.1 dX7_kindOfByte_29 (by decide) (by decide) (by decide) hk)
                · exact z_top c21 (lv_lookup (off := 125) (tgt := 154) X.1 X.2.1 dX7_kindOfByte_29 (by decide) (by decide) (by decide) hk)
                · exact z_top c21 (lv_lookup (off := 125) (tgt := 154) X.1 X.2.1 dX7_kindOfByte_29 (by decide) (by decide) (by decide) hk)
                · exact z_top c21 (lv_lookup (off := 125) (tgt := 154) X.1 X.2.1 dX7_kindOfByte_29 (by decide) (by decide) (by decide) hk)
              refine z_iload_n X hl 0 rfl rfl dX7_kindOfByte_154 ?_
              exact r_iret X hr hlk K h (Nat.le_refl _) (Nat.le_refl _) dX7_kindOfByte_155 ⟨rfl, hw⟩
            · replace hw := hw.2.2 (by omega)
              refine z_lookupOut (tgt := 156) X h1 dX7_kindOfByte_29 (by decide) (by decide) [(10, 123), (32, 123), (37, 125), (42, 125), (43, 125), (44, 125), (45, 125), (46, 125), (60, 125), (61, 125), (62, 125), (64, 125), (123, 125), (125, 125)] rfl (by intro o23 ho23 hz; simp only [List.mem_cons, List.not_mem_nil, or_false] at ho23; rcases ho23 with rfl | rfl | rfl | rfl | rfl | rfl | rfl | rfl | rfl | rfl | rfl | rfl | rfl | rfl <;> simp only at hz <;> omega) ?_
              refine z_iconst X dX7_kindOfByte_156 ?_
              exact r_iret X hr hlk K h (Nat.le_refl _) (Nat.le_refl _) dX7_kindOfByte_157 ⟨rfl, hw⟩
        · replace hw := hw.2 c19
          refine z_iconst X dX7_kindOfByte_26 ?_
          exact r_iret X hr hlk K h (Nat.le_refl _) (Nat.le_refl _) dX7_kindOfByte_27 ⟨rfl, hw⟩
    · replace hw := hw.2 c13
      refine z_iconst X dX7_kindOfByte_12 ?_
      exact r_iret X hr hlk K h (Nat.le_refl _) (Nat.le_refl _) dX7_kindOfByte_13 ⟨rfl, hw⟩
def w_X7_digitOf (post : Int → Prop) (p0 : Int) (p1 : Int) : Prop :=
(InR p0) ∧ ((¬ p0 = 1 → post (p1 - 48)) ∧
 (p0 = 1 → post ((p1 - 97) + 1)))
abbrev rm_X7_digitOf : Room := { frames := 0, cells := 0, slots := 0, locals := 0 }
set_option maxRecDepth 100000 in
set_option maxHeartbeats 4000000 in
theorem ct_X7_digitOf {l : Launch} {G : Gr} {w : va_W} (p0 : Int) (p1 : Int) (post : Int → Prop) (hw : w_X7_digitOf post p0 p1) : Ct l G yX7_digitOf (ws_ yX7_digitOf cX7_digitOf 2 (some .int)) rm_X7_digitOf [zI p0, zI p1] w 0 0 (PoP w post) := by
  refine Ct.of (by decide) (Nat.le_of_ble_eq_true rfl) ?_
  intro p e s m args below meth c ls X hr hlk K g h hl
  have hl : lv_has ls 2 [(0, zI p0), (1, zI p1)] := hl
  obtain ⟨H, hH⟩ : ∃ H, H = s.heap := ⟨_, rfl⟩
  obtain ⟨locs, hL⟩ : ∃ L : List Loc, L = [] := ⟨_, rfl⟩
  replace h : HW G (va_A w s.heap.size) s.heap (w) H locs := by rw [hH, hL]; exact h
  suffices hg : W p l e rm_X7_digitOf s m args below meth c H locs 0 0 (EndI G w (PoP w post) args s 0 0 below) (F0 m 0 ls []) by rw [hH, hL] at hg; exact hg
  clear hH hL
  refine z_iload_n X hl 0 rfl rfl dX7_digitOf_0 ?_
  refine z_iconst X dX7_digitOf_1 ?_
  obtain ⟨h1, hw⟩ := hw
  refine z_icmp_ne (tgt := 14) X h1 (by decide) dX7_digitOf_2 (by decide) (fun c2 => ?_) (fun c2 => ?_)
  · replace hw := hw.1 c2
    refine z_iload_n X hl 1 rfl rfl dX7_digitOf_14 ?_
    refine z_bipush (v := 48) X dX7_digitOf_15 (by decide) ?_
    refine z_isub X dX7_digitOf_17 ?_
    exact r_iret X hr hlk K h (Nat.le_refl _) (Nat.le_refl _) dX7_digitOf_18 ⟨rfl, hw⟩
  · replace hw := hw.2 c2
    refine z_iload_n X hl 1 rfl rfl dX7_digitOf_5 ?_
    refine z_bipush (v := 97) X dX7_digitOf_6 (by decide) ?_
    refine z_isub X dX7_digitOf_8 ?_
    refine z_iconst X dX7_digitOf_9 ?_
    refine z_iadd X dX7_digitOf_10 ?_
    refine z_goto (tgt := 18) X dX7_digitOf_11 (by decide) ?_
    exact r_iret X hr hlk K h (Nat.le_refl _) (Nat.le_refl _) dX7_digitOf_18 ⟨rfl, hw⟩
def w_X7_lengthen (post : St → Prop) (u0 : St) (p1 : Int) (p2 : Int) (p3 : Int) : Prop :=
(InR ((sI u0 16) - 1)) ∧ ((0 ≤ (sI u0 16) - 1 → (InR p1) ∧ ((¬ p1 = 1 → (0 ≤ (sI u0 16) - 1) ∧ ((sI u0 16) - 1 < 300) ∧ (InR (p2 - (sA u0 9 ((sI u0 16) - 1)))) ∧ ((p2 - (sA u0 9 ((sI u0 16) - 1)) < 3 → (w_X7_digitOf (fun (z10 : Int) => post (pA u0 8 ((sI u0 16) - 1) (((sA u0 8 ((sI u0 16) - 1)) * 10) + z10))) p1 p3)) ∧
 (¬ p2 - (sA u0 9 ((sI u0 16) - 1)) < 3 → post (pA u0 7 ((sI u0 16) - 1) 0)))) ∧
 (p1 = 1 → (0 ≤ (sI u0 16) - 1) ∧ ((sI u0 16) - 1 < 300) ∧ (InR (p2 - (sA u0 9 ((sI u0 16) - 1)))) ∧ ((p2 - (sA u0 9 ((sI u0 16) - 1)) < 6 → (w_X7_digitOf (fun (z16 : Int) => post (pA u0 8 ((sI u0 16) - 1) (((sA u0 8 ((sI u0 16) - 1)) * 27) + z16))) p1 p3)) ∧
 (¬ p2 - (sA u0 9 ((sI u0 16) - 1)) < 6 → post (pA u0 7 ((sI u0 16) - 1) 0)))))) ∧
 (¬ 0 ≤ (sI u0 16) - 1 → post u0))
abbrev rm_X7_lengthen : Room := { frames := 1, cells := 0, slots := 0, locals := 21 }
set_option maxRecDepth 100000 in
set_option maxHeartbeats 4000000 in
theorem ct_X7_lengthen {l : Launch} {G : Gr} {a : Nat → Nat} (u0 : St) (p1 : Int) (p2 : Int) (p3 : Int) (post : St → Prop) (hw : w_X7_lengthen post u0 p1 p2 p3) : CtV l G yX7_lengthen (ws_ yX7_lengthen cX7_lengthen 7 (none)) rm_X7_lengthen [.ref (a 9), zI p1, zI p2, zI p3] (WC G a u0) 0 0 (PoV (WC G a) post) := by
  refine CtV.of (by decide) (Nat.le_of_ble_eq_true rfl) ?_
  intro p e s m args below meth c ls X hr hlk K g h hl
  have hl : lv_has ls 7 [(0, .ref (a 9)), (1, zI p1), (2, zI p2), (3, zI p3)] := hl
  obtain ⟨H, hH⟩ : ∃ H, H = s.heap := ⟨_, rfl⟩
  obtain ⟨locs, hL⟩ : ∃ L : List Loc, L = [] := ⟨_, rfl⟩
  replace h : HW G (va_A (WC G a u0) s.heap.size) s.heap (WC G a u0) H locs := by rw [hH, hL]; exact h
  suffices hg : W p l e rm_X7_lengthen s m args below meth c H locs 0 0 (EndV G (WC G a u0) (PoV (WC G a) post) args s 0 0 below) (F0 m 0 ls []) by rw [hH, hL] at hg; exact hg
  clear hH hL
  refine z_aload_n X hl 0 rfl rfl dX7_lengthen_0 ?_
  refine gC_X7_count (x := sI u0 16) X K h rfl q_289 dX7_lengthen_1 ?_
  refine z_iconst X dX7_lengthen_4 ?_
  refine z_isub X dX7_lengthen_5 ?_
  refine z_istore (i := 4) (lv' := [(4, zI ((sI u0 16) - 1)), (0, .ref (a 9)), (1, zI p1), (2, zI p2), (3, zI p3)]) X hl (by decide) dX7_lengthen_6 rfl (fun ls hl => ?_)
  refine z_iload X hl 0 rfl dX7_lengthen_8 ?_
  obtain ⟨h1, hw⟩ := hw
  refine z_if_ge (tgt := 14) X h1 dX7_lengthen_10 (by decide) (fun c2 => ?_) (fun c2 => ?_)
  · replace hw := hw.1 c2
    refine z_iload_n X hl 2 rfl rfl dX7_lengthen_14 ?_
    refine z_iconst X dX7_lengthen_15 ?_
    obtain ⟨h3, hw⟩ := hw
    refine z_icmp_ne (tgt := 24) X h3 (by decide) dX7_lengthen_16 (by decide) (fun c4 => ?_) (fun c4 => ?_)
    · replace hw := hw.1 c4
      refine z_iconst X dX7_lengthen_24 ?_
      refine z_istore (i := 5) (lv' := [(5, zI 3), (4, zI ((sI u0 16) - 1)), (0, .ref (a 9)), (1, zI p1), (2, zI p2), (3, zI p3)]) X hl (by decide) dX7_lengthen_25 rfl (fun ls hl => ?_)
      refine z_iload_n X hl 3 rfl rfl dX7_lengthen_27 ?_
      refine z_iconst X dX7_lengthen_28 ?_
      refine z_icmp_ne (tgt := 37) X h3 (by decide) dX7_lengthen_29 (by decide) (fun _ => ?_) (fun c5 => absurd c5 (by omega))
      refine z_bipush (v := 10) X dX7_lengthen_37 (by decide) ?_
      refine z_istore (i := 6) (lv' := [(6, zI 10), (5, zI 3), (4, zI ((sI u0 16) - 1)), (0, .ref (a 9)), (1, zI p1), (2, zI p2), (3, zI p3)]) X hl (by decide) dX7_lengthen_39 rfl (fun ls hl => ?_)
      refine z_iload_n X hl 5 rfl rfl dX7_lengthen_41 ?_
      refine z_aload_n X hl 3 rfl rfl dX7_lengthen_42 ?_
      refine gC_X7_places X K h q_285 dX7_lengthen_43 ?_
      refine z_iload X hl 2 rfl dX7_lengthen_46 ?_
      obtain ⟨h6, h7, hw⟩ := hw
      refine lC_9 (x := sA u0 9 ((sI u0 16) - 1)) X K h h6 h7 rfl dX7_lengthen_48 ?_
      refine z_isub X dX7_lengthen_49 ?_
      refine z_iload X hl 1 rfl dX7_lengthen_50 ?_
      obtain ⟨h8, hw⟩ := hw
      refine z_icmp_lt (tgt := 66) X h8 (by decide) dX7_lengthen_52 (by decide) (fun c9 => ?_) (fun c9 => ?_)
      · replace hw := hw.1 c9
        refine z_aload_n X hl 3 rfl rfl dX7_lengthen_66 ?_
        refine gC_X7_numbers X K h q_284 dX7_lengthen_67 ?_
        refine z_iload X hl 2 rfl dX7_lengthen_70 ?_
        refine z_aload_n X hl 3 rfl rfl dX7_lengthen_72 ?_
        refine gC_X7_numbers X K h q_284 dX7_lengthen_73 ?_
        refine z_iload X hl 2 rfl dX7_lengthen_76 ?_
        refine lC_8 (x := sA u0 8 ((sI u0 16) - 1)) X K h h6 h7 rfl dX7_lengthen_78 ?_
        refine z_iload X hl 0 rfl dX7_lengthen_79 ?_
        refine z_imul X dX7_lengthen_81 ?_
        refine z_iload_n X hl 4 rfl rfl dX7_lengthen_82 ?_
        refine z_iload_n X hl 6 rfl rfl dX7_lengthen_83 ?_
        refine r_callSi (rest := [zI ((sA u0 8 ((sI u0 16) - 1)) * 10), zI ((sI u0 16) - 1), .ref (a 19)]) X K g h (ct_X7_digitOf (w := WC G a u0) p1 p3 _ hw) lk_X7_50 ⟨rfl, rfl⟩ ⟨Nat.le_of_ble_eq_true rfl, Nat.le_of_ble_eq_true rfl⟩ rfl (lv_size hl) rfl (Nat.le_of_ble_eq_true rfl) dX7_lengthen_84 ⟨Nat.le_of_ble_eq_true rfl, Nat.le_of_ble_eq_true rfl⟩ (fun z10 w' H locs hp h => ?_)
        obtain ⟨rfl, hw⟩ := hp
        refine z_iadd X dX7_lengthen_87 ?_
        refine sC_8 X K h h6 h7 dX7_lengthen_88 (fun H locs h => ?_)
        exact r_vret X hr hlk K h (Nat.le_refl _) (Nat.le_refl _) dX7_lengthen_89 ⟨_, rfl, hw⟩
      · replace hw := hw.2 c9
        refine z_aload_n X hl 3 rfl rfl dX7_lengthen_55 ?_
        refine gC_X7_kinds X K h q_283 dX7_lengthen_56 ?_
        refine z_iload X hl 2 rfl dX7_lengthen_59 ?_
        refine z_iconst X dX7_lengthen_61 ?_
        refine sC_7 X K h h6 h7 dX7_lengthen_62 (fun H locs h => ?_)
        refine z_goto (tgt := 89) X dX7_lengthen_63 (by decide) ?_
        exact r_vret X hr hlk K h (Nat.le_refl _) (Nat.le_refl _) dX7_lengthen_89 ⟨_, rfl, hw⟩
    · replace hw := hw.2 c4
      refine z_bipush (v := 6) X dX7_lengthen_19 (by decide) ?_
      refine z_goto (tgt := 25) X dX7_lengthen_21 (by decide) ?_
      refine z_istore (i := 5) (lv' := [(5, zI 6), (4, zI ((sI u0 16) - 1)), (0, .ref (a 9)), (1, zI p1), (2, zI p2), (3, zI p3)]) X hl (by decide) dX7_lengthen_25 rfl (fun ls hl => ?_)
      refine z_iload_n X hl 3 rfl rfl dX7_lengthen_27 ?_
      refine z_iconst X dX7_lengthen_28 ?_
      refine z_icmp_ne (tgt := 37) X h3 (by decide) dX7_lengthen_29 (by decide) (fun c11 => absurd c11 (by omega)) (fun _ => ?_)
      refine z_bipush (v := 27) X dX7_lengthen_32 (by decide) ?_
      refine z_goto (tgt := 39) X dX7_lengthen_34 (by decide) ?_
      refine z_istore (i := 6) (lv' := [(6, zI 27), (5, zI 6), (4, zI ((sI u0 16) - 1)), (0, .ref (a 9)), (1, zI p1), (2, zI p2), (3, zI p3)]) X hl (by decide) dX7_lengthen_39 rfl (fun ls hl => ?_)
      refine z_iload_n X hl 5 rfl rfl dX7_lengthen_41 ?_
      refine z_aload_n X hl 3 rfl rfl dX7_lengthen_42 ?_
      refine gC_X7_places X K h q_285 dX7_lengthen_43 ?_
      refine z_iload X hl 2 rfl dX7_lengthen_46 ?_
      obtain ⟨h12, h13, hw⟩ := hw
      refine lC_9 (x := sA u0 9 ((sI u0 16) - 1)) X K h h12 h13 rfl dX7_lengthen_48 ?_
      refine z_isub X dX7_lengthen_49 ?_
      refine z_iload X hl 1 rfl dX7_lengthen_50 ?_
      obtain ⟨h14, hw⟩ := hw
      refine z_icmp_lt (tgt := 66) X h14 (by decide) dX7_lengthen_52 (by decide) (fun c15 => ?_) (fun c15 => ?_)
      · replace hw := hw.1 c15
        refine z_aload_n X hl 3 rfl rfl dX7_lengthen_66 ?_
        refine gC_X7_numbers X K h q_284 dX7_lengthen_67 ?_
        refine z_iload X hl 2 rfl dX7_lengthen_70 ?_
        refine z_aload_n X hl 3 rfl rfl dX7_lengthen_72 ?_
        refine gC_X7_numbers X K h q_284 dX7_lengthen_73 ?_
        refine z_iload X hl 2 rfl dX7_lengthen_76 ?_
        refine lC_8 (x := sA u0 8 ((sI u0 16) - 1)) X K h h12 h13 rfl dX7_lengthen_78 ?_
        refine z_iload X hl 0 rfl dX7_lengthen_79 ?_
        refine z_imul X dX7_lengthen_81 ?_
        refine z_iload_n X hl 4 rfl rfl dX7_lengthen_82 ?_
        refine z_iload_n X hl 6 rfl rfl dX7_lengthen_83 ?_
        refine r_callSi (rest := [zI ((sA u0 8 ((sI u0 16) - 1)) * 27), zI ((sI u0 16) - 1), .ref (a 19)]) X K g h (ct_X7_digitOf (w := WC G a u0) p1 p3 _ hw) lk_X7_50 ⟨rfl, rfl⟩ ⟨Nat.le_of_ble_eq_true rfl, Nat.le_of_ble_eq_true rfl⟩ rfl (lv_size hl) rfl (Nat.le_of_ble_eq_true rfl) dX7_lengthen_84 ⟨Nat.le_of_ble_eq_true rfl, Nat.le_of_ble_eq_true rfl⟩ (fun z16 w' H locs hp h => ?_)
        obtain ⟨rfl, hw⟩ := hp
        refine z_iadd X dX7_lengthen_87 ?_
        refine sC_8 X K h h12 h13 dX7_lengthen_88 (fun H locs h => ?_)
        exact r_vret X hr hlk K h (Nat.le_refl _) (Nat.le_refl _) dX7_lengthen_89 ⟨_, rfl, hw⟩
      · replace hw := hw.2 c15
        refine z_aload_n X hl 3 rfl rfl dX7_lengthen_55 ?_
        refine gC_X7_kinds X K h q_283 dX7_lengthen_56 ?_
        refine z_iload X hl 2 rfl dX7_lengthen_59 ?_
        refine z_iconst X dX7_lengthen_61 ?_
        refine sC_7 X K h h12 h13 dX7_lengthen_62 (fun H locs h => ?_)
        refine z_goto (tgt := 89) X dX7_lengthen_63 (by decide) ?_
        exact r_vret X hr hlk K h (Nat.le_refl _) (Nat.le_refl _) dX7_lengthen_89 ⟨_, rfl, hw⟩
  · replace hw := hw.2 c2
    exact r_vret X hr hlk K h (Nat.le_refl _) (Nat.le_refl _) dX7_lengthen_13 ⟨_, rfl, hw⟩
def w_X7_begin (post : St → Prop) (u0 : St) (p1 : Int) (p2 : Int) (p3 : Int) : Prop :=
(InR (sI u0 16)) ∧ ((300 ≤ sI u0 16 → post u0) ∧
 (¬ 300 ≤ sI u0 16 → (0 ≤ sI u0 16) ∧ (sI u0 16 < 300) ∧ (w_X7_digitOf (fun (z5 : Int) => post (pI (pA (pA (pA u0 7 (sI u0 16) p1) 8 (sI u0 16) z5) 9 (sI u0 16) p2) 16 ((sI u0 16) + 1))) p1 p3)))
abbrev rm_X7_begin : Room := { frames := 1, cells := 0, slots := 0, locals := 21 }
set_option maxRecDepth 100000 in
set_option maxHeartbeats 4000000 in
theorem ct_X7_begin {l : Launch} {G : Gr} {a : Nat → Nat} (u0 : St) (p1 : Int) (p2 : Int) (p3 : Int) (post : St → Prop) (hw : w_X7_begin post u0 p1 p2 p3) : CtV l G yX7_begin (ws_ yX7_begin cX7_begin 4 (none)) rm_X7_begin [.ref (a 9), zI p1, zI p2, zI p3] (WC G a u0) 0 0 (PoV (WC G a) post) := by
  refine CtV.of (by decide) (Nat.le_of_ble_eq_true rfl) ?_
  intro p e s m args below meth c ls X hr hlk K g h hl
  have hl : lv_has ls 4 [(0, .ref (a 9)), (1, zI p1), (2, zI p2), (3, zI p3)] := hl
  obtain ⟨H, hH⟩ : ∃ H, H = s.heap := ⟨_, rfl⟩
  obtain ⟨locs, hL⟩ : ∃ L : List Loc, L = [] := ⟨_, rfl⟩
  replace h : HW G (va_A (WC G a u0) s.heap.size) s.heap (WC G a u0) H locs := by rw [hH, hL]; exact h
  suffices hg : W p l e rm_X7_begin s m args below meth c H locs 0 0 (EndV G (WC G a u0) (PoV (WC G a) post) args s 0 0 below) (F0 m 0 ls []) by rw [hH, hL] at hg; exact hg
  clear hH hL
  refine z_aload_n X hl 0 rfl rfl dX7_begin_0 ?_
  refine gC_X7_count (x := sI u0 16) X K h rfl q_289 dX7_begin_1 ?_
  refine z_sipush (v := 300) X dX7_begin_4 (by decide) ?_
  obtain ⟨h1, hw⟩ := hw
  refine z_icmp_ge (tgt := 54) X h1 (by decide) dX7_begin_7 (by decide) (fun c2 => ?_) (fun c2 => ?_)
  · replace hw := hw.1 c2
    exact r_vret X hr hlk K h (Nat.le_refl _) (Nat.le_refl _) dX7_begin_54 ⟨_, rfl, hw⟩
  · replace hw := hw.2 c2
    refine z_aload_n X hl 0 rfl rfl dX7_begin_10 ?_
    refine gC_X7_kinds X K h q_283 dX7_begin_11 ?_
    refine z_aload_n X hl 0 rfl rfl dX7_begin_14 ?_
    refine gC_X7_count (x := sI u0 16) X K h rfl q_289 dX7_begin_15 ?_
    refine z_iload_n X hl 1 rfl rfl dX7_begin_18 ?_
    obtain ⟨h3, h4, hw⟩ := hw
    refine sC_7 X K h h3 h4 dX7_begin_19 (fun H locs h => ?_)
    refine z_aload_n X hl 0 rfl rfl dX7_begin_20 ?_
    refine gC_X7_numbers X K h q_284 dX7_begin_21 ?_
    refine z_aload_n X hl 0 rfl rfl dX7_begin_24 ?_
    refine gC_X7_count (x := sI u0 16) X K h rfl q_289 dX7_begin_25 ?_
    refine z_iload_n X hl 1 rfl rfl dX7_begin_28 ?_
    refine z_iload_n X hl 3 rfl rfl dX7_begin_29 ?_
    refine r_callSi (rest := [zI (sI u0 16), .ref (a 19)]) X K g h (ct_X7_digitOf (w := WC G a (pA u0 7 (sI u0 16) p1)) p1 p3 _ hw) lk_X7_50 ⟨rfl, rfl⟩ ⟨Nat.le_of_ble_eq_true rfl, Nat.le_of_ble_eq_true rfl⟩ rfl (lv_size hl) rfl (Nat.le_of_ble_eq_true rfl) dX7_begin_30 ⟨Nat.le_of_ble_eq_true rfl, Nat.le_of_ble_eq_true rfl⟩ (fun z5 w' H locs hp h => ?_)
    obtain ⟨rfl, hw⟩ := hp
    refine sC_8 X K h h3 h4 dX7_begin_33 (fun H locs h => ?_)
    refine z_aload_n X hl 0 rfl rfl dX7_begin_34 ?_
    refine gC_X7_places X K h q_285 dX7_begin_35 ?_
    refine z_aload_n X hl 0 rfl rfl dX7_begin_38 ?_
    refine gC_X7_count (x := sI u0 16) X K h rfl q_289 dX7_begin_39 ?_
    refine z_iload_n X hl 2 rfl rfl dX7_begin_42 ?_
    refine sC_9 X K h h3 h4 dX7_begin_43 (fun H locs h => ?_)
    refine z_aload_n X hl 0 rfl rfl dX7_begin_44 ?_
    refine z_dup X rfl dX7_begin_45 ?_
    refine gC_X7_count (x := sI u0 16) X K h rfl q_289 dX7_begin_46 ?_
    refine z_iconst X dX7_begin_49 ?_
    refine z_iadd X dX7_begin_50 ?_
    refine pC_X7_count X K h q_289 dX7_begin_51 (fun H locs h => ?_)
    exact r_vret X hr hlk K h (Nat.le_refl _) (Nat.le_refl _) dX7_begin_54 ⟨_, rfl, hw⟩
def b_X7_split_9 (post : St → Prop) (K9 : St × Int × Int → Prop) (u1 : St) (x2_2 : Int) (x3_3 : Int) : Prop :=
(InR x3_3) ∧ (InR (sI u1 14)) ∧ ((sI u1 14 ≤ x3_3 → post u1) ∧
 (¬ sI u1 14 ≤ x3_3 → ((300 ≤ x3_3 → post u1) ∧
 (¬ 300 ≤ x3_3 → (0 ≤ x3_3) ∧ (x3_3 < 300) ∧ (w_X7_kindOfByte (fun (z10 : Int) => (InR z10) ∧ (InR x2_2) ∧ ((¬ z10 = x2_2 → ((z10 = 3 → K9 (u1, z10, x3_3 + 1)) ∧
 (¬ z10 = 3 → (w_X7_begin (fun  (u15 : St) => K9 (u15, z10, x3_3 + 1)) u1 z10 x3_3 (sA u1 6 x3_3))))) ∧
 (z10 = x2_2 → ((z10 = 1 → (w_X7_lengthen (fun  (u17 : St) => K9 (u17, z10, x3_3 + 1)) u1 z10 x3_3 (sA u1 6 x3_3))) ∧
 (¬ z10 = 1 → ((¬ z10 = 2 → ((z10 = 3 → K9 (u1, z10, x3_3 + 1)) ∧
 (¬ z10 = 3 → (w_X7_begin (fun  (u20 : St) => K9 (u20, z10, x3_3 + 1)) u1 z10 x3_3 (sA u1 6 x3_3))))) ∧
 (z10 = 2 → (w_X7_lengthen (fun  (u21 : St) => K9 (u21, z10, x3_3 + 1)) u1 z10 x3_3 (sA u1 6 x3_3))))))))) (sA u1 6 x3_3))))))
def B_X7_split_9 (post : St → Prop) : (St × Int × Int → Prop) → St × Int × Int → Prop := fun K t => b_X7_split_9 post K t.1 t.2.1 t.2.2
def w_X7_split (post : St → Prop) (u0 : St) : Prop :=
(∃ n : Nat, Lp (B_X7_split_9 post) n ((pI u0 16 0), 3, 0))
abbrev rm_X7_split : Room := { frames := 2, cells := 0, slots := 0, locals := 47 }
set_option maxRecDepth 100000 in
set_option maxHeartbeats 4000000 in
theorem ct_X7_split {l : Launch} {G : Gr} {a : Nat → Nat} (u0 : St) (post : St → Prop) (hw : w_X7_split post u0) : CtV l G yX7_split (ws_ yX7_split cX7_split 6 (none)) rm_X7_split [.ref (a 9), .ref (a 8)] (WC G a u0) 0 0 (PoV (WC G a) post) := by
  refine CtV.of (by decide) (Nat.le_of_ble_eq_true rfl) ?_
  intro p e s m args below meth c ls X hr hlk K g h hl
  have hl : lv_has ls 6 [(0, .ref (a 9)), (1, .ref (a 8))] := hl
  obtain ⟨H, hH⟩ : ∃ H, H = s.heap := ⟨_, rfl⟩
  obtain ⟨locs, hL⟩ : ∃ L : List Loc, L = [] := ⟨_, rfl⟩
  replace h : HW G (va_A (WC G a u0) s.heap.size) s.heap (WC G a u0) H locs := by rw [hH, hL]; exact h
  suffices hg : W p l e rm_X7_split s m args below meth c H locs 0 0 (EndV G (WC G a u0) (PoV (WC G a) post) args s 0 0 below) (F0 m 0 ls []) by rw [hH, hL] at hg; exact hg
  clear hH hL
  refine z_aload_n X hl 0 rfl rfl dX7_split_0 ?_
  refine z_iconst X dX7_split_1 ?_
  refine pC_X7_count X K h q_289 dX7_split_2 (fun H locs h => ?_)
  refine z_iconst X dX7_split_5 ?_
  refine z_istore_n (i := 2) (lv' := [(2, zI 3), (0, .ref (a 9)), (1, .ref (a 8))]) X hl rfl (by decide) dX7_split_6 rfl (fun ls hl => ?_)
  refine z_iconst X dX7_split_7 ?_
  refine z_istore_n (i := 3) (lv' := [(3, zI 0), (2, zI 3), (0, .ref (a 9)), (1, .ref (a 8))]) X hl rfl (by decide) dX7_split_8 rfl (fun ls hl => ?_)
  obtain ⟨n9, hw⟩ := hw
  have key9 : ∀ (n : Nat) (t : St × Int × Int) (H : Heap) (locs : List Loc) (ls : Array Slot), Lp (B_X7_split_9 post) n t → HW G (va_A (WC G a u0) s.heap.size) s.heap (WC G a t.1) H locs → lv_has ls 6 [(0, .ref (a 9)), (1, .ref (a 8)), (2, zI t.2.1), (3, zI t.2.2)] → W p l e rm_X7_split s m args below meth c H locs 0 0 (EndV G (WC G a u0) (PoV (WC G a) post) args s 0 0 below) (F0 m 9 ls []) := by
    intro n
    induction n with
    | zero =>
      intro t H locs ls hw
      exact hw.elim
    | succ n9 ih9 =>
      rintro ⟨u1, x2_2, x3_3⟩ H locs ls hw h hl
      replace hw : b_X7_split_9 post (Lp (B_X7_split_9 post) n9) u1 x2_2 x3_3 := hw
      refine z_iload_n X hl 3 rfl rfl dX7_split_9 ?_
      refine z_aload_n X hl 1 rfl rfl dX7_split_10 ?_
      refine gC_X8_length (x := sI u1 14) X K h rfl q_270 dX7_split_11 ?_
      obtain ⟨h4, h5, hw⟩ := hw
      refine z_icmp_ge (tgt := 93) X h4 h5 dX7_split_14 (by decide) (fun c6 => ?_) (fun c6 => ?_)
      · replace hw := hw.1 c6
        exact r_vret X hr hlk K h (Nat.le_refl _) (Nat.le_refl _) dX7_split_93 ⟨_, rfl, hw⟩
      · replace hw := hw.2 c6
        refine z_iload_n X hl 3 rfl rfl dX7_split_17 ?_
        refine z_sipush (v := 300) X dX7_split_18 (by decide) ?_
        refine z_icmp_ge (tgt := 93) X h4 (by decide) dX7_split_21 (by decide) (fun c7 => ?_) (fun c7 => ?_)
        · replace hw := hw.1 c7
          exact r_vret X hr hlk K h (Nat.le_refl _) (Nat.le_refl _) dX7_split_93 ⟨_, rfl, hw⟩
        · replace hw := hw.2 c7
          refine z_aload_n X hl 1 rfl rfl dX7_split_24 ?_
          refine gC_X8_bytes X K h q_268 dX7_split_25 ?_
          refine z_iload_n X hl 3 rfl rfl dX7_split_28 ?_
          obtain ⟨h8, h9, hw⟩ := hw
          refine lC_6 (x := sA u1 6 x3_3) X K h h8 h9 rfl dX7_split_29 ?_
          refine z_istore (i := 4) (lv' := [(4, zI (sA u1 6 x3_3)), (0, .ref (a 9)), (1, .ref (a 8)), (2, zI x2_2), (3, zI x3_3)]) X hl (by decide) dX7_split_30 rfl (fun ls hl => ?_)
          refine z_iload X hl 0 rfl dX7_split_32 ?_
          refine r_callSi (rest := []) X K g h (ct_X7_kindOfByte (w := WC G a u1) (sA u1 6 x3_3) _ hw) lk_X7_39 ⟨rfl, rfl⟩ ⟨Nat.le_of_ble_eq_true rfl, Nat.le_of_ble_eq_true rfl⟩ rfl (lv_size hl) rfl (Nat.le_of_ble_eq_true rfl) dX7_split_34 ⟨Nat.le_of_ble_eq_true rfl, Nat.le_of_ble_eq_true rfl⟩ (fun z10 w' H locs hp h => ?_)
          obtain ⟨rfl, hw⟩ := hp
          refine z_istore (i := 5) (lv' := [(5, zI z10), (4, zI (sA u1 6 x3_3)), (0, .ref (a 9)), (1, .ref (a 8)), (2, zI x2_2), (3, zI x3_3)]) X hl (by decide) dX7_split_37 rfl (fun ls hl => ?_)
          refine z_iload X hl 0 rfl dX7_split_39 ?_
          refine z_iload_n X hl 4 rfl rfl dX7_split_41 ?_
          obtain ⟨h11, h12, hw⟩ := hw
          refine z_icmp_ne (tgt := 69) X h11 h12 dX7_split_42 (by decide) (fun c13 => ?_) (fun c13 => ?_)
          · replace hw := hw.1 c13
            refine z_iload X hl 0 rfl dX7_split_69 ?_
            refine z_iconst X dX7_split_71 ?_
            refine z_icmp_eq (tgt := 84) X h11 (by decide) dX7_split_72 (by decide) (fun c14 => ?_) (fun c14 => ?_)
            · replace hw := hw.1 c14
              refine z_iload X hl 0 rfl dX7_split_84 ?_
              refine z_istore_n (i := 2) (lv' := [(2, zI z10), (5, zI z10), (4, zI (sA u1 6 x3_3)), (0, .ref (a 9)), (1, .ref (a 8)), (3, zI x3_3)]) X hl rfl (by decide) dX7_split_86 rfl (fun ls hl => ?_)
              refine z_iinc (lv' := [(3, zI (x3_3 + 1)), (2, zI z10), (5, zI z10), (4, zI (sA u1 6 x3_3)), (0, .ref (a 9)), (1, .ref (a 8))]) X hl 5 rfl (by decide) dX7_split_87 rfl (fun ls hl => ?_)
              refine z_goto (tgt := 9) X dX7_split_90 (by decide) ?_
              exact ih9 (u1, z10, x3_3 + 1) H locs ls hw h (lv_sub hl [4, 5, 1, 0] rfl)
            · replace hw := hw.2 c14
              refine z_aload_n X hl 2 rfl rfl dX7_split_75 ?_
              refine z_iload X hl 0 rfl dX7_split_76 ?_
              refine z_iload_n X hl 5 rfl rfl dX7_split_78 ?_
              refine z_iload X hl 1 rfl dX7_split_79 ?_
              refine r_callVv (rest := []) X K g h (ct_X7_begin u1 z10 x3_3 (sA u1 6 x3_3) _ hw) lk_X7_47 9 rfl rfl ⟨rfl, rfl⟩ ⟨Nat.le_of_ble_eq_true rfl, Nat.le_of_ble_eq_true rfl⟩ rfl (lv_size hl) rfl (Nat.le_of_ble_eq_true rfl) dX7_split_81 ⟨Nat.le_of_ble_eq_true rfl, Nat.le_of_ble_eq_true rfl⟩ (fun w' H locs hp h => ?_)
              obtain ⟨u15, rfl, hw⟩ := hp
              refine z_iload X hl 0 rfl dX7_split_84 ?_
              refine z_istore_n (i := 2) (lv' := [(2, zI z10), (5, zI z10), (4, zI (sA u1 6 x3_3)), (0, .ref (a 9)), (1, .ref (a 8)), (3, zI x3_3)]) X hl rfl (by decide) dX7_split_86 rfl (fun ls hl => ?_)
              refine z_iinc (lv' := [(3, zI (x3_3 + 1)), (2, zI z10), (5, zI z10), (4, zI (sA u1 6 x3_3)), (0, .ref (a 9)), (1, .ref (a 8))]) X hl 5 rfl (by decide) dX7_split_87 rfl (fun ls hl => ?_)
              refine z_goto (tgt := 9) X dX7_split_90 (by decide) ?_
              exact ih9 (u15, z10, x3_3 + 1) H locs ls hw h (lv_sub hl [4, 5, 1, 0] rfl)
          · replace hw := hw.2 c13
            refine z_iload X hl 0 rfl dX7_split_45 ?_
            refine z_iconst X dX7_split_47 ?_
            refine z_icmp_eq (tgt := 57) X h11 (by decide) dX7_split_48 (by decide) (fun c16 => ?_) (fun c16 => ?_)
            · replace hw := hw.1 c16
              refine z_aload_n X hl 2 rfl rfl dX7_split_57 ?_
              refine z_iload X hl 0 rfl dX7_split_58 ?_
              refine z_iload_n X hl 5 rfl rfl dX7_split_60 ?_
              refine z_iload X hl 1 rfl dX7_split_61 ?_
              refine r_callVv (rest := []) X K g h (ct_X7_lengthen u1 z10 x3_3 (sA u1 6 x3_3) _ hw) lk_X7_43 9 rfl rfl ⟨rfl, rfl⟩ ⟨Nat.le_of_ble_eq_true rfl, Nat.le_of_ble_eq_true rfl⟩ rfl (lv_size hl) rfl (Nat.le_of_ble_eq_true rfl) dX7_split_63 ⟨Nat.le_of_ble_eq_true rfl, Nat.le_of_ble_eq_true rfl⟩ (fun w' H locs hp h => ?_)
              obtain ⟨u17, rfl, hw⟩ := hp
              refine z_goto (tgt := 84) X dX7_split_66 (by decide) ?_
              refine z_iload X hl 0 rfl dX7_split_84 ?_
              refine z_istore_n (i := 2) (lv' := [(2, zI z10), (5, zI z10), (4, zI (sA u1 6 x3_3)), (0, .ref (a 9)), (1, .ref (a 8)), (3, zI x3_3)]) X hl rfl (by decide) dX7_split_86 rfl (fun ls hl => ?_)
              refine z_iinc (lv' := [(3, zI (x3_3 + 1)), (2, zI z10), (5, zI z10), (4, zI (sA u1 6 x3_3)), (0, .ref (a 9)), (1, .ref (a 8))]) X hl 5 rfl (by decide) dX7_split_87 rfl (fun ls hl => ?_)
              refine z_goto (tgt := 9) X dX7_split_90 (by decide) ?_
              exact ih9 (u17, z10, x3_3 + 1) H locs ls hw h (lv_sub hl [4, 5, 1, 0] rfl)
            · replace hw := hw.2 c16
              refine z_iload X hl 0 rfl dX7_split_51 ?_
              refine z_iconst X dX7_split_53 ?_
              refine z_icmp_ne (tgt := 69) X h11 (by decide) dX7_split_54 (by decide) (fun c18 => ?_) (fun c18 => ?_)
              · replace hw := hw.1 c18
                refine z_iload X hl 0 rfl dX7_split_69 ?_
                refine z_iconst X dX7_split_71 ?_
                refine z_icmp_eq (tgt := 84) X h11 (by decide) dX7_split_72 (by decide) (fun c19 => ?_) (fun c19 => ?_)
                · replace hw := hw.1 c19
                  refine z_iload X hl 0 rfl dX7_split_84 ?_
                  refine z_istore_n (i := 2) (lv' := [(2, zI z10), (5, zI z10), (4, zI (sA u1 6 x3_3)), (0, .ref (a 9)), (1, .ref (a 8)), (3, zI x3_3)]) X hl rfl (by decide) dX7_split_86 rfl (fun ls hl => ?_)
                  refine z_iinc (lv' := [(3, zI (x3_3 + 1)), (2, zI z10), (5, zI z10), (4, zI (sA u1 6 x3_3)), (0, .ref (a 9)), (1, .ref (a 8))]) X hl 5 rfl (by decide) dX7_split_87 rfl (fun ls hl => ?_)
                  refine z_goto (tgt := 9) X dX7_split_90 (by decide) ?_
                  exact ih9 (u1, z10, x3_3 + 1) H locs ls hw h (lv_sub hl [4, 5, 1, 0] rfl)
                · replace hw := hw.2 c19
                  refine z_aload_n X hl 2 rfl rfl dX7_split_75 ?_
                  refine z_iload X hl 0 rfl dX7_split_76 ?_
                  refine z_iload_n X hl 5 rfl rfl dX7_split_78 ?_
                  refine z_iload X hl 1 rfl dX7_split_79 ?_
                  refine r_callVv (rest := []) X K g h (ct_X7_begin u1 z10 x3_3 (sA u1 6 x3_3) _ hw) lk_X7_47 9 rfl rfl ⟨rfl, rfl⟩ ⟨Nat.le_of_ble_eq_true rfl, Nat.le_of_ble_eq_true rfl⟩ rfl (lv_size hl) rfl (Nat.le_of_ble_eq_true rfl) dX7_split_81 ⟨Nat.le_of_ble_eq_true rfl, Nat.le_of_ble_eq_true rfl⟩ (fun w' H locs hp h => ?_)
                  obtain ⟨u20, rfl, hw⟩ := hp
                  refine z_iload X hl 0 rfl dX7_split_84 ?_
                  refine z_istore_n (i := 2) (lv' := [(2, zI z10), (5, zI z10), (4, zI (sA u1 6 x3_3)), (0, .ref (a 9)), (1, .ref (a 8)), (3, zI x3_3)]) X hl rfl (by decide) dX7_split_86 rfl (fun ls hl => ?_)
                  refine z_iinc (lv' := [(3, zI (x3_3 + 1)), (2, zI z10), (5, zI z10), (4, zI (sA u1 6 x3_3)), (0, .ref (a 9)), (1, .ref (a 8))]) X hl 5 rfl (by decide) dX7_split_87 rfl (fun ls hl => ?_)
                  refine z_goto (tgt := 9) X dX7_split_90 (by decide) ?_
                  exact ih9 (u20, z10, x3_3 + 1) H locs ls hw h (lv_sub hl [4, 5, 1, 0] rfl)
              · replace hw := hw.2 c18
                refine z_aload_n X hl 2 rfl rfl dX7_split_57 ?_
                refine z_iload X hl 0 rfl dX7_split_58 ?_
                refine z_iload_n X hl 5 rfl rfl dX7_split_60 ?_
                refine z_iload X hl 1 rfl dX7_split_61 ?_
                refine r_callVv (rest := []) X K g h (ct_X7_lengthen u1 z10 x3_3 (sA u1 6 x3_3) _ hw) lk_X7_43 9 rfl rfl ⟨rfl, rfl⟩ ⟨Nat.le_of_ble_eq_true rfl, Nat.le_of_ble_eq_true rfl⟩ rfl (lv_size hl) rfl (Nat.le_of_ble_eq_true rfl) dX7_split_63 ⟨Nat.le_of_ble_eq_true rfl, Nat.le_of_ble_eq_true rfl⟩ (fun w' H locs hp h => ?_)
                obtain ⟨u21, rfl, hw⟩ := hp
                refine z_goto (tgt := 84) X dX7_split_66 (by decide) ?_
                refine z_iload X hl 0 rfl dX7_split_84 ?_
                refine z_istore_n (i := 2) (lv' := [(2, zI z10), (5, zI z10), (4, zI (sA u1 6 x3_3)), (0, .ref (a 9)), (1, .ref (a 8)), (3, zI x3_3)]) X hl rfl (by decide) dX7_split_86 rfl (fun ls hl => ?_)
                refine z_iinc (lv' := [(3, zI (x3_3 + 1)), (2, zI z10), (5, zI z10), (4, zI (sA u1 6 x3_3)), (0, .ref (a 9)), (1, .ref (a 8))]) X hl 5 rfl (by decide) dX7_split_87 rfl (fun ls hl => ?_)
                refine z_goto (tgt := 9) X dX7_split_90 (by decide) ?_
                exact ih9 (u21, z10, x3_3 + 1) H locs ls hw h (lv_sub hl [4, 5, 1, 0] rfl)
  exact key9 n9 ((pI u0 16 0), 3, 0) H locs ls hw h (lv_sub hl [2, 3, 1, 0] rfl)
def b_X7_misfitOfWords_2 (post : Int → Prop) (u2 : St) (K2 : Int → Prop) (x1_1 : Int) : Prop :=
(InR x1_1) ∧ (InR (sI u2 16)) ∧ ((sI u2 16 ≤ x1_1 → post (-1)) ∧
 (¬ sI u2 16 ≤ x1_1 → (0 ≤ x1_1) ∧ (x1_1 < 300) ∧ (InR (sA u2 7 x1_1)) ∧ ((¬ sA u2 7 x1_1 = 1 → post (sA u2 9 x1_1)) ∧
 (sA u2 7 x1_1 = 1 → ((x1_1 < 100 → K2 (x1_1 + 1)) ∧
 (¬ x1_1 < 100 → post (sA u2 9 x1_1)))))))
def B_X7_misfitOfWords_2 (post : Int → Prop) (u2 : St) : (Int → Prop) → Int → Prop := fun K t => b_X7_misfitOfWords_2 post u2 K t
def w_X7_misfitOfWords (post : Int → Prop) (u0 : St) : Prop :=
(∃ n : Nat, Lp (B_X7_misfitOfWords_2 post u0) n 0)
abbrev rm_X7_misfitOfWords : Room := { frames := 0, cells := 0, slots := 0, locals := 0 }
set_option maxRecDepth 100000 in
set_option maxHeartbeats 4000000 in
theorem ct_X7_misfitOfWords {l : Launch} {G : Gr} {a : Nat → Nat} (u0 : St) (post : Int → Prop) (hw : w_X7_misfitOfWords post u0) : Ct l G yX7_misfitOfWords (ws_ yX7_misfitOfWords cX7_misfitOfWords 2 (some .int)) rm_X7_misfitOfWords [.ref (a 9)] (WC G a u0) 0 0 (PoP (WC G a u0) post) := by
  refine Ct.of (by decide) (Nat.le_of_ble_eq_true rfl) ?_
  intro p e s m args below meth c ls X hr hlk K g h hl
  have hl : lv_has ls 2 [(0, .ref (a 9))] := hl
  obtain ⟨H, hH⟩ : ∃ H, H = s.heap := ⟨_, rfl⟩
  obtain ⟨locs, hL⟩ : ∃ L : List Loc, L = [] := ⟨_, rfl⟩
  replace h : HW G (va_A (WC G a u0) s.heap.size) s.heap (WC G a u0) H locs := by rw [hH, hL]; exact h
  suffices hg : W p l e rm_X7_misfitOfWords s m args below meth c H locs 0 0 (EndI G (WC G a u0) (PoP (WC G a u0) post) args s 0 0 below) (F0 m 0 ls []) by rw [hH, hL] at hg; exact hg
  clear hH hL
  refine z_iconst X dX7_misfitOfWords_0 ?_
  refine z_istore_n (i := 1) (lv' := [(1, zI 0), (0, .ref (a 9))]) X hl rfl (by decide) dX7_misfitOfWords_1 rfl (fun ls hl => ?_)
  obtain ⟨n2, hw⟩ := hw
  have key2 : ∀ (n : Nat) (t : Int) (H : Heap) (locs : List Loc) (ls : Array Slot), Lp (B_X7_misfitOfWords_2 post u0) n t → HW G (va_A (WC G a u0) s.heap.size) s.heap (WC G a u0) H locs → lv_has ls 2 [(0, .ref (a 9)), (1, zI t)] → W p l e rm_X7_misfitOfWords s m args below meth c H locs 0 0 (EndI G (WC G a u0) (PoP (WC G a u0) post) args s 0 0 below) (F0 m 2 ls []) := by
    intro n
    induction n with
    | zero =>
      intro t H locs ls hw
      exact hw.elim
    | succ n2 ih2 =>
      intro x1_1 H locs ls hw h hl
      replace hw : b_X7_misfitOfWords_2 post u0 (Lp (B_X7_misfitOfWords_2 post u0) n2) x1_1 := hw
      refine z_iload_n X hl 1 rfl rfl dX7_misfitOfWords_2 ?_
      refine z_aload_n X hl 0 rfl rfl dX7_misfitOfWords_3 ?_
      refine gC_X7_count (x := sI u0 16) X K h rfl q_289 dX7_misfitOfWords_4 ?_
      obtain ⟨h3, h4, hw⟩ := hw
      refine z_icmp_ge (tgt := 39) X h3 h4 dX7_misfitOfWords_7 (by decide) (fun c5 => ?_) (fun c5 => ?_)
      · replace hw := hw.1 c5
        refine z_iconst X dX7_misfitOfWords_39 ?_
        exact r_iret X hr hlk K h (Nat.le_refl _) (Nat.le_refl _) dX7_misfitOfWords_40 ⟨rfl, hw⟩
      · replace hw := hw.2 c5
        refine z_aload_n X hl 0 rfl rfl dX7_misfitOfWords_10 ?_
        refine gC_X7_kinds X K h q_283 dX7_misfitOfWords_11 ?_
        refine z_iload_n X hl 1 rfl rfl dX7_misfitOfWords_14 ?_
        obtain ⟨h6, h7, hw⟩ := hw
        refine lC_7 (x := sA u0 7 x1_1) X K h h6 h7 rfl dX7_misfitOfWords_15 ?_
        refine z_iconst X dX7_misfitOfWords_16 ?_
        obtain ⟨h8, hw⟩ := hw
        refine z_icmp_ne (tgt := 26) X h8 (by decide) dX7_misfitOfWords_17 (by decide) (fun c9 => ?_) (fun c9 => ?_)
        · replace hw := hw.1 c9
          refine z_aload_n X hl 0 rfl rfl dX7_misfitOfWords_26 ?_
          refine gC_X7_places X K h q_285 dX7_misfitOfWords_27 ?_
          refine z_iload_n X hl 1 rfl rfl dX7_misfitOfWords_30 ?_
          refine lC_9 (x := sA u0 9 x1_1) X K h h6 h7 rfl dX7_misfitOfWords_31 ?_
          exact r_iret X hr hlk K h (Nat.le_refl _) (Nat.le_refl _) dX7_misfitOfWords_32 ⟨rfl, hw⟩
        · replace hw := hw.2 c9
          refine z_iload_n X hl 1 rfl rfl dX7_misfitOfWords_20 ?_
          refine z_bipush (v := 100) X dX7_misfitOfWords_21 (by decide) ?_
          refine z_icmp_lt (tgt := 33) X h3 (by decide) dX7_misfitOfWords_23 (by decide) (fun c10 => ?_) (fun c10 => ?_)
          · replace hw := hw.1 c10
            refine z_iinc (lv' := [(1, zI (x1_1 + 1)), (0, .ref (a 9))]) X hl 1 rfl (by decide) dX7_misfitOfWords_33 rfl (fun ls hl => ?_)
            refine z_goto (tgt := 2) X dX7_misfitOfWords_36 (by decide) ?_
            exact ih2 (x1_1 + 1) H locs ls hw h (lv_sub hl [1, 0] rfl)
          · replace hw := hw.2 c10
            refine z_aload_n X hl 0 rfl rfl dX7_misfitOfWords_26 ?_
            refine gC_X7_places X K h q_285 dX7_misfitOfWords_27 ?_
            refine z_iload_n X hl 1 rfl rfl dX7_misfitOfWords_30 ?_
            refine lC_9 (x := sA u0 9 x1_1) X K h h6 h7 rfl dX7_misfitOfWords_31 ?_
            exact r_iret X hr hlk K h (Nat.le_refl _) (Nat.le_refl _) dX7_misfitOfWords_32 ⟨rfl, hw⟩
  exact key2 n2 0 H locs ls hw h (lv_sub hl [1, 0] rfl)
def w_X7_open (post : Int → St → Prop) (u0 : St) (p1 : Int) : Prop :=
(InR (sI u0 15)) ∧ ((sI u0 15 < 4 → (0 ≤ sI u0 15) ∧ (sI u0 15 < 4) ∧ post 0 (pI (pA u0 11 (sI u0 15) p1) 15 ((sI u0 15) + 1))) ∧
 (¬ sI u0 15 < 4 → post 4 u0))
abbrev rm_X7_open : Room := { frames := 0, cells := 0, slots := 0, locals := 0 }
set_option maxRecDepth 100000 in
set_option maxHeartbeats 4000000 in
theorem ct_X7_open {l : Launch} {G : Gr} {a : Nat → Nat} (u0 : St) (p1 : Int) (post : Int → St → Prop) (hw : w_X7_open post u0 p1) : Ct l G yX7_open (ws_ yX7_open cX7_open 2 (some .int)) rm_X7_open [.ref (a 9), zI p1] (WC G a u0) 0 0 (Po (WC G a) post) := by
  refine Ct.of (by decide) (Nat.le_of_ble_eq_true rfl) ?_
  intro p e s m args below meth c ls X hr hlk K g h hl
  have hl : lv_has ls 2 [(0, .ref (a 9)), (1, zI p1)] := hl
  obtain ⟨H, hH⟩ : ∃ H, H = s.heap := ⟨_, rfl⟩
  obtain ⟨locs, hL⟩ : ∃ L : List Loc, L = [] := ⟨_, rfl⟩
  replace h : HW G (va_A (WC G a u0) s.heap.size) s.heap (WC G a u0) H locs := by rw [hH, hL]; exact h
  suffices hg : W p l e rm_X7_open s m args below meth c H locs 0 0 (EndI G (WC G a u0) (Po (WC G a) post) args s 0 0 below) (F0 m 0 ls []) by rw [hH, hL] at hg; exact hg
  clear hH hL
  refine z_aload_n X hl 0 rfl rfl dX7_open_0 ?_
  refine gC_X7_openCount (x := sI u0 15) X K h rfl q_288 dX7_open_1 ?_
  refine z_iconst X dX7_open_4 ?_
  obtain ⟨h1, hw⟩ := hw
  refine z_icmp_lt (tgt := 10) X h1 (by decide) dX7_open_5 (by decide) (fun c2 => ?_) (fun c2 => ?_)
  · replace hw := hw.1 c2
    refine z_aload_n X hl 0 rfl rfl dX7_open_10 ?_
    refine gC_X7_opened X K h q_287 dX7_open_11 ?_
    refine z_aload_n X hl 0 rfl rfl dX7_open_14 ?_
    refine gC_X7_openCount (x := sI u0 15) X K h rfl q_288 dX7_open_15 ?_
    refine z_iload_n X hl 1 rfl rfl dX7_open_18 ?_
    obtain ⟨h3, h4, hw⟩ := hw
    refine sC_11 X K h h3 h4 dX7_open_19 (fun H locs h => ?_)
    refine z_aload_n X hl 0 rfl rfl dX7_open_20 ?_
    refine z_dup X rfl dX7_open_21 ?_
    refine gC_X7_openCount (x := sI u0 15) X K h rfl q_288 dX7_open_22 ?_
    refine z_iconst X dX7_open_25 ?_
    refine z_iadd X dX7_open_26 ?_
    refine pC_X7_openCount X K h q_288 dX7_open_27 (fun H locs h => ?_)
    refine z_iconst X dX7_open_30 ?_
    exact r_iret X hr hlk K h (Nat.le_refl _) (Nat.le_refl _) dX7_open_31 ⟨_, rfl, hw⟩
  · replace hw := hw.2 c2
    refine z_iconst X dX7_open_8 ?_
    exact r_iret X hr hlk K h (Nat.le_refl _) (Nat.le_refl _) dX7_open_9 ⟨_, rfl, hw⟩
def w_X7_close (post : Int → St → Prop) (u0 : St) (p1 : Int) : Prop :=
(InR (sI u0 15)) ∧ ((1 ≤ sI u0 15 → (0 ≤ (sI u0 15) - 1) ∧ ((sI u0 15) - 1 < 4) ∧ (0 ≤ sA u0 11 ((sI u0 15) - 1)) ∧ (sA u0 11 ((sI u0 15) - 1) < 300) ∧ post 0 (pA (pI u0 15 ((sI u0 15) - 1)) 10 (sA u0 11 ((sI u0 15) - 1)) p1)) ∧
 (¬ 1 ≤ sI u0 15 → post 4 u0))
abbrev rm_X7_close : Room := { frames := 0, cells := 0, slots := 0, locals := 0 }
set_option maxRecDepth 100000 in
set_option maxHeartbeats 4000000 in
theorem ct_X7_close {l : Launch} {G : Gr} {a : Nat → Nat} (u0 : St) (p1 : Int) (post : Int → St → Prop) (hw : w_X7_close post u0 p1) : Ct l G yX7_close (ws_ yX7_close cX7_close 2 (some .int)) rm_X7_close [.ref (a 9), zI p1] (WC G a u0) 0 0 (Po (WC G a) post) := by
  refine Ct.of (by decide) (Nat.le_of_ble_eq_true rfl) ?_
  intro p e s m args below meth c ls X hr hlk K g h hl
  have hl : lv_has ls 2 [(0, .ref (a 9)), (1, zI p1)] := hl
  obtain ⟨H, hH⟩ : ∃ H, H = s.heap := ⟨_, rfl⟩
  obtain ⟨locs, hL⟩ : ∃ L : List Loc, L = [] := ⟨_, rfl⟩
  replace h : HW G (va_A (WC G a u0) s.heap.size) s.heap (WC G a u0) H locs := by rw [hH, hL]; exact h
  suffices hg : W p l e rm_X7_close s m args below meth c H locs 0 0 (EndI G (WC G a u0) (Po (WC G a) post) args s 0 0 below) (F0 m 0 ls []) by rw [hH, hL] at hg; exact hg
  clear hH hL
  refine z_aload_n X hl 0 rfl rfl dX7_close_0 ?_
  refine gC_X7_openCount (x := sI u0 15) X K h rfl q_288 dX7_close_1 ?_
  refine z_iconst X dX7_close_4 ?_
  obtain ⟨h1, hw⟩ := hw
  refine z_icmp_ge (tgt := 10) X h1 (by decide) dX7_close_5 (by decide) (fun c2 => ?_) (fun c2 => ?_)
  · replace hw := hw.1 c2
    refine z_aload_n X hl 0 rfl rfl dX7_close_10 ?_
    refine z_dup X rfl dX7_close_11 ?_
    refine gC_X7_openCount (x := sI u0 15) X K h rfl q_288 dX7_close_12 ?_
    refine z_iconst X dX7_close_15 ?_
    refine z_isub X dX7_close_16 ?_
    refine pC_X7_openCount X K h q_288 dX7_close_17 (fun H locs h => ?_)
    refine z_aload_n X hl 0 rfl rfl dX7_close_20 ?_
    refine gC_X7_ends X K h q_286 dX7_close_21 ?_
    refine z_aload_n X hl 0 rfl rfl dX7_close_24 ?_
    refine gC_X7_opened X K h q_287 dX7_close_25 ?_
    refine z_aload_n X hl 0 rfl rfl dX7_close_28 ?_
    refine gC_X7_openCount (x := (sI u0 15) - 1) X K h rfl q_288 dX7_close_29 ?_
    obtain ⟨h3, h4, hw⟩ := hw
    refine lC_11 (x := sA u0 11 ((sI u0 15) - 1)) X K h h3 h4 rfl dX7_close_32 ?_
    refine z_iload_n X hl 1 rfl rfl dX7_close_33 ?_
    obtain ⟨h5, h6, hw⟩ := hw
    refine sC_10 X K h h5 h6 dX7_close_34 (fun H locs h => ?_)
    refine z_iconst X dX7_close_35 ?_
    exact r_iret X hr hlk K h (Nat.le_refl _) (Nat.le_refl _) dX7_close_36 ⟨_, rfl, hw⟩
  · replace hw := hw.2 c2
    refine z_iconst X dX7_close_8 ?_
    exact r_iret X hr hlk K h (Nat.le_refl _) (Nat.le_refl _) dX7_close_9 ⟨_, rfl, hw⟩
def w_X7_beginAct (post : Int → St → Prop) (u0 : St) (p1 : Int) (p2 : Int) : Prop :=
(InR p2) ∧ ((p2 = 2 → (0 ≤ p1) ∧ (p1 < 300) ∧ (InR (sA u0 8 p1)) ∧ ((sA u0 8 p1 < 1 → post 4 u0) ∧
 (¬ sA u0 8 p1 < 1 → ((20 < sA u0 8 p1 → post 4 u0) ∧
 (¬ 20 < sA u0 8 p1 → post 3 u0))))) ∧
 (p2 = 37 ∨ p2 = 44 ∨ p2 = 45 ∨ p2 = 46 → (0 ≤ p1) ∧ (p1 < 300) ∧ post 0 (pA u0 10 p1 (p1 + 1))) ∧
 (p2 = 42 → post 3 u0) ∧
 (p2 = 43 ∨ p2 = 60 ∨ p2 = 61 ∨ p2 = 62 → (0 ≤ p1) ∧ (p1 < 300) ∧ post 1 (pA u0 10 p1 (p1 + 2))) ∧
 (p2 = 64 → (0 ≤ p1) ∧ (p1 < 300) ∧ post 2 (pA u0 10 p1 (p1 + 2))) ∧
 (¬ (p2 = 2 ∨ p2 = 37 ∨ p2 = 44 ∨ p2 = 45 ∨ p2 = 46 ∨ p2 = 42 ∨ p2 = 43 ∨ p2 = 60 ∨ p2 = 61 ∨ p2 = 62 ∨ p2 = 64) → post 4 u0))
abbrev rm_X7_beginAct : Room := { frames := 0, cells := 0, slots := 0, locals := 0 }
set_option maxRecDepth 100000 in
set_option maxHeartbeats 4000000 in
theorem ct_X7_beginAct {l : Launch} {G : Gr} {a : Nat → Nat} (u0 : St) (p1 : Int) (p2 : Int) (post : Int → St → Prop) (hw : w_X7_beginAct post u0 p1 p2) : Ct l G yX7_beginAct (ws_ yX7_beginAct cX7_beginAct 3 (some .int)) rm_X7_beginAct [.ref (a 9), zI p1, zI p2] (WC G a u0) 0 0 (Po (WC G a) post) := by
  refine Ct.of (by decide) (Nat.le_of_ble_eq_true rfl) ?_
  intro p e s m args below meth c ls X hr hlk K g h hl
  have hl : lv_has ls 3 [(0, .ref (a 9)), (1, zI p1), (2, zI p2)] := hl
  obtain ⟨H, hH⟩ : ∃ H, H = s.heap := ⟨_, rfl⟩
  obtain ⟨locs, hL⟩ : ∃ L : List Loc, L = [] := ⟨_, rfl⟩
  replace h : HW G (va_A (WC G a u0) s.heap.size) s.heap (WC G a u0) H locs := by rw [hH, hL]; exact h
  suffices hg : W p l e rm_X7_beginAct s m args below meth c H locs 0 0 (EndI G (WC G a u0) (Po (WC G a) post) args s 0 0 below) (F0 m 0 ls []) by rw [hH, hL] at hg; exact hg
  clear hH hL
  refine z_iload_n X hl 2 rfl rfl dX7_beginAct_0 ?_
  obtain ⟨h1, hw⟩ := hw
  by_cases c7 : p2 = 2
  · replace hw := hw.1 c7
    refine z_top c7 ?_
    refine lv_lookup (off := 134) (tgt := 135) X.1 X.2.1 dX7_beginAct_1 (by decide) (by decide) (by decide) ?_
    refine z_aload_n X hl 0 rfl rfl dX7_beginAct_135 ?_
    refine gC_X7_numbers X K h q_284 dX7_beginAct_136 ?_
    refine z_iload_n X hl 1 rfl rfl dX7_beginAct_139 ?_
    obtain ⟨h2, h3, hw⟩ := hw
    refine lC_8 (x := sA u0 8 p1) X K h h2 h3 rfl dX7_beginAct_140 ?_
    refine z_iconst X dX7_beginAct_141 ?_
    obtain ⟨h4, hw⟩ := hw
    refine z_icmp_lt (tgt := 160) X h4 (by decide) dX7_beginAct_142 (by decide) (fun c5 => ?_) (fun c5 => ?_)
    · replace hw := hw.1 c5
      refine z_iconst X dX7_beginAct_160 ?_
      exact r_iret X hr hlk K h (Nat.le_refl _) (Nat.le_refl _) dX7_beginAct_161 ⟨_, rfl, hw⟩
    · replace hw := hw.2 c5
      refine z_aload_n X hl 0 rfl rfl dX7_beginAct_145 ?_
      refine gC_X7_numbers X K h q_284 dX7_beginAct_146 ?_
      refine z_iload_n X hl 1 rfl rfl dX7_beginAct_149 ?_
      refine lC_8 (x := sA u0 8 p1) X K h h2 h3 rfl dX7_beginAct_150 ?_
      refine z_bipush (v := 20) X dX7_beginAct_151 (by decide) ?_
      refine z_icmp_gt (tgt := 160) X h4 (by decide) dX7_beginAct_153 (by decide) (fun c6 => ?_) (fun c6 => ?_)
      · replace hw := hw.1 c6
        refine z_iconst X dX7_beginAct_160 ?_
        exact r_iret X hr hlk K h (Nat.le_refl _) (Nat.le_refl _) dX7_beginAct_161 ⟨_, rfl, hw⟩
      · replace hw := hw.2 c6
        refine z_iconst X dX7_beginAct_156 ?_
        refine z_goto (tgt := 161) X dX7_beginAct_157 (by decide) ?_
        exact r_iret X hr hlk K h (Nat.le_refl _) (Nat.le_refl _) dX7_beginAct_161 ⟨_, rfl, hw⟩
  · by_cases c10 : p2 = 37 ∨ p2 = 44 ∨ p2 = 45 ∨ p2 = 46
    · replace hw := hw.2.1 c10
      suffices hk : W p l e rm_X7_beginAct s m args below meth c H locs 0 0 (EndI G (WC G a u0) (Po (WC G a) post) args s 0 0 below) (F0 m 100 ls []) by
        rcases c10 with c10 | c10 | c10 | c10
        · exact z_top c10 (lv_lookup (off := 99) (tgt := 100) X.1 X.2.1 dX7_beginAct_1 (by decide) (by decide) (by decide) hk)
        · exact z_top c10 (lv_lookup (off := 99) (tgt := 100) X.1 X.2.1 dX7_beginAct_1 (by decide) (by decide) (by decide) hk)
        · exact z_top c10 (lv_lookup (off := 99) (tgt := 100) X.1 X.2.1 dX7_beginAct_1 (by decide) (by decide) (by decide) hk)
        · exact z_top c10 (lv_lookup (off := 99) (tgt := 100) X.1 X.2.1 dX7_beginAct_1 (by decide) (by decide) (by decide) hk)
      refine z_aload_n X hl 0 rfl rfl dX7_beginAct_100 ?_
      refine gC_X7_ends X K h q_286 dX7_beginAct_101 ?_
      refine z_iload_n X hl 1 rfl rfl dX7_beginAct_104 ?_
      refine z_iload_n X hl 1 rfl rfl dX7_beginAct_105 ?_
      refine z_iconst X dX7_beginAct_106 ?_
      refine z_iadd X dX7_beginAct_107 ?_
      obtain ⟨h8, h9, hw⟩ := hw
      refine sC_10 X K h h8 h9 dX7_beginAct_108 (fun H locs h => ?_)
      refine z_iconst X dX7_beginAct_109 ?_
      exact r_iret X hr hlk K h (Nat.le_refl _) (Nat.le_refl _) dX7_beginAct_110 ⟨_, rfl, hw⟩
    · by_cases c11 : p2 = 42
      · replace hw := hw.2.2.1 c11
        refine z_top c11 ?_
        refine lv_lookup (off := 132) (tgt := 133) X.1 X.2.1 dX7_beginAct_1 (by decide) (by decide) (by decide) ?_
        refine z_iconst X dX7_beginAct_133 ?_
        exact r_iret X hr hlk K h (Nat.le_refl _) (Nat.le_refl _) dX7_beginAct_134 ⟨_, rfl, hw⟩
      · by_cases c14 : p2 = 43 ∨ p2 = 60 ∨ p2 = 61 ∨ p2 = 62
        · replace hw := hw.2.2.2.1 c14
          suffices hk : W p l e rm_X7_beginAct s m args below meth c H locs 0 0 (EndI G (WC G a u0) (Po (WC G a) post) args s 0 0 below) (F0 m 111 ls []) by
            rcases c14 with c14 | c14 | c14 | c14
            · exact z_top c14 (lv_lookup (off := 110) (tgt := 111) X.1 X.2.1 dX7_beginAct_1 (by decide) (by decide) (by decide) hk)
            · exact z_top c14 (lv_lookup (off := 110) (tgt := 111) X.1 X.2.1 dX7_beginAct_1 (by decide) (by decide) (by decide) hk)
            · exact z_top c14 (lv_lookup (off := 110) (tgt := 111) X.1 X.2.1 dX7_beginAct_1 (by decide) (by decide) (by decide) hk)
            · exact z_top c14 (lv_lookup (off := 110) (tgt := 111) X.1 X.2.1 dX7_beginAct_1 (by decide) (by decide) (by decide) hk)
          refine z_aload_n X hl 0 rfl rfl dX7_beginAct_111 ?_
          refine gC_X7_ends X K h q_286 dX7_beginAct_112 ?_
          refine z_iload_n X hl 1 rfl rfl dX7_beginAct_115 ?_
          refine z_iload_n X hl 1 rfl rfl dX7_beginAct_116 ?_
          refine z_iconst X dX7_beginAct_117 ?_
          refine z_iadd X dX7_beginAct_118 ?_
          obtain ⟨h12, h13, hw⟩ := hw
          refine sC_10 X K h h12 h13 dX7_beginAct_119 (fun H locs h => ?_)
          refine z_iconst X dX7_beginAct_120 ?_
          exact r_iret X hr hlk K h (Nat.le_refl _) (Nat.le_refl _) dX7_beginAct_121 ⟨_, rfl, hw⟩
        · by_cases c17 : p2 = 64
          · replace hw := hw.2.2.2.2.1 c17
            refine z_top c17 ?_
            refine lv_lookup (off := 121) (tgt := 122) X.1 X.2.1 dX7_beginAct_1 (by decide) (by decide) (by decide) ?_
            refine z_aload_n X hl 0 rfl rfl dX7_beginAct_122 ?_
            refine gC_X7_ends X K h q_286 dX7_beginAct_123 ?_
            refine z_iload_n X hl 1 rfl rfl dX7_beginAct_126 ?_
            refine z_iload_n X hl 1 rfl rfl dX7_beginAct_127 ?_
            refine z_iconst X dX7_beginAct_128 ?_
            refine z_iadd X dX7_beginAct_129 ?_
            obtain ⟨h15, h16, hw⟩ := hw
            refine sC_10 X K h h15 h16 dX7_beginAct_130 (fun H locs h => ?_)
            refine z_iconst X dX7_beginAct_131 ?_
            exact r_iret X hr hlk K h (Nat.le_refl _) (Nat.le_refl _) dX7_beginAct_132 ⟨_, rfl, hw⟩
          · replace hw := hw.2.2.2.2.2 (by omega)
            refine z_lookupOut (tgt := 162) X h1 dX7_beginAct_1 (by decide) (by decide) [(2, 134), (37, 99), (42, 132), (43, 110), (44, 99), (45, 99), (46, 99), (60, 110), (61, 110), (62, 110), (64, 121)] rfl (by intro o19 ho19 hz; simp only [List.mem_cons, List.not_mem_nil, or_false] at ho19; rcases ho19 with rfl | rfl | rfl | rfl | rfl | rfl | rfl | rfl | rfl | rfl | rfl <;> simp only at hz <;> omega) ?_
            refine z_iconst X dX7_beginAct_162 ?_
            exact r_iret X hr hlk K h (Nat.le_refl _) (Nat.le_refl _) dX7_beginAct_163 ⟨_, rfl, hw⟩
def w_X7_wantedBehind (post : Int → St → Prop) (u0 : St) (p1 : Int) (p2 : Int) : Prop :=
(w_X7_kindOf (fun (z1 : Int) => (InR p2) ∧ ((p2 = 1 → (InR z1) ∧ ((¬ z1 = 1 → post 4 u0) ∧
 (z1 = 1 → post 0 u0))) ∧
 (p2 = 2 → (InR z1) ∧ ((¬ z1 = 2 → post 4 u0) ∧
 (z1 = 2 → post 0 u0))) ∧
 (p2 = 3 → (InR z1) ∧ ((¬ z1 = 123 → post 4 u0) ∧
 (z1 = 123 → (w_X7_open (fun (z11 : Int) (u12 : St) => post z11 u12) u0 (p1 - 1))))) ∧
 (¬ (p2 = 1 ∨ p2 = 2 ∨ p2 = 3) → (InR z1) ∧ ((¬ z1 = 125 → (w_X7_beginAct (fun (z16 : Int) (u17 : St) => post z16 u17) u0 p1 z1)) ∧
 (z1 = 125 → (w_X7_close (fun (z18 : Int) (u19 : St) => post z18 u19) u0 (p1 + 1))))))) u0 p1)
abbrev rm_X7_wantedBehind : Room := { frames := 1, cells := 0, slots := 0, locals := 22 }
set_option maxRecDepth 100000 in
set_option maxHeartbeats 4000000 in
theorem ct_X7_wantedBehind {l : Launch} {G : Gr} {a : Nat → Nat} (u0 : St) (p1 : Int) (p2 : Int) (post : Int → St → Prop) (hw : w_X7_wantedBehind post u0 p1 p2) : Ct l G yX7_wantedBehind (ws_ yX7_wantedBehind cX7_wantedBehind 4 (some .int)) rm_X7_wantedBehind [.ref (a 9), zI p1, zI p2] (WC G a u0) 0 0 (Po (WC G a) post) := by
  refine Ct.of (by decide) (Nat.le_of_ble_eq_true rfl) ?_
  intro p e s m args below meth c ls X hr hlk K g h hl
  have hl : lv_has ls 4 [(0, .ref (a 9)), (1, zI p1), (2, zI p2)] := hl
  obtain ⟨H, hH⟩ : ∃ H, H = s.heap := ⟨_, rfl⟩
  obtain ⟨locs, hL⟩ : ∃ L : List Loc, L = [] := ⟨_, rfl⟩
  replace h : HW G (va_A (WC G a u0) s.heap.size) s.heap (WC G a u0) H locs := by rw [hH, hL]; exact h
  suffices hg : W p l e rm_X7_wantedBehind s m args below meth c H locs 0 0 (EndI G (WC G a u0) (Po (WC G a) post) args s 0 0 below) (F0 m 0 ls []) by rw [hH, hL] at hg; exact hg
  clear hH hL
  refine z_aload_n X hl 0 rfl rfl dX7_wantedBehind_0 ?_
  refine z_iload_n X hl 1 rfl rfl dX7_wantedBehind_1 ?_
  refine r_callVi (rest := []) X K g h (ct_X7_kindOf u0 p1 _ hw) lk_X7_60 9 rfl rfl ⟨rfl, rfl⟩ ⟨Nat.le_of_ble_eq_true rfl, Nat.le_of_ble_eq_true rfl⟩ rfl (lv_size hl) rfl (Nat.le_of_ble_eq_true rfl) dX7_wantedBehind_2 ⟨Nat.le_of_ble_eq_true rfl, Nat.le_of_ble_eq_true rfl⟩ (fun z1 w' H locs hp h => ?_)
  obtain ⟨rfl, hw⟩ := hp
  refine z_istore_n (i := 3) (lv' := [(3, zI z1), (0, .ref (a 9)), (1, zI p1), (2, zI p2)]) X hl rfl (by decide) dX7_wantedBehind_5 rfl (fun ls hl => ?_)
  refine z_iload_n X hl 3 rfl rfl dX7_wantedBehind_6 ?_
  obtain ⟨h2, hw⟩ := hw
  by_cases c5 : p2 = 1
  · replace hw := hw.1 c5
    refine z_top c5 ?_
    refine lv_tableIn (off := 25) (tgt := 32) X.1 X.2.1 dX7_wantedBehind_7 (by decide) (by decide) (by decide) (by decide) ?_
    refine z_iload_n X hl 0 rfl rfl dX7_wantedBehind_32 ?_
    refine z_iconst X dX7_wantedBehind_33 ?_
    obtain ⟨h3, hw⟩ := hw
    refine z_icmp_ne (tgt := 41) X h3 (by decide) dX7_wantedBehind_34 (by decide) (fun c4 => ?_) (fun c4 => ?_)
    · replace hw := hw.1 c4
      refine z_iconst X dX7_wantedBehind_41 ?_
      exact r_iret X hr hlk K h (Nat.le_refl _) (Nat.le_refl _) dX7_wantedBehind_42 ⟨_, rfl, hw⟩
    · replace hw := hw.2 c4
      refine z_iconst X dX7_wantedBehind_37 ?_
      refine z_goto (tgt := 42) X dX7_wantedBehind_38 (by decide) ?_
      exact r_iret X hr hlk K h (Nat.le_refl _) (Nat.le_refl _) dX7_wantedBehind_42 ⟨_, rfl, hw⟩
  · by_cases c8 : p2 = 2
    · replace hw := hw.2.1 c8
      refine z_top c8 ?_
      refine lv_tableIn (off := 36) (tgt := 43) X.1 X.2.1 dX7_wantedBehind_7 (by decide) (by decide) (by decide) (by decide) ?_
      refine z_iload_n X hl 0 rfl rfl dX7_wantedBehind_43 ?_
      refine z_iconst X dX7_wantedBehind_44 ?_
      obtain ⟨h6, hw⟩ := hw
      refine z_icmp_ne (tgt := 52) X h6 (by decide) dX7_wantedBehind_45 (by decide) (fun c7 => ?_) (fun c7 => ?_)
      · replace hw := hw.1 c7
        refine z_iconst X dX7_wantedBehind_52 ?_
        exact r_iret X hr hlk K h (Nat.le_refl _) (Nat.le_refl _) dX7_wantedBehind_53 ⟨_, rfl, hw⟩
      · replace hw := hw.2 c7
        refine z_iconst X dX7_wantedBehind_48 ?_
        refine z_goto (tgt := 53) X dX7_wantedBehind_49 (by decide) ?_
        exact r_iret X hr hlk K h (Nat.le_refl _) (Nat.le_refl _) dX7_wantedBehind_53 ⟨_, rfl, hw⟩
    · by_cases c13 : p2 = 3
      · replace hw := hw.2.2.1 c13
        refine z_top c13 ?_
        refine lv_tableIn (off := 47) (tgt := 54) X.1 X.2.1 dX7_wantedBehind_7 (by decide) (by decide) (by decide) (by decide) ?_
        refine z_iload_n X hl 0 rfl rfl dX7_wantedBehind_54 ?_
        refine z_bipush (v := 123) X dX7_wantedBehind_55 (by decide) ?_
        obtain ⟨h9, hw⟩ := hw
        refine z_icmp_ne (tgt := 70) X h9 (by decide) dX7_wantedBehind_57 (by decide) (fun c10 => ?_) (fun c10 => ?_)
        · replace hw := hw.1 c10
          refine z_iconst X dX7_wantedBehind_70 ?_
          exact r_iret X hr hlk K h (Nat.le_refl _) (Nat.le_refl _) dX7_wantedBehind_71 ⟨_, rfl, hw⟩
        · replace hw := hw.2 c10
          refine z_aload_n X hl 1 rfl rfl dX7_wantedBehind_60 ?_
          refine z_iload_n X hl 2 rfl rfl dX7_wantedBehind_61 ?_
          refine z_iconst X dX7_wantedBehind_62 ?_
          refine z_isub X dX7_wantedBehind_63 ?_
          refine r_callVi (rest := []) X K g h (ct_X7_open u0 (p1 - 1) _ hw) lk_X7_63 9 rfl rfl ⟨rfl, rfl⟩ ⟨Nat.le_of_ble_eq_true rfl, Nat.le_of_ble_eq_true rfl⟩ rfl (lv_size hl) rfl (Nat.le_of_ble_eq_true rfl) dX7_wantedBehind_64 ⟨Nat.le_of_ble_eq_true rfl, Nat.le_of_ble_eq_true rfl⟩ (fun z11 w' H locs hp h => ?_)
          obtain ⟨u12, rfl, hw⟩ := hp
          refine z_goto (tgt := 71) X dX7_wantedBehind_67 (by decide) ?_
          exact r_iret X hr hlk K h (Nat.le_refl _) (Nat.le_refl _) dX7_wantedBehind_71 ⟨_, rfl, hw⟩
      · replace hw := hw.2.2.2 (by omega)
        refine z_tableOut (tgt := 72) X h2 dX7_wantedBehind_7 (by decide) (Or.inl (by omega)) ?_
        refine z_iload_n X hl 0 rfl rfl dX7_wantedBehind_72 ?_
        refine z_bipush (v := 125) X dX7_wantedBehind_73 (by decide) ?_
        obtain ⟨h14, hw⟩ := hw
        refine z_icmp_ne (tgt := 88) X h14 (by decide) dX7_wantedBehind_75 (by decide) (fun c15 => ?_) (fun c15 => ?_)
        · replace hw := hw.1 c15
          refine z_aload_n X hl 1 rfl rfl dX7_wantedBehind_88 ?_
          refine z_iload_n X hl 2 rfl rfl dX7_wantedBehind_89 ?_
          refine z_iload_n X hl 0 rfl rfl dX7_wantedBehind_90 ?_
          refine r_callVi (rest := []) X K g h (ct_X7_beginAct u0 p1 z1 _ hw) lk_X7_69 9 rfl rfl ⟨rfl, rfl⟩ ⟨Nat.le_of_ble_eq_true rfl, Nat.le_of_ble_eq_true rfl⟩ rfl (lv_size hl) rfl (Nat.le_of_ble_eq_true rfl) dX7_wantedBehind_91 ⟨Nat.le_of_ble_eq_true rfl, Nat.le_of_ble_eq_true rfl⟩ (fun z16 w' H locs hp h => ?_)
          obtain ⟨u17, rfl, hw⟩ := hp
          exact r_iret X hr hlk K h (Nat.le_refl _) (Nat.le_refl _) dX7_wantedBehind_94 ⟨_, rfl, hw⟩
        · replace hw := hw.2 c15
          refine z_aload_n X hl 1 rfl rfl dX7_wantedBehind_78 ?_
          refine z_iload_n X hl 2 rfl rfl dX7_wantedBehind_79 ?_
          refine z_iconst X dX7_wantedBehind_80 ?_
          refine z_iadd X dX7_wantedBehind_81 ?_
          refine r_callVi (rest := []) X K g h (ct_X7_close u0 (p1 + 1) _ hw) lk_X7_66 9 rfl rfl ⟨rfl, rfl⟩ ⟨Nat.le_of_ble_eq_true rfl, Nat.le_of_ble_eq_true rfl⟩ rfl (lv_size hl) rfl (Nat.le_of_ble_eq_true rfl) dX7_wantedBehind_82 ⟨Nat.le_of_ble_eq_true rfl, Nat.le_of_ble_eq_true rfl⟩ (fun z18 w' H locs hp h => ?_)
          obtain ⟨u19, rfl, hw⟩ := hp
          refine z_goto (tgt := 94) X dX7_wantedBehind_85 (by decide) ?_
          exact r_iret X hr hlk K h (Nat.le_refl _) (Nat.le_refl _) dX7_wantedBehind_94 ⟨_, rfl, hw⟩
def b_X7_misfitOfScript_9 (post : Int → St → Prop) (y1_9 : Int) (K9 : St × Int × Int → Prop) (u1 : St) (x2_2 : Int) (x3_3 : Int) : Prop :=
(InR x3_3) ∧ (InR (sI u1 16)) ∧ ((sI u1 16 ≤ x3_3 → (InR x2_2) ∧ ((¬ x2_2 = 0 → post y1_9 u1) ∧
 (x2_2 = 0 → (InR (sI u1 15)) ∧ ((¬ sI u1 15 = 0 → post y1_9 u1) ∧
 (sI u1 15 = 0 → post (-1) u1))))) ∧
 (¬ sI u1 16 ≤ x3_3 → (w_X7_wantedBehind (fun (z11 : Int) (u12 : St) => (InR z11) ∧ ((¬ z11 = 4 → K9 (u12, z11, x3_3 + 1)) ∧
 (z11 = 4 → (0 ≤ x3_3) ∧ (x3_3 < 300) ∧ post (sA u12 9 x3_3) u12))) u1 x3_3 x2_2)))
def B_X7_misfitOfScript_9 (post : Int → St → Prop) (y1_9 : Int) : (St × Int × Int → Prop) → St × Int × Int → Prop := fun K t => b_X7_misfitOfScript_9 post y1_9 K t.1 t.2.1 t.2.2
def w_X7_misfitOfScript (post : Int → St → Prop) (u0 : St) (p1 : Int) : Prop :=
(∃ n : Nat, Lp (B_X7_misfitOfScript_9 post p1) n ((pI u0 15 0), 0, 0))
abbrev rm_X7_misfitOfScript : Room := { frames := 2, cells := 0, slots := 0, locals := 45 }
set_option maxRecDepth 100000 in
set_option maxHeartbeats 4000000 in
theorem ct_X7_misfitOfScript {l : Launch} {G : Gr} {a : Nat → Nat} (u0 : St) (p1 : Int) (post : Int → St → Prop) (hw : w_X7_misfitOfScript post u0 p1) : Ct l G yX7_misfitOfScript (ws_ yX7_misfitOfScript cX7_misfitOfScript 4 (some .int)) rm_X7_misfitOfScript [.ref (a 9), zI p1] (WC G a u0) 0 0 (Po (WC G a) post) := by
  refine Ct.of (by decide) (Nat.le_of_ble_eq_true rfl) ?_
  intro p e s m args below meth c ls X hr hlk K g h hl
  have hl : lv_has ls 4 [(0, .ref (a 9)), (1, zI p1)] := hl
  obtain ⟨H, hH⟩ : ∃ H, H = s.heap := ⟨_, rfl⟩
  obtain ⟨locs, hL⟩ : ∃ L : List Loc, L = [] := ⟨_, rfl⟩
  replace h : HW G (va_A (WC G a u0) s.heap.size) s.heap (WC G a u0) H locs := by rw [hH, hL]; exact h
  suffices hg : W p l e rm_X7_misfitOfScript s m args below meth c H locs 0 0 (EndI G (WC G a u0) (Po (WC G a) post) args s 0 0 below) (F0 m 0 ls []) by rw [hH, hL] at hg; exact hg
  clear hH hL
  refine z_aload_n X hl 0 rfl rfl dX7_misfitOfScript_0 ?_
  refine z_iconst X dX7_misfitOfScript_1 ?_
  refine pC_X7_openCount X K h q_288 dX7_misfitOfScript_2 (fun H locs h => ?_)
  refine z_iconst X dX7_misfitOfScript_5 ?_
  refine z_istore_n (i := 2) (lv' := [(2, zI 0), (0, .ref (a 9)), (1, zI p1)]) X hl rfl (by decide) dX7_misfitOfScript_6 rfl (fun ls hl => ?_)
  refine z_iconst X dX7_misfitOfScript_7 ?_
  refine z_istore_n (i := 3) (lv' := [(3, zI 0), (2, zI 0), (0, .ref (a 9)), (1, zI p1)]) X hl rfl (by decide) dX7_misfitOfScript_8 rfl (fun ls hl => ?_)
  obtain ⟨n9, hw⟩ := hw
  have key9 : ∀ (n : Nat) (t : St × Int × Int) (H : Heap) (locs : List Loc) (ls : Array Slot), Lp (B_X7_misfitOfScript_9 post p1) n t → HW G (va_A (WC G a u0) s.heap.size) s.heap (WC G a t.1) H locs → lv_has ls 4 [(0, .ref (a 9)), (1, zI p1), (2, zI t.2.1), (3, zI t.2.2)] → W p l e rm_X7_misfitOfScript s m args below meth c H locs 0 0 (EndI G (WC G a u0) (Po (WC G a) post) args s 0 0 below) (F0 m 9 ls []) := by
    intro n
    induction n with
    | zero =>
      intro t H locs ls hw
      exact hw.elim
    | succ n9 ih9 =>
      rintro ⟨u1, x2_2, x3_3⟩ H locs ls hw h hl
      replace hw : b_X7_misfitOfScript_9 post p1 (Lp (B_X7_misfitOfScript_9 post p1) n9) u1 x2_2 x3_3 := hw
      refine z_iload_n X hl 3 rfl rfl dX7_misfitOfScript_9 ?_
      refine z_aload_n X hl 0 rfl rfl dX7_misfitOfScript_10 ?_
      refine gC_X7_count (x := sI u1 16) X K h rfl q_289 dX7_misfitOfScript_11 ?_
      obtain ⟨h4, h5, hw⟩ := hw
      refine z_icmp_ge (tgt := 42) X h4 h5 dX7_misfitOfScript_14 (by decide) (fun c6 => ?_) (fun c6 => ?_)
      · replace hw := hw.1 c6
        refine z_iload_n X hl 2 rfl rfl dX7_misfitOfScript_42 ?_
        obtain ⟨h7, hw⟩ := hw
        refine z_if_ne (tgt := 57) X h7 dX7_misfitOfScript_43 (by decide) (fun c8 => ?_) (fun c8 => ?_)
        · replace hw := hw.1 c8
          refine z_iload_n X hl 1 rfl rfl dX7_misfitOfScript_57 ?_
          exact r_iret X hr hlk K h (Nat.le_refl _) (Nat.le_refl _) dX7_misfitOfScript_58 ⟨_, rfl, hw⟩
        · replace hw := hw.2 c8
          refine z_aload_n X hl 0 rfl rfl dX7_misfitOfScript_46 ?_
          refine gC_X7_openCount (x := sI u1 15) X K h rfl q_288 dX7_misfitOfScript_47 ?_
          obtain ⟨h9, hw⟩ := hw
          refine z_if_ne (tgt := 57) X h9 dX7_misfitOfScript_50 (by decide) (fun c10 => ?_) (fun c10 => ?_)
          · replace hw := hw.1 c10
            refine z_iload_n X hl 1 rfl rfl dX7_misfitOfScript_57 ?_
            exact r_iret X hr hlk K h (Nat.le_refl _) (Nat.le_refl _) dX7_misfitOfScript_58 ⟨_, rfl, hw⟩
          · replace hw := hw.2 c10
            refine z_iconst X dX7_misfitOfScript_53 ?_
            refine z_goto (tgt := 58) X dX7_misfitOfScript_54 (by decide) ?_
            exact r_iret X hr hlk K h (Nat.le_refl _) (Nat.le_refl _) dX7_misfitOfScript_58 ⟨_, rfl, hw⟩
      · replace hw := hw.2 c6
        refine z_aload_n X hl 0 rfl rfl dX7_misfitOfScript_17 ?_
        refine z_iload_n X hl 3 rfl rfl dX7_misfitOfScript_18 ?_
        refine z_iload_n X hl 2 rfl rfl dX7_misfitOfScript_19 ?_
        refine r_callVi (rest := []) X K g h (ct_X7_wantedBehind u1 x3_3 x2_2 _ hw) lk_X7_57 9 rfl rfl ⟨rfl, rfl⟩ ⟨Nat.le_of_ble_eq_true rfl, Nat.le_of_ble_eq_true rfl⟩ rfl (lv_size hl) rfl (Nat.le_of_ble_eq_true rfl) dX7_misfitOfScript_20 ⟨Nat.le_of_ble_eq_true rfl, Nat.le_of_ble_eq_true rfl⟩ (fun z11 w' H locs hp h => ?_)
        obtain ⟨u12, rfl, hw⟩ := hp
        refine z_istore_n (i := 2) (lv' := [(2, zI z11), (0, .ref (a 9)), (1, zI p1), (3, zI x3_3)]) X hl rfl (by decide) dX7_misfitOfScript_23 rfl (fun ls hl => ?_)
        refine z_iload_n X hl 0 rfl rfl dX7_misfitOfScript_24 ?_
        refine z_iconst X dX7_misfitOfScript_25 ?_
        obtain ⟨h13, hw⟩ := hw
        refine z_icmp_ne (tgt := 36) X h13 (by decide) dX7_misfitOfScript_26 (by decide) (fun c14 => ?_) (fun c14 => ?_)
        · replace hw := hw.1 c14
          refine z_iinc (lv' := [(3, zI (x3_3 + 1)), (2, zI z11), (0, .ref (a 9)), (1, zI p1)]) X hl 3 rfl (by decide) dX7_misfitOfScript_36 rfl (fun ls hl => ?_)
          refine z_goto (tgt := 9) X dX7_misfitOfScript_39 (by decide) ?_
          exact ih9 (u12, z11, x3_3 + 1) H locs ls hw h (lv_sub hl [2, 3, 1, 0] rfl)
        · replace hw := hw.2 c14
          refine z_aload_n X hl 1 rfl rfl dX7_misfitOfScript_29 ?_
          refine gC_X7_places X K h q_285 dX7_misfitOfScript_30 ?_
          refine z_iload_n X hl 3 rfl rfl dX7_misfitOfScript_33 ?_
          obtain ⟨h15, h16, hw⟩ := hw
          refine lC_9 (x := sA u12 9 x3_3) X K h h15 h16 rfl dX7_misfitOfScript_34 ?_
          exact r_iret X hr hlk K h (Nat.le_refl _) (Nat.le_refl _) dX7_misfitOfScript_35 ⟨_, rfl, hw⟩
  exact key9 n9 ((pI u0 15 0), 0, 0) H locs ls hw h (lv_sub hl [2, 3, 1, 0] rfl)
def b_X8_bytesIn_5 (post : Int → Prop) (y0_5 : Int) (K5 : Int × Int → Prop) (x1_1 : Int) (x2_2 : Int) : Prop :=
(InR x2_2) ∧ ((x2_2 < 0 → post x1_1) ∧
 (¬ x2_2 < 0 → (0 ≤ x2_2) ∧ (x2_2 < 32) ∧ (InR (((y0_5 % 4294967296) / ((2 ^ x2_2.toNat : Nat) : Int)) % 256)) ∧ ((((y0_5 % 4294967296) / ((2 ^ x2_2.toNat : Nat) : Int)) % 256 = 0 → K5 (x1_1, x2_2 + (-8))) ∧
 (¬ ((y0_5 % 4294967296) / ((2 ^ x2_2.toNat : Nat) : Int)) % 256 = 0 → K5 (x1_1 + 1, x2_2 + (-8))))))
def B_X8_bytesIn_5 (post : Int → Prop) (y0_5 : Int) : (Int × Int → Prop) → Int × Int → Prop := fun K t => b_X8_bytesIn_5 post y0_5 K t.1 t.2
def w_X8_bytesIn (post : Int → Prop) (p0 : Int) : Prop :=
(∃ n : Nat, Lp (B_X8_bytesIn_5 post p0) n (0, 24))
abbrev rm_X8_bytesIn : Room := { frames := 0, cells := 0, slots := 0, locals := 0 }
set_option maxRecDepth 100000 in
set_option maxHeartbeats 4000000 in
theorem ct_X8_bytesIn {l : Launch} {G : Gr} {w : va_W} (p0 : Int) (post : Int → Prop) (hw : w_X8_bytesIn post p0) : Ct l G yX8_bytesIn (ws_ yX8_bytesIn cX8_bytesIn 3 (some .int)) rm_X8_bytesIn [zI p0] w 0 0 (PoP w post) := by
  refine Ct.of (by decide) (Nat.le_of_ble_eq_true rfl) ?_
  intro p e s m args below meth c ls X hr hlk K g h hl
  have hl : lv_has ls 3 [(0, zI p0)] := hl
  obtain ⟨H, hH⟩ : ∃ H, H = s.heap := ⟨_, rfl⟩
  obtain ⟨locs, hL⟩ : ∃ L : List Loc, L = [] := ⟨_, rfl⟩
  replace h : HW G (va_A w s.heap.size) s.heap (w) H locs := by rw [hH, hL]; exact h
  suffices hg : W p l e rm_X8_bytesIn s m args below meth c H locs 0 0 (EndI G w (PoP w post) args s 0 0 below) (F0 m 0 ls []) by rw [hH, hL] at hg; exact hg
  clear hH hL
  refine z_iconst X dX8_bytesIn_0 ?_
  refine z_istore_n (i := 1) (lv' := [(1, zI 0), (0, zI p0)]) X hl rfl (by decide) dX8_bytesIn_1 rfl (fun ls hl => ?_)
  refine z_bipush (v := 24) X dX8_bytesIn_2 (by decide) ?_
  refine z_istore_n (i := 2) (lv' := [(2, zI 24), (1, zI 0), (0, zI p0)]) X hl rfl (by decide) dX8_bytesIn_4 rfl (fun ls hl => ?_)
  obtain ⟨n5, hw⟩ := hw
  have key5 : ∀ (n : Nat) (t : Int × Int) (H : Heap) (locs : List Loc) (ls : Array Slot), Lp (B_X8_bytesIn_5 post p0) n t → HW G (va_A w s.heap.size) s.heap (w) H locs → lv_has ls 3 [(0, zI p0), (1, zI t.1), (2, zI t.2)] → W p l e rm_X8_bytesIn s m args below meth c H locs 0 0 (EndI G w (PoP w post) args s 0 0 below) (F0 m 5 ls []) := by
    intro n
    induction n with
    | zero =>
      intro t H locs ls hw
      exact hw.elim
    | succ n5 ih5 =>
      rintro ⟨x1_1, x2_2⟩ H locs ls hw h hl
      replace hw : b_X8_bytesIn_5 post p0 (Lp (B_X8_bytesIn_5 post p0) n5) x1_1 x2_2 := hw
      refine z_iload_n X hl 2 rfl rfl dX8_bytesIn_5 ?_
      obtain ⟨h3, hw⟩ := hw
      refine z_if_lt (tgt := 28) X h3 dX8_bytesIn_6 (by decide) (fun c4 => ?_) (fun c4 => ?_)
      · replace hw := hw.1 c4
        refine z_iload_n X hl 1 rfl rfl dX8_bytesIn_28 ?_
        exact r_iret X hr hlk K h (Nat.le_refl _) (Nat.le_refl _) dX8_bytesIn_29 ⟨rfl, hw⟩
      · replace hw := hw.2 c4
        refine z_iload_n X hl 0 rfl rfl dX8_bytesIn_9 ?_
        refine z_iload_n X hl 2 rfl rfl dX8_bytesIn_10 ?_
        obtain ⟨h5, h6, hw⟩ := hw
        refine z_iushr X h5 h6 dX8_bytesIn_11 ?_
        refine z_sipush (v := 255) X dX8_bytesIn_12 (by decide) ?_
        refine z_iand255 X dX8_bytesIn_15 ?_
        obtain ⟨h7, hw⟩ := hw
        refine z_if_eq (tgt := 22) X h7 dX8_bytesIn_16 (by decide) (fun c8 => ?_) (fun c8 => ?_)
        · replace hw := hw.1 c8
          refine z_iinc (lv' := [(2, zI (x2_2 + (-8))), (0, zI p0), (1, zI x1_1)]) X hl 2 rfl (by decide) dX8_bytesIn_22 rfl (fun ls hl => ?_)
          refine z_goto (tgt := 5) X dX8_bytesIn_25 (by decide) ?_
          exact ih5 (x1_1, x2_2 + (-8)) H locs ls hw h (lv_sub hl [1, 2, 0] rfl)
        · replace hw := hw.2 c8
          refine z_iinc (lv' := [(1, zI (x1_1 + 1)), (0, zI p0), (2, zI x2_2)]) X hl 1 rfl (by decide) dX8_bytesIn_19 rfl (fun ls hl => ?_)
          refine z_iinc (lv' := [(2, zI (x2_2 + (-8))), (1, zI (x1_1 + 1)), (0, zI p0)]) X hl 2 rfl (by decide) dX8_bytesIn_22 rfl (fun ls hl => ?_)
          refine z_goto (tgt := 5) X dX8_bytesIn_25 (by decide) ?_
          exact ih5 (x1_1 + 1, x2_2 + (-8)) H locs ls hw h (lv_sub hl [2, 1, 0] rfl)
  exact key5 n5 (0, 24) H locs ls hw h (lv_sub hl [2, 1, 0] rfl)
def b_X8_take_3 (post : St → Prop) (y1_3 : Int) (K3 : St × Int → Prop) (u1 : St) (x2_2 : Int) : Prop :=
(InR x2_2) ∧ ((x2_2 < 0 → post u1) ∧
 (¬ x2_2 < 0 → (0 ≤ x2_2) ∧ (x2_2 < 32) ∧ (InR (((y1_3 % 4294967296) / ((2 ^ x2_2.toNat : Nat) : Int)) % 256)) ∧ ((((y1_3 % 4294967296) / ((2 ^ x2_2.toNat : Nat) : Int)) % 256 = 0 → K3 (u1, x2_2 + (-8))) ∧
 (¬ ((y1_3 % 4294967296) / ((2 ^ x2_2.toNat : Nat) : Int)) % 256 = 0 → (InR (sI u1 14)) ∧ ((300 ≤ sI u1 14 → K3 (u1, x2_2 + (-8))) ∧
 (¬ 300 ≤ sI u1 14 → (0 ≤ sI u1 14) ∧ (sI u1 14 < 300) ∧ K3 ((pI (pA u1 6 (sI u1 14) (((y1_3 % 4294967296) / ((2 ^ x2_2.toNat : Nat) : Int)) % 256)) 14 ((sI u1 14) + 1)), x2_2 + (-8))))))))
def B_X8_take_3 (post : St → Prop) (y1_3 : Int) : (St × Int → Prop) → St × Int → Prop := fun K t => b_X8_take_3 post y1_3 K t.1 t.2
def w_X8_take (post : St → Prop) (u0 : St) (p1 : Int) : Prop :=
(∃ n : Nat, Lp (B_X8_take_3 post p1) n (u0, 24))
abbrev rm_X8_take : Room := { frames := 0, cells := 0, slots := 0, locals := 0 }
set_option maxRecDepth 100000 in
set_option maxHeartbeats 4000000 in
theorem ct_X8_take {l : Launch} {G : Gr} {a : Nat → Nat} (u0 : St) (p1 : Int) (post : St → Prop) (hw : w_X8_take post u0 p1) : CtV l G yX8_take (ws_ yX8_take cX8_take 4 (none)) rm_X8_take [.ref (a 8), zI p1] (WC G a u0) 0 0 (PoV (WC G a) post) := by
  refine CtV.of (by decide) (Nat.le_of_ble_eq_true rfl) ?_
  intro p e s m args below meth c ls X hr hlk K g h hl
  have hl : lv_has ls 4 [(0, .ref (a 8)), (1, zI p1)] := hl
  obtain ⟨H, hH⟩ : ∃ H, H = s.heap := ⟨_, rfl⟩
  obtain ⟨locs, hL⟩ : ∃ L : List Loc, L = [] := ⟨_, rfl⟩
  replace h : HW G (va_A (WC G a u0) s.heap.size) s.heap (WC G a u0) H locs := by rw [hH, hL]; exact h
  suffices hg : W p l e rm_X8_take s m args below meth c H locs 0 0 (EndV G (WC G a u0) (PoV (WC G a) post) args s 0 0 below) (F0 m 0 ls []) by rw [hH, hL] at hg; exact hg
  clear hH hL
  refine z_bipush (v := 24) X dX8_take_0 (by decide) ?_
  refine z_istore_n (i := 2) (lv' := [(2, zI 24), (0, .ref (a 8)), (1, zI p1)]) X hl rfl (by decide) dX8_take_2 rfl (fun ls hl => ?_)
  obtain ⟨n3, hw⟩ := hw
  have key3 : ∀ (n : Nat) (t : St × Int) (H : Heap) (locs : List Loc) (ls : Array Slot), Lp (B_X8_take_3 post p1) n t → HW G (va_A (WC G a u0) s.heap.size) s.heap (WC G a t.1) H locs → lv_has ls 4 [(0, .ref (a 8)), (1, zI p1), (2, zI t.2)] → W p l e rm_X8_take s m args below meth c H locs 0 0 (EndV G (WC G a u0) (PoV (WC G a) post) args s 0 0 below) (F0 m 3 ls []) := by
    intro n
    induction n with
    | zero =>
      intro t H locs ls hw
      exact hw.elim
    | succ n3 ih3 =>
      rintro ⟨u1, x2_2⟩ H locs ls hw h hl
      replace hw : b_X8_take_3 post p1 (Lp (B_X8_take_3 post p1) n3) u1 x2_2 := hw
      refine z_iload_n X hl 2 rfl rfl dX8_take_3 ?_
      obtain ⟨h3, hw⟩ := hw
      refine z_if_lt (tgt := 55) X h3 dX8_take_4 (by decide) (fun c4 => ?_) (fun c4 => ?_)
      · replace hw := hw.1 c4
        exact r_vret X hr hlk K h (Nat.le_refl _) (Nat.le_refl _) dX8_take_55 ⟨_, rfl, hw⟩
      · replace hw := hw.2 c4
        refine z_iload_n X hl 1 rfl rfl dX8_take_7 ?_
        refine z_iload_n X hl 2 rfl rfl dX8_take_8 ?_
        obtain ⟨h5, h6, hw⟩ := hw
        refine z_iushr X h5 h6 dX8_take_9 ?_
        refine z_sipush (v := 255) X dX8_take_10 (by decide) ?_
        refine z_iand255 X dX8_take_13 ?_
        refine z_istore_n (i := 3) (lv' := [(3, zI (((p1 % 4294967296) / ((2 ^ x2_2.toNat : Nat) : Int)) % 256)), (0, .ref (a 8)), (1, zI p1), (2, zI x2_2)]) X hl rfl (by decide) dX8_take_14 rfl (fun ls hl => ?_)
        refine z_iload_n X hl 0 rfl rfl dX8_take_15 ?_
        obtain ⟨h7, hw⟩ := hw
        refine z_if_eq (tgt := 49) X h7 dX8_take_16 (by decide) (fun c8 => ?_) (fun c8 => ?_)
        · replace hw := hw.1 c8
          refine z_iinc (lv' := [(2, zI (x2_2 + (-8))), (3, zI (((p1 % 4294967296) / ((2 ^ x2_2.toNat : Nat) : Int)) % 256)), (0, .ref (a 8)), (1, zI p1)]) X hl 3 rfl (by decide) dX8_take_49 rfl (fun ls hl => ?_)
          refine z_goto (tgt := 3) X dX8_take_52 (by decide) ?_
          exact ih3 (u1, x2_2 + (-8)) H locs ls hw h (lv_sub hl [2, 3, 0] rfl)
        · replace hw := hw.2 c8
          refine z_aload_n X hl 1 rfl rfl dX8_take_19 ?_
          refine gC_X8_length (x := sI u1 14) X K h rfl q_269 dX8_take_20 ?_
          refine z_sipush (v := 300) X dX8_take_23 (by decide) ?_
          obtain ⟨h9, hw⟩ := hw
          refine z_icmp_ge (tgt := 49) X h9 (by decide) dX8_take_26 (by decide) (fun c10 => ?_) (fun c10 => ?_)
          · replace hw := hw.1 c10
            refine z_iinc (lv' := [(2, zI (x2_2 + (-8))), (3, zI (((p1 % 4294967296) / ((2 ^ x2_2.toNat : Nat) : Int)) % 256)), (0, .ref (a 8)), (1, zI p1)]) X hl 3 rfl (by decide) dX8_take_49 rfl (fun ls hl => ?_)
            refine z_goto (tgt := 3) X dX8_take_52 (by decide) ?_
            exact ih3 (u1, x2_2 + (-8)) H locs ls hw h (lv_sub hl [2, 3, 0] rfl)
          · replace hw := hw.2 c10
            refine z_aload_n X hl 1 rfl rfl dX8_take_29 ?_
            refine gC_X8_bytes X K h q_267 dX8_take_30 ?_
            refine z_aload_n X hl 1 rfl rfl dX8_take_33 ?_
            refine gC_X8_length (x := sI u1 14) X K h rfl q_269 dX8_take_34 ?_
            refine z_iload_n X hl 0 rfl rfl dX8_take_37 ?_
            obtain ⟨h11, h12, hw⟩ := hw
            refine sC_6 X K h h11 h12 dX8_take_38 (fun H locs h => ?_)
            refine z_aload_n X hl 1 rfl rfl dX8_take_39 ?_
            refine z_dup X rfl dX8_take_40 ?_
            refine gC_X8_length (x := sI u1 14) X K h rfl q_269 dX8_take_41 ?_
            refine z_iconst X dX8_take_44 ?_
            refine z_iadd X dX8_take_45 ?_
            refine pC_X8_length X K h q_269 dX8_take_46 (fun H locs h => ?_)
            refine z_iinc (lv' := [(2, zI (x2_2 + (-8))), (3, zI (((p1 % 4294967296) / ((2 ^ x2_2.toNat : Nat) : Int)) % 256)), (0, .ref (a 8)), (1, zI p1)]) X hl 3 rfl (by decide) dX8_take_49 rfl (fun ls hl => ?_)
            refine z_goto (tgt := 3) X dX8_take_52 (by decide) ?_
            exact ih3 ((pI (pA u1 6 (sI u1 14) (((p1 % 4294967296) / ((2 ^ x2_2.toNat : Nat) : Int)) % 256)) 14 ((sI u1 14) + 1)), x2_2 + (-8)) H locs ls hw h (lv_sub hl [2, 3, 0] rfl)
  exact key3 n3 (u0, 24) H locs ls hw h (lv_sub hl [1, 2, 0] rfl)
