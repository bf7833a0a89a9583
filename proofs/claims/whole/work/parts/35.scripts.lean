/-! scripts: the recursion of perform and its repeats -/
abbrev PT2 : Type := (Int → St → Prop) → Nat → Nat → Gr → St → Int → Int → Prop
abbrev PT3 : Type := (Int → St → Prop) → Nat → Nat → Gr → St → Int → Int → Int → Prop
abbrev rmx (F L mc ms : Nat) : Room := { frames := F, cells := mc, slots := ms, locals := L }
def b_X9_perform_9 (WT WU : PT2) (post : Int → St → Prop) (mc ms : Nat) (G : Gr) (y2_9 : Int) (y3_9 : Int) (K9 : St × Int × Int × Int × Nat × Nat → Prop) (u1 : St) (x4_2 : Int) (x5_3 : Int) (x6_4 : Int) (kc5 : Nat) (ks6 : Nat) : Prop :=
(InR x6_4) ∧ (InR y2_9) ∧ ((y2_9 ≤ x6_4 → (kc5 ≤ mc) ∧ (ks6 ≤ ms) ∧ post x4_2 u1) ∧
 (¬ y2_9 ≤ x6_4 → (InR x4_2) ∧ ((¬ x4_2 = 0 → (kc5 ≤ mc) ∧ (ks6 ≤ ms) ∧ post x4_2 u1) ∧
 (x4_2 = 0 → (InR x5_3) ∧ ((¬ x6_4 = x5_3 → K9 (u1, x4_2, x5_3, x6_4 + 1, kc5, ks6)) ∧
 (x6_4 = x5_3 → (kc5 ≤ mc) ∧ (ks6 ≤ ms) ∧ (w_X7_endOf (fun (z18 : Int) => (w_X7_kindOf (fun (z21 : Int) => (InR z21) ∧ ((¬ z21 = 42 → ((¬ z21 = 2 → (w_X7_numberOf (fun (z25 : Int) => (∃ a27 b28 : Nat, (kc5 + a27 ≤ mc) ∧ (ks6 + b28 ≤ ms) ∧ w_X9_attempt (fun (z26 : Int) (u31 : St) => K9 (u31, z26, z18, x6_4 + 1, kc5 + a27, ks6 + b28)) a27 b28 G u1 z21 z25)) u1 (x6_4 + 1))) ∧
 (z21 = 2 → (∃ a33 b34 : Nat, (kc5 + a33 ≤ mc) ∧ (ks6 + b34 ≤ ms) ∧ WT (fun (z32 : Int) (u37 : St) => K9 (u37, z32, z18, x6_4 + 1, kc5 + a33, ks6 + b34)) a33 b34 G u1 x6_4 y3_9)))) ∧
 (z21 = 42 → (∃ a39 b40 : Nat, (kc5 + a39 ≤ mc) ∧ (ks6 + b40 ≤ ms) ∧ WU (fun (z38 : Int) (u43 : St) => K9 (u43, z38, z18, x6_4 + 1, kc5 + a39, ks6 + b40)) a39 b40 G u1 x6_4 y3_9)))) u1 x6_4)) u1 x6_4)))))))
def B_X9_perform_9 (WT WU : PT2) (post : Int → St → Prop) (mc ms : Nat) (G : Gr) (y2_9 : Int) (y3_9 : Int) : (St × Int × Int × Int × Nat × Nat → Prop) → St × Int × Int × Int × Nat × Nat → Prop := fun K t => b_X9_perform_9 WT WU post mc ms G y2_9 y3_9 K t.1 t.2.1 t.2.2.1 t.2.2.2.1 t.2.2.2.2.1 t.2.2.2.2.2
def wb_X9_perform (WT WU : PT2) (post : Int → St → Prop) (mc ms : Nat) (G : Gr) (u0 : St) (p1 : Int) (p2 : Int) (p3 : Int) : Prop :=
(∃ n : Nat, Lp (B_X9_perform_9 WT WU post mc ms G p2 p3) n (u0, 0, p1, p1, 0, 0))
set_option maxRecDepth 100000 in
set_option maxHeartbeats 4000000 in
theorem cto_X9_perform {l : Launch} {G : Gr} {a : Nat → Nat} {WT WU : PT2} (F L F1 L1 : Nat) (hF : F1 + 1 ≤ F ∧ 8 + (7 + 11) + L1 ≤ L) (hA : 15 ≤ F ∧ 403 ≤ L) (hT : ∀ (mc ms : Nat) (u : St) (x0 x1 : Int) (post : Int → St → Prop), WT post mc ms G u x0 x1 → Ct l G yX9_repeatTimes (ws_ yX9_repeatTimes cX9_repeatTimes 6 (some .int)) (rmx F1 L1 mc ms) [.ref (a 0), zI x0, zI x1] (WC G a u) mc ms (Po (WC G a) post)) (hU : ∀ (mc ms : Nat) (u : St) (x0 x1 : Int) (post : Int → St → Prop), WU post mc ms G u x0 x1 → Ct l G yX9_repeatUntilRefused (ws_ yX9_repeatUntilRefused cX9_repeatUntilRefused 7 (some .int)) (rmx F1 L1 mc ms) [.ref (a 0), zI x0, zI x1] (WC G a u) mc ms (Po (WC G a) post)) (mc ms : Nat) (u0 : St) (p1 : Int) (p2 : Int) (p3 : Int) (post : Int → St → Prop) (hw : wb_X9_perform WT WU post mc ms G u0 p1 p2 p3) : Ct l G yX9_perform (ws_ yX9_perform cX9_perform 8 (some .int)) (rmx F L mc ms) [.ref (a 0), zI p1, zI p2, zI p3] (WC G a u0) mc ms (Po (WC G a) post) := by
  refine Ct.of (by decide) (Nat.le_of_ble_eq_true rfl) ?_
  intro p e s m args below meth c ls X hr hlk K g h hl
  have hl : lv_has ls 8 [(0, .ref (a 0)), (1, zI p1), (2, zI p2), (3, zI p3)] := hl
  obtain ⟨H, hH⟩ : ∃ H, H = s.heap := ⟨_, rfl⟩
  obtain ⟨locs, hL⟩ : ∃ L : List Loc, L = [] := ⟨_, rfl⟩
  replace h : HW G (va_A (WC G a u0) s.heap.size) s.heap (WC G a u0) H locs := by rw [hH, hL]; exact h
  suffices hg : W p l e (rmx F L mc ms) s m args below meth c H locs 0 0 (EndI G (WC G a u0) (Po (WC G a) post) args s mc ms below) (F0 m 0 ls []) by rw [hH, hL] at hg; exact hg
  clear hH hL
  refine z_iconst X dX9_perform_0 ?_
  refine z_istore (i := 4) (lv' := [(4, zI 0), (0, .ref (a 0)), (1, zI p1), (2, zI p2), (3, zI p3)]) X hl (by decide) dX9_perform_1 rfl (fun ls hl => ?_)
  refine z_iload_n X hl 2 rfl rfl dX9_perform_3 ?_
  refine z_istore (i := 5) (lv' := [(5, zI p1), (4, zI 0), (0, .ref (a 0)), (1, zI p1), (2, zI p2), (3, zI p3)]) X hl (by decide) dX9_perform_4 rfl (fun ls hl => ?_)
  refine z_iload_n X hl 3 rfl rfl dX9_perform_6 ?_
  refine z_istore (i := 6) (lv' := [(6, zI p1), (5, zI p1), (4, zI 0), (0, .ref (a 0)), (1, zI p1), (2, zI p2), (3, zI p3)]) X hl (by decide) dX9_perform_7 rfl (fun ls hl => ?_)
  obtain ⟨n9, hw⟩ := hw
  have key9 : ∀ (n : Nat) (t : St × Int × Int × Int × Nat × Nat) (H : Heap) (locs : List Loc) (ls : Array Slot), Lp (B_X9_perform_9 WT WU post mc ms G p2 p3) n t → HW G (va_A (WC G a u0) s.heap.size) s.heap (WC G a t.1) H locs → lv_has ls 8 [(0, .ref (a 0)), (2, zI p2), (3, zI p3), (4, zI t.2.1), (5, zI t.2.2.1), (6, zI t.2.2.2.1)] → W p l e (rmx F L mc ms) s m args below meth c H locs t.2.2.2.2.1 t.2.2.2.2.2 (EndI G (WC G a u0) (Po (WC G a) post) args s mc ms below) (F0 m 9 ls []) := by
    intro n
    induction n with
    | zero =>
      intro t H locs ls hw
      exact hw.elim
    | succ n9 ih9 =>
      rintro ⟨u1, x4_2, x5_3, x6_4, kc5, ks6⟩ H locs ls hw h hl
      replace hw : b_X9_perform_9 WT WU post mc ms G p2 p3 (Lp (B_X9_perform_9 WT WU post mc ms G p2 p3) n9) u1 x4_2 x5_3 x6_4 kc5 ks6 := hw
      refine z_iload X hl 5 rfl dX9_perform_9 ?_
      refine z_iload_n X hl 1 rfl rfl dX9_perform_11 ?_
      obtain ⟨h7, h8, hw⟩ := hw
      refine z_icmp_ge (tgt := 111) X h7 h8 dX9_perform_12 (by decide) (fun c9 => ?_) (fun c9 => ?_)
      · replace hw := hw.1 c9
        refine z_iload X hl 3 rfl dX9_perform_111 ?_
        obtain ⟨h10, h11, hw⟩ := hw
        exact r_iret X hr hlk K h h10 h11 dX9_perform_113 ⟨_, rfl, hw⟩
      · replace hw := hw.2 c9
        refine z_iload X hl 3 rfl dX9_perform_15 ?_
        obtain ⟨h12, hw⟩ := hw
        refine z_if_ne (tgt := 111) X h12 dX9_perform_17 (by decide) (fun c13 => ?_) (fun c13 => ?_)
        · replace hw := hw.1 c13
          refine z_iload X hl 3 rfl dX9_perform_111 ?_
          obtain ⟨h14, h15, hw⟩ := hw
          exact r_iret X hr hlk K h h14 h15 dX9_perform_113 ⟨_, rfl, hw⟩
        · replace hw := hw.2 c13
          refine z_iload X hl 5 rfl dX9_perform_20 ?_
          refine z_iload X hl 4 rfl dX9_perform_22 ?_
          obtain ⟨h16, hw⟩ := hw
          refine z_icmp_ne (tgt := 105) X h7 h16 dX9_perform_24 (by decide) (fun c17 => ?_) (fun c17 => ?_)
          · replace hw := hw.1 c17
            refine z_iinc (lv' := [(6, zI (x6_4 + 1)), (0, .ref (a 0)), (2, zI p2), (3, zI p3), (4, zI x4_2), (5, zI x5_3)]) X hl 5 rfl (by decide) dX9_perform_105 rfl (fun ls hl => ?_)
            refine z_goto (tgt := 9) X dX9_perform_108 (by decide) ?_
            exact ih9 (u1, x4_2, x5_3, x6_4 + 1, kc5, ks6) H locs ls hw h (lv_sub hl [1, 2, 3, 4, 5, 0] rfl)
          · replace hw := hw.2 c17
            refine z_aload_n X hl 0 rfl rfl dX9_perform_27 ?_
            refine gC_X9_script X K h q_308 dX9_perform_28 ?_
            refine z_iload X hl 5 rfl dX9_perform_31 ?_
            obtain ⟨h19, h20, hw⟩ := hw
            refine r_callVi (rest := []) X K g h (ct_X7_endOf u1 x6_4 _ hw) lk_X9_186 9 rfl rfl ⟨rfl, rfl⟩ ⟨Nat.le_trans (m := 15) (Nat.le_of_ble_eq_true rfl) hA.1, Nat.le_trans (m := 403) (Nat.le_of_ble_eq_true rfl) hA.2⟩ rfl (lv_size hl) rfl (Nat.le_of_ble_eq_true rfl) dX9_perform_33 ⟨h19, h20⟩ (fun z18 w' H locs hp h => ?_)
            obtain ⟨rfl, hw⟩ := hp
            refine z_istore (i := 5) (lv' := [(5, zI z18), (0, .ref (a 0)), (2, zI p2), (3, zI p3), (4, zI x4_2), (6, zI x6_4)]) X hl (by decide) dX9_perform_36 rfl (fun ls hl => ?_)
            refine z_aload_n X hl 1 rfl rfl dX9_perform_38 ?_
            refine gC_X9_script X K h q_308 dX9_perform_39 ?_
            refine z_iload X hl 5 rfl dX9_perform_42 ?_
            refine r_callVi (rest := []) X K g h (ct_X7_kindOf u1 x6_4 _ hw) lk_X9_189 9 rfl rfl ⟨rfl, rfl⟩ ⟨Nat.le_trans (m := 15) (Nat.le_of_ble_eq_true rfl) hA.1, Nat.le_trans (m := 403) (Nat.le_of_ble_eq_true rfl) hA.2⟩ rfl (lv_size hl) rfl (Nat.le_of_ble_eq_true rfl) dX9_perform_44 ⟨h19, h20⟩ (fun z21 w' H locs hp h => ?_)
            obtain ⟨rfl, hw⟩ := hp
            refine z_istore (i := 7) (lv' := [(7, zI z21), (5, zI z18), (0, .ref (a 0)), (2, zI p2), (3, zI p3), (4, zI x4_2), (6, zI x6_4)]) X hl (by decide) dX9_perform_47 rfl (fun ls hl => ?_)
            refine z_iload X hl 0 rfl dX9_perform_49 ?_
            refine z_bipush (v := 42) X dX9_perform_51 (by decide) ?_
            obtain ⟨h22, hw⟩ := hw
            refine z_icmp_ne (tgt := 68) X h22 (by decide) dX9_perform_53 (by decide) (fun c23 => ?_) (fun c23 => ?_)
            · replace hw := hw.1 c23
              refine z_iload X hl 0 rfl dX9_perform_68 ?_
              refine z_iconst X dX9_perform_70 ?_
              refine z_icmp_ne (tgt := 86) X h22 (by decide) dX9_perform_71 (by decide) (fun c24 => ?_) (fun c24 => ?_)
              · replace hw := hw.1 c24
                refine z_aload_n X hl 2 rfl rfl dX9_perform_86 ?_
                refine z_iload X hl 0 rfl dX9_perform_87 ?_
                refine z_aload_n X hl 2 rfl rfl dX9_perform_89 ?_
                refine gC_X9_script X K h q_308 dX9_perform_90 ?_
                refine z_iload X hl 6 rfl dX9_perform_93 ?_
                refine z_iconst X dX9_perform_95 ?_
                refine z_iadd X dX9_perform_96 ?_
                refine r_callVi (rest := [zI z21, .ref (a 0)]) X K g h (ct_X7_numberOf u1 (x6_4 + 1) _ hw) lk_X9_114 9 rfl rfl ⟨rfl, rfl⟩ ⟨Nat.le_trans (m := 15) (Nat.le_of_ble_eq_true rfl) hA.1, Nat.le_trans (m := 403) (Nat.le_of_ble_eq_true rfl) hA.2⟩ rfl (lv_size hl) rfl (Nat.le_of_ble_eq_true rfl) dX9_perform_97 ⟨h19, h20⟩ (fun z25 w' H locs hp h => ?_)
                obtain ⟨rfl, hw⟩ := hp
                obtain ⟨a27, b28, hk29, hs30, hw⟩ := hw
                refine r_callVi (rest := []) X K g h (ct_X9_attempt a27 b28 u1 z21 z25 _ hw) lk_X9_199 0 rfl rfl ⟨rfl, rfl⟩ ⟨Nat.le_trans (m := 15) (Nat.le_of_ble_eq_true rfl) hA.1, Nat.le_trans (m := 403) (Nat.le_of_ble_eq_true rfl) hA.2⟩ rfl (lv_size hl) rfl (Nat.le_of_ble_eq_true rfl) dX9_perform_100 ⟨hk29, hs30⟩ (fun z26 w' H locs hp h => ?_)
                obtain ⟨u31, rfl, hw⟩ := hp
                refine z_istore (i := 4) (lv' := [(4, zI z26), (7, zI z21), (5, zI z18), (0, .ref (a 0)), (2, zI p2), (3, zI p3), (6, zI x6_4)]) X hl (by decide) dX9_perform_103 rfl (fun ls hl => ?_)
                refine z_iinc (lv' := [(6, zI (x6_4 + 1)), (4, zI z26), (7, zI z21), (5, zI z18), (0, .ref (a 0)), (2, zI p2), (3, zI p3)]) X hl 6 rfl (by decide) dX9_perform_105 rfl (fun ls hl => ?_)
                refine z_goto (tgt := 9) X dX9_perform_108 (by decide) ?_
                exact ih9 (u31, z26, z18, x6_4 + 1, kc5 + a27, ks6 + b28) H locs ls hw h (lv_sub hl [4, 5, 6, 1, 3, 0] rfl)
              · replace hw := hw.2 c24
                refine z_aload_n X hl 2 rfl rfl dX9_perform_74 ?_
                refine z_iload X hl 6 rfl dX9_perform_75 ?_
                refine z_iload_n X hl 4 rfl rfl dX9_perform_77 ?_
                obtain ⟨a33, b34, hk35, hs36, hw⟩ := hw
                refine r_callVi (rest := []) X K g h (hT a33 b34 u1 x6_4 p3 _ hw) lk_X9_196 0 rfl rfl ⟨rfl, rfl⟩ ⟨hF.1, Nat.le_trans (Nat.add_le_add_right (by decide) L1) hF.2⟩ rfl (lv_size hl) rfl (Nat.le_of_ble_eq_true rfl) dX9_perform_78 ⟨hk35, hs36⟩ (fun z32 w' H locs hp h => ?_)
                obtain ⟨u37, rfl, hw⟩ := hp
                refine z_istore (i := 4) (lv' := [(4, zI z32), (7, zI z21), (5, zI z18), (0, .ref (a 0)), (2, zI p2), (3, zI p3), (6, zI x6_4)]) X hl (by decide) dX9_perform_81 rfl (fun ls hl => ?_)
                refine z_goto (tgt := 105) X dX9_perform_83 (by decide) ?_
                refine z_iinc (lv' := [(6, zI (x6_4 + 1)), (4, zI z32), (7, zI z21), (5, zI z18), (0, .ref (a 0)), (2, zI p2), (3, zI p3)]) X hl 6 rfl (by decide) dX9_perform_105 rfl (fun ls hl => ?_)
                refine z_goto (tgt := 9) X dX9_perform_108 (by decide) ?_
                exact ih9 (u37, z32, z18, x6_4 + 1, kc5 + a33, ks6 + b34) H locs ls hw h (lv_sub hl [4, 5, 6, 1, 3, 0] rfl)
            · replace hw := hw.2 c23
              refine z_aload_n X hl 2 rfl rfl dX9_perform_56 ?_
              refine z_iload X hl 6 rfl dX9_perform_57 ?_
              refine z_iload_n X hl 4 rfl rfl dX9_perform_59 ?_
              obtain ⟨a39, b40, hk41, hs42, hw⟩ := hw
              refine r_callVi (rest := []) X K g h (hU a39 b40 u1 x6_4 p3 _ hw) lk_X9_192 0 rfl rfl ⟨rfl, rfl⟩ ⟨hF.1, Nat.le_trans (Nat.add_le_add_right (by decide) L1) hF.2⟩ rfl (lv_size hl) rfl (Nat.le_of_ble_eq_true rfl) dX9_perform_60 ⟨hk41, hs42⟩ (fun z38 w' H locs hp h => ?_)
              obtain ⟨u43, rfl, hw⟩ := hp
              refine z_istore (i := 4) (lv' := [(4, zI z38), (7, zI z21), (5, zI z18), (0, .ref (a 0)), (2, zI p2), (3, zI p3), (6, zI x6_4)]) X hl (by decide) dX9_perform_63 rfl (fun ls hl => ?_)
              refine z_goto (tgt := 105) X dX9_perform_65 (by decide) ?_
              refine z_iinc (lv' := [(6, zI (x6_4 + 1)), (4, zI z38), (7, zI z21), (5, zI z18), (0, .ref (a 0)), (2, zI p2), (3, zI p3)]) X hl 6 rfl (by decide) dX9_perform_105 rfl (fun ls hl => ?_)
              refine z_goto (tgt := 9) X dX9_perform_108 (by decide) ?_
              exact ih9 (u43, z38, z18, x6_4 + 1, kc5 + a39, ks6 + b40) H locs ls hw h (lv_sub hl [4, 5, 6, 1, 3, 0] rfl)
  exact key9 n9 (u0, 0, p1, p1, 0, 0) H locs ls hw h (lv_sub hl [3, 5, 6, 2, 1, 0] rfl)
def b_X9_repeatTimes_24 (WP : PT3) (post : Int → St → Prop) (mc ms : Nat) (G : Gr) (y1_24 : Int) (y2_24 : Int) (y4_24 : Int) (K24 : St × Int × Int × Nat × Nat → Prop) (u10 : St) (x3_11 : Int) (x5_12 : Int) (kc13 : Nat) (ks14 : Nat) : Prop :=
(InR x5_12) ∧ (InR y4_24) ∧ ((y4_24 ≤ x5_12 → (kc13 ≤ mc) ∧ (ks14 ≤ ms) ∧ post x3_11 u10) ∧
 (¬ y4_24 ≤ x5_12 → (InR x3_11) ∧ ((¬ x3_11 = 0 → (kc13 ≤ mc) ∧ (ks14 ≤ ms) ∧ post x3_11 u10) ∧
 (x3_11 = 0 → (kc13 ≤ mc) ∧ (ks14 ≤ ms) ∧ (w_X7_endOf (fun (z24 : Int) => (∃ a28 b29 : Nat, (kc13 + a28 ≤ mc) ∧ (ks14 + b29 ≤ ms) ∧ WP (fun (z27 : Int) (u32 : St) => K24 (u32, z27, x5_12 + 1, kc13 + a28, ks14 + b29)) a28 b29 G u10 (y1_24 + 2) (z24 - 1) (y2_24 + 1))) u10 y1_24)))))
def B_X9_repeatTimes_24 (WP : PT3) (post : Int → St → Prop) (mc ms : Nat) (G : Gr) (y1_24 : Int) (y2_24 : Int) (y4_24 : Int) : (St × Int × Int × Nat × Nat → Prop) → St × Int × Int × Nat × Nat → Prop := fun K t => b_X9_repeatTimes_24 WP post mc ms G y1_24 y2_24 y4_24 K t.1 t.2.1 t.2.2.1 t.2.2.2.1 t.2.2.2.2
def j_X9_repeatTimes_19 (WP : PT3) (post : Int → St → Prop) (mc ms : Nat) (G : Gr) (u7 : St) (x1_3 : Int) (x2_4 : Int) (x3_5 : Int) (t6 : Int) (kc8 : Nat) (ks9 : Nat) : Prop :=
(∃ n : Nat, Lp (B_X9_repeatTimes_24 WP post mc ms G x1_3 x2_4 t6) n (u7, x3_5, 0, kc8, ks9))
def wb_X9_repeatTimes (WP : PT3) (post : Int → St → Prop) (mc ms : Nat) (G : Gr) (u0 : St) (p1 : Int) (p2 : Int) : Prop :=
(InR p2) ∧ ((4 ≤ p2 → (j_X9_repeatTimes_19 WP post mc ms G u0 p1 p2 0 0 0 0)) ∧
 (¬ 4 ≤ p2 → (w_X7_numberOf (fun (z33 : Int) => (j_X9_repeatTimes_19 WP post mc ms G u0 p1 p2 0 z33 0 0)) u0 p1)))
set_option maxRecDepth 100000 in
set_option maxHeartbeats 4000000 in
theorem cto_X9_repeatTimes {l : Launch} {G : Gr} {a : Nat → Nat} {WP : PT3} (F L F1 L1 : Nat) (hF : F1 + 1 ≤ F ∧ 8 + (8 + 11) + L1 ≤ L) (hA : 1 ≤ F ∧ 21 ≤ L) (hP : ∀ (mc ms : Nat) (u : St) (x0 x1 x2 : Int) (post : Int → St → Prop), WP post mc ms G u x0 x1 x2 → Ct l G yX9_perform (ws_ yX9_perform cX9_perform 8 (some .int)) (rmx F1 L1 mc ms) [.ref (a 0), zI x0, zI x1, zI x2] (WC G a u) mc ms (Po (WC G a) post)) (mc ms : Nat) (u0 : St) (p1 : Int) (p2 : Int) (post : Int → St → Prop) (hw : wb_X9_repeatTimes WP post mc ms G u0 p1 p2) : Ct l G yX9_repeatTimes (ws_ yX9_repeatTimes cX9_repeatTimes 6 (some .int)) (rmx F L mc ms) [.ref (a 0), zI p1, zI p2] (WC G a u0) mc ms (Po (WC G a) post) := by
  refine Ct.of (by decide) (Nat.le_of_ble_eq_true rfl) ?_
  intro p e s m args below meth c ls X hr hlk K g h hl
  have hl : lv_has ls 6 [(0, .ref (a 0)), (1, zI p1), (2, zI p2)] := hl
  obtain ⟨H, hH⟩ : ∃ H, H = s.heap := ⟨_, rfl⟩
  obtain ⟨locs, hL⟩ : ∃ L : List Loc, L = [] := ⟨_, rfl⟩
  replace h : HW G (va_A (WC G a u0) s.heap.size) s.heap (WC G a u0) H locs := by rw [hH, hL]; exact h
  suffices hg : W p l e (rmx F L mc ms) s m args below meth c H locs 0 0 (EndI G (WC G a u0) (Po (WC G a) post) args s mc ms below) (F0 m 0 ls []) by rw [hH, hL] at hg; exact hg
  clear hH hL
  have J19 : ∀ (u7 : St) (x1_3 : Int) (x2_4 : Int) (x3_5 : Int) (t6 : Int) (kc8 : Nat) (ks9 : Nat) (H : Heap) (locs : List Loc) (ls : Array Slot), j_X9_repeatTimes_19 WP post mc ms G u7 x1_3 x2_4 x3_5 t6 kc8 ks9 → HW G (va_A (WC G a u0) s.heap.size) s.heap (WC G a u7) H locs → lv_has ls 6 [(0, .ref (a 0)), (1, zI x1_3), (2, zI x2_4), (3, zI x3_5)] → W p l e (rmx F L mc ms) s m args below meth c H locs kc8 ks9 (EndI G (WC G a u0) (Po (WC G a) post) args s mc ms below) (F0 m 19 ls [zI t6]) := by
    intro u7 x1_3 x2_4 x3_5 t6 kc8 ks9 H locs ls hw h hl
    refine z_istore (i := 4) (lv' := [(4, zI t6), (0, .ref (a 0)), (1, zI x1_3), (2, zI x2_4), (3, zI x3_5)]) X hl (by decide) dX9_repeatTimes_19 rfl (fun ls hl => ?_)
    refine z_iconst X dX9_repeatTimes_21 ?_
    refine z_istore (i := 5) (lv' := [(5, zI 0), (4, zI t6), (0, .ref (a 0)), (1, zI x1_3), (2, zI x2_4), (3, zI x3_5)]) X hl (by decide) dX9_repeatTimes_22 rfl (fun ls hl => ?_)
    obtain ⟨n24, hw⟩ := hw
    have key24 : ∀ (n : Nat) (t : St × Int × Int × Nat × Nat) (H : Heap) (locs : List Loc) (ls : Array Slot), Lp (B_X9_repeatTimes_24 WP post mc ms G x1_3 x2_4 t6) n t → HW G (va_A (WC G a u0) s.heap.size) s.heap (WC G a t.1) H locs → lv_has ls 6 [(0, .ref (a 0)), (1, zI x1_3), (2, zI x2_4), (3, zI t.2.1), (4, zI t6), (5, zI t.2.2.1)] → W p l e (rmx F L mc ms) s m args below meth c H locs t.2.2.2.1 t.2.2.2.2 (EndI G (WC G a u0) (Po (WC G a) post) args s mc ms below) (F0 m 24 ls []) := by
      intro n
      induction n with
      | zero =>
        intro t H locs ls hw
        exact hw.elim
      | succ n24 ih24 =>
        rintro ⟨u10, x3_11, x5_12, kc13, ks14⟩ H locs ls hw h hl
        replace hw : b_X9_repeatTimes_24 WP post mc ms G x1_3 x2_4 t6 (Lp (B_X9_repeatTimes_24 WP post mc ms G x1_3 x2_4 t6) n24) u10 x3_11 x5_12 kc13 ks14 := hw
        refine z_iload X hl 5 rfl dX9_repeatTimes_24 ?_
        refine z_iload X hl 4 rfl dX9_repeatTimes_26 ?_
        obtain ⟨h15, h16, hw⟩ := hw
        refine z_icmp_ge (tgt := 62) X h15 h16 dX9_repeatTimes_28 (by decide) (fun c17 => ?_) (fun c17 => ?_)
        · replace hw := hw.1 c17
          refine z_iload_n X hl 3 rfl rfl dX9_repeatTimes_62 ?_
          obtain ⟨h18, h19, hw⟩ := hw
          exact r_iret X hr hlk K h h18 h19 dX9_repeatTimes_63 ⟨_, rfl, hw⟩
        · replace hw := hw.2 c17
          refine z_iload_n X hl 3 rfl rfl dX9_repeatTimes_31 ?_
          obtain ⟨h20, hw⟩ := hw
          refine z_if_ne (tgt := 62) X h20 dX9_repeatTimes_32 (by decide) (fun c21 => ?_) (fun c21 => ?_)
          · replace hw := hw.1 c21
            refine z_iload_n X hl 3 rfl rfl dX9_repeatTimes_62 ?_
            obtain ⟨h22, h23, hw⟩ := hw
            exact r_iret X hr hlk K h h22 h23 dX9_repeatTimes_63 ⟨_, rfl, hw⟩
          · replace hw := hw.2 c21
            refine z_aload_n X hl 0 rfl rfl dX9_repeatTimes_35 ?_
            refine z_iload_n X hl 1 rfl rfl dX9_repeatTimes_36 ?_
            refine z_iconst X dX9_repeatTimes_37 ?_
            refine z_iadd X dX9_repeatTimes_38 ?_
            refine z_aload_n X hl 0 rfl rfl dX9_repeatTimes_39 ?_
            refine gC_X9_script X K h q_308 dX9_repeatTimes_40 ?_
            refine z_iload_n X hl 1 rfl rfl dX9_repeatTimes_43 ?_
            obtain ⟨h25, h26, hw⟩ := hw
            refine r_callVi (rest := [zI (x1_3 + 2), .ref (a 0)]) X K g h (ct_X7_endOf u10 x1_3 _ hw) lk_X9_186 9 rfl rfl ⟨rfl, rfl⟩ ⟨Nat.le_trans (m := 1) (Nat.le_of_ble_eq_true rfl) hA.1, Nat.le_trans (m := 21) (Nat.le_of_ble_eq_true rfl) hA.2⟩ rfl (lv_size hl) rfl (Nat.le_of_ble_eq_true rfl) dX9_repeatTimes_44 ⟨h25, h26⟩ (fun z24 w' H locs hp h => ?_)
            obtain ⟨rfl, hw⟩ := hp
            refine z_iconst X dX9_repeatTimes_47 ?_
            refine z_isub X dX9_repeatTimes_48 ?_
            refine z_iload_n X hl 2 rfl rfl dX9_repeatTimes_49 ?_
            refine z_iconst X dX9_repeatTimes_50 ?_
            refine z_iadd X dX9_repeatTimes_51 ?_
            obtain ⟨a28, b29, hk30, hs31, hw⟩ := hw
            refine r_callVi (rest := []) X K g h (hP a28 b29 u10 (x1_3 + 2) (z24 - 1) (x2_4 + 1) _ hw) lk_X9_133 0 rfl rfl ⟨rfl, rfl⟩ ⟨hF.1, Nat.le_trans (Nat.add_le_add_right (by decide) L1) hF.2⟩ rfl (lv_size hl) rfl (Nat.le_of_ble_eq_true rfl) dX9_repeatTimes_52 ⟨hk30, hs31⟩ (fun z27 w' H locs hp h => ?_)
            obtain ⟨u32, rfl, hw⟩ := hp
            refine z_istore_n (i := 3) (lv' := [(3, zI z27), (0, .ref (a 0)), (1, zI x1_3), (2, zI x2_4), (4, zI t6), (5, zI x5_12)]) X hl rfl (by decide) dX9_repeatTimes_55 rfl (fun ls hl => ?_)
            refine z_iinc (lv' := [(5, zI (x5_12 + 1)), (3, zI z27), (0, .ref (a 0)), (1, zI x1_3), (2, zI x2_4), (4, zI t6)]) X hl 5 rfl (by decide) dX9_repeatTimes_56 rfl (fun ls hl => ?_)
            refine z_goto (tgt := 24) X dX9_repeatTimes_59 (by decide) ?_
            exact ih24 (u32, z27, x5_12 + 1, kc13 + a28, ks14 + b29) H locs ls hw h (lv_sub hl [2, 3, 4, 1, 5, 0] rfl)
    exact key24 n24 (u7, x3_5, 0, kc8, ks9) H locs ls hw h (lv_sub hl [2, 3, 4, 5, 1, 0] rfl)
  refine z_iconst X dX9_repeatTimes_0 ?_
  refine z_istore_n (i := 3) (lv' := [(3, zI 0), (0, .ref (a 0)), (1, zI p1), (2, zI p2)]) X hl rfl (by decide) dX9_repeatTimes_1 rfl (fun ls hl => ?_)
  refine z_iload_n X hl 3 rfl rfl dX9_repeatTimes_2 ?_
  refine z_iconst X dX9_repeatTimes_3 ?_
  obtain ⟨h1, hw⟩ := hw
  refine z_icmp_ge (tgt := 18) X h1 (by decide) dX9_repeatTimes_4 (by decide) (fun c2 => ?_) (fun c2 => ?_)
  · replace hw := hw.1 c2
    refine z_iconst X dX9_repeatTimes_18 ?_
    exact J19 u0 p1 p2 0 0 0 0 H locs ls hw h (lv_sub hl [1, 2, 3, 0] rfl)
  · replace hw := hw.2 c2
    refine z_aload_n X hl 1 rfl rfl dX9_repeatTimes_7 ?_
    refine gC_X9_script X K h q_308 dX9_repeatTimes_8 ?_
    refine z_iload_n X hl 2 rfl rfl dX9_repeatTimes_11 ?_
    refine r_callVi (rest := []) X K g h (ct_X7_numberOf u0 p1 _ hw) lk_X9_114 9 rfl rfl ⟨rfl, rfl⟩ ⟨Nat.le_trans (m := 1) (Nat.le_of_ble_eq_true rfl) hA.1, Nat.le_trans (m := 21) (Nat.le_of_ble_eq_true rfl) hA.2⟩ rfl (lv_size hl) rfl (Nat.le_of_ble_eq_true rfl) dX9_repeatTimes_12 ⟨(Nat.zero_le _), (Nat.zero_le _)⟩ (fun z33 w' H locs hp h => ?_)
    obtain ⟨rfl, hw⟩ := hp
    refine z_goto (tgt := 19) X dX9_repeatTimes_15 (by decide) ?_
    exact J19 u0 p1 p2 0 z33 0 0 H locs ls hw h (lv_sub hl [1, 2, 3, 0] rfl)
def b_X9_repeatUntilRefused_16 (WP : PT3) (post : Int → St → Prop) (mc ms : Nat) (G : Gr) (y1_16 : Int) (y2_16 : Int) (y3_16 : Int) (K16 : St × Int × Nat × Nat → Prop) (u9 : St) (x4_10 : Int) (kc11 : Nat) (ks12 : Nat) : Prop :=
(InR x4_10) ∧ (InR y3_16) ∧ ((y3_16 ≤ x4_10 → (kc11 ≤ mc) ∧ (ks12 ≤ ms) ∧ post 0 u9) ∧
 (¬ y3_16 ≤ x4_10 → (kc11 ≤ mc) ∧ (ks12 ≤ ms) ∧ (w_X7_endOf (fun (z18 : Int) => (∃ a22 b23 : Nat, (kc11 + a22 ≤ mc) ∧ (ks12 + b23 ≤ ms) ∧ WP (fun (z21 : Int) (u26 : St) => (InR z21) ∧ ((¬ z21 = (-6) → ((¬ z21 = 0 → post 0 u26) ∧
 (z21 = 0 → (InR (sI u26 4)) ∧ (InR (sI u9 4)) ∧ ((¬ sI u26 4 = sI u9 4 → K16 (u26, x4_10 + 1, kc11 + a22, ks12 + b23)) ∧
 (sI u26 4 = sI u9 4 → post 0 u26))))) ∧
 (z21 = (-6) → post (-6) u26))) a22 b23 G u9 (y1_16 + 2) (z18 - 1) (y2_16 + 1))) u9 y1_16)))
def B_X9_repeatUntilRefused_16 (WP : PT3) (post : Int → St → Prop) (mc ms : Nat) (G : Gr) (y1_16 : Int) (y2_16 : Int) (y3_16 : Int) : (St × Int × Nat × Nat → Prop) → St × Int × Nat × Nat → Prop := fun K t => b_X9_repeatUntilRefused_16 WP post mc ms G y1_16 y2_16 y3_16 K t.1 t.2.1 t.2.2.1 t.2.2.2
def j_X9_repeatUntilRefused_12 (WP : PT3) (post : Int → St → Prop) (mc ms : Nat) (G : Gr) (u6 : St) (x1_3 : Int) (x2_4 : Int) (t5 : Int) (kc7 : Nat) (ks8 : Nat) : Prop :=
(∃ n : Nat, Lp (B_X9_repeatUntilRefused_16 WP post mc ms G x1_3 x2_4 t5) n (u6, 0, kc7, ks8))
def wb_X9_repeatUntilRefused (WP : PT3) (post : Int → St → Prop) (mc ms : Nat) (G : Gr) (u0 : St) (p1 : Int) (p2 : Int) : Prop :=
(InR p2) ∧ ((4 ≤ p2 → (j_X9_repeatUntilRefused_12 WP post mc ms G u0 p1 p2 0 0 0)) ∧
 (¬ 4 ≤ p2 → (j_X9_repeatUntilRefused_12 WP post mc ms G u0 p1 p2 301 0 0)))
set_option maxRecDepth 100000 in
set_option maxHeartbeats 4000000 in
theorem cto_X9_repeatUntilRefused {l : Launch} {G : Gr} {a : Nat → Nat} {WP : PT3} (F L F1 L1 : Nat) (hF : F1 + 1 ≤ F ∧ 8 + (8 + 11) + L1 ≤ L) (hA : 1 ≤ F ∧ 21 ≤ L) (hP : ∀ (mc ms : Nat) (u : St) (x0 x1 x2 : Int) (post : Int → St → Prop), WP post mc ms G u x0 x1 x2 → Ct l G yX9_perform (ws_ yX9_perform cX9_perform 8 (some .int)) (rmx F1 L1 mc ms) [.ref (a 0), zI x0, zI x1, zI x2] (WC G a u) mc ms (Po (WC G a) post)) (mc ms : Nat) (u0 : St) (p1 : Int) (p2 : Int) (post : Int → St → Prop) (hw : wb_X9_repeatUntilRefused WP post mc ms G u0 p1 p2) : Ct l G yX9_repeatUntilRefused (ws_ yX9_repeatUntilRefused cX9_repeatUntilRefused 7 (some .int)) (rmx F L mc ms) [.ref (a 0), zI p1, zI p2] (WC G a u0) mc ms (Po (WC G a) post) := by
  refine Ct.of (by decide) (Nat.le_of_ble_eq_true rfl) ?_
  intro p e s m args below meth c ls X hr hlk K g h hl
  have hl : lv_has ls 7 [(0, .ref (a 0)), (1, zI p1), (2, zI p2)] := hl
  obtain ⟨H, hH⟩ : ∃ H, H = s.heap := ⟨_, rfl⟩
  obtain ⟨locs, hL⟩ : ∃ L : List Loc, L = [] := ⟨_, rfl⟩
  replace h : HW G (va_A (WC G a u0) s.heap.size) s.heap (WC G a u0) H locs := by rw [hH, hL]; exact h
  suffices hg : W p l e (rmx F L mc ms) s m args below meth c H locs 0 0 (EndI G (WC G a u0) (Po (WC G a) post) args s mc ms below) (F0 m 0 ls []) by rw [hH, hL] at hg; exact hg
  clear hH hL
  have J12 : ∀ (u6 : St) (x1_3 : Int) (x2_4 : Int) (t5 : Int) (kc7 : Nat) (ks8 : Nat) (H : Heap) (locs : List Loc) (ls : Array Slot), j_X9_repeatUntilRefused_12 WP post mc ms G u6 x1_3 x2_4 t5 kc7 ks8 → HW G (va_A (WC G a u0) s.heap.size) s.heap (WC G a u6) H locs → lv_has ls 7 [(0, .ref (a 0)), (1, zI x1_3), (2, zI x2_4)] → W p l e (rmx F L mc ms) s m args below meth c H locs kc7 ks8 (EndI G (WC G a u0) (Po (WC G a) post) args s mc ms below) (F0 m 12 ls [zI t5]) := by
    intro u6 x1_3 x2_4 t5 kc7 ks8 H locs ls hw h hl
    refine z_istore_n (i := 3) (lv' := [(3, zI t5), (0, .ref (a 0)), (1, zI x1_3), (2, zI x2_4)]) X hl rfl (by decide) dX9_repeatUntilRefused_12 rfl (fun ls hl => ?_)
    refine z_iconst X dX9_repeatUntilRefused_13 ?_
    refine z_istore (i := 4) (lv' := [(4, zI 0), (3, zI t5), (0, .ref (a 0)), (1, zI x1_3), (2, zI x2_4)]) X hl (by decide) dX9_repeatUntilRefused_14 rfl (fun ls hl => ?_)
    obtain ⟨n16, hw⟩ := hw
    have key16 : ∀ (n : Nat) (t : St × Int × Nat × Nat) (H : Heap) (locs : List Loc) (ls : Array Slot), Lp (B_X9_repeatUntilRefused_16 WP post mc ms G x1_3 x2_4 t5) n t → HW G (va_A (WC G a u0) s.heap.size) s.heap (WC G a t.1) H locs → lv_has ls 7 [(0, .ref (a 0)), (1, zI x1_3), (2, zI x2_4), (3, zI t5), (4, zI t.2.1)] → W p l e (rmx F L mc ms) s m args below meth c H locs t.2.2.1 t.2.2.2 (EndI G (WC G a u0) (Po (WC G a) post) args s mc ms below) (F0 m 16 ls []) := by
      intro n
      induction n with
      | zero =>
        intro t H locs ls hw
        exact hw.elim
      | succ n16 ih16 =>
        rintro ⟨u9, x4_10, kc11, ks12⟩ H locs ls hw h hl
        replace hw : b_X9_repeatUntilRefused_16 WP post mc ms G x1_3 x2_4 t5 (Lp (B_X9_repeatUntilRefused_16 WP post mc ms G x1_3 x2_4 t5) n16) u9 x4_10 kc11 ks12 := hw
        refine z_iload X hl 4 rfl dX9_repeatUntilRefused_16 ?_
        refine z_iload_n X hl 3 rfl rfl dX9_repeatUntilRefused_18 ?_
        obtain ⟨h13, h14, hw⟩ := hw
        refine z_icmp_ge (tgt := 88) X h13 h14 dX9_repeatUntilRefused_19 (by decide) (fun c15 => ?_) (fun c15 => ?_)
        · replace hw := hw.1 c15
          refine z_iconst X dX9_repeatUntilRefused_88 ?_
          obtain ⟨h16, h17, hw⟩ := hw
          exact r_iret X hr hlk K h h16 h17 dX9_repeatUntilRefused_89 ⟨_, rfl, hw⟩
        · replace hw := hw.2 c15
          refine z_aload_n X hl 0 rfl rfl dX9_repeatUntilRefused_22 ?_
          refine gC_X9_editor X K h q_306 dX9_repeatUntilRefused_23 ?_
          refine gC_X1_done (x := sI u9 4) X K h rfl q_247 dX9_repeatUntilRefused_26 ?_
          refine z_istore (i := 5) (lv' := [(5, zI (sI u9 4)), (0, .ref (a 0)), (1, zI x1_3), (2, zI x2_4), (3, zI t5), (4, zI x4_10)]) X hl (by decide) dX9_repeatUntilRefused_29 rfl (fun ls hl => ?_)
          refine z_aload_n X hl 1 rfl rfl dX9_repeatUntilRefused_31 ?_
          refine z_iload_n X hl 2 rfl rfl dX9_repeatUntilRefused_32 ?_
          refine z_iconst X dX9_repeatUntilRefused_33 ?_
          refine z_iadd X dX9_repeatUntilRefused_34 ?_
          refine z_aload_n X hl 1 rfl rfl dX9_repeatUntilRefused_35 ?_
          refine gC_X9_script X K h q_308 dX9_repeatUntilRefused_36 ?_
          refine z_iload_n X hl 2 rfl rfl dX9_repeatUntilRefused_39 ?_
          obtain ⟨h19, h20, hw⟩ := hw
          refine r_callVi (rest := [zI (x1_3 + 2), .ref (a 0)]) X K g h (ct_X7_endOf u9 x1_3 _ hw) lk_X9_186 9 rfl rfl ⟨rfl, rfl⟩ ⟨Nat.le_trans (m := 1) (Nat.le_of_ble_eq_true rfl) hA.1, Nat.le_trans (m := 21) (Nat.le_of_ble_eq_true rfl) hA.2⟩ rfl (lv_size hl) rfl (Nat.le_of_ble_eq_true rfl) dX9_repeatUntilRefused_40 ⟨h19, h20⟩ (fun z18 w' H locs hp h => ?_)
          obtain ⟨rfl, hw⟩ := hp
          refine z_iconst X dX9_repeatUntilRefused_43 ?_
          refine z_isub X dX9_repeatUntilRefused_44 ?_
          refine z_iload_n X hl 3 rfl rfl dX9_repeatUntilRefused_45 ?_
          refine z_iconst X dX9_repeatUntilRefused_46 ?_
          refine z_iadd X dX9_repeatUntilRefused_47 ?_
          obtain ⟨a22, b23, hk24, hs25, hw⟩ := hw
          refine r_callVi (rest := []) X K g h (hP a22 b23 u9 (x1_3 + 2) (z18 - 1) (x2_4 + 1) _ hw) lk_X9_133 0 rfl rfl ⟨rfl, rfl⟩ ⟨hF.1, Nat.le_trans (Nat.add_le_add_right (by decide) L1) hF.2⟩ rfl (lv_size hl) rfl (Nat.le_of_ble_eq_true rfl) dX9_repeatUntilRefused_48 ⟨hk24, hs25⟩ (fun z21 w' H locs hp h => ?_)
          obtain ⟨u26, rfl, hw⟩ := hp
          refine z_istore (i := 6) (lv' := [(6, zI z21), (5, zI (sI u9 4)), (0, .ref (a 0)), (1, zI x1_3), (2, zI x2_4), (3, zI t5), (4, zI x4_10)]) X hl (by decide) dX9_repeatUntilRefused_51 rfl (fun ls hl => ?_)
          refine z_iload X hl 0 rfl dX9_repeatUntilRefused_53 ?_
          refine z_bipush (v := (-6)) X dX9_repeatUntilRefused_55 (by decide) ?_
          obtain ⟨h27, hw⟩ := hw
          refine z_icmp_ne (tgt := 63) X h27 (by decide) dX9_repeatUntilRefused_57 (by decide) (fun c28 => ?_) (fun c28 => ?_)
          · replace hw := hw.1 c28
            refine z_iload X hl 0 rfl dX9_repeatUntilRefused_63 ?_
            refine z_if_ne (tgt := 80) X h27 dX9_repeatUntilRefused_65 (by decide) (fun c29 => ?_) (fun c29 => ?_)
            · replace hw := hw.1 c29
              refine z_iconst X dX9_repeatUntilRefused_80 ?_
              exact r_iret X hr hlk K h hk24 hs25 dX9_repeatUntilRefused_81 ⟨_, rfl, hw⟩
            · replace hw := hw.2 c29
              refine z_aload_n X hl 2 rfl rfl dX9_repeatUntilRefused_68 ?_
              refine gC_X9_editor X K h q_306 dX9_repeatUntilRefused_69 ?_
              refine gC_X1_done (x := sI u26 4) X K h rfl q_247 dX9_repeatUntilRefused_72 ?_
              refine z_iload X hl 1 rfl dX9_repeatUntilRefused_75 ?_
              obtain ⟨h30, h31, hw⟩ := hw
              refine z_icmp_ne (tgt := 82) X h30 h31 dX9_repeatUntilRefused_77 (by decide) (fun c32 => ?_) (fun c32 => ?_)
              · replace hw := hw.1 c32
                refine z_iinc (lv' := [(4, zI (x4_10 + 1)), (6, zI z21), (5, zI (sI u9 4)), (0, .ref (a 0)), (1, zI x1_3), (2, zI x2_4), (3, zI t5)]) X hl 6 rfl (by decide) dX9_repeatUntilRefused_82 rfl (fun ls hl => ?_)
                refine z_goto (tgt := 16) X dX9_repeatUntilRefused_85 (by decide) ?_
                exact ih16 (u26, x4_10 + 1, kc11 + a22, ks12 + b23) H locs ls hw h (lv_sub hl [3, 4, 5, 6, 0] rfl)
              · replace hw := hw.2 c32
                refine z_iconst X dX9_repeatUntilRefused_80 ?_
                exact r_iret X hr hlk K h hk24 hs25 dX9_repeatUntilRefused_81 ⟨_, rfl, hw⟩
          · replace hw := hw.2 c28
            refine z_bipush (v := (-6)) X dX9_repeatUntilRefused_60 (by decide) ?_
            exact r_iret X hr hlk K h hk24 hs25 dX9_repeatUntilRefused_62 ⟨_, rfl, hw⟩
    exact key16 n16 (u6, 0, kc7, ks8) H locs ls hw h (lv_sub hl [2, 3, 4, 1, 0] rfl)
  refine z_iload_n X hl 2 rfl rfl dX9_repeatUntilRefused_0 ?_
  refine z_iconst X dX9_repeatUntilRefused_1 ?_
  obtain ⟨h1, hw⟩ := hw
  refine z_icmp_ge (tgt := 11) X h1 (by decide) dX9_repeatUntilRefused_2 (by decide) (fun c2 => ?_) (fun c2 => ?_)
  · replace hw := hw.1 c2
    refine z_iconst X dX9_repeatUntilRefused_11 ?_
    exact J12 u0 p1 p2 0 0 0 H locs ls hw h (lv_sub hl [0, 1, 2] rfl)
  · replace hw := hw.2 c2
    refine z_sipush (v := 301) X dX9_repeatUntilRefused_5 (by decide) ?_
    refine z_goto (tgt := 12) X dX9_repeatUntilRefused_8 (by decide) ?_
    exact J12 u0 p1 p2 301 0 0 H locs ls hw h (lv_sub hl [0, 1, 2] rfl)
def wP : Nat → PT3
  | 0 => fun _ _ _ _ _ _ _ _ => False
  | n + 1 => wb_X9_perform (wb_X9_repeatTimes (wP n)) (wb_X9_repeatUntilRefused (wP n))
def fP : Nat → Nat
  | 0 => 15
  | n + 1 => fP n + 2
def lP : Nat → Nat
  | 0 => 403
  | n + 1 => lP n + 100
theorem fP_ge : ∀ n, 15 ≤ fP n
  | 0 => Nat.le_refl _
  | n + 1 => Nat.le_trans (fP_ge n) (Nat.le_add_right _ _)
theorem lP_ge : ∀ n, 403 ≤ lP n
  | 0 => Nat.le_refl _
  | n + 1 => Nat.le_trans (lP_ge n) (Nat.le_add_right _ _)
theorem ctP {l : Launch} {G : Gr} {a : Nat → Nat} : ∀ (n mc ms : Nat) (u : St) (x0 x1 x2 : Int) (post : Int → St → Prop), wP n post mc ms G u x0 x1 x2 → Ct l G yX9_perform (ws_ yX9_perform cX9_perform 8 (some .int)) (rmx (fP n) (lP n) mc ms) [.ref (a 0), zI x0, zI x1, zI x2] (WC G a u) mc ms (Po (WC G a) post)
  | 0, _, _, _, _, _, _, _, h => h.elim
  | n + 1, mc, ms, u, x0, x1, x2, post, h =>
    cto_X9_perform (fP (n + 1)) (lP (n + 1)) (fP n + 1) (lP n + 50) ⟨Nat.le_refl _, by show _ ≤ lP n + 100; omega⟩ ⟨Nat.le_trans (by decide) (fP_ge (n + 1)), Nat.le_trans (by decide) (lP_ge (n + 1))⟩
      (fun mc ms u y0 y1 post h => cto_X9_repeatTimes (fP n + 1) (lP n + 50) (fP n) (lP n) ⟨Nat.le_refl _, by omega⟩ ⟨Nat.le_trans (by decide) (Nat.le_trans (fP_ge n) (Nat.le_add_right _ _)), Nat.le_trans (by decide) (Nat.le_trans (lP_ge n) (Nat.le_add_right _ _))⟩ (fun mc ms u z0 z1 z2 post h => ctP n mc ms u z0 z1 z2 post h) mc ms u y0 y1 post h)
      (fun mc ms u y0 y1 post h => cto_X9_repeatUntilRefused (fP n + 1) (lP n + 50) (fP n) (lP n) ⟨Nat.le_refl _, by omega⟩ ⟨Nat.le_trans (by decide) (Nat.le_trans (fP_ge n) (Nat.le_add_right _ _)), Nat.le_trans (by decide) (Nat.le_trans (lP_ge n) (Nat.le_add_right _ _))⟩ (fun mc ms u z0 z1 z2 post h => ctP n mc ms u z0 z1 z2 post h) mc ms u y0 y1 post h)
      mc ms u x0 x1 x2 post h
def w_X9_perform (post : Int → St → Prop) (mc ms : Nat) (G : Gr) (u : St) (x0 x1 x2 : Int) : Prop := wP 6 post mc ms G u x0 x1 x2
abbrev rm_X9_perform (mc ms : Nat) : Room := { frames := 27, cells := mc, slots := ms, locals := 1003 }
theorem ct_X9_perform {l : Launch} {G : Gr} {a : Nat → Nat} (mc ms : Nat) (u : St) (x0 x1 x2 : Int) (post : Int → St → Prop) (hw : w_X9_perform post mc ms G u x0 x1 x2) : Ct l G yX9_perform (ws_ yX9_perform cX9_perform 8 (some .int)) (rm_X9_perform mc ms) [.ref (a 0), zI x0, zI x1, zI x2] (WC G a u) mc ms (Po (WC G a) post) := ctP 6 mc ms u x0 x1 x2 post hw
def w_X9_run (post : Int → St → Prop) (px : St → Prop) (mc ms : Nat) (G : Gr) (u0 : St) : Prop :=
(w_X7_split (fun  (u1 : St) => (w_X7_misfitOfScript (fun (z2 : Int) (u3 : St) => (InR z2) ∧ ((z2 = (-1) → (∃ a7 b8 : Nat, (0 + a7 ≤ mc) ∧ (0 + b8 ≤ ms) ∧ w_X9_perform (fun (z6 : Int) (u11 : St) => post ((sI u11 4) - (sI u11 0)) (pI u11 2 z6)) a7 b8 G (pI (pI (pI (pI u3 1 z2) 14 0) 2 0) 0 (sI u3 4)) 0 (sI u3 16) 0)) ∧
 (¬ z2 = (-1) → (0 + 1 ≤ mc) ∧ (0 + 6 ≤ ms) ∧ px (pI (pI (pI u3 1 z2) 14 0) 2 0)))) u1 (sI u1 14))) u0)
abbrev rm_X9_run (mc ms : Nat) : Room := { frames := 28, cells := mc, slots := ms, locals := 1030 }
set_option maxRecDepth 100000 in
set_option maxHeartbeats 4000000 in
theorem ct_X9_run {l : Launch} {G : Gr} {a : Nat → Nat} (hst : l.stackTraces = false) (mc ms : Nat) (u0 : St) (post : Int → St → Prop) (px : St → Prop) (hw : w_X9_run post px mc ms G u0) : CtX l G yX9_run (ws_ yX9_run cX9_run 1 (some .int)) (rm_X9_run mc ms) [.ref (a 0)] (WC G a u0) mc ms (Po (WC G a) post) "java/lang/IllegalArgumentException" (PoV (WC G a) px) := by
  refine CtX.of (by decide) (Nat.le_of_ble_eq_true rfl) ?_
  intro p e s m args below meth c ls hne X hr hlk K g h hl
  have hl : lv_has ls 1 [(0, .ref (a 0))] := hl
  obtain ⟨H, hH⟩ : ∃ H, H = s.heap := ⟨_, rfl⟩
  obtain ⟨locs, hL⟩ : ∃ L : List Loc, L = [] := ⟨_, rfl⟩
  replace h : HW G (va_A (WC G a u0) s.heap.size) s.heap (WC G a u0) H locs := by rw [hH, hL]; exact h
  suffices hg : W p l e (rm_X9_run mc ms) s m args below meth c H locs 0 0 (EndX G (WC G a u0) (Po (WC G a) post) "java/lang/IllegalArgumentException" (PoV (WC G a) px) args s mc ms below) (F0 m 0 ls []) by rw [hH, hL] at hg; exact hg
  clear hH hL
  refine z_aload_n X hl 0 rfl rfl dX9_run_0 ?_
  refine gC_X9_script X K h q_308 dX9_run_1 ?_
  refine z_aload_n X hl 0 rfl rfl dX9_run_4 ?_
  refine gC_X9_tape X K h q_307 dX9_run_5 ?_
  refine r_callVv (rest := []) X K g h (ct_X7_split u0 _ hw) lk_X9_94 9 rfl rfl ⟨rfl, rfl⟩ ⟨Nat.le_of_ble_eq_true rfl, Nat.le_of_ble_eq_true rfl⟩ rfl (lv_size hl) rfl (Nat.le_of_ble_eq_true rfl) dX9_run_8 ⟨(Nat.zero_le _), (Nat.zero_le _)⟩ (fun w' H locs hp h => ?_)
  obtain ⟨u1, rfl, hw⟩ := hp
  refine z_aload_n X hl 0 rfl rfl dX9_run_11 ?_
  refine z_aload_n X hl 0 rfl rfl dX9_run_12 ?_
  refine gC_X9_script X K h q_308 dX9_run_13 ?_
  refine z_aload_n X hl 0 rfl rfl dX9_run_16 ?_
  refine gC_X9_tape X K h q_307 dX9_run_17 ?_
  refine gC_X8_length (x := sI u1 14) X K h rfl q_271 dX9_run_20 ?_
  refine r_callVi (rest := [.ref (a 0)]) X K g h (ct_X7_misfitOfScript u1 (sI u1 14) _ hw) lk_X9_124 9 rfl rfl ⟨rfl, rfl⟩ ⟨Nat.le_of_ble_eq_true rfl, Nat.le_of_ble_eq_true rfl⟩ rfl (lv_size hl) rfl (Nat.le_of_ble_eq_true rfl) dX9_run_23 ⟨(Nat.zero_le _), (Nat.zero_le _)⟩ (fun z2 w' H locs hp h => ?_)
  obtain ⟨u3, rfl, hw⟩ := hp
  refine pC_X9_errorAt X K h q_310 dX9_run_26 (fun H locs h => ?_)
  refine z_aload_n X hl 0 rfl rfl dX9_run_29 ?_
  refine gC_X9_tape X K h q_307 dX9_run_30 ?_
  refine z_iconst X dX9_run_33 ?_
  refine pC_X8_length X K h q_271 dX9_run_34 (fun H locs h => ?_)
  refine z_aload_n X hl 0 rfl rfl dX9_run_37 ?_
  refine z_iconst X dX9_run_38 ?_
  refine pC_X9_ending X K h q_311 dX9_run_39 (fun H locs h => ?_)
  refine z_aload_n X hl 0 rfl rfl dX9_run_42 ?_
  refine gC_X9_errorAt (x := z2) X K h rfl q_310 dX9_run_43 ?_
  refine z_iconst X dX9_run_46 ?_
  obtain ⟨h4, hw⟩ := hw
  refine z_icmp_eq (tgt := 58) X h4 (by decide) dX9_run_47 (by decide) (fun c5 => ?_) (fun c5 => ?_)
  · replace hw := hw.1 c5
    refine z_aload_n X hl 0 rfl rfl dX9_run_58 ?_
    refine z_aload_n X hl 0 rfl rfl dX9_run_59 ?_
    refine gC_X9_editor X K h q_306 dX9_run_60 ?_
    refine gC_X1_done (x := sI u3 4) X K h rfl q_247 dX9_run_63 ?_
    refine pC_X9_scriptStart X K h q_309 dX9_run_66 (fun H locs h => ?_)
    refine z_aload_n X hl 0 rfl rfl dX9_run_69 ?_
    refine z_aload_n X hl 0 rfl rfl dX9_run_70 ?_
    refine z_iconst X dX9_run_71 ?_
    refine z_aload_n X hl 0 rfl rfl dX9_run_72 ?_
    refine gC_X9_script X K h q_308 dX9_run_73 ?_
    refine gC_X7_count (x := sI u3 16) X K h rfl q_290 dX9_run_76 ?_
    refine z_iconst X dX9_run_79 ?_
    obtain ⟨a7, b8, hk9, hs10, hw⟩ := hw
    refine r_callVi (rest := [.ref (a 0)]) X K g h (ct_X9_perform a7 b8 (pI (pI (pI (pI u3 1 z2) 14 0) 2 0) 0 (sI u3 4)) 0 (sI u3 16) 0 _ hw) lk_X9_133 0 rfl rfl ⟨rfl, rfl⟩ ⟨Nat.le_of_ble_eq_true rfl, Nat.le_of_ble_eq_true rfl⟩ rfl (lv_size hl) rfl (Nat.le_of_ble_eq_true rfl) dX9_run_80 ⟨hk9, hs10⟩ (fun z6 w' H locs hp h => ?_)
    obtain ⟨u11, rfl, hw⟩ := hp
    refine pC_X9_ending X K h q_311 dX9_run_83 (fun H locs h => ?_)
    refine z_aload_n X hl 0 rfl rfl dX9_run_86 ?_
    refine gC_X9_editor X K h q_306 dX9_run_87 ?_
    refine gC_X1_done (x := sI u11 4) X K h rfl q_247 dX9_run_90 ?_
    refine z_aload_n X hl 0 rfl rfl dX9_run_93 ?_
    refine gC_X9_scriptStart (x := sI u11 0) X K h rfl q_309 dX9_run_94 ?_
    refine z_isub X dX9_run_97 ?_
    exact vx_ret (r_iret X hr hlk K h hk9 hs10 dX9_run_98 ⟨_, rfl, hw⟩)
  · replace hw := hw.2 c5
    obtain ⟨h12, h13, hw⟩ := hw
    exact r_throw X hst hlk hne K g h tw_IAE (lv_size hl) dX9_run_50 dX9_run_53 dX9_run_54 dX9_run_57 ⟨Nat.le_of_ble_eq_true rfl, Nat.le_of_ble_eq_true rfl⟩ ⟨h12, h13⟩ h12 h13 ⟨_, rfl, hw⟩
