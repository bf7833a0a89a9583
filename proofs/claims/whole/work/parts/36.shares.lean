/-! the mean of the letters, the share of the caret -/
def b_X9_meanLetters_21 (post : UInt64 → Prop) (u6 : St) (y1_21 : Int) (K21 : Int × Int → Prop) (x2_4 : Int) (x3_5 : Int) : Prop :=
(InR x3_5) ∧ (InR y1_21) ∧ ((y1_21 ≤ x3_5 → (∀ r10 : UInt64, alike64 r10 (FP.ddiv (FP.i2d (Int32.ofInt x2_4)) (FP.i2d (Int32.ofInt y1_21))) = true → post r10)) ∧
 (¬ y1_21 ≤ x3_5 → (w_X3_wordOf (fun (z14 : Int) => (w_X9_lettersOf (fun (z15 : Int) => K21 (x2_4 + z15, x3_5 + 1)) z14)) u6 x3_5)))
def B_X9_meanLetters_21 (post : UInt64 → Prop) (u6 : St) (y1_21 : Int) : (Int × Int → Prop) → Int × Int → Prop := fun K t => b_X9_meanLetters_21 post u6 y1_21 K t.1 t.2
def w_X9_meanLetters (post : UInt64 → Prop) (u0 : St) : Prop :=
(w_X3_length (fun (z1 : Int) => (InR z1) ∧ ((¬ z1 = 0 → (∃ n : Nat, Lp (B_X9_meanLetters_21 post u0 z1) n (0, 0))) ∧
 (z1 = 0 → post FP.dconst0))) u0)
abbrev rm_X9_meanLetters : Room := { frames := 2, cells := 0, slots := 0, locals := 43 }
set_option maxRecDepth 100000 in
set_option maxHeartbeats 4000000 in
theorem ct_X9_meanLetters {l : Launch} {G : Gr} {a : Nat → Nat} (u0 : St) (post : UInt64 → Prop) (hw : w_X9_meanLetters post u0) : CtD l G yX9_meanLetters (ws_ yX9_meanLetters cX9_meanLetters 4 (some .double)) rm_X9_meanLetters [.ref (a 0)] (WC G a u0) 0 0 (PoDp (WC G a u0) post) := by
  refine CtD.of (by decide) (Nat.le_of_ble_eq_true rfl) ?_
  intro p e s m args below meth c ls X hr hlk K g h hl
  have hl : lv_has ls 4 [(0, .ref (a 0))] := hl
  obtain ⟨H, hH⟩ : ∃ H, H = s.heap := ⟨_, rfl⟩
  obtain ⟨locs, hL⟩ : ∃ L : List Loc, L = [] := ⟨_, rfl⟩
  replace h : HW G (va_A (WC G a u0) s.heap.size) s.heap (WC G a u0) H locs := by rw [hH, hL]; exact h
  suffices hg : W p l e rm_X9_meanLetters (s.setDrawn s.drawn) m args below meth c H locs 0 0 (EndD G (WC G a u0) (PoDp (WC G a u0) post) args s 0 0 below) (F0 m 0 ls []) by rw [hH, hL] at hg; exact hg
  clear hH hL
  refine z_aload_n X hl 0 rfl rfl dX9_meanLetters_0 ?_
  refine gC_X9_editor X K h q_306 dX9_meanLetters_1 ?_
  refine gC_X1_lines X K h q_241 dX9_meanLetters_4 ?_
  refine r_callVi (rest := []) X K g h (ct_X3_length u0 _ hw) lk_X9_122 3 rfl rfl ⟨rfl, rfl⟩ ⟨Nat.le_of_ble_eq_true rfl, Nat.le_of_ble_eq_true rfl⟩ rfl (lv_size hl) rfl (Nat.le_of_ble_eq_true rfl) dX9_meanLetters_7 ⟨Nat.le_of_ble_eq_true rfl, Nat.le_of_ble_eq_true rfl⟩ (fun z1 w' H locs hp h => ?_)
  obtain ⟨rfl, hw⟩ := hp
  refine z_istore_n (i := 1) (lv' := [(1, zI z1), (0, .ref (a 0))]) X hl rfl (by decide) dX9_meanLetters_10 rfl (fun ls hl => ?_)
  refine z_iload_n X hl 0 rfl rfl dX9_meanLetters_11 ?_
  obtain ⟨h2, hw⟩ := hw
  refine z_if_ne (tgt := 17) X h2 dX9_meanLetters_12 (by decide) (fun c3 => ?_) (fun c3 => ?_)
  · replace hw := hw.1 c3
    refine z_iconst X dX9_meanLetters_17 ?_
    refine z_istore_n (i := 2) (lv' := [(2, zI 0), (1, zI z1), (0, .ref (a 0))]) X hl rfl (by decide) dX9_meanLetters_18 rfl (fun ls hl => ?_)
    refine z_iconst X dX9_meanLetters_19 ?_
    refine z_istore_n (i := 3) (lv' := [(3, zI 0), (2, zI 0), (1, zI z1), (0, .ref (a 0))]) X hl rfl (by decide) dX9_meanLetters_20 rfl (fun ls hl => ?_)
    obtain ⟨n21, hw⟩ := hw
    have key21 : ∀ (n : Nat) (t : Int × Int) (H : Heap) (locs : List Loc) (ls : Array Slot), Lp (B_X9_meanLetters_21 post u0 z1) n t → HW G (va_A (WC G a u0) s.heap.size) s.heap (WC G a u0) H locs → lv_has ls 4 [(0, .ref (a 0)), (1, zI z1), (2, zI t.1), (3, zI t.2)] → W p l e rm_X9_meanLetters (s.setDrawn s.drawn) m args below meth c H locs 0 0 (EndD G (WC G a u0) (PoDp (WC G a u0) post) args s 0 0 below) (F0 m 21 ls []) := by
      intro n
      induction n with
      | zero =>
        intro t H locs ls hw
        exact hw.elim
      | succ n21 ih21 =>
        rintro ⟨x2_4, x3_5⟩ H locs ls hw h hl
        replace hw : b_X9_meanLetters_21 post u0 z1 (Lp (B_X9_meanLetters_21 post u0 z1) n21) x2_4 x3_5 := hw
        refine z_iload_n X hl 3 rfl rfl dX9_meanLetters_21 ?_
        refine z_iload_n X hl 1 rfl rfl dX9_meanLetters_22 ?_
        obtain ⟨h7, h8, hw⟩ := hw
        refine z_icmp_ge (tgt := 49) X h7 h8 dX9_meanLetters_23 (by decide) (fun c9 => ?_) (fun c9 => ?_)
        · replace hw := hw.1 c9
          refine z_iload_n X hl 2 rfl rfl dX9_meanLetters_49 ?_
          refine lv_i2d X.1 X.2.1 dX9_meanLetters_50 ?_
          refine z_iload_n X hl 1 rfl rfl dX9_meanLetters_51 ?_
          refine lv_i2d X.1 X.2.1 dX9_meanLetters_52 ?_
          refine lv_ddiv_any (Drawn.sameBut.refl s.drawn lw_cs) lw_bits X.1 X.2.1 dX9_meanLetters_53 (fun r10 d12 hal11 hd13 => ?_)
          replace hw := hw r10 hal11
          exact r_dret hd13 X hr hlk K h (Nat.le_refl _) (Nat.le_refl _) dX9_meanLetters_54 ⟨rfl, hw⟩
        · replace hw := hw.2 c9
          refine z_iload_n X hl 2 rfl rfl dX9_meanLetters_26 ?_
          refine z_aload_n X hl 0 rfl rfl dX9_meanLetters_27 ?_
          refine gC_X9_editor X K h q_306 dX9_meanLetters_28 ?_
          refine gC_X1_lines X K h q_241 dX9_meanLetters_31 ?_
          refine z_iload_n X hl 3 rfl rfl dX9_meanLetters_34 ?_
          refine r_callVi (rest := [zI x2_4]) X K g h (ct_X3_wordOf u0 x3_5 _ hw) lk_X9_144 3 rfl rfl ⟨rfl, rfl⟩ ⟨Nat.le_of_ble_eq_true rfl, Nat.le_of_ble_eq_true rfl⟩ rfl (lv_size hl) rfl (Nat.le_of_ble_eq_true rfl) dX9_meanLetters_35 ⟨Nat.le_of_ble_eq_true rfl, Nat.le_of_ble_eq_true rfl⟩ (fun z14 w' H locs hp h => ?_)
          obtain ⟨rfl, hw⟩ := hp
          refine r_callSi (rest := [zI x2_4]) X K g h (ct_X9_lettersOf (w := WC G a u0) z14 _ hw) lk_X9_170 ⟨rfl, rfl⟩ ⟨Nat.le_of_ble_eq_true rfl, Nat.le_of_ble_eq_true rfl⟩ rfl (lv_size hl) rfl (Nat.le_of_ble_eq_true rfl) dX9_meanLetters_38 ⟨Nat.le_of_ble_eq_true rfl, Nat.le_of_ble_eq_true rfl⟩ (fun z15 w' H locs hp h => ?_)
          obtain ⟨rfl, hw⟩ := hp
          refine z_iadd X dX9_meanLetters_41 ?_
          refine z_istore_n (i := 2) (lv' := [(2, zI (x2_4 + z15)), (0, .ref (a 0)), (1, zI z1), (3, zI x3_5)]) X hl rfl (by decide) dX9_meanLetters_42 rfl (fun ls hl => ?_)
          refine z_iinc (lv' := [(3, zI (x3_5 + 1)), (2, zI (x2_4 + z15)), (0, .ref (a 0)), (1, zI z1)]) X hl 3 rfl (by decide) dX9_meanLetters_43 rfl (fun ls hl => ?_)
          refine z_goto (tgt := 21) X dX9_meanLetters_46 (by decide) ?_
          exact ih21 (x2_4 + z15, x3_5 + 1) H locs ls hw h (lv_sub hl [2, 3, 1, 0] rfl)
    exact key21 n21 (0, 0) H locs ls hw h (lv_sub hl [3, 2, 1, 0] rfl)
  · replace hw := hw.2 c3
    refine lv_dconst0 X.1 X.2.1 dX9_meanLetters_15 ?_
    exact r_dret (Drawn.sameBut.refl s.drawn lw_cs) X hr hlk K h (Nat.le_refl _) (Nat.le_refl _) dX9_meanLetters_16 ⟨rfl, hw⟩
def w_X9_caretShare (post : UInt32 → Prop) (u0 : St) : Prop :=
(w_X3_length (fun (z1 : Int) => (InR z1) ∧ ((¬ z1 = 0 → (w_X3_caret (fun (z4 : Int) => (∀ r5 : UInt32, alike32 r5 (FP.fdiv (FP.i2f (Int32.ofInt z4)) (FP.i2f (Int32.ofInt z1))) = true → post r5)) u0)) ∧
 (z1 = 0 → post FP.fconst0))) u0)
abbrev rm_X9_caretShare : Room := { frames := 2, cells := 0, slots := 0, locals := 40 }
set_option maxRecDepth 100000 in
set_option maxHeartbeats 4000000 in
theorem ct_X9_caretShare {l : Launch} {G : Gr} {a : Nat → Nat} (u0 : St) (post : UInt32 → Prop) (hw : w_X9_caretShare post u0) : CtF l G yX9_caretShare (ws_ yX9_caretShare cX9_caretShare 2 (some .float)) rm_X9_caretShare [.ref (a 0)] (WC G a u0) 0 0 (PoFp (WC G a u0) post) := by
  refine CtF.of (by decide) (Nat.le_of_ble_eq_true rfl) ?_
  intro p e s m args below meth c ls X hr hlk K g h hl
  have hl : lv_has ls 2 [(0, .ref (a 0))] := hl
  obtain ⟨H, hH⟩ : ∃ H, H = s.heap := ⟨_, rfl⟩
  obtain ⟨locs, hL⟩ : ∃ L : List Loc, L = [] := ⟨_, rfl⟩
  replace h : HW G (va_A (WC G a u0) s.heap.size) s.heap (WC G a u0) H locs := by rw [hH, hL]; exact h
  suffices hg : W p l e rm_X9_caretShare (s.setDrawn s.drawn) m args below meth c H locs 0 0 (EndF G (WC G a u0) (PoFp (WC G a u0) post) args s 0 0 below) (F0 m 0 ls []) by rw [hH, hL] at hg; exact hg
  clear hH hL
  refine z_aload_n X hl 0 rfl rfl dX9_caretShare_0 ?_
  refine gC_X9_editor X K h q_306 dX9_caretShare_1 ?_
  refine gC_X1_lines X K h q_241 dX9_caretShare_4 ?_
  refine r_callVi (rest := []) X K g h (ct_X3_length u0 _ hw) lk_X9_122 3 rfl rfl ⟨rfl, rfl⟩ ⟨Nat.le_of_ble_eq_true rfl, Nat.le_of_ble_eq_true rfl⟩ rfl (lv_size hl) rfl (Nat.le_of_ble_eq_true rfl) dX9_caretShare_7 ⟨Nat.le_of_ble_eq_true rfl, Nat.le_of_ble_eq_true rfl⟩ (fun z1 w' H locs hp h => ?_)
  obtain ⟨rfl, hw⟩ := hp
  refine z_istore_n (i := 1) (lv' := [(1, zI z1), (0, .ref (a 0))]) X hl rfl (by decide) dX9_caretShare_10 rfl (fun ls hl => ?_)
  refine z_iload_n X hl 0 rfl rfl dX9_caretShare_11 ?_
  obtain ⟨h2, hw⟩ := hw
  refine z_if_ne (tgt := 17) X h2 dX9_caretShare_12 (by decide) (fun c3 => ?_) (fun c3 => ?_)
  · replace hw := hw.1 c3
    refine z_aload_n X hl 1 rfl rfl dX9_caretShare_17 ?_
    refine gC_X9_editor X K h q_306 dX9_caretShare_18 ?_
    refine gC_X1_lines X K h q_241 dX9_caretShare_21 ?_
    refine r_callVi (rest := []) X K g h (ct_X3_caret u0 _ hw) lk_X9_137 3 rfl rfl ⟨rfl, rfl⟩ ⟨Nat.le_of_ble_eq_true rfl, Nat.le_of_ble_eq_true rfl⟩ rfl (lv_size hl) rfl (Nat.le_of_ble_eq_true rfl) dX9_caretShare_24 ⟨Nat.le_of_ble_eq_true rfl, Nat.le_of_ble_eq_true rfl⟩ (fun z4 w' H locs hp h => ?_)
    obtain ⟨rfl, hw⟩ := hp
    refine lv_i2f X.1 X.2.1 dX9_caretShare_27 ?_
    refine z_iload_n X hl 0 rfl rfl dX9_caretShare_28 ?_
    refine lv_i2f X.1 X.2.1 dX9_caretShare_29 ?_
    refine lv_fdiv_any (Drawn.sameBut.refl s.drawn lw_cs) lw_bits X.1 X.2.1 dX9_caretShare_30 (fun r5 d7 hal6 hd8 => ?_)
    replace hw := hw r5 hal6
    exact r_fret hd8 X hr hlk K h (Nat.le_refl _) (Nat.le_refl _) dX9_caretShare_31 ⟨rfl, hw⟩
  · replace hw := hw.2 c3
    refine lv_fconst0 X.1 X.2.1 dX9_caretShare_15 ?_
    exact r_fret (Drawn.sameBut.refl s.drawn lw_cs) X hr hlk K h (Nat.le_refl _) (Nat.le_refl _) dX9_caretShare_16 ⟨rfl, hw⟩
def b_X10_meanLetters_9 (post : UInt64 → St → Prop) (u3 : St) (K9 : Int × Int → Prop) (x1_1 : Int) (x2_2 : Int) : Prop :=
(w_X10_many (fun (z4 : Int) => (InR x2_2) ∧ (InR z4) ∧ ((z4 ≤ x2_2 → (w_X10_many (fun (z8 : Int) => (InR z8) ∧ ((¬ z8 = 0 → (w_X10_many (fun (z11 : Int) => (∀ r12 : UInt64, alike64 r12 (FP.ddiv (FP.i2d (Int32.ofInt x1_1)) (FP.i2d (Int32.ofInt z11))) = true → post r12 u3)) u3)) ∧
 (z8 = 0 → post FP.dconst0 u3))) u3)) ∧
 (¬ z4 ≤ x2_2 → (w_X10_wordIn (fun (z16 : Int) => (w_X10_letters (fun (z17 : Int) => K9 (x1_1 + z17, x2_2 + 1)) z16)) u3 x2_2)))) u3)
def B_X10_meanLetters_9 (post : UInt64 → St → Prop) (u3 : St) : (Int × Int → Prop) → Int × Int → Prop := fun K t => b_X10_meanLetters_9 post u3 K t.1 t.2
def w_X10_meanLetters (post : UInt64 → St → Prop) (u0 : St) : Prop :=
(∃ n : Nat, Lp (B_X10_meanLetters_9 post (pI u0 0 0)) n (0, 0))
abbrev rm_X10_meanLetters : Room := { frames := 1, cells := 0, slots := 0, locals := 22 }
set_option maxRecDepth 100000 in
set_option maxHeartbeats 4000000 in
theorem ct_X10_meanLetters {l : Launch} {G : Gr} {a : Nat → Nat} (u0 : St) (post : UInt64 → St → Prop) (hw : w_X10_meanLetters post u0) : CtD l G yX10_meanLetters (ws_ yX10_meanLetters cX10_meanLetters 3 (some .double)) rm_X10_meanLetters [.ref (a 0)] (WM G a u0) 0 0 (PoD (WM G a) post) := by
  refine CtD.of (by decide) (Nat.le_of_ble_eq_true rfl) ?_
  intro p e s m args below meth c ls X hr hlk K g h hl
  have hl : lv_has ls 3 [(0, .ref (a 0))] := hl
  obtain ⟨H, hH⟩ : ∃ H, H = s.heap := ⟨_, rfl⟩
  obtain ⟨locs, hL⟩ : ∃ L : List Loc, L = [] := ⟨_, rfl⟩
  replace h : HW G (va_A (WM G a u0) s.heap.size) s.heap (WM G a u0) H locs := by rw [hH, hL]; exact h
  suffices hg : W p l e rm_X10_meanLetters (s.setDrawn s.drawn) m args below meth c H locs 0 0 (EndD G (WM G a u0) (PoD (WM G a) post) args s 0 0 below) (F0 m 0 ls []) by rw [hH, hL] at hg; exact hg
  clear hH hL
  refine z_aload_n X hl 0 rfl rfl dX10_meanLetters_0 ?_
  refine z_iconst X dX10_meanLetters_1 ?_
  refine pM_X10_thrown X K h q_1339 dX10_meanLetters_2 (fun H locs h => ?_)
  refine z_iconst X dX10_meanLetters_5 ?_
  refine z_istore_n (i := 1) (lv' := [(1, zI 0), (0, .ref (a 0))]) X hl rfl (by decide) dX10_meanLetters_6 rfl (fun ls hl => ?_)
  refine z_iconst X dX10_meanLetters_7 ?_
  refine z_istore_n (i := 2) (lv' := [(2, zI 0), (1, zI 0), (0, .ref (a 0))]) X hl rfl (by decide) dX10_meanLetters_8 rfl (fun ls hl => ?_)
  obtain ⟨n9, hw⟩ := hw
  have key9 : ∀ (n : Nat) (t : Int × Int) (H : Heap) (locs : List Loc) (ls : Array Slot), Lp (B_X10_meanLetters_9 post (pI u0 0 0)) n t → HW G (va_A (WM G a u0) s.heap.size) s.heap (WM G a (pI u0 0 0)) H locs → lv_has ls 3 [(0, .ref (a 0)), (1, zI t.1), (2, zI t.2)] → W p l e rm_X10_meanLetters (s.setDrawn s.drawn) m args below meth c H locs 0 0 (EndD G (WM G a u0) (PoD (WM G a) post) args s 0 0 below) (F0 m 9 ls []) := by
    intro n
    induction n with
    | zero =>
      intro t H locs ls hw
      exact hw.elim
    | succ n9 ih9 =>
      rintro ⟨x1_1, x2_2⟩ H locs ls hw h hl
      replace hw : b_X10_meanLetters_9 post (pI u0 0 0) (Lp (B_X10_meanLetters_9 post (pI u0 0 0)) n9) x1_1 x2_2 := hw
      refine z_iload_n X hl 2 rfl rfl dX10_meanLetters_9 ?_
      refine z_aload_n X hl 0 rfl rfl dX10_meanLetters_10 ?_
      refine r_callVi (rest := [zI x2_2]) X K g h (ct_X10_many (pI u0 0 0) _ hw) lk_X10_84 0 rfl rfl ⟨rfl, rfl⟩ ⟨Nat.le_of_ble_eq_true rfl, Nat.le_of_ble_eq_true rfl⟩ rfl (lv_size hl) rfl (Nat.le_of_ble_eq_true rfl) dX10_meanLetters_11 ⟨Nat.le_of_ble_eq_true rfl, Nat.le_of_ble_eq_true rfl⟩ (fun z4 w' H locs hp h => ?_)
      obtain ⟨rfl, hw⟩ := hp
      obtain ⟨h5, h6, hw⟩ := hw
      refine z_icmp_ge (tgt := 34) X h5 h6 dX10_meanLetters_14 (by decide) (fun c7 => ?_) (fun c7 => ?_)
      · replace hw := hw.1 c7
        refine z_aload_n X hl 0 rfl rfl dX10_meanLetters_34 ?_
        refine r_callVi (rest := []) X K g h (ct_X10_many (pI u0 0 0) _ hw) lk_X10_84 0 rfl rfl ⟨rfl, rfl⟩ ⟨Nat.le_of_ble_eq_true rfl, Nat.le_of_ble_eq_true rfl⟩ rfl (lv_size hl) rfl (Nat.le_of_ble_eq_true rfl) dX10_meanLetters_35 ⟨Nat.le_of_ble_eq_true rfl, Nat.le_of_ble_eq_true rfl⟩ (fun z8 w' H locs hp h => ?_)
        obtain ⟨rfl, hw⟩ := hp
        obtain ⟨h9, hw⟩ := hw
        refine z_if_ne (tgt := 45) X h9 dX10_meanLetters_38 (by decide) (fun c10 => ?_) (fun c10 => ?_)
        · replace hw := hw.1 c10
          refine z_iload_n X hl 1 rfl rfl dX10_meanLetters_45 ?_
          refine lv_i2d X.1 X.2.1 dX10_meanLetters_46 ?_
          refine z_aload_n X hl 0 rfl rfl dX10_meanLetters_47 ?_
          refine r_callVi (rest := [.double (FP.i2d (Int32.ofInt x1_1))]) X K g h (ct_X10_many (pI u0 0 0) _ hw) lk_X10_84 0 rfl rfl ⟨rfl, rfl⟩ ⟨Nat.le_of_ble_eq_true rfl, Nat.le_of_ble_eq_true rfl⟩ rfl (lv_size hl) rfl (Nat.le_of_ble_eq_true rfl) dX10_meanLetters_48 ⟨Nat.le_of_ble_eq_true rfl, Nat.le_of_ble_eq_true rfl⟩ (fun z11 w' H locs hp h => ?_)
          obtain ⟨rfl, hw⟩ := hp
          refine lv_i2d X.1 X.2.1 dX10_meanLetters_51 ?_
          refine lv_ddiv_any (Drawn.sameBut.refl s.drawn lw_cs) lw_bits X.1 X.2.1 dX10_meanLetters_52 (fun r12 d14 hal13 hd15 => ?_)
          replace hw := hw r12 hal13
          exact r_dret hd15 X hr hlk K h (Nat.le_refl _) (Nat.le_refl _) dX10_meanLetters_53 ⟨_, rfl, hw⟩
        · replace hw := hw.2 c10
          refine lv_dconst0 X.1 X.2.1 dX10_meanLetters_41 ?_
          refine z_goto (tgt := 53) X dX10_meanLetters_42 (by decide) ?_
          exact r_dret (Drawn.sameBut.refl s.drawn lw_cs) X hr hlk K h (Nat.le_refl _) (Nat.le_refl _) dX10_meanLetters_53 ⟨_, rfl, hw⟩
      · replace hw := hw.2 c7
        refine z_iload_n X hl 1 rfl rfl dX10_meanLetters_17 ?_
        refine z_aload_n X hl 0 rfl rfl dX10_meanLetters_18 ?_
        refine z_iload_n X hl 2 rfl rfl dX10_meanLetters_19 ?_
        refine r_callVi (rest := [zI x1_1]) X K g h (ct_X10_wordIn (pI u0 0 0) x2_2 _ hw) lk_X10_88 0 rfl rfl ⟨rfl, rfl⟩ ⟨Nat.le_of_ble_eq_true rfl, Nat.le_of_ble_eq_true rfl⟩ rfl (lv_size hl) rfl (Nat.le_of_ble_eq_true rfl) dX10_meanLetters_20 ⟨Nat.le_of_ble_eq_true rfl, Nat.le_of_ble_eq_true rfl⟩ (fun z16 w' H locs hp h => ?_)
        obtain ⟨rfl, hw⟩ := hp
        refine r_callSi (rest := [zI x1_1]) X K g h (ct_X10_letters (w := WM G a (pI u0 0 0)) z16 _ hw) lk_X10_62 ⟨rfl, rfl⟩ ⟨Nat.le_of_ble_eq_true rfl, Nat.le_of_ble_eq_true rfl⟩ rfl (lv_size hl) rfl (Nat.le_of_ble_eq_true rfl) dX10_meanLetters_23 ⟨Nat.le_of_ble_eq_true rfl, Nat.le_of_ble_eq_true rfl⟩ (fun z17 w' H locs hp h => ?_)
        obtain ⟨rfl, hw⟩ := hp
        refine z_iadd X dX10_meanLetters_26 ?_
        refine z_istore_n (i := 1) (lv' := [(1, zI (x1_1 + z17)), (0, .ref (a 0)), (2, zI x2_2)]) X hl rfl (by decide) dX10_meanLetters_27 rfl (fun ls hl => ?_)
        refine z_iinc (lv' := [(2, zI (x2_2 + 1)), (1, zI (x1_1 + z17)), (0, .ref (a 0))]) X hl 2 rfl (by decide) dX10_meanLetters_28 rfl (fun ls hl => ?_)
        refine z_goto (tgt := 9) X dX10_meanLetters_31 (by decide) ?_
        exact ih9 (x1_1 + z17, x2_2 + 1) H locs ls hw h (lv_sub hl [2, 1, 0] rfl)
  exact key9 n9 (0, 0) H locs ls hw h (lv_sub hl [2, 1, 0] rfl)
def w_X10_caretShare (post : UInt32 → St → Prop) (u0 : St) : Prop :=
(w_X10_many (fun (z1 : Int) => (InR z1) ∧ ((¬ z1 = 0 → (w_X10_many (fun (z4 : Int) => (∀ r5 : UInt32, alike32 r5 (FP.fdiv (FP.i2f (Int32.ofInt (sI u0 1))) (FP.i2f (Int32.ofInt z4))) = true → post r5 (pI u0 0 0))) (pI u0 0 0))) ∧
 (z1 = 0 → post FP.fconst0 (pI u0 0 0)))) (pI u0 0 0))
abbrev rm_X10_caretShare : Room := { frames := 1, cells := 0, slots := 0, locals := 20 }
set_option maxRecDepth 100000 in
set_option maxHeartbeats 4000000 in
theorem ct_X10_caretShare {l : Launch} {G : Gr} {a : Nat → Nat} (u0 : St) (post : UInt32 → St → Prop) (hw : w_X10_caretShare post u0) : CtF l G yX10_caretShare (ws_ yX10_caretShare cX10_caretShare 1 (some .float)) rm_X10_caretShare [.ref (a 0)] (WM G a u0) 0 0 (PoF (WM G a) post) := by
  refine CtF.of (by decide) (Nat.le_of_ble_eq_true rfl) ?_
  intro p e s m args below meth c ls X hr hlk K g h hl
  have hl : lv_has ls 1 [(0, .ref (a 0))] := hl
  obtain ⟨H, hH⟩ : ∃ H, H = s.heap := ⟨_, rfl⟩
  obtain ⟨locs, hL⟩ : ∃ L : List Loc, L = [] := ⟨_, rfl⟩
  replace h : HW G (va_A (WM G a u0) s.heap.size) s.heap (WM G a u0) H locs := by rw [hH, hL]; exact h
  suffices hg : W p l e rm_X10_caretShare (s.setDrawn s.drawn) m args below meth c H locs 0 0 (EndF G (WM G a u0) (PoF (WM G a) post) args s 0 0 below) (F0 m 0 ls []) by rw [hH, hL] at hg; exact hg
  clear hH hL
  refine z_aload_n X hl 0 rfl rfl dX10_caretShare_0 ?_
  refine z_iconst X dX10_caretShare_1 ?_
  refine pM_X10_thrown X K h q_1339 dX10_caretShare_2 (fun H locs h => ?_)
  refine z_aload_n X hl 0 rfl rfl dX10_caretShare_5 ?_
  refine r_callVi (rest := []) X K g h (ct_X10_many (pI u0 0 0) _ hw) lk_X10_84 0 rfl rfl ⟨rfl, rfl⟩ ⟨Nat.le_of_ble_eq_true rfl, Nat.le_of_ble_eq_true rfl⟩ rfl (lv_size hl) rfl (Nat.le_of_ble_eq_true rfl) dX10_caretShare_6 ⟨Nat.le_of_ble_eq_true rfl, Nat.le_of_ble_eq_true rfl⟩ (fun z1 w' H locs hp h => ?_)
  obtain ⟨rfl, hw⟩ := hp
  obtain ⟨h2, hw⟩ := hw
  refine z_if_ne (tgt := 16) X h2 dX10_caretShare_9 (by decide) (fun c3 => ?_) (fun c3 => ?_)
  · replace hw := hw.1 c3
    refine z_aload_n X hl 0 rfl rfl dX10_caretShare_16 ?_
    refine gM_X10_backMany (x := sI u0 1) X K h rfl q_1342 dX10_caretShare_17 ?_
    refine lv_i2f X.1 X.2.1 dX10_caretShare_20 ?_
    refine z_aload_n X hl 0 rfl rfl dX10_caretShare_21 ?_
    refine r_callVi (rest := [.float (FP.i2f (Int32.ofInt (sI u0 1)))]) X K g h (ct_X10_many (pI u0 0 0) _ hw) lk_X10_84 0 rfl rfl ⟨rfl, rfl⟩ ⟨Nat.le_of_ble_eq_true rfl, Nat.le_of_ble_eq_true rfl⟩ rfl (lv_size hl) rfl (Nat.le_of_ble_eq_true rfl) dX10_caretShare_22 ⟨Nat.le_of_ble_eq_true rfl, Nat.le_of_ble_eq_true rfl⟩ (fun z4 w' H locs hp h => ?_)
    obtain ⟨rfl, hw⟩ := hp
    refine lv_i2f X.1 X.2.1 dX10_caretShare_25 ?_
    refine lv_fdiv_any (Drawn.sameBut.refl s.drawn lw_cs) lw_bits X.1 X.2.1 dX10_caretShare_26 (fun r5 d7 hal6 hd8 => ?_)
    replace hw := hw r5 hal6
    exact r_fret hd8 X hr hlk K h (Nat.le_refl _) (Nat.le_refl _) dX10_caretShare_27 ⟨_, rfl, hw⟩
  · replace hw := hw.2 c3
    refine lv_fconst0 X.1 X.2.1 dX10_caretShare_12 ?_
    refine z_goto (tgt := 27) X dX10_caretShare_13 (by decide) ?_
    exact r_fret (Drawn.sameBut.refl s.drawn lw_cs) X hr hlk K h (Nat.le_refl _) (Nat.le_refl _) dX10_caretShare_27 ⟨_, rfl, hw⟩
