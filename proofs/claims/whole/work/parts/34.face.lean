/-! the face -/
def w_X9_next (post : Int → St → Prop) (G : Gr) (u0 : St) : Prop :=
(w_X1_pass (fun (z1 : Int) (u2 : St) => post z1 u2) G u0 0)
abbrev rm_X9_next : Room := { frames := 6, cells := 0, slots := 0, locals := 130 }
set_option maxRecDepth 100000 in
set_option maxHeartbeats 4000000 in
theorem ct_X9_next {l : Launch} {G : Gr} {a : Nat → Nat} (u0 : St) (post : Int → St → Prop) (hw : w_X9_next post G u0) : Ct l G yX9_next (ws_ yX9_next cX9_next 1 (some .int)) rm_X9_next [.ref (a 0)] (WC G a u0) 0 0 (Po (WC G a) post) := by
  refine Ct.of (by decide) (Nat.le_of_ble_eq_true rfl) ?_
  intro p e s m args below meth c ls X hr hlk K g h hl
  have hl : lv_has ls 1 [(0, .ref (a 0))] := hl
  obtain ⟨H, hH⟩ : ∃ H, H = s.heap := ⟨_, rfl⟩
  obtain ⟨locs, hL⟩ : ∃ L : List Loc, L = [] := ⟨_, rfl⟩
  replace h : HW G (va_A (WC G a u0) s.heap.size) s.heap (WC G a u0) H locs := by rw [hH, hL]; exact h
  suffices hg : W p l e rm_X9_next s m args below meth c H locs 0 0 (EndI G (WC G a u0) (Po (WC G a) post) args s 0 0 below) (F0 m 0 ls []) by rw [hH, hL] at hg; exact hg
  clear hH hL
  refine z_aload_n X hl 0 rfl rfl dX9_next_0 ?_
  refine gC_X9_editor X K h q_306 dX9_next_1 ?_
  refine z_iconst X dX9_next_4 ?_
  refine r_callVi (rest := []) X K g h (ct_X1_pass u0 0 _ hw) lk_X9_41 1 rfl rfl ⟨rfl, rfl⟩ ⟨Nat.le_of_ble_eq_true rfl, Nat.le_of_ble_eq_true rfl⟩ rfl (lv_size hl) rfl (Nat.le_of_ble_eq_true rfl) dX9_next_5 ⟨Nat.le_of_ble_eq_true rfl, Nat.le_of_ble_eq_true rfl⟩ (fun z1 w' H locs hp h => ?_)
  obtain ⟨u2, rfl, hw⟩ := hp
  exact r_iret X hr hlk K h (Nat.le_refl _) (Nat.le_refl _) dX9_next_8 ⟨_, rfl, hw⟩
def w_X9_previous (post : Int → St → Prop) (G : Gr) (u0 : St) : Prop :=
(w_X1_pass (fun (z1 : Int) (u2 : St) => post z1 u2) G u0 1)
abbrev rm_X9_previous : Room := { frames := 6, cells := 0, slots := 0, locals := 130 }
set_option maxRecDepth 100000 in
set_option maxHeartbeats 4000000 in
theorem ct_X9_previous {l : Launch} {G : Gr} {a : Nat → Nat} (u0 : St) (post : Int → St → Prop) (hw : w_X9_previous post G u0) : Ct l G yX9_previous (ws_ yX9_previous cX9_previous 1 (some .int)) rm_X9_previous [.ref (a 0)] (WC G a u0) 0 0 (Po (WC G a) post) := by
  refine Ct.of (by decide) (Nat.le_of_ble_eq_true rfl) ?_
  intro p e s m args below meth c ls X hr hlk K g h hl
  have hl : lv_has ls 1 [(0, .ref (a 0))] := hl
  obtain ⟨H, hH⟩ : ∃ H, H = s.heap := ⟨_, rfl⟩
  obtain ⟨locs, hL⟩ : ∃ L : List Loc, L = [] := ⟨_, rfl⟩
  replace h : HW G (va_A (WC G a u0) s.heap.size) s.heap (WC G a u0) H locs := by rw [hH, hL]; exact h
  suffices hg : W p l e rm_X9_previous s m args below meth c H locs 0 0 (EndI G (WC G a u0) (Po (WC G a) post) args s 0 0 below) (F0 m 0 ls []) by rw [hH, hL] at hg; exact hg
  clear hH hL
  refine z_aload_n X hl 0 rfl rfl dX9_previous_0 ?_
  refine gC_X9_editor X K h q_306 dX9_previous_1 ?_
  refine z_iconst X dX9_previous_4 ?_
  refine r_callVi (rest := []) X K g h (ct_X1_pass u0 1 _ hw) lk_X9_41 1 rfl rfl ⟨rfl, rfl⟩ ⟨Nat.le_of_ble_eq_true rfl, Nat.le_of_ble_eq_true rfl⟩ rfl (lv_size hl) rfl (Nat.le_of_ble_eq_true rfl) dX9_previous_5 ⟨Nat.le_of_ble_eq_true rfl, Nat.le_of_ble_eq_true rfl⟩ (fun z1 w' H locs hp h => ?_)
  obtain ⟨u2, rfl, hw⟩ := hp
  exact r_iret X hr hlk K h (Nat.le_refl _) (Nat.le_refl _) dX9_previous_8 ⟨_, rfl, hw⟩
def b_X9_isWord_15 (post : Int → Prop) (K15 : Int → Prop) (x1_4 : Int) : Prop :=
(InR x1_4) ∧ ((x1_4 ≤ 0 → post 1) ∧
 (¬ x1_4 ≤ 0 → (0 ≤ x1_4) ∧ (InR (x1_4 % 27)) ∧ ((¬ x1_4 % 27 = 0 → K15 (x1_4 / 27)) ∧
 (x1_4 % 27 = 0 → post 0))))
def B_X9_isWord_15 (post : Int → Prop) : (Int → Prop) → Int → Prop := fun K t => b_X9_isWord_15 post K t
def w_X9_isWord (post : Int → Prop) (p0 : Int) : Prop :=
(InR p0) ∧ ((p0 < 1 → post 0) ∧
 (¬ p0 < 1 → ((p0 ≤ 387420488 → (∃ n : Nat, Lp (B_X9_isWord_15 post) n p0)) ∧
 (¬ p0 ≤ 387420488 → post 0))))
abbrev rm_X9_isWord : Room := { frames := 0, cells := 0, slots := 0, locals := 0 }
set_option maxRecDepth 100000 in
set_option maxHeartbeats 4000000 in
theorem ct_X9_isWord {l : Launch} {G : Gr} {w : va_W} (p0 : Int) (post : Int → Prop) (hw : w_X9_isWord post p0) : Ct l G yX9_isWord (ws_ yX9_isWord cX9_isWord 2 (some .boolean)) rm_X9_isWord [zI p0] w 0 0 (PoP w post) := by
  refine Ct.of (by decide) (Nat.le_of_ble_eq_true rfl) ?_
  intro p e s m args below meth c ls X hr hlk K g h hl
  have hl : lv_has ls 2 [(0, zI p0)] := hl
  obtain ⟨H, hH⟩ : ∃ H, H = s.heap := ⟨_, rfl⟩
  obtain ⟨locs, hL⟩ : ∃ L : List Loc, L = [] := ⟨_, rfl⟩
  replace h : HW G (va_A w s.heap.size) s.heap (w) H locs := by rw [hH, hL]; exact h
  suffices hg : W p l e rm_X9_isWord s m args below meth c H locs 0 0 (EndI G w (PoP w post) args s 0 0 below) (F0 m 0 ls []) by rw [hH, hL] at hg; exact hg
  clear hH hL
  refine z_iload_n X hl 0 rfl rfl dX9_isWord_0 ?_
  refine z_iconst X dX9_isWord_1 ?_
  obtain ⟨h1, hw⟩ := hw
  refine z_icmp_lt (tgt := 11) X h1 (by decide) dX9_isWord_2 (by decide) (fun c2 => ?_) (fun c2 => ?_)
  · replace hw := hw.1 c2
    refine z_iconst X dX9_isWord_11 ?_
    exact r_zret X hr hlk K h (Nat.le_refl _) (Nat.le_refl _) dX9_isWord_12 (by decide) ⟨rfl, hw⟩
  · replace hw := hw.2 c2
    refine z_iload_n X hl 0 rfl rfl dX9_isWord_5 ?_
    refine z_ldc (z := 387420488) X dX9_isWord_6 q_1120 rfl ?_
    refine z_icmp_le (tgt := 13) X h1 (by decide) dX9_isWord_8 (by decide) (fun c3 => ?_) (fun c3 => ?_)
    · replace hw := hw.1 c3
      refine z_iload_n X hl 0 rfl rfl dX9_isWord_13 ?_
      refine z_istore_n (i := 1) (lv' := [(1, zI p0), (0, zI p0)]) X hl rfl (by decide) dX9_isWord_14 rfl (fun ls hl => ?_)
      obtain ⟨n15, hw⟩ := hw
      have key15 : ∀ (n : Nat) (t : Int) (H : Heap) (locs : List Loc) (ls : Array Slot), Lp (B_X9_isWord_15 post) n t → HW G (va_A w s.heap.size) s.heap (w) H locs → lv_has ls 2 [(1, zI t)] → W p l e rm_X9_isWord s m args below meth c H locs 0 0 (EndI G w (PoP w post) args s 0 0 below) (F0 m 15 ls []) := by
        intro n
        induction n with
        | zero =>
          intro t H locs ls hw
          exact hw.elim
        | succ n15 ih15 =>
          intro x1_4 H locs ls hw h hl
          replace hw : b_X9_isWord_15 post (Lp (B_X9_isWord_15 post) n15) x1_4 := hw
          refine z_iload_n X hl 0 rfl rfl dX9_isWord_15 ?_
          obtain ⟨h5, hw⟩ := hw
          refine z_if_le (tgt := 36) X h5 dX9_isWord_16 (by decide) (fun c6 => ?_) (fun c6 => ?_)
          · replace hw := hw.1 c6
            refine z_iconst X dX9_isWord_36 ?_
            exact r_zret X hr hlk K h (Nat.le_refl _) (Nat.le_refl _) dX9_isWord_37 (by decide) ⟨rfl, hw⟩
          · replace hw := hw.2 c6
            refine z_iload_n X hl 0 rfl rfl dX9_isWord_19 ?_
            refine z_bipush (v := 27) X dX9_isWord_20 (by decide) ?_
            obtain ⟨h7, hw⟩ := hw
            refine z_irem X h5 (by decide) h7 (by decide) dX9_isWord_22 ?_
            obtain ⟨h8, hw⟩ := hw
            refine z_if_ne (tgt := 28) X h8 dX9_isWord_23 (by decide) (fun c9 => ?_) (fun c9 => ?_)
            · replace hw := hw.1 c9
              refine z_iload_n X hl 0 rfl rfl dX9_isWord_28 ?_
              refine z_bipush (v := 27) X dX9_isWord_29 (by decide) ?_
              refine z_idiv X h5 (by decide) h7 (by decide) dX9_isWord_31 ?_
              refine z_istore_n (i := 1) (lv' := [(1, zI (x1_4 / 27))]) X hl rfl (by decide) dX9_isWord_32 rfl (fun ls hl => ?_)
              refine z_goto (tgt := 15) X dX9_isWord_33 (by decide) ?_
              exact ih15 (x1_4 / 27) H locs ls hw h (lv_sub hl [0] rfl)
            · replace hw := hw.2 c9
              refine z_iconst X dX9_isWord_26 ?_
              exact r_zret X hr hlk K h (Nat.le_refl _) (Nat.le_refl _) dX9_isWord_27 (by decide) ⟨rfl, hw⟩
      exact key15 n15 p0 H locs ls hw h (lv_sub hl [0] rfl)
    · replace hw := hw.2 c3
      refine z_iconst X dX9_isWord_11 ?_
      exact r_zret X hr hlk K h (Nat.le_refl _) (Nat.le_refl _) dX9_isWord_12 (by decide) ⟨rfl, hw⟩
def w_X9_requireWord (post : Prop) (px : Prop) (mc ms : Nat) (u0 : St) (p0 : Int) : Prop :=
(w_X9_isWord (fun (z1 : Int) => (InR z1) ∧ ((¬ z1 = 0 → post) ∧
 (z1 = 0 → (0 + 1 ≤ mc) ∧ (0 + 6 ≤ ms) ∧ px))) p0)
abbrev rm_X9_requireWord (mc ms : Nat) : Room := { frames := 6, cells := mc, slots := ms, locals := 90 }
set_option maxRecDepth 100000 in
set_option maxHeartbeats 4000000 in
theorem ct_X9_requireWord {l : Launch} {G : Gr} {a : Nat → Nat} (hst : l.stackTraces = false) (mc ms : Nat) (u0 : St) (p0 : Int) (post : Prop) (px : Prop) (hw : w_X9_requireWord post px mc ms u0 p0) : CtXV l G yX9_requireWord (ws_ yX9_requireWord cX9_requireWord 1 (none)) (rm_X9_requireWord mc ms) [zI p0] (WC G a u0) mc ms (PoQ (WC G a u0) post) "java/lang/IllegalArgumentException" (PoQ (WC G a u0) px) := by
  refine CtXV.of (by decide) (Nat.le_of_ble_eq_true rfl) ?_
  intro p e s m args below meth c ls hne X hr hlk K g h hl
  have hl : lv_has ls 1 [(0, zI p0)] := hl
  obtain ⟨H, hH⟩ : ∃ H, H = s.heap := ⟨_, rfl⟩
  obtain ⟨locs, hL⟩ : ∃ L : List Loc, L = [] := ⟨_, rfl⟩
  replace h : HW G (va_A (WC G a u0) s.heap.size) s.heap (WC G a u0) H locs := by rw [hH, hL]; exact h
  suffices hg : W p l e (rm_X9_requireWord mc ms) s m args below meth c H locs 0 0 (EndXV G (WC G a u0) (PoQ (WC G a u0) post) "java/lang/IllegalArgumentException" (PoQ (WC G a u0) px) args s mc ms below) (F0 m 0 ls []) by rw [hH, hL] at hg; exact hg
  clear hH hL
  refine z_iload_n X hl 0 rfl rfl dX9_requireWord_0 ?_
  refine r_callSi (rest := []) X K g h (ct_X9_isWord (w := WC G a u0) p0 _ hw) lk_X9_180 ⟨rfl, rfl⟩ ⟨Nat.le_of_ble_eq_true rfl, Nat.le_of_ble_eq_true rfl⟩ rfl (lv_size hl) rfl (Nat.le_of_ble_eq_true rfl) dX9_requireWord_1 ⟨(Nat.zero_le _), (Nat.zero_le _)⟩ (fun z1 w' H locs hp h => ?_)
  obtain ⟨rfl, hw⟩ := hp
  obtain ⟨h2, hw⟩ := hw
  refine z_if_ne (tgt := 15) X h2 dX9_requireWord_4 (by decide) (fun c3 => ?_) (fun c3 => ?_)
  · replace hw := hw.1 c3
    exact vx_ret (r_vret X hr hlk K h (Nat.zero_le _) (Nat.zero_le _) dX9_requireWord_15 ⟨rfl, hw⟩)
  · replace hw := hw.2 c3
    obtain ⟨h4, h5, hw⟩ := hw
    exact r_throw X hst hlk hne K g h tw_IAE (lv_size hl) dX9_requireWord_7 dX9_requireWord_10 dX9_requireWord_11 dX9_requireWord_14 ⟨Nat.le_of_ble_eq_true rfl, Nat.le_of_ble_eq_true rfl⟩ ⟨h4, h5⟩ h4 h5 ⟨rfl, hw⟩
def w_X9_add (post : Int → St → Prop) (px : St → Prop) (mc ms : Nat) (G : Gr) (u0 : St) (p1 : Int) : Prop :=
(∃ a1 b2 : Nat, (0 + a1 ≤ mc) ∧ (0 + b2 ≤ ms) ∧ w_X9_requireWord ((∃ a6 b7 : Nat, (0 + a1 + a6 ≤ mc) ∧ (0 + b2 + b7 ≤ ms) ∧ w_X1_insert (fun (z5 : Int) (u10 : St) => post z5 u10) a6 b7 G u0 p1)) (px u0) a1 b2 u0 p1)
abbrev rm_X9_add (mc ms : Nat) : Room := { frames := 14, cells := mc, slots := ms, locals := 380 }
set_option maxRecDepth 100000 in
set_option maxHeartbeats 4000000 in
theorem ct_X9_add {l : Launch} {G : Gr} {a : Nat → Nat} (hst : l.stackTraces = false) (mc ms : Nat) (u0 : St) (p1 : Int) (post : Int → St → Prop) (px : St → Prop) (hw : w_X9_add post px mc ms G u0 p1) : CtX l G yX9_add (ws_ yX9_add cX9_add 2 (some .int)) (rm_X9_add mc ms) [.ref (a 0), zI p1] (WC G a u0) mc ms (Po (WC G a) post) "java/lang/IllegalArgumentException" (PoV (WC G a) px) := by
  refine CtX.of (by decide) (Nat.le_of_ble_eq_true rfl) ?_
  intro p e s m args below meth c ls hne X hr hlk K g h hl
  have hl : lv_has ls 2 [(0, .ref (a 0)), (1, zI p1)] := hl
  obtain ⟨H, hH⟩ : ∃ H, H = s.heap := ⟨_, rfl⟩
  obtain ⟨locs, hL⟩ : ∃ L : List Loc, L = [] := ⟨_, rfl⟩
  replace h : HW G (va_A (WC G a u0) s.heap.size) s.heap (WC G a u0) H locs := by rw [hH, hL]; exact h
  suffices hg : W p l e (rm_X9_add mc ms) s m args below meth c H locs 0 0 (EndX G (WC G a u0) (Po (WC G a) post) "java/lang/IllegalArgumentException" (PoV (WC G a) px) args s mc ms below) (F0 m 0 ls []) by rw [hH, hL] at hg; exact hg
  clear hH hL
  refine z_iload_n X hl 1 rfl rfl dX9_add_0 ?_
  obtain ⟨a1, b2, hk3, hs4, hw⟩ := hw
  refine r_callSXv (rest := []) X K g h (ct_X9_requireWord hst a1 b2 u0 p1 _ _ hw) lk_X9_45 ⟨rfl, rfl⟩ ⟨Nat.le_of_ble_eq_true rfl, Nat.le_of_ble_eq_true rfl⟩ rfl (lv_size hl) rfl (Nat.le_of_ble_eq_true rfl) dX9_add_1 ⟨hk3, hs4⟩ (fun w' H locs ce q9 hp h h1 h2 h3 => r_out hlk hne K h hk3 hs4 ⟨_, hp.1, hp.2⟩ h1 h2 h3) (fun w' H locs hp h => ?_)
  obtain ⟨rfl, hw⟩ := hp
  refine z_aload_n X hl 0 rfl rfl dX9_add_4 ?_
  refine gC_X9_editor X K h q_306 dX9_add_5 ?_
  refine z_iload_n X hl 1 rfl rfl dX9_add_8 ?_
  obtain ⟨a6, b7, hk8, hs9, hw⟩ := hw
  refine r_callVi (rest := []) X K g h (ct_X1_insert a6 b7 u0 p1 _ hw) lk_X9_49 1 rfl rfl ⟨rfl, rfl⟩ ⟨Nat.le_of_ble_eq_true rfl, Nat.le_of_ble_eq_true rfl⟩ rfl (lv_size hl) rfl (Nat.le_of_ble_eq_true rfl) dX9_add_9 ⟨hk8, hs9⟩ (fun z5 w' H locs hp h => ?_)
  obtain ⟨u10, rfl, hw⟩ := hp
  exact vx_ret (r_iret X hr hlk K h hk8 hs9 dX9_add_12 ⟨_, rfl, hw⟩)
def w_X9_set (post : Int → St → Prop) (px : St → Prop) (mc ms : Nat) (G : Gr) (u0 : St) (p1 : Int) : Prop :=
(∃ a1 b2 : Nat, (0 + a1 ≤ mc) ∧ (0 + b2 ≤ ms) ∧ w_X9_requireWord ((∃ a6 b7 : Nat, (0 + a1 + a6 ≤ mc) ∧ (0 + b2 + b7 ≤ ms) ∧ w_X1_exchange (fun (z5 : Int) (u10 : St) => post z5 u10) a6 b7 G u0 p1)) (px u0) a1 b2 u0 p1)
abbrev rm_X9_set (mc ms : Nat) : Room := { frames := 7, cells := mc, slots := ms, locals := 141 }
set_option maxRecDepth 100000 in
set_option maxHeartbeats 4000000 in
theorem ct_X9_set {l : Launch} {G : Gr} {a : Nat → Nat} (hst : l.stackTraces = false) (mc ms : Nat) (u0 : St) (p1 : Int) (post : Int → St → Prop) (px : St → Prop) (hw : w_X9_set post px mc ms G u0 p1) : CtX l G yX9_set (ws_ yX9_set cX9_set 2 (some .int)) (rm_X9_set mc ms) [.ref (a 0), zI p1] (WC G a u0) mc ms (Po (WC G a) post) "java/lang/IllegalArgumentException" (PoV (WC G a) px) := by
  refine CtX.of (by decide) (Nat.le_of_ble_eq_true rfl) ?_
  intro p e s m args below meth c ls hne X hr hlk K g h hl
  have hl : lv_has ls 2 [(0, .ref (a 0)), (1, zI p1)] := hl
  obtain ⟨H, hH⟩ : ∃ H, H = s.heap := ⟨_, rfl⟩
  obtain ⟨locs, hL⟩ : ∃ L : List Loc, L = [] := ⟨_, rfl⟩
  replace h : HW G (va_A (WC G a u0) s.heap.size) s.heap (WC G a u0) H locs := by rw [hH, hL]; exact h
  suffices hg : W p l e (rm_X9_set mc ms) s m args below meth c H locs 0 0 (EndX G (WC G a u0) (Po (WC G a) post) "java/lang/IllegalArgumentException" (PoV (WC G a) px) args s mc ms below) (F0 m 0 ls []) by rw [hH, hL] at hg; exact hg
  clear hH hL
  refine z_iload_n X hl 1 rfl rfl dX9_set_0 ?_
  obtain ⟨a1, b2, hk3, hs4, hw⟩ := hw
  refine r_callSXv (rest := []) X K g h (ct_X9_requireWord hst a1 b2 u0 p1 _ _ hw) lk_X9_45 ⟨rfl, rfl⟩ ⟨Nat.le_of_ble_eq_true rfl, Nat.le_of_ble_eq_true rfl⟩ rfl (lv_size hl) rfl (Nat.le_of_ble_eq_true rfl) dX9_set_1 ⟨hk3, hs4⟩ (fun w' H locs ce q9 hp h h1 h2 h3 => r_out hlk hne K h hk3 hs4 ⟨_, hp.1, hp.2⟩ h1 h2 h3) (fun w' H locs hp h => ?_)
  obtain ⟨rfl, hw⟩ := hp
  refine z_aload_n X hl 0 rfl rfl dX9_set_4 ?_
  refine gC_X9_editor X K h q_306 dX9_set_5 ?_
  refine z_iload_n X hl 1 rfl rfl dX9_set_8 ?_
  obtain ⟨a6, b7, hk8, hs9, hw⟩ := hw
  refine r_callVi (rest := []) X K g h (ct_X1_exchange a6 b7 u0 p1 _ hw) lk_X9_53 1 rfl rfl ⟨rfl, rfl⟩ ⟨Nat.le_of_ble_eq_true rfl, Nat.le_of_ble_eq_true rfl⟩ rfl (lv_size hl) rfl (Nat.le_of_ble_eq_true rfl) dX9_set_9 ⟨hk8, hs9⟩ (fun z5 w' H locs hp h => ?_)
  obtain ⟨u10, rfl, hw⟩ := hp
  exact vx_ret (r_iret X hr hlk K h hk8 hs9 dX9_set_12 ⟨_, rfl, hw⟩)
def w_X9_remove (post : Int → St → Prop) (G : Gr) (u0 : St) : Prop :=
(w_X1_drop (fun (z1 : Int) (u2 : St) => post z1 u2) G u0)
abbrev rm_X9_remove : Room := { frames := 6, cells := 0, slots := 0, locals := 231 }
set_option maxRecDepth 100000 in
set_option maxHeartbeats 4000000 in
theorem ct_X9_remove {l : Launch} {G : Gr} {a : Nat → Nat} (u0 : St) (post : Int → St → Prop) (hw : w_X9_remove post G u0) : Ct l G yX9_remove (ws_ yX9_remove cX9_remove 1 (some .int)) rm_X9_remove [.ref (a 0)] (WC G a u0) 0 0 (Po (WC G a) post) := by
  refine Ct.of (by decide) (Nat.le_of_ble_eq_true rfl) ?_
  intro p e s m args below meth c ls X hr hlk K g h hl
  have hl : lv_has ls 1 [(0, .ref (a 0))] := hl
  obtain ⟨H, hH⟩ : ∃ H, H = s.heap := ⟨_, rfl⟩
  obtain ⟨locs, hL⟩ : ∃ L : List Loc, L = [] := ⟨_, rfl⟩
  replace h : HW G (va_A (WC G a u0) s.heap.size) s.heap (WC G a u0) H locs := by rw [hH, hL]; exact h
  suffices hg : W p l e rm_X9_remove s m args below meth c H locs 0 0 (EndI G (WC G a u0) (Po (WC G a) post) args s 0 0 below) (F0 m 0 ls []) by rw [hH, hL] at hg; exact hg
  clear hH hL
  refine z_aload_n X hl 0 rfl rfl dX9_remove_0 ?_
  refine gC_X9_editor X K h q_306 dX9_remove_1 ?_
  refine r_callVi (rest := []) X K g h (ct_X1_drop u0 _ hw) lk_X9_56 1 rfl rfl ⟨rfl, rfl⟩ ⟨Nat.le_of_ble_eq_true rfl, Nat.le_of_ble_eq_true rfl⟩ rfl (lv_size hl) rfl (Nat.le_of_ble_eq_true rfl) dX9_remove_4 ⟨Nat.le_of_ble_eq_true rfl, Nat.le_of_ble_eq_true rfl⟩ (fun z1 w' H locs hp h => ?_)
  obtain ⟨u2, rfl, hw⟩ := hp
  exact r_iret X hr hlk K h (Nat.le_refl _) (Nat.le_refl _) dX9_remove_7 ⟨_, rfl, hw⟩
def w_X9_move (post : Int → St → Prop) (G : Gr) (u0 : St) (p1 : Int) : Prop :=
(w_X1_go (fun (z1 : Int) (u2 : St) => post z1 u2) G u0 p1)
abbrev rm_X9_move : Room := { frames := 6, cells := 0, slots := 0, locals := 131 }
set_option maxRecDepth 100000 in
set_option maxHeartbeats 4000000 in
theorem ct_X9_move {l : Launch} {G : Gr} {a : Nat → Nat} (u0 : St) (p1 : Int) (post : Int → St → Prop) (hw : w_X9_move post G u0 p1) : Ct l G yX9_move (ws_ yX9_move cX9_move 2 (some .int)) rm_X9_move [.ref (a 0), zI p1] (WC G a u0) 0 0 (Po (WC G a) post) := by
  refine Ct.of (by decide) (Nat.le_of_ble_eq_true rfl) ?_
  intro p e s m args below meth c ls X hr hlk K g h hl
  have hl : lv_has ls 2 [(0, .ref (a 0)), (1, zI p1)] := hl
  obtain ⟨H, hH⟩ : ∃ H, H = s.heap := ⟨_, rfl⟩
  obtain ⟨locs, hL⟩ : ∃ L : List Loc, L = [] := ⟨_, rfl⟩
  replace h : HW G (va_A (WC G a u0) s.heap.size) s.heap (WC G a u0) H locs := by rw [hH, hL]; exact h
  suffices hg : W p l e rm_X9_move s m args below meth c H locs 0 0 (EndI G (WC G a u0) (Po (WC G a) post) args s 0 0 below) (F0 m 0 ls []) by rw [hH, hL] at hg; exact hg
  clear hH hL
  refine z_aload_n X hl 0 rfl rfl dX9_move_0 ?_
  refine gC_X9_editor X K h q_306 dX9_move_1 ?_
  refine z_iload_n X hl 1 rfl rfl dX9_move_4 ?_
  refine r_callVi (rest := []) X K g h (ct_X1_go u0 p1 _ hw) lk_X9_60 1 rfl rfl ⟨rfl, rfl⟩ ⟨Nat.le_of_ble_eq_true rfl, Nat.le_of_ble_eq_true rfl⟩ rfl (lv_size hl) rfl (Nat.le_of_ble_eq_true rfl) dX9_move_5 ⟨Nat.le_of_ble_eq_true rfl, Nat.le_of_ble_eq_true rfl⟩ (fun z1 w' H locs hp h => ?_)
  obtain ⟨u2, rfl, hw⟩ := hp
  exact r_iret X hr hlk K h (Nat.le_refl _) (Nat.le_refl _) dX9_move_8 ⟨_, rfl, hw⟩
def w_X9_find (post : Int → St → Prop) (px : St → Prop) (mc ms : Nat) (G : Gr) (u0 : St) (p1 : Int) (p2 : Int) : Prop :=
(∃ a1 b2 : Nat, (0 + a1 ≤ mc) ∧ (0 + b2 ≤ ms) ∧ w_X9_requireWord ((w_X1_seek (fun (z5 : Int) (u6 : St) => post z5 u6) G u0 p1 p2)) (px u0) a1 b2 u0 p1)
abbrev rm_X9_find (mc ms : Nat) : Room := { frames := 7, cells := mc, slots := ms, locals := 132 }
set_option maxRecDepth 100000 in
set_option maxHeartbeats 4000000 in
theorem ct_X9_find {l : Launch} {G : Gr} {a : Nat → Nat} (hst : l.stackTraces = false) (mc ms : Nat) (u0 : St) (p1 : Int) (p2 : Int) (post : Int → St → Prop) (px : St → Prop) (hw : w_X9_find post px mc ms G u0 p1 p2) : CtX l G yX9_find (ws_ yX9_find cX9_find 3 (some .int)) (rm_X9_find mc ms) [.ref (a 0), zI p1, zI p2] (WC G a u0) mc ms (Po (WC G a) post) "java/lang/IllegalArgumentException" (PoV (WC G a) px) := by
  refine CtX.of (by decide) (Nat.le_of_ble_eq_true rfl) ?_
  intro p e s m args below meth c ls hne X hr hlk K g h hl
  have hl : lv_has ls 3 [(0, .ref (a 0)), (1, zI p1), (2, zI p2)] := hl
  obtain ⟨H, hH⟩ : ∃ H, H = s.heap := ⟨_, rfl⟩
  obtain ⟨locs, hL⟩ : ∃ L : List Loc, L = [] := ⟨_, rfl⟩
  replace h : HW G (va_A (WC G a u0) s.heap.size) s.heap (WC G a u0) H locs := by rw [hH, hL]; exact h
  suffices hg : W p l e (rm_X9_find mc ms) s m args below meth c H locs 0 0 (EndX G (WC G a u0) (Po (WC G a) post) "java/lang/IllegalArgumentException" (PoV (WC G a) px) args s mc ms below) (F0 m 0 ls []) by rw [hH, hL] at hg; exact hg
  clear hH hL
  refine z_iload_n X hl 1 rfl rfl dX9_find_0 ?_
  obtain ⟨a1, b2, hk3, hs4, hw⟩ := hw
  refine r_callSXv (rest := []) X K g h (ct_X9_requireWord hst a1 b2 u0 p1 _ _ hw) lk_X9_45 ⟨rfl, rfl⟩ ⟨Nat.le_of_ble_eq_true rfl, Nat.le_of_ble_eq_true rfl⟩ rfl (lv_size hl) rfl (Nat.le_of_ble_eq_true rfl) dX9_find_1 ⟨hk3, hs4⟩ (fun w' H locs ce q9 hp h h1 h2 h3 => r_out hlk hne K h hk3 hs4 ⟨_, hp.1, hp.2⟩ h1 h2 h3) (fun w' H locs hp h => ?_)
  obtain ⟨rfl, hw⟩ := hp
  refine z_aload_n X hl 0 rfl rfl dX9_find_4 ?_
  refine gC_X9_editor X K h q_306 dX9_find_5 ?_
  refine z_iload_n X hl 1 rfl rfl dX9_find_8 ?_
  refine z_iload_n X hl 2 rfl rfl dX9_find_9 ?_
  refine r_callVi (rest := []) X K g h (ct_X1_seek u0 p1 p2 _ hw) lk_X9_63 1 rfl rfl ⟨rfl, rfl⟩ ⟨Nat.le_of_ble_eq_true rfl, Nat.le_of_ble_eq_true rfl⟩ rfl (lv_size hl) rfl (Nat.le_of_ble_eq_true rfl) dX9_find_10 ⟨hk3, hs4⟩ (fun z5 w' H locs hp h => ?_)
  obtain ⟨u6, rfl, hw⟩ := hp
  exact vx_ret (r_iret X hr hlk K h hk3 hs4 dX9_find_13 ⟨_, rfl, hw⟩)
def w_X9_swap (post : Int → St → Prop) (mc ms : Nat) (G : Gr) (u0 : St) : Prop :=
(∃ a2 b3 : Nat, (0 + a2 ≤ mc) ∧ (0 + b3 ≤ ms) ∧ w_X1_cross (fun (z1 : Int) (u6 : St) => post z1 u6) a2 b3 G u0)
abbrev rm_X9_swap (mc ms : Nat) : Room := { frames := 14, cells := mc, slots := ms, locals := 378 }
set_option maxRecDepth 100000 in
set_option maxHeartbeats 4000000 in
theorem ct_X9_swap {l : Launch} {G : Gr} {a : Nat → Nat} (mc ms : Nat) (u0 : St) (post : Int → St → Prop) (hw : w_X9_swap post mc ms G u0) : Ct l G yX9_swap (ws_ yX9_swap cX9_swap 1 (some .int)) (rm_X9_swap mc ms) [.ref (a 0)] (WC G a u0) mc ms (Po (WC G a) post) := by
  refine Ct.of (by decide) (Nat.le_of_ble_eq_true rfl) ?_
  intro p e s m args below meth c ls X hr hlk K g h hl
  have hl : lv_has ls 1 [(0, .ref (a 0))] := hl
  obtain ⟨H, hH⟩ : ∃ H, H = s.heap := ⟨_, rfl⟩
  obtain ⟨locs, hL⟩ : ∃ L : List Loc, L = [] := ⟨_, rfl⟩
  replace h : HW G (va_A (WC G a u0) s.heap.size) s.heap (WC G a u0) H locs := by rw [hH, hL]; exact h
  suffices hg : W p l e (rm_X9_swap mc ms) s m args below meth c H locs 0 0 (EndI G (WC G a u0) (Po (WC G a) post) args s mc ms below) (F0 m 0 ls []) by rw [hH, hL] at hg; exact hg
  clear hH hL
  refine z_aload_n X hl 0 rfl rfl dX9_swap_0 ?_
  refine gC_X9_editor X K h q_306 dX9_swap_1 ?_
  obtain ⟨a2, b3, hk4, hs5, hw⟩ := hw
  refine r_callVi (rest := []) X K g h (ct_X1_cross a2 b3 u0 _ hw) lk_X9_67 1 rfl rfl ⟨rfl, rfl⟩ ⟨Nat.le_of_ble_eq_true rfl, Nat.le_of_ble_eq_true rfl⟩ rfl (lv_size hl) rfl (Nat.le_of_ble_eq_true rfl) dX9_swap_4 ⟨hk4, hs5⟩ (fun z1 w' H locs hp h => ?_)
  obtain ⟨u6, rfl, hw⟩ := hp
  exact r_iret X hr hlk K h hk4 hs5 dX9_swap_7 ⟨_, rfl, hw⟩
def w_X9_undo (post : Int → St → Prop) (mc ms : Nat) (G : Gr) (u0 : St) : Prop :=
(∃ a2 b3 : Nat, (0 + a2 ≤ mc) ∧ (0 + b3 ≤ ms) ∧ w_X1_takeBack (fun (z1 : Int) (u6 : St) => post z1 u6) a2 b3 G u0)
abbrev rm_X9_undo (mc ms : Nat) : Room := { frames := 14, cells := mc, slots := ms, locals := 380 }
set_option maxRecDepth 100000 in
set_option maxHeartbeats 4000000 in
theorem ct_X9_undo {l : Launch} {G : Gr} {a : Nat → Nat} (mc ms : Nat) (u0 : St) (post : Int → St → Prop) (hw : w_X9_undo post mc ms G u0) : Ct l G yX9_undo (ws_ yX9_undo cX9_undo 1 (some .int)) (rm_X9_undo mc ms) [.ref (a 0)] (WC G a u0) mc ms (Po (WC G a) post) := by
  refine Ct.of (by decide) (Nat.le_of_ble_eq_true rfl) ?_
  intro p e s m args below meth c ls X hr hlk K g h hl
  have hl : lv_has ls 1 [(0, .ref (a 0))] := hl
  obtain ⟨H, hH⟩ : ∃ H, H = s.heap := ⟨_, rfl⟩
  obtain ⟨locs, hL⟩ : ∃ L : List Loc, L = [] := ⟨_, rfl⟩
  replace h : HW G (va_A (WC G a u0) s.heap.size) s.heap (WC G a u0) H locs := by rw [hH, hL]; exact h
  suffices hg : W p l e (rm_X9_undo mc ms) s m args below meth c H locs 0 0 (EndI G (WC G a u0) (Po (WC G a) post) args s mc ms below) (F0 m 0 ls []) by rw [hH, hL] at hg; exact hg
  clear hH hL
  refine z_aload_n X hl 0 rfl rfl dX9_undo_0 ?_
  refine gC_X9_editor X K h q_306 dX9_undo_1 ?_
  obtain ⟨a2, b3, hk4, hs5, hw⟩ := hw
  refine r_callVi (rest := []) X K g h (ct_X1_takeBack a2 b3 u0 _ hw) lk_X9_70 1 rfl rfl ⟨rfl, rfl⟩ ⟨Nat.le_of_ble_eq_true rfl, Nat.le_of_ble_eq_true rfl⟩ rfl (lv_size hl) rfl (Nat.le_of_ble_eq_true rfl) dX9_undo_4 ⟨hk4, hs5⟩ (fun z1 w' H locs hp h => ?_)
  obtain ⟨u6, rfl, hw⟩ := hp
  exact r_iret X hr hlk K h hk4 hs5 dX9_undo_7 ⟨_, rfl, hw⟩
def w_X9_undoable (post : Int → Prop) (u0 : St) : Prop :=
post (sI u0 7)
abbrev rm_X9_undoable : Room := { frames := 0, cells := 0, slots := 0, locals := 0 }
set_option maxRecDepth 100000 in
set_option maxHeartbeats 4000000 in
theorem ct_X9_undoable {l : Launch} {G : Gr} {a : Nat → Nat} (u0 : St) (post : Int → Prop) (hw : w_X9_undoable post u0) : Ct l G yX9_undoable (ws_ yX9_undoable cX9_undoable 1 (some .int)) rm_X9_undoable [.ref (a 0)] (WC G a u0) 0 0 (PoP (WC G a u0) post) := by
  refine Ct.of (by decide) (Nat.le_of_ble_eq_true rfl) ?_
  intro p e s m args below meth c ls X hr hlk K g h hl
  have hl : lv_has ls 1 [(0, .ref (a 0))] := hl
  obtain ⟨H, hH⟩ : ∃ H, H = s.heap := ⟨_, rfl⟩
  obtain ⟨locs, hL⟩ : ∃ L : List Loc, L = [] := ⟨_, rfl⟩
  replace h : HW G (va_A (WC G a u0) s.heap.size) s.heap (WC G a u0) H locs := by rw [hH, hL]; exact h
  suffices hg : W p l e rm_X9_undoable s m args below meth c H locs 0 0 (EndI G (WC G a u0) (PoP (WC G a u0) post) args s 0 0 below) (F0 m 0 ls []) by rw [hH, hL] at hg; exact hg
  clear hH hL
  refine z_aload_n X hl 0 rfl rfl dX9_undoable_0 ?_
  refine gC_X9_editor X K h q_306 dX9_undoable_1 ?_
  refine gC_X1_history X K h q_243 dX9_undoable_4 ?_
  refine gC_X2_kept (x := sI u0 7) X K h rfl q_230 dX9_undoable_7 ?_
  exact r_iret X hr hlk K h (Nat.le_refl _) (Nat.le_refl _) dX9_undoable_10 ⟨rfl, hw⟩
def w_X9_append (post : Int → St → Prop) (px : St → Prop) (mc ms : Nat) (u0 : St) (p1 : Int) (p2 : Int) (p3 : Int) (p4 : Int) (p5 : Int) : Prop :=
(w_X8_bytesIn (fun (z1 : Int) => (w_X8_bytesIn (fun (z2 : Int) => (w_X8_bytesIn (fun (z3 : Int) => (w_X8_bytesIn (fun (z4 : Int) => (w_X8_bytesIn (fun (z5 : Int) => (InR ((sI u0 14) + ((((z1 + z2) + z3) + z4) + z5))) ∧ (((sI u0 14) + ((((z1 + z2) + z3) + z4) + z5) ≤ 300 → (w_X8_take (fun  (u8 : St) => (w_X8_take (fun  (u9 : St) => (w_X8_take (fun  (u10 : St) => (w_X8_take (fun  (u11 : St) => (w_X8_take (fun  (u12 : St) => post (sI u12 14) u12) u11 p5)) u10 p4)) u9 p3)) u8 p2)) u0 p1)) ∧
 (¬ (sI u0 14) + ((((z1 + z2) + z3) + z4) + z5) ≤ 300 → (0 + 1 ≤ mc) ∧ (0 + 6 ≤ ms) ∧ px u0))) p5)) p4)) p3)) p2)) p1)
abbrev rm_X9_append (mc ms : Nat) : Room := { frames := 6, cells := mc, slots := ms, locals := 90 }
set_option maxRecDepth 100000 in
set_option maxHeartbeats 4000000 in
theorem ct_X9_append {l : Launch} {G : Gr} {a : Nat → Nat} (hst : l.stackTraces = false) (mc ms : Nat) (u0 : St) (p1 : Int) (p2 : Int) (p3 : Int) (p4 : Int) (p5 : Int) (post : Int → St → Prop) (px : St → Prop) (hw : w_X9_append post px mc ms u0 p1 p2 p3 p4 p5) : CtX l G yX9_append (ws_ yX9_append cX9_append 7 (some .int)) (rm_X9_append mc ms) [.ref (a 0), zI p1, zI p2, zI p3, zI p4, zI p5] (WC G a u0) mc ms (Po (WC G a) post) "java/lang/IllegalStateException" (PoV (WC G a) px) := by
  refine CtX.of (by decide) (Nat.le_of_ble_eq_true rfl) ?_
  intro p e s m args below meth c ls hne X hr hlk K g h hl
  have hl : lv_has ls 7 [(0, .ref (a 0)), (1, zI p1), (2, zI p2), (3, zI p3), (4, zI p4), (5, zI p5)] := hl
  obtain ⟨H, hH⟩ : ∃ H, H = s.heap := ⟨_, rfl⟩
  obtain ⟨locs, hL⟩ : ∃ L : List Loc, L = [] := ⟨_, rfl⟩
  replace h : HW G (va_A (WC G a u0) s.heap.size) s.heap (WC G a u0) H locs := by rw [hH, hL]; exact h
  suffices hg : W p l e (rm_X9_append mc ms) s m args below meth c H locs 0 0 (EndX G (WC G a u0) (Po (WC G a) post) "java/lang/IllegalStateException" (PoV (WC G a) px) args s mc ms below) (F0 m 0 ls []) by rw [hH, hL] at hg; exact hg
  clear hH hL
  refine z_iload_n X hl 1 rfl rfl dX9_append_0 ?_
  refine r_callSi (rest := []) X K g h (ct_X8_bytesIn (w := WC G a u0) p1 _ hw) lk_X9_82 ⟨rfl, rfl⟩ ⟨Nat.le_of_ble_eq_true rfl, Nat.le_of_ble_eq_true rfl⟩ rfl (lv_size hl) rfl (Nat.le_of_ble_eq_true rfl) dX9_append_1 ⟨(Nat.zero_le _), (Nat.zero_le _)⟩ (fun z1 w' H locs hp h => ?_)
  obtain ⟨rfl, hw⟩ := hp
  refine z_iload_n X hl 2 rfl rfl dX9_append_4 ?_
  refine r_callSi (rest := [zI z1]) X K g h (ct_X8_bytesIn (w := WC G a u0) p2 _ hw) lk_X9_82 ⟨rfl, rfl⟩ ⟨Nat.le_of_ble_eq_true rfl, Nat.le_of_ble_eq_true rfl⟩ rfl (lv_size hl) rfl (Nat.le_of_ble_eq_true rfl) dX9_append_5 ⟨(Nat.zero_le _), (Nat.zero_le _)⟩ (fun z2 w' H locs hp h => ?_)
  obtain ⟨rfl, hw⟩ := hp
  refine z_iadd X dX9_append_8 ?_
  refine z_iload_n X hl 3 rfl rfl dX9_append_9 ?_
  refine r_callSi (rest := [zI (z1 + z2)]) X K g h (ct_X8_bytesIn (w := WC G a u0) p3 _ hw) lk_X9_82 ⟨rfl, rfl⟩ ⟨Nat.le_of_ble_eq_true rfl, Nat.le_of_ble_eq_true rfl⟩ rfl (lv_size hl) rfl (Nat.le_of_ble_eq_true rfl) dX9_append_10 ⟨(Nat.zero_le _), (Nat.zero_le _)⟩ (fun z3 w' H locs hp h => ?_)
  obtain ⟨rfl, hw⟩ := hp
  refine z_iadd X dX9_append_13 ?_
  refine z_iload X hl 4 rfl dX9_append_14 ?_
  refine r_callSi (rest := [zI ((z1 + z2) + z3)]) X K g h (ct_X8_bytesIn (w := WC G a u0) p4 _ hw) lk_X9_82 ⟨rfl, rfl⟩ ⟨Nat.le_of_ble_eq_true rfl, Nat.le_of_ble_eq_true rfl⟩ rfl (lv_size hl) rfl (Nat.le_of_ble_eq_true rfl) dX9_append_16 ⟨(Nat.zero_le _), (Nat.zero_le _)⟩ (fun z4 w' H locs hp h => ?_)
  obtain ⟨rfl, hw⟩ := hp
  refine z_iadd X dX9_append_19 ?_
  refine z_iload X hl 5 rfl dX9_append_20 ?_
  refine r_callSi (rest := [zI (((z1 + z2) + z3) + z4)]) X K g h (ct_X8_bytesIn (w := WC G a u0) p5 _ hw) lk_X9_82 ⟨rfl, rfl⟩ ⟨Nat.le_of_ble_eq_true rfl, Nat.le_of_ble_eq_true rfl⟩ rfl (lv_size hl) rfl (Nat.le_of_ble_eq_true rfl) dX9_append_22 ⟨(Nat.zero_le _), (Nat.zero_le _)⟩ (fun z5 w' H locs hp h => ?_)
  obtain ⟨rfl, hw⟩ := hp
  refine z_iadd X dX9_append_25 ?_
  refine z_istore (i := 6) (lv' := [(6, zI ((((z1 + z2) + z3) + z4) + z5)), (0, .ref (a 0)), (1, zI p1), (2, zI p2), (3, zI p3), (4, zI p4), (5, zI p5)]) X hl (by decide) dX9_append_26 rfl (fun ls hl => ?_)
  refine z_aload_n X hl 1 rfl rfl dX9_append_28 ?_
  refine gC_X9_tape X K h q_307 dX9_append_29 ?_
  refine gC_X8_length (x := sI u0 14) X K h rfl q_271 dX9_append_32 ?_
  refine z_iload X hl 0 rfl dX9_append_35 ?_
  refine z_iadd X dX9_append_37 ?_
  refine z_sipush (v := 300) X dX9_append_38 (by decide) ?_
  obtain ⟨h6, hw⟩ := hw
  refine z_icmp_le (tgt := 52) X h6 (by decide) dX9_append_41 (by decide) (fun c7 => ?_) (fun c7 => ?_)
  · replace hw := hw.1 c7
    refine z_aload_n X hl 1 rfl rfl dX9_append_52 ?_
    refine gC_X9_tape X K h q_307 dX9_append_53 ?_
    refine z_iload_n X hl 2 rfl rfl dX9_append_56 ?_
    refine r_callVv (rest := []) X K g h (ct_X8_take u0 p1 _ hw) lk_X9_91 8 rfl rfl ⟨rfl, rfl⟩ ⟨Nat.le_of_ble_eq_true rfl, Nat.le_of_ble_eq_true rfl⟩ rfl (lv_size hl) rfl (Nat.le_of_ble_eq_true rfl) dX9_append_57 ⟨(Nat.zero_le _), (Nat.zero_le _)⟩ (fun w' H locs hp h => ?_)
    obtain ⟨u8, rfl, hw⟩ := hp
    refine z_aload_n X hl 1 rfl rfl dX9_append_60 ?_
    refine gC_X9_tape X K h q_307 dX9_append_61 ?_
    refine z_iload_n X hl 3 rfl rfl dX9_append_64 ?_
    refine r_callVv (rest := []) X K g h (ct_X8_take u8 p2 _ hw) lk_X9_91 8 rfl rfl ⟨rfl, rfl⟩ ⟨Nat.le_of_ble_eq_true rfl, Nat.le_of_ble_eq_true rfl⟩ rfl (lv_size hl) rfl (Nat.le_of_ble_eq_true rfl) dX9_append_65 ⟨(Nat.zero_le _), (Nat.zero_le _)⟩ (fun w' H locs hp h => ?_)
    obtain ⟨u9, rfl, hw⟩ := hp
    refine z_aload_n X hl 1 rfl rfl dX9_append_68 ?_
    refine gC_X9_tape X K h q_307 dX9_append_69 ?_
    refine z_iload_n X hl 4 rfl rfl dX9_append_72 ?_
    refine r_callVv (rest := []) X K g h (ct_X8_take u9 p3 _ hw) lk_X9_91 8 rfl rfl ⟨rfl, rfl⟩ ⟨Nat.le_of_ble_eq_true rfl, Nat.le_of_ble_eq_true rfl⟩ rfl (lv_size hl) rfl (Nat.le_of_ble_eq_true rfl) dX9_append_73 ⟨(Nat.zero_le _), (Nat.zero_le _)⟩ (fun w' H locs hp h => ?_)
    obtain ⟨u10, rfl, hw⟩ := hp
    refine z_aload_n X hl 1 rfl rfl dX9_append_76 ?_
    refine gC_X9_tape X K h q_307 dX9_append_77 ?_
    refine z_iload X hl 5 rfl dX9_append_80 ?_
    refine r_callVv (rest := []) X K g h (ct_X8_take u10 p4 _ hw) lk_X9_91 8 rfl rfl ⟨rfl, rfl⟩ ⟨Nat.le_of_ble_eq_true rfl, Nat.le_of_ble_eq_true rfl⟩ rfl (lv_size hl) rfl (Nat.le_of_ble_eq_true rfl) dX9_append_82 ⟨(Nat.zero_le _), (Nat.zero_le _)⟩ (fun w' H locs hp h => ?_)
    obtain ⟨u11, rfl, hw⟩ := hp
    refine z_aload_n X hl 1 rfl rfl dX9_append_85 ?_
    refine gC_X9_tape X K h q_307 dX9_append_86 ?_
    refine z_iload X hl 6 rfl dX9_append_89 ?_
    refine r_callVv (rest := []) X K g h (ct_X8_take u11 p5 _ hw) lk_X9_91 8 rfl rfl ⟨rfl, rfl⟩ ⟨Nat.le_of_ble_eq_true rfl, Nat.le_of_ble_eq_true rfl⟩ rfl (lv_size hl) rfl (Nat.le_of_ble_eq_true rfl) dX9_append_91 ⟨(Nat.zero_le _), (Nat.zero_le _)⟩ (fun w' H locs hp h => ?_)
    obtain ⟨u12, rfl, hw⟩ := hp
    refine z_aload_n X hl 1 rfl rfl dX9_append_94 ?_
    refine gC_X9_tape X K h q_307 dX9_append_95 ?_
    refine gC_X8_length (x := sI u12 14) X K h rfl q_271 dX9_append_98 ?_
    exact vx_ret (r_iret X hr hlk K h (Nat.zero_le _) (Nat.zero_le _) dX9_append_101 ⟨_, rfl, hw⟩)
  · replace hw := hw.2 c7
    obtain ⟨h13, h14, hw⟩ := hw
    exact r_throw X hst hlk hne K g h tw_ISE (lv_size hl) dX9_append_44 dX9_append_47 dX9_append_48 dX9_append_51 ⟨Nat.le_of_ble_eq_true rfl, Nat.le_of_ble_eq_true rfl⟩ ⟨h13, h14⟩ h13 h14 ⟨_, rfl, hw⟩
def w_X9_clearTape (post : Int → St → Prop) (u0 : St) : Prop :=
post (sI u0 14) (pI u0 14 0)
abbrev rm_X9_clearTape : Room := { frames := 0, cells := 0, slots := 0, locals := 0 }
set_option maxRecDepth 100000 in
set_option maxHeartbeats 4000000 in
theorem ct_X9_clearTape {l : Launch} {G : Gr} {a : Nat → Nat} (u0 : St) (post : Int → St → Prop) (hw : w_X9_clearTape post u0) : Ct l G yX9_clearTape (ws_ yX9_clearTape cX9_clearTape 2 (some .int)) rm_X9_clearTape [.ref (a 0)] (WC G a u0) 0 0 (Po (WC G a) post) := by
  refine Ct.of (by decide) (Nat.le_of_ble_eq_true rfl) ?_
  intro p e s m args below meth c ls X hr hlk K g h hl
  have hl : lv_has ls 2 [(0, .ref (a 0))] := hl
  obtain ⟨H, hH⟩ : ∃ H, H = s.heap := ⟨_, rfl⟩
  obtain ⟨locs, hL⟩ : ∃ L : List Loc, L = [] := ⟨_, rfl⟩
  replace h : HW G (va_A (WC G a u0) s.heap.size) s.heap (WC G a u0) H locs := by rw [hH, hL]; exact h
  suffices hg : W p l e rm_X9_clearTape s m args below meth c H locs 0 0 (EndI G (WC G a u0) (Po (WC G a) post) args s 0 0 below) (F0 m 0 ls []) by rw [hH, hL] at hg; exact hg
  clear hH hL
  refine z_aload_n X hl 0 rfl rfl dX9_clearTape_0 ?_
  refine gC_X9_tape X K h q_307 dX9_clearTape_1 ?_
  refine gC_X8_length (x := sI u0 14) X K h rfl q_271 dX9_clearTape_4 ?_
  refine z_istore_n (i := 1) (lv' := [(1, zI (sI u0 14)), (0, .ref (a 0))]) X hl rfl (by decide) dX9_clearTape_7 rfl (fun ls hl => ?_)
  refine z_aload_n X hl 1 rfl rfl dX9_clearTape_8 ?_
  refine gC_X9_tape X K h q_307 dX9_clearTape_9 ?_
  refine z_iconst X dX9_clearTape_12 ?_
  refine pC_X8_length X K h q_271 dX9_clearTape_13 (fun H locs h => ?_)
  refine z_iload_n X hl 0 rfl rfl dX9_clearTape_16 ?_
  exact r_iret X hr hlk K h (Nat.le_refl _) (Nat.le_refl _) dX9_clearTape_17 ⟨_, rfl, hw⟩
def b_X9_fill_55 (post : Int → St → Prop) (px : St → Prop) (mc ms : Nat) (G : Gr) (K55 : St × Int × Nat × Nat → Prop) (u6 : St) (x1_7 : Int) (kc8 : Nat) (ks9 : Nat) : Prop :=
(InR x1_7) ∧ (InR (sI u6 16)) ∧ ((sI u6 16 ≤ x1_7 → (kc8 ≤ mc) ∧ (ks9 ≤ ms) ∧ (w_X3_go (fun  (u15 : St) => (w_X3_length (fun (z16 : Int) => post z16 u15) u15)) G u6 0)) ∧
 (¬ sI u6 16 ≤ x1_7 → (kc8 ≤ mc) ∧ (ks9 ≤ ms) ∧ (w_X7_numberOf (fun (z17 : Int) => (∃ a21 b22 : Nat, (kc8 + a21 ≤ mc) ∧ (ks9 + b22 ≤ ms) ∧ w_X3_insert (fun (z20 : Int) (u25 : St) => K55 (u25, x1_7 + 1, kc8 + a21, ks9 + b22)) a21 b22 G u6 z17)) u6 x1_7)))
def B_X9_fill_55 (post : Int → St → Prop) (px : St → Prop) (mc ms : Nat) (G : Gr) : (St × Int × Nat × Nat → Prop) → St × Int × Nat × Nat → Prop := fun K t => b_X9_fill_55 post px mc ms G K t.1 t.2.1 t.2.2.1 t.2.2.2
def w_X9_fill (post : Int → St → Prop) (px : St → Prop) (mc ms : Nat) (G : Gr) (u0 : St) : Prop :=
(w_X7_split (fun  (u1 : St) => (w_X7_misfitOfWords (fun (z2 : Int) => (InR z2) ∧ ((z2 = (-1) → (w_X1_startAnew (fun  (u5 : St) => (∃ n : Nat, Lp (B_X9_fill_55 post px mc ms G) n (u5, 0, 0, 0))) G (pI (pI u1 1 z2) 14 0))) ∧
 (¬ z2 = (-1) → (0 + 1 ≤ mc) ∧ (0 + 6 ≤ ms) ∧ px (pI (pI u1 1 z2) 14 0)))) u1)) u0)
abbrev rm_X9_fill (mc ms : Nat) : Room := { frames := 13, cells := mc, slots := ms, locals := 359 }
set_option maxRecDepth 100000 in
set_option maxHeartbeats 4000000 in
theorem ct_X9_fill {l : Launch} {G : Gr} {a : Nat → Nat} (hst : l.stackTraces = false) (mc ms : Nat) (u0 : St) (post : Int → St → Prop) (px : St → Prop) (hw : w_X9_fill post px mc ms G u0) : CtX l G yX9_fill (ws_ yX9_fill cX9_fill 2 (some .int)) (rm_X9_fill mc ms) [.ref (a 0)] (WC G a u0) mc ms (Po (WC G a) post) "java/lang/IllegalArgumentException" (PoV (WC G a) px) := by
  refine CtX.of (by decide) (Nat.le_of_ble_eq_true rfl) ?_
  intro p e s m args below meth c ls hne X hr hlk K g h hl
  have hl : lv_has ls 2 [(0, .ref (a 0))] := hl
  obtain ⟨H, hH⟩ : ∃ H, H = s.heap := ⟨_, rfl⟩
  obtain ⟨locs, hL⟩ : ∃ L : List Loc, L = [] := ⟨_, rfl⟩
  replace h : HW G (va_A (WC G a u0) s.heap.size) s.heap (WC G a u0) H locs := by rw [hH, hL]; exact h
  suffices hg : W p l e (rm_X9_fill mc ms) s m args below meth c H locs 0 0 (EndX G (WC G a u0) (Po (WC G a) post) "java/lang/IllegalArgumentException" (PoV (WC G a) px) args s mc ms below) (F0 m 0 ls []) by rw [hH, hL] at hg; exact hg
  clear hH hL
  refine z_aload_n X hl 0 rfl rfl dX9_fill_0 ?_
  refine gC_X9_script X K h q_308 dX9_fill_1 ?_
  refine z_aload_n X hl 0 rfl rfl dX9_fill_4 ?_
  refine gC_X9_tape X K h q_307 dX9_fill_5 ?_
  refine r_callVv (rest := []) X K g h (ct_X7_split u0 _ hw) lk_X9_94 9 rfl rfl ⟨rfl, rfl⟩ ⟨Nat.le_of_ble_eq_true rfl, Nat.le_of_ble_eq_true rfl⟩ rfl (lv_size hl) rfl (Nat.le_of_ble_eq_true rfl) dX9_fill_8 ⟨(Nat.zero_le _), (Nat.zero_le _)⟩ (fun w' H locs hp h => ?_)
  obtain ⟨u1, rfl, hw⟩ := hp
  refine z_aload_n X hl 0 rfl rfl dX9_fill_11 ?_
  refine z_aload_n X hl 0 rfl rfl dX9_fill_12 ?_
  refine gC_X9_script X K h q_308 dX9_fill_13 ?_
  refine r_callVi (rest := [.ref (a 0)]) X K g h (ct_X7_misfitOfWords u1 _ hw) lk_X9_98 9 rfl rfl ⟨rfl, rfl⟩ ⟨Nat.le_of_ble_eq_true rfl, Nat.le_of_ble_eq_true rfl⟩ rfl (lv_size hl) rfl (Nat.le_of_ble_eq_true rfl) dX9_fill_16 ⟨(Nat.zero_le _), (Nat.zero_le _)⟩ (fun z2 w' H locs hp h => ?_)
  obtain ⟨rfl, hw⟩ := hp
  refine pC_X9_errorAt X K h q_310 dX9_fill_19 (fun H locs h => ?_)
  refine z_aload_n X hl 0 rfl rfl dX9_fill_22 ?_
  refine gC_X9_tape X K h q_307 dX9_fill_23 ?_
  refine z_iconst X dX9_fill_26 ?_
  refine pC_X8_length X K h q_271 dX9_fill_27 (fun H locs h => ?_)
  refine z_aload_n X hl 0 rfl rfl dX9_fill_30 ?_
  refine gC_X9_errorAt (x := z2) X K h rfl q_310 dX9_fill_31 ?_
  refine z_iconst X dX9_fill_34 ?_
  obtain ⟨h3, hw⟩ := hw
  refine z_icmp_eq (tgt := 46) X h3 (by decide) dX9_fill_35 (by decide) (fun c4 => ?_) (fun c4 => ?_)
  · replace hw := hw.1 c4
    refine z_aload_n X hl 0 rfl rfl dX9_fill_46 ?_
    refine gC_X9_editor X K h q_306 dX9_fill_47 ?_
    refine r_callVv (rest := []) X K g h (ct_X1_startAnew (pI (pI u1 1 z2) 14 0) _ hw) lk_X9_104 1 rfl rfl ⟨rfl, rfl⟩ ⟨Nat.le_of_ble_eq_true rfl, Nat.le_of_ble_eq_true rfl⟩ rfl (lv_size hl) rfl (Nat.le_of_ble_eq_true rfl) dX9_fill_50 ⟨(Nat.zero_le _), (Nat.zero_le _)⟩ (fun w' H locs hp h => ?_)
    obtain ⟨u5, rfl, hw⟩ := hp
    refine z_iconst X dX9_fill_53 ?_
    refine z_istore_n (i := 1) (lv' := [(1, zI 0), (0, .ref (a 0))]) X hl rfl (by decide) dX9_fill_54 rfl (fun ls hl => ?_)
    obtain ⟨n55, hw⟩ := hw
    have key55 : ∀ (n : Nat) (t : St × Int × Nat × Nat) (H : Heap) (locs : List Loc) (ls : Array Slot), Lp (B_X9_fill_55 post px mc ms G) n t → HW G (va_A (WC G a u0) s.heap.size) s.heap (WC G a t.1) H locs → lv_has ls 2 [(0, .ref (a 0)), (1, zI t.2.1)] → W p l e (rm_X9_fill mc ms) s m args below meth c H locs t.2.2.1 t.2.2.2 (EndX G (WC G a u0) (Po (WC G a) post) "java/lang/IllegalArgumentException" (PoV (WC G a) px) args s mc ms below) (F0 m 55 ls []) := by
      intro n
      induction n with
      | zero =>
        intro t H locs ls hw
        exact hw.elim
      | succ n55 ih55 =>
        rintro ⟨u6, x1_7, kc8, ks9⟩ H locs ls hw h hl
        replace hw : b_X9_fill_55 post px mc ms G (Lp (B_X9_fill_55 post px mc ms G) n55) u6 x1_7 kc8 ks9 := hw
        refine z_iload_n X hl 1 rfl rfl dX9_fill_55 ?_
        refine z_aload_n X hl 0 rfl rfl dX9_fill_56 ?_
        refine gC_X9_script X K h q_308 dX9_fill_57 ?_
        refine gC_X7_count (x := sI u6 16) X K h rfl q_290 dX9_fill_60 ?_
        obtain ⟨h10, h11, hw⟩ := hw
        refine z_icmp_ge (tgt := 91) X h10 h11 dX9_fill_63 (by decide) (fun c12 => ?_) (fun c12 => ?_)
        · replace hw := hw.1 c12
          refine z_aload_n X hl 0 rfl rfl dX9_fill_91 ?_
          refine gC_X9_editor X K h q_306 dX9_fill_92 ?_
          refine gC_X1_lines X K h q_241 dX9_fill_95 ?_
          refine z_iconst X dX9_fill_98 ?_
          obtain ⟨h13, h14, hw⟩ := hw
          refine r_callVv (rest := []) X K g h (ct_X3_go u6 0 _ hw) lk_X9_120 3 rfl rfl ⟨rfl, rfl⟩ ⟨Nat.le_of_ble_eq_true rfl, Nat.le_of_ble_eq_true rfl⟩ rfl (lv_size hl) rfl (Nat.le_of_ble_eq_true rfl) dX9_fill_99 ⟨h13, h14⟩ (fun w' H locs hp h => ?_)
          obtain ⟨u15, rfl, hw⟩ := hp
          refine z_aload_n X hl 0 rfl rfl dX9_fill_102 ?_
          refine gC_X9_editor X K h q_306 dX9_fill_103 ?_
          refine gC_X1_lines X K h q_241 dX9_fill_106 ?_
          refine r_callVi (rest := []) X K g h (ct_X3_length u15 _ hw) lk_X9_122 3 rfl rfl ⟨rfl, rfl⟩ ⟨Nat.le_of_ble_eq_true rfl, Nat.le_of_ble_eq_true rfl⟩ rfl (lv_size hl) rfl (Nat.le_of_ble_eq_true rfl) dX9_fill_109 ⟨h13, h14⟩ (fun z16 w' H locs hp h => ?_)
          obtain ⟨rfl, hw⟩ := hp
          exact vx_ret (r_iret X hr hlk K h h13 h14 dX9_fill_112 ⟨_, rfl, hw⟩)
        · replace hw := hw.2 c12
          refine z_aload_n X hl 0 rfl rfl dX9_fill_66 ?_
          refine gC_X9_editor X K h q_306 dX9_fill_67 ?_
          refine gC_X1_lines X K h q_241 dX9_fill_70 ?_
          refine z_aload_n X hl 0 rfl rfl dX9_fill_73 ?_
          refine gC_X9_script X K h q_308 dX9_fill_74 ?_
          refine z_iload_n X hl 1 rfl rfl dX9_fill_77 ?_
          obtain ⟨h18, h19, hw⟩ := hw
          refine r_callVi (rest := [.ref (a 3)]) X K g h (ct_X7_numberOf u6 x1_7 _ hw) lk_X9_114 9 rfl rfl ⟨rfl, rfl⟩ ⟨Nat.le_of_ble_eq_true rfl, Nat.le_of_ble_eq_true rfl⟩ rfl (lv_size hl) rfl (Nat.le_of_ble_eq_true rfl) dX9_fill_78 ⟨h18, h19⟩ (fun z17 w' H locs hp h => ?_)
          obtain ⟨rfl, hw⟩ := hp
          obtain ⟨a21, b22, hk23, hs24, hw⟩ := hw
          refine r_callVi (rest := []) X K g h (ct_X3_insert a21 b22 u6 z17 _ hw) lk_X9_117 3 rfl rfl ⟨rfl, rfl⟩ ⟨Nat.le_of_ble_eq_true rfl, Nat.le_of_ble_eq_true rfl⟩ rfl (lv_size hl) rfl (Nat.le_of_ble_eq_true rfl) dX9_fill_81 ⟨hk23, hs24⟩ (fun z20 w' H locs hp h => ?_)
          obtain ⟨u25, rfl, hw⟩ := hp
          refine z_pop X rfl dX9_fill_84 ?_
          refine z_iinc (lv' := [(1, zI (x1_7 + 1)), (0, .ref (a 0))]) X hl 1 rfl (by decide) dX9_fill_85 rfl (fun ls hl => ?_)
          refine z_goto (tgt := 55) X dX9_fill_88 (by decide) ?_
          exact ih55 (u25, x1_7 + 1, kc8 + a21, ks9 + b22) H locs ls hw h (lv_sub hl [1, 0] rfl)
    exact key55 n55 (u5, 0, 0, 0) H locs ls hw h (lv_sub hl [1, 0] rfl)
  · replace hw := hw.2 c4
    obtain ⟨h26, h27, hw⟩ := hw
    exact r_throw X hst hlk hne K g h tw_IAE (lv_size hl) dX9_fill_38 dX9_fill_41 dX9_fill_42 dX9_fill_45 ⟨Nat.le_of_ble_eq_true rfl, Nat.le_of_ble_eq_true rfl⟩ ⟨h26, h27⟩ h26 h27 ⟨_, rfl, hw⟩
def w_X9_errorPosition (post : Int → Prop) (u0 : St) : Prop :=
post (sI u0 1)
abbrev rm_X9_errorPosition : Room := { frames := 0, cells := 0, slots := 0, locals := 0 }
set_option maxRecDepth 100000 in
set_option maxHeartbeats 4000000 in
theorem ct_X9_errorPosition {l : Launch} {G : Gr} {a : Nat → Nat} (u0 : St) (post : Int → Prop) (hw : w_X9_errorPosition post u0) : Ct l G yX9_errorPosition (ws_ yX9_errorPosition cX9_errorPosition 1 (some .int)) rm_X9_errorPosition [.ref (a 0)] (WC G a u0) 0 0 (PoP (WC G a u0) post) := by
  refine Ct.of (by decide) (Nat.le_of_ble_eq_true rfl) ?_
  intro p e s m args below meth c ls X hr hlk K g h hl
  have hl : lv_has ls 1 [(0, .ref (a 0))] := hl
  obtain ⟨H, hH⟩ : ∃ H, H = s.heap := ⟨_, rfl⟩
  obtain ⟨locs, hL⟩ : ∃ L : List Loc, L = [] := ⟨_, rfl⟩
  replace h : HW G (va_A (WC G a u0) s.heap.size) s.heap (WC G a u0) H locs := by rw [hH, hL]; exact h
  suffices hg : W p l e rm_X9_errorPosition s m args below meth c H locs 0 0 (EndI G (WC G a u0) (PoP (WC G a u0) post) args s 0 0 below) (F0 m 0 ls []) by rw [hH, hL] at hg; exact hg
  clear hH hL
  refine z_aload_n X hl 0 rfl rfl dX9_errorPosition_0 ?_
  refine gC_X9_errorAt (x := sI u0 1) X K h rfl q_310 dX9_errorPosition_1 ?_
  exact r_iret X hr hlk K h (Nat.le_refl _) (Nat.le_refl _) dX9_errorPosition_4 ⟨rfl, hw⟩
def w_X9_endedBy (post : Int → Prop) (u0 : St) : Prop :=
post (sI u0 2)
abbrev rm_X9_endedBy : Room := { frames := 0, cells := 0, slots := 0, locals := 0 }
set_option maxRecDepth 100000 in
set_option maxHeartbeats 4000000 in
theorem ct_X9_endedBy {l : Launch} {G : Gr} {a : Nat → Nat} (u0 : St) (post : Int → Prop) (hw : w_X9_endedBy post u0) : Ct l G yX9_endedBy (ws_ yX9_endedBy cX9_endedBy 1 (some .int)) rm_X9_endedBy [.ref (a 0)] (WC G a u0) 0 0 (PoP (WC G a u0) post) := by
  refine Ct.of (by decide) (Nat.le_of_ble_eq_true rfl) ?_
  intro p e s m args below meth c ls X hr hlk K g h hl
  have hl : lv_has ls 1 [(0, .ref (a 0))] := hl
  obtain ⟨H, hH⟩ : ∃ H, H = s.heap := ⟨_, rfl⟩
  obtain ⟨locs, hL⟩ : ∃ L : List Loc, L = [] := ⟨_, rfl⟩
  replace h : HW G (va_A (WC G a u0) s.heap.size) s.heap (WC G a u0) H locs := by rw [hH, hL]; exact h
  suffices hg : W p l e rm_X9_endedBy s m args below meth c H locs 0 0 (EndI G (WC G a u0) (PoP (WC G a u0) post) args s 0 0 below) (F0 m 0 ls []) by rw [hH, hL] at hg; exact hg
  clear hH hL
  refine z_aload_n X hl 0 rfl rfl dX9_endedBy_0 ?_
  refine gC_X9_ending (x := sI u0 2) X K h rfl q_311 dX9_endedBy_1 ?_
  exact r_iret X hr hlk K h (Nat.le_refl _) (Nat.le_refl _) dX9_endedBy_4 ⟨rfl, hw⟩
def w_X9_nextIndex (post : Int → Prop) (u0 : St) : Prop :=
(w_X3_caret (fun (z1 : Int) => post z1) u0)
abbrev rm_X9_nextIndex : Room := { frames := 2, cells := 0, slots := 0, locals := 40 }
set_option maxRecDepth 100000 in
set_option maxHeartbeats 4000000 in
theorem ct_X9_nextIndex {l : Launch} {G : Gr} {a : Nat → Nat} (u0 : St) (post : Int → Prop) (hw : w_X9_nextIndex post u0) : Ct l G yX9_nextIndex (ws_ yX9_nextIndex cX9_nextIndex 1 (some .int)) rm_X9_nextIndex [.ref (a 0)] (WC G a u0) 0 0 (PoP (WC G a u0) post) := by
  refine Ct.of (by decide) (Nat.le_of_ble_eq_true rfl) ?_
  intro p e s m args below meth c ls X hr hlk K g h hl
  have hl : lv_has ls 1 [(0, .ref (a 0))] := hl
  obtain ⟨H, hH⟩ : ∃ H, H = s.heap := ⟨_, rfl⟩
  obtain ⟨locs, hL⟩ : ∃ L : List Loc, L = [] := ⟨_, rfl⟩
  replace h : HW G (va_A (WC G a u0) s.heap.size) s.heap (WC G a u0) H locs := by rw [hH, hL]; exact h
  suffices hg : W p l e rm_X9_nextIndex s m args below meth c H locs 0 0 (EndI G (WC G a u0) (PoP (WC G a u0) post) args s 0 0 below) (F0 m 0 ls []) by rw [hH, hL] at hg; exact hg
  clear hH hL
  refine z_aload_n X hl 0 rfl rfl dX9_nextIndex_0 ?_
  refine gC_X9_editor X K h q_306 dX9_nextIndex_1 ?_
  refine gC_X1_lines X K h q_241 dX9_nextIndex_4 ?_
  refine r_callVi (rest := []) X K g h (ct_X3_caret u0 _ hw) lk_X9_137 3 rfl rfl ⟨rfl, rfl⟩ ⟨Nat.le_of_ble_eq_true rfl, Nat.le_of_ble_eq_true rfl⟩ rfl (lv_size hl) rfl (Nat.le_of_ble_eq_true rfl) dX9_nextIndex_7 ⟨Nat.le_of_ble_eq_true rfl, Nat.le_of_ble_eq_true rfl⟩ (fun z1 w' H locs hp h => ?_)
  obtain ⟨rfl, hw⟩ := hp
  exact r_iret X hr hlk K h (Nat.le_refl _) (Nat.le_refl _) dX9_nextIndex_10 ⟨rfl, hw⟩
def w_X9_previousIndex (post : Int → Prop) (u0 : St) : Prop :=
(w_X3_caret (fun (z1 : Int) => post (z1 - 1)) u0)
abbrev rm_X9_previousIndex : Room := { frames := 2, cells := 0, slots := 0, locals := 40 }
set_option maxRecDepth 100000 in
set_option maxHeartbeats 4000000 in
theorem ct_X9_previousIndex {l : Launch} {G : Gr} {a : Nat → Nat} (u0 : St) (post : Int → Prop) (hw : w_X9_previousIndex post u0) : Ct l G yX9_previousIndex (ws_ yX9_previousIndex cX9_previousIndex 1 (some .int)) rm_X9_previousIndex [.ref (a 0)] (WC G a u0) 0 0 (PoP (WC G a u0) post) := by
  refine Ct.of (by decide) (Nat.le_of_ble_eq_true rfl) ?_
  intro p e s m args below meth c ls X hr hlk K g h hl
  have hl : lv_has ls 1 [(0, .ref (a 0))] := hl
  obtain ⟨H, hH⟩ : ∃ H, H = s.heap := ⟨_, rfl⟩
  obtain ⟨locs, hL⟩ : ∃ L : List Loc, L = [] := ⟨_, rfl⟩
  replace h : HW G (va_A (WC G a u0) s.heap.size) s.heap (WC G a u0) H locs := by rw [hH, hL]; exact h
  suffices hg : W p l e rm_X9_previousIndex s m args below meth c H locs 0 0 (EndI G (WC G a u0) (PoP (WC G a u0) post) args s 0 0 below) (F0 m 0 ls []) by rw [hH, hL] at hg; exact hg
  clear hH hL
  refine z_aload_n X hl 0 rfl rfl dX9_previousIndex_0 ?_
  refine gC_X9_editor X K h q_306 dX9_previousIndex_1 ?_
  refine gC_X1_lines X K h q_241 dX9_previousIndex_4 ?_
  refine r_callVi (rest := []) X K g h (ct_X3_caret u0 _ hw) lk_X9_137 3 rfl rfl ⟨rfl, rfl⟩ ⟨Nat.le_of_ble_eq_true rfl, Nat.le_of_ble_eq_true rfl⟩ rfl (lv_size hl) rfl (Nat.le_of_ble_eq_true rfl) dX9_previousIndex_7 ⟨Nat.le_of_ble_eq_true rfl, Nat.le_of_ble_eq_true rfl⟩ (fun z1 w' H locs hp h => ?_)
  obtain ⟨rfl, hw⟩ := hp
  refine z_iconst X dX9_previousIndex_10 ?_
  refine z_isub X dX9_previousIndex_11 ?_
  exact r_iret X hr hlk K h (Nat.le_refl _) (Nat.le_refl _) dX9_previousIndex_12 ⟨rfl, hw⟩
def w_X9_hasNext (post : Int → Prop) (u0 : St) : Prop :=
(w_X3_has (fun (z1 : Int) => (z1 = 0 ∨ z1 = 1) ∧ post z1) u0 0)
abbrev rm_X9_hasNext : Room := { frames := 2, cells := 0, slots := 0, locals := 41 }
set_option maxRecDepth 100000 in
set_option maxHeartbeats 4000000 in
theorem ct_X9_hasNext {l : Launch} {G : Gr} {a : Nat → Nat} (u0 : St) (post : Int → Prop) (hw : w_X9_hasNext post u0) : Ct l G yX9_hasNext (ws_ yX9_hasNext cX9_hasNext 1 (some .boolean)) rm_X9_hasNext [.ref (a 0)] (WC G a u0) 0 0 (PoP (WC G a u0) post) := by
  refine Ct.of (by decide) (Nat.le_of_ble_eq_true rfl) ?_
  intro p e s m args below meth c ls X hr hlk K g h hl
  have hl : lv_has ls 1 [(0, .ref (a 0))] := hl
  obtain ⟨H, hH⟩ : ∃ H, H = s.heap := ⟨_, rfl⟩
  obtain ⟨locs, hL⟩ : ∃ L : List Loc, L = [] := ⟨_, rfl⟩
  replace h : HW G (va_A (WC G a u0) s.heap.size) s.heap (WC G a u0) H locs := by rw [hH, hL]; exact h
  suffices hg : W p l e rm_X9_hasNext s m args below meth c H locs 0 0 (EndI G (WC G a u0) (PoP (WC G a u0) post) args s 0 0 below) (F0 m 0 ls []) by rw [hH, hL] at hg; exact hg
  clear hH hL
  refine z_aload_n X hl 0 rfl rfl dX9_hasNext_0 ?_
  refine gC_X9_editor X K h q_306 dX9_hasNext_1 ?_
  refine gC_X1_lines X K h q_241 dX9_hasNext_4 ?_
  refine z_iconst X dX9_hasNext_7 ?_
  refine r_callVi (rest := []) X K g h (ct_X3_has u0 0 _ hw) lk_X9_140 3 rfl rfl ⟨rfl, rfl⟩ ⟨Nat.le_of_ble_eq_true rfl, Nat.le_of_ble_eq_true rfl⟩ rfl (lv_size hl) rfl (Nat.le_of_ble_eq_true rfl) dX9_hasNext_8 ⟨Nat.le_of_ble_eq_true rfl, Nat.le_of_ble_eq_true rfl⟩ (fun z1 w' H locs hp h => ?_)
  obtain ⟨rfl, hw⟩ := hp
  obtain ⟨h2, hw⟩ := hw
  exact r_zret X hr hlk K h (Nat.le_refl _) (Nat.le_refl _) dX9_hasNext_11 h2 ⟨rfl, hw⟩
def w_X9_hasPrevious (post : Int → Prop) (u0 : St) : Prop :=
(w_X3_has (fun (z1 : Int) => (z1 = 0 ∨ z1 = 1) ∧ post z1) u0 1)
abbrev rm_X9_hasPrevious : Room := { frames := 2, cells := 0, slots := 0, locals := 41 }
set_option maxRecDepth 100000 in
set_option maxHeartbeats 4000000 in
theorem ct_X9_hasPrevious {l : Launch} {G : Gr} {a : Nat → Nat} (u0 : St) (post : Int → Prop) (hw : w_X9_hasPrevious post u0) : Ct l G yX9_hasPrevious (ws_ yX9_hasPrevious cX9_hasPrevious 1 (some .boolean)) rm_X9_hasPrevious [.ref (a 0)] (WC G a u0) 0 0 (PoP (WC G a u0) post) := by
  refine Ct.of (by decide) (Nat.le_of_ble_eq_true rfl) ?_
  intro p e s m args below meth c ls X hr hlk K g h hl
  have hl : lv_has ls 1 [(0, .ref (a 0))] := hl
  obtain ⟨H, hH⟩ : ∃ H, H = s.heap := ⟨_, rfl⟩
  obtain ⟨locs, hL⟩ : ∃ L : List Loc, L = [] := ⟨_, rfl⟩
  replace h : HW G (va_A (WC G a u0) s.heap.size) s.heap (WC G a u0) H locs := by rw [hH, hL]; exact h
  suffices hg : W p l e rm_X9_hasPrevious s m args below meth c H locs 0 0 (EndI G (WC G a u0) (PoP (WC G a u0) post) args s 0 0 below) (F0 m 0 ls []) by rw [hH, hL] at hg; exact hg
  clear hH hL
  refine z_aload_n X hl 0 rfl rfl dX9_hasPrevious_0 ?_
  refine gC_X9_editor X K h q_306 dX9_hasPrevious_1 ?_
  refine gC_X1_lines X K h q_241 dX9_hasPrevious_4 ?_
  refine z_iconst X dX9_hasPrevious_7 ?_
  refine r_callVi (rest := []) X K g h (ct_X3_has u0 1 _ hw) lk_X9_140 3 rfl rfl ⟨rfl, rfl⟩ ⟨Nat.le_of_ble_eq_true rfl, Nat.le_of_ble_eq_true rfl⟩ rfl (lv_size hl) rfl (Nat.le_of_ble_eq_true rfl) dX9_hasPrevious_8 ⟨Nat.le_of_ble_eq_true rfl, Nat.le_of_ble_eq_true rfl⟩ (fun z1 w' H locs hp h => ?_)
  obtain ⟨rfl, hw⟩ := hp
  obtain ⟨h2, hw⟩ := hw
  exact r_zret X hr hlk K h (Nat.le_refl _) (Nat.le_refl _) dX9_hasPrevious_11 h2 ⟨rfl, hw⟩
def w_X9_ahead (post : Int → Prop) (u0 : St) (p1 : Int) : Prop :=
(InR p1) ∧ ((p1 < 0 → post (-1)) ∧
 (¬ p1 < 0 → (w_X3_length (fun (z3 : Int) => (w_X3_caret (fun (z4 : Int) => (InR (z3 - z4)) ∧ ((p1 < z3 - z4 → (w_X3_caret (fun (z7 : Int) => (w_X3_wordOf (fun (z8 : Int) => post z8) u0 (z7 + p1))) u0)) ∧
 (¬ p1 < z3 - z4 → post (-1)))) u0)) u0)))
abbrev rm_X9_ahead : Room := { frames := 2, cells := 0, slots := 0, locals := 43 }
set_option maxRecDepth 100000 in
set_option maxHeartbeats 4000000 in
theorem ct_X9_ahead {l : Launch} {G : Gr} {a : Nat → Nat} (u0 : St) (p1 : Int) (post : Int → Prop) (hw : w_X9_ahead post u0 p1) : Ct l G yX9_ahead (ws_ yX9_ahead cX9_ahead 3 (some .int)) rm_X9_ahead [.ref (a 0), zI p1] (WC G a u0) 0 0 (PoP (WC G a u0) post) := by
  refine Ct.of (by decide) (Nat.le_of_ble_eq_true rfl) ?_
  intro p e s m args below meth c ls X hr hlk K g h hl
  have hl : lv_has ls 3 [(0, .ref (a 0)), (1, zI p1)] := hl
  obtain ⟨H, hH⟩ : ∃ H, H = s.heap := ⟨_, rfl⟩
  obtain ⟨locs, hL⟩ : ∃ L : List Loc, L = [] := ⟨_, rfl⟩
  replace h : HW G (va_A (WC G a u0) s.heap.size) s.heap (WC G a u0) H locs := by rw [hH, hL]; exact h
  suffices hg : W p l e rm_X9_ahead s m args below meth c H locs 0 0 (EndI G (WC G a u0) (PoP (WC G a u0) post) args s 0 0 below) (F0 m 0 ls []) by rw [hH, hL] at hg; exact hg
  clear hH hL
  refine z_aload_n X hl 0 rfl rfl dX9_ahead_0 ?_
  refine gC_X9_editor X K h q_306 dX9_ahead_1 ?_
  refine gC_X1_lines X K h q_241 dX9_ahead_4 ?_
  refine z_astore_n (i := 2) (lv' := [(2, .ref (a 3)), (0, .ref (a 0)), (1, zI p1)]) X hl rfl (by decide) dX9_ahead_7 rfl (fun ls hl => ?_)
  refine z_iload_n X hl 2 rfl rfl dX9_ahead_8 ?_
  obtain ⟨h1, hw⟩ := hw
  refine z_if_lt (tgt := 25) X h1 dX9_ahead_9 (by decide) (fun c2 => ?_) (fun c2 => ?_)
  · replace hw := hw.1 c2
    refine z_iconst X dX9_ahead_25 ?_
    exact r_iret X hr hlk K h (Nat.le_refl _) (Nat.le_refl _) dX9_ahead_26 ⟨rfl, hw⟩
  · replace hw := hw.2 c2
    refine z_iload_n X hl 2 rfl rfl dX9_ahead_12 ?_
    refine z_aload_n X hl 0 rfl rfl dX9_ahead_13 ?_
    refine r_callVi (rest := [zI p1]) X K g h (ct_X3_length u0 _ hw) lk_X9_122 3 rfl rfl ⟨rfl, rfl⟩ ⟨Nat.le_of_ble_eq_true rfl, Nat.le_of_ble_eq_true rfl⟩ rfl (lv_size hl) rfl (Nat.le_of_ble_eq_true rfl) dX9_ahead_14 ⟨Nat.le_of_ble_eq_true rfl, Nat.le_of_ble_eq_true rfl⟩ (fun z3 w' H locs hp h => ?_)
    obtain ⟨rfl, hw⟩ := hp
    refine z_aload_n X hl 0 rfl rfl dX9_ahead_17 ?_
    refine r_callVi (rest := [zI z3, zI p1]) X K g h (ct_X3_caret u0 _ hw) lk_X9_137 3 rfl rfl ⟨rfl, rfl⟩ ⟨Nat.le_of_ble_eq_true rfl, Nat.le_of_ble_eq_true rfl⟩ rfl (lv_size hl) rfl (Nat.le_of_ble_eq_true rfl) dX9_ahead_18 ⟨Nat.le_of_ble_eq_true rfl, Nat.le_of_ble_eq_true rfl⟩ (fun z4 w' H locs hp h => ?_)
    obtain ⟨rfl, hw⟩ := hp
    refine z_isub X dX9_ahead_21 ?_
    obtain ⟨h5, hw⟩ := hw
    refine z_icmp_lt (tgt := 27) X h1 h5 dX9_ahead_22 (by decide) (fun c6 => ?_) (fun c6 => ?_)
    · replace hw := hw.1 c6
      refine z_aload_n X hl 0 rfl rfl dX9_ahead_27 ?_
      refine z_aload_n X hl 0 rfl rfl dX9_ahead_28 ?_
      refine r_callVi (rest := [.ref (a 3)]) X K g h (ct_X3_caret u0 _ hw) lk_X9_137 3 rfl rfl ⟨rfl, rfl⟩ ⟨Nat.le_of_ble_eq_true rfl, Nat.le_of_ble_eq_true rfl⟩ rfl (lv_size hl) rfl (Nat.le_of_ble_eq_true rfl) dX9_ahead_29 ⟨Nat.le_of_ble_eq_true rfl, Nat.le_of_ble_eq_true rfl⟩ (fun z7 w' H locs hp h => ?_)
      obtain ⟨rfl, hw⟩ := hp
      refine z_iload_n X hl 2 rfl rfl dX9_ahead_32 ?_
      refine z_iadd X dX9_ahead_33 ?_
      refine r_callVi (rest := []) X K g h (ct_X3_wordOf u0 (z7 + p1) _ hw) lk_X9_144 3 rfl rfl ⟨rfl, rfl⟩ ⟨Nat.le_of_ble_eq_true rfl, Nat.le_of_ble_eq_true rfl⟩ rfl (lv_size hl) rfl (Nat.le_of_ble_eq_true rfl) dX9_ahead_34 ⟨Nat.le_of_ble_eq_true rfl, Nat.le_of_ble_eq_true rfl⟩ (fun z8 w' H locs hp h => ?_)
      obtain ⟨rfl, hw⟩ := hp
      exact r_iret X hr hlk K h (Nat.le_refl _) (Nat.le_refl _) dX9_ahead_37 ⟨rfl, hw⟩
    · replace hw := hw.2 c6
      refine z_iconst X dX9_ahead_25 ?_
      exact r_iret X hr hlk K h (Nat.le_refl _) (Nat.le_refl _) dX9_ahead_26 ⟨rfl, hw⟩
def w_X9_behind (post : Int → Prop) (u0 : St) (p1 : Int) : Prop :=
(InR p1) ∧ ((p1 < 0 → post (-1)) ∧
 (¬ p1 < 0 → (w_X3_caret (fun (z3 : Int) => (InR z3) ∧ ((p1 < z3 → (w_X3_caret (fun (z6 : Int) => (w_X3_wordOf (fun (z7 : Int) => post z7) u0 ((z6 - 1) - p1))) u0)) ∧
 (¬ p1 < z3 → post (-1)))) u0)))
abbrev rm_X9_behind : Room := { frames := 2, cells := 0, slots := 0, locals := 43 }
set_option maxRecDepth 100000 in
set_option maxHeartbeats 4000000 in
theorem ct_X9_behind {l : Launch} {G : Gr} {a : Nat → Nat} (u0 : St) (p1 : Int) (post : Int → Prop) (hw : w_X9_behind post u0 p1) : Ct l G yX9_behind (ws_ yX9_behind cX9_behind 3 (some .int)) rm_X9_behind [.ref (a 0), zI p1] (WC G a u0) 0 0 (PoP (WC G a u0) post) := by
  refine Ct.of (by decide) (Nat.le_of_ble_eq_true rfl) ?_
  intro p e s m args below meth c ls X hr hlk K g h hl
  have hl : lv_has ls 3 [(0, .ref (a 0)), (1, zI p1)] := hl
  obtain ⟨H, hH⟩ : ∃ H, H = s.heap := ⟨_, rfl⟩
  obtain ⟨locs, hL⟩ : ∃ L : List Loc, L = [] := ⟨_, rfl⟩
  replace h : HW G (va_A (WC G a u0) s.heap.size) s.heap (WC G a u0) H locs := by rw [hH, hL]; exact h
  suffices hg : W p l e rm_X9_behind s m args below meth c H locs 0 0 (EndI G (WC G a u0) (PoP (WC G a u0) post) args s 0 0 below) (F0 m 0 ls []) by rw [hH, hL] at hg; exact hg
  clear hH hL
  refine z_aload_n X hl 0 rfl rfl dX9_behind_0 ?_
  refine gC_X9_editor X K h q_306 dX9_behind_1 ?_
  refine gC_X1_lines X K h q_241 dX9_behind_4 ?_
  refine z_astore_n (i := 2) (lv' := [(2, .ref (a 3)), (0, .ref (a 0)), (1, zI p1)]) X hl rfl (by decide) dX9_behind_7 rfl (fun ls hl => ?_)
  refine z_iload_n X hl 2 rfl rfl dX9_behind_8 ?_
  obtain ⟨h1, hw⟩ := hw
  refine z_if_lt (tgt := 20) X h1 dX9_behind_9 (by decide) (fun c2 => ?_) (fun c2 => ?_)
  · replace hw := hw.1 c2
    refine z_iconst X dX9_behind_20 ?_
    exact r_iret X hr hlk K h (Nat.le_refl _) (Nat.le_refl _) dX9_behind_21 ⟨rfl, hw⟩
  · replace hw := hw.2 c2
    refine z_iload_n X hl 2 rfl rfl dX9_behind_12 ?_
    refine z_aload_n X hl 0 rfl rfl dX9_behind_13 ?_
    refine r_callVi (rest := [zI p1]) X K g h (ct_X3_caret u0 _ hw) lk_X9_137 3 rfl rfl ⟨rfl, rfl⟩ ⟨Nat.le_of_ble_eq_true rfl, Nat.le_of_ble_eq_true rfl⟩ rfl (lv_size hl) rfl (Nat.le_of_ble_eq_true rfl) dX9_behind_14 ⟨Nat.le_of_ble_eq_true rfl, Nat.le_of_ble_eq_true rfl⟩ (fun z3 w' H locs hp h => ?_)
    obtain ⟨rfl, hw⟩ := hp
    obtain ⟨h4, hw⟩ := hw
    refine z_icmp_lt (tgt := 22) X h1 h4 dX9_behind_17 (by decide) (fun c5 => ?_) (fun c5 => ?_)
    · replace hw := hw.1 c5
      refine z_aload_n X hl 0 rfl rfl dX9_behind_22 ?_
      refine z_aload_n X hl 0 rfl rfl dX9_behind_23 ?_
      refine r_callVi (rest := [.ref (a 3)]) X K g h (ct_X3_caret u0 _ hw) lk_X9_137 3 rfl rfl ⟨rfl, rfl⟩ ⟨Nat.le_of_ble_eq_true rfl, Nat.le_of_ble_eq_true rfl⟩ rfl (lv_size hl) rfl (Nat.le_of_ble_eq_true rfl) dX9_behind_24 ⟨Nat.le_of_ble_eq_true rfl, Nat.le_of_ble_eq_true rfl⟩ (fun z6 w' H locs hp h => ?_)
      obtain ⟨rfl, hw⟩ := hp
      refine z_iconst X dX9_behind_27 ?_
      refine z_isub X dX9_behind_28 ?_
      refine z_iload_n X hl 2 rfl rfl dX9_behind_29 ?_
      refine z_isub X dX9_behind_30 ?_
      refine r_callVi (rest := []) X K g h (ct_X3_wordOf u0 ((z6 - 1) - p1) _ hw) lk_X9_144 3 rfl rfl ⟨rfl, rfl⟩ ⟨Nat.le_of_ble_eq_true rfl, Nat.le_of_ble_eq_true rfl⟩ rfl (lv_size hl) rfl (Nat.le_of_ble_eq_true rfl) dX9_behind_31 ⟨Nat.le_of_ble_eq_true rfl, Nat.le_of_ble_eq_true rfl⟩ (fun z7 w' H locs hp h => ?_)
      obtain ⟨rfl, hw⟩ := hp
      exact r_iret X hr hlk K h (Nat.le_refl _) (Nat.le_refl _) dX9_behind_34 ⟨rfl, hw⟩
    · replace hw := hw.2 c5
      refine z_iconst X dX9_behind_20 ?_
      exact r_iret X hr hlk K h (Nat.le_refl _) (Nat.le_refl _) dX9_behind_21 ⟨rfl, hw⟩
def w_X9_given (post : Int → Prop) (u0 : St) : Prop :=
(w_X3_caret (fun (z1 : Int) => (InR (sI u0 5)) ∧ ((¬ sI u0 5 = 0 → ((¬ sI u0 5 = 1 → (w_X3_wordOf (fun (z5 : Int) => post z5) u0 z1)) ∧
 (sI u0 5 = 1 → (w_X3_wordOf (fun (z6 : Int) => post z6) u0 (z1 - 1))))) ∧
 (sI u0 5 = 0 → post (-1)))) u0)
abbrev rm_X9_given : Room := { frames := 2, cells := 0, slots := 0, locals := 43 }
set_option maxRecDepth 100000 in
set_option maxHeartbeats 4000000 in
theorem ct_X9_given {l : Launch} {G : Gr} {a : Nat → Nat} (u0 : St) (post : Int → Prop) (hw : w_X9_given post u0) : Ct l G yX9_given (ws_ yX9_given cX9_given 2 (some .int)) rm_X9_given [.ref (a 0)] (WC G a u0) 0 0 (PoP (WC G a u0) post) := by
  refine Ct.of (by decide) (Nat.le_of_ble_eq_true rfl) ?_
  intro p e s m args below meth c ls X hr hlk K g h hl
  have hl : lv_has ls 2 [(0, .ref (a 0))] := hl
  obtain ⟨H, hH⟩ : ∃ H, H = s.heap := ⟨_, rfl⟩
  obtain ⟨locs, hL⟩ : ∃ L : List Loc, L = [] := ⟨_, rfl⟩
  replace h : HW G (va_A (WC G a u0) s.heap.size) s.heap (WC G a u0) H locs := by rw [hH, hL]; exact h
  suffices hg : W p l e rm_X9_given s m args below meth c H locs 0 0 (EndI G (WC G a u0) (PoP (WC G a u0) post) args s 0 0 below) (F0 m 0 ls []) by rw [hH, hL] at hg; exact hg
  clear hH hL
  refine z_aload_n X hl 0 rfl rfl dX9_given_0 ?_
  refine gC_X9_editor X K h q_306 dX9_given_1 ?_
  refine gC_X1_lines X K h q_241 dX9_given_4 ?_
  refine r_callVi (rest := []) X K g h (ct_X3_caret u0 _ hw) lk_X9_137 3 rfl rfl ⟨rfl, rfl⟩ ⟨Nat.le_of_ble_eq_true rfl, Nat.le_of_ble_eq_true rfl⟩ rfl (lv_size hl) rfl (Nat.le_of_ble_eq_true rfl) dX9_given_7 ⟨Nat.le_of_ble_eq_true rfl, Nat.le_of_ble_eq_true rfl⟩ (fun z1 w' H locs hp h => ?_)
  obtain ⟨rfl, hw⟩ := hp
  refine z_istore_n (i := 1) (lv' := [(1, zI z1), (0, .ref (a 0))]) X hl rfl (by decide) dX9_given_10 rfl (fun ls hl => ?_)
  refine z_aload_n X hl 1 rfl rfl dX9_given_11 ?_
  refine gC_X9_editor X K h q_306 dX9_given_12 ?_
  refine gC_X1_side (x := sI u0 5) X K h rfl q_249 dX9_given_15 ?_
  obtain ⟨h2, hw⟩ := hw
  refine z_if_ne (tgt := 23) X h2 dX9_given_18 (by decide) (fun c3 => ?_) (fun c3 => ?_)
  · replace hw := hw.1 c3
    refine z_aload_n X hl 1 rfl rfl dX9_given_23 ?_
    refine gC_X9_editor X K h q_306 dX9_given_24 ?_
    refine gC_X1_lines X K h q_241 dX9_given_27 ?_
    refine z_aload_n X hl 1 rfl rfl dX9_given_30 ?_
    refine gC_X9_editor X K h q_306 dX9_given_31 ?_
    refine gC_X1_side (x := sI u0 5) X K h rfl q_249 dX9_given_34 ?_
    refine z_iconst X dX9_given_37 ?_
    refine z_icmp_ne (tgt := 47) X h2 (by decide) dX9_given_38 (by decide) (fun c4 => ?_) (fun c4 => ?_)
    · replace hw := hw.1 c4
      refine z_iload_n X hl 0 rfl rfl dX9_given_47 ?_
      refine r_callVi (rest := []) X K g h (ct_X3_wordOf u0 z1 _ hw) lk_X9_144 3 rfl rfl ⟨rfl, rfl⟩ ⟨Nat.le_of_ble_eq_true rfl, Nat.le_of_ble_eq_true rfl⟩ rfl (lv_size hl) rfl (Nat.le_of_ble_eq_true rfl) dX9_given_48 ⟨Nat.le_of_ble_eq_true rfl, Nat.le_of_ble_eq_true rfl⟩ (fun z5 w' H locs hp h => ?_)
      obtain ⟨rfl, hw⟩ := hp
      exact r_iret X hr hlk K h (Nat.le_refl _) (Nat.le_refl _) dX9_given_51 ⟨rfl, hw⟩
    · replace hw := hw.2 c4
      refine z_iload_n X hl 0 rfl rfl dX9_given_41 ?_
      refine z_iconst X dX9_given_42 ?_
      refine z_isub X dX9_given_43 ?_
      refine z_goto (tgt := 48) X dX9_given_44 (by decide) ?_
      refine r_callVi (rest := []) X K g h (ct_X3_wordOf u0 (z1 - 1) _ hw) lk_X9_144 3 rfl rfl ⟨rfl, rfl⟩ ⟨Nat.le_of_ble_eq_true rfl, Nat.le_of_ble_eq_true rfl⟩ rfl (lv_size hl) rfl (Nat.le_of_ble_eq_true rfl) dX9_given_48 ⟨Nat.le_of_ble_eq_true rfl, Nat.le_of_ble_eq_true rfl⟩ (fun z6 w' H locs hp h => ?_)
      obtain ⟨rfl, hw⟩ := hp
      exact r_iret X hr hlk K h (Nat.le_refl _) (Nat.le_refl _) dX9_given_51 ⟨rfl, hw⟩
  · replace hw := hw.2 c3
    refine z_iconst X dX9_given_21 ?_
    exact r_iret X hr hlk K h (Nat.le_refl _) (Nat.le_refl _) dX9_given_22 ⟨rfl, hw⟩
def w_X9_givenBy (post : Int → Prop) (u0 : St) : Prop :=
post (sI u0 5)
abbrev rm_X9_givenBy : Room := { frames := 0, cells := 0, slots := 0, locals := 0 }
set_option maxRecDepth 100000 in
set_option maxHeartbeats 4000000 in
theorem ct_X9_givenBy {l : Launch} {G : Gr} {a : Nat → Nat} (u0 : St) (post : Int → Prop) (hw : w_X9_givenBy post u0) : Ct l G yX9_givenBy (ws_ yX9_givenBy cX9_givenBy 1 (some .int)) rm_X9_givenBy [.ref (a 0)] (WC G a u0) 0 0 (PoP (WC G a u0) post) := by
  refine Ct.of (by decide) (Nat.le_of_ble_eq_true rfl) ?_
  intro p e s m args below meth c ls X hr hlk K g h hl
  have hl : lv_has ls 1 [(0, .ref (a 0))] := hl
  obtain ⟨H, hH⟩ : ∃ H, H = s.heap := ⟨_, rfl⟩
  obtain ⟨locs, hL⟩ : ∃ L : List Loc, L = [] := ⟨_, rfl⟩
  replace h : HW G (va_A (WC G a u0) s.heap.size) s.heap (WC G a u0) H locs := by rw [hH, hL]; exact h
  suffices hg : W p l e rm_X9_givenBy s m args below meth c H locs 0 0 (EndI G (WC G a u0) (PoP (WC G a u0) post) args s 0 0 below) (F0 m 0 ls []) by rw [hH, hL] at hg; exact hg
  clear hH hL
  refine z_aload_n X hl 0 rfl rfl dX9_givenBy_0 ?_
  refine gC_X9_editor X K h q_306 dX9_givenBy_1 ?_
  refine gC_X1_side (x := sI u0 5) X K h rfl q_249 dX9_givenBy_4 ?_
  exact r_iret X hr hlk K h (Nat.le_refl _) (Nat.le_refl _) dX9_givenBy_7 ⟨rfl, hw⟩
def w_X9_refusedNow (post : Int → Prop) (u0 : St) : Prop :=
(w_X3_has (fun (z1 : Int) => (InR z1) ∧ ((¬ z1 = 0 → (w_X3_has (fun (z4 : Int) => (InR z4) ∧ ((¬ z4 = 0 → (w_X3_length (fun (z9 : Int) => (InR z9) ∧ ((z9 < 100 → (InR (sI u0 5)) ∧ ((¬ sI u0 5 = 0 → post ((((0 + 0) + 0) + 0) + 0)) ∧
 (sI u0 5 = 0 → post ((((0 + 0) + 0) + 8) + 0)))) ∧
 (¬ z9 < 100 → (InR (sI u0 5)) ∧ ((¬ sI u0 5 = 0 → post ((((0 + 0) + 4) + 0) + 0)) ∧
 (sI u0 5 = 0 → post ((((0 + 0) + 4) + 8) + 0)))))) u0)) ∧
 (z4 = 0 → (w_X3_length (fun (z26 : Int) => (InR z26) ∧ ((z26 < 100 → (InR (sI u0 5)) ∧ ((¬ sI u0 5 = 0 → post ((((0 + 2) + 0) + 0) + 16)) ∧
 (sI u0 5 = 0 → post ((((0 + 2) + 0) + 8) + 16)))) ∧
 (¬ z26 < 100 → (InR (sI u0 5)) ∧ ((¬ sI u0 5 = 0 → post ((((0 + 2) + 4) + 0) + 16)) ∧
 (sI u0 5 = 0 → post ((((0 + 2) + 4) + 8) + 16)))))) u0)))) u0 1)) ∧
 (z1 = 0 → (w_X3_has (fun (z41 : Int) => (InR z41) ∧ ((¬ z41 = 0 → (w_X3_length (fun (z46 : Int) => (InR z46) ∧ ((z46 < 100 → (InR (sI u0 5)) ∧ ((¬ sI u0 5 = 0 → post ((((1 + 0) + 0) + 0) + 16)) ∧
 (sI u0 5 = 0 → post ((((1 + 0) + 0) + 8) + 16)))) ∧
 (¬ z46 < 100 → (InR (sI u0 5)) ∧ ((¬ sI u0 5 = 0 → post ((((1 + 0) + 4) + 0) + 16)) ∧
 (sI u0 5 = 0 → post ((((1 + 0) + 4) + 8) + 16)))))) u0)) ∧
 (z41 = 0 → (w_X3_length (fun (z59 : Int) => (InR z59) ∧ ((z59 < 100 → (InR (sI u0 5)) ∧ ((¬ sI u0 5 = 0 → post ((((1 + 2) + 0) + 0) + 16)) ∧
 (sI u0 5 = 0 → post ((((1 + 2) + 0) + 8) + 16)))) ∧
 (¬ z59 < 100 → (InR (sI u0 5)) ∧ ((¬ sI u0 5 = 0 → post ((((1 + 2) + 4) + 0) + 16)) ∧
 (sI u0 5 = 0 → post ((((1 + 2) + 4) + 8) + 16)))))) u0)))) u0 1)))) u0 0)
abbrev rm_X9_refusedNow : Room := { frames := 2, cells := 0, slots := 0, locals := 41 }
set_option maxRecDepth 100000 in
set_option maxHeartbeats 4000000 in
theorem ct_X9_refusedNow {l : Launch} {G : Gr} {a : Nat → Nat} (u0 : St) (post : Int → Prop) (hw : w_X9_refusedNow post u0) : Ct l G yX9_refusedNow (ws_ yX9_refusedNow cX9_refusedNow 4 (some .int)) rm_X9_refusedNow [.ref (a 0)] (WC G a u0) 0 0 (PoP (WC G a u0) post) := by
  refine Ct.of (by decide) (Nat.le_of_ble_eq_true rfl) ?_
  intro p e s m args below meth c ls X hr hlk K g h hl
  have hl : lv_has ls 4 [(0, .ref (a 0))] := hl
  obtain ⟨H, hH⟩ : ∃ H, H = s.heap := ⟨_, rfl⟩
  obtain ⟨locs, hL⟩ : ∃ L : List Loc, L = [] := ⟨_, rfl⟩
  replace h : HW G (va_A (WC G a u0) s.heap.size) s.heap (WC G a u0) H locs := by rw [hH, hL]; exact h
  suffices hg : W p l e rm_X9_refusedNow s m args below meth c H locs 0 0 (EndI G (WC G a u0) (PoP (WC G a u0) post) args s 0 0 below) (F0 m 0 ls []) by rw [hH, hL] at hg; exact hg
  clear hH hL
  refine z_aload_n X hl 0 rfl rfl dX9_refusedNow_0 ?_
  refine gC_X9_editor X K h q_306 dX9_refusedNow_1 ?_
  refine gC_X1_lines X K h q_241 dX9_refusedNow_4 ?_
  refine z_iconst X dX9_refusedNow_7 ?_
  refine r_callVi (rest := []) X K g h (ct_X3_has u0 0 _ hw) lk_X9_140 3 rfl rfl ⟨rfl, rfl⟩ ⟨Nat.le_of_ble_eq_true rfl, Nat.le_of_ble_eq_true rfl⟩ rfl (lv_size hl) rfl (Nat.le_of_ble_eq_true rfl) dX9_refusedNow_8 ⟨Nat.le_of_ble_eq_true rfl, Nat.le_of_ble_eq_true rfl⟩ (fun z1 w' H locs hp h => ?_)
  obtain ⟨rfl, hw⟩ := hp
  obtain ⟨h2, hw⟩ := hw
  refine z_if_ne (tgt := 18) X h2 dX9_refusedNow_11 (by decide) (fun c3 => ?_) (fun c3 => ?_)
  · replace hw := hw.1 c3
    refine z_iconst X dX9_refusedNow_18 ?_
    refine z_istore_n (i := 1) (lv' := [(1, zI 0), (0, .ref (a 0))]) X hl rfl (by decide) dX9_refusedNow_19 rfl (fun ls hl => ?_)
    refine z_aload_n X hl 1 rfl rfl dX9_refusedNow_20 ?_
    refine gC_X9_editor X K h q_306 dX9_refusedNow_21 ?_
    refine gC_X1_lines X K h q_241 dX9_refusedNow_24 ?_
    refine z_iconst X dX9_refusedNow_27 ?_
    refine r_callVi (rest := []) X K g h (ct_X3_has u0 1 _ hw) lk_X9_140 3 rfl rfl ⟨rfl, rfl⟩ ⟨Nat.le_of_ble_eq_true rfl, Nat.le_of_ble_eq_true rfl⟩ rfl (lv_size hl) rfl (Nat.le_of_ble_eq_true rfl) dX9_refusedNow_28 ⟨Nat.le_of_ble_eq_true rfl, Nat.le_of_ble_eq_true rfl⟩ (fun z4 w' H locs hp h => ?_)
    obtain ⟨rfl, hw⟩ := hp
    obtain ⟨h5, hw⟩ := hw
    refine z_if_ne (tgt := 38) X h5 dX9_refusedNow_31 (by decide) (fun c6 => ?_) (fun c6 => ?_)
    · replace hw := hw.1 c6
      refine z_iconst X dX9_refusedNow_38 ?_
      refine z_istore_n (i := 2) (lv' := [(2, zI 0), (1, zI 0), (0, .ref (a 0))]) X hl rfl (by decide) dX9_refusedNow_39 rfl (fun ls hl => ?_)
      refine z_iload_n X hl 1 rfl rfl dX9_refusedNow_40 ?_
      refine z_if_eq (tgt := 48) X (by decide) dX9_refusedNow_41 (by decide) (fun _ => ?_) (fun c7 => absurd c7 (by decide))
      refine z_iconst X dX9_refusedNow_48 ?_
      refine z_istore_n (i := 3) (lv' := [(3, zI 0), (2, zI 0), (1, zI 0), (0, .ref (a 0))]) X hl rfl (by decide) dX9_refusedNow_49 rfl (fun ls hl => ?_)
      refine z_iload_n X hl 0 rfl rfl dX9_refusedNow_50 ?_
      refine z_iload_n X hl 1 rfl rfl dX9_refusedNow_51 ?_
      refine z_if_eq (tgt := 59) X (by decide) dX9_refusedNow_52 (by decide) (fun _ => ?_) (fun c8 => absurd c8 (by decide))
      refine z_iconst X dX9_refusedNow_59 ?_
      refine z_iadd X dX9_refusedNow_60 ?_
      refine z_istore_n (i := 3) (lv' := [(3, zI (0 + 0)), (2, zI 0), (1, zI 0), (0, .ref (a 0))]) X hl rfl (by decide) dX9_refusedNow_61 rfl (fun ls hl => ?_)
      refine z_iload_n X hl 0 rfl rfl dX9_refusedNow_62 ?_
      refine z_aload_n X hl 3 rfl rfl dX9_refusedNow_63 ?_
      refine gC_X9_editor X K h q_306 dX9_refusedNow_64 ?_
      refine gC_X1_lines X K h q_241 dX9_refusedNow_67 ?_
      refine r_callVi (rest := [zI (0 + 0)]) X K g h (ct_X3_length u0 _ hw) lk_X9_122 3 rfl rfl ⟨rfl, rfl⟩ ⟨Nat.le_of_ble_eq_true rfl, Nat.le_of_ble_eq_true rfl⟩ rfl (lv_size hl) rfl (Nat.le_of_ble_eq_true rfl) dX9_refusedNow_70 ⟨Nat.le_of_ble_eq_true rfl, Nat.le_of_ble_eq_true rfl⟩ (fun z9 w' H locs hp h => ?_)
      obtain ⟨rfl, hw⟩ := hp
      refine z_bipush (v := 100) X dX9_refusedNow_73 (by decide) ?_
      obtain ⟨h10, hw⟩ := hw
      refine z_icmp_lt (tgt := 82) X h10 (by decide) dX9_refusedNow_75 (by decide) (fun c11 => ?_) (fun c11 => ?_)
      · replace hw := hw.1 c11
        refine z_iconst X dX9_refusedNow_82 ?_
        refine z_iadd X dX9_refusedNow_83 ?_
        refine z_istore_n (i := 3) (lv' := [(3, zI ((0 + 0) + 0)), (2, zI 0), (1, zI 0), (0, .ref (a 0))]) X hl rfl (by decide) dX9_refusedNow_84 rfl (fun ls hl => ?_)
        refine z_iload_n X hl 0 rfl rfl dX9_refusedNow_85 ?_
        refine z_aload_n X hl 3 rfl rfl dX9_refusedNow_86 ?_
        refine gC_X9_editor X K h q_306 dX9_refusedNow_87 ?_
        refine gC_X1_side (x := sI u0 5) X K h rfl q_249 dX9_refusedNow_90 ?_
        obtain ⟨h12, hw⟩ := hw
        refine z_if_ne (tgt := 101) X h12 dX9_refusedNow_93 (by decide) (fun c13 => ?_) (fun c13 => ?_)
        · replace hw := hw.1 c13
          refine z_iconst X dX9_refusedNow_101 ?_
          refine z_iadd X dX9_refusedNow_102 ?_
          refine z_istore_n (i := 3) (lv' := [(3, zI (((0 + 0) + 0) + 0)), (2, zI 0), (1, zI 0), (0, .ref (a 0))]) X hl rfl (by decide) dX9_refusedNow_103 rfl (fun ls hl => ?_)
          refine z_iload_n X hl 0 rfl rfl dX9_refusedNow_104 ?_
          refine z_iload_n X hl 2 rfl rfl dX9_refusedNow_105 ?_
          refine z_if_ne (tgt := 113) X (by decide) dX9_refusedNow_106 (by decide) (fun c14 => absurd c14 (by decide)) (fun _ => ?_)
          refine z_iload_n X hl 1 rfl rfl dX9_refusedNow_109 ?_
          refine z_if_eq (tgt := 118) X (by decide) dX9_refusedNow_110 (by decide) (fun _ => ?_) (fun c15 => absurd c15 (by decide))
          refine z_iconst X dX9_refusedNow_118 ?_
          refine z_iadd X dX9_refusedNow_119 ?_
          refine z_istore_n (i := 3) (lv' := [(3, zI ((((0 + 0) + 0) + 0) + 0)), (2, zI 0), (1, zI 0), (0, .ref (a 0))]) X hl rfl (by decide) dX9_refusedNow_120 rfl (fun ls hl => ?_)
          refine z_iload_n X hl 0 rfl rfl dX9_refusedNow_121 ?_
          exact r_iret X hr hlk K h (Nat.le_refl _) (Nat.le_refl _) dX9_refusedNow_122 ⟨rfl, hw⟩
        · replace hw := hw.2 c13
          refine z_bipush (v := 8) X dX9_refusedNow_96 (by decide) ?_
          refine z_goto (tgt := 102) X dX9_refusedNow_98 (by decide) ?_
          refine z_iadd X dX9_refusedNow_102 ?_
          refine z_istore_n (i := 3) (lv' := [(3, zI (((0 + 0) + 0) + 8)), (2, zI 0), (1, zI 0), (0, .ref (a 0))]) X hl rfl (by decide) dX9_refusedNow_103 rfl (fun ls hl => ?_)
          refine z_iload_n X hl 0 rfl rfl dX9_refusedNow_104 ?_
          refine z_iload_n X hl 2 rfl rfl dX9_refusedNow_105 ?_
          refine z_if_ne (tgt := 113) X (by decide) dX9_refusedNow_106 (by decide) (fun c16 => absurd c16 (by decide)) (fun _ => ?_)
          refine z_iload_n X hl 1 rfl rfl dX9_refusedNow_109 ?_
          refine z_if_eq (tgt := 118) X (by decide) dX9_refusedNow_110 (by decide) (fun _ => ?_) (fun c17 => absurd c17 (by decide))
          refine z_iconst X dX9_refusedNow_118 ?_
          refine z_iadd X dX9_refusedNow_119 ?_
          refine z_istore_n (i := 3) (lv' := [(3, zI ((((0 + 0) + 0) + 8) + 0)), (2, zI 0), (1, zI 0), (0, .ref (a 0))]) X hl rfl (by decide) dX9_refusedNow_120 rfl (fun ls hl => ?_)
          refine z_iload_n X hl 0 rfl rfl dX9_refusedNow_121 ?_
          exact r_iret X hr hlk K h (Nat.le_refl _) (Nat.le_refl _) dX9_refusedNow_122 ⟨rfl, hw⟩
      · replace hw := hw.2 c11
        refine z_iconst X dX9_refusedNow_78 ?_
        refine z_goto (tgt := 83) X dX9_refusedNow_79 (by decide) ?_
        refine z_iadd X dX9_refusedNow_83 ?_
        refine z_istore_n (i := 3) (lv' := [(3, zI ((0 + 0) + 4)), (2, zI 0), (1, zI 0), (0, .ref (a 0))]) X hl rfl (by decide) dX9_refusedNow_84 rfl (fun ls hl => ?_)
        refine z_iload_n X hl 0 rfl rfl dX9_refusedNow_85 ?_
        refine z_aload_n X hl 3 rfl rfl dX9_refusedNow_86 ?_
        refine gC_X9_editor X K h q_306 dX9_refusedNow_87 ?_
        refine gC_X1_side (x := sI u0 5) X K h rfl q_249 dX9_refusedNow_90 ?_
        obtain ⟨h18, hw⟩ := hw
        refine z_if_ne (tgt := 101) X h18 dX9_refusedNow_93 (by decide) (fun c19 => ?_) (fun c19 => ?_)
        · replace hw := hw.1 c19
          refine z_iconst X dX9_refusedNow_101 ?_
          refine z_iadd X dX9_refusedNow_102 ?_
          refine z_istore_n (i := 3) (lv' := [(3, zI (((0 + 0) + 4) + 0)), (2, zI 0), (1, zI 0), (0, .ref (a 0))]) X hl rfl (by decide) dX9_refusedNow_103 rfl (fun ls hl => ?_)
          refine z_iload_n X hl 0 rfl rfl dX9_refusedNow_104 ?_
          refine z_iload_n X hl 2 rfl rfl dX9_refusedNow_105 ?_
          refine z_if_ne (tgt := 113) X (by decide) dX9_refusedNow_106 (by decide) (fun c20 => absurd c20 (by decide)) (fun _ => ?_)
          refine z_iload_n X hl 1 rfl rfl dX9_refusedNow_109 ?_
          refine z_if_eq (tgt := 118) X (by decide) dX9_refusedNow_110 (by decide) (fun _ => ?_) (fun c21 => absurd c21 (by decide))
          refine z_iconst X dX9_refusedNow_118 ?_
          refine z_iadd X dX9_refusedNow_119 ?_
          refine z_istore_n (i := 3) (lv' := [(3, zI ((((0 + 0) + 4) + 0) + 0)), (2, zI 0), (1, zI 0), (0, .ref (a 0))]) X hl rfl (by decide) dX9_refusedNow_120 rfl (fun ls hl => ?_)
          refine z_iload_n X hl 0 rfl rfl dX9_refusedNow_121 ?_
          exact r_iret X hr hlk K h (Nat.le_refl _) (Nat.le_refl _) dX9_refusedNow_122 ⟨rfl, hw⟩
        · replace hw := hw.2 c19
          refine z_bipush (v := 8) X dX9_refusedNow_96 (by decide) ?_
          refine z_goto (tgt := 102) X dX9_refusedNow_98 (by decide) ?_
          refine z_iadd X dX9_refusedNow_102 ?_
          refine z_istore_n (i := 3) (lv' := [(3, zI (((0 + 0) + 4) + 8)), (2, zI 0), (1, zI 0), (0, .ref (a 0))]) X hl rfl (by decide) dX9_refusedNow_103 rfl (fun ls hl => ?_)
          refine z_iload_n X hl 0 rfl rfl dX9_refusedNow_104 ?_
          refine z_iload_n X hl 2 rfl rfl dX9_refusedNow_105 ?_
          refine z_if_ne (tgt := 113) X (by decide) dX9_refusedNow_106 (by decide) (fun c22 => absurd c22 (by decide)) (fun _ => ?_)
          refine z_iload_n X hl 1 rfl rfl dX9_refusedNow_109 ?_
          refine z_if_eq (tgt := 118) X (by decide) dX9_refusedNow_110 (by decide) (fun _ => ?_) (fun c23 => absurd c23 (by decide))
          refine z_iconst X dX9_refusedNow_118 ?_
          refine z_iadd X dX9_refusedNow_119 ?_
          refine z_istore_n (i := 3) (lv' := [(3, zI ((((0 + 0) + 4) + 8) + 0)), (2, zI 0), (1, zI 0), (0, .ref (a 0))]) X hl rfl (by decide) dX9_refusedNow_120 rfl (fun ls hl => ?_)
          refine z_iload_n X hl 0 rfl rfl dX9_refusedNow_121 ?_
          exact r_iret X hr hlk K h (Nat.le_refl _) (Nat.le_refl _) dX9_refusedNow_122 ⟨rfl, hw⟩
    · replace hw := hw.2 c6
      refine z_iconst X dX9_refusedNow_34 ?_
      refine z_goto (tgt := 39) X dX9_refusedNow_35 (by decide) ?_
      refine z_istore_n (i := 2) (lv' := [(2, zI 1), (1, zI 0), (0, .ref (a 0))]) X hl rfl (by decide) dX9_refusedNow_39 rfl (fun ls hl => ?_)
      refine z_iload_n X hl 1 rfl rfl dX9_refusedNow_40 ?_
      refine z_if_eq (tgt := 48) X (by decide) dX9_refusedNow_41 (by decide) (fun _ => ?_) (fun c24 => absurd c24 (by decide))
      refine z_iconst X dX9_refusedNow_48 ?_
      refine z_istore_n (i := 3) (lv' := [(3, zI 0), (2, zI 1), (1, zI 0), (0, .ref (a 0))]) X hl rfl (by decide) dX9_refusedNow_49 rfl (fun ls hl => ?_)
      refine z_iload_n X hl 0 rfl rfl dX9_refusedNow_50 ?_
      refine z_iload_n X hl 1 rfl rfl dX9_refusedNow_51 ?_
      refine z_if_eq (tgt := 59) X (by decide) dX9_refusedNow_52 (by decide) (fun c25 => absurd c25 (by decide)) (fun _ => ?_)
      refine z_iconst X dX9_refusedNow_55 ?_
      refine z_goto (tgt := 60) X dX9_refusedNow_56 (by decide) ?_
      refine z_iadd X dX9_refusedNow_60 ?_
      refine z_istore_n (i := 3) (lv' := [(3, zI (0 + 2)), (2, zI 1), (1, zI 0), (0, .ref (a 0))]) X hl rfl (by decide) dX9_refusedNow_61 rfl (fun ls hl => ?_)
      refine z_iload_n X hl 0 rfl rfl dX9_refusedNow_62 ?_
      refine z_aload_n X hl 3 rfl rfl dX9_refusedNow_63 ?_
      refine gC_X9_editor X K h q_306 dX9_refusedNow_64 ?_
      refine gC_X1_lines X K h q_241 dX9_refusedNow_67 ?_
      refine r_callVi (rest := [zI (0 + 2)]) X K g h (ct_X3_length u0 _ hw) lk_X9_122 3 rfl rfl ⟨rfl, rfl⟩ ⟨Nat.le_of_ble_eq_true rfl, Nat.le_of_ble_eq_true rfl⟩ rfl (lv_size hl) rfl (Nat.le_of_ble_eq_true rfl) dX9_refusedNow_70 ⟨Nat.le_of_ble_eq_true rfl, Nat.le_of_ble_eq_true rfl⟩ (fun z26 w' H locs hp h => ?_)
      obtain ⟨rfl, hw⟩ := hp
      refine z_bipush (v := 100) X dX9_refusedNow_73 (by decide) ?_
      obtain ⟨h27, hw⟩ := hw
      refine z_icmp_lt (tgt := 82) X h27 (by decide) dX9_refusedNow_75 (by decide) (fun c28 => ?_) (fun c28 => ?_)
      · replace hw := hw.1 c28
        refine z_iconst X dX9_refusedNow_82 ?_
        refine z_iadd X dX9_refusedNow_83 ?_
        refine z_istore_n (i := 3) (lv' := [(3, zI ((0 + 2) + 0)), (2, zI 1), (1, zI 0), (0, .ref (a 0))]) X hl rfl (by decide) dX9_refusedNow_84 rfl (fun ls hl => ?_)
        refine z_iload_n X hl 0 rfl rfl dX9_refusedNow_85 ?_
        refine z_aload_n X hl 3 rfl rfl dX9_refusedNow_86 ?_
        refine gC_X9_editor X K h q_306 dX9_refusedNow_87 ?_
        refine gC_X1_side (x := sI u0 5) X K h rfl q_249 dX9_refusedNow_90 ?_
        obtain ⟨h29, hw⟩ := hw
        refine z_if_ne (tgt := 101) X h29 dX9_refusedNow_93 (by decide) (fun c30 => ?_) (fun c30 => ?_)
        · replace hw := hw.1 c30
          refine z_iconst X dX9_refusedNow_101 ?_
          refine z_iadd X dX9_refusedNow_102 ?_
          refine z_istore_n (i := 3) (lv' := [(3, zI (((0 + 2) + 0) + 0)), (2, zI 1), (1, zI 0), (0, .ref (a 0))]) X hl rfl (by decide) dX9_refusedNow_103 rfl (fun ls hl => ?_)
          refine z_iload_n X hl 0 rfl rfl dX9_refusedNow_104 ?_
          refine z_iload_n X hl 2 rfl rfl dX9_refusedNow_105 ?_
          refine z_if_ne (tgt := 113) X (by decide) dX9_refusedNow_106 (by decide) (fun c31 => absurd c31 (by decide)) (fun _ => ?_)
          refine z_iload_n X hl 1 rfl rfl dX9_refusedNow_109 ?_
          refine z_if_eq (tgt := 118) X (by decide) dX9_refusedNow_110 (by decide) (fun c32 => absurd c32 (by decide)) (fun _ => ?_)
          refine z_bipush (v := 16) X dX9_refusedNow_113 (by decide) ?_
          refine z_goto (tgt := 119) X dX9_refusedNow_115 (by decide) ?_
          refine z_iadd X dX9_refusedNow_119 ?_
          refine z_istore_n (i := 3) (lv' := [(3, zI ((((0 + 2) + 0) + 0) + 16)), (2, zI 1), (1, zI 0), (0, .ref (a 0))]) X hl rfl (by decide) dX9_refusedNow_120 rfl (fun ls hl => ?_)
          refine z_iload_n X hl 0 rfl rfl dX9_refusedNow_121 ?_
          exact r_iret X hr hlk K h (Nat.le_refl _) (Nat.le_refl _) dX9_refusedNow_122 ⟨rfl, hw⟩
        · replace hw := hw.2 c30
          refine z_bipush (v := 8) X dX9_refusedNow_96 (by decide) ?_
          refine z_goto (tgt := 102) X dX9_refusedNow_98 (by decide) ?_
          refine z_iadd X dX9_refusedNow_102 ?_
          refine z_istore_n (i := 3) (lv' := [(3, zI (((0 + 2) + 0) + 8)), (2, zI 1), (1, zI 0), (0, .ref (a 0))]) X hl rfl (by decide) dX9_refusedNow_103 rfl (fun ls hl => ?_)
          refine z_iload_n X hl 0 rfl rfl dX9_refusedNow_104 ?_
          refine z_iload_n X hl 2 rfl rfl dX9_refusedNow_105 ?_
          refine z_if_ne (tgt := 113) X (by decide) dX9_refusedNow_106 (by decide) (fun c33 => absurd c33 (by decide)) (fun _ => ?_)
          refine z_iload_n X hl 1 rfl rfl dX9_refusedNow_109 ?_
          refine z_if_eq (tgt := 118) X (by decide) dX9_refusedNow_110 (by decide) (fun c34 => absurd c34 (by decide)) (fun _ => ?_)
          refine z_bipush (v := 16) X dX9_refusedNow_113 (by decide) ?_
          refine z_goto (tgt := 119) X dX9_refusedNow_115 (by decide) ?_
          refine z_iadd X dX9_refusedNow_119 ?_
          refine z_istore_n (i := 3) (lv' := [(3, zI ((((0 + 2) + 0) + 8) + 16)), (2, zI 1), (1, zI 0), (0, .ref (a 0))]) X hl rfl (by decide) dX9_refusedNow_120 rfl (fun ls hl => ?_)
          refine z_iload_n X hl 0 rfl rfl dX9_refusedNow_121 ?_
          exact r_iret X hr hlk K h (Nat.le_refl _) (Nat.le_refl _) dX9_refusedNow_122 ⟨rfl, hw⟩
      · replace hw := hw.2 c28
        refine z_iconst X dX9_refusedNow_78 ?_
        refine z_goto (tgt := 83) X dX9_refusedNow_79 (by decide) ?_
        refine z_iadd X dX9_refusedNow_83 ?_
        refine z_istore_n (i := 3) (lv' := [(3, zI ((0 + 2) + 4)), (2, zI 1), (1, zI 0), (0, .ref (a 0))]) X hl rfl (by decide) dX9_refusedNow_84 rfl (fun ls hl => ?_)
        refine z_iload_n X hl 0 rfl rfl dX9_refusedNow_85 ?_
        refine z_aload_n X hl 3 rfl rfl dX9_refusedNow_86 ?_
        refine gC_X9_editor X K h q_306 dX9_refusedNow_87 ?_
        refine gC_X1_side (x := sI u0 5) X K h rfl q_249 dX9_refusedNow_90 ?_
        obtain ⟨h35, hw⟩ := hw
        refine z_if_ne (tgt := 101) X h35 dX9_refusedNow_93 (by decide) (fun c36 => ?_) (fun c36 => ?_)
        · replace hw := hw.1 c36
          refine z_iconst X dX9_refusedNow_101 ?_
          refine z_iadd X dX9_refusedNow_102 ?_
          refine z_istore_n (i := 3) (lv' := [(3, zI (((0 + 2) + 4) + 0)), (2, zI 1), (1, zI 0), (0, .ref (a 0))]) X hl rfl (by decide) dX9_refusedNow_103 rfl (fun ls hl => ?_)
          refine z_iload_n X hl 0 rfl rfl dX9_refusedNow_104 ?_
          refine z_iload_n X hl 2 rfl rfl dX9_refusedNow_105 ?_
          refine z_if_ne (tgt := 113) X (by decide) dX9_refusedNow_106 (by decide) (fun c37 => absurd c37 (by decide)) (fun _ => ?_)
          refine z_iload_n X hl 1 rfl rfl dX9_refusedNow_109 ?_
          refine z_if_eq (tgt := 118) X (by decide) dX9_refusedNow_110 (by decide) (fun c38 => absurd c38 (by decide)) (fun _ => ?_)
          refine z_bipush (v := 16) X dX9_refusedNow_113 (by decide) ?_
          refine z_goto (tgt := 119) X dX9_refusedNow_115 (by decide) ?_
          refine z_iadd X dX9_refusedNow_119 ?_
          refine z_istore_n (i := 3) (lv' := [(3, zI ((((0 + 2) + 4) + 0) + 16)), (2, zI 1), (1, zI 0), (0, .ref (a 0))]) X hl rfl (by decide) dX9_refusedNow_120 rfl (fun ls hl => ?_)
          refine z_iload_n X hl 0 rfl rfl dX9_refusedNow_121 ?_
          exact r_iret X hr hlk K h (Nat.le_refl _) (Nat.le_refl _) dX9_refusedNow_122 ⟨rfl, hw⟩
        · replace hw := hw.2 c36
          refine z_bipush (v := 8) X dX9_refusedNow_96 (by decide) ?_
          refine z_goto (tgt := 102) X dX9_refusedNow_98 (by decide) ?_
          refine z_iadd X dX9_refusedNow_102 ?_
          refine z_istore_n (i := 3) (lv' := [(3, zI (((0 + 2) + 4) + 8)), (2, zI 1), (1, zI 0), (0, .ref (a 0))]) X hl rfl (by decide) dX9_refusedNow_103 rfl (fun ls hl => ?_)
          refine z_iload_n X hl 0 rfl rfl dX9_refusedNow_104 ?_
          refine z_iload_n X hl 2 rfl rfl dX9_refusedNow_105 ?_
          refine z_if_ne (tgt := 113) X (by decide) dX9_refusedNow_106 (by decide) (fun c39 => absurd c39 (by decide)) (fun _ => ?_)
          refine z_iload_n X hl 1 rfl rfl dX9_refusedNow_109 ?_
          refine z_if_eq (tgt := 118) X (by decide) dX9_refusedNow_110 (by decide) (fun c40 => absurd c40 (by decide)) (fun _ => ?_)
          refine z_bipush (v := 16) X dX9_refusedNow_113 (by decide) ?_
          refine z_goto (tgt := 119) X dX9_refusedNow_115 (by decide) ?_
          refine z_iadd X dX9_refusedNow_119 ?_
          refine z_istore_n (i := 3) (lv' := [(3, zI ((((0 + 2) + 4) + 8) + 16)), (2, zI 1), (1, zI 0), (0, .ref (a 0))]) X hl rfl (by decide) dX9_refusedNow_120 rfl (fun ls hl => ?_)
          refine z_iload_n X hl 0 rfl rfl dX9_refusedNow_121 ?_
          exact r_iret X hr hlk K h (Nat.le_refl _) (Nat.le_refl _) dX9_refusedNow_122 ⟨rfl, hw⟩
  · replace hw := hw.2 c3
    refine z_iconst X dX9_refusedNow_14 ?_
    refine z_goto (tgt := 19) X dX9_refusedNow_15 (by decide) ?_
    refine z_istore_n (i := 1) (lv' := [(1, zI 1), (0, .ref (a 0))]) X hl rfl (by decide) dX9_refusedNow_19 rfl (fun ls hl => ?_)
    refine z_aload_n X hl 1 rfl rfl dX9_refusedNow_20 ?_
    refine gC_X9_editor X K h q_306 dX9_refusedNow_21 ?_
    refine gC_X1_lines X K h q_241 dX9_refusedNow_24 ?_
    refine z_iconst X dX9_refusedNow_27 ?_
    refine r_callVi (rest := []) X K g h (ct_X3_has u0 1 _ hw) lk_X9_140 3 rfl rfl ⟨rfl, rfl⟩ ⟨Nat.le_of_ble_eq_true rfl, Nat.le_of_ble_eq_true rfl⟩ rfl (lv_size hl) rfl (Nat.le_of_ble_eq_true rfl) dX9_refusedNow_28 ⟨Nat.le_of_ble_eq_true rfl, Nat.le_of_ble_eq_true rfl⟩ (fun z41 w' H locs hp h => ?_)
    obtain ⟨rfl, hw⟩ := hp
    obtain ⟨h42, hw⟩ := hw
    refine z_if_ne (tgt := 38) X h42 dX9_refusedNow_31 (by decide) (fun c43 => ?_) (fun c43 => ?_)
    · replace hw := hw.1 c43
      refine z_iconst X dX9_refusedNow_38 ?_
      refine z_istore_n (i := 2) (lv' := [(2, zI 0), (1, zI 1), (0, .ref (a 0))]) X hl rfl (by decide) dX9_refusedNow_39 rfl (fun ls hl => ?_)
      refine z_iload_n X hl 1 rfl rfl dX9_refusedNow_40 ?_
      refine z_if_eq (tgt := 48) X (by decide) dX9_refusedNow_41 (by decide) (fun c44 => absurd c44 (by decide)) (fun _ => ?_)
      refine z_iconst X dX9_refusedNow_44 ?_
      refine z_goto (tgt := 49) X dX9_refusedNow_45 (by decide) ?_
      refine z_istore_n (i := 3) (lv' := [(3, zI 1), (2, zI 0), (1, zI 1), (0, .ref (a 0))]) X hl rfl (by decide) dX9_refusedNow_49 rfl (fun ls hl => ?_)
      refine z_iload_n X hl 0 rfl rfl dX9_refusedNow_50 ?_
      refine z_iload_n X hl 1 rfl rfl dX9_refusedNow_51 ?_
      refine z_if_eq (tgt := 59) X (by decide) dX9_refusedNow_52 (by decide) (fun _ => ?_) (fun c45 => absurd c45 (by decide))
      refine z_iconst X dX9_refusedNow_59 ?_
      refine z_iadd X dX9_refusedNow_60 ?_
      refine z_istore_n (i := 3) (lv' := [(3, zI (1 + 0)), (2, zI 0), (1, zI 1), (0, .ref (a 0))]) X hl rfl (by decide) dX9_refusedNow_61 rfl (fun ls hl => ?_)
      refine z_iload_n X hl 0 rfl rfl dX9_refusedNow_62 ?_
      refine z_aload_n X hl 3 rfl rfl dX9_refusedNow_63 ?_
      refine gC_X9_editor X K h q_306 dX9_refusedNow_64 ?_
      refine gC_X1_lines X K h q_241 dX9_refusedNow_67 ?_
      refine r_callVi (rest := [zI (1 + 0)]) X K g h (ct_X3_length u0 _ hw) lk_X9_122 3 rfl rfl ⟨rfl, rfl⟩ ⟨Nat.le_of_ble_eq_true rfl, Nat.le_of_ble_eq_true rfl⟩ rfl (lv_size hl) rfl (Nat.le_of_ble_eq_true rfl) dX9_refusedNow_70 ⟨Nat.le_of_ble_eq_true rfl, Nat.le_of_ble_eq_true rfl⟩ (fun z46 w' H locs hp h => ?_)
      obtain ⟨rfl, hw⟩ := hp
      refine z_bipush (v := 100) X dX9_refusedNow_73 (by decide) ?_
      obtain ⟨h47, hw⟩ := hw
      refine z_icmp_lt (tgt := 82) X h47 (by decide) dX9_refusedNow_75 (by decide) (fun c48 => ?_) (fun c48 => ?_)
      · replace hw := hw.1 c48
        refine z_iconst X dX9_refusedNow_82 ?_
        refine z_iadd X dX9_refusedNow_83 ?_
        refine z_istore_n (i := 3) (lv' := [(3, zI ((1 + 0) + 0)), (2, zI 0), (1, zI 1), (0, .ref (a 0))]) X hl rfl (by decide) dX9_refusedNow_84 rfl (fun ls hl => ?_)
        refine z_iload_n X hl 0 rfl rfl dX9_refusedNow_85 ?_
        refine z_aload_n X hl 3 rfl rfl dX9_refusedNow_86 ?_
        refine gC_X9_editor X K h q_306 dX9_refusedNow_87 ?_
        refine gC_X1_side (x := sI u0 5) X K h rfl q_249 dX9_refusedNow_90 ?_
        obtain ⟨h49, hw⟩ := hw
        refine z_if_ne (tgt := 101) X h49 dX9_refusedNow_93 (by decide) (fun c50 => ?_) (fun c50 => ?_)
        · replace hw := hw.1 c50
          refine z_iconst X dX9_refusedNow_101 ?_
          refine z_iadd X dX9_refusedNow_102 ?_
          refine z_istore_n (i := 3) (lv' := [(3, zI (((1 + 0) + 0) + 0)), (2, zI 0), (1, zI 1), (0, .ref (a 0))]) X hl rfl (by decide) dX9_refusedNow_103 rfl (fun ls hl => ?_)
          refine z_iload_n X hl 0 rfl rfl dX9_refusedNow_104 ?_
          refine z_iload_n X hl 2 rfl rfl dX9_refusedNow_105 ?_
          refine z_if_ne (tgt := 113) X (by decide) dX9_refusedNow_106 (by decide) (fun _ => ?_) (fun c51 => absurd c51 (by decide))
          refine z_bipush (v := 16) X dX9_refusedNow_113 (by decide) ?_
          refine z_goto (tgt := 119) X dX9_refusedNow_115 (by decide) ?_
          refine z_iadd X dX9_refusedNow_119 ?_
          refine z_istore_n (i := 3) (lv' := [(3, zI ((((1 + 0) + 0) + 0) + 16)), (2, zI 0), (1, zI 1), (0, .ref (a 0))]) X hl rfl (by decide) dX9_refusedNow_120 rfl (fun ls hl => ?_)
          refine z_iload_n X hl 0 rfl rfl dX9_refusedNow_121 ?_
          exact r_iret X hr hlk K h (Nat.le_refl _) (Nat.le_refl _) dX9_refusedNow_122 ⟨rfl, hw⟩
        · replace hw := hw.2 c50
          refine z_bipush (v := 8) X dX9_refusedNow_96 (by decide) ?_
          refine z_goto (tgt := 102) X dX9_refusedNow_98 (by decide) ?_
          refine z_iadd X dX9_refusedNow_102 ?_
          refine z_istore_n (i := 3) (lv' := [(3, zI (((1 + 0) + 0) + 8)), (2, zI 0), (1, zI 1), (0, .ref (a 0))]) X hl rfl (by decide) dX9_refusedNow_103 rfl (fun ls hl => ?_)
          refine z_iload_n X hl 0 rfl rfl dX9_refusedNow_104 ?_
          refine z_iload_n X hl 2 rfl rfl dX9_refusedNow_105 ?_
          refine z_if_ne (tgt := 113) X (by decide) dX9_refusedNow_106 (by decide) (fun _ => ?_) (fun c52 => absurd c52 (by decide))
          refine z_bipush (v := 16) X dX9_refusedNow_113 (by decide) ?_
          refine z_goto (tgt := 119) X dX9_refusedNow_115 (by decide) ?_
          refine z_iadd X dX9_refusedNow_119 ?_
          refine z_istore_n (i := 3) (lv' := [(3, zI ((((1 + 0) + 0) + 8) + 16)), (2, zI 0), (1, zI 1), (0, .ref (a 0))]) X hl rfl (by decide) dX9_refusedNow_120 rfl (fun ls hl => ?_)
          refine z_iload_n X hl 0 rfl rfl dX9_refusedNow_121 ?_
          exact r_iret X hr hlk K h (Nat.le_refl _) (Nat.le_refl _) dX9_refusedNow_122 ⟨rfl, hw⟩
      · replace hw := hw.2 c48
        refine z_iconst X dX9_refusedNow_78 ?_
        refine z_goto (tgt := 83) X dX9_refusedNow_79 (by decide) ?_
        refine z_iadd X dX9_refusedNow_83 ?_
        refine z_istore_n (i := 3) (lv' := [(3, zI ((1 + 0) + 4)), (2, zI 0), (1, zI 1), (0, .ref (a 0))]) X hl rfl (by decide) dX9_refusedNow_84 rfl (fun ls hl => ?_)
        refine z_iload_n X hl 0 rfl rfl dX9_refusedNow_85 ?_
        refine z_aload_n X hl 3 rfl rfl dX9_refusedNow_86 ?_
        refine gC_X9_editor X K h q_306 dX9_refusedNow_87 ?_
        refine gC_X1_side (x := sI u0 5) X K h rfl q_249 dX9_refusedNow_90 ?_
        obtain ⟨h53, hw⟩ := hw
        refine z_if_ne (tgt := 101) X h53 dX9_refusedNow_93 (by decide) (fun c54 => ?_) (fun c54 => ?_)
        · replace hw := hw.1 c54
          refine z_iconst X dX9_refusedNow_101 ?_
          refine z_iadd X dX9_refusedNow_102 ?_
          refine z_istore_n (i := 3) (lv' := [(3, zI (((1 + 0) + 4) + 0)), (2, zI 0), (1, zI 1), (0, .ref (a 0))]) X hl rfl (by decide) dX9_refusedNow_103 rfl (fun ls hl => ?_)
          refine z_iload_n X hl 0 rfl rfl dX9_refusedNow_104 ?_
          refine z_iload_n X hl 2 rfl rfl dX9_refusedNow_105 ?_
          refine z_if_ne (tgt := 113) X (by decide) dX9_refusedNow_106 (by decide) (fun _ => ?_) (fun c55 => absurd c55 (by decide))
          refine z_bipush (v := 16) X dX9_refusedNow_113 (by decide) ?_
          refine z_goto (tgt := 119) X dX9_refusedNow_115 (by decide) ?_
          refine z_iadd X dX9_refusedNow_119 ?_
          refine z_istore_n (i := 3) (lv' := [(3, zI ((((1 + 0) + 4) + 0) + 16)), (2, zI 0), (1, zI 1), (0, .ref (a 0))]) X hl rfl (by decide) dX9_refusedNow_120 rfl (fun ls hl => ?_)
          refine z_iload_n X hl 0 rfl rfl dX9_refusedNow_121 ?_
          exact r_iret X hr hlk K h (Nat.le_refl _) (Nat.le_refl _) dX9_refusedNow_122 ⟨rfl, hw⟩
        · replace hw := hw.2 c54
          refine z_bipush (v := 8) X dX9_refusedNow_96 (by decide) ?_
          refine z_goto (tgt := 102) X dX9_refusedNow_98 (by decide) ?_
          refine z_iadd X dX9_refusedNow_102 ?_
          refine z_istore_n (i := 3) (lv' := [(3, zI (((1 + 0) + 4) + 8)), (2, zI 0), (1, zI 1), (0, .ref (a 0))]) X hl rfl (by decide) dX9_refusedNow_103 rfl (fun ls hl => ?_)
          refine z_iload_n X hl 0 rfl rfl dX9_refusedNow_104 ?_
          refine z_iload_n X hl 2 rfl rfl dX9_refusedNow_105 ?_
          refine z_if_ne (tgt := 113) X (by decide) dX9_refusedNow_106 (by decide) (fun _ => ?_) (fun c56 => absurd c56 (by decide))
          refine z_bipush (v := 16) X dX9_refusedNow_113 (by decide) ?_
          refine z_goto (tgt := 119) X dX9_refusedNow_115 (by decide) ?_
          refine z_iadd X dX9_refusedNow_119 ?_
          refine z_istore_n (i := 3) (lv' := [(3, zI ((((1 + 0) + 4) + 8) + 16)), (2, zI 0), (1, zI 1), (0, .ref (a 0))]) X hl rfl (by decide) dX9_refusedNow_120 rfl (fun ls hl => ?_)
          refine z_iload_n X hl 0 rfl rfl dX9_refusedNow_121 ?_
          exact r_iret X hr hlk K h (Nat.le_refl _) (Nat.le_refl _) dX9_refusedNow_122 ⟨rfl, hw⟩
    · replace hw := hw.2 c43
      refine z_iconst X dX9_refusedNow_34 ?_
      refine z_goto (tgt := 39) X dX9_refusedNow_35 (by decide) ?_
      refine z_istore_n (i := 2) (lv' := [(2, zI 1), (1, zI 1), (0, .ref (a 0))]) X hl rfl (by decide) dX9_refusedNow_39 rfl (fun ls hl => ?_)
      refine z_iload_n X hl 1 rfl rfl dX9_refusedNow_40 ?_
      refine z_if_eq (tgt := 48) X (by decide) dX9_refusedNow_41 (by decide) (fun c57 => absurd c57 (by decide)) (fun _ => ?_)
      refine z_iconst X dX9_refusedNow_44 ?_
      refine z_goto (tgt := 49) X dX9_refusedNow_45 (by decide) ?_
      refine z_istore_n (i := 3) (lv' := [(3, zI 1), (2, zI 1), (1, zI 1), (0, .ref (a 0))]) X hl rfl (by decide) dX9_refusedNow_49 rfl (fun ls hl => ?_)
      refine z_iload_n X hl 0 rfl rfl dX9_refusedNow_50 ?_
      refine z_iload_n X hl 1 rfl rfl dX9_refusedNow_51 ?_
      refine z_if_eq (tgt := 59) X (by decide) dX9_refusedNow_52 (by decide) (fun c58 => absurd c58 (by decide)) (fun _ => ?_)
      refine z_iconst X dX9_refusedNow_55 ?_
      refine z_goto (tgt := 60) X dX9_refusedNow_56 (by decide) ?_
      refine z_iadd X dX9_refusedNow_60 ?_
      refine z_istore_n (i := 3) (lv' := [(3, zI (1 + 2)), (2, zI 1), (1, zI 1), (0, .ref (a 0))]) X hl rfl (by decide) dX9_refusedNow_61 rfl (fun ls hl => ?_)
      refine z_iload_n X hl 0 rfl rfl dX9_refusedNow_62 ?_
      refine z_aload_n X hl 3 rfl rfl dX9_refusedNow_63 ?_
      refine gC_X9_editor X K h q_306 dX9_refusedNow_64 ?_
      refine gC_X1_lines X K h q_241 dX9_refusedNow_67 ?_
      refine r_callVi (rest := [zI (1 + 2)]) X K g h (ct_X3_length u0 _ hw) lk_X9_122 3 rfl rfl ⟨rfl, rfl⟩ ⟨Nat.le_of_ble_eq_true rfl, Nat.le_of_ble_eq_true rfl⟩ rfl (lv_size hl) rfl (Nat.le_of_ble_eq_true rfl) dX9_refusedNow_70 ⟨Nat.le_of_ble_eq_true rfl, Nat.le_of_ble_eq_true rfl⟩ (fun z59 w' H locs hp h => ?_)
      obtain ⟨rfl, hw⟩ := hp
      refine z_bipush (v := 100) X dX9_refusedNow_73 (by decide) ?_
      obtain ⟨h60, hw⟩ := hw
      refine z_icmp_lt (tgt := 82) X h60 (by decide) dX9_refusedNow_75 (by decide) (fun c61 => ?_) (fun c61 => ?_)
      · replace hw := hw.1 c61
        refine z_iconst X dX9_refusedNow_82 ?_
        refine z_iadd X dX9_refusedNow_83 ?_
        refine z_istore_n (i := 3) (lv' := [(3, zI ((1 + 2) + 0)), (2, zI 1), (1, zI 1), (0, .ref (a 0))]) X hl rfl (by decide) dX9_refusedNow_84 rfl (fun ls hl => ?_)
        refine z_iload_n X hl 0 rfl rfl dX9_refusedNow_85 ?_
        refine z_aload_n X hl 3 rfl rfl dX9_refusedNow_86 ?_
        refine gC_X9_editor X K h q_306 dX9_refusedNow_87 ?_
        refine gC_X1_side (x := sI u0 5) X K h rfl q_249 dX9_refusedNow_90 ?_
        obtain ⟨h62, hw⟩ := hw
        refine z_if_ne (tgt := 101) X h62 dX9_refusedNow_93 (by decide) (fun c63 => ?_) (fun c63 => ?_)
        · replace hw := hw.1 c63
          refine z_iconst X dX9_refusedNow_101 ?_
          refine z_iadd X dX9_refusedNow_102 ?_
          refine z_istore_n (i := 3) (lv' := [(3, zI (((1 + 2) + 0) + 0)), (2, zI 1), (1, zI 1), (0, .ref (a 0))]) X hl rfl (by decide) dX9_refusedNow_103 rfl (fun ls hl => ?_)
          refine z_iload_n X hl 0 rfl rfl dX9_refusedNow_104 ?_
          refine z_iload_n X hl 2 rfl rfl dX9_refusedNow_105 ?_
          refine z_if_ne (tgt := 113) X (by decide) dX9_refusedNow_106 (by decide) (fun _ => ?_) (fun c64 => absurd c64 (by decide))
          refine z_bipush (v := 16) X dX9_refusedNow_113 (by decide) ?_
          refine z_goto (tgt := 119) X dX9_refusedNow_115 (by decide) ?_
          refine z_iadd X dX9_refusedNow_119 ?_
          refine z_istore_n (i := 3) (lv' := [(3, zI ((((1 + 2) + 0) + 0) + 16)), (2, zI 1), (1, zI 1), (0, .ref (a 0))]) X hl rfl (by decide) dX9_refusedNow_120 rfl (fun ls hl => ?_)
          refine z_iload_n X hl 0 rfl rfl dX9_refusedNow_121 ?_
          exact r_iret X hr hlk K h (Nat.le_refl _) (Nat.le_refl _) dX9_refusedNow_122 ⟨rfl, hw⟩
        · replace hw := hw.2 c63
          refine z_bipush (v := 8) X dX9_refusedNow_96 (by decide) ?_
          refine z_goto (tgt := 102) X dX9_refusedNow_98 (by decide) ?_
          refine z_iadd X dX9_refusedNow_102 ?_
          refine z_istore_n (i := 3) (lv' := [(3, zI (((1 + 2) + 0) + 8)), (2, zI 1), (1, zI 1), (0, .ref (a 0))]) X hl rfl (by decide) dX9_refusedNow_103 rfl (fun ls hl => ?_)
          refine z_iload_n X hl 0 rfl rfl dX9_refusedNow_104 ?_
          refine z_iload_n X hl 2 rfl rfl dX9_refusedNow_105 ?_
          refine z_if_ne (tgt := 113) X (by decide) dX9_refusedNow_106 (by decide) (fun _ => ?_) (fun c65 => absurd c65 (by decide))
          refine z_bipush (v := 16) X dX9_refusedNow_113 (by decide) ?_
          refine z_goto (tgt := 119) X dX9_refusedNow_115 (by decide) ?_
          refine z_iadd X dX9_refusedNow_119 ?_
          refine z_istore_n (i := 3) (lv' := [(3, zI ((((1 + 2) + 0) + 8) + 16)), (2, zI 1), (1, zI 1), (0, .ref (a 0))]) X hl rfl (by decide) dX9_refusedNow_120 rfl (fun ls hl => ?_)
          refine z_iload_n X hl 0 rfl rfl dX9_refusedNow_121 ?_
          exact r_iret X hr hlk K h (Nat.le_refl _) (Nat.le_refl _) dX9_refusedNow_122 ⟨rfl, hw⟩
      · replace hw := hw.2 c61
        refine z_iconst X dX9_refusedNow_78 ?_
        refine z_goto (tgt := 83) X dX9_refusedNow_79 (by decide) ?_
        refine z_iadd X dX9_refusedNow_83 ?_
        refine z_istore_n (i := 3) (lv' := [(3, zI ((1 + 2) + 4)), (2, zI 1), (1, zI 1), (0, .ref (a 0))]) X hl rfl (by decide) dX9_refusedNow_84 rfl (fun ls hl => ?_)
        refine z_iload_n X hl 0 rfl rfl dX9_refusedNow_85 ?_
        refine z_aload_n X hl 3 rfl rfl dX9_refusedNow_86 ?_
        refine gC_X9_editor X K h q_306 dX9_refusedNow_87 ?_
        refine gC_X1_side (x := sI u0 5) X K h rfl q_249 dX9_refusedNow_90 ?_
        obtain ⟨h66, hw⟩ := hw
        refine z_if_ne (tgt := 101) X h66 dX9_refusedNow_93 (by decide) (fun c67 => ?_) (fun c67 => ?_)
        · replace hw := hw.1 c67
          refine z_iconst X dX9_refusedNow_101 ?_
          refine z_iadd X dX9_refusedNow_102 ?_
          refine z_istore_n (i := 3) (lv' := [(3, zI (((1 + 2) + 4) + 0)), (2, zI 1), (1, zI 1), (0, .ref (a 0))]) X hl rfl (by decide) dX9_refusedNow_103 rfl (fun ls hl => ?_)
          refine z_iload_n X hl 0 rfl rfl dX9_refusedNow_104 ?_
          refine z_iload_n X hl 2 rfl rfl dX9_refusedNow_105 ?_
          refine z_if_ne (tgt := 113) X (by decide) dX9_refusedNow_106 (by decide) (fun _ => ?_) (fun c68 => absurd c68 (by decide))
          refine z_bipush (v := 16) X dX9_refusedNow_113 (by decide) ?_
          refine z_goto (tgt := 119) X dX9_refusedNow_115 (by decide) ?_
          refine z_iadd X dX9_refusedNow_119 ?_
          refine z_istore_n (i := 3) (lv' := [(3, zI ((((1 + 2) + 4) + 0) + 16)), (2, zI 1), (1, zI 1), (0, .ref (a 0))]) X hl rfl (by decide) dX9_refusedNow_120 rfl (fun ls hl => ?_)
          refine z_iload_n X hl 0 rfl rfl dX9_refusedNow_121 ?_
          exact r_iret X hr hlk K h (Nat.le_refl _) (Nat.le_refl _) dX9_refusedNow_122 ⟨rfl, hw⟩
        · replace hw := hw.2 c67
          refine z_bipush (v := 8) X dX9_refusedNow_96 (by decide) ?_
          refine z_goto (tgt := 102) X dX9_refusedNow_98 (by decide) ?_
          refine z_iadd X dX9_refusedNow_102 ?_
          refine z_istore_n (i := 3) (lv' := [(3, zI (((1 + 2) + 4) + 8)), (2, zI 1), (1, zI 1), (0, .ref (a 0))]) X hl rfl (by decide) dX9_refusedNow_103 rfl (fun ls hl => ?_)
          refine z_iload_n X hl 0 rfl rfl dX9_refusedNow_104 ?_
          refine z_iload_n X hl 2 rfl rfl dX9_refusedNow_105 ?_
          refine z_if_ne (tgt := 113) X (by decide) dX9_refusedNow_106 (by decide) (fun _ => ?_) (fun c69 => absurd c69 (by decide))
          refine z_bipush (v := 16) X dX9_refusedNow_113 (by decide) ?_
          refine z_goto (tgt := 119) X dX9_refusedNow_115 (by decide) ?_
          refine z_iadd X dX9_refusedNow_119 ?_
          refine z_istore_n (i := 3) (lv' := [(3, zI ((((1 + 2) + 4) + 8) + 16)), (2, zI 1), (1, zI 1), (0, .ref (a 0))]) X hl rfl (by decide) dX9_refusedNow_120 rfl (fun ls hl => ?_)
          refine z_iload_n X hl 0 rfl rfl dX9_refusedNow_121 ?_
          exact r_iret X hr hlk K h (Nat.le_refl _) (Nat.le_refl _) dX9_refusedNow_122 ⟨rfl, hw⟩
def w_X9_size (post : Int → Prop) (u0 : St) : Prop :=
(w_X3_length (fun (z1 : Int) => post z1) u0)
abbrev rm_X9_size : Room := { frames := 2, cells := 0, slots := 0, locals := 40 }
set_option maxRecDepth 100000 in
set_option maxHeartbeats 4000000 in
theorem ct_X9_size {l : Launch} {G : Gr} {a : Nat → Nat} (u0 : St) (post : Int → Prop) (hw : w_X9_size post u0) : Ct l G yX9_size (ws_ yX9_size cX9_size 1 (some .int)) rm_X9_size [.ref (a 0)] (WC G a u0) 0 0 (PoP (WC G a u0) post) := by
  refine Ct.of (by decide) (Nat.le_of_ble_eq_true rfl) ?_
  intro p e s m args below meth c ls X hr hlk K g h hl
  have hl : lv_has ls 1 [(0, .ref (a 0))] := hl
  obtain ⟨H, hH⟩ : ∃ H, H = s.heap := ⟨_, rfl⟩
  obtain ⟨locs, hL⟩ : ∃ L : List Loc, L = [] := ⟨_, rfl⟩
  replace h : HW G (va_A (WC G a u0) s.heap.size) s.heap (WC G a u0) H locs := by rw [hH, hL]; exact h
  suffices hg : W p l e rm_X9_size s m args below meth c H locs 0 0 (EndI G (WC G a u0) (PoP (WC G a u0) post) args s 0 0 below) (F0 m 0 ls []) by rw [hH, hL] at hg; exact hg
  clear hH hL
  refine z_aload_n X hl 0 rfl rfl dX9_size_0 ?_
  refine gC_X9_editor X K h q_306 dX9_size_1 ?_
  refine gC_X1_lines X K h q_241 dX9_size_4 ?_
  refine r_callVi (rest := []) X K g h (ct_X3_length u0 _ hw) lk_X9_122 3 rfl rfl ⟨rfl, rfl⟩ ⟨Nat.le_of_ble_eq_true rfl, Nat.le_of_ble_eq_true rfl⟩ rfl (lv_size hl) rfl (Nat.le_of_ble_eq_true rfl) dX9_size_7 ⟨Nat.le_of_ble_eq_true rfl, Nat.le_of_ble_eq_true rfl⟩ (fun z1 w' H locs hp h => ?_)
  obtain ⟨rfl, hw⟩ := hp
  exact r_iret X hr hlk K h (Nat.le_refl _) (Nat.le_refl _) dX9_size_10 ⟨rfl, hw⟩
def w_X9_wordAt (post : Int → Prop) (px : Prop) (mc ms : Nat) (u0 : St) (p1 : Int) : Prop :=
(InR p1) ∧ ((p1 < 0 → (0 + 1 ≤ mc) ∧ (0 + 6 ≤ ms) ∧ px) ∧
 (¬ p1 < 0 → (w_X3_length (fun (z5 : Int) => (InR z5) ∧ ((p1 < z5 → (w_X3_wordOf (fun (z8 : Int) => post z8) u0 p1)) ∧
 (¬ p1 < z5 → (0 + 1 ≤ mc) ∧ (0 + 6 ≤ ms) ∧ px))) u0)))
abbrev rm_X9_wordAt (mc ms : Nat) : Room := { frames := 6, cells := mc, slots := ms, locals := 90 }
set_option maxRecDepth 100000 in
set_option maxHeartbeats 4000000 in
theorem ct_X9_wordAt {l : Launch} {G : Gr} {a : Nat → Nat} (hst : l.stackTraces = false) (mc ms : Nat) (u0 : St) (p1 : Int) (post : Int → Prop) (px : Prop) (hw : w_X9_wordAt post px mc ms u0 p1) : CtX l G yX9_wordAt (ws_ yX9_wordAt cX9_wordAt 2 (some .int)) (rm_X9_wordAt mc ms) [.ref (a 0), zI p1] (WC G a u0) mc ms (PoP (WC G a u0) post) "java/lang/IndexOutOfBoundsException" (PoQ (WC G a u0) px) := by
  refine CtX.of (by decide) (Nat.le_of_ble_eq_true rfl) ?_
  intro p e s m args below meth c ls hne X hr hlk K g h hl
  have hl : lv_has ls 2 [(0, .ref (a 0)), (1, zI p1)] := hl
  obtain ⟨H, hH⟩ : ∃ H, H = s.heap := ⟨_, rfl⟩
  obtain ⟨locs, hL⟩ : ∃ L : List Loc, L = [] := ⟨_, rfl⟩
  replace h : HW G (va_A (WC G a u0) s.heap.size) s.heap (WC G a u0) H locs := by rw [hH, hL]; exact h
  suffices hg : W p l e (rm_X9_wordAt mc ms) s m args below meth c H locs 0 0 (EndX G (WC G a u0) (PoP (WC G a u0) post) "java/lang/IndexOutOfBoundsException" (PoQ (WC G a u0) px) args s mc ms below) (F0 m 0 ls []) by rw [hH, hL] at hg; exact hg
  clear hH hL
  refine z_iload_n X hl 1 rfl rfl dX9_wordAt_0 ?_
  obtain ⟨h1, hw⟩ := hw
  refine z_if_lt (tgt := 18) X h1 dX9_wordAt_1 (by decide) (fun c2 => ?_) (fun c2 => ?_)
  · replace hw := hw.1 c2
    obtain ⟨h3, h4, hw⟩ := hw
    exact r_throw X hst hlk hne K g h tw_IOOBE (lv_size hl) dX9_wordAt_18 dX9_wordAt_21 dX9_wordAt_22 dX9_wordAt_25 ⟨Nat.le_of_ble_eq_true rfl, Nat.le_of_ble_eq_true rfl⟩ ⟨h3, h4⟩ h3 h4 ⟨rfl, hw⟩
  · replace hw := hw.2 c2
    refine z_iload_n X hl 1 rfl rfl dX9_wordAt_4 ?_
    refine z_aload_n X hl 0 rfl rfl dX9_wordAt_5 ?_
    refine gC_X9_editor X K h q_306 dX9_wordAt_6 ?_
    refine gC_X1_lines X K h q_241 dX9_wordAt_9 ?_
    refine r_callVi (rest := [zI p1]) X K g h (ct_X3_length u0 _ hw) lk_X9_122 3 rfl rfl ⟨rfl, rfl⟩ ⟨Nat.le_of_ble_eq_true rfl, Nat.le_of_ble_eq_true rfl⟩ rfl (lv_size hl) rfl (Nat.le_of_ble_eq_true rfl) dX9_wordAt_12 ⟨(Nat.zero_le _), (Nat.zero_le _)⟩ (fun z5 w' H locs hp h => ?_)
    obtain ⟨rfl, hw⟩ := hp
    obtain ⟨h6, hw⟩ := hw
    refine z_icmp_lt (tgt := 26) X h1 h6 dX9_wordAt_15 (by decide) (fun c7 => ?_) (fun c7 => ?_)
    · replace hw := hw.1 c7
      refine z_aload_n X hl 0 rfl rfl dX9_wordAt_26 ?_
      refine gC_X9_editor X K h q_306 dX9_wordAt_27 ?_
      refine gC_X1_lines X K h q_241 dX9_wordAt_30 ?_
      refine z_iload_n X hl 1 rfl rfl dX9_wordAt_33 ?_
      refine r_callVi (rest := []) X K g h (ct_X3_wordOf u0 p1 _ hw) lk_X9_144 3 rfl rfl ⟨rfl, rfl⟩ ⟨Nat.le_of_ble_eq_true rfl, Nat.le_of_ble_eq_true rfl⟩ rfl (lv_size hl) rfl (Nat.le_of_ble_eq_true rfl) dX9_wordAt_34 ⟨(Nat.zero_le _), (Nat.zero_le _)⟩ (fun z8 w' H locs hp h => ?_)
      obtain ⟨rfl, hw⟩ := hp
      exact vx_ret (r_iret X hr hlk K h (Nat.zero_le _) (Nat.zero_le _) dX9_wordAt_37 ⟨rfl, hw⟩)
    · replace hw := hw.2 c7
      obtain ⟨h9, h10, hw⟩ := hw
      exact r_throw X hst hlk hne K g h tw_IOOBE (lv_size hl) dX9_wordAt_18 dX9_wordAt_21 dX9_wordAt_22 dX9_wordAt_25 ⟨Nat.le_of_ble_eq_true rfl, Nat.le_of_ble_eq_true rfl⟩ ⟨h9, h10⟩ h9 h10 ⟨rfl, hw⟩
def b_X9_firstIndex_2 (post : Int → Prop) (u2 : St) (y1_2 : Int) (K2 : Int → Prop) (x2_1 : Int) : Prop :=
(w_X3_length (fun (z3 : Int) => (InR x2_1) ∧ (InR z3) ∧ ((z3 ≤ x2_1 → post (-1)) ∧
 (¬ z3 ≤ x2_1 → (w_X3_wordOf (fun (z7 : Int) => (InR z7) ∧ (InR y1_2) ∧ ((¬ z7 = y1_2 → K2 (x2_1 + 1)) ∧
 (z7 = y1_2 → post x2_1))) u2 x2_1)))) u2)
def B_X9_firstIndex_2 (post : Int → Prop) (u2 : St) (y1_2 : Int) : (Int → Prop) → Int → Prop := fun K t => b_X9_firstIndex_2 post u2 y1_2 K t
def w_X9_firstIndex (post : Int → Prop) (u0 : St) (p1 : Int) : Prop :=
(∃ n : Nat, Lp (B_X9_firstIndex_2 post u0 p1) n 0)
abbrev rm_X9_firstIndex : Room := { frames := 2, cells := 0, slots := 0, locals := 43 }
set_option maxRecDepth 100000 in
set_option maxHeartbeats 4000000 in
theorem ct_X9_firstIndex {l : Launch} {G : Gr} {a : Nat → Nat} (u0 : St) (p1 : Int) (post : Int → Prop) (hw : w_X9_firstIndex post u0 p1) : Ct l G yX9_firstIndex (ws_ yX9_firstIndex cX9_firstIndex 3 (some .int)) rm_X9_firstIndex [.ref (a 0), zI p1] (WC G a u0) 0 0 (PoP (WC G a u0) post) := by
  refine Ct.of (by decide) (Nat.le_of_ble_eq_true rfl) ?_
  intro p e s m args below meth c ls X hr hlk K g h hl
  have hl : lv_has ls 3 [(0, .ref (a 0)), (1, zI p1)] := hl
  obtain ⟨H, hH⟩ : ∃ H, H = s.heap := ⟨_, rfl⟩
  obtain ⟨locs, hL⟩ : ∃ L : List Loc, L = [] := ⟨_, rfl⟩
  replace h : HW G (va_A (WC G a u0) s.heap.size) s.heap (WC G a u0) H locs := by rw [hH, hL]; exact h
  suffices hg : W p l e rm_X9_firstIndex s m args below meth c H locs 0 0 (EndI G (WC G a u0) (PoP (WC G a u0) post) args s 0 0 below) (F0 m 0 ls []) by rw [hH, hL] at hg; exact hg
  clear hH hL
  refine z_iconst X dX9_firstIndex_0 ?_
  refine z_istore_n (i := 2) (lv' := [(2, zI 0), (0, .ref (a 0)), (1, zI p1)]) X hl rfl (by decide) dX9_firstIndex_1 rfl (fun ls hl => ?_)
  obtain ⟨n2, hw⟩ := hw
  have key2 : ∀ (n : Nat) (t : Int) (H : Heap) (locs : List Loc) (ls : Array Slot), Lp (B_X9_firstIndex_2 post u0 p1) n t → HW G (va_A (WC G a u0) s.heap.size) s.heap (WC G a u0) H locs → lv_has ls 3 [(0, .ref (a 0)), (1, zI p1), (2, zI t)] → W p l e rm_X9_firstIndex s m args below meth c H locs 0 0 (EndI G (WC G a u0) (PoP (WC G a u0) post) args s 0 0 below) (F0 m 2 ls []) := by
    intro n
    induction n with
    | zero =>
      intro t H locs ls hw
      exact hw.elim
    | succ n2 ih2 =>
      intro x2_1 H locs ls hw h hl
      replace hw : b_X9_firstIndex_2 post u0 p1 (Lp (B_X9_firstIndex_2 post u0 p1) n2) x2_1 := hw
      refine z_iload_n X hl 2 rfl rfl dX9_firstIndex_2 ?_
      refine z_aload_n X hl 0 rfl rfl dX9_firstIndex_3 ?_
      refine gC_X9_editor X K h q_306 dX9_firstIndex_4 ?_
      refine gC_X1_lines X K h q_241 dX9_firstIndex_7 ?_
      refine r_callVi (rest := [zI x2_1]) X K g h (ct_X3_length u0 _ hw) lk_X9_122 3 rfl rfl ⟨rfl, rfl⟩ ⟨Nat.le_of_ble_eq_true rfl, Nat.le_of_ble_eq_true rfl⟩ rfl (lv_size hl) rfl (Nat.le_of_ble_eq_true rfl) dX9_firstIndex_10 ⟨Nat.le_of_ble_eq_true rfl, Nat.le_of_ble_eq_true rfl⟩ (fun z3 w' H locs hp h => ?_)
      obtain ⟨rfl, hw⟩ := hp
      obtain ⟨h4, h5, hw⟩ := hw
      refine z_icmp_ge (tgt := 39) X h4 h5 dX9_firstIndex_13 (by decide) (fun c6 => ?_) (fun c6 => ?_)
      · replace hw := hw.1 c6
        refine z_iconst X dX9_firstIndex_39 ?_
        exact r_iret X hr hlk K h (Nat.le_refl _) (Nat.le_refl _) dX9_firstIndex_40 ⟨rfl, hw⟩
      · replace hw := hw.2 c6
        refine z_aload_n X hl 0 rfl rfl dX9_firstIndex_16 ?_
        refine gC_X9_editor X K h q_306 dX9_firstIndex_17 ?_
        refine gC_X1_lines X K h q_241 dX9_firstIndex_20 ?_
        refine z_iload_n X hl 2 rfl rfl dX9_firstIndex_23 ?_
        refine r_callVi (rest := []) X K g h (ct_X3_wordOf u0 x2_1 _ hw) lk_X9_144 3 rfl rfl ⟨rfl, rfl⟩ ⟨Nat.le_of_ble_eq_true rfl, Nat.le_of_ble_eq_true rfl⟩ rfl (lv_size hl) rfl (Nat.le_of_ble_eq_true rfl) dX9_firstIndex_24 ⟨Nat.le_of_ble_eq_true rfl, Nat.le_of_ble_eq_true rfl⟩ (fun z7 w' H locs hp h => ?_)
        obtain ⟨rfl, hw⟩ := hp
        refine z_iload_n X hl 1 rfl rfl dX9_firstIndex_27 ?_
        obtain ⟨h8, h9, hw⟩ := hw
        refine z_icmp_ne (tgt := 33) X h8 h9 dX9_firstIndex_28 (by decide) (fun c10 => ?_) (fun c10 => ?_)
        · replace hw := hw.1 c10
          refine z_iinc (lv' := [(2, zI (x2_1 + 1)), (0, .ref (a 0)), (1, zI p1)]) X hl 2 rfl (by decide) dX9_firstIndex_33 rfl (fun ls hl => ?_)
          refine z_goto (tgt := 2) X dX9_firstIndex_36 (by decide) ?_
          exact ih2 (x2_1 + 1) H locs ls hw h (lv_sub hl [1, 2, 0] rfl)
        · replace hw := hw.2 c10
          refine z_iload_n X hl 2 rfl rfl dX9_firstIndex_31 ?_
          exact r_iret X hr hlk K h (Nat.le_refl _) (Nat.le_refl _) dX9_firstIndex_32 ⟨rfl, hw⟩
  exact key2 n2 0 H locs ls hw h (lv_sub hl [1, 2, 0] rfl)
def w_X9_indexOf (post : Int → Prop) (px : Prop) (mc ms : Nat) (u0 : St) (p1 : Int) : Prop :=
(∃ a1 b2 : Nat, (0 + a1 ≤ mc) ∧ (0 + b2 ≤ ms) ∧ w_X9_requireWord ((w_X9_firstIndex (fun (z5 : Int) => post z5) u0 p1)) px a1 b2 u0 p1)
abbrev rm_X9_indexOf (mc ms : Nat) : Room := { frames := 7, cells := mc, slots := ms, locals := 110 }
set_option maxRecDepth 100000 in
set_option maxHeartbeats 4000000 in
theorem ct_X9_indexOf {l : Launch} {G : Gr} {a : Nat → Nat} (hst : l.stackTraces = false) (mc ms : Nat) (u0 : St) (p1 : Int) (post : Int → Prop) (px : Prop) (hw : w_X9_indexOf post px mc ms u0 p1) : CtX l G yX9_indexOf (ws_ yX9_indexOf cX9_indexOf 2 (some .int)) (rm_X9_indexOf mc ms) [.ref (a 0), zI p1] (WC G a u0) mc ms (PoP (WC G a u0) post) "java/lang/IllegalArgumentException" (PoQ (WC G a u0) px) := by
  refine CtX.of (by decide) (Nat.le_of_ble_eq_true rfl) ?_
  intro p e s m args below meth c ls hne X hr hlk K g h hl
  have hl : lv_has ls 2 [(0, .ref (a 0)), (1, zI p1)] := hl
  obtain ⟨H, hH⟩ : ∃ H, H = s.heap := ⟨_, rfl⟩
  obtain ⟨locs, hL⟩ : ∃ L : List Loc, L = [] := ⟨_, rfl⟩
  replace h : HW G (va_A (WC G a u0) s.heap.size) s.heap (WC G a u0) H locs := by rw [hH, hL]; exact h
  suffices hg : W p l e (rm_X9_indexOf mc ms) s m args below meth c H locs 0 0 (EndX G (WC G a u0) (PoP (WC G a u0) post) "java/lang/IllegalArgumentException" (PoQ (WC G a u0) px) args s mc ms below) (F0 m 0 ls []) by rw [hH, hL] at hg; exact hg
  clear hH hL
  refine z_iload_n X hl 1 rfl rfl dX9_indexOf_0 ?_
  obtain ⟨a1, b2, hk3, hs4, hw⟩ := hw
  refine r_callSXv (rest := []) X K g h (ct_X9_requireWord hst a1 b2 u0 p1 _ _ hw) lk_X9_45 ⟨rfl, rfl⟩ ⟨Nat.le_of_ble_eq_true rfl, Nat.le_of_ble_eq_true rfl⟩ rfl (lv_size hl) rfl (Nat.le_of_ble_eq_true rfl) dX9_indexOf_1 ⟨hk3, hs4⟩ (fun w' H locs ce q9 hp h h1 h2 h3 => r_out hlk hne K h hk3 hs4 hp h1 h2 h3) (fun w' H locs hp h => ?_)
  obtain ⟨rfl, hw⟩ := hp
  refine z_aload_n X hl 0 rfl rfl dX9_indexOf_4 ?_
  refine z_iload_n X hl 1 rfl rfl dX9_indexOf_5 ?_
  refine r_callVi (rest := []) X K g h (ct_X9_firstIndex u0 p1 _ hw) lk_X9_153 0 rfl rfl ⟨rfl, rfl⟩ ⟨Nat.le_of_ble_eq_true rfl, Nat.le_of_ble_eq_true rfl⟩ rfl (lv_size hl) rfl (Nat.le_of_ble_eq_true rfl) dX9_indexOf_6 ⟨hk3, hs4⟩ (fun z5 w' H locs hp h => ?_)
  obtain ⟨rfl, hw⟩ := hp
  exact vx_ret (r_iret X hr hlk K h hk3 hs4 dX9_indexOf_9 ⟨rfl, hw⟩)
def b_X9_lastIndexOf_17 (post : Int → Prop) (px : Prop) (mc ms : Nat) (u7 : St) (y1_17 : Int) (ykc_17 : Nat) (yks_17 : Nat) (K17 : Int → Prop) (x2_6 : Int) : Prop :=
(InR x2_6) ∧ ((x2_6 < 0 → (ykc_17 ≤ mc) ∧ (yks_17 ≤ ms) ∧ post (-1)) ∧
 (¬ x2_6 < 0 → (ykc_17 ≤ mc) ∧ (yks_17 ≤ ms) ∧ (w_X3_wordOf (fun (z12 : Int) => (InR z12) ∧ (InR y1_17) ∧ ((¬ z12 = y1_17 → K17 (x2_6 + (-1))) ∧
 (z12 = y1_17 → post x2_6))) u7 x2_6)))
def B_X9_lastIndexOf_17 (post : Int → Prop) (px : Prop) (mc ms : Nat) (u7 : St) (y1_17 : Int) (ykc_17 : Nat) (yks_17 : Nat) : (Int → Prop) → Int → Prop := fun K t => b_X9_lastIndexOf_17 post px mc ms u7 y1_17 ykc_17 yks_17 K t
def w_X9_lastIndexOf (post : Int → Prop) (px : Prop) (mc ms : Nat) (u0 : St) (p1 : Int) : Prop :=
(∃ a1 b2 : Nat, (0 + a1 ≤ mc) ∧ (0 + b2 ≤ ms) ∧ w_X9_requireWord ((w_X3_length (fun (z5 : Int) => (∃ n : Nat, Lp (B_X9_lastIndexOf_17 post px mc ms u0 p1 (0 + a1) (0 + b2)) n (z5 - 1))) u0)) px a1 b2 u0 p1)
abbrev rm_X9_lastIndexOf (mc ms : Nat) : Room := { frames := 7, cells := mc, slots := ms, locals := 110 }
set_option maxRecDepth 100000 in
set_option maxHeartbeats 4000000 in
theorem ct_X9_lastIndexOf {l : Launch} {G : Gr} {a : Nat → Nat} (hst : l.stackTraces = false) (mc ms : Nat) (u0 : St) (p1 : Int) (post : Int → Prop) (px : Prop) (hw : w_X9_lastIndexOf post px mc ms u0 p1) : CtX l G yX9_lastIndexOf (ws_ yX9_lastIndexOf cX9_lastIndexOf 3 (some .int)) (rm_X9_lastIndexOf mc ms) [.ref (a 0), zI p1] (WC G a u0) mc ms (PoP (WC G a u0) post) "java/lang/IllegalArgumentException" (PoQ (WC G a u0) px) := by
  refine CtX.of (by decide) (Nat.le_of_ble_eq_true rfl) ?_
  intro p e s m args below meth c ls hne X hr hlk K g h hl
  have hl : lv_has ls 3 [(0, .ref (a 0)), (1, zI p1)] := hl
  obtain ⟨H, hH⟩ : ∃ H, H = s.heap := ⟨_, rfl⟩
  obtain ⟨locs, hL⟩ : ∃ L : List Loc, L = [] := ⟨_, rfl⟩
  replace h : HW G (va_A (WC G a u0) s.heap.size) s.heap (WC G a u0) H locs := by rw [hH, hL]; exact h
  suffices hg : W p l e (rm_X9_lastIndexOf mc ms) s m args below meth c H locs 0 0 (EndX G (WC G a u0) (PoP (WC G a u0) post) "java/lang/IllegalArgumentException" (PoQ (WC G a u0) px) args s mc ms below) (F0 m 0 ls []) by rw [hH, hL] at hg; exact hg
  clear hH hL
  refine z_iload_n X hl 1 rfl rfl dX9_lastIndexOf_0 ?_
  obtain ⟨a1, b2, hk3, hs4, hw⟩ := hw
  refine r_callSXv (rest := []) X K g h (ct_X9_requireWord hst a1 b2 u0 p1 _ _ hw) lk_X9_45 ⟨rfl, rfl⟩ ⟨Nat.le_of_ble_eq_true rfl, Nat.le_of_ble_eq_true rfl⟩ rfl (lv_size hl) rfl (Nat.le_of_ble_eq_true rfl) dX9_lastIndexOf_1 ⟨hk3, hs4⟩ (fun w' H locs ce q9 hp h h1 h2 h3 => r_out hlk hne K h hk3 hs4 hp h1 h2 h3) (fun w' H locs hp h => ?_)
  obtain ⟨rfl, hw⟩ := hp
  refine z_aload_n X hl 0 rfl rfl dX9_lastIndexOf_4 ?_
  refine gC_X9_editor X K h q_306 dX9_lastIndexOf_5 ?_
  refine gC_X1_lines X K h q_241 dX9_lastIndexOf_8 ?_
  refine r_callVi (rest := []) X K g h (ct_X3_length u0 _ hw) lk_X9_122 3 rfl rfl ⟨rfl, rfl⟩ ⟨Nat.le_of_ble_eq_true rfl, Nat.le_of_ble_eq_true rfl⟩ rfl (lv_size hl) rfl (Nat.le_of_ble_eq_true rfl) dX9_lastIndexOf_11 ⟨hk3, hs4⟩ (fun z5 w' H locs hp h => ?_)
  obtain ⟨rfl, hw⟩ := hp
  refine z_iconst X dX9_lastIndexOf_14 ?_
  refine z_isub X dX9_lastIndexOf_15 ?_
  refine z_istore_n (i := 2) (lv' := [(2, zI (z5 - 1)), (0, .ref (a 0)), (1, zI p1)]) X hl rfl (by decide) dX9_lastIndexOf_16 rfl (fun ls hl => ?_)
  obtain ⟨n17, hw⟩ := hw
  have key17 : ∀ (n : Nat) (t : Int) (H : Heap) (locs : List Loc) (ls : Array Slot), Lp (B_X9_lastIndexOf_17 post px mc ms u0 p1 (0 + a1) (0 + b2)) n t → HW G (va_A (WC G a u0) s.heap.size) s.heap (WC G a u0) H locs → lv_has ls 3 [(0, .ref (a 0)), (1, zI p1), (2, zI t)] → W p l e (rm_X9_lastIndexOf mc ms) s m args below meth c H locs (0 + a1) (0 + b2) (EndX G (WC G a u0) (PoP (WC G a u0) post) "java/lang/IllegalArgumentException" (PoQ (WC G a u0) px) args s mc ms below) (F0 m 17 ls []) := by
    intro n
    induction n with
    | zero =>
      intro t H locs ls hw
      exact hw.elim
    | succ n17 ih17 =>
      intro x2_6 H locs ls hw h hl
      replace hw : b_X9_lastIndexOf_17 post px mc ms u0 p1 (0 + a1) (0 + b2) (Lp (B_X9_lastIndexOf_17 post px mc ms u0 p1 (0 + a1) (0 + b2)) n17) x2_6 := hw
      refine z_iload_n X hl 2 rfl rfl dX9_lastIndexOf_17 ?_
      obtain ⟨h8, hw⟩ := hw
      refine z_if_lt (tgt := 44) X h8 dX9_lastIndexOf_18 (by decide) (fun c9 => ?_) (fun c9 => ?_)
      · replace hw := hw.1 c9
        refine z_iconst X dX9_lastIndexOf_44 ?_
        obtain ⟨h10, h11, hw⟩ := hw
        exact vx_ret (r_iret X hr hlk K h h10 h11 dX9_lastIndexOf_45 ⟨rfl, hw⟩)
      · replace hw := hw.2 c9
        refine z_aload_n X hl 0 rfl rfl dX9_lastIndexOf_21 ?_
        refine gC_X9_editor X K h q_306 dX9_lastIndexOf_22 ?_
        refine gC_X1_lines X K h q_241 dX9_lastIndexOf_25 ?_
        refine z_iload_n X hl 2 rfl rfl dX9_lastIndexOf_28 ?_
        obtain ⟨h13, h14, hw⟩ := hw
        refine r_callVi (rest := []) X K g h (ct_X3_wordOf u0 x2_6 _ hw) lk_X9_144 3 rfl rfl ⟨rfl, rfl⟩ ⟨Nat.le_of_ble_eq_true rfl, Nat.le_of_ble_eq_true rfl⟩ rfl (lv_size hl) rfl (Nat.le_of_ble_eq_true rfl) dX9_lastIndexOf_29 ⟨h13, h14⟩ (fun z12 w' H locs hp h => ?_)
        obtain ⟨rfl, hw⟩ := hp
        refine z_iload_n X hl 1 rfl rfl dX9_lastIndexOf_32 ?_
        obtain ⟨h15, h16, hw⟩ := hw
        refine z_icmp_ne (tgt := 38) X h15 h16 dX9_lastIndexOf_33 (by decide) (fun c17 => ?_) (fun c17 => ?_)
        · replace hw := hw.1 c17
          refine z_iinc (lv' := [(2, zI (x2_6 + (-1))), (0, .ref (a 0)), (1, zI p1)]) X hl 2 rfl (by decide) dX9_lastIndexOf_38 rfl (fun ls hl => ?_)
          refine z_goto (tgt := 17) X dX9_lastIndexOf_41 (by decide) ?_
          exact ih17 (x2_6 + (-1)) H locs ls hw h (lv_sub hl [1, 2, 0] rfl)
        · replace hw := hw.2 c17
          refine z_iload_n X hl 2 rfl rfl dX9_lastIndexOf_36 ?_
          exact vx_ret (r_iret X hr hlk K h h13 h14 dX9_lastIndexOf_37 ⟨rfl, hw⟩)
  exact key17 n17 (z5 - 1) H locs ls hw h (lv_sub hl [1, 2, 0] rfl)
def b_X9_count_8 (post : Int → Prop) (px : Prop) (mc ms : Nat) (u7 : St) (y1_8 : Int) (ykc_8 : Nat) (yks_8 : Nat) (K8 : Int × Int → Prop) (x2_5 : Int) (x3_6 : Int) : Prop :=
(ykc_8 ≤ mc) ∧ (yks_8 ≤ ms) ∧ (w_X3_length (fun (z8 : Int) => (InR x3_6) ∧ (InR z8) ∧ ((z8 ≤ x3_6 → post x2_5) ∧
 (¬ z8 ≤ x3_6 → (w_X3_wordOf (fun (z14 : Int) => (InR z14) ∧ (InR y1_8) ∧ ((¬ z14 = y1_8 → K8 (x2_5, x3_6 + 1)) ∧
 (z14 = y1_8 → K8 (x2_5 + 1, x3_6 + 1)))) u7 x3_6)))) u7)
def B_X9_count_8 (post : Int → Prop) (px : Prop) (mc ms : Nat) (u7 : St) (y1_8 : Int) (ykc_8 : Nat) (yks_8 : Nat) : (Int × Int → Prop) → Int × Int → Prop := fun K t => b_X9_count_8 post px mc ms u7 y1_8 ykc_8 yks_8 K t.1 t.2
def w_X9_count (post : Int → Prop) (px : Prop) (mc ms : Nat) (u0 : St) (p1 : Int) : Prop :=
(∃ a1 b2 : Nat, (0 + a1 ≤ mc) ∧ (0 + b2 ≤ ms) ∧ w_X9_requireWord ((∃ n : Nat, Lp (B_X9_count_8 post px mc ms u0 p1 (0 + a1) (0 + b2)) n (0, 0))) px a1 b2 u0 p1)
abbrev rm_X9_count (mc ms : Nat) : Room := { frames := 7, cells := mc, slots := ms, locals := 110 }
set_option maxRecDepth 100000 in
set_option maxHeartbeats 4000000 in
theorem ct_X9_count {l : Launch} {G : Gr} {a : Nat → Nat} (hst : l.stackTraces = false) (mc ms : Nat) (u0 : St) (p1 : Int) (post : Int → Prop) (px : Prop) (hw : w_X9_count post px mc ms u0 p1) : CtX l G yX9_count (ws_ yX9_count cX9_count 4 (some .int)) (rm_X9_count mc ms) [.ref (a 0), zI p1] (WC G a u0) mc ms (PoP (WC G a u0) post) "java/lang/IllegalArgumentException" (PoQ (WC G a u0) px) := by
  refine CtX.of (by decide) (Nat.le_of_ble_eq_true rfl) ?_
  intro p e s m args below meth c ls hne X hr hlk K g h hl
  have hl : lv_has ls 4 [(0, .ref (a 0)), (1, zI p1)] := hl
  obtain ⟨H, hH⟩ : ∃ H, H = s.heap := ⟨_, rfl⟩
  obtain ⟨locs, hL⟩ : ∃ L : List Loc, L = [] := ⟨_, rfl⟩
  replace h : HW G (va_A (WC G a u0) s.heap.size) s.heap (WC G a u0) H locs := by rw [hH, hL]; exact h
  suffices hg : W p l e (rm_X9_count mc ms) s m args below meth c H locs 0 0 (EndX G (WC G a u0) (PoP (WC G a u0) post) "java/lang/IllegalArgumentException" (PoQ (WC G a u0) px) args s mc ms below) (F0 m 0 ls []) by rw [hH, hL] at hg; exact hg
  clear hH hL
  refine z_iload_n X hl 1 rfl rfl dX9_count_0 ?_
  obtain ⟨a1, b2, hk3, hs4, hw⟩ := hw
  refine r_callSXv (rest := []) X K g h (ct_X9_requireWord hst a1 b2 u0 p1 _ _ hw) lk_X9_45 ⟨rfl, rfl⟩ ⟨Nat.le_of_ble_eq_true rfl, Nat.le_of_ble_eq_true rfl⟩ rfl (lv_size hl) rfl (Nat.le_of_ble_eq_true rfl) dX9_count_1 ⟨hk3, hs4⟩ (fun w' H locs ce q9 hp h h1 h2 h3 => r_out hlk hne K h hk3 hs4 hp h1 h2 h3) (fun w' H locs hp h => ?_)
  obtain ⟨rfl, hw⟩ := hp
  refine z_iconst X dX9_count_4 ?_
  refine z_istore_n (i := 2) (lv' := [(2, zI 0), (0, .ref (a 0)), (1, zI p1)]) X hl rfl (by decide) dX9_count_5 rfl (fun ls hl => ?_)
  refine z_iconst X dX9_count_6 ?_
  refine z_istore_n (i := 3) (lv' := [(3, zI 0), (2, zI 0), (0, .ref (a 0)), (1, zI p1)]) X hl rfl (by decide) dX9_count_7 rfl (fun ls hl => ?_)
  obtain ⟨n8, hw⟩ := hw
  have key8 : ∀ (n : Nat) (t : Int × Int) (H : Heap) (locs : List Loc) (ls : Array Slot), Lp (B_X9_count_8 post px mc ms u0 p1 (0 + a1) (0 + b2)) n t → HW G (va_A (WC G a u0) s.heap.size) s.heap (WC G a u0) H locs → lv_has ls 4 [(0, .ref (a 0)), (1, zI p1), (2, zI t.1), (3, zI t.2)] → W p l e (rm_X9_count mc ms) s m args below meth c H locs (0 + a1) (0 + b2) (EndX G (WC G a u0) (PoP (WC G a u0) post) "java/lang/IllegalArgumentException" (PoQ (WC G a u0) px) args s mc ms below) (F0 m 8 ls []) := by
    intro n
    induction n with
    | zero =>
      intro t H locs ls hw
      exact hw.elim
    | succ n8 ih8 =>
      rintro ⟨x2_5, x3_6⟩ H locs ls hw h hl
      replace hw : b_X9_count_8 post px mc ms u0 p1 (0 + a1) (0 + b2) (Lp (B_X9_count_8 post px mc ms u0 p1 (0 + a1) (0 + b2)) n8) x2_5 x3_6 := hw
      refine z_iload_n X hl 3 rfl rfl dX9_count_8 ?_
      refine z_aload_n X hl 0 rfl rfl dX9_count_9 ?_
      refine gC_X9_editor X K h q_306 dX9_count_10 ?_
      refine gC_X1_lines X K h q_241 dX9_count_13 ?_
      obtain ⟨h9, h10, hw⟩ := hw
      refine r_callVi (rest := [zI x3_6]) X K g h (ct_X3_length u0 _ hw) lk_X9_122 3 rfl rfl ⟨rfl, rfl⟩ ⟨Nat.le_of_ble_eq_true rfl, Nat.le_of_ble_eq_true rfl⟩ rfl (lv_size hl) rfl (Nat.le_of_ble_eq_true rfl) dX9_count_16 ⟨h9, h10⟩ (fun z8 w' H locs hp h => ?_)
      obtain ⟨rfl, hw⟩ := hp
      obtain ⟨h11, h12, hw⟩ := hw
      refine z_icmp_ge (tgt := 46) X h11 h12 dX9_count_19 (by decide) (fun c13 => ?_) (fun c13 => ?_)
      · replace hw := hw.1 c13
        refine z_iload_n X hl 2 rfl rfl dX9_count_46 ?_
        exact vx_ret (r_iret X hr hlk K h h9 h10 dX9_count_47 ⟨rfl, hw⟩)
      · replace hw := hw.2 c13
        refine z_aload_n X hl 0 rfl rfl dX9_count_22 ?_
        refine gC_X9_editor X K h q_306 dX9_count_23 ?_
        refine gC_X1_lines X K h q_241 dX9_count_26 ?_
        refine z_iload_n X hl 3 rfl rfl dX9_count_29 ?_
        refine r_callVi (rest := []) X K g h (ct_X3_wordOf u0 x3_6 _ hw) lk_X9_144 3 rfl rfl ⟨rfl, rfl⟩ ⟨Nat.le_of_ble_eq_true rfl, Nat.le_of_ble_eq_true rfl⟩ rfl (lv_size hl) rfl (Nat.le_of_ble_eq_true rfl) dX9_count_30 ⟨h9, h10⟩ (fun z14 w' H locs hp h => ?_)
        obtain ⟨rfl, hw⟩ := hp
        refine z_iload_n X hl 1 rfl rfl dX9_count_33 ?_
        obtain ⟨h15, h16, hw⟩ := hw
        refine z_icmp_ne (tgt := 40) X h15 h16 dX9_count_34 (by decide) (fun c17 => ?_) (fun c17 => ?_)
        · replace hw := hw.1 c17
          refine z_iinc (lv' := [(3, zI (x3_6 + 1)), (0, .ref (a 0)), (1, zI p1), (2, zI x2_5)]) X hl 3 rfl (by decide) dX9_count_40 rfl (fun ls hl => ?_)
          refine z_goto (tgt := 8) X dX9_count_43 (by decide) ?_
          exact ih8 (x2_5, x3_6 + 1) H locs ls hw h (lv_sub hl [1, 2, 3, 0] rfl)
        · replace hw := hw.2 c17
          refine z_iinc (lv' := [(2, zI (x2_5 + 1)), (0, .ref (a 0)), (1, zI p1), (3, zI x3_6)]) X hl 2 rfl (by decide) dX9_count_37 rfl (fun ls hl => ?_)
          refine z_iinc (lv' := [(3, zI (x3_6 + 1)), (2, zI (x2_5 + 1)), (0, .ref (a 0)), (1, zI p1)]) X hl 3 rfl (by decide) dX9_count_40 rfl (fun ls hl => ?_)
          refine z_goto (tgt := 8) X dX9_count_43 (by decide) ?_
          exact ih8 (x2_5 + 1, x3_6 + 1) H locs ls hw h (lv_sub hl [2, 3, 1, 0] rfl)
  exact key8 n8 (0, 0) H locs ls hw h (lv_sub hl [2, 3, 1, 0] rfl)
def b_X9_unlike_4 (post : Int → Prop) (u3 : St) (K4 : Int × Int → Prop) (x1_1 : Int) (x2_2 : Int) : Prop :=
(w_X3_length (fun (z4 : Int) => (InR x2_2) ∧ (InR z4) ∧ ((z4 ≤ x2_2 → post x1_1) ∧
 (¬ z4 ≤ x2_2 → (w_X3_wordOf (fun (z8 : Int) => (w_X9_firstIndex (fun (z9 : Int) => (InR z9) ∧ ((¬ z9 = x2_2 → K4 (x1_1, x2_2 + 1)) ∧
 (z9 = x2_2 → K4 (x1_1 + 1, x2_2 + 1)))) u3 z8)) u3 x2_2)))) u3)
def B_X9_unlike_4 (post : Int → Prop) (u3 : St) : (Int × Int → Prop) → Int × Int → Prop := fun K t => b_X9_unlike_4 post u3 K t.1 t.2
def w_X9_unlike (post : Int → Prop) (u0 : St) : Prop :=
(∃ n : Nat, Lp (B_X9_unlike_4 post u0) n (0, 0))
abbrev rm_X9_unlike : Room := { frames := 3, cells := 0, slots := 0, locals := 65 }
set_option maxRecDepth 100000 in
set_option maxHeartbeats 4000000 in
theorem ct_X9_unlike {l : Launch} {G : Gr} {a : Nat → Nat} (u0 : St) (post : Int → Prop) (hw : w_X9_unlike post u0) : Ct l G yX9_unlike (ws_ yX9_unlike cX9_unlike 3 (some .int)) rm_X9_unlike [.ref (a 0)] (WC G a u0) 0 0 (PoP (WC G a u0) post) := by
  refine Ct.of (by decide) (Nat.le_of_ble_eq_true rfl) ?_
  intro p e s m args below meth c ls X hr hlk K g h hl
  have hl : lv_has ls 3 [(0, .ref (a 0))] := hl
  obtain ⟨H, hH⟩ : ∃ H, H = s.heap := ⟨_, rfl⟩
  obtain ⟨locs, hL⟩ : ∃ L : List Loc, L = [] := ⟨_, rfl⟩
  replace h : HW G (va_A (WC G a u0) s.heap.size) s.heap (WC G a u0) H locs := by rw [hH, hL]; exact h
  suffices hg : W p l e rm_X9_unlike s m args below meth c H locs 0 0 (EndI G (WC G a u0) (PoP (WC G a u0) post) args s 0 0 below) (F0 m 0 ls []) by rw [hH, hL] at hg; exact hg
  clear hH hL
  refine z_iconst X dX9_unlike_0 ?_
  refine z_istore_n (i := 1) (lv' := [(1, zI 0), (0, .ref (a 0))]) X hl rfl (by decide) dX9_unlike_1 rfl (fun ls hl => ?_)
  refine z_iconst X dX9_unlike_2 ?_
  refine z_istore_n (i := 2) (lv' := [(2, zI 0), (1, zI 0), (0, .ref (a 0))]) X hl rfl (by decide) dX9_unlike_3 rfl (fun ls hl => ?_)
  obtain ⟨n4, hw⟩ := hw
  have key4 : ∀ (n : Nat) (t : Int × Int) (H : Heap) (locs : List Loc) (ls : Array Slot), Lp (B_X9_unlike_4 post u0) n t → HW G (va_A (WC G a u0) s.heap.size) s.heap (WC G a u0) H locs → lv_has ls 3 [(0, .ref (a 0)), (1, zI t.1), (2, zI t.2)] → W p l e rm_X9_unlike s m args below meth c H locs 0 0 (EndI G (WC G a u0) (PoP (WC G a u0) post) args s 0 0 below) (F0 m 4 ls []) := by
    intro n
    induction n with
    | zero =>
      intro t H locs ls hw
      exact hw.elim
    | succ n4 ih4 =>
      rintro ⟨x1_1, x2_2⟩ H locs ls hw h hl
      replace hw : b_X9_unlike_4 post u0 (Lp (B_X9_unlike_4 post u0) n4) x1_1 x2_2 := hw
      refine z_iload_n X hl 2 rfl rfl dX9_unlike_4 ?_
      refine z_aload_n X hl 0 rfl rfl dX9_unlike_5 ?_
      refine gC_X9_editor X K h q_306 dX9_unlike_6 ?_
      refine gC_X1_lines X K h q_241 dX9_unlike_9 ?_
      refine r_callVi (rest := [zI x2_2]) X K g h (ct_X3_length u0 _ hw) lk_X9_122 3 rfl rfl ⟨rfl, rfl⟩ ⟨Nat.le_of_ble_eq_true rfl, Nat.le_of_ble_eq_true rfl⟩ rfl (lv_size hl) rfl (Nat.le_of_ble_eq_true rfl) dX9_unlike_12 ⟨Nat.le_of_ble_eq_true rfl, Nat.le_of_ble_eq_true rfl⟩ (fun z4 w' H locs hp h => ?_)
      obtain ⟨rfl, hw⟩ := hp
      obtain ⟨h5, h6, hw⟩ := hw
      refine z_icmp_ge (tgt := 46) X h5 h6 dX9_unlike_15 (by decide) (fun c7 => ?_) (fun c7 => ?_)
      · replace hw := hw.1 c7
        refine z_iload_n X hl 1 rfl rfl dX9_unlike_46 ?_
        exact r_iret X hr hlk K h (Nat.le_refl _) (Nat.le_refl _) dX9_unlike_47 ⟨rfl, hw⟩
      · replace hw := hw.2 c7
        refine z_aload_n X hl 0 rfl rfl dX9_unlike_18 ?_
        refine z_aload_n X hl 0 rfl rfl dX9_unlike_19 ?_
        refine gC_X9_editor X K h q_306 dX9_unlike_20 ?_
        refine gC_X1_lines X K h q_241 dX9_unlike_23 ?_
        refine z_iload_n X hl 2 rfl rfl dX9_unlike_26 ?_
        refine r_callVi (rest := [.ref (a 0)]) X K g h (ct_X3_wordOf u0 x2_2 _ hw) lk_X9_144 3 rfl rfl ⟨rfl, rfl⟩ ⟨Nat.le_of_ble_eq_true rfl, Nat.le_of_ble_eq_true rfl⟩ rfl (lv_size hl) rfl (Nat.le_of_ble_eq_true rfl) dX9_unlike_27 ⟨Nat.le_of_ble_eq_true rfl, Nat.le_of_ble_eq_true rfl⟩ (fun z8 w' H locs hp h => ?_)
        obtain ⟨rfl, hw⟩ := hp
        refine r_callVi (rest := []) X K g h (ct_X9_firstIndex u0 z8 _ hw) lk_X9_153 0 rfl rfl ⟨rfl, rfl⟩ ⟨Nat.le_of_ble_eq_true rfl, Nat.le_of_ble_eq_true rfl⟩ rfl (lv_size hl) rfl (Nat.le_of_ble_eq_true rfl) dX9_unlike_30 ⟨Nat.le_of_ble_eq_true rfl, Nat.le_of_ble_eq_true rfl⟩ (fun z9 w' H locs hp h => ?_)
        obtain ⟨rfl, hw⟩ := hp
        refine z_iload_n X hl 2 rfl rfl dX9_unlike_33 ?_
        obtain ⟨h10, hw⟩ := hw
        refine z_icmp_ne (tgt := 40) X h10 h5 dX9_unlike_34 (by decide) (fun c11 => ?_) (fun c11 => ?_)
        · replace hw := hw.1 c11
          refine z_iinc (lv' := [(2, zI (x2_2 + 1)), (0, .ref (a 0)), (1, zI x1_1)]) X hl 2 rfl (by decide) dX9_unlike_40 rfl (fun ls hl => ?_)
          refine z_goto (tgt := 4) X dX9_unlike_43 (by decide) ?_
          exact ih4 (x1_1, x2_2 + 1) H locs ls hw h (lv_sub hl [1, 2, 0] rfl)
        · replace hw := hw.2 c11
          refine z_iinc (lv' := [(1, zI (x1_1 + 1)), (0, .ref (a 0)), (2, zI x2_2)]) X hl 1 rfl (by decide) dX9_unlike_37 rfl (fun ls hl => ?_)
          refine z_iinc (lv' := [(2, zI (x2_2 + 1)), (1, zI (x1_1 + 1)), (0, .ref (a 0))]) X hl 2 rfl (by decide) dX9_unlike_40 rfl (fun ls hl => ?_)
          refine z_goto (tgt := 4) X dX9_unlike_43 (by decide) ?_
          exact ih4 (x1_1 + 1, x2_2 + 1) H locs ls hw h (lv_sub hl [2, 1, 0] rfl)
  exact key4 n4 (0, 0) H locs ls hw h (lv_sub hl [2, 1, 0] rfl)
def w_X9_clear (post : Int → St → Prop) (G : Gr) (u0 : St) : Prop :=
(w_X3_length (fun (z1 : Int) => (w_X1_startAnew (fun  (u2 : St) => post z1 u2) G u0)) u0)
abbrev rm_X9_clear : Room := { frames := 5, cells := 0, slots := 0, locals := 104 }
set_option maxRecDepth 100000 in
set_option maxHeartbeats 4000000 in
theorem ct_X9_clear {l : Launch} {G : Gr} {a : Nat → Nat} (u0 : St) (post : Int → St → Prop) (hw : w_X9_clear post G u0) : Ct l G yX9_clear (ws_ yX9_clear cX9_clear 2 (some .int)) rm_X9_clear [.ref (a 0)] (WC G a u0) 0 0 (Po (WC G a) post) := by
  refine Ct.of (by decide) (Nat.le_of_ble_eq_true rfl) ?_
  intro p e s m args below meth c ls X hr hlk K g h hl
  have hl : lv_has ls 2 [(0, .ref (a 0))] := hl
  obtain ⟨H, hH⟩ : ∃ H, H = s.heap := ⟨_, rfl⟩
  obtain ⟨locs, hL⟩ : ∃ L : List Loc, L = [] := ⟨_, rfl⟩
  replace h : HW G (va_A (WC G a u0) s.heap.size) s.heap (WC G a u0) H locs := by rw [hH, hL]; exact h
  suffices hg : W p l e rm_X9_clear s m args below meth c H locs 0 0 (EndI G (WC G a u0) (Po (WC G a) post) args s 0 0 below) (F0 m 0 ls []) by rw [hH, hL] at hg; exact hg
  clear hH hL
  refine z_aload_n X hl 0 rfl rfl dX9_clear_0 ?_
  refine gC_X9_editor X K h q_306 dX9_clear_1 ?_
  refine gC_X1_lines X K h q_241 dX9_clear_4 ?_
  refine r_callVi (rest := []) X K g h (ct_X3_length u0 _ hw) lk_X9_122 3 rfl rfl ⟨rfl, rfl⟩ ⟨Nat.le_of_ble_eq_true rfl, Nat.le_of_ble_eq_true rfl⟩ rfl (lv_size hl) rfl (Nat.le_of_ble_eq_true rfl) dX9_clear_7 ⟨Nat.le_of_ble_eq_true rfl, Nat.le_of_ble_eq_true rfl⟩ (fun z1 w' H locs hp h => ?_)
  obtain ⟨rfl, hw⟩ := hp
  refine z_istore_n (i := 1) (lv' := [(1, zI z1), (0, .ref (a 0))]) X hl rfl (by decide) dX9_clear_10 rfl (fun ls hl => ?_)
  refine z_aload_n X hl 1 rfl rfl dX9_clear_11 ?_
  refine gC_X9_editor X K h q_306 dX9_clear_12 ?_
  refine r_callVv (rest := []) X K g h (ct_X1_startAnew u0 _ hw) lk_X9_104 1 rfl rfl ⟨rfl, rfl⟩ ⟨Nat.le_of_ble_eq_true rfl, Nat.le_of_ble_eq_true rfl⟩ rfl (lv_size hl) rfl (Nat.le_of_ble_eq_true rfl) dX9_clear_15 ⟨Nat.le_of_ble_eq_true rfl, Nat.le_of_ble_eq_true rfl⟩ (fun w' H locs hp h => ?_)
  obtain ⟨u2, rfl, hw⟩ := hp
  refine z_iload_n X hl 0 rfl rfl dX9_clear_18 ?_
  exact r_iret X hr hlk K h (Nat.le_refl _) (Nat.le_refl _) dX9_clear_19 ⟨_, rfl, hw⟩
def w_X9_put (post : St → Prop) (u0 : St) (p1 : Int) : Prop :=
(InR (sI u0 3)) ∧ ((701 ≤ sI u0 3 → post u0) ∧
 (¬ 701 ≤ sI u0 3 → (0 ≤ sI u0 3) ∧ (sI u0 3 < 701) ∧ (0 ≤ p1) ∧ (p1 < 65536) ∧ post (pI (pA u0 12 (sI u0 3) p1) 3 ((sI u0 3) + 1))))
abbrev rm_X9_put : Room := { frames := 0, cells := 0, slots := 0, locals := 0 }
set_option maxRecDepth 100000 in
set_option maxHeartbeats 4000000 in
theorem ct_X9_put {l : Launch} {G : Gr} {a : Nat → Nat} (u0 : St) (p1 : Int) (post : St → Prop) (hw : w_X9_put post u0 p1) : CtV l G yX9_put (ws_ yX9_put cX9_put 2 (none)) rm_X9_put [.ref (a 0), zI p1] (WC G a u0) 0 0 (PoV (WC G a) post) := by
  refine CtV.of (by decide) (Nat.le_of_ble_eq_true rfl) ?_
  intro p e s m args below meth c ls X hr hlk K g h hl
  have hl : lv_has ls 2 [(0, .ref (a 0)), (1, zI p1)] := hl
  obtain ⟨H, hH⟩ : ∃ H, H = s.heap := ⟨_, rfl⟩
  obtain ⟨locs, hL⟩ : ∃ L : List Loc, L = [] := ⟨_, rfl⟩
  replace h : HW G (va_A (WC G a u0) s.heap.size) s.heap (WC G a u0) H locs := by rw [hH, hL]; exact h
  suffices hg : W p l e rm_X9_put s m args below meth c H locs 0 0 (EndV G (WC G a u0) (PoV (WC G a) post) args s 0 0 below) (F0 m 0 ls []) by rw [hH, hL] at hg; exact hg
  clear hH hL
  refine z_aload_n X hl 0 rfl rfl dX9_put_0 ?_
  refine gC_X9_writtenLength (x := sI u0 3) X K h rfl q_313 dX9_put_1 ?_
  refine z_aload_n X hl 0 rfl rfl dX9_put_4 ?_
  refine gC_X9_written X K h q_312 dX9_put_5 ?_
  refine nC_12 X K h dX9_put_8 ?_
  obtain ⟨h1, hw⟩ := hw
  refine z_icmp_ge (tgt := 32) X h1 (by decide) dX9_put_9 (by decide) (fun c2 => ?_) (fun c2 => ?_)
  · replace hw := hw.1 c2
    exact r_vret X hr hlk K h (Nat.le_refl _) (Nat.le_refl _) dX9_put_32 ⟨_, rfl, hw⟩
  · replace hw := hw.2 c2
    refine z_aload_n X hl 0 rfl rfl dX9_put_12 ?_
    refine gC_X9_written X K h q_312 dX9_put_13 ?_
    refine z_aload_n X hl 0 rfl rfl dX9_put_16 ?_
    refine gC_X9_writtenLength (x := sI u0 3) X K h rfl q_313 dX9_put_17 ?_
    refine z_iload_n X hl 1 rfl rfl dX9_put_20 ?_
    obtain ⟨h3, h4, h5, h6, hw⟩ := hw
    refine sC_12 X K h h3 h4 h5 h6 dX9_put_21 (fun H locs h => ?_)
    refine z_aload_n X hl 0 rfl rfl dX9_put_22 ?_
    refine z_dup X rfl dX9_put_23 ?_
    refine gC_X9_writtenLength (x := sI u0 3) X K h rfl q_313 dX9_put_24 ?_
    refine z_iconst X dX9_put_27 ?_
    refine z_iadd X dX9_put_28 ?_
    refine pC_X9_writtenLength X K h q_313 dX9_put_29 (fun H locs h => ?_)
    exact r_vret X hr hlk K h (Nat.le_refl _) (Nat.le_refl _) dX9_put_32 ⟨_, rfl, hw⟩
def b_X9_spell_3 (post : St → Prop) (y1_3 : Int) (K3 : St × Int → Prop) (u1 : St) (x2_2 : Int) : Prop :=
(InR x2_2) ∧ ((x2_2 ≤ 0 → post u1) ∧
 (¬ x2_2 ≤ 0 → (InR y1_3) ∧ (0 ≤ y1_3) ∧ (0 < x2_2) ∧ (InR (y1_3 / x2_2)) ∧ (0 ≤ y1_3 / x2_2) ∧ (InR ((y1_3 / x2_2) % 27)) ∧ (((y1_3 / x2_2) % 27 = 0 → (0 ≤ x2_2) ∧ K3 (u1, x2_2 / 27)) ∧
 (¬ (y1_3 / x2_2) % 27 = 0 → (0 ≤ (97 + ((y1_3 / x2_2) % 27)) - 1) ∧ ((97 + ((y1_3 / x2_2) % 27)) - 1 < 65536) ∧ (w_X9_put (fun  (u15 : St) => (0 ≤ x2_2) ∧ K3 (u15, x2_2 / 27)) u1 ((97 + ((y1_3 / x2_2) % 27)) - 1))))))
def B_X9_spell_3 (post : St → Prop) (y1_3 : Int) : (St × Int → Prop) → St × Int → Prop := fun K t => b_X9_spell_3 post y1_3 K t.1 t.2
def w_X9_spell (post : St → Prop) (u0 : St) (p1 : Int) : Prop :=
(∃ n : Nat, Lp (B_X9_spell_3 post p1) n (u0, 14348907))
abbrev rm_X9_spell : Room := { frames := 1, cells := 0, slots := 0, locals := 21 }
set_option maxRecDepth 100000 in
set_option maxHeartbeats 4000000 in
theorem ct_X9_spell {l : Launch} {G : Gr} {a : Nat → Nat} (u0 : St) (p1 : Int) (post : St → Prop) (hw : w_X9_spell post u0 p1) : CtV l G yX9_spell (ws_ yX9_spell cX9_spell 4 (none)) rm_X9_spell [.ref (a 0), zI p1] (WC G a u0) 0 0 (PoV (WC G a) post) := by
  refine CtV.of (by decide) (Nat.le_of_ble_eq_true rfl) ?_
  intro p e s m args below meth c ls X hr hlk K g h hl
  have hl : lv_has ls 4 [(0, .ref (a 0)), (1, zI p1)] := hl
  obtain ⟨H, hH⟩ : ∃ H, H = s.heap := ⟨_, rfl⟩
  obtain ⟨locs, hL⟩ : ∃ L : List Loc, L = [] := ⟨_, rfl⟩
  replace h : HW G (va_A (WC G a u0) s.heap.size) s.heap (WC G a u0) H locs := by rw [hH, hL]; exact h
  suffices hg : W p l e rm_X9_spell s m args below meth c H locs 0 0 (EndV G (WC G a u0) (PoV (WC G a) post) args s 0 0 below) (F0 m 0 ls []) by rw [hH, hL] at hg; exact hg
  clear hH hL
  refine z_ldc (z := 14348907) X dX9_spell_0 q_1062 rfl ?_
  refine z_istore_n (i := 2) (lv' := [(2, zI 14348907), (0, .ref (a 0)), (1, zI p1)]) X hl rfl (by decide) dX9_spell_2 rfl (fun ls hl => ?_)
  obtain ⟨n3, hw⟩ := hw
  have key3 : ∀ (n : Nat) (t : St × Int) (H : Heap) (locs : List Loc) (ls : Array Slot), Lp (B_X9_spell_3 post p1) n t → HW G (va_A (WC G a u0) s.heap.size) s.heap (WC G a t.1) H locs → lv_has ls 4 [(0, .ref (a 0)), (1, zI p1), (2, zI t.2)] → W p l e rm_X9_spell s m args below meth c H locs 0 0 (EndV G (WC G a u0) (PoV (WC G a) post) args s 0 0 below) (F0 m 3 ls []) := by
    intro n
    induction n with
    | zero =>
      intro t H locs ls hw
      exact hw.elim
    | succ n3 ih3 =>
      rintro ⟨u1, x2_2⟩ H locs ls hw h hl
      replace hw : b_X9_spell_3 post p1 (Lp (B_X9_spell_3 post p1) n3) u1 x2_2 := hw
      refine z_iload_n X hl 2 rfl rfl dX9_spell_3 ?_
      obtain ⟨h3, hw⟩ := hw
      refine z_if_le (tgt := 37) X h3 dX9_spell_4 (by decide) (fun c4 => ?_) (fun c4 => ?_)
      · replace hw := hw.1 c4
        exact r_vret X hr hlk K h (Nat.le_refl _) (Nat.le_refl _) dX9_spell_37 ⟨_, rfl, hw⟩
      · replace hw := hw.2 c4
        refine z_iload_n X hl 1 rfl rfl dX9_spell_7 ?_
        refine z_iload_n X hl 2 rfl rfl dX9_spell_8 ?_
        obtain ⟨h5, h6, h7, hw⟩ := hw
        refine z_idiv X h5 h3 h6 h7 dX9_spell_9 ?_
        refine z_bipush (v := 27) X dX9_spell_10 (by decide) ?_
        obtain ⟨h8, h9, hw⟩ := hw
        refine z_irem X h8 (by decide) h9 (by decide) dX9_spell_12 ?_
        refine z_istore_n (i := 3) (lv' := [(3, zI ((p1 / x2_2) % 27)), (0, .ref (a 0)), (1, zI p1), (2, zI x2_2)]) X hl rfl (by decide) dX9_spell_13 rfl (fun ls hl => ?_)
        refine z_iload_n X hl 0 rfl rfl dX9_spell_14 ?_
        obtain ⟨h10, hw⟩ := hw
        refine z_if_eq (tgt := 29) X h10 dX9_spell_15 (by decide) (fun c11 => ?_) (fun c11 => ?_)
        · replace hw := hw.1 c11
          refine z_iload_n X hl 3 rfl rfl dX9_spell_29 ?_
          refine z_bipush (v := 27) X dX9_spell_30 (by decide) ?_
          obtain ⟨h12, hw⟩ := hw
          refine z_idiv X h3 (by decide) h12 (by decide) dX9_spell_32 ?_
          refine z_istore_n (i := 2) (lv' := [(2, zI (x2_2 / 27)), (3, zI ((p1 / x2_2) % 27)), (0, .ref (a 0)), (1, zI p1)]) X hl rfl (by decide) dX9_spell_33 rfl (fun ls hl => ?_)
          refine z_goto (tgt := 3) X dX9_spell_34 (by decide) ?_
          exact ih3 (u1, x2_2 / 27) H locs ls hw h (lv_sub hl [2, 3, 0] rfl)
        · replace hw := hw.2 c11
          refine z_aload_n X hl 1 rfl rfl dX9_spell_18 ?_
          refine z_bipush (v := 97) X dX9_spell_19 (by decide) ?_
          refine z_iload_n X hl 0 rfl rfl dX9_spell_21 ?_
          refine z_iadd X dX9_spell_22 ?_
          refine z_iconst X dX9_spell_23 ?_
          refine z_isub X dX9_spell_24 ?_
          obtain ⟨h13, h14, hw⟩ := hw
          refine z_i2c X h13 h14 dX9_spell_25 ?_
          refine r_callVv (rest := []) X K g h (ct_X9_put u1 ((97 + ((p1 / x2_2) % 27)) - 1) _ hw) lk_X9_162 0 rfl rfl ⟨rfl, rfl⟩ ⟨Nat.le_of_ble_eq_true rfl, Nat.le_of_ble_eq_true rfl⟩ rfl (lv_size hl) rfl (Nat.le_of_ble_eq_true rfl) dX9_spell_26 ⟨Nat.le_of_ble_eq_true rfl, Nat.le_of_ble_eq_true rfl⟩ (fun w' H locs hp h => ?_)
          obtain ⟨u15, rfl, hw⟩ := hp
          refine z_iload_n X hl 3 rfl rfl dX9_spell_29 ?_
          refine z_bipush (v := 27) X dX9_spell_30 (by decide) ?_
          obtain ⟨h16, hw⟩ := hw
          refine z_idiv X h3 (by decide) h16 (by decide) dX9_spell_32 ?_
          refine z_istore_n (i := 2) (lv' := [(2, zI (x2_2 / 27)), (3, zI ((p1 / x2_2) % 27)), (0, .ref (a 0)), (1, zI p1)]) X hl rfl (by decide) dX9_spell_33 rfl (fun ls hl => ?_)
          refine z_goto (tgt := 3) X dX9_spell_34 (by decide) ?_
          exact ih3 (u15, x2_2 / 27) H locs ls hw h (lv_sub hl [2, 3, 0] rfl)
  exact key3 n3 (u0, 14348907) H locs ls hw h (lv_sub hl [1, 2, 0] rfl)
def b_X9_write_58 (post : Int → St → Prop) (K18 : St × Int → Prop) (K58 : St × Int → Prop) (u8 : St) (x2_9 : Int) : Prop :=
(w_X3_length (fun (z10 : Int) => (InR x2_9) ∧ (InR z10) ∧ ((z10 ≤ x2_9 → post (sI u8 3) u8) ∧
 (¬ z10 ≤ x2_9 → (w_X9_put (fun  (u14 : St) => (w_X3_wordOf (fun (z15 : Int) => (w_X9_spell (fun  (u16 : St) => K58 (u16, x2_9 + 1)) u14 z15)) u14 x2_9)) u8 32)))) u8)
def B_X9_write_58 (post : Int → St → Prop) (K18 : St × Int → Prop) : (St × Int → Prop) → St × Int → Prop := fun K t => b_X9_write_58 post K18 K t.1 t.2
def b_X9_write_18 (post : Int → St → Prop) (y1_18 : Int) (K18 : St × Int → Prop) (u2 : St) (x2_3 : Int) : Prop :=
(InR x2_3) ∧ (InR y1_18) ∧ ((y1_18 ≤ x2_3 → (w_X9_put (fun  (u7 : St) => (∃ n : Nat, Lp (B_X9_write_58 post K18) n (u7, y1_18))) u2 124)) ∧
 (¬ y1_18 ≤ x2_3 → (w_X3_wordOf (fun (z17 : Int) => (w_X9_spell (fun  (u18 : St) => (w_X9_put (fun  (u19 : St) => K18 (u19, x2_3 + 1)) u18 32)) u2 z17)) u2 x2_3)))
def B_X9_write_18 (post : Int → St → Prop) (y1_18 : Int) : (St × Int → Prop) → St × Int → Prop := fun K t => b_X9_write_18 post y1_18 K t.1 t.2
def w_X9_write (post : Int → St → Prop) (u0 : St) : Prop :=
(w_X3_caret (fun (z1 : Int) => (∃ n : Nat, Lp (B_X9_write_18 post z1) n ((pI u0 3 0), 0))) (pI u0 3 0))
abbrev rm_X9_write : Room := { frames := 2, cells := 0, slots := 0, locals := 44 }
set_option maxRecDepth 100000 in
set_option maxHeartbeats 4000000 in
theorem ct_X9_write {l : Launch} {G : Gr} {a : Nat → Nat} (u0 : St) (post : Int → St → Prop) (hw : w_X9_write post u0) : Ct l G yX9_write (ws_ yX9_write cX9_write 3 (some .int)) rm_X9_write [.ref (a 0)] (WC G a u0) 0 0 (Po (WC G a) post) := by
  refine Ct.of (by decide) (Nat.le_of_ble_eq_true rfl) ?_
  intro p e s m args below meth c ls X hr hlk K g h hl
  have hl : lv_has ls 3 [(0, .ref (a 0))] := hl
  obtain ⟨H, hH⟩ : ∃ H, H = s.heap := ⟨_, rfl⟩
  obtain ⟨locs, hL⟩ : ∃ L : List Loc, L = [] := ⟨_, rfl⟩
  replace h : HW G (va_A (WC G a u0) s.heap.size) s.heap (WC G a u0) H locs := by rw [hH, hL]; exact h
  suffices hg : W p l e rm_X9_write s m args below meth c H locs 0 0 (EndI G (WC G a u0) (Po (WC G a) post) args s 0 0 below) (F0 m 0 ls []) by rw [hH, hL] at hg; exact hg
  clear hH hL
  refine z_aload_n X hl 0 rfl rfl dX9_write_0 ?_
  refine z_iconst X dX9_write_1 ?_
  refine pC_X9_writtenLength X K h q_313 dX9_write_2 (fun H locs h => ?_)
  refine z_aload_n X hl 0 rfl rfl dX9_write_5 ?_
  refine gC_X9_editor X K h q_306 dX9_write_6 ?_
  refine gC_X1_lines X K h q_241 dX9_write_9 ?_
  refine r_callVi (rest := []) X K g h (ct_X3_caret (pI u0 3 0) _ hw) lk_X9_137 3 rfl rfl ⟨rfl, rfl⟩ ⟨Nat.le_of_ble_eq_true rfl, Nat.le_of_ble_eq_true rfl⟩ rfl (lv_size hl) rfl (Nat.le_of_ble_eq_true rfl) dX9_write_12 ⟨Nat.le_of_ble_eq_true rfl, Nat.le_of_ble_eq_true rfl⟩ (fun z1 w' H locs hp h => ?_)
  obtain ⟨rfl, hw⟩ := hp
  refine z_istore_n (i := 1) (lv' := [(1, zI z1), (0, .ref (a 0))]) X hl rfl (by decide) dX9_write_15 rfl (fun ls hl => ?_)
  refine z_iconst X dX9_write_16 ?_
  refine z_istore_n (i := 2) (lv' := [(2, zI 0), (1, zI z1), (0, .ref (a 0))]) X hl rfl (by decide) dX9_write_17 rfl (fun ls hl => ?_)
  obtain ⟨n18, hw⟩ := hw
  have key18 : ∀ (n : Nat) (t : St × Int) (H : Heap) (locs : List Loc) (ls : Array Slot), Lp (B_X9_write_18 post z1) n t → HW G (va_A (WC G a u0) s.heap.size) s.heap (WC G a t.1) H locs → lv_has ls 3 [(0, .ref (a 0)), (1, zI z1), (2, zI t.2)] → W p l e rm_X9_write s m args below meth c H locs 0 0 (EndI G (WC G a u0) (Po (WC G a) post) args s 0 0 below) (F0 m 18 ls []) := by
    intro n
    induction n with
    | zero =>
      intro t H locs ls hw
      exact hw.elim
    | succ n18 ih18 =>
      rintro ⟨u2, x2_3⟩ H locs ls hw h hl
      replace hw : b_X9_write_18 post z1 (Lp (B_X9_write_18 post z1) n18) u2 x2_3 := hw
      refine z_iload_n X hl 2 rfl rfl dX9_write_18 ?_
      refine z_iload_n X hl 1 rfl rfl dX9_write_19 ?_
      obtain ⟨h4, h5, hw⟩ := hw
      refine z_icmp_ge (tgt := 50) X h4 h5 dX9_write_20 (by decide) (fun c6 => ?_) (fun c6 => ?_)
      · replace hw := hw.1 c6
        refine z_aload_n X hl 0 rfl rfl dX9_write_50 ?_
        refine z_bipush (v := 124) X dX9_write_51 (by decide) ?_
        refine r_callVv (rest := []) X K g h (ct_X9_put u2 124 _ hw) lk_X9_162 0 rfl rfl ⟨rfl, rfl⟩ ⟨Nat.le_of_ble_eq_true rfl, Nat.le_of_ble_eq_true rfl⟩ rfl (lv_size hl) rfl (Nat.le_of_ble_eq_true rfl) dX9_write_53 ⟨Nat.le_of_ble_eq_true rfl, Nat.le_of_ble_eq_true rfl⟩ (fun w' H locs hp h => ?_)
        obtain ⟨u7, rfl, hw⟩ := hp
        refine z_iload_n X hl 1 rfl rfl dX9_write_56 ?_
        refine z_istore_n (i := 2) (lv' := [(2, zI z1), (0, .ref (a 0)), (1, zI z1)]) X hl rfl (by decide) dX9_write_57 rfl (fun ls hl => ?_)
        obtain ⟨n58, hw⟩ := hw
        have key58 : ∀ (n : Nat) (t : St × Int) (H : Heap) (locs : List Loc) (ls : Array Slot), Lp (B_X9_write_58 post (Lp (B_X9_write_18 post z1) n18)) n t → HW G (va_A (WC G a u0) s.heap.size) s.heap (WC G a t.1) H locs → lv_has ls 3 [(0, .ref (a 0)), (2, zI t.2)] → W p l e rm_X9_write s m args below meth c H locs 0 0 (EndI G (WC G a u0) (Po (WC G a) post) args s 0 0 below) (F0 m 58 ls []) := by
          intro n
          induction n with
          | zero =>
            intro t H locs ls hw
            exact hw.elim
          | succ n58 ih58 =>
            rintro ⟨u8, x2_9⟩ H locs ls hw h hl
            replace hw : b_X9_write_58 post (Lp (B_X9_write_18 post z1) n18) (Lp (B_X9_write_58 post (Lp (B_X9_write_18 post z1) n18)) n58) u8 x2_9 := hw
            refine z_iload_n X hl 1 rfl rfl dX9_write_58 ?_
            refine z_aload_n X hl 0 rfl rfl dX9_write_59 ?_
            refine gC_X9_editor X K h q_306 dX9_write_60 ?_
            refine gC_X1_lines X K h q_241 dX9_write_63 ?_
            refine r_callVi (rest := [zI x2_9]) X K g h (ct_X3_length u8 _ hw) lk_X9_122 3 rfl rfl ⟨rfl, rfl⟩ ⟨Nat.le_of_ble_eq_true rfl, Nat.le_of_ble_eq_true rfl⟩ rfl (lv_size hl) rfl (Nat.le_of_ble_eq_true rfl) dX9_write_66 ⟨Nat.le_of_ble_eq_true rfl, Nat.le_of_ble_eq_true rfl⟩ (fun z10 w' H locs hp h => ?_)
            obtain ⟨rfl, hw⟩ := hp
            obtain ⟨h11, h12, hw⟩ := hw
            refine z_icmp_ge (tgt := 99) X h11 h12 dX9_write_69 (by decide) (fun c13 => ?_) (fun c13 => ?_)
            · replace hw := hw.1 c13
              refine z_aload_n X hl 0 rfl rfl dX9_write_99 ?_
              refine gC_X9_writtenLength (x := sI u8 3) X K h rfl q_313 dX9_write_100 ?_
              exact r_iret X hr hlk K h (Nat.le_refl _) (Nat.le_refl _) dX9_write_103 ⟨_, rfl, hw⟩
            · replace hw := hw.2 c13
              refine z_aload_n X hl 0 rfl rfl dX9_write_72 ?_
              refine z_bipush (v := 32) X dX9_write_73 (by decide) ?_
              refine r_callVv (rest := []) X K g h (ct_X9_put u8 32 _ hw) lk_X9_162 0 rfl rfl ⟨rfl, rfl⟩ ⟨Nat.le_of_ble_eq_true rfl, Nat.le_of_ble_eq_true rfl⟩ rfl (lv_size hl) rfl (Nat.le_of_ble_eq_true rfl) dX9_write_75 ⟨Nat.le_of_ble_eq_true rfl, Nat.le_of_ble_eq_true rfl⟩ (fun w' H locs hp h => ?_)
              obtain ⟨u14, rfl, hw⟩ := hp
              refine z_aload_n X hl 0 rfl rfl dX9_write_78 ?_
              refine z_aload_n X hl 0 rfl rfl dX9_write_79 ?_
              refine gC_X9_editor X K h q_306 dX9_write_80 ?_
              refine gC_X1_lines X K h q_241 dX9_write_83 ?_
              refine z_iload_n X hl 1 rfl rfl dX9_write_86 ?_
              refine r_callVi (rest := [.ref (a 0)]) X K g h (ct_X3_wordOf u14 x2_9 _ hw) lk_X9_144 3 rfl rfl ⟨rfl, rfl⟩ ⟨Nat.le_of_ble_eq_true rfl, Nat.le_of_ble_eq_true rfl⟩ rfl (lv_size hl) rfl (Nat.le_of_ble_eq_true rfl) dX9_write_87 ⟨Nat.le_of_ble_eq_true rfl, Nat.le_of_ble_eq_true rfl⟩ (fun z15 w' H locs hp h => ?_)
              obtain ⟨rfl, hw⟩ := hp
              refine r_callVv (rest := []) X K g h (ct_X9_spell u14 z15 _ hw) lk_X9_159 0 rfl rfl ⟨rfl, rfl⟩ ⟨Nat.le_of_ble_eq_true rfl, Nat.le_of_ble_eq_true rfl⟩ rfl (lv_size hl) rfl (Nat.le_of_ble_eq_true rfl) dX9_write_90 ⟨Nat.le_of_ble_eq_true rfl, Nat.le_of_ble_eq_true rfl⟩ (fun w' H locs hp h => ?_)
              obtain ⟨u16, rfl, hw⟩ := hp
              refine z_iinc (lv' := [(2, zI (x2_9 + 1)), (0, .ref (a 0))]) X hl 1 rfl (by decide) dX9_write_93 rfl (fun ls hl => ?_)
              refine z_goto (tgt := 58) X dX9_write_96 (by decide) ?_
              exact ih58 (u16, x2_9 + 1) H locs ls hw h (lv_sub hl [1, 0] rfl)
        exact key58 n58 (u7, z1) H locs ls hw h (lv_sub hl [1, 0] rfl)
      · replace hw := hw.2 c6
        refine z_aload_n X hl 0 rfl rfl dX9_write_23 ?_
        refine z_aload_n X hl 0 rfl rfl dX9_write_24 ?_
        refine gC_X9_editor X K h q_306 dX9_write_25 ?_
        refine gC_X1_lines X K h q_241 dX9_write_28 ?_
        refine z_iload_n X hl 2 rfl rfl dX9_write_31 ?_
        refine r_callVi (rest := [.ref (a 0)]) X K g h (ct_X3_wordOf u2 x2_3 _ hw) lk_X9_144 3 rfl rfl ⟨rfl, rfl⟩ ⟨Nat.le_of_ble_eq_true rfl, Nat.le_of_ble_eq_true rfl⟩ rfl (lv_size hl) rfl (Nat.le_of_ble_eq_true rfl) dX9_write_32 ⟨Nat.le_of_ble_eq_true rfl, Nat.le_of_ble_eq_true rfl⟩ (fun z17 w' H locs hp h => ?_)
        obtain ⟨rfl, hw⟩ := hp
        refine r_callVv (rest := []) X K g h (ct_X9_spell u2 z17 _ hw) lk_X9_159 0 rfl rfl ⟨rfl, rfl⟩ ⟨Nat.le_of_ble_eq_true rfl, Nat.le_of_ble_eq_true rfl⟩ rfl (lv_size hl) rfl (Nat.le_of_ble_eq_true rfl) dX9_write_35 ⟨Nat.le_of_ble_eq_true rfl, Nat.le_of_ble_eq_true rfl⟩ (fun w' H locs hp h => ?_)
        obtain ⟨u18, rfl, hw⟩ := hp
        refine z_aload_n X hl 0 rfl rfl dX9_write_38 ?_
        refine z_bipush (v := 32) X dX9_write_39 (by decide) ?_
        refine r_callVv (rest := []) X K g h (ct_X9_put u18 32 _ hw) lk_X9_162 0 rfl rfl ⟨rfl, rfl⟩ ⟨Nat.le_of_ble_eq_true rfl, Nat.le_of_ble_eq_true rfl⟩ rfl (lv_size hl) rfl (Nat.le_of_ble_eq_true rfl) dX9_write_41 ⟨Nat.le_of_ble_eq_true rfl, Nat.le_of_ble_eq_true rfl⟩ (fun w' H locs hp h => ?_)
        obtain ⟨u19, rfl, hw⟩ := hp
        refine z_iinc (lv' := [(2, zI (x2_3 + 1)), (0, .ref (a 0)), (1, zI z1)]) X hl 2 rfl (by decide) dX9_write_44 rfl (fun ls hl => ?_)
        refine z_goto (tgt := 18) X dX9_write_47 (by decide) ?_
        exact ih18 (u19, x2_3 + 1) H locs ls hw h (lv_sub hl [1, 2, 0] rfl)
  exact key18 n18 ((pI u0 3 0), 0) H locs ls hw h (lv_sub hl [2, 1, 0] rfl)
def w_X9_writtenAt (post : Int → Prop) (px : Prop) (mc ms : Nat) (u0 : St) (p1 : Int) : Prop :=
(InR p1) ∧ ((p1 < 0 → (0 + 1 ≤ mc) ∧ (0 + 6 ≤ ms) ∧ px) ∧
 (¬ p1 < 0 → (InR (sI u0 3)) ∧ ((p1 < sI u0 3 → (0 ≤ p1) ∧ (p1 < 701) ∧ post (sA u0 12 p1)) ∧
 (¬ p1 < sI u0 3 → (0 + 1 ≤ mc) ∧ (0 + 6 ≤ ms) ∧ px))))
abbrev rm_X9_writtenAt (mc ms : Nat) : Room := { frames := 6, cells := mc, slots := ms, locals := 90 }
set_option maxRecDepth 100000 in
set_option maxHeartbeats 4000000 in
theorem ct_X9_writtenAt {l : Launch} {G : Gr} {a : Nat → Nat} (hst : l.stackTraces = false) (mc ms : Nat) (u0 : St) (p1 : Int) (post : Int → Prop) (px : Prop) (hw : w_X9_writtenAt post px mc ms u0 p1) : CtX l G yX9_writtenAt (ws_ yX9_writtenAt cX9_writtenAt 2 (some .int)) (rm_X9_writtenAt mc ms) [.ref (a 0), zI p1] (WC G a u0) mc ms (PoP (WC G a u0) post) "java/lang/IndexOutOfBoundsException" (PoQ (WC G a u0) px) := by
  refine CtX.of (by decide) (Nat.le_of_ble_eq_true rfl) ?_
  intro p e s m args below meth c ls hne X hr hlk K g h hl
  have hl : lv_has ls 2 [(0, .ref (a 0)), (1, zI p1)] := hl
  obtain ⟨H, hH⟩ : ∃ H, H = s.heap := ⟨_, rfl⟩
  obtain ⟨locs, hL⟩ : ∃ L : List Loc, L = [] := ⟨_, rfl⟩
  replace h : HW G (va_A (WC G a u0) s.heap.size) s.heap (WC G a u0) H locs := by rw [hH, hL]; exact h
  suffices hg : W p l e (rm_X9_writtenAt mc ms) s m args below meth c H locs 0 0 (EndX G (WC G a u0) (PoP (WC G a u0) post) "java/lang/IndexOutOfBoundsException" (PoQ (WC G a u0) px) args s mc ms below) (F0 m 0 ls []) by rw [hH, hL] at hg; exact hg
  clear hH hL
  refine z_iload_n X hl 1 rfl rfl dX9_writtenAt_0 ?_
  obtain ⟨h1, hw⟩ := hw
  refine z_if_lt (tgt := 12) X h1 dX9_writtenAt_1 (by decide) (fun c2 => ?_) (fun c2 => ?_)
  · replace hw := hw.1 c2
    obtain ⟨h3, h4, hw⟩ := hw
    exact r_throw X hst hlk hne K g h tw_IOOBE (lv_size hl) dX9_writtenAt_12 dX9_writtenAt_15 dX9_writtenAt_16 dX9_writtenAt_19 ⟨Nat.le_of_ble_eq_true rfl, Nat.le_of_ble_eq_true rfl⟩ ⟨h3, h4⟩ h3 h4 ⟨rfl, hw⟩
  · replace hw := hw.2 c2
    refine z_iload_n X hl 1 rfl rfl dX9_writtenAt_4 ?_
    refine z_aload_n X hl 0 rfl rfl dX9_writtenAt_5 ?_
    refine gC_X9_writtenLength (x := sI u0 3) X K h rfl q_313 dX9_writtenAt_6 ?_
    obtain ⟨h5, hw⟩ := hw
    refine z_icmp_lt (tgt := 20) X h1 h5 dX9_writtenAt_9 (by decide) (fun c6 => ?_) (fun c6 => ?_)
    · replace hw := hw.1 c6
      refine z_aload_n X hl 0 rfl rfl dX9_writtenAt_20 ?_
      refine gC_X9_written X K h q_312 dX9_writtenAt_21 ?_
      refine z_iload_n X hl 1 rfl rfl dX9_writtenAt_24 ?_
      obtain ⟨h7, h8, hw⟩ := hw
      refine lC_12 (x := sA u0 12 p1) X K h h7 h8 rfl dX9_writtenAt_25 ?_
      exact vx_ret (r_iret X hr hlk K h (Nat.zero_le _) (Nat.zero_le _) dX9_writtenAt_26 ⟨rfl, hw⟩)
    · replace hw := hw.2 c6
      obtain ⟨h9, h10, hw⟩ := hw
      exact r_throw X hst hlk hne K g h tw_IOOBE (lv_size hl) dX9_writtenAt_12 dX9_writtenAt_15 dX9_writtenAt_16 dX9_writtenAt_19 ⟨Nat.le_of_ble_eq_true rfl, Nat.le_of_ble_eq_true rfl⟩ ⟨h9, h10⟩ h9 h10 ⟨rfl, hw⟩
def w_X9_refusals (post : Int → Prop) (px : Prop) (mc ms : Nat) (u0 : St) (p1 : Int) : Prop :=
(InR p1) ∧ (((-2) < p1 → (0 + 1 ≤ mc) ∧ (0 + 6 ≤ ms) ∧ px) ∧
 (¬ (-2) < p1 → (((-5) ≤ p1 → (0 ≤ (-2) - p1) ∧ ((-2) - p1 < 4) ∧ post (sA u0 0 ((-2) - p1))) ∧
 (¬ (-5) ≤ p1 → (0 + 1 ≤ mc) ∧ (0 + 6 ≤ ms) ∧ px))))
abbrev rm_X9_refusals (mc ms : Nat) : Room := { frames := 6, cells := mc, slots := ms, locals := 90 }
set_option maxRecDepth 100000 in
set_option maxHeartbeats 4000000 in
theorem ct_X9_refusals {l : Launch} {G : Gr} {a : Nat → Nat} (hst : l.stackTraces = false) (mc ms : Nat) (u0 : St) (p1 : Int) (post : Int → Prop) (px : Prop) (hw : w_X9_refusals post px mc ms u0 p1) : CtX l G yX9_refusals (ws_ yX9_refusals cX9_refusals 2 (some .int)) (rm_X9_refusals mc ms) [.ref (a 0), zI p1] (WC G a u0) mc ms (PoP (WC G a u0) post) "java/lang/IllegalArgumentException" (PoQ (WC G a u0) px) := by
  refine CtX.of (by decide) (Nat.le_of_ble_eq_true rfl) ?_
  intro p e s m args below meth c ls hne X hr hlk K g h hl
  have hl : lv_has ls 2 [(0, .ref (a 0)), (1, zI p1)] := hl
  obtain ⟨H, hH⟩ : ∃ H, H = s.heap := ⟨_, rfl⟩
  obtain ⟨locs, hL⟩ : ∃ L : List Loc, L = [] := ⟨_, rfl⟩
  replace h : HW G (va_A (WC G a u0) s.heap.size) s.heap (WC G a u0) H locs := by rw [hH, hL]; exact h
  suffices hg : W p l e (rm_X9_refusals mc ms) s m args below meth c H locs 0 0 (EndX G (WC G a u0) (PoP (WC G a u0) post) "java/lang/IllegalArgumentException" (PoQ (WC G a u0) px) args s mc ms below) (F0 m 0 ls []) by rw [hH, hL] at hg; exact hg
  clear hH hL
  refine z_iload_n X hl 1 rfl rfl dX9_refusals_0 ?_
  refine z_bipush (v := (-2)) X dX9_refusals_1 (by decide) ?_
  obtain ⟨h1, hw⟩ := hw
  refine z_icmp_gt (tgt := 12) X h1 (by decide) dX9_refusals_3 (by decide) (fun c2 => ?_) (fun c2 => ?_)
  · replace hw := hw.1 c2
    obtain ⟨h3, h4, hw⟩ := hw
    exact r_throw X hst hlk hne K g h tw_IAE (lv_size hl) dX9_refusals_12 dX9_refusals_15 dX9_refusals_16 dX9_refusals_19 ⟨Nat.le_of_ble_eq_true rfl, Nat.le_of_ble_eq_true rfl⟩ ⟨h3, h4⟩ h3 h4 ⟨rfl, hw⟩
  · replace hw := hw.2 c2
    refine z_iload_n X hl 1 rfl rfl dX9_refusals_6 ?_
    refine z_bipush (v := (-5)) X dX9_refusals_7 (by decide) ?_
    refine z_icmp_ge (tgt := 20) X h1 (by decide) dX9_refusals_9 (by decide) (fun c5 => ?_) (fun c5 => ?_)
    · replace hw := hw.1 c5
      refine z_aload_n X hl 0 rfl rfl dX9_refusals_20 ?_
      refine gC_X9_editor X K h q_306 dX9_refusals_21 ?_
      refine gC_X1_refused X K h q_245 dX9_refusals_24 ?_
      refine z_bipush (v := (-2)) X dX9_refusals_27 (by decide) ?_
      refine z_iload_n X hl 1 rfl rfl dX9_refusals_29 ?_
      refine z_isub X dX9_refusals_30 ?_
      obtain ⟨h6, h7, hw⟩ := hw
      refine lC_0 (x := sA u0 0 ((-2) - p1)) X K h h6 h7 rfl dX9_refusals_31 ?_
      exact vx_ret (r_iret X hr hlk K h (Nat.zero_le _) (Nat.zero_le _) dX9_refusals_32 ⟨rfl, hw⟩)
    · replace hw := hw.2 c5
      obtain ⟨h8, h9, hw⟩ := hw
      exact r_throw X hst hlk hne K g h tw_IAE (lv_size hl) dX9_refusals_12 dX9_refusals_15 dX9_refusals_16 dX9_refusals_19 ⟨Nat.le_of_ble_eq_true rfl, Nat.le_of_ble_eq_true rfl⟩ ⟨h8, h9⟩ h8 h9 ⟨rfl, hw⟩
def w_X9_acts (post : Int → Prop) (u0 : St) : Prop :=
post (sI u0 4)
abbrev rm_X9_acts : Room := { frames := 0, cells := 0, slots := 0, locals := 0 }
set_option maxRecDepth 100000 in
set_option maxHeartbeats 4000000 in
theorem ct_X9_acts {l : Launch} {G : Gr} {a : Nat → Nat} (u0 : St) (post : Int → Prop) (hw : w_X9_acts post u0) : Ct l G yX9_acts (ws_ yX9_acts cX9_acts 1 (some .int)) rm_X9_acts [.ref (a 0)] (WC G a u0) 0 0 (PoP (WC G a u0) post) := by
  refine Ct.of (by decide) (Nat.le_of_ble_eq_true rfl) ?_
  intro p e s m args below meth c ls X hr hlk K g h hl
  have hl : lv_has ls 1 [(0, .ref (a 0))] := hl
  obtain ⟨H, hH⟩ : ∃ H, H = s.heap := ⟨_, rfl⟩
  obtain ⟨locs, hL⟩ : ∃ L : List Loc, L = [] := ⟨_, rfl⟩
  replace h : HW G (va_A (WC G a u0) s.heap.size) s.heap (WC G a u0) H locs := by rw [hH, hL]; exact h
  suffices hg : W p l e rm_X9_acts s m args below meth c H locs 0 0 (EndI G (WC G a u0) (PoP (WC G a u0) post) args s 0 0 below) (F0 m 0 ls []) by rw [hH, hL] at hg; exact hg
  clear hH hL
  refine z_aload_n X hl 0 rfl rfl dX9_acts_0 ?_
  refine gC_X9_editor X K h q_306 dX9_acts_1 ?_
  refine gC_X1_done (x := sI u0 4) X K h rfl q_247 dX9_acts_4 ?_
  exact r_iret X hr hlk K h (Nat.le_refl _) (Nat.le_refl _) dX9_acts_7 ⟨rfl, hw⟩
def w_X9_agree (post : Int → Prop) (G : Gr) (u0 : St) : Prop :=
(w_X3_areListAndChainAlike (fun (z1 : Int) => (z1 = 0 ∨ z1 = 1) ∧ post z1) G u0)
abbrev rm_X9_agree : Room := { frames := 5, cells := 0, slots := 0, locals := 106 }
set_option maxRecDepth 100000 in
set_option maxHeartbeats 4000000 in
theorem ct_X9_agree {l : Launch} {G : Gr} {a : Nat → Nat} (u0 : St) (post : Int → Prop) (hw : w_X9_agree post G u0) : Ct l G yX9_agree (ws_ yX9_agree cX9_agree 1 (some .boolean)) rm_X9_agree [.ref (a 0)] (WC G a u0) 0 0 (PoP (WC G a u0) post) := by
  refine Ct.of (by decide) (Nat.le_of_ble_eq_true rfl) ?_
  intro p e s m args below meth c ls X hr hlk K g h hl
  have hl : lv_has ls 1 [(0, .ref (a 0))] := hl
  obtain ⟨H, hH⟩ : ∃ H, H = s.heap := ⟨_, rfl⟩
  obtain ⟨locs, hL⟩ : ∃ L : List Loc, L = [] := ⟨_, rfl⟩
  replace h : HW G (va_A (WC G a u0) s.heap.size) s.heap (WC G a u0) H locs := by rw [hH, hL]; exact h
  suffices hg : W p l e rm_X9_agree s m args below meth c H locs 0 0 (EndI G (WC G a u0) (PoP (WC G a u0) post) args s 0 0 below) (F0 m 0 ls []) by rw [hH, hL] at hg; exact hg
  clear hH hL
  refine z_aload_n X hl 0 rfl rfl dX9_agree_0 ?_
  refine gC_X9_editor X K h q_306 dX9_agree_1 ?_
  refine gC_X1_lines X K h q_241 dX9_agree_4 ?_
  refine r_callVi (rest := []) X K g h (ct_X3_areListAndChainAlike u0 _ hw) lk_X9_173 3 rfl rfl ⟨rfl, rfl⟩ ⟨Nat.le_of_ble_eq_true rfl, Nat.le_of_ble_eq_true rfl⟩ rfl (lv_size hl) rfl (Nat.le_of_ble_eq_true rfl) dX9_agree_7 ⟨Nat.le_of_ble_eq_true rfl, Nat.le_of_ble_eq_true rfl⟩ (fun z1 w' H locs hp h => ?_)
  obtain ⟨rfl, hw⟩ := hp
  obtain ⟨h2, hw⟩ := hw
  exact r_zret X hr hlk K h (Nat.le_refl _) (Nat.le_refl _) dX9_agree_10 h2 ⟨rfl, hw⟩
def w_X9_errors (post : Int → Prop) (u0 : St) : Prop :=
post (sI u0 8)
abbrev rm_X9_errors : Room := { frames := 0, cells := 0, slots := 0, locals := 0 }
set_option maxRecDepth 100000 in
set_option maxHeartbeats 4000000 in
theorem ct_X9_errors {l : Launch} {G : Gr} {a : Nat → Nat} (u0 : St) (post : Int → Prop) (hw : w_X9_errors post u0) : Ct l G yX9_errors (ws_ yX9_errors cX9_errors 1 (some .int)) rm_X9_errors [.ref (a 0)] (WC G a u0) 0 0 (PoP (WC G a u0) post) := by
  refine Ct.of (by decide) (Nat.le_of_ble_eq_true rfl) ?_
  intro p e s m args below meth c ls X hr hlk K g h hl
  have hl : lv_has ls 1 [(0, .ref (a 0))] := hl
  obtain ⟨H, hH⟩ : ∃ H, H = s.heap := ⟨_, rfl⟩
  obtain ⟨locs, hL⟩ : ∃ L : List Loc, L = [] := ⟨_, rfl⟩
  replace h : HW G (va_A (WC G a u0) s.heap.size) s.heap (WC G a u0) H locs := by rw [hH, hL]; exact h
  suffices hg : W p l e rm_X9_errors s m args below meth c H locs 0 0 (EndI G (WC G a u0) (PoP (WC G a u0) post) args s 0 0 below) (F0 m 0 ls []) by rw [hH, hL] at hg; exact hg
  clear hH hL
  refine z_aload_n X hl 0 rfl rfl dX9_errors_0 ?_
  refine gC_X9_editor X K h q_306 dX9_errors_1 ?_
  refine gC_X1_lines X K h q_241 dX9_errors_4 ?_
  refine gC_X3_unlikeAnswers (x := sI u0 8) X K h rfl q_209 dX9_errors_7 ?_
  exact r_iret X hr hlk K h (Nat.le_refl _) (Nat.le_refl _) dX9_errors_10 ⟨rfl, hw⟩
def b_X9_lettersOf_4 (post : Int → Prop) (K4 : Int × Int → Prop) (x1_1 : Int) (x2_2 : Int) : Prop :=
(InR x2_2) ∧ ((x2_2 ≤ 0 → post x1_1) ∧
 (¬ x2_2 ≤ 0 → (0 ≤ x2_2) ∧ K4 (x1_1 + 1, x2_2 / 27)))
def B_X9_lettersOf_4 (post : Int → Prop) : (Int × Int → Prop) → Int × Int → Prop := fun K t => b_X9_lettersOf_4 post K t.1 t.2
def w_X9_lettersOf (post : Int → Prop) (p0 : Int) : Prop :=
(∃ n : Nat, Lp (B_X9_lettersOf_4 post) n (0, p0))
abbrev rm_X9_lettersOf : Room := { frames := 0, cells := 0, slots := 0, locals := 0 }
set_option maxRecDepth 100000 in
set_option maxHeartbeats 4000000 in
theorem ct_X9_lettersOf {l : Launch} {G : Gr} {w : va_W} (p0 : Int) (post : Int → Prop) (hw : w_X9_lettersOf post p0) : Ct l G yX9_lettersOf (ws_ yX9_lettersOf cX9_lettersOf 3 (some .int)) rm_X9_lettersOf [zI p0] w 0 0 (PoP w post) := by
  refine Ct.of (by decide) (Nat.le_of_ble_eq_true rfl) ?_
  intro p e s m args below meth c ls X hr hlk K g h hl
  have hl : lv_has ls 3 [(0, zI p0)] := hl
  obtain ⟨H, hH⟩ : ∃ H, H = s.heap := ⟨_, rfl⟩
  obtain ⟨locs, hL⟩ : ∃ L : List Loc, L = [] := ⟨_, rfl⟩
  replace h : HW G (va_A w s.heap.size) s.heap (w) H locs := by rw [hH, hL]; exact h
  suffices hg : W p l e rm_X9_lettersOf s m args below meth c H locs 0 0 (EndI G w (PoP w post) args s 0 0 below) (F0 m 0 ls []) by rw [hH, hL] at hg; exact hg
  clear hH hL
  refine z_iconst X dX9_lettersOf_0 ?_
  refine z_istore_n (i := 1) (lv' := [(1, zI 0), (0, zI p0)]) X hl rfl (by decide) dX9_lettersOf_1 rfl (fun ls hl => ?_)
  refine z_iload_n X hl 1 rfl rfl dX9_lettersOf_2 ?_
  refine z_istore_n (i := 2) (lv' := [(2, zI p0), (1, zI 0), (0, zI p0)]) X hl rfl (by decide) dX9_lettersOf_3 rfl (fun ls hl => ?_)
  obtain ⟨n4, hw⟩ := hw
  have key4 : ∀ (n : Nat) (t : Int × Int) (H : Heap) (locs : List Loc) (ls : Array Slot), Lp (B_X9_lettersOf_4 post) n t → HW G (va_A w s.heap.size) s.heap (w) H locs → lv_has ls 3 [(1, zI t.1), (2, zI t.2)] → W p l e rm_X9_lettersOf s m args below meth c H locs 0 0 (EndI G w (PoP w post) args s 0 0 below) (F0 m 4 ls []) := by
    intro n
    induction n with
    | zero =>
      intro t H locs ls hw
      exact hw.elim
    | succ n4 ih4 =>
      rintro ⟨x1_1, x2_2⟩ H locs ls hw h hl
      replace hw : b_X9_lettersOf_4 post (Lp (B_X9_lettersOf_4 post) n4) x1_1 x2_2 := hw
      refine z_iload_n X hl 1 rfl rfl dX9_lettersOf_4 ?_
      obtain ⟨h3, hw⟩ := hw
      refine z_if_le (tgt := 19) X h3 dX9_lettersOf_5 (by decide) (fun c4 => ?_) (fun c4 => ?_)
      · replace hw := hw.1 c4
        refine z_iload_n X hl 0 rfl rfl dX9_lettersOf_19 ?_
        exact r_iret X hr hlk K h (Nat.le_refl _) (Nat.le_refl _) dX9_lettersOf_20 ⟨rfl, hw⟩
      · replace hw := hw.2 c4
        refine z_iinc (lv' := [(1, zI (x1_1 + 1)), (2, zI x2_2)]) X hl 0 rfl (by decide) dX9_lettersOf_8 rfl (fun ls hl => ?_)
        refine z_iload_n X hl 1 rfl rfl dX9_lettersOf_11 ?_
        refine z_bipush (v := 27) X dX9_lettersOf_12 (by decide) ?_
        obtain ⟨h5, hw⟩ := hw
        refine z_idiv X h3 (by decide) h5 (by decide) dX9_lettersOf_14 ?_
        refine z_istore_n (i := 2) (lv' := [(2, zI (x2_2 / 27)), (1, zI (x1_1 + 1))]) X hl rfl (by decide) dX9_lettersOf_15 rfl (fun ls hl => ?_)
        refine z_goto (tgt := 4) X dX9_lettersOf_16 (by decide) ?_
        exact ih4 (x1_1 + 1, x2_2 / 27) H locs ls hw h (lv_sub hl [1, 0] rfl)
  exact key4 n4 (0, p0) H locs ls hw h (lv_sub hl [1, 0] rfl)
def w_X9_attempt (post : Int → St → Prop) (mc ms : Nat) (G : Gr) (u0 : St) (p1 : Int) (p2 : Int) : Prop :=
(InR ((sI u0 4) - (sI u0 0))) ∧ (((sI u0 4) - (sI u0 0) < 300 → (InR p1) ∧ ((p1 = 37 → (∃ a5 b6 : Nat, (0 + a5 ≤ mc) ∧ (0 + b6 ≤ ms) ∧ w_X1_cross (fun (z4 : Int) (u9 : St) => (InR z4) ∧ ((0 ≤ z4 → post 0 u9) ∧
 (¬ 0 ≤ z4 → post z4 u9))) a5 b6 G u0)) ∧
 (p1 = 43 → (∃ a14 b15 : Nat, (0 + a14 ≤ mc) ∧ (0 + b15 ≤ ms) ∧ w_X1_insert (fun (z13 : Int) (u18 : St) => (InR z13) ∧ ((0 ≤ z13 → post 0 u18) ∧
 (¬ 0 ≤ z13 → post z13 u18))) a14 b15 G u0 p2)) ∧
 (p1 = 44 → (w_X1_pass (fun (z22 : Int) (u23 : St) => (InR z22) ∧ ((0 ≤ z22 → post 0 u23) ∧
 (¬ 0 ≤ z22 → post z22 u23))) G u0 1)) ∧
 (p1 = 45 → (w_X1_drop (fun (z27 : Int) (u28 : St) => (InR z27) ∧ ((0 ≤ z27 → post 0 u28) ∧
 (¬ 0 ≤ z27 → post z27 u28))) G u0)) ∧
 (p1 = 46 → (w_X1_pass (fun (z32 : Int) (u33 : St) => (InR z32) ∧ ((0 ≤ z32 → post 0 u33) ∧
 (¬ 0 ≤ z32 → post z32 u33))) G u0 0)) ∧
 (p1 = 60 → (w_X1_seek (fun (z37 : Int) (u38 : St) => (InR z37) ∧ ((0 ≤ z37 → post 0 u38) ∧
 (¬ 0 ≤ z37 → post z37 u38))) G u0 p2 1)) ∧
 (p1 = 61 → (∃ a43 b44 : Nat, (0 + a43 ≤ mc) ∧ (0 + b44 ≤ ms) ∧ w_X1_exchange (fun (z42 : Int) (u47 : St) => (InR z42) ∧ ((0 ≤ z42 → post 0 u47) ∧
 (¬ 0 ≤ z42 → post z42 u47))) a43 b44 G u0 p2)) ∧
 (p1 = 62 → (w_X1_seek (fun (z51 : Int) (u52 : St) => (InR z51) ∧ ((0 ≤ z51 → post 0 u52) ∧
 (¬ 0 ≤ z51 → post z51 u52))) G u0 p2 0)) ∧
 (¬ (p1 = 37 ∨ p1 = 43 ∨ p1 = 44 ∨ p1 = 45 ∨ p1 = 46 ∨ p1 = 60 ∨ p1 = 61 ∨ p1 = 62) → (w_X1_go (fun (z56 : Int) (u57 : St) => (InR z56) ∧ ((0 ≤ z56 → post 0 u57) ∧
 (¬ 0 ≤ z56 → post z56 u57))) G u0 p2)))) ∧
 (¬ (sI u0 4) - (sI u0 0) < 300 → post (-6) u0))
abbrev rm_X9_attempt (mc ms : Nat) : Room := { frames := 14, cells := mc, slots := ms, locals := 380 }
set_option maxRecDepth 100000 in
set_option maxHeartbeats 4000000 in
theorem ct_X9_attempt {l : Launch} {G : Gr} {a : Nat → Nat} (mc ms : Nat) (u0 : St) (p1 : Int) (p2 : Int) (post : Int → St → Prop) (hw : w_X9_attempt post mc ms G u0 p1 p2) : Ct l G yX9_attempt (ws_ yX9_attempt cX9_attempt 4 (some .int)) (rm_X9_attempt mc ms) [.ref (a 0), zI p1, zI p2] (WC G a u0) mc ms (Po (WC G a) post) := by
  refine Ct.of (by decide) (Nat.le_of_ble_eq_true rfl) ?_
  intro p e s m args below meth c ls X hr hlk K g h hl
  have hl : lv_has ls 4 [(0, .ref (a 0)), (1, zI p1), (2, zI p2)] := hl
  obtain ⟨H, hH⟩ : ∃ H, H = s.heap := ⟨_, rfl⟩
  obtain ⟨locs, hL⟩ : ∃ L : List Loc, L = [] := ⟨_, rfl⟩
  replace h : HW G (va_A (WC G a u0) s.heap.size) s.heap (WC G a u0) H locs := by rw [hH, hL]; exact h
  suffices hg : W p l e (rm_X9_attempt mc ms) s m args below meth c H locs 0 0 (EndI G (WC G a u0) (Po (WC G a) post) args s mc ms below) (F0 m 0 ls []) by rw [hH, hL] at hg; exact hg
  clear hH hL
  refine z_aload_n X hl 0 rfl rfl dX9_attempt_0 ?_
  refine gC_X9_editor X K h q_306 dX9_attempt_1 ?_
  refine gC_X1_done (x := sI u0 4) X K h rfl q_247 dX9_attempt_4 ?_
  refine z_aload_n X hl 0 rfl rfl dX9_attempt_7 ?_
  refine gC_X9_scriptStart (x := sI u0 0) X K h rfl q_309 dX9_attempt_8 ?_
  refine z_isub X dX9_attempt_11 ?_
  refine z_sipush (v := 300) X dX9_attempt_12 (by decide) ?_
  obtain ⟨h1, hw⟩ := hw
  refine z_icmp_lt (tgt := 21) X h1 (by decide) dX9_attempt_15 (by decide) (fun c2 => ?_) (fun c2 => ?_)
  · replace hw := hw.1 c2
    refine z_iload_n X hl 1 rfl rfl dX9_attempt_21 ?_
    obtain ⟨h3, hw⟩ := hw
    by_cases c12 : p1 = 37
    · replace hw := hw.1 c12
      refine z_top c12 ?_
      refine lv_tableIn (off := 153) (tgt := 175) X.1 X.2.1 dX9_attempt_22 (by decide) (by decide) (by decide) (by decide) ?_
      refine z_aload_n X hl 0 rfl rfl dX9_attempt_175 ?_
      refine gC_X9_editor X K h q_306 dX9_attempt_176 ?_
      obtain ⟨a5, b6, hk7, hs8, hw⟩ := hw
      refine r_callVi (rest := []) X K g h (ct_X1_cross a5 b6 u0 _ hw) lk_X9_67 1 rfl rfl ⟨rfl, rfl⟩ ⟨Nat.le_of_ble_eq_true rfl, Nat.le_of_ble_eq_true rfl⟩ rfl (lv_size hl) rfl (Nat.le_of_ble_eq_true rfl) dX9_attempt_179 ⟨hk7, hs8⟩ (fun z4 w' H locs hp h => ?_)
      obtain ⟨u9, rfl, hw⟩ := hp
      refine z_istore_n (i := 3) (lv' := [(3, zI z4), (0, .ref (a 0)), (1, zI p1), (2, zI p2)]) X hl rfl (by decide) dX9_attempt_182 rfl (fun ls hl => ?_)
      refine z_goto (tgt := 245) X dX9_attempt_183 (by decide) ?_
      refine z_iload_n X hl 0 rfl rfl dX9_attempt_245 ?_
      obtain ⟨h10, hw⟩ := hw
      refine z_if_ge (tgt := 253) X h10 dX9_attempt_246 (by decide) (fun c11 => ?_) (fun c11 => ?_)
      · replace hw := hw.1 c11
        refine z_iconst X dX9_attempt_253 ?_
        exact r_iret X hr hlk K h hk7 hs8 dX9_attempt_254 ⟨_, rfl, hw⟩
      · replace hw := hw.2 c11
        refine z_iload_n X hl 0 rfl rfl dX9_attempt_249 ?_
        refine z_goto (tgt := 254) X dX9_attempt_250 (by decide) ?_
        exact r_iret X hr hlk K h hk7 hs8 dX9_attempt_254 ⟨_, rfl, hw⟩
    · by_cases c21 : p1 = 43
      · replace hw := hw.2.1 c21
        refine z_top c21 ?_
        refine lv_tableIn (off := 164) (tgt := 186) X.1 X.2.1 dX9_attempt_22 (by decide) (by decide) (by decide) (by decide) ?_
        refine z_aload_n X hl 0 rfl rfl dX9_attempt_186 ?_
        refine gC_X9_editor X K h q_306 dX9_attempt_187 ?_
        refine z_iload_n X hl 2 rfl rfl dX9_attempt_190 ?_
        obtain ⟨a14, b15, hk16, hs17, hw⟩ := hw
        refine r_callVi (rest := []) X K g h (ct_X1_insert a14 b15 u0 p2 _ hw) lk_X9_49 1 rfl rfl ⟨rfl, rfl⟩ ⟨Nat.le_of_ble_eq_true rfl, Nat.le_of_ble_eq_true rfl⟩ rfl (lv_size hl) rfl (Nat.le_of_ble_eq_true rfl) dX9_attempt_191 ⟨hk16, hs17⟩ (fun z13 w' H locs hp h => ?_)
        obtain ⟨u18, rfl, hw⟩ := hp
        refine z_istore_n (i := 3) (lv' := [(3, zI z13), (0, .ref (a 0)), (1, zI p1), (2, zI p2)]) X hl rfl (by decide) dX9_attempt_194 rfl (fun ls hl => ?_)
        refine z_goto (tgt := 245) X dX9_attempt_195 (by decide) ?_
        refine z_iload_n X hl 0 rfl rfl dX9_attempt_245 ?_
        obtain ⟨h19, hw⟩ := hw
        refine z_if_ge (tgt := 253) X h19 dX9_attempt_246 (by decide) (fun c20 => ?_) (fun c20 => ?_)
        · replace hw := hw.1 c20
          refine z_iconst X dX9_attempt_253 ?_
          exact r_iret X hr hlk K h hk16 hs17 dX9_attempt_254 ⟨_, rfl, hw⟩
        · replace hw := hw.2 c20
          refine z_iload_n X hl 0 rfl rfl dX9_attempt_249 ?_
          refine z_goto (tgt := 254) X dX9_attempt_250 (by decide) ?_
          exact r_iret X hr hlk K h hk16 hs17 dX9_attempt_254 ⟨_, rfl, hw⟩
      · by_cases c26 : p1 = 44
        · replace hw := hw.2.2.1 c26
          refine z_top c26 ?_
          refine lv_tableIn (off := 130) (tgt := 152) X.1 X.2.1 dX9_attempt_22 (by decide) (by decide) (by decide) (by decide) ?_
          refine z_aload_n X hl 0 rfl rfl dX9_attempt_152 ?_
          refine gC_X9_editor X K h q_306 dX9_attempt_153 ?_
          refine z_iconst X dX9_attempt_156 ?_
          refine r_callVi (rest := []) X K g h (ct_X1_pass u0 1 _ hw) lk_X9_41 1 rfl rfl ⟨rfl, rfl⟩ ⟨Nat.le_of_ble_eq_true rfl, Nat.le_of_ble_eq_true rfl⟩ rfl (lv_size hl) rfl (Nat.le_of_ble_eq_true rfl) dX9_attempt_157 ⟨(Nat.zero_le _), (Nat.zero_le _)⟩ (fun z22 w' H locs hp h => ?_)
          obtain ⟨u23, rfl, hw⟩ := hp
          refine z_istore_n (i := 3) (lv' := [(3, zI z22), (0, .ref (a 0)), (1, zI p1), (2, zI p2)]) X hl rfl (by decide) dX9_attempt_160 rfl (fun ls hl => ?_)
          refine z_goto (tgt := 245) X dX9_attempt_161 (by decide) ?_
          refine z_iload_n X hl 0 rfl rfl dX9_attempt_245 ?_
          obtain ⟨h24, hw⟩ := hw
          refine z_if_ge (tgt := 253) X h24 dX9_attempt_246 (by decide) (fun c25 => ?_) (fun c25 => ?_)
          · replace hw := hw.1 c25
            refine z_iconst X dX9_attempt_253 ?_
            exact r_iret X hr hlk K h (Nat.zero_le _) (Nat.zero_le _) dX9_attempt_254 ⟨_, rfl, hw⟩
          · replace hw := hw.2 c25
            refine z_iload_n X hl 0 rfl rfl dX9_attempt_249 ?_
            refine z_goto (tgt := 254) X dX9_attempt_250 (by decide) ?_
            exact r_iret X hr hlk K h (Nat.zero_le _) (Nat.zero_le _) dX9_attempt_254 ⟨_, rfl, hw⟩
        · by_cases c31 : p1 = 45
          · replace hw := hw.2.2.2.1 c31
            refine z_top c31 ?_
            refine lv_tableIn (off := 142) (tgt := 164) X.1 X.2.1 dX9_attempt_22 (by decide) (by decide) (by decide) (by decide) ?_
            refine z_aload_n X hl 0 rfl rfl dX9_attempt_164 ?_
            refine gC_X9_editor X K h q_306 dX9_attempt_165 ?_
            refine r_callVi (rest := []) X K g h (ct_X1_drop u0 _ hw) lk_X9_56 1 rfl rfl ⟨rfl, rfl⟩ ⟨Nat.le_of_ble_eq_true rfl, Nat.le_of_ble_eq_true rfl⟩ rfl (lv_size hl) rfl (Nat.le_of_ble_eq_true rfl) dX9_attempt_168 ⟨(Nat.zero_le _), (Nat.zero_le _)⟩ (fun z27 w' H locs hp h => ?_)
            obtain ⟨u28, rfl, hw⟩ := hp
            refine z_istore_n (i := 3) (lv' := [(3, zI z27), (0, .ref (a 0)), (1, zI p1), (2, zI p2)]) X hl rfl (by decide) dX9_attempt_171 rfl (fun ls hl => ?_)
            refine z_goto (tgt := 245) X dX9_attempt_172 (by decide) ?_
            refine z_iload_n X hl 0 rfl rfl dX9_attempt_245 ?_
            obtain ⟨h29, hw⟩ := hw
            refine z_if_ge (tgt := 253) X h29 dX9_attempt_246 (by decide) (fun c30 => ?_) (fun c30 => ?_)
            · replace hw := hw.1 c30
              refine z_iconst X dX9_attempt_253 ?_
              exact r_iret X hr hlk K h (Nat.zero_le _) (Nat.zero_le _) dX9_attempt_254 ⟨_, rfl, hw⟩
            · replace hw := hw.2 c30
              refine z_iload_n X hl 0 rfl rfl dX9_attempt_249 ?_
              refine z_goto (tgt := 254) X dX9_attempt_250 (by decide) ?_
              exact r_iret X hr hlk K h (Nat.zero_le _) (Nat.zero_le _) dX9_attempt_254 ⟨_, rfl, hw⟩
          · by_cases c36 : p1 = 46
            · replace hw := hw.2.2.2.2.1 c36
              refine z_top c36 ?_
              refine lv_tableIn (off := 118) (tgt := 140) X.1 X.2.1 dX9_attempt_22 (by decide) (by decide) (by decide) (by decide) ?_
              refine z_aload_n X hl 0 rfl rfl dX9_attempt_140 ?_
              refine gC_X9_editor X K h q_306 dX9_attempt_141 ?_
              refine z_iconst X dX9_attempt_144 ?_
              refine r_callVi (rest := []) X K g h (ct_X1_pass u0 0 _ hw) lk_X9_41 1 rfl rfl ⟨rfl, rfl⟩ ⟨Nat.le_of_ble_eq_true rfl, Nat.le_of_ble_eq_true rfl⟩ rfl (lv_size hl) rfl (Nat.le_of_ble_eq_true rfl) dX9_attempt_145 ⟨(Nat.zero_le _), (Nat.zero_le _)⟩ (fun z32 w' H locs hp h => ?_)
              obtain ⟨u33, rfl, hw⟩ := hp
              refine z_istore_n (i := 3) (lv' := [(3, zI z32), (0, .ref (a 0)), (1, zI p1), (2, zI p2)]) X hl rfl (by decide) dX9_attempt_148 rfl (fun ls hl => ?_)
              refine z_goto (tgt := 245) X dX9_attempt_149 (by decide) ?_
              refine z_iload_n X hl 0 rfl rfl dX9_attempt_245 ?_
              obtain ⟨h34, hw⟩ := hw
              refine z_if_ge (tgt := 253) X h34 dX9_attempt_246 (by decide) (fun c35 => ?_) (fun c35 => ?_)
              · replace hw := hw.1 c35
                refine z_iconst X dX9_attempt_253 ?_
                exact r_iret X hr hlk K h (Nat.zero_le _) (Nat.zero_le _) dX9_attempt_254 ⟨_, rfl, hw⟩
              · replace hw := hw.2 c35
                refine z_iload_n X hl 0 rfl rfl dX9_attempt_249 ?_
                refine z_goto (tgt := 254) X dX9_attempt_250 (by decide) ?_
                exact r_iret X hr hlk K h (Nat.zero_le _) (Nat.zero_le _) dX9_attempt_254 ⟨_, rfl, hw⟩
            · by_cases c41 : p1 = 60
              · replace hw := hw.2.2.2.2.2.1 c41
                refine z_top c41 ?_
                refine lv_tableIn (off := 201) (tgt := 223) X.1 X.2.1 dX9_attempt_22 (by decide) (by decide) (by decide) (by decide) ?_
                refine z_aload_n X hl 0 rfl rfl dX9_attempt_223 ?_
                refine gC_X9_editor X K h q_306 dX9_attempt_224 ?_
                refine z_iload_n X hl 2 rfl rfl dX9_attempt_227 ?_
                refine z_iconst X dX9_attempt_228 ?_
                refine r_callVi (rest := []) X K g h (ct_X1_seek u0 p2 1 _ hw) lk_X9_63 1 rfl rfl ⟨rfl, rfl⟩ ⟨Nat.le_of_ble_eq_true rfl, Nat.le_of_ble_eq_true rfl⟩ rfl (lv_size hl) rfl (Nat.le_of_ble_eq_true rfl) dX9_attempt_229 ⟨(Nat.zero_le _), (Nat.zero_le _)⟩ (fun z37 w' H locs hp h => ?_)
                obtain ⟨u38, rfl, hw⟩ := hp
                refine z_istore_n (i := 3) (lv' := [(3, zI z37), (0, .ref (a 0)), (1, zI p1), (2, zI p2)]) X hl rfl (by decide) dX9_attempt_232 rfl (fun ls hl => ?_)
                refine z_goto (tgt := 245) X dX9_attempt_233 (by decide) ?_
                refine z_iload_n X hl 0 rfl rfl dX9_attempt_245 ?_
                obtain ⟨h39, hw⟩ := hw
                refine z_if_ge (tgt := 253) X h39 dX9_attempt_246 (by decide) (fun c40 => ?_) (fun c40 => ?_)
                · replace hw := hw.1 c40
                  refine z_iconst X dX9_attempt_253 ?_
                  exact r_iret X hr hlk K h (Nat.zero_le _) (Nat.zero_le _) dX9_attempt_254 ⟨_, rfl, hw⟩
                · replace hw := hw.2 c40
                  refine z_iload_n X hl 0 rfl rfl dX9_attempt_249 ?_
                  refine z_goto (tgt := 254) X dX9_attempt_250 (by decide) ?_
                  exact r_iret X hr hlk K h (Nat.zero_le _) (Nat.zero_le _) dX9_attempt_254 ⟨_, rfl, hw⟩
              · by_cases c50 : p1 = 61
                · replace hw := hw.2.2.2.2.2.2.1 c50
                  refine z_top c50 ?_
                  refine lv_tableIn (off := 176) (tgt := 198) X.1 X.2.1 dX9_attempt_22 (by decide) (by decide) (by decide) (by decide) ?_
                  refine z_aload_n X hl 0 rfl rfl dX9_attempt_198 ?_
                  refine gC_X9_editor X K h q_306 dX9_attempt_199 ?_
                  refine z_iload_n X hl 2 rfl rfl dX9_attempt_202 ?_
                  obtain ⟨a43, b44, hk45, hs46, hw⟩ := hw
                  refine r_callVi (rest := []) X K g h (ct_X1_exchange a43 b44 u0 p2 _ hw) lk_X9_53 1 rfl rfl ⟨rfl, rfl⟩ ⟨Nat.le_of_ble_eq_true rfl, Nat.le_of_ble_eq_true rfl⟩ rfl (lv_size hl) rfl (Nat.le_of_ble_eq_true rfl) dX9_attempt_203 ⟨hk45, hs46⟩ (fun z42 w' H locs hp h => ?_)
                  obtain ⟨u47, rfl, hw⟩ := hp
                  refine z_istore_n (i := 3) (lv' := [(3, zI z42), (0, .ref (a 0)), (1, zI p1), (2, zI p2)]) X hl rfl (by decide) dX9_attempt_206 rfl (fun ls hl => ?_)
                  refine z_goto (tgt := 245) X dX9_attempt_207 (by decide) ?_
                  refine z_iload_n X hl 0 rfl rfl dX9_attempt_245 ?_
                  obtain ⟨h48, hw⟩ := hw
                  refine z_if_ge (tgt := 253) X h48 dX9_attempt_246 (by decide) (fun c49 => ?_) (fun c49 => ?_)
                  · replace hw := hw.1 c49
                    refine z_iconst X dX9_attempt_253 ?_
                    exact r_iret X hr hlk K h hk45 hs46 dX9_attempt_254 ⟨_, rfl, hw⟩
                  · replace hw := hw.2 c49
                    refine z_iload_n X hl 0 rfl rfl dX9_attempt_249 ?_
                    refine z_goto (tgt := 254) X dX9_attempt_250 (by decide) ?_
                    exact r_iret X hr hlk K h hk45 hs46 dX9_attempt_254 ⟨_, rfl, hw⟩
                · by_cases c55 : p1 = 62
                  · replace hw := hw.2.2.2.2.2.2.2.1 c55
                    refine z_top c55 ?_
                    refine lv_tableIn (off := 188) (tgt := 210) X.1 X.2.1 dX9_attempt_22 (by decide) (by decide) (by decide) (by decide) ?_
                    refine z_aload_n X hl 0 rfl rfl dX9_attempt_210 ?_
                    refine gC_X9_editor X K h q_306 dX9_attempt_211 ?_
                    refine z_iload_n X hl 2 rfl rfl dX9_attempt_214 ?_
                    refine z_iconst X dX9_attempt_215 ?_
                    refine r_callVi (rest := []) X K g h (ct_X1_seek u0 p2 0 _ hw) lk_X9_63 1 rfl rfl ⟨rfl, rfl⟩ ⟨Nat.le_of_ble_eq_true rfl, Nat.le_of_ble_eq_true rfl⟩ rfl (lv_size hl) rfl (Nat.le_of_ble_eq_true rfl) dX9_attempt_216 ⟨(Nat.zero_le _), (Nat.zero_le _)⟩ (fun z51 w' H locs hp h => ?_)
                    obtain ⟨u52, rfl, hw⟩ := hp
                    refine z_istore_n (i := 3) (lv' := [(3, zI z51), (0, .ref (a 0)), (1, zI p1), (2, zI p2)]) X hl rfl (by decide) dX9_attempt_219 rfl (fun ls hl => ?_)
                    refine z_goto (tgt := 245) X dX9_attempt_220 (by decide) ?_
                    refine z_iload_n X hl 0 rfl rfl dX9_attempt_245 ?_
                    obtain ⟨h53, hw⟩ := hw
                    refine z_if_ge (tgt := 253) X h53 dX9_attempt_246 (by decide) (fun c54 => ?_) (fun c54 => ?_)
                    · replace hw := hw.1 c54
                      refine z_iconst X dX9_attempt_253 ?_
                      exact r_iret X hr hlk K h (Nat.zero_le _) (Nat.zero_le _) dX9_attempt_254 ⟨_, rfl, hw⟩
                    · replace hw := hw.2 c54
                      refine z_iload_n X hl 0 rfl rfl dX9_attempt_249 ?_
                      refine z_goto (tgt := 254) X dX9_attempt_250 (by decide) ?_
                      exact r_iret X hr hlk K h (Nat.zero_le _) (Nat.zero_le _) dX9_attempt_254 ⟨_, rfl, hw⟩
                  · replace hw := hw.2.2.2.2.2.2.2.2 (by omega)
                    refine z_tableOut (tgt := 236) X h3 dX9_attempt_22 (by decide) (by rcases (show (p1 < 37 ∨ 62 < p1) ∨ p1 = 38 ∨ p1 = 39 ∨ p1 = 40 ∨ p1 = 41 ∨ p1 = 42 ∨ p1 = 47 ∨ p1 = 48 ∨ p1 = 49 ∨ p1 = 50 ∨ p1 = 51 ∨ p1 = 52 ∨ p1 = 53 ∨ p1 = 54 ∨ p1 = 55 ∨ p1 = 56 ∨ p1 = 57 ∨ p1 = 58 ∨ p1 = 59 by omega) with o61 | o61 | o61 | o61 | o61 | o61 | o61 | o61 | o61 | o61 | o61 | o61 | o61 | o61 | o61 | o61 | o61 | o61 | o61 <;> first | exact Or.inl o61 | exact Or.inr ⟨1, by omega, by decide, rfl⟩ | exact Or.inr ⟨2, by omega, by decide, rfl⟩ | exact Or.inr ⟨3, by omega, by decide, rfl⟩ | exact Or.inr ⟨4, by omega, by decide, rfl⟩ | exact Or.inr ⟨5, by omega, by decide, rfl⟩ | exact Or.inr ⟨10, by omega, by decide, rfl⟩ | exact Or.inr ⟨11, by omega, by decide, rfl⟩ | exact Or.inr ⟨12, by omega, by decide, rfl⟩ | exact Or.inr ⟨13, by omega, by decide, rfl⟩ | exact Or.inr ⟨14, by omega, by decide, rfl⟩ | exact Or.inr ⟨15, by omega, by decide, rfl⟩ | exact Or.inr ⟨16, by omega, by decide, rfl⟩ | exact Or.inr ⟨17, by omega, by decide, rfl⟩ | exact Or.inr ⟨18, by omega, by decide, rfl⟩ | exact Or.inr ⟨19, by omega, by decide, rfl⟩ | exact Or.inr ⟨20, by omega, by decide, rfl⟩ | exact Or.inr ⟨21, by omega, by decide, rfl⟩ | exact Or.inr ⟨22, by omega, by decide, rfl⟩ ) ?_
                    refine z_aload_n X hl 0 rfl rfl dX9_attempt_236 ?_
                    refine gC_X9_editor X K h q_306 dX9_attempt_237 ?_
                    refine z_iload_n X hl 2 rfl rfl dX9_attempt_240 ?_
                    refine r_callVi (rest := []) X K g h (ct_X1_go u0 p2 _ hw) lk_X9_60 1 rfl rfl ⟨rfl, rfl⟩ ⟨Nat.le_of_ble_eq_true rfl, Nat.le_of_ble_eq_true rfl⟩ rfl (lv_size hl) rfl (Nat.le_of_ble_eq_true rfl) dX9_attempt_241 ⟨(Nat.zero_le _), (Nat.zero_le _)⟩ (fun z56 w' H locs hp h => ?_)
                    obtain ⟨u57, rfl, hw⟩ := hp
                    refine z_istore_n (i := 3) (lv' := [(3, zI z56), (0, .ref (a 0)), (1, zI p1), (2, zI p2)]) X hl rfl (by decide) dX9_attempt_244 rfl (fun ls hl => ?_)
                    refine z_iload_n X hl 0 rfl rfl dX9_attempt_245 ?_
                    obtain ⟨h58, hw⟩ := hw
                    refine z_if_ge (tgt := 253) X h58 dX9_attempt_246 (by decide) (fun c59 => ?_) (fun c59 => ?_)
                    · replace hw := hw.1 c59
                      refine z_iconst X dX9_attempt_253 ?_
                      exact r_iret X hr hlk K h (Nat.zero_le _) (Nat.zero_le _) dX9_attempt_254 ⟨_, rfl, hw⟩
                    · replace hw := hw.2 c59
                      refine z_iload_n X hl 0 rfl rfl dX9_attempt_249 ?_
                      refine z_goto (tgt := 254) X dX9_attempt_250 (by decide) ?_
                      exact r_iret X hr hlk K h (Nat.zero_le _) (Nat.zero_le _) dX9_attempt_254 ⟨_, rfl, hw⟩
  · replace hw := hw.2 c2
    refine z_bipush (v := (-6)) X dX9_attempt_18 (by decide) ?_
    exact r_iret X hr hlk K h (Nat.zero_le _) (Nat.zero_le _) dX9_attempt_20 ⟨_, rfl, hw⟩
