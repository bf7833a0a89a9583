/-! the reference: what each method needs, and its contract -/
def w_X10_thrown (post : Int → Prop) (u0 : St) : Prop :=
post (sI u0 0)
abbrev rm_X10_thrown : Room := { frames := 0, cells := 0, slots := 0, locals := 0 }
set_option maxRecDepth 100000 in
set_option maxHeartbeats 4000000 in
theorem ct_X10_thrown {l : Launch} {G : Gr} {a : Nat → Nat} (u0 : St) (post : Int → Prop) (hw : w_X10_thrown post u0) : Ct l G yX10_thrown (ws_ yX10_thrown cX10_thrown 1 (some .int)) rm_X10_thrown [.ref (a 0)] (WM G a u0) 0 0 (PoP (WM G a u0) post) := by
  refine Ct.of (by decide) (Nat.le_of_ble_eq_true rfl) ?_
  intro p e s m args below meth c ls X hr hlk K g h hl
  have hl : lv_has ls 1 [(0, .ref (a 0))] := hl
  obtain ⟨H, hH⟩ : ∃ H, H = s.heap := ⟨_, rfl⟩
  obtain ⟨locs, hL⟩ : ∃ L : List Loc, L = [] := ⟨_, rfl⟩
  replace h : HW G (va_A (WM G a u0) s.heap.size) s.heap (WM G a u0) H locs := by rw [hH, hL]; exact h
  suffices hg : W p l e rm_X10_thrown s m args below meth c H locs 0 0 (EndI G (WM G a u0) (PoP (WM G a u0) post) args s 0 0 below) (F0 m 0 ls []) by rw [hH, hL] at hg; exact hg
  clear hH hL
  refine z_aload_n X hl 0 rfl rfl dX10_thrown_0 ?_
  refine gM_X10_thrown (x := sI u0 0) X K h rfl q_1339 dX10_thrown_1 ?_
  exact r_iret X hr hlk K h (Nat.le_refl _) (Nat.le_refl _) dX10_thrown_4 ⟨rfl, hw⟩
def w_X10_in (post : Int → Prop) (p0 : Int) (p1 : Int) (p2 : Int) : Prop :=
(InR p0) ∧ (InR p1) ∧ ((p0 < p1 → post 0) ∧
 (¬ p0 < p1 → (InR p2) ∧ ((p2 < p0 → post 0) ∧
 (¬ p2 < p0 → post 1))))
abbrev rm_X10_in : Room := { frames := 0, cells := 0, slots := 0, locals := 0 }
set_option maxRecDepth 100000 in
set_option maxHeartbeats 4000000 in
theorem ct_X10_in {l : Launch} {G : Gr} {w : va_W} (p0 : Int) (p1 : Int) (p2 : Int) (post : Int → Prop) (hw : w_X10_in post p0 p1 p2) : Ct l G yX10_in (ws_ yX10_in cX10_in 3 (some .boolean)) rm_X10_in [zI p0, zI p1, zI p2] w 0 0 (PoP w post) := by
  refine Ct.of (by decide) (Nat.le_of_ble_eq_true rfl) ?_
  intro p e s m args below meth c ls X hr hlk K g h hl
  have hl : lv_has ls 3 [(0, zI p0), (1, zI p1), (2, zI p2)] := hl
  obtain ⟨H, hH⟩ : ∃ H, H = s.heap := ⟨_, rfl⟩
  obtain ⟨locs, hL⟩ : ∃ L : List Loc, L = [] := ⟨_, rfl⟩
  replace h : HW G (va_A w s.heap.size) s.heap (w) H locs := by rw [hH, hL]; exact h
  suffices hg : W p l e rm_X10_in s m args below meth c H locs 0 0 (EndI G w (PoP w post) args s 0 0 below) (F0 m 0 ls []) by rw [hH, hL] at hg; exact hg
  clear hH hL
  refine z_iload_n X hl 0 rfl rfl dX10_in_0 ?_
  refine z_iload_n X hl 1 rfl rfl dX10_in_1 ?_
  obtain ⟨h1, h2, hw⟩ := hw
  refine z_icmp_lt (tgt := 14) X h1 h2 dX10_in_2 (by decide) (fun c3 => ?_) (fun c3 => ?_)
  · replace hw := hw.1 c3
    refine z_iconst X dX10_in_14 ?_
    exact r_zret X hr hlk K h (Nat.le_refl _) (Nat.le_refl _) dX10_in_15 (by decide) ⟨rfl, hw⟩
  · replace hw := hw.2 c3
    refine z_iload_n X hl 0 rfl rfl dX10_in_5 ?_
    refine z_iload_n X hl 2 rfl rfl dX10_in_6 ?_
    obtain ⟨h4, hw⟩ := hw
    refine z_icmp_gt (tgt := 14) X h1 h4 dX10_in_7 (by decide) (fun c5 => ?_) (fun c5 => ?_)
    · replace hw := hw.1 c5
      refine z_iconst X dX10_in_14 ?_
      exact r_zret X hr hlk K h (Nat.le_refl _) (Nat.le_refl _) dX10_in_15 (by decide) ⟨rfl, hw⟩
    · replace hw := hw.2 c5
      refine z_iconst X dX10_in_10 ?_
      refine z_goto (tgt := 15) X dX10_in_11 (by decide) ?_
      exact r_zret X hr hlk K h (Nat.le_refl _) (Nat.le_refl _) dX10_in_15 (by decide) ⟨rfl, hw⟩
def w_X10_fails (post : Int → St → Prop) (u0 : St) (p1 : Int) (p2 : Int) : Prop :=
(InR p1) ∧ ((¬ p1 = 0 → (InR (sI u0 0)) ∧ ((sI u0 0 = 0 → post 0 u0) ∧
 (¬ sI u0 0 = 0 → post 1 u0))) ∧
 (p1 = 0 → (InR (sI u0 0)) ∧ ((¬ sI u0 0 = 0 → post 1 u0) ∧
 (sI u0 0 = 0 → (InR p2) ∧ ((p2 = 0 → post 0 (pI u0 0 p2)) ∧
 (¬ p2 = 0 → post 1 (pI u0 0 p2)))))))
abbrev rm_X10_fails : Room := { frames := 0, cells := 0, slots := 0, locals := 0 }
set_option maxRecDepth 100000 in
set_option maxHeartbeats 4000000 in
theorem ct_X10_fails {l : Launch} {G : Gr} {a : Nat → Nat} (u0 : St) (p1 : Int) (p2 : Int) (post : Int → St → Prop) (hw : w_X10_fails post u0 p1 p2) : Ct l G yX10_fails (ws_ yX10_fails cX10_fails 3 (some .boolean)) rm_X10_fails [.ref (a 0), zI p1, zI p2] (WM G a u0) 0 0 (Po (WM G a) post) := by
  refine Ct.of (by decide) (Nat.le_of_ble_eq_true rfl) ?_
  intro p e s m args below meth c ls X hr hlk K g h hl
  have hl : lv_has ls 3 [(0, .ref (a 0)), (1, zI p1), (2, zI p2)] := hl
  obtain ⟨H, hH⟩ : ∃ H, H = s.heap := ⟨_, rfl⟩
  obtain ⟨locs, hL⟩ : ∃ L : List Loc, L = [] := ⟨_, rfl⟩
  replace h : HW G (va_A (WM G a u0) s.heap.size) s.heap (WM G a u0) H locs := by rw [hH, hL]; exact h
  suffices hg : W p l e rm_X10_fails s m args below meth c H locs 0 0 (EndI G (WM G a u0) (Po (WM G a) post) args s 0 0 below) (F0 m 0 ls []) by rw [hH, hL] at hg; exact hg
  clear hH hL
  refine z_iload_n X hl 1 rfl rfl dX10_fails_0 ?_
  obtain ⟨h1, hw⟩ := hw
  refine z_if_ne (tgt := 16) X h1 dX10_fails_1 (by decide) (fun c2 => ?_) (fun c2 => ?_)
  · replace hw := hw.1 c2
    refine z_aload_n X hl 0 rfl rfl dX10_fails_16 ?_
    refine gM_X10_thrown (x := sI u0 0) X K h rfl q_1339 dX10_fails_17 ?_
    obtain ⟨h3, hw⟩ := hw
    refine z_if_eq (tgt := 27) X h3 dX10_fails_20 (by decide) (fun c4 => ?_) (fun c4 => ?_)
    · replace hw := hw.1 c4
      refine z_iconst X dX10_fails_27 ?_
      exact r_zret X hr hlk K h (Nat.le_refl _) (Nat.le_refl _) dX10_fails_28 (by decide) ⟨_, rfl, hw⟩
    · replace hw := hw.2 c4
      refine z_iconst X dX10_fails_23 ?_
      refine z_goto (tgt := 28) X dX10_fails_24 (by decide) ?_
      exact r_zret X hr hlk K h (Nat.le_refl _) (Nat.le_refl _) dX10_fails_28 (by decide) ⟨_, rfl, hw⟩
  · replace hw := hw.2 c2
    refine z_aload_n X hl 0 rfl rfl dX10_fails_4 ?_
    refine gM_X10_thrown (x := sI u0 0) X K h rfl q_1339 dX10_fails_5 ?_
    obtain ⟨h5, hw⟩ := hw
    refine z_if_ne (tgt := 16) X h5 dX10_fails_8 (by decide) (fun c6 => ?_) (fun c6 => ?_)
    · replace hw := hw.1 c6
      refine z_aload_n X hl 0 rfl rfl dX10_fails_16 ?_
      refine gM_X10_thrown (x := sI u0 0) X K h rfl q_1339 dX10_fails_17 ?_
      refine z_if_eq (tgt := 27) X h5 dX10_fails_20 (by decide) (fun c7 => absurd c7 (by omega)) (fun _ => ?_)
      refine z_iconst X dX10_fails_23 ?_
      refine z_goto (tgt := 28) X dX10_fails_24 (by decide) ?_
      exact r_zret X hr hlk K h (Nat.le_refl _) (Nat.le_refl _) dX10_fails_28 (by decide) ⟨_, rfl, hw⟩
    · replace hw := hw.2 c6
      refine z_aload_n X hl 0 rfl rfl dX10_fails_11 ?_
      refine z_iload_n X hl 2 rfl rfl dX10_fails_12 ?_
      refine pM_X10_thrown X K h q_1339 dX10_fails_13 (fun H locs h => ?_)
      refine z_aload_n X hl 0 rfl rfl dX10_fails_16 ?_
      refine gM_X10_thrown (x := p2) X K h rfl q_1339 dX10_fails_17 ?_
      obtain ⟨h8, hw⟩ := hw
      refine z_if_eq (tgt := 27) X h8 dX10_fails_20 (by decide) (fun c9 => ?_) (fun c9 => ?_)
      · replace hw := hw.1 c9
        refine z_iconst X dX10_fails_27 ?_
        exact r_zret X hr hlk K h (Nat.le_refl _) (Nat.le_refl _) dX10_fails_28 (by decide) ⟨_, rfl, hw⟩
      · replace hw := hw.2 c9
        refine z_iconst X dX10_fails_23 ?_
        refine z_goto (tgt := 28) X dX10_fails_24 (by decide) ?_
        exact r_zret X hr hlk K h (Nat.le_refl _) (Nat.le_refl _) dX10_fails_28 (by decide) ⟨_, rfl, hw⟩
def b_X10_letters_4 (post : Int → Prop) (K4 : Int × Int → Prop) (x1_1 : Int) (x2_2 : Int) : Prop :=
(InR x2_2) ∧ ((x2_2 ≤ 0 → post x1_1) ∧
 (¬ x2_2 ≤ 0 → (0 ≤ x2_2) ∧ K4 (x1_1 + 1, x2_2 / 27)))
def B_X10_letters_4 (post : Int → Prop) : (Int × Int → Prop) → Int × Int → Prop := fun K t => b_X10_letters_4 post K t.1 t.2
def w_X10_letters (post : Int → Prop) (p0 : Int) : Prop :=
(∃ n : Nat, Lp (B_X10_letters_4 post) n (0, p0))
abbrev rm_X10_letters : Room := { frames := 0, cells := 0, slots := 0, locals := 0 }
set_option maxRecDepth 100000 in
set_option maxHeartbeats 4000000 in
theorem ct_X10_letters {l : Launch} {G : Gr} {w : va_W} (p0 : Int) (post : Int → Prop) (hw : w_X10_letters post p0) : Ct l G yX10_letters (ws_ yX10_letters cX10_letters 3 (some .int)) rm_X10_letters [zI p0] w 0 0 (PoP w post) := by
  refine Ct.of (by decide) (Nat.le_of_ble_eq_true rfl) ?_
  intro p e s m args below meth c ls X hr hlk K g h hl
  have hl : lv_has ls 3 [(0, zI p0)] := hl
  obtain ⟨H, hH⟩ : ∃ H, H = s.heap := ⟨_, rfl⟩
  obtain ⟨locs, hL⟩ : ∃ L : List Loc, L = [] := ⟨_, rfl⟩
  replace h : HW G (va_A w s.heap.size) s.heap (w) H locs := by rw [hH, hL]; exact h
  suffices hg : W p l e rm_X10_letters s m args below meth c H locs 0 0 (EndI G w (PoP w post) args s 0 0 below) (F0 m 0 ls []) by rw [hH, hL] at hg; exact hg
  clear hH hL
  refine z_iconst X dX10_letters_0 ?_
  refine z_istore_n (i := 1) (lv' := [(1, zI 0), (0, zI p0)]) X hl rfl (by decide) dX10_letters_1 rfl (fun ls hl => ?_)
  refine z_iload_n X hl 1 rfl rfl dX10_letters_2 ?_
  refine z_istore_n (i := 2) (lv' := [(2, zI p0), (1, zI 0), (0, zI p0)]) X hl rfl (by decide) dX10_letters_3 rfl (fun ls hl => ?_)
  obtain ⟨n4, hw⟩ := hw
  have key4 : ∀ (n : Nat) (t : Int × Int) (H : Heap) (locs : List Loc) (ls : Array Slot), Lp (B_X10_letters_4 post) n t → HW G (va_A w s.heap.size) s.heap (w) H locs → lv_has ls 3 [(1, zI t.1), (2, zI t.2)] → W p l e rm_X10_letters s m args below meth c H locs 0 0 (EndI G w (PoP w post) args s 0 0 below) (F0 m 4 ls []) := by
    intro n
    induction n with
    | zero =>
      intro t H locs ls hw
      exact hw.elim
    | succ n4 ih4 =>
      rintro ⟨x1_1, x2_2⟩ H locs ls hw h hl
      replace hw : b_X10_letters_4 post (Lp (B_X10_letters_4 post) n4) x1_1 x2_2 := hw
      refine z_iload_n X hl 1 rfl rfl dX10_letters_4 ?_
      obtain ⟨h3, hw⟩ := hw
      refine z_if_le (tgt := 19) X h3 dX10_letters_5 (by decide) (fun c4 => ?_) (fun c4 => ?_)
      · replace hw := hw.1 c4
        refine z_iload_n X hl 0 rfl rfl dX10_letters_19 ?_
        exact r_iret X hr hlk K h (Nat.le_refl _) (Nat.le_refl _) dX10_letters_20 ⟨rfl, hw⟩
      · replace hw := hw.2 c4
        refine z_iinc (lv' := [(1, zI (x1_1 + 1)), (2, zI x2_2)]) X hl 0 rfl (by decide) dX10_letters_8 rfl (fun ls hl => ?_)
        refine z_iload_n X hl 1 rfl rfl dX10_letters_11 ?_
        refine z_bipush (v := 27) X dX10_letters_12 (by decide) ?_
        obtain ⟨h5, hw⟩ := hw
        refine z_idiv X h3 (by decide) h5 (by decide) dX10_letters_14 ?_
        refine z_istore_n (i := 2) (lv' := [(2, zI (x2_2 / 27)), (1, zI (x1_1 + 1))]) X hl rfl (by decide) dX10_letters_15 rfl (fun ls hl => ?_)
        refine z_goto (tgt := 4) X dX10_letters_16 (by decide) ?_
        exact ih4 (x1_1 + 1, x2_2 / 27) H locs ls hw h (lv_sub hl [1, 0] rfl)
  exact key4 n4 (0, p0) H locs ls hw h (lv_sub hl [1, 0] rfl)
def b_X10_isWord_2 (post : Int → Prop) (y0_2 : Int) (K2 : Int → Prop) (x1_1 : Int) : Prop :=
(InR x1_1) ∧ ((x1_1 ≤ 0 → (w_X10_letters (fun (z4 : Int) => (w_X10_in (fun (z5 : Int) => (z5 = 0 ∨ z5 = 1) ∧ post z5) z4 1 6)) y0_2)) ∧
 (¬ x1_1 ≤ 0 → (0 ≤ x1_1) ∧ (InR (x1_1 % 27)) ∧ ((¬ x1_1 % 27 = 0 → K2 (x1_1 / 27)) ∧
 (x1_1 % 27 = 0 → post 0))))
def B_X10_isWord_2 (post : Int → Prop) (y0_2 : Int) : (Int → Prop) → Int → Prop := fun K t => b_X10_isWord_2 post y0_2 K t
def w_X10_isWord (post : Int → Prop) (p0 : Int) : Prop :=
(∃ n : Nat, Lp (B_X10_isWord_2 post p0) n p0)
abbrev rm_X10_isWord : Room := { frames := 1, cells := 0, slots := 0, locals := 22 }
set_option maxRecDepth 100000 in
set_option maxHeartbeats 4000000 in
theorem ct_X10_isWord {l : Launch} {G : Gr} {w : va_W} (p0 : Int) (post : Int → Prop) (hw : w_X10_isWord post p0) : Ct l G yX10_isWord (ws_ yX10_isWord cX10_isWord 2 (some .boolean)) rm_X10_isWord [zI p0] w 0 0 (PoP w post) := by
  refine Ct.of (by decide) (Nat.le_of_ble_eq_true rfl) ?_
  intro p e s m args below meth c ls X hr hlk K g h hl
  have hl : lv_has ls 2 [(0, zI p0)] := hl
  obtain ⟨H, hH⟩ : ∃ H, H = s.heap := ⟨_, rfl⟩
  obtain ⟨locs, hL⟩ : ∃ L : List Loc, L = [] := ⟨_, rfl⟩
  replace h : HW G (va_A w s.heap.size) s.heap (w) H locs := by rw [hH, hL]; exact h
  suffices hg : W p l e rm_X10_isWord s m args below meth c H locs 0 0 (EndI G w (PoP w post) args s 0 0 below) (F0 m 0 ls []) by rw [hH, hL] at hg; exact hg
  clear hH hL
  refine z_iload_n X hl 0 rfl rfl dX10_isWord_0 ?_
  refine z_istore_n (i := 1) (lv' := [(1, zI p0), (0, zI p0)]) X hl rfl (by decide) dX10_isWord_1 rfl (fun ls hl => ?_)
  obtain ⟨n2, hw⟩ := hw
  have key2 : ∀ (n : Nat) (t : Int) (H : Heap) (locs : List Loc) (ls : Array Slot), Lp (B_X10_isWord_2 post p0) n t → HW G (va_A w s.heap.size) s.heap (w) H locs → lv_has ls 2 [(0, zI p0), (1, zI t)] → W p l e rm_X10_isWord s m args below meth c H locs 0 0 (EndI G w (PoP w post) args s 0 0 below) (F0 m 2 ls []) := by
    intro n
    induction n with
    | zero =>
      intro t H locs ls hw
      exact hw.elim
    | succ n2 ih2 =>
      intro x1_1 H locs ls hw h hl
      replace hw : b_X10_isWord_2 post p0 (Lp (B_X10_isWord_2 post p0) n2) x1_1 := hw
      refine z_iload_n X hl 1 rfl rfl dX10_isWord_2 ?_
      obtain ⟨h2, hw⟩ := hw
      refine z_if_le (tgt := 23) X h2 dX10_isWord_3 (by decide) (fun c3 => ?_) (fun c3 => ?_)
      · replace hw := hw.1 c3
        refine z_iload_n X hl 0 rfl rfl dX10_isWord_23 ?_
        refine r_callSi (rest := []) X K g h (ct_X10_letters (w := w) p0 _ hw) lk_X10_62 ⟨rfl, rfl⟩ ⟨Nat.le_of_ble_eq_true rfl, Nat.le_of_ble_eq_true rfl⟩ rfl (lv_size hl) rfl (Nat.le_of_ble_eq_true rfl) dX10_isWord_24 ⟨Nat.le_of_ble_eq_true rfl, Nat.le_of_ble_eq_true rfl⟩ (fun z4 w' H locs hp h => ?_)
        obtain ⟨hww, hw⟩ := hp
        rw [hww] at h
        refine z_iconst X dX10_isWord_27 ?_
        refine z_bipush (v := 6) X dX10_isWord_28 (by decide) ?_
        refine r_callSi (rest := []) X K g h (ct_X10_in (w := w) z4 1 6 _ hw) lk_X10_66 ⟨rfl, rfl⟩ ⟨Nat.le_of_ble_eq_true rfl, Nat.le_of_ble_eq_true rfl⟩ rfl (lv_size hl) rfl (Nat.le_of_ble_eq_true rfl) dX10_isWord_30 ⟨Nat.le_of_ble_eq_true rfl, Nat.le_of_ble_eq_true rfl⟩ (fun z5 w' H locs hp h => ?_)
        obtain ⟨hww, hw⟩ := hp
        rw [hww] at h
        obtain ⟨h6, hw⟩ := hw
        exact r_zret X hr hlk K h (Nat.le_refl _) (Nat.le_refl _) dX10_isWord_33 h6 ⟨rfl, hw⟩
      · replace hw := hw.2 c3
        refine z_iload_n X hl 1 rfl rfl dX10_isWord_6 ?_
        refine z_bipush (v := 27) X dX10_isWord_7 (by decide) ?_
        obtain ⟨h7, hw⟩ := hw
        refine z_irem X h2 (by decide) h7 (by decide) dX10_isWord_9 ?_
        obtain ⟨h8, hw⟩ := hw
        refine z_if_ne (tgt := 15) X h8 dX10_isWord_10 (by decide) (fun c9 => ?_) (fun c9 => ?_)
        · replace hw := hw.1 c9
          refine z_iload_n X hl 1 rfl rfl dX10_isWord_15 ?_
          refine z_bipush (v := 27) X dX10_isWord_16 (by decide) ?_
          refine z_idiv X h2 (by decide) h7 (by decide) dX10_isWord_18 ?_
          refine z_istore_n (i := 1) (lv' := [(1, zI (x1_1 / 27)), (0, zI p0)]) X hl rfl (by decide) dX10_isWord_19 rfl (fun ls hl => ?_)
          refine z_goto (tgt := 2) X dX10_isWord_20 (by decide) ?_
          exact ih2 (x1_1 / 27) H locs ls hw h (lv_sub hl [1, 0] rfl)
        · replace hw := hw.2 c9
          refine z_iconst X dX10_isWord_13 ?_
          exact r_zret X hr hlk K h (Nat.le_refl _) (Nat.le_refl _) dX10_isWord_14 (by decide) ⟨rfl, hw⟩
  exact key2 n2 p0 H locs ls hw h (lv_sub hl [1, 0] rfl)
def w_X10_noWord (post : Int → St → Prop) (u0 : St) (p1 : Int) : Prop :=
(w_X10_isWord (fun (z1 : Int) => (w_X10_fails (fun (z2 : Int) (u3 : St) => (z2 = 0 ∨ z2 = 1) ∧ post z2 u3) u0 z1 1)) p1)
abbrev rm_X10_noWord : Room := { frames := 2, cells := 0, slots := 0, locals := 43 }
set_option maxRecDepth 100000 in
set_option maxHeartbeats 4000000 in
theorem ct_X10_noWord {l : Launch} {G : Gr} {a : Nat → Nat} (u0 : St) (p1 : Int) (post : Int → St → Prop) (hw : w_X10_noWord post u0 p1) : Ct l G yX10_noWord (ws_ yX10_noWord cX10_noWord 2 (some .boolean)) rm_X10_noWord [.ref (a 0), zI p1] (WM G a u0) 0 0 (Po (WM G a) post) := by
  refine Ct.of (by decide) (Nat.le_of_ble_eq_true rfl) ?_
  intro p e s m args below meth c ls X hr hlk K g h hl
  have hl : lv_has ls 2 [(0, .ref (a 0)), (1, zI p1)] := hl
  obtain ⟨H, hH⟩ : ∃ H, H = s.heap := ⟨_, rfl⟩
  obtain ⟨locs, hL⟩ : ∃ L : List Loc, L = [] := ⟨_, rfl⟩
  replace h : HW G (va_A (WM G a u0) s.heap.size) s.heap (WM G a u0) H locs := by rw [hH, hL]; exact h
  suffices hg : W p l e rm_X10_noWord s m args below meth c H locs 0 0 (EndI G (WM G a u0) (Po (WM G a) post) args s 0 0 below) (F0 m 0 ls []) by rw [hH, hL] at hg; exact hg
  clear hH hL
  refine z_aload_n X hl 0 rfl rfl dX10_noWord_0 ?_
  refine z_iload_n X hl 1 rfl rfl dX10_noWord_1 ?_
  refine r_callSi (rest := [.ref (a 0)]) X K g h (ct_X10_isWord (w := WM G a u0) p1 _ hw) lk_X10_70 ⟨rfl, rfl⟩ ⟨Nat.le_of_ble_eq_true rfl, Nat.le_of_ble_eq_true rfl⟩ rfl (lv_size hl) rfl (Nat.le_of_ble_eq_true rfl) dX10_noWord_2 ⟨Nat.le_of_ble_eq_true rfl, Nat.le_of_ble_eq_true rfl⟩ (fun z1 w' H locs hp h => ?_)
  obtain ⟨rfl, hw⟩ := hp
  refine z_iconst X dX10_noWord_5 ?_
  refine r_callVi (rest := []) X K g h (ct_X10_fails u0 z1 1 _ hw) lk_X10_74 0 rfl rfl ⟨rfl, rfl⟩ ⟨Nat.le_of_ble_eq_true rfl, Nat.le_of_ble_eq_true rfl⟩ rfl (lv_size hl) rfl (Nat.le_of_ble_eq_true rfl) dX10_noWord_6 ⟨Nat.le_of_ble_eq_true rfl, Nat.le_of_ble_eq_true rfl⟩ (fun z2 w' H locs hp h => ?_)
  obtain ⟨u3, rfl, hw⟩ := hp
  obtain ⟨h4, hw⟩ := hw
  exact r_zret X hr hlk K h (Nat.le_refl _) (Nat.le_refl _) dX10_noWord_9 h4 ⟨_, rfl, hw⟩
def w_X10_refuses (post : Int → St → Prop) (u0 : St) (p1 : Int) : Prop :=
(0 ≤ 0 - p1) ∧ (0 - p1 < 6) ∧ post p1 (pA u0 2 (0 - p1) ((sA u0 2 (0 - p1)) + 1))
abbrev rm_X10_refuses : Room := { frames := 0, cells := 0, slots := 0, locals := 0 }
set_option maxRecDepth 100000 in
set_option maxHeartbeats 4000000 in
theorem ct_X10_refuses {l : Launch} {G : Gr} {a : Nat → Nat} (u0 : St) (p1 : Int) (post : Int → St → Prop) (hw : w_X10_refuses post u0 p1) : Ct l G yX10_refuses (ws_ yX10_refuses cX10_refuses 2 (some .int)) rm_X10_refuses [.ref (a 0), zI p1] (WM G a u0) 0 0 (Po (WM G a) post) := by
  refine Ct.of (by decide) (Nat.le_of_ble_eq_true rfl) ?_
  intro p e s m args below meth c ls X hr hlk K g h hl
  have hl : lv_has ls 2 [(0, .ref (a 0)), (1, zI p1)] := hl
  obtain ⟨H, hH⟩ : ∃ H, H = s.heap := ⟨_, rfl⟩
  obtain ⟨locs, hL⟩ : ∃ L : List Loc, L = [] := ⟨_, rfl⟩
  replace h : HW G (va_A (WM G a u0) s.heap.size) s.heap (WM G a u0) H locs := by rw [hH, hL]; exact h
  suffices hg : W p l e rm_X10_refuses s m args below meth c H locs 0 0 (EndI G (WM G a u0) (Po (WM G a) post) args s 0 0 below) (F0 m 0 ls []) by rw [hH, hL] at hg; exact hg
  clear hH hL
  refine z_aload_n X hl 0 rfl rfl dX10_refuses_0 ?_
  refine gM_X10_refusals X K h q_1346 dX10_refuses_1 ?_
  refine z_iconst X dX10_refuses_4 ?_
  refine z_iload_n X hl 1 rfl rfl dX10_refuses_5 ?_
  refine z_isub X dX10_refuses_6 ?_
  refine z_dup2 X rfl rfl dX10_refuses_7 ?_
  obtain ⟨h1, h2, hw⟩ := hw
  refine lM_2 (x := sA u0 2 (0 - p1)) X K h h1 h2 rfl dX10_refuses_8 ?_
  refine z_iconst X dX10_refuses_9 ?_
  refine z_iadd X dX10_refuses_10 ?_
  refine sM_2 X K h h1 h2 dX10_refuses_11 (fun H locs h => ?_)
  refine z_iload_n X hl 1 rfl rfl dX10_refuses_12 ?_
  exact r_iret X hr hlk K h (Nat.le_refl _) (Nat.le_refl _) dX10_refuses_13 ⟨_, rfl, hw⟩
def w_X10_many (post : Int → Prop) (u0 : St) : Prop :=
post ((sI u0 1) + (sI u0 2))
abbrev rm_X10_many : Room := { frames := 0, cells := 0, slots := 0, locals := 0 }
set_option maxRecDepth 100000 in
set_option maxHeartbeats 4000000 in
theorem ct_X10_many {l : Launch} {G : Gr} {a : Nat → Nat} (u0 : St) (post : Int → Prop) (hw : w_X10_many post u0) : Ct l G yX10_many (ws_ yX10_many cX10_many 1 (some .int)) rm_X10_many [.ref (a 0)] (WM G a u0) 0 0 (PoP (WM G a u0) post) := by
  refine Ct.of (by decide) (Nat.le_of_ble_eq_true rfl) ?_
  intro p e s m args below meth c ls X hr hlk K g h hl
  have hl : lv_has ls 1 [(0, .ref (a 0))] := hl
  obtain ⟨H, hH⟩ : ∃ H, H = s.heap := ⟨_, rfl⟩
  obtain ⟨locs, hL⟩ : ∃ L : List Loc, L = [] := ⟨_, rfl⟩
  replace h : HW G (va_A (WM G a u0) s.heap.size) s.heap (WM G a u0) H locs := by rw [hH, hL]; exact h
  suffices hg : W p l e rm_X10_many s m args below meth c H locs 0 0 (EndI G (WM G a u0) (PoP (WM G a u0) post) args s 0 0 below) (F0 m 0 ls []) by rw [hH, hL] at hg; exact hg
  clear hH hL
  refine z_aload_n X hl 0 rfl rfl dX10_many_0 ?_
  refine gM_X10_backMany (x := sI u0 1) X K h rfl q_1342 dX10_many_1 ?_
  refine z_aload_n X hl 0 rfl rfl dX10_many_4 ?_
  refine gM_X10_frontMany (x := sI u0 2) X K h rfl q_1343 dX10_many_5 ?_
  refine z_iadd X dX10_many_8 ?_
  exact r_iret X hr hlk K h (Nat.le_refl _) (Nat.le_refl _) dX10_many_9 ⟨rfl, hw⟩
def w_X10_wordIn (post : Int → Prop) (u0 : St) (p1 : Int) : Prop :=
(InR p1) ∧ (InR (sI u0 1)) ∧ ((sI u0 1 ≤ p1 → (0 ≤ ((sI u0 2) - 1) - (p1 - (sI u0 1))) ∧ (((sI u0 2) - 1) - (p1 - (sI u0 1)) < 101) ∧ post (sA u0 1 (((sI u0 2) - 1) - (p1 - (sI u0 1))))) ∧
 (¬ sI u0 1 ≤ p1 → (0 ≤ p1) ∧ (p1 < 101) ∧ post (sA u0 0 p1)))
abbrev rm_X10_wordIn : Room := { frames := 0, cells := 0, slots := 0, locals := 0 }
set_option maxRecDepth 100000 in
set_option maxHeartbeats 4000000 in
theorem ct_X10_wordIn {l : Launch} {G : Gr} {a : Nat → Nat} (u0 : St) (p1 : Int) (post : Int → Prop) (hw : w_X10_wordIn post u0 p1) : Ct l G yX10_wordIn (ws_ yX10_wordIn cX10_wordIn 2 (some .int)) rm_X10_wordIn [.ref (a 0), zI p1] (WM G a u0) 0 0 (PoP (WM G a u0) post) := by
  refine Ct.of (by decide) (Nat.le_of_ble_eq_true rfl) ?_
  intro p e s m args below meth c ls X hr hlk K g h hl
  have hl : lv_has ls 2 [(0, .ref (a 0)), (1, zI p1)] := hl
  obtain ⟨H, hH⟩ : ∃ H, H = s.heap := ⟨_, rfl⟩
  obtain ⟨locs, hL⟩ : ∃ L : List Loc, L = [] := ⟨_, rfl⟩
  replace h : HW G (va_A (WM G a u0) s.heap.size) s.heap (WM G a u0) H locs := by rw [hH, hL]; exact h
  suffices hg : W p l e rm_X10_wordIn s m args below meth c H locs 0 0 (EndI G (WM G a u0) (PoP (WM G a u0) post) args s 0 0 below) (F0 m 0 ls []) by rw [hH, hL] at hg; exact hg
  clear hH hL
  refine z_iload_n X hl 1 rfl rfl dX10_wordIn_0 ?_
  refine z_aload_n X hl 0 rfl rfl dX10_wordIn_1 ?_
  refine gM_X10_backMany (x := sI u0 1) X K h rfl q_1342 dX10_wordIn_2 ?_
  obtain ⟨h1, h2, hw⟩ := hw
  refine z_icmp_ge (tgt := 17) X h1 h2 dX10_wordIn_5 (by decide) (fun c3 => ?_) (fun c3 => ?_)
  · replace hw := hw.1 c3
    refine z_aload_n X hl 0 rfl rfl dX10_wordIn_17 ?_
    refine gM_X10_front X K h q_1341 dX10_wordIn_18 ?_
    refine z_aload_n X hl 0 rfl rfl dX10_wordIn_21 ?_
    refine gM_X10_frontMany (x := sI u0 2) X K h rfl q_1343 dX10_wordIn_22 ?_
    refine z_iconst X dX10_wordIn_25 ?_
    refine z_isub X dX10_wordIn_26 ?_
    refine z_iload_n X hl 1 rfl rfl dX10_wordIn_27 ?_
    refine z_aload_n X hl 0 rfl rfl dX10_wordIn_28 ?_
    refine gM_X10_backMany (x := sI u0 1) X K h rfl q_1342 dX10_wordIn_29 ?_
    refine z_isub X dX10_wordIn_32 ?_
    refine z_isub X dX10_wordIn_33 ?_
    obtain ⟨h4, h5, hw⟩ := hw
    refine lM_1 (x := sA u0 1 (((sI u0 2) - 1) - (p1 - (sI u0 1)))) X K h h4 h5 rfl dX10_wordIn_34 ?_
    exact r_iret X hr hlk K h (Nat.le_refl _) (Nat.le_refl _) dX10_wordIn_35 ⟨rfl, hw⟩
  · replace hw := hw.2 c3
    refine z_aload_n X hl 0 rfl rfl dX10_wordIn_8 ?_
    refine gM_X10_back X K h q_1340 dX10_wordIn_9 ?_
    refine z_iload_n X hl 1 rfl rfl dX10_wordIn_12 ?_
    obtain ⟨h6, h7, hw⟩ := hw
    refine lM_0 (x := sA u0 0 p1) X K h h6 h7 rfl dX10_wordIn_13 ?_
    refine z_goto (tgt := 35) X dX10_wordIn_14 (by decide) ?_
    exact r_iret X hr hlk K h (Nat.le_refl _) (Nat.le_refl _) dX10_wordIn_35 ⟨rfl, hw⟩
def b_X10_keeps_133 (post : St → Prop) (K133 : St × Int → Prop) (u7 : St) (x1_8 : Int) : Prop :=
(w_X10_many (fun (z9 : Int) => (InR x1_8) ∧ (InR z9) ∧ ((z9 ≤ x1_8 → post (pI (pI u7 5 ((sI u7 5) + 1)) 4 ((sI u7 4) + 1))) ∧
 (¬ z9 ≤ x1_8 → (w_X10_wordIn (fun (z13 : Int) => (0 ≤ (100 * (sI u7 5)) + x1_8) ∧ ((100 * (sI u7 5)) + x1_8 < 5000) ∧ K133 ((pA u7 3 ((100 * (sI u7 5)) + x1_8) z13), x1_8 + 1)) u7 x1_8)))) u7)
def B_X10_keeps_133 (post : St → Prop) : (St × Int → Prop) → St × Int → Prop := fun K t => b_X10_keeps_133 post K t.1 t.2
def j_X10_keeps_105 (post : St → Prop) (u3 : St) : Prop :=
(0 ≤ sI u3 5) ∧ (sI u3 5 < 50) ∧ (w_X10_many (fun (z6 : Int) => (∃ n : Nat, Lp (B_X10_keeps_133 post) n ((pA (pA u3 4 (sI u3 5) (sI u3 1)) 5 (sI u3 5) z6), 0))) (pA u3 4 (sI u3 5) (sI u3 1)))
def b_X10_keeps_59 (post : St → Prop) (y1_59 : Int) (K21 : St × Int → Prop) (K59 : St × Int → Prop) (u25 : St) (x2_26 : Int) : Prop :=
(0 ≤ y1_59) ∧ (y1_59 < 50) ∧ (InR x2_26) ∧ (InR (sA u25 5 y1_59)) ∧ ((sA u25 5 y1_59 ≤ x2_26 → K21 (u25, y1_59 + 1)) ∧
 (¬ sA u25 5 y1_59 ≤ x2_26 → (0 ≤ (100 * (y1_59 + 1)) + x2_26) ∧ ((100 * (y1_59 + 1)) + x2_26 < 5000) ∧ (0 ≤ (100 * y1_59) + x2_26) ∧ ((100 * y1_59) + x2_26 < 5000) ∧ K59 ((pA u25 3 ((100 * y1_59) + x2_26) (sA u25 3 ((100 * (y1_59 + 1)) + x2_26))), x2_26 + 1)))
def B_X10_keeps_59 (post : St → Prop) (y1_59 : Int) (K21 : St × Int → Prop) : (St × Int → Prop) → St × Int → Prop := fun K t => b_X10_keeps_59 post y1_59 K21 K t.1 t.2
def b_X10_keeps_21 (post : St → Prop) (K21 : St × Int → Prop) (u16 : St) (x1_17 : Int) : Prop :=
(InR x1_17) ∧ (InR (sI u16 5)) ∧ ((sI u16 5 ≤ x1_17 → (j_X10_keeps_105 post u16)) ∧
 (¬ sI u16 5 ≤ x1_17 → (0 ≤ x1_17 + 1) ∧ (x1_17 + 1 < 50) ∧ (0 ≤ x1_17) ∧ (x1_17 < 50) ∧ (∃ n : Nat, Lp (B_X10_keeps_59 post x1_17 K21) n ((pA (pA u16 4 x1_17 (sA u16 4 (x1_17 + 1))) 5 x1_17 (sA u16 5 (x1_17 + 1))), 0))))
def B_X10_keeps_21 (post : St → Prop) : (St × Int → Prop) → St × Int → Prop := fun K t => b_X10_keeps_21 post K t.1 t.2
def w_X10_keeps (post : St → Prop) (u0 : St) : Prop :=
(InR (sI u0 5)) ∧ ((¬ sI u0 5 = 50 → (j_X10_keeps_105 post u0)) ∧
 (sI u0 5 = 50 → (∃ n : Nat, Lp (B_X10_keeps_21 post) n ((pI u0 5 ((sI u0 5) - 1)), 0))))
abbrev rm_X10_keeps : Room := { frames := 1, cells := 0, slots := 0, locals := 21 }
set_option maxRecDepth 100000 in
set_option maxHeartbeats 4000000 in
theorem ct_X10_keeps {l : Launch} {G : Gr} {a : Nat → Nat} (u0 : St) (post : St → Prop) (hw : w_X10_keeps post u0) : CtV l G yX10_keeps (ws_ yX10_keeps cX10_keeps 3 (none)) rm_X10_keeps [.ref (a 0)] (WM G a u0) 0 0 (PoV (WM G a) post) := by
  refine CtV.of (by decide) (Nat.le_of_ble_eq_true rfl) ?_
  intro p e s m args below meth c ls X hr hlk K g h hl
  have hl : lv_has ls 3 [(0, .ref (a 0))] := hl
  obtain ⟨H, hH⟩ : ∃ H, H = s.heap := ⟨_, rfl⟩
  obtain ⟨locs, hL⟩ : ∃ L : List Loc, L = [] := ⟨_, rfl⟩
  replace h : HW G (va_A (WM G a u0) s.heap.size) s.heap (WM G a u0) H locs := by rw [hH, hL]; exact h
  suffices hg : W p l e rm_X10_keeps s m args below meth c H locs 0 0 (EndV G (WM G a u0) (PoV (WM G a) post) args s 0 0 below) (F0 m 0 ls []) by rw [hH, hL] at hg; exact hg
  clear hH hL
  have J105 : ∀ (u3 : St) (H : Heap) (locs : List Loc) (ls : Array Slot), j_X10_keeps_105 post u3 → HW G (va_A (WM G a u0) s.heap.size) s.heap (WM G a u3) H locs → lv_has ls 3 [(0, .ref (a 0))] → W p l e rm_X10_keeps s m args below meth c H locs 0 0 (EndV G (WM G a u0) (PoV (WM G a) post) args s 0 0 below) (F0 m 105 ls []) := by
    intro u3 H locs ls hw h hl
    refine z_aload_n X hl 0 rfl rfl dX10_keeps_105 ?_
    refine gM_X10_wasBehind X K h q_1348 dX10_keeps_106 ?_
    refine z_aload_n X hl 0 rfl rfl dX10_keeps_109 ?_
    refine gM_X10_kept (x := sI u3 5) X K h rfl q_1350 dX10_keeps_110 ?_
    refine z_aload_n X hl 0 rfl rfl dX10_keeps_113 ?_
    refine gM_X10_backMany (x := sI u3 1) X K h rfl q_1342 dX10_keeps_114 ?_
    obtain ⟨h4, h5, hw⟩ := hw
    refine sM_4 X K h h4 h5 dX10_keeps_117 (fun H locs h => ?_)
    refine z_aload_n X hl 0 rfl rfl dX10_keeps_118 ?_
    refine gM_X10_wasMany X K h q_1349 dX10_keeps_119 ?_
    refine z_aload_n X hl 0 rfl rfl dX10_keeps_122 ?_
    refine gM_X10_kept (x := sI u3 5) X K h rfl q_1350 dX10_keeps_123 ?_
    refine z_aload_n X hl 0 rfl rfl dX10_keeps_126 ?_
    refine r_callVi (rest := [zI (sI u3 5), .ref (a 6)]) X K g h (ct_X10_many (pA u3 4 (sI u3 5) (sI u3 1)) _ hw) lk_X10_84 0 rfl rfl ⟨rfl, rfl⟩ ⟨Nat.le_of_ble_eq_true rfl, Nat.le_of_ble_eq_true rfl⟩ rfl (lv_size hl) rfl (Nat.le_of_ble_eq_true rfl) dX10_keeps_127 ⟨Nat.le_of_ble_eq_true rfl, Nat.le_of_ble_eq_true rfl⟩ (fun z6 w' H locs hp h => ?_)
    obtain ⟨rfl, hw⟩ := hp
    refine sM_5 X K h h4 h5 dX10_keeps_130 (fun H locs h => ?_)
    refine z_iconst X dX10_keeps_131 ?_
    refine z_istore_n (i := 1) (lv' := [(1, zI 0), (0, .ref (a 0))]) X hl rfl (by decide) dX10_keeps_132 rfl (fun ls hl => ?_)
    obtain ⟨n133, hw⟩ := hw
    have key133 : ∀ (n : Nat) (t : St × Int) (H : Heap) (locs : List Loc) (ls : Array Slot), Lp (B_X10_keeps_133 post) n t → HW G (va_A (WM G a u0) s.heap.size) s.heap (WM G a t.1) H locs → lv_has ls 3 [(0, .ref (a 0)), (1, zI t.2)] → W p l e rm_X10_keeps s m args below meth c H locs 0 0 (EndV G (WM G a u0) (PoV (WM G a) post) args s 0 0 below) (F0 m 133 ls []) := by
      intro n
      induction n with
      | zero =>
        intro t H locs ls hw
        exact hw.elim
      | succ n133 ih133 =>
        rintro ⟨u7, x1_8⟩ H locs ls hw h hl
        replace hw : b_X10_keeps_133 post (Lp (B_X10_keeps_133 post) n133) u7 x1_8 := hw
        refine z_iload_n X hl 1 rfl rfl dX10_keeps_133 ?_
        refine z_aload_n X hl 0 rfl rfl dX10_keeps_134 ?_
        refine r_callVi (rest := [zI x1_8]) X K g h (ct_X10_many u7 _ hw) lk_X10_84 0 rfl rfl ⟨rfl, rfl⟩ ⟨Nat.le_of_ble_eq_true rfl, Nat.le_of_ble_eq_true rfl⟩ rfl (lv_size hl) rfl (Nat.le_of_ble_eq_true rfl) dX10_keeps_135 ⟨Nat.le_of_ble_eq_true rfl, Nat.le_of_ble_eq_true rfl⟩ (fun z9 w' H locs hp h => ?_)
        obtain ⟨rfl, hw⟩ := hp
        obtain ⟨h10, h11, hw⟩ := hw
        refine z_icmp_ge (tgt := 166) X h10 h11 dX10_keeps_138 (by decide) (fun c12 => ?_) (fun c12 => ?_)
        · replace hw := hw.1 c12
          refine z_aload_n X hl 0 rfl rfl dX10_keeps_166 ?_
          refine z_dup X rfl dX10_keeps_167 ?_
          refine gM_X10_kept (x := sI u7 5) X K h rfl q_1350 dX10_keeps_168 ?_
          refine z_iconst X dX10_keeps_171 ?_
          refine z_iadd X dX10_keeps_172 ?_
          refine pM_X10_kept X K h q_1350 dX10_keeps_173 (fun H locs h => ?_)
          refine z_aload_n X hl 0 rfl rfl dX10_keeps_176 ?_
          refine z_dup X rfl dX10_keeps_177 ?_
          refine gM_X10_acts (x := sI u7 4) X K h rfl q_1345 dX10_keeps_178 ?_
          refine z_iconst X dX10_keeps_181 ?_
          refine z_iadd X dX10_keeps_182 ?_
          refine pM_X10_acts X K h q_1345 dX10_keeps_183 (fun H locs h => ?_)
          exact r_vret X hr hlk K h (Nat.le_refl _) (Nat.le_refl _) dX10_keeps_186 ⟨_, rfl, hw⟩
        · replace hw := hw.2 c12
          refine z_aload_n X hl 0 rfl rfl dX10_keeps_141 ?_
          refine gM_X10_was X K h q_1347 dX10_keeps_142 ?_
          refine z_bipush (v := 100) X dX10_keeps_145 (by decide) ?_
          refine z_aload_n X hl 0 rfl rfl dX10_keeps_147 ?_
          refine gM_X10_kept (x := sI u7 5) X K h rfl q_1350 dX10_keeps_148 ?_
          refine z_imul X dX10_keeps_151 ?_
          refine z_iload_n X hl 1 rfl rfl dX10_keeps_152 ?_
          refine z_iadd X dX10_keeps_153 ?_
          refine z_aload_n X hl 0 rfl rfl dX10_keeps_154 ?_
          refine z_iload_n X hl 1 rfl rfl dX10_keeps_155 ?_
          refine r_callVi (rest := [zI ((100 * (sI u7 5)) + x1_8), .ref (a 4)]) X K g h (ct_X10_wordIn u7 x1_8 _ hw) lk_X10_88 0 rfl rfl ⟨rfl, rfl⟩ ⟨Nat.le_of_ble_eq_true rfl, Nat.le_of_ble_eq_true rfl⟩ rfl (lv_size hl) rfl (Nat.le_of_ble_eq_true rfl) dX10_keeps_156 ⟨Nat.le_of_ble_eq_true rfl, Nat.le_of_ble_eq_true rfl⟩ (fun z13 w' H locs hp h => ?_)
          obtain ⟨rfl, hw⟩ := hp
          obtain ⟨h14, h15, hw⟩ := hw
          refine sM_3 X K h h14 h15 dX10_keeps_159 (fun H locs h => ?_)
          refine z_iinc (lv' := [(1, zI (x1_8 + 1)), (0, .ref (a 0))]) X hl 1 rfl (by decide) dX10_keeps_160 rfl (fun ls hl => ?_)
          refine z_goto (tgt := 133) X dX10_keeps_163 (by decide) ?_
          exact ih133 ((pA u7 3 ((100 * (sI u7 5)) + x1_8) z13), x1_8 + 1) H locs ls hw h (lv_sub hl [1, 0] rfl)
    exact key133 n133 ((pA (pA u3 4 (sI u3 5) (sI u3 1)) 5 (sI u3 5) z6), 0) H locs ls hw h (lv_sub hl [1, 0] rfl)
  refine z_aload_n X hl 0 rfl rfl dX10_keeps_0 ?_
  refine gM_X10_kept (x := sI u0 5) X K h rfl q_1350 dX10_keeps_1 ?_
  refine z_bipush (v := 50) X dX10_keeps_4 (by decide) ?_
  obtain ⟨h1, hw⟩ := hw
  refine z_icmp_ne (tgt := 105) X h1 (by decide) dX10_keeps_6 (by decide) (fun c2 => ?_) (fun c2 => ?_)
  · replace hw := hw.1 c2
    exact J105 u0 H locs ls hw h (lv_sub hl [0] rfl)
  · replace hw := hw.2 c2
    refine z_aload_n X hl 0 rfl rfl dX10_keeps_9 ?_
    refine z_dup X rfl dX10_keeps_10 ?_
    refine gM_X10_kept (x := sI u0 5) X K h rfl q_1350 dX10_keeps_11 ?_
    refine z_iconst X dX10_keeps_14 ?_
    refine z_isub X dX10_keeps_15 ?_
    refine pM_X10_kept X K h q_1350 dX10_keeps_16 (fun H locs h => ?_)
    refine z_iconst X dX10_keeps_19 ?_
    refine z_istore_n (i := 1) (lv' := [(1, zI 0), (0, .ref (a 0))]) X hl rfl (by decide) dX10_keeps_20 rfl (fun ls hl => ?_)
    obtain ⟨n21, hw⟩ := hw
    have key21 : ∀ (n : Nat) (t : St × Int) (H : Heap) (locs : List Loc) (ls : Array Slot), Lp (B_X10_keeps_21 post) n t → HW G (va_A (WM G a u0) s.heap.size) s.heap (WM G a t.1) H locs → lv_has ls 3 [(0, .ref (a 0)), (1, zI t.2)] → W p l e rm_X10_keeps s m args below meth c H locs 0 0 (EndV G (WM G a u0) (PoV (WM G a) post) args s 0 0 below) (F0 m 21 ls []) := by
      intro n
      induction n with
      | zero =>
        intro t H locs ls hw
        exact hw.elim
      | succ n21 ih21 =>
        rintro ⟨u16, x1_17⟩ H locs ls hw h hl
        replace hw : b_X10_keeps_21 post (Lp (B_X10_keeps_21 post) n21) u16 x1_17 := hw
        refine z_iload_n X hl 1 rfl rfl dX10_keeps_21 ?_
        refine z_aload_n X hl 0 rfl rfl dX10_keeps_22 ?_
        refine gM_X10_kept (x := sI u16 5) X K h rfl q_1350 dX10_keeps_23 ?_
        obtain ⟨h18, h19, hw⟩ := hw
        refine z_icmp_ge (tgt := 105) X h18 h19 dX10_keeps_26 (by decide) (fun c20 => ?_) (fun c20 => ?_)
        · replace hw := hw.1 c20
          exact J105 u16 H locs ls hw h (lv_sub hl [0] rfl)
        · replace hw := hw.2 c20
          refine z_aload_n X hl 0 rfl rfl dX10_keeps_29 ?_
          refine gM_X10_wasBehind X K h q_1348 dX10_keeps_30 ?_
          refine z_iload_n X hl 1 rfl rfl dX10_keeps_33 ?_
          refine z_aload_n X hl 0 rfl rfl dX10_keeps_34 ?_
          refine gM_X10_wasBehind X K h q_1348 dX10_keeps_35 ?_
          refine z_iload_n X hl 1 rfl rfl dX10_keeps_38 ?_
          refine z_iconst X dX10_keeps_39 ?_
          refine z_iadd X dX10_keeps_40 ?_
          obtain ⟨h21, h22, hw⟩ := hw
          refine lM_4 (x := sA u16 4 (x1_17 + 1)) X K h h21 h22 rfl dX10_keeps_41 ?_
          obtain ⟨h23, h24, hw⟩ := hw
          refine sM_4 X K h h23 h24 dX10_keeps_42 (fun H locs h => ?_)
          refine z_aload_n X hl 0 rfl rfl dX10_keeps_43 ?_
          refine gM_X10_wasMany X K h q_1349 dX10_keeps_44 ?_
          refine z_iload_n X hl 1 rfl rfl dX10_keeps_47 ?_
          refine z_aload_n X hl 0 rfl rfl dX10_keeps_48 ?_
          refine gM_X10_wasMany X K h q_1349 dX10_keeps_49 ?_
          refine z_iload_n X hl 1 rfl rfl dX10_keeps_52 ?_
          refine z_iconst X dX10_keeps_53 ?_
          refine z_iadd X dX10_keeps_54 ?_
          refine lM_5 (x := sA u16 5 (x1_17 + 1)) X K h h21 h22 rfl dX10_keeps_55 ?_
          refine sM_5 X K h h23 h24 dX10_keeps_56 (fun H locs h => ?_)
          refine z_iconst X dX10_keeps_57 ?_
          refine z_istore_n (i := 2) (lv' := [(2, zI 0), (0, .ref (a 0)), (1, zI x1_17)]) X hl rfl (by decide) dX10_keeps_58 rfl (fun ls hl => ?_)
          obtain ⟨n59, hw⟩ := hw
          have key59 : ∀ (n : Nat) (t : St × Int) (H : Heap) (locs : List Loc) (ls : Array Slot), Lp (B_X10_keeps_59 post x1_17 (Lp (B_X10_keeps_21 post) n21)) n t → HW G (va_A (WM G a u0) s.heap.size) s.heap (WM G a t.1) H locs → lv_has ls 3 [(0, .ref (a 0)), (1, zI x1_17), (2, zI t.2)] → W p l e rm_X10_keeps s m args below meth c H locs 0 0 (EndV G (WM G a u0) (PoV (WM G a) post) args s 0 0 below) (F0 m 59 ls []) := by
            intro n
            induction n with
            | zero =>
              intro t H locs ls hw
              exact hw.elim
            | succ n59 ih59 =>
              rintro ⟨u25, x2_26⟩ H locs ls hw h hl
              replace hw : b_X10_keeps_59 post x1_17 (Lp (B_X10_keeps_21 post) n21) (Lp (B_X10_keeps_59 post x1_17 (Lp (B_X10_keeps_21 post) n21)) n59) u25 x2_26 := hw
              refine z_iload_n X hl 2 rfl rfl dX10_keeps_59 ?_
              refine z_aload_n X hl 0 rfl rfl dX10_keeps_60 ?_
              refine gM_X10_wasMany X K h q_1349 dX10_keeps_61 ?_
              refine z_iload_n X hl 1 rfl rfl dX10_keeps_64 ?_
              obtain ⟨h27, h28, hw⟩ := hw
              refine lM_5 (x := sA u25 5 x1_17) X K h h27 h28 rfl dX10_keeps_65 ?_
              obtain ⟨h29, h30, hw⟩ := hw
              refine z_icmp_ge (tgt := 99) X h29 h30 dX10_keeps_66 (by decide) (fun c31 => ?_) (fun c31 => ?_)
              · replace hw := hw.1 c31
                refine z_iinc (lv' := [(1, zI (x1_17 + 1)), (0, .ref (a 0)), (2, zI x2_26)]) X hl 1 rfl (by decide) dX10_keeps_99 rfl (fun ls hl => ?_)
                refine z_goto (tgt := 21) X dX10_keeps_102 (by decide) ?_
                exact ih21 (u25, x1_17 + 1) H locs ls hw h (lv_sub hl [1, 0] rfl)
              · replace hw := hw.2 c31
                refine z_aload_n X hl 0 rfl rfl dX10_keeps_69 ?_
                refine gM_X10_was X K h q_1347 dX10_keeps_70 ?_
                refine z_bipush (v := 100) X dX10_keeps_73 (by decide) ?_
                refine z_iload_n X hl 1 rfl rfl dX10_keeps_75 ?_
                refine z_imul X dX10_keeps_76 ?_
                refine z_iload_n X hl 2 rfl rfl dX10_keeps_77 ?_
                refine z_iadd X dX10_keeps_78 ?_
                refine z_aload_n X hl 0 rfl rfl dX10_keeps_79 ?_
                refine gM_X10_was X K h q_1347 dX10_keeps_80 ?_
                refine z_bipush (v := 100) X dX10_keeps_83 (by decide) ?_
                refine z_iload_n X hl 1 rfl rfl dX10_keeps_85 ?_
                refine z_iconst X dX10_keeps_86 ?_
                refine z_iadd X dX10_keeps_87 ?_
                refine z_imul X dX10_keeps_88 ?_
                refine z_iload_n X hl 2 rfl rfl dX10_keeps_89 ?_
                refine z_iadd X dX10_keeps_90 ?_
                obtain ⟨h32, h33, hw⟩ := hw
                refine lM_3 (x := sA u25 3 ((100 * (x1_17 + 1)) + x2_26)) X K h h32 h33 rfl dX10_keeps_91 ?_
                obtain ⟨h34, h35, hw⟩ := hw
                refine sM_3 X K h h34 h35 dX10_keeps_92 (fun H locs h => ?_)
                refine z_iinc (lv' := [(2, zI (x2_26 + 1)), (0, .ref (a 0)), (1, zI x1_17)]) X hl 2 rfl (by decide) dX10_keeps_93 rfl (fun ls hl => ?_)
                refine z_goto (tgt := 59) X dX10_keeps_96 (by decide) ?_
                exact ih59 ((pA u25 3 ((100 * x1_17) + x2_26) (sA u25 3 ((100 * (x1_17 + 1)) + x2_26))), x2_26 + 1) H locs ls hw h (lv_sub hl [1, 2, 0] rfl)
          exact key59 n59 ((pA (pA u16 4 x1_17 (sA u16 4 (x1_17 + 1))) 5 x1_17 (sA u16 5 (x1_17 + 1))), 0) H locs ls hw h (lv_sub hl [1, 2, 0] rfl)
    exact key21 n21 ((pI u0 5 ((sI u0 5) - 1)), 0) H locs ls hw h (lv_sub hl [1, 0] rfl)
def w_X10_goesOn (post : St → Prop) (u0 : St) : Prop :=
(0 ≤ (sI u0 2) - 1) ∧ ((sI u0 2) - 1 < 101) ∧ (0 ≤ sI u0 1) ∧ (sI u0 1 < 101) ∧ post (pI (pA (pI u0 2 ((sI u0 2) - 1)) 0 (sI u0 1) (sA u0 1 ((sI u0 2) - 1))) 1 ((sI u0 1) + 1))
abbrev rm_X10_goesOn : Room := { frames := 0, cells := 0, slots := 0, locals := 0 }
set_option maxRecDepth 100000 in
set_option maxHeartbeats 4000000 in
theorem ct_X10_goesOn {l : Launch} {G : Gr} {a : Nat → Nat} (u0 : St) (post : St → Prop) (hw : w_X10_goesOn post u0) : CtV l G yX10_goesOn (ws_ yX10_goesOn cX10_goesOn 1 (none)) rm_X10_goesOn [.ref (a 0)] (WM G a u0) 0 0 (PoV (WM G a) post) := by
  refine CtV.of (by decide) (Nat.le_of_ble_eq_true rfl) ?_
  intro p e s m args below meth c ls X hr hlk K g h hl
  have hl : lv_has ls 1 [(0, .ref (a 0))] := hl
  obtain ⟨H, hH⟩ : ∃ H, H = s.heap := ⟨_, rfl⟩
  obtain ⟨locs, hL⟩ : ∃ L : List Loc, L = [] := ⟨_, rfl⟩
  replace h : HW G (va_A (WM G a u0) s.heap.size) s.heap (WM G a u0) H locs := by rw [hH, hL]; exact h
  suffices hg : W p l e rm_X10_goesOn s m args below meth c H locs 0 0 (EndV G (WM G a u0) (PoV (WM G a) post) args s 0 0 below) (F0 m 0 ls []) by rw [hH, hL] at hg; exact hg
  clear hH hL
  refine z_aload_n X hl 0 rfl rfl dX10_goesOn_0 ?_
  refine z_dup X rfl dX10_goesOn_1 ?_
  refine gM_X10_frontMany (x := sI u0 2) X K h rfl q_1343 dX10_goesOn_2 ?_
  refine z_iconst X dX10_goesOn_5 ?_
  refine z_isub X dX10_goesOn_6 ?_
  refine pM_X10_frontMany X K h q_1343 dX10_goesOn_7 (fun H locs h => ?_)
  refine z_aload_n X hl 0 rfl rfl dX10_goesOn_10 ?_
  refine gM_X10_back X K h q_1340 dX10_goesOn_11 ?_
  refine z_aload_n X hl 0 rfl rfl dX10_goesOn_14 ?_
  refine gM_X10_backMany (x := sI u0 1) X K h rfl q_1342 dX10_goesOn_15 ?_
  refine z_aload_n X hl 0 rfl rfl dX10_goesOn_18 ?_
  refine gM_X10_front X K h q_1341 dX10_goesOn_19 ?_
  refine z_aload_n X hl 0 rfl rfl dX10_goesOn_22 ?_
  refine gM_X10_frontMany (x := (sI u0 2) - 1) X K h rfl q_1343 dX10_goesOn_23 ?_
  obtain ⟨h1, h2, hw⟩ := hw
  refine lM_1 (x := sA u0 1 ((sI u0 2) - 1)) X K h h1 h2 rfl dX10_goesOn_26 ?_
  obtain ⟨h3, h4, hw⟩ := hw
  refine sM_0 X K h h3 h4 dX10_goesOn_27 (fun H locs h => ?_)
  refine z_aload_n X hl 0 rfl rfl dX10_goesOn_28 ?_
  refine z_dup X rfl dX10_goesOn_29 ?_
  refine gM_X10_backMany (x := sI u0 1) X K h rfl q_1342 dX10_goesOn_30 ?_
  refine z_iconst X dX10_goesOn_33 ?_
  refine z_iadd X dX10_goesOn_34 ?_
  refine pM_X10_backMany X K h q_1342 dX10_goesOn_35 (fun H locs h => ?_)
  exact r_vret X hr hlk K h (Nat.le_refl _) (Nat.le_refl _) dX10_goesOn_38 ⟨_, rfl, hw⟩
def w_X10_goesBack (post : St → Prop) (u0 : St) : Prop :=
(0 ≤ (sI u0 1) - 1) ∧ ((sI u0 1) - 1 < 101) ∧ (0 ≤ sI u0 2) ∧ (sI u0 2 < 101) ∧ post (pI (pA (pI u0 1 ((sI u0 1) - 1)) 1 (sI u0 2) (sA u0 0 ((sI u0 1) - 1))) 2 ((sI u0 2) + 1))
abbrev rm_X10_goesBack : Room := { frames := 0, cells := 0, slots := 0, locals := 0 }
set_option maxRecDepth 100000 in
set_option maxHeartbeats 4000000 in
theorem ct_X10_goesBack {l : Launch} {G : Gr} {a : Nat → Nat} (u0 : St) (post : St → Prop) (hw : w_X10_goesBack post u0) : CtV l G yX10_goesBack (ws_ yX10_goesBack cX10_goesBack 1 (none)) rm_X10_goesBack [.ref (a 0)] (WM G a u0) 0 0 (PoV (WM G a) post) := by
  refine CtV.of (by decide) (Nat.le_of_ble_eq_true rfl) ?_
  intro p e s m args below meth c ls X hr hlk K g h hl
  have hl : lv_has ls 1 [(0, .ref (a 0))] := hl
  obtain ⟨H, hH⟩ : ∃ H, H = s.heap := ⟨_, rfl⟩
  obtain ⟨locs, hL⟩ : ∃ L : List Loc, L = [] := ⟨_, rfl⟩
  replace h : HW G (va_A (WM G a u0) s.heap.size) s.heap (WM G a u0) H locs := by rw [hH, hL]; exact h
  suffices hg : W p l e rm_X10_goesBack s m args below meth c H locs 0 0 (EndV G (WM G a u0) (PoV (WM G a) post) args s 0 0 below) (F0 m 0 ls []) by rw [hH, hL] at hg; exact hg
  clear hH hL
  refine z_aload_n X hl 0 rfl rfl dX10_goesBack_0 ?_
  refine z_dup X rfl dX10_goesBack_1 ?_
  refine gM_X10_backMany (x := sI u0 1) X K h rfl q_1342 dX10_goesBack_2 ?_
  refine z_iconst X dX10_goesBack_5 ?_
  refine z_isub X dX10_goesBack_6 ?_
  refine pM_X10_backMany X K h q_1342 dX10_goesBack_7 (fun H locs h => ?_)
  refine z_aload_n X hl 0 rfl rfl dX10_goesBack_10 ?_
  refine gM_X10_front X K h q_1341 dX10_goesBack_11 ?_
  refine z_aload_n X hl 0 rfl rfl dX10_goesBack_14 ?_
  refine gM_X10_frontMany (x := sI u0 2) X K h rfl q_1343 dX10_goesBack_15 ?_
  refine z_aload_n X hl 0 rfl rfl dX10_goesBack_18 ?_
  refine gM_X10_back X K h q_1340 dX10_goesBack_19 ?_
  refine z_aload_n X hl 0 rfl rfl dX10_goesBack_22 ?_
  refine gM_X10_backMany (x := (sI u0 1) - 1) X K h rfl q_1342 dX10_goesBack_23 ?_
  obtain ⟨h1, h2, hw⟩ := hw
  refine lM_0 (x := sA u0 0 ((sI u0 1) - 1)) X K h h1 h2 rfl dX10_goesBack_26 ?_
  obtain ⟨h3, h4, hw⟩ := hw
  refine sM_1 X K h h3 h4 dX10_goesBack_27 (fun H locs h => ?_)
  refine z_aload_n X hl 0 rfl rfl dX10_goesBack_28 ?_
  refine z_dup X rfl dX10_goesBack_29 ?_
  refine gM_X10_frontMany (x := sI u0 2) X K h rfl q_1343 dX10_goesBack_30 ?_
  refine z_iconst X dX10_goesBack_33 ?_
  refine z_iadd X dX10_goesBack_34 ?_
  refine pM_X10_frontMany X K h q_1343 dX10_goesBack_35 (fun H locs h => ?_)
  exact r_vret X hr hlk K h (Nat.le_refl _) (Nat.le_refl _) dX10_goesBack_38 ⟨_, rfl, hw⟩
def b_X10_goesTo_15 (post : St → Prop) (y1_15 : Int) (K0 : St → Prop) (K15 : St → Prop) (u5 : St) : Prop :=
(InR (sI u5 1)) ∧ (InR y1_15) ∧ ((sI u5 1 ≤ y1_15 → post u5) ∧
 (¬ sI u5 1 ≤ y1_15 → (w_X10_goesBack (fun  (u9 : St) => K15 u9) u5)))
def B_X10_goesTo_15 (post : St → Prop) (y1_15 : Int) (K0 : St → Prop) : (St → Prop) → St → Prop := fun K t => b_X10_goesTo_15 post y1_15 K0 K t
def b_X10_goesTo_0 (post : St → Prop) (y1_0 : Int) (K0 : St → Prop) (u1 : St) : Prop :=
(InR (sI u1 1)) ∧ (InR y1_0) ∧ ((y1_0 ≤ sI u1 1 → (∃ n : Nat, Lp (B_X10_goesTo_15 post y1_0 K0) n u1)) ∧
 (¬ y1_0 ≤ sI u1 1 → (w_X10_goesOn (fun  (u10 : St) => K0 u10) u1)))
def B_X10_goesTo_0 (post : St → Prop) (y1_0 : Int) : (St → Prop) → St → Prop := fun K t => b_X10_goesTo_0 post y1_0 K t
def w_X10_goesTo (post : St → Prop) (u0 : St) (p1 : Int) : Prop :=
(∃ n : Nat, Lp (B_X10_goesTo_0 post p1) n u0)
abbrev rm_X10_goesTo : Room := { frames := 1, cells := 0, slots := 0, locals := 20 }
set_option maxRecDepth 100000 in
set_option maxHeartbeats 4000000 in
theorem ct_X10_goesTo {l : Launch} {G : Gr} {a : Nat → Nat} (u0 : St) (p1 : Int) (post : St → Prop) (hw : w_X10_goesTo post u0 p1) : CtV l G yX10_goesTo (ws_ yX10_goesTo cX10_goesTo 2 (none)) rm_X10_goesTo [.ref (a 0), zI p1] (WM G a u0) 0 0 (PoV (WM G a) post) := by
  refine CtV.of (by decide) (Nat.le_of_ble_eq_true rfl) ?_
  intro p e s m args below meth c ls X hr hlk K g h hl
  have hl : lv_has ls 2 [(0, .ref (a 0)), (1, zI p1)] := hl
  obtain ⟨H, hH⟩ : ∃ H, H = s.heap := ⟨_, rfl⟩
  obtain ⟨locs, hL⟩ : ∃ L : List Loc, L = [] := ⟨_, rfl⟩
  replace h : HW G (va_A (WM G a u0) s.heap.size) s.heap (WM G a u0) H locs := by rw [hH, hL]; exact h
  suffices hg : W p l e rm_X10_goesTo s m args below meth c H locs 0 0 (EndV G (WM G a u0) (PoV (WM G a) post) args s 0 0 below) (F0 m 0 ls []) by rw [hH, hL] at hg; exact hg
  clear hH hL
  obtain ⟨n0, hw⟩ := hw
  have key0 : ∀ (n : Nat) (t : St) (H : Heap) (locs : List Loc) (ls : Array Slot), Lp (B_X10_goesTo_0 post p1) n t → HW G (va_A (WM G a u0) s.heap.size) s.heap (WM G a t) H locs → lv_has ls 2 [(0, .ref (a 0)), (1, zI p1)] → W p l e rm_X10_goesTo s m args below meth c H locs 0 0 (EndV G (WM G a u0) (PoV (WM G a) post) args s 0 0 below) (F0 m 0 ls []) := by
    intro n
    induction n with
    | zero =>
      intro t H locs ls hw
      exact hw.elim
    | succ n0 ih0 =>
      intro u1 H locs ls hw h hl
      replace hw : b_X10_goesTo_0 post p1 (Lp (B_X10_goesTo_0 post p1) n0) u1 := hw
      refine z_aload_n X hl 0 rfl rfl dX10_goesTo_0 ?_
      refine gM_X10_backMany (x := sI u1 1) X K h rfl q_1342 dX10_goesTo_1 ?_
      refine z_iload_n X hl 1 rfl rfl dX10_goesTo_4 ?_
      obtain ⟨h2, h3, hw⟩ := hw
      refine z_icmp_ge (tgt := 15) X h2 h3 dX10_goesTo_5 (by decide) (fun c4 => ?_) (fun c4 => ?_)
      · replace hw := hw.1 c4
        obtain ⟨n15, hw⟩ := hw
        have key15 : ∀ (n : Nat) (t : St) (H : Heap) (locs : List Loc) (ls : Array Slot), Lp (B_X10_goesTo_15 post p1 (Lp (B_X10_goesTo_0 post p1) n0)) n t → HW G (va_A (WM G a u0) s.heap.size) s.heap (WM G a t) H locs → lv_has ls 2 [(0, .ref (a 0)), (1, zI p1)] → W p l e rm_X10_goesTo s m args below meth c H locs 0 0 (EndV G (WM G a u0) (PoV (WM G a) post) args s 0 0 below) (F0 m 15 ls []) := by
          intro n
          induction n with
          | zero =>
            intro t H locs ls hw
            exact hw.elim
          | succ n15 ih15 =>
            intro u5 H locs ls hw h hl
            replace hw : b_X10_goesTo_15 post p1 (Lp (B_X10_goesTo_0 post p1) n0) (Lp (B_X10_goesTo_15 post p1 (Lp (B_X10_goesTo_0 post p1) n0)) n15) u5 := hw
            refine z_aload_n X hl 0 rfl rfl dX10_goesTo_15 ?_
            refine gM_X10_backMany (x := sI u5 1) X K h rfl q_1342 dX10_goesTo_16 ?_
            refine z_iload_n X hl 1 rfl rfl dX10_goesTo_19 ?_
            obtain ⟨h6, h7, hw⟩ := hw
            refine z_icmp_le (tgt := 30) X h6 h7 dX10_goesTo_20 (by decide) (fun c8 => ?_) (fun c8 => ?_)
            · replace hw := hw.1 c8
              exact r_vret X hr hlk K h (Nat.le_refl _) (Nat.le_refl _) dX10_goesTo_30 ⟨_, rfl, hw⟩
            · replace hw := hw.2 c8
              refine z_aload_n X hl 0 rfl rfl dX10_goesTo_23 ?_
              refine r_callVv (rest := []) X K g h (ct_X10_goesBack u5 _ hw) lk_X10_100 0 rfl rfl ⟨rfl, rfl⟩ ⟨Nat.le_of_ble_eq_true rfl, Nat.le_of_ble_eq_true rfl⟩ rfl (lv_size hl) rfl (Nat.le_of_ble_eq_true rfl) dX10_goesTo_24 ⟨Nat.le_of_ble_eq_true rfl, Nat.le_of_ble_eq_true rfl⟩ (fun w' H locs hp h => ?_)
              obtain ⟨u9, rfl, hw⟩ := hp
              refine z_goto (tgt := 15) X dX10_goesTo_27 (by decide) ?_
              exact ih15 u9 H locs ls hw h (lv_sub hl [0, 1] rfl)
        exact key15 n15 u1 H locs ls hw h (lv_sub hl [0, 1] rfl)
      · replace hw := hw.2 c4
        refine z_aload_n X hl 0 rfl rfl dX10_goesTo_8 ?_
        refine r_callVv (rest := []) X K g h (ct_X10_goesOn u1 _ hw) lk_X10_97 0 rfl rfl ⟨rfl, rfl⟩ ⟨Nat.le_of_ble_eq_true rfl, Nat.le_of_ble_eq_true rfl⟩ rfl (lv_size hl) rfl (Nat.le_of_ble_eq_true rfl) dX10_goesTo_9 ⟨Nat.le_of_ble_eq_true rfl, Nat.le_of_ble_eq_true rfl⟩ (fun w' H locs hp h => ?_)
        obtain ⟨u10, rfl, hw⟩ := hp
        refine z_goto (tgt := 0) X dX10_goesTo_12 (by decide) ?_
        exact ih0 u10 H locs ls hw h (lv_sub hl [0, 1] rfl)
  exact key0 n0 u0 H locs ls hw h (lv_sub hl [0, 1] rfl)
def w_X10_passes (post : Int → St → Prop) (u0 : St) : Prop :=
(InR (sI u0 2)) ∧ ((¬ sI u0 2 = 0 → (w_X10_keeps (fun  (u3 : St) => (w_X10_goesOn (fun  (u4 : St) => (0 ≤ (sI u4 1) - 1) ∧ ((sI u4 1) - 1 < 101) ∧ post (sA u4 0 ((sI u4 1) - 1)) (pI u4 3 1)) u3)) u0)) ∧
 (sI u0 2 = 0 → (w_X10_refuses (fun (z7 : Int) (u8 : St) => post z7 u8) u0 (-2))))
abbrev rm_X10_passes : Room := { frames := 2, cells := 0, slots := 0, locals := 43 }
set_option maxRecDepth 100000 in
set_option maxHeartbeats 4000000 in
theorem ct_X10_passes {l : Launch} {G : Gr} {a : Nat → Nat} (u0 : St) (post : Int → St → Prop) (hw : w_X10_passes post u0) : Ct l G yX10_passes (ws_ yX10_passes cX10_passes 1 (some .int)) rm_X10_passes [.ref (a 0)] (WM G a u0) 0 0 (Po (WM G a) post) := by
  refine Ct.of (by decide) (Nat.le_of_ble_eq_true rfl) ?_
  intro p e s m args below meth c ls X hr hlk K g h hl
  have hl : lv_has ls 1 [(0, .ref (a 0))] := hl
  obtain ⟨H, hH⟩ : ∃ H, H = s.heap := ⟨_, rfl⟩
  obtain ⟨locs, hL⟩ : ∃ L : List Loc, L = [] := ⟨_, rfl⟩
  replace h : HW G (va_A (WM G a u0) s.heap.size) s.heap (WM G a u0) H locs := by rw [hH, hL]; exact h
  suffices hg : W p l e rm_X10_passes s m args below meth c H locs 0 0 (EndI G (WM G a u0) (Po (WM G a) post) args s 0 0 below) (F0 m 0 ls []) by rw [hH, hL] at hg; exact hg
  clear hH hL
  refine z_aload_n X hl 0 rfl rfl dX10_passes_0 ?_
  refine gM_X10_frontMany (x := sI u0 2) X K h rfl q_1343 dX10_passes_1 ?_
  obtain ⟨h1, hw⟩ := hw
  refine z_if_ne (tgt := 14) X h1 dX10_passes_4 (by decide) (fun c2 => ?_) (fun c2 => ?_)
  · replace hw := hw.1 c2
    refine z_aload_n X hl 0 rfl rfl dX10_passes_14 ?_
    refine r_callVv (rest := []) X K g h (ct_X10_keeps u0 _ hw) lk_X10_106 0 rfl rfl ⟨rfl, rfl⟩ ⟨Nat.le_of_ble_eq_true rfl, Nat.le_of_ble_eq_true rfl⟩ rfl (lv_size hl) rfl (Nat.le_of_ble_eq_true rfl) dX10_passes_15 ⟨Nat.le_of_ble_eq_true rfl, Nat.le_of_ble_eq_true rfl⟩ (fun w' H locs hp h => ?_)
    obtain ⟨u3, rfl, hw⟩ := hp
    refine z_aload_n X hl 0 rfl rfl dX10_passes_18 ?_
    refine r_callVv (rest := []) X K g h (ct_X10_goesOn u3 _ hw) lk_X10_97 0 rfl rfl ⟨rfl, rfl⟩ ⟨Nat.le_of_ble_eq_true rfl, Nat.le_of_ble_eq_true rfl⟩ rfl (lv_size hl) rfl (Nat.le_of_ble_eq_true rfl) dX10_passes_19 ⟨Nat.le_of_ble_eq_true rfl, Nat.le_of_ble_eq_true rfl⟩ (fun w' H locs hp h => ?_)
    obtain ⟨u4, rfl, hw⟩ := hp
    refine z_aload_n X hl 0 rfl rfl dX10_passes_22 ?_
    refine z_iconst X dX10_passes_23 ?_
    refine pM_X10_givenBy X K h q_1344 dX10_passes_24 (fun H locs h => ?_)
    refine z_aload_n X hl 0 rfl rfl dX10_passes_27 ?_
    refine gM_X10_back X K h q_1340 dX10_passes_28 ?_
    refine z_aload_n X hl 0 rfl rfl dX10_passes_31 ?_
    refine gM_X10_backMany (x := sI u4 1) X K h rfl q_1342 dX10_passes_32 ?_
    refine z_iconst X dX10_passes_35 ?_
    refine z_isub X dX10_passes_36 ?_
    obtain ⟨h5, h6, hw⟩ := hw
    refine lM_0 (x := sA u4 0 ((sI u4 1) - 1)) X K h h5 h6 rfl dX10_passes_37 ?_
    exact r_iret X hr hlk K h (Nat.le_refl _) (Nat.le_refl _) dX10_passes_38 ⟨_, rfl, hw⟩
  · replace hw := hw.2 c2
    refine z_aload_n X hl 0 rfl rfl dX10_passes_7 ?_
    refine z_bipush (v := (-2)) X dX10_passes_8 (by decide) ?_
    refine r_callVi (rest := []) X K g h (ct_X10_refuses u0 (-2) _ hw) lk_X10_103 0 rfl rfl ⟨rfl, rfl⟩ ⟨Nat.le_of_ble_eq_true rfl, Nat.le_of_ble_eq_true rfl⟩ rfl (lv_size hl) rfl (Nat.le_of_ble_eq_true rfl) dX10_passes_10 ⟨Nat.le_of_ble_eq_true rfl, Nat.le_of_ble_eq_true rfl⟩ (fun z7 w' H locs hp h => ?_)
    obtain ⟨u8, rfl, hw⟩ := hp
    exact r_iret X hr hlk K h (Nat.le_refl _) (Nat.le_refl _) dX10_passes_13 ⟨_, rfl, hw⟩
def w_X10_passesBack (post : Int → St → Prop) (u0 : St) : Prop :=
(InR (sI u0 1)) ∧ ((¬ sI u0 1 = 0 → (w_X10_keeps (fun  (u3 : St) => (w_X10_goesBack (fun  (u4 : St) => (0 ≤ (sI u4 2) - 1) ∧ ((sI u4 2) - 1 < 101) ∧ post (sA u4 1 ((sI u4 2) - 1)) (pI u4 3 2)) u3)) u0)) ∧
 (sI u0 1 = 0 → (w_X10_refuses (fun (z7 : Int) (u8 : St) => post z7 u8) u0 (-2))))
abbrev rm_X10_passesBack : Room := { frames := 2, cells := 0, slots := 0, locals := 43 }
set_option maxRecDepth 100000 in
set_option maxHeartbeats 4000000 in
theorem ct_X10_passesBack {l : Launch} {G : Gr} {a : Nat → Nat} (u0 : St) (post : Int → St → Prop) (hw : w_X10_passesBack post u0) : Ct l G yX10_passesBack (ws_ yX10_passesBack cX10_passesBack 1 (some .int)) rm_X10_passesBack [.ref (a 0)] (WM G a u0) 0 0 (Po (WM G a) post) := by
  refine Ct.of (by decide) (Nat.le_of_ble_eq_true rfl) ?_
  intro p e s m args below meth c ls X hr hlk K g h hl
  have hl : lv_has ls 1 [(0, .ref (a 0))] := hl
  obtain ⟨H, hH⟩ : ∃ H, H = s.heap := ⟨_, rfl⟩
  obtain ⟨locs, hL⟩ : ∃ L : List Loc, L = [] := ⟨_, rfl⟩
  replace h : HW G (va_A (WM G a u0) s.heap.size) s.heap (WM G a u0) H locs := by rw [hH, hL]; exact h
  suffices hg : W p l e rm_X10_passesBack s m args below meth c H locs 0 0 (EndI G (WM G a u0) (Po (WM G a) post) args s 0 0 below) (F0 m 0 ls []) by rw [hH, hL] at hg; exact hg
  clear hH hL
  refine z_aload_n X hl 0 rfl rfl dX10_passesBack_0 ?_
  refine gM_X10_backMany (x := sI u0 1) X K h rfl q_1342 dX10_passesBack_1 ?_
  obtain ⟨h1, hw⟩ := hw
  refine z_if_ne (tgt := 14) X h1 dX10_passesBack_4 (by decide) (fun c2 => ?_) (fun c2 => ?_)
  · replace hw := hw.1 c2
    refine z_aload_n X hl 0 rfl rfl dX10_passesBack_14 ?_
    refine r_callVv (rest := []) X K g h (ct_X10_keeps u0 _ hw) lk_X10_106 0 rfl rfl ⟨rfl, rfl⟩ ⟨Nat.le_of_ble_eq_true rfl, Nat.le_of_ble_eq_true rfl⟩ rfl (lv_size hl) rfl (Nat.le_of_ble_eq_true rfl) dX10_passesBack_15 ⟨Nat.le_of_ble_eq_true rfl, Nat.le_of_ble_eq_true rfl⟩ (fun w' H locs hp h => ?_)
    obtain ⟨u3, rfl, hw⟩ := hp
    refine z_aload_n X hl 0 rfl rfl dX10_passesBack_18 ?_
    refine r_callVv (rest := []) X K g h (ct_X10_goesBack u3 _ hw) lk_X10_100 0 rfl rfl ⟨rfl, rfl⟩ ⟨Nat.le_of_ble_eq_true rfl, Nat.le_of_ble_eq_true rfl⟩ rfl (lv_size hl) rfl (Nat.le_of_ble_eq_true rfl) dX10_passesBack_19 ⟨Nat.le_of_ble_eq_true rfl, Nat.le_of_ble_eq_true rfl⟩ (fun w' H locs hp h => ?_)
    obtain ⟨u4, rfl, hw⟩ := hp
    refine z_aload_n X hl 0 rfl rfl dX10_passesBack_22 ?_
    refine z_iconst X dX10_passesBack_23 ?_
    refine pM_X10_givenBy X K h q_1344 dX10_passesBack_24 (fun H locs h => ?_)
    refine z_aload_n X hl 0 rfl rfl dX10_passesBack_27 ?_
    refine gM_X10_front X K h q_1341 dX10_passesBack_28 ?_
    refine z_aload_n X hl 0 rfl rfl dX10_passesBack_31 ?_
    refine gM_X10_frontMany (x := sI u4 2) X K h rfl q_1343 dX10_passesBack_32 ?_
    refine z_iconst X dX10_passesBack_35 ?_
    refine z_isub X dX10_passesBack_36 ?_
    obtain ⟨h5, h6, hw⟩ := hw
    refine lM_1 (x := sA u4 1 ((sI u4 2) - 1)) X K h h5 h6 rfl dX10_passesBack_37 ?_
    exact r_iret X hr hlk K h (Nat.le_refl _) (Nat.le_refl _) dX10_passesBack_38 ⟨_, rfl, hw⟩
  · replace hw := hw.2 c2
    refine z_aload_n X hl 0 rfl rfl dX10_passesBack_7 ?_
    refine z_bipush (v := (-2)) X dX10_passesBack_8 (by decide) ?_
    refine r_callVi (rest := []) X K g h (ct_X10_refuses u0 (-2) _ hw) lk_X10_103 0 rfl rfl ⟨rfl, rfl⟩ ⟨Nat.le_of_ble_eq_true rfl, Nat.le_of_ble_eq_true rfl⟩ rfl (lv_size hl) rfl (Nat.le_of_ble_eq_true rfl) dX10_passesBack_10 ⟨Nat.le_of_ble_eq_true rfl, Nat.le_of_ble_eq_true rfl⟩ (fun z7 w' H locs hp h => ?_)
    obtain ⟨u8, rfl, hw⟩ := hp
    exact r_iret X hr hlk K h (Nat.le_refl _) (Nat.le_refl _) dX10_passesBack_13 ⟨_, rfl, hw⟩
def w_X10_adds (post : Int → St → Prop) (u0 : St) (p1 : Int) : Prop :=
(w_X10_many (fun (z1 : Int) => (InR z1) ∧ ((¬ z1 = 100 → (w_X10_keeps (fun  (u4 : St) => (0 ≤ sI u4 1) ∧ (sI u4 1 < 101) ∧ (w_X10_many (fun (z7 : Int) => post z7 (pI (pI (pA u4 0 (sI u4 1) p1) 1 ((sI u4 1) + 1)) 3 0)) (pI (pI (pA u4 0 (sI u4 1) p1) 1 ((sI u4 1) + 1)) 3 0))) u0)) ∧
 (z1 = 100 → (w_X10_refuses (fun (z8 : Int) (u9 : St) => post z8 u9) u0 (-5))))) u0)
abbrev rm_X10_adds : Room := { frames := 2, cells := 0, slots := 0, locals := 43 }
set_option maxRecDepth 100000 in
set_option maxHeartbeats 4000000 in
theorem ct_X10_adds {l : Launch} {G : Gr} {a : Nat → Nat} (u0 : St) (p1 : Int) (post : Int → St → Prop) (hw : w_X10_adds post u0 p1) : Ct l G yX10_adds (ws_ yX10_adds cX10_adds 2 (some .int)) rm_X10_adds [.ref (a 0), zI p1] (WM G a u0) 0 0 (Po (WM G a) post) := by
  refine Ct.of (by decide) (Nat.le_of_ble_eq_true rfl) ?_
  intro p e s m args below meth c ls X hr hlk K g h hl
  have hl : lv_has ls 2 [(0, .ref (a 0)), (1, zI p1)] := hl
  obtain ⟨H, hH⟩ : ∃ H, H = s.heap := ⟨_, rfl⟩
  obtain ⟨locs, hL⟩ : ∃ L : List Loc, L = [] := ⟨_, rfl⟩
  replace h : HW G (va_A (WM G a u0) s.heap.size) s.heap (WM G a u0) H locs := by rw [hH, hL]; exact h
  suffices hg : W p l e rm_X10_adds s m args below meth c H locs 0 0 (EndI G (WM G a u0) (Po (WM G a) post) args s 0 0 below) (F0 m 0 ls []) by rw [hH, hL] at hg; exact hg
  clear hH hL
  refine z_aload_n X hl 0 rfl rfl dX10_adds_0 ?_
  refine r_callVi (rest := []) X K g h (ct_X10_many u0 _ hw) lk_X10_84 0 rfl rfl ⟨rfl, rfl⟩ ⟨Nat.le_of_ble_eq_true rfl, Nat.le_of_ble_eq_true rfl⟩ rfl (lv_size hl) rfl (Nat.le_of_ble_eq_true rfl) dX10_adds_1 ⟨Nat.le_of_ble_eq_true rfl, Nat.le_of_ble_eq_true rfl⟩ (fun z1 w' H locs hp h => ?_)
  obtain ⟨rfl, hw⟩ := hp
  refine z_bipush (v := 100) X dX10_adds_4 (by decide) ?_
  obtain ⟨h2, hw⟩ := hw
  refine z_icmp_ne (tgt := 16) X h2 (by decide) dX10_adds_6 (by decide) (fun c3 => ?_) (fun c3 => ?_)
  · replace hw := hw.1 c3
    refine z_aload_n X hl 0 rfl rfl dX10_adds_16 ?_
    refine r_callVv (rest := []) X K g h (ct_X10_keeps u0 _ hw) lk_X10_106 0 rfl rfl ⟨rfl, rfl⟩ ⟨Nat.le_of_ble_eq_true rfl, Nat.le_of_ble_eq_true rfl⟩ rfl (lv_size hl) rfl (Nat.le_of_ble_eq_true rfl) dX10_adds_17 ⟨Nat.le_of_ble_eq_true rfl, Nat.le_of_ble_eq_true rfl⟩ (fun w' H locs hp h => ?_)
    obtain ⟨u4, rfl, hw⟩ := hp
    refine z_aload_n X hl 0 rfl rfl dX10_adds_20 ?_
    refine gM_X10_back X K h q_1340 dX10_adds_21 ?_
    refine z_aload_n X hl 0 rfl rfl dX10_adds_24 ?_
    refine gM_X10_backMany (x := sI u4 1) X K h rfl q_1342 dX10_adds_25 ?_
    refine z_iload_n X hl 1 rfl rfl dX10_adds_28 ?_
    obtain ⟨h5, h6, hw⟩ := hw
    refine sM_0 X K h h5 h6 dX10_adds_29 (fun H locs h => ?_)
    refine z_aload_n X hl 0 rfl rfl dX10_adds_30 ?_
    refine z_dup X rfl dX10_adds_31 ?_
    refine gM_X10_backMany (x := sI u4 1) X K h rfl q_1342 dX10_adds_32 ?_
    refine z_iconst X dX10_adds_35 ?_
    refine z_iadd X dX10_adds_36 ?_
    refine pM_X10_backMany X K h q_1342 dX10_adds_37 (fun H locs h => ?_)
    refine z_aload_n X hl 0 rfl rfl dX10_adds_40 ?_
    refine z_iconst X dX10_adds_41 ?_
    refine pM_X10_givenBy X K h q_1344 dX10_adds_42 (fun H locs h => ?_)
    refine z_aload_n X hl 0 rfl rfl dX10_adds_45 ?_
    refine r_callVi (rest := []) X K g h (ct_X10_many (pI (pI (pA u4 0 (sI u4 1) p1) 1 ((sI u4 1) + 1)) 3 0) _ hw) lk_X10_84 0 rfl rfl ⟨rfl, rfl⟩ ⟨Nat.le_of_ble_eq_true rfl, Nat.le_of_ble_eq_true rfl⟩ rfl (lv_size hl) rfl (Nat.le_of_ble_eq_true rfl) dX10_adds_46 ⟨Nat.le_of_ble_eq_true rfl, Nat.le_of_ble_eq_true rfl⟩ (fun z7 w' H locs hp h => ?_)
    obtain ⟨rfl, hw⟩ := hp
    exact r_iret X hr hlk K h (Nat.le_refl _) (Nat.le_refl _) dX10_adds_49 ⟨_, rfl, hw⟩
  · replace hw := hw.2 c3
    refine z_aload_n X hl 0 rfl rfl dX10_adds_9 ?_
    refine z_bipush (v := (-5)) X dX10_adds_10 (by decide) ?_
    refine r_callVi (rest := []) X K g h (ct_X10_refuses u0 (-5) _ hw) lk_X10_103 0 rfl rfl ⟨rfl, rfl⟩ ⟨Nat.le_of_ble_eq_true rfl, Nat.le_of_ble_eq_true rfl⟩ rfl (lv_size hl) rfl (Nat.le_of_ble_eq_true rfl) dX10_adds_12 ⟨Nat.le_of_ble_eq_true rfl, Nat.le_of_ble_eq_true rfl⟩ (fun z8 w' H locs hp h => ?_)
    obtain ⟨u9, rfl, hw⟩ := hp
    exact r_iret X hr hlk K h (Nat.le_refl _) (Nat.le_refl _) dX10_adds_15 ⟨_, rfl, hw⟩
def w_X10_givenNow (post : Int → Prop) (u0 : St) : Prop :=
(InR (sI u0 3)) ∧ ((¬ sI u0 3 = 0 → ((¬ sI u0 3 = 1 → (0 ≤ (sI u0 2) - 1) ∧ ((sI u0 2) - 1 < 101) ∧ post (sA u0 1 ((sI u0 2) - 1))) ∧
 (sI u0 3 = 1 → (0 ≤ (sI u0 1) - 1) ∧ ((sI u0 1) - 1 < 101) ∧ post (sA u0 0 ((sI u0 1) - 1))))) ∧
 (sI u0 3 = 0 → post (-1)))
abbrev rm_X10_givenNow : Room := { frames := 0, cells := 0, slots := 0, locals := 0 }
set_option maxRecDepth 100000 in
set_option maxHeartbeats 4000000 in
theorem ct_X10_givenNow {l : Launch} {G : Gr} {a : Nat → Nat} (u0 : St) (post : Int → Prop) (hw : w_X10_givenNow post u0) : Ct l G yX10_givenNow (ws_ yX10_givenNow cX10_givenNow 1 (some .int)) rm_X10_givenNow [.ref (a 0)] (WM G a u0) 0 0 (PoP (WM G a u0) post) := by
  refine Ct.of (by decide) (Nat.le_of_ble_eq_true rfl) ?_
  intro p e s m args below meth c ls X hr hlk K g h hl
  have hl : lv_has ls 1 [(0, .ref (a 0))] := hl
  obtain ⟨H, hH⟩ : ∃ H, H = s.heap := ⟨_, rfl⟩
  obtain ⟨locs, hL⟩ : ∃ L : List Loc, L = [] := ⟨_, rfl⟩
  replace h : HW G (va_A (WM G a u0) s.heap.size) s.heap (WM G a u0) H locs := by rw [hH, hL]; exact h
  suffices hg : W p l e rm_X10_givenNow s m args below meth c H locs 0 0 (EndI G (WM G a u0) (PoP (WM G a u0) post) args s 0 0 below) (F0 m 0 ls []) by rw [hH, hL] at hg; exact hg
  clear hH hL
  refine z_aload_n X hl 0 rfl rfl dX10_givenNow_0 ?_
  refine gM_X10_givenBy (x := sI u0 3) X K h rfl q_1344 dX10_givenNow_1 ?_
  obtain ⟨h1, hw⟩ := hw
  refine z_if_ne (tgt := 11) X h1 dX10_givenNow_4 (by decide) (fun c2 => ?_) (fun c2 => ?_)
  · replace hw := hw.1 c2
    refine z_aload_n X hl 0 rfl rfl dX10_givenNow_11 ?_
    refine gM_X10_givenBy (x := sI u0 3) X K h rfl q_1344 dX10_givenNow_12 ?_
    refine z_iconst X dX10_givenNow_15 ?_
    refine z_icmp_ne (tgt := 33) X h1 (by decide) dX10_givenNow_16 (by decide) (fun c3 => ?_) (fun c3 => ?_)
    · replace hw := hw.1 c3
      refine z_aload_n X hl 0 rfl rfl dX10_givenNow_33 ?_
      refine gM_X10_front X K h q_1341 dX10_givenNow_34 ?_
      refine z_aload_n X hl 0 rfl rfl dX10_givenNow_37 ?_
      refine gM_X10_frontMany (x := sI u0 2) X K h rfl q_1343 dX10_givenNow_38 ?_
      refine z_iconst X dX10_givenNow_41 ?_
      refine z_isub X dX10_givenNow_42 ?_
      obtain ⟨h4, h5, hw⟩ := hw
      refine lM_1 (x := sA u0 1 ((sI u0 2) - 1)) X K h h4 h5 rfl dX10_givenNow_43 ?_
      exact r_iret X hr hlk K h (Nat.le_refl _) (Nat.le_refl _) dX10_givenNow_44 ⟨rfl, hw⟩
    · replace hw := hw.2 c3
      refine z_aload_n X hl 0 rfl rfl dX10_givenNow_19 ?_
      refine gM_X10_back X K h q_1340 dX10_givenNow_20 ?_
      refine z_aload_n X hl 0 rfl rfl dX10_givenNow_23 ?_
      refine gM_X10_backMany (x := sI u0 1) X K h rfl q_1342 dX10_givenNow_24 ?_
      refine z_iconst X dX10_givenNow_27 ?_
      refine z_isub X dX10_givenNow_28 ?_
      obtain ⟨h6, h7, hw⟩ := hw
      refine lM_0 (x := sA u0 0 ((sI u0 1) - 1)) X K h h6 h7 rfl dX10_givenNow_29 ?_
      refine z_goto (tgt := 44) X dX10_givenNow_30 (by decide) ?_
      exact r_iret X hr hlk K h (Nat.le_refl _) (Nat.le_refl _) dX10_givenNow_44 ⟨rfl, hw⟩
  · replace hw := hw.2 c2
    refine z_iconst X dX10_givenNow_7 ?_
    refine z_goto (tgt := 44) X dX10_givenNow_8 (by decide) ?_
    exact r_iret X hr hlk K h (Nat.le_refl _) (Nat.le_refl _) dX10_givenNow_44 ⟨rfl, hw⟩
def w_X10_sets (post : Int → St → Prop) (u0 : St) (p1 : Int) : Prop :=
(InR (sI u0 3)) ∧ ((¬ sI u0 3 = 0 → (w_X10_keeps (fun  (u3 : St) => (w_X10_givenNow (fun (z4 : Int) => (InR (sI u3 3)) ∧ ((¬ sI u3 3 = 1 → (0 ≤ (sI u3 2) - 1) ∧ ((sI u3 2) - 1 < 101) ∧ post z4 (pA u3 1 ((sI u3 2) - 1) p1)) ∧
 (sI u3 3 = 1 → (0 ≤ (sI u3 1) - 1) ∧ ((sI u3 1) - 1 < 101) ∧ post z4 (pA u3 0 ((sI u3 1) - 1) p1)))) u3)) u0)) ∧
 (sI u0 3 = 0 → (w_X10_refuses (fun (z11 : Int) (u12 : St) => post z11 u12) u0 (-3))))
abbrev rm_X10_sets : Room := { frames := 2, cells := 0, slots := 0, locals := 43 }
set_option maxRecDepth 100000 in
set_option maxHeartbeats 4000000 in
theorem ct_X10_sets {l : Launch} {G : Gr} {a : Nat → Nat} (u0 : St) (p1 : Int) (post : Int → St → Prop) (hw : w_X10_sets post u0 p1) : Ct l G yX10_sets (ws_ yX10_sets cX10_sets 3 (some .int)) rm_X10_sets [.ref (a 0), zI p1] (WM G a u0) 0 0 (Po (WM G a) post) := by
  refine Ct.of (by decide) (Nat.le_of_ble_eq_true rfl) ?_
  intro p e s m args below meth c ls X hr hlk K g h hl
  have hl : lv_has ls 3 [(0, .ref (a 0)), (1, zI p1)] := hl
  obtain ⟨H, hH⟩ : ∃ H, H = s.heap := ⟨_, rfl⟩
  obtain ⟨locs, hL⟩ : ∃ L : List Loc, L = [] := ⟨_, rfl⟩
  replace h : HW G (va_A (WM G a u0) s.heap.size) s.heap (WM G a u0) H locs := by rw [hH, hL]; exact h
  suffices hg : W p l e rm_X10_sets s m args below meth c H locs 0 0 (EndI G (WM G a u0) (Po (WM G a) post) args s 0 0 below) (F0 m 0 ls []) by rw [hH, hL] at hg; exact hg
  clear hH hL
  refine z_aload_n X hl 0 rfl rfl dX10_sets_0 ?_
  refine gM_X10_givenBy (x := sI u0 3) X K h rfl q_1344 dX10_sets_1 ?_
  obtain ⟨h1, hw⟩ := hw
  refine z_if_ne (tgt := 14) X h1 dX10_sets_4 (by decide) (fun c2 => ?_) (fun c2 => ?_)
  · replace hw := hw.1 c2
    refine z_aload_n X hl 0 rfl rfl dX10_sets_14 ?_
    refine r_callVv (rest := []) X K g h (ct_X10_keeps u0 _ hw) lk_X10_106 0 rfl rfl ⟨rfl, rfl⟩ ⟨Nat.le_of_ble_eq_true rfl, Nat.le_of_ble_eq_true rfl⟩ rfl (lv_size hl) rfl (Nat.le_of_ble_eq_true rfl) dX10_sets_15 ⟨Nat.le_of_ble_eq_true rfl, Nat.le_of_ble_eq_true rfl⟩ (fun w' H locs hp h => ?_)
    obtain ⟨u3, rfl, hw⟩ := hp
    refine z_aload_n X hl 0 rfl rfl dX10_sets_18 ?_
    refine r_callVi (rest := []) X K g h (ct_X10_givenNow u3 _ hw) lk_X10_112 0 rfl rfl ⟨rfl, rfl⟩ ⟨Nat.le_of_ble_eq_true rfl, Nat.le_of_ble_eq_true rfl⟩ rfl (lv_size hl) rfl (Nat.le_of_ble_eq_true rfl) dX10_sets_19 ⟨Nat.le_of_ble_eq_true rfl, Nat.le_of_ble_eq_true rfl⟩ (fun z4 w' H locs hp h => ?_)
    obtain ⟨rfl, hw⟩ := hp
    refine z_istore_n (i := 2) (lv' := [(2, zI z4), (0, .ref (a 0)), (1, zI p1)]) X hl rfl (by decide) dX10_sets_22 rfl (fun ls hl => ?_)
    refine z_aload_n X hl 1 rfl rfl dX10_sets_23 ?_
    refine gM_X10_givenBy (x := sI u3 3) X K h rfl q_1344 dX10_sets_24 ?_
    refine z_iconst X dX10_sets_27 ?_
    obtain ⟨h5, hw⟩ := hw
    refine z_icmp_ne (tgt := 46) X h5 (by decide) dX10_sets_28 (by decide) (fun c6 => ?_) (fun c6 => ?_)
    · replace hw := hw.1 c6
      refine z_aload_n X hl 1 rfl rfl dX10_sets_46 ?_
      refine gM_X10_front X K h q_1341 dX10_sets_47 ?_
      refine z_aload_n X hl 1 rfl rfl dX10_sets_50 ?_
      refine gM_X10_frontMany (x := sI u3 2) X K h rfl q_1343 dX10_sets_51 ?_
      refine z_iconst X dX10_sets_54 ?_
      refine z_isub X dX10_sets_55 ?_
      refine z_iload_n X hl 2 rfl rfl dX10_sets_56 ?_
      obtain ⟨h7, h8, hw⟩ := hw
      refine sM_1 X K h h7 h8 dX10_sets_57 (fun H locs h => ?_)
      refine z_iload_n X hl 0 rfl rfl dX10_sets_58 ?_
      exact r_iret X hr hlk K h (Nat.le_refl _) (Nat.le_refl _) dX10_sets_59 ⟨_, rfl, hw⟩
    · replace hw := hw.2 c6
      refine z_aload_n X hl 1 rfl rfl dX10_sets_31 ?_
      refine gM_X10_back X K h q_1340 dX10_sets_32 ?_
      refine z_aload_n X hl 1 rfl rfl dX10_sets_35 ?_
      refine gM_X10_backMany (x := sI u3 1) X K h rfl q_1342 dX10_sets_36 ?_
      refine z_iconst X dX10_sets_39 ?_
      refine z_isub X dX10_sets_40 ?_
      refine z_iload_n X hl 2 rfl rfl dX10_sets_41 ?_
      obtain ⟨h9, h10, hw⟩ := hw
      refine sM_0 X K h h9 h10 dX10_sets_42 (fun H locs h => ?_)
      refine z_goto (tgt := 58) X dX10_sets_43 (by decide) ?_
      refine z_iload_n X hl 0 rfl rfl dX10_sets_58 ?_
      exact r_iret X hr hlk K h (Nat.le_refl _) (Nat.le_refl _) dX10_sets_59 ⟨_, rfl, hw⟩
  · replace hw := hw.2 c2
    refine z_aload_n X hl 0 rfl rfl dX10_sets_7 ?_
    refine z_bipush (v := (-3)) X dX10_sets_8 (by decide) ?_
    refine r_callVi (rest := []) X K g h (ct_X10_refuses u0 (-3) _ hw) lk_X10_103 0 rfl rfl ⟨rfl, rfl⟩ ⟨Nat.le_of_ble_eq_true rfl, Nat.le_of_ble_eq_true rfl⟩ rfl (lv_size hl) rfl (Nat.le_of_ble_eq_true rfl) dX10_sets_10 ⟨Nat.le_of_ble_eq_true rfl, Nat.le_of_ble_eq_true rfl⟩ (fun z11 w' H locs hp h => ?_)
    obtain ⟨u12, rfl, hw⟩ := hp
    exact r_iret X hr hlk K h (Nat.le_refl _) (Nat.le_refl _) dX10_sets_13 ⟨_, rfl, hw⟩
def w_X10_removes (post : Int → St → Prop) (u0 : St) : Prop :=
(InR (sI u0 3)) ∧ ((¬ sI u0 3 = 0 → (w_X10_keeps (fun  (u3 : St) => (w_X10_givenNow (fun (z4 : Int) => (InR (sI u3 3)) ∧ ((¬ sI u3 3 = 1 → post z4 (pI (pI u3 2 ((sI u3 2) - 1)) 3 0)) ∧
 (sI u3 3 = 1 → post z4 (pI (pI u3 1 ((sI u3 1) - 1)) 3 0)))) u3)) u0)) ∧
 (sI u0 3 = 0 → (w_X10_refuses (fun (z7 : Int) (u8 : St) => post z7 u8) u0 (-3))))
abbrev rm_X10_removes : Room := { frames := 2, cells := 0, slots := 0, locals := 43 }
set_option maxRecDepth 100000 in
set_option maxHeartbeats 4000000 in
theorem ct_X10_removes {l : Launch} {G : Gr} {a : Nat → Nat} (u0 : St) (post : Int → St → Prop) (hw : w_X10_removes post u0) : Ct l G yX10_removes (ws_ yX10_removes cX10_removes 2 (some .int)) rm_X10_removes [.ref (a 0)] (WM G a u0) 0 0 (Po (WM G a) post) := by
  refine Ct.of (by decide) (Nat.le_of_ble_eq_true rfl) ?_
  intro p e s m args below meth c ls X hr hlk K g h hl
  have hl : lv_has ls 2 [(0, .ref (a 0))] := hl
  obtain ⟨H, hH⟩ : ∃ H, H = s.heap := ⟨_, rfl⟩
  obtain ⟨locs, hL⟩ : ∃ L : List Loc, L = [] := ⟨_, rfl⟩
  replace h : HW G (va_A (WM G a u0) s.heap.size) s.heap (WM G a u0) H locs := by rw [hH, hL]; exact h
  suffices hg : W p l e rm_X10_removes s m args below meth c H locs 0 0 (EndI G (WM G a u0) (Po (WM G a) post) args s 0 0 below) (F0 m 0 ls []) by rw [hH, hL] at hg; exact hg
  clear hH hL
  refine z_aload_n X hl 0 rfl rfl dX10_removes_0 ?_
  refine gM_X10_givenBy (x := sI u0 3) X K h rfl q_1344 dX10_removes_1 ?_
  obtain ⟨h1, hw⟩ := hw
  refine z_if_ne (tgt := 14) X h1 dX10_removes_4 (by decide) (fun c2 => ?_) (fun c2 => ?_)
  · replace hw := hw.1 c2
    refine z_aload_n X hl 0 rfl rfl dX10_removes_14 ?_
    refine r_callVv (rest := []) X K g h (ct_X10_keeps u0 _ hw) lk_X10_106 0 rfl rfl ⟨rfl, rfl⟩ ⟨Nat.le_of_ble_eq_true rfl, Nat.le_of_ble_eq_true rfl⟩ rfl (lv_size hl) rfl (Nat.le_of_ble_eq_true rfl) dX10_removes_15 ⟨Nat.le_of_ble_eq_true rfl, Nat.le_of_ble_eq_true rfl⟩ (fun w' H locs hp h => ?_)
    obtain ⟨u3, rfl, hw⟩ := hp
    refine z_aload_n X hl 0 rfl rfl dX10_removes_18 ?_
    refine r_callVi (rest := []) X K g h (ct_X10_givenNow u3 _ hw) lk_X10_112 0 rfl rfl ⟨rfl, rfl⟩ ⟨Nat.le_of_ble_eq_true rfl, Nat.le_of_ble_eq_true rfl⟩ rfl (lv_size hl) rfl (Nat.le_of_ble_eq_true rfl) dX10_removes_19 ⟨Nat.le_of_ble_eq_true rfl, Nat.le_of_ble_eq_true rfl⟩ (fun z4 w' H locs hp h => ?_)
    obtain ⟨rfl, hw⟩ := hp
    refine z_istore_n (i := 1) (lv' := [(1, zI z4), (0, .ref (a 0))]) X hl rfl (by decide) dX10_removes_22 rfl (fun ls hl => ?_)
    refine z_aload_n X hl 1 rfl rfl dX10_removes_23 ?_
    refine gM_X10_givenBy (x := sI u3 3) X K h rfl q_1344 dX10_removes_24 ?_
    refine z_iconst X dX10_removes_27 ?_
    obtain ⟨h5, hw⟩ := hw
    refine z_icmp_ne (tgt := 44) X h5 (by decide) dX10_removes_28 (by decide) (fun c6 => ?_) (fun c6 => ?_)
    · replace hw := hw.1 c6
      refine z_aload_n X hl 1 rfl rfl dX10_removes_44 ?_
      refine z_dup X rfl dX10_removes_45 ?_
      refine gM_X10_frontMany (x := sI u3 2) X K h rfl q_1343 dX10_removes_46 ?_
      refine z_iconst X dX10_removes_49 ?_
      refine z_isub X dX10_removes_50 ?_
      refine pM_X10_frontMany X K h q_1343 dX10_removes_51 (fun H locs h => ?_)
      refine z_aload_n X hl 1 rfl rfl dX10_removes_54 ?_
      refine z_iconst X dX10_removes_55 ?_
      refine pM_X10_givenBy X K h q_1344 dX10_removes_56 (fun H locs h => ?_)
      refine z_iload_n X hl 0 rfl rfl dX10_removes_59 ?_
      exact r_iret X hr hlk K h (Nat.le_refl _) (Nat.le_refl _) dX10_removes_60 ⟨_, rfl, hw⟩
    · replace hw := hw.2 c6
      refine z_aload_n X hl 1 rfl rfl dX10_removes_31 ?_
      refine z_dup X rfl dX10_removes_32 ?_
      refine gM_X10_backMany (x := sI u3 1) X K h rfl q_1342 dX10_removes_33 ?_
      refine z_iconst X dX10_removes_36 ?_
      refine z_isub X dX10_removes_37 ?_
      refine pM_X10_backMany X K h q_1342 dX10_removes_38 (fun H locs h => ?_)
      refine z_goto (tgt := 54) X dX10_removes_41 (by decide) ?_
      refine z_aload_n X hl 1 rfl rfl dX10_removes_54 ?_
      refine z_iconst X dX10_removes_55 ?_
      refine pM_X10_givenBy X K h q_1344 dX10_removes_56 (fun H locs h => ?_)
      refine z_iload_n X hl 0 rfl rfl dX10_removes_59 ?_
      exact r_iret X hr hlk K h (Nat.le_refl _) (Nat.le_refl _) dX10_removes_60 ⟨_, rfl, hw⟩
  · replace hw := hw.2 c2
    refine z_aload_n X hl 0 rfl rfl dX10_removes_7 ?_
    refine z_bipush (v := (-3)) X dX10_removes_8 (by decide) ?_
    refine r_callVi (rest := []) X K g h (ct_X10_refuses u0 (-3) _ hw) lk_X10_103 0 rfl rfl ⟨rfl, rfl⟩ ⟨Nat.le_of_ble_eq_true rfl, Nat.le_of_ble_eq_true rfl⟩ rfl (lv_size hl) rfl (Nat.le_of_ble_eq_true rfl) dX10_removes_10 ⟨Nat.le_of_ble_eq_true rfl, Nat.le_of_ble_eq_true rfl⟩ (fun z7 w' H locs hp h => ?_)
    obtain ⟨u8, rfl, hw⟩ := hp
    exact r_iret X hr hlk K h (Nat.le_refl _) (Nat.le_refl _) dX10_removes_13 ⟨_, rfl, hw⟩
def w_X10_moves (post : Int → St → Prop) (u0 : St) (p1 : Int) : Prop :=
(w_X10_many (fun (z1 : Int) => (w_X10_in (fun (z2 : Int) => (InR z2) ∧ ((¬ z2 = 0 → (w_X10_keeps (fun  (u5 : St) => (w_X10_goesTo (fun  (u6 : St) => post p1 (pI u6 3 0)) u5 p1)) u0)) ∧
 (z2 = 0 → (w_X10_refuses (fun (z7 : Int) (u8 : St) => post z7 u8) u0 (-4))))) p1 0 z1)) u0)
abbrev rm_X10_moves : Room := { frames := 2, cells := 0, slots := 0, locals := 43 }
set_option maxRecDepth 100000 in
set_option maxHeartbeats 4000000 in
theorem ct_X10_moves {l : Launch} {G : Gr} {a : Nat → Nat} (u0 : St) (p1 : Int) (post : Int → St → Prop) (hw : w_X10_moves post u0 p1) : Ct l G yX10_moves (ws_ yX10_moves cX10_moves 2 (some .int)) rm_X10_moves [.ref (a 0), zI p1] (WM G a u0) 0 0 (Po (WM G a) post) := by
  refine Ct.of (by decide) (Nat.le_of_ble_eq_true rfl) ?_
  intro p e s m args below meth c ls X hr hlk K g h hl
  have hl : lv_has ls 2 [(0, .ref (a 0)), (1, zI p1)] := hl
  obtain ⟨H, hH⟩ : ∃ H, H = s.heap := ⟨_, rfl⟩
  obtain ⟨locs, hL⟩ : ∃ L : List Loc, L = [] := ⟨_, rfl⟩
  replace h : HW G (va_A (WM G a u0) s.heap.size) s.heap (WM G a u0) H locs := by rw [hH, hL]; exact h
  suffices hg : W p l e rm_X10_moves s m args below meth c H locs 0 0 (EndI G (WM G a u0) (Po (WM G a) post) args s 0 0 below) (F0 m 0 ls []) by rw [hH, hL] at hg; exact hg
  clear hH hL
  refine z_iload_n X hl 1 rfl rfl dX10_moves_0 ?_
  refine z_iconst X dX10_moves_1 ?_
  refine z_aload_n X hl 0 rfl rfl dX10_moves_2 ?_
  refine r_callVi (rest := [zI 0, zI p1]) X K g h (ct_X10_many u0 _ hw) lk_X10_84 0 rfl rfl ⟨rfl, rfl⟩ ⟨Nat.le_of_ble_eq_true rfl, Nat.le_of_ble_eq_true rfl⟩ rfl (lv_size hl) rfl (Nat.le_of_ble_eq_true rfl) dX10_moves_3 ⟨Nat.le_of_ble_eq_true rfl, Nat.le_of_ble_eq_true rfl⟩ (fun z1 w' H locs hp h => ?_)
  obtain ⟨rfl, hw⟩ := hp
  refine r_callSi (rest := []) X K g h (ct_X10_in (w := WM G a u0) p1 0 z1 _ hw) lk_X10_66 ⟨rfl, rfl⟩ ⟨Nat.le_of_ble_eq_true rfl, Nat.le_of_ble_eq_true rfl⟩ rfl (lv_size hl) rfl (Nat.le_of_ble_eq_true rfl) dX10_moves_6 ⟨Nat.le_of_ble_eq_true rfl, Nat.le_of_ble_eq_true rfl⟩ (fun z2 w' H locs hp h => ?_)
  obtain ⟨rfl, hw⟩ := hp
  obtain ⟨h3, hw⟩ := hw
  refine z_if_ne (tgt := 19) X h3 dX10_moves_9 (by decide) (fun c4 => ?_) (fun c4 => ?_)
  · replace hw := hw.1 c4
    refine z_aload_n X hl 0 rfl rfl dX10_moves_19 ?_
    refine r_callVv (rest := []) X K g h (ct_X10_keeps u0 _ hw) lk_X10_106 0 rfl rfl ⟨rfl, rfl⟩ ⟨Nat.le_of_ble_eq_true rfl, Nat.le_of_ble_eq_true rfl⟩ rfl (lv_size hl) rfl (Nat.le_of_ble_eq_true rfl) dX10_moves_20 ⟨Nat.le_of_ble_eq_true rfl, Nat.le_of_ble_eq_true rfl⟩ (fun w' H locs hp h => ?_)
    obtain ⟨u5, rfl, hw⟩ := hp
    refine z_aload_n X hl 0 rfl rfl dX10_moves_23 ?_
    refine z_iload_n X hl 1 rfl rfl dX10_moves_24 ?_
    refine r_callVv (rest := []) X K g h (ct_X10_goesTo u5 p1 _ hw) lk_X10_115 0 rfl rfl ⟨rfl, rfl⟩ ⟨Nat.le_of_ble_eq_true rfl, Nat.le_of_ble_eq_true rfl⟩ rfl (lv_size hl) rfl (Nat.le_of_ble_eq_true rfl) dX10_moves_25 ⟨Nat.le_of_ble_eq_true rfl, Nat.le_of_ble_eq_true rfl⟩ (fun w' H locs hp h => ?_)
    obtain ⟨u6, rfl, hw⟩ := hp
    refine z_aload_n X hl 0 rfl rfl dX10_moves_28 ?_
    refine z_iconst X dX10_moves_29 ?_
    refine pM_X10_givenBy X K h q_1344 dX10_moves_30 (fun H locs h => ?_)
    refine z_iload_n X hl 1 rfl rfl dX10_moves_33 ?_
    exact r_iret X hr hlk K h (Nat.le_refl _) (Nat.le_refl _) dX10_moves_34 ⟨_, rfl, hw⟩
  · replace hw := hw.2 c4
    refine z_aload_n X hl 0 rfl rfl dX10_moves_12 ?_
    refine z_bipush (v := (-4)) X dX10_moves_13 (by decide) ?_
    refine r_callVi (rest := []) X K g h (ct_X10_refuses u0 (-4) _ hw) lk_X10_103 0 rfl rfl ⟨rfl, rfl⟩ ⟨Nat.le_of_ble_eq_true rfl, Nat.le_of_ble_eq_true rfl⟩ rfl (lv_size hl) rfl (Nat.le_of_ble_eq_true rfl) dX10_moves_15 ⟨Nat.le_of_ble_eq_true rfl, Nat.le_of_ble_eq_true rfl⟩ (fun z7 w' H locs hp h => ?_)
    obtain ⟨u8, rfl, hw⟩ := hp
    exact r_iret X hr hlk K h (Nat.le_refl _) (Nat.le_refl _) dX10_moves_18 ⟨_, rfl, hw⟩
def b_X10_finds_35 (post : Int → St → Prop) (u4 : St) (y1_35 : Int) (y2_35 : Int) (K35 : Int → Prop) (x3_3 : Int) : Prop :=
(InR x3_3) ∧ (InR (sI u4 2)) ∧ ((sI u4 2 < x3_3 → (InR y2_35) ∧ ((y2_35 = 0 → (w_X10_refuses (fun (z11 : Int) (u12 : St) => post z11 u12) u4 (-2))) ∧
 (¬ y2_35 = 0 → (InR (sI u4 1)) ∧ ((x3_3 ≤ sI u4 1 → (w_X10_keeps (fun  (u15 : St) => (w_X10_goesTo (fun  (u17 : St) => post x3_3 (pI u17 3 2)) u15 ((sI u15 1) - x3_3))) u4)) ∧
 (¬ x3_3 ≤ sI u4 1 → (w_X10_refuses (fun (z19 : Int) (u20 : St) => post z19 u20) u4 (-2))))))) ∧
 (¬ sI u4 2 < x3_3 → (0 ≤ (sI u4 2) - x3_3) ∧ ((sI u4 2) - x3_3 < 101) ∧ (InR (sA u4 1 ((sI u4 2) - x3_3))) ∧ (InR y1_35) ∧ ((sA u4 1 ((sI u4 2) - x3_3) = y1_35 → (InR y2_35) ∧ ((y2_35 = 0 → (w_X10_keeps (fun  (u29 : St) => (w_X10_goesTo (fun  (u31 : St) => post x3_3 (pI u31 3 1)) u29 ((sI u29 1) + x3_3))) u4)) ∧
 (¬ y2_35 = 0 → (InR (sI u4 1)) ∧ ((x3_3 ≤ sI u4 1 → (w_X10_keeps (fun  (u35 : St) => (w_X10_goesTo (fun  (u37 : St) => post x3_3 (pI u37 3 2)) u35 ((sI u35 1) - x3_3))) u4)) ∧
 (¬ x3_3 ≤ sI u4 1 → (w_X10_refuses (fun (z39 : Int) (u40 : St) => post z39 u40) u4 (-2))))))) ∧
 (¬ sA u4 1 ((sI u4 2) - x3_3) = y1_35 → K35 (x3_3 + 1)))))
def B_X10_finds_35 (post : Int → St → Prop) (u4 : St) (y1_35 : Int) (y2_35 : Int) : (Int → Prop) → Int → Prop := fun K t => b_X10_finds_35 post u4 y1_35 y2_35 K t
def b_X10_finds_6 (post : Int → St → Prop) (u42 : St) (y1_6 : Int) (y2_6 : Int) (K6 : Int → Prop) (x3_41 : Int) : Prop :=
(InR x3_41) ∧ (InR (sI u42 1)) ∧ ((sI u42 1 < x3_41 → (InR y2_6) ∧ ((y2_6 = 0 → (InR (sI u42 2)) ∧ ((x3_41 ≤ sI u42 2 → (w_X10_keeps (fun  (u50 : St) => (w_X10_goesTo (fun  (u52 : St) => post x3_41 (pI u52 3 1)) u50 ((sI u50 1) + x3_41))) u42)) ∧
 (¬ x3_41 ≤ sI u42 2 → (w_X10_refuses (fun (z54 : Int) (u55 : St) => post z54 u55) u42 (-2))))) ∧
 (¬ y2_6 = 0 → (w_X10_refuses (fun (z57 : Int) (u58 : St) => post z57 u58) u42 (-2))))) ∧
 (¬ sI u42 1 < x3_41 → (0 ≤ (sI u42 1) - x3_41) ∧ ((sI u42 1) - x3_41 < 101) ∧ (InR (sA u42 0 ((sI u42 1) - x3_41))) ∧ (InR y1_6) ∧ ((sA u42 0 ((sI u42 1) - x3_41) = y1_6 → (InR y2_6) ∧ ((y2_6 = 0 → (InR (sI u42 2)) ∧ ((x3_41 ≤ sI u42 2 → (w_X10_keeps (fun  (u68 : St) => (w_X10_goesTo (fun  (u70 : St) => post x3_41 (pI u70 3 1)) u68 ((sI u68 1) + x3_41))) u42)) ∧
 (¬ x3_41 ≤ sI u42 2 → (w_X10_refuses (fun (z72 : Int) (u73 : St) => post z72 u73) u42 (-2))))) ∧
 (¬ y2_6 = 0 → (w_X10_keeps (fun  (u75 : St) => (w_X10_goesTo (fun  (u77 : St) => post x3_41 (pI u77 3 2)) u75 ((sI u75 1) - x3_41))) u42)))) ∧
 (¬ sA u42 0 ((sI u42 1) - x3_41) = y1_6 → K6 (x3_41 + 1)))))
def B_X10_finds_6 (post : Int → St → Prop) (u42 : St) (y1_6 : Int) (y2_6 : Int) : (Int → Prop) → Int → Prop := fun K t => b_X10_finds_6 post u42 y1_6 y2_6 K t
def w_X10_finds (post : Int → St → Prop) (u0 : St) (p1 : Int) (p2 : Int) : Prop :=
(InR p2) ∧ ((p2 = 0 → (∃ n : Nat, Lp (B_X10_finds_35 post u0 p1 p2) n 1)) ∧
 (¬ p2 = 0 → (∃ n : Nat, Lp (B_X10_finds_6 post u0 p1 p2) n 1)))
abbrev rm_X10_finds : Room := { frames := 2, cells := 0, slots := 0, locals := 43 }
set_option maxRecDepth 100000 in
set_option maxHeartbeats 4000000 in
theorem ct_X10_finds {l : Launch} {G : Gr} {a : Nat → Nat} (u0 : St) (p1 : Int) (p2 : Int) (post : Int → St → Prop) (hw : w_X10_finds post u0 p1 p2) : Ct l G yX10_finds (ws_ yX10_finds cX10_finds 4 (some .int)) rm_X10_finds [.ref (a 0), zI p1, zI p2] (WM G a u0) 0 0 (Po (WM G a) post) := by
  refine Ct.of (by decide) (Nat.le_of_ble_eq_true rfl) ?_
  intro p e s m args below meth c ls X hr hlk K g h hl
  have hl : lv_has ls 4 [(0, .ref (a 0)), (1, zI p1), (2, zI p2)] := hl
  obtain ⟨H, hH⟩ : ∃ H, H = s.heap := ⟨_, rfl⟩
  obtain ⟨locs, hL⟩ : ∃ L : List Loc, L = [] := ⟨_, rfl⟩
  replace h : HW G (va_A (WM G a u0) s.heap.size) s.heap (WM G a u0) H locs := by rw [hH, hL]; exact h
  suffices hg : W p l e rm_X10_finds s m args below meth c H locs 0 0 (EndI G (WM G a u0) (Po (WM G a) post) args s 0 0 below) (F0 m 0 ls []) by rw [hH, hL] at hg; exact hg
  clear hH hL
  refine z_iconst X dX10_finds_0 ?_
  refine z_istore_n (i := 3) (lv' := [(3, zI 1), (0, .ref (a 0)), (1, zI p1), (2, zI p2)]) X hl rfl (by decide) dX10_finds_1 rfl (fun ls hl => ?_)
  refine z_iload_n X hl 3 rfl rfl dX10_finds_2 ?_
  obtain ⟨h1, hw⟩ := hw
  refine z_if_eq (tgt := 35) X h1 dX10_finds_3 (by decide) (fun c2 => ?_) (fun c2 => ?_)
  · replace hw := hw.1 c2
    obtain ⟨n35, hw⟩ := hw
    have key35 : ∀ (n : Nat) (t : Int) (H : Heap) (locs : List Loc) (ls : Array Slot), Lp (B_X10_finds_35 post u0 p1 p2) n t → HW G (va_A (WM G a u0) s.heap.size) s.heap (WM G a u0) H locs → lv_has ls 4 [(0, .ref (a 0)), (1, zI p1), (2, zI p2), (3, zI t)] → W p l e rm_X10_finds s m args below meth c H locs 0 0 (EndI G (WM G a u0) (Po (WM G a) post) args s 0 0 below) (F0 m 35 ls []) := by
      intro n
      induction n with
      | zero =>
        intro t H locs ls hw
        exact hw.elim
      | succ n35 ih35 =>
        intro x3_3 H locs ls hw h hl
        replace hw : b_X10_finds_35 post u0 p1 p2 (Lp (B_X10_finds_35 post u0 p1 p2) n35) x3_3 := hw
        refine z_iload_n X hl 3 rfl rfl dX10_finds_35 ?_
        refine z_aload_n X hl 0 rfl rfl dX10_finds_36 ?_
        refine gM_X10_frontMany (x := sI u0 2) X K h rfl q_1343 dX10_finds_37 ?_
        obtain ⟨h5, h6, hw⟩ := hw
        refine z_icmp_gt (tgt := 64) X h5 h6 dX10_finds_40 (by decide) (fun c7 => ?_) (fun c7 => ?_)
        · replace hw := hw.1 c7
          refine z_iload_n X hl 3 rfl rfl dX10_finds_64 ?_
          refine z_iload_n X hl 2 rfl rfl dX10_finds_65 ?_
          obtain ⟨h8, hw⟩ := hw
          refine z_if_eq (tgt := 76) X h8 dX10_finds_66 (by decide) (fun c9 => ?_) (fun c9 => ?_)
          · replace hw := hw.1 c9
            refine z_aload_n X hl 0 rfl rfl dX10_finds_76 ?_
            refine gM_X10_frontMany (x := sI u0 2) X K h rfl q_1343 dX10_finds_77 ?_
            refine z_icmp_le (tgt := 90) X h5 h6 dX10_finds_80 (by decide) (fun c10 => absurd c10 (by omega)) (fun _ => ?_)
            refine z_aload_n X hl 0 rfl rfl dX10_finds_83 ?_
            refine z_bipush (v := (-2)) X dX10_finds_84 (by decide) ?_
            refine r_callVi (rest := []) X K g h (ct_X10_refuses u0 (-2) _ hw) lk_X10_103 0 rfl rfl ⟨rfl, rfl⟩ ⟨Nat.le_of_ble_eq_true rfl, Nat.le_of_ble_eq_true rfl⟩ rfl (lv_size hl) rfl (Nat.le_of_ble_eq_true rfl) dX10_finds_86 ⟨Nat.le_of_ble_eq_true rfl, Nat.le_of_ble_eq_true rfl⟩ (fun z11 w' H locs hp h => ?_)
            obtain ⟨u12, rfl, hw⟩ := hp
            exact r_iret X hr hlk K h (Nat.le_refl _) (Nat.le_refl _) dX10_finds_89 ⟨_, rfl, hw⟩
          · replace hw := hw.2 c9
            refine z_aload_n X hl 0 rfl rfl dX10_finds_69 ?_
            refine gM_X10_backMany (x := sI u0 1) X K h rfl q_1342 dX10_finds_70 ?_
            refine z_goto (tgt := 80) X dX10_finds_73 (by decide) ?_
            obtain ⟨h13, hw⟩ := hw
            refine z_icmp_le (tgt := 90) X h5 h13 dX10_finds_80 (by decide) (fun c14 => ?_) (fun c14 => ?_)
            · replace hw := hw.1 c14
              refine z_aload_n X hl 0 rfl rfl dX10_finds_90 ?_
              refine r_callVv (rest := []) X K g h (ct_X10_keeps u0 _ hw) lk_X10_106 0 rfl rfl ⟨rfl, rfl⟩ ⟨Nat.le_of_ble_eq_true rfl, Nat.le_of_ble_eq_true rfl⟩ rfl (lv_size hl) rfl (Nat.le_of_ble_eq_true rfl) dX10_finds_91 ⟨Nat.le_of_ble_eq_true rfl, Nat.le_of_ble_eq_true rfl⟩ (fun w' H locs hp h => ?_)
              obtain ⟨u15, rfl, hw⟩ := hp
              refine z_aload_n X hl 0 rfl rfl dX10_finds_94 ?_
              refine z_iload_n X hl 2 rfl rfl dX10_finds_95 ?_
              refine z_if_eq (tgt := 108) X h8 dX10_finds_96 (by decide) (fun c16 => absurd c16 (by omega)) (fun _ => ?_)
              refine z_aload_n X hl 0 rfl rfl dX10_finds_99 ?_
              refine gM_X10_backMany (x := sI u15 1) X K h rfl q_1342 dX10_finds_100 ?_
              refine z_iload_n X hl 3 rfl rfl dX10_finds_103 ?_
              refine z_isub X dX10_finds_104 ?_
              refine z_goto (tgt := 114) X dX10_finds_105 (by decide) ?_
              refine r_callVv (rest := []) X K g h (ct_X10_goesTo u15 ((sI u15 1) - x3_3) _ hw) lk_X10_115 0 rfl rfl ⟨rfl, rfl⟩ ⟨Nat.le_of_ble_eq_true rfl, Nat.le_of_ble_eq_true rfl⟩ rfl (lv_size hl) rfl (Nat.le_of_ble_eq_true rfl) dX10_finds_114 ⟨Nat.le_of_ble_eq_true rfl, Nat.le_of_ble_eq_true rfl⟩ (fun w' H locs hp h => ?_)
              obtain ⟨u17, rfl, hw⟩ := hp
              refine z_aload_n X hl 0 rfl rfl dX10_finds_117 ?_
              refine z_iload_n X hl 2 rfl rfl dX10_finds_118 ?_
              refine z_if_eq (tgt := 126) X h8 dX10_finds_119 (by decide) (fun c18 => absurd c18 (by omega)) (fun _ => ?_)
              refine z_iconst X dX10_finds_122 ?_
              refine z_goto (tgt := 127) X dX10_finds_123 (by decide) ?_
              refine pM_X10_givenBy X K h q_1344 dX10_finds_127 (fun H locs h => ?_)
              refine z_iload_n X hl 3 rfl rfl dX10_finds_130 ?_
              exact r_iret X hr hlk K h (Nat.le_refl _) (Nat.le_refl _) dX10_finds_131 ⟨_, rfl, hw⟩
            · replace hw := hw.2 c14
              refine z_aload_n X hl 0 rfl rfl dX10_finds_83 ?_
              refine z_bipush (v := (-2)) X dX10_finds_84 (by decide) ?_
              refine r_callVi (rest := []) X K g h (ct_X10_refuses u0 (-2) _ hw) lk_X10_103 0 rfl rfl ⟨rfl, rfl⟩ ⟨Nat.le_of_ble_eq_true rfl, Nat.le_of_ble_eq_true rfl⟩ rfl (lv_size hl) rfl (Nat.le_of_ble_eq_true rfl) dX10_finds_86 ⟨Nat.le_of_ble_eq_true rfl, Nat.le_of_ble_eq_true rfl⟩ (fun z19 w' H locs hp h => ?_)
              obtain ⟨u20, rfl, hw⟩ := hp
              exact r_iret X hr hlk K h (Nat.le_refl _) (Nat.le_refl _) dX10_finds_89 ⟨_, rfl, hw⟩
        · replace hw := hw.2 c7
          refine z_aload_n X hl 0 rfl rfl dX10_finds_43 ?_
          refine gM_X10_front X K h q_1341 dX10_finds_44 ?_
          refine z_aload_n X hl 0 rfl rfl dX10_finds_47 ?_
          refine gM_X10_frontMany (x := sI u0 2) X K h rfl q_1343 dX10_finds_48 ?_
          refine z_iload_n X hl 3 rfl rfl dX10_finds_51 ?_
          refine z_isub X dX10_finds_52 ?_
          obtain ⟨h21, h22, hw⟩ := hw
          refine lM_1 (x := sA u0 1 ((sI u0 2) - x3_3)) X K h h21 h22 rfl dX10_finds_53 ?_
          refine z_iload_n X hl 1 rfl rfl dX10_finds_54 ?_
          obtain ⟨h23, h24, hw⟩ := hw
          refine z_icmp_eq (tgt := 64) X h23 h24 dX10_finds_55 (by decide) (fun c25 => ?_) (fun c25 => ?_)
          · replace hw := hw.1 c25
            refine z_iload_n X hl 3 rfl rfl dX10_finds_64 ?_
            refine z_iload_n X hl 2 rfl rfl dX10_finds_65 ?_
            obtain ⟨h26, hw⟩ := hw
            refine z_if_eq (tgt := 76) X h26 dX10_finds_66 (by decide) (fun c27 => ?_) (fun c27 => ?_)
            · replace hw := hw.1 c27
              refine z_aload_n X hl 0 rfl rfl dX10_finds_76 ?_
              refine gM_X10_frontMany (x := sI u0 2) X K h rfl q_1343 dX10_finds_77 ?_
              refine z_icmp_le (tgt := 90) X h5 h6 dX10_finds_80 (by decide) (fun _ => ?_) (fun c28 => absurd c28 (by omega))
              refine z_aload_n X hl 0 rfl rfl dX10_finds_90 ?_
              refine r_callVv (rest := []) X K g h (ct_X10_keeps u0 _ hw) lk_X10_106 0 rfl rfl ⟨rfl, rfl⟩ ⟨Nat.le_of_ble_eq_true rfl, Nat.le_of_ble_eq_true rfl⟩ rfl (lv_size hl) rfl (Nat.le_of_ble_eq_true rfl) dX10_finds_91 ⟨Nat.le_of_ble_eq_true rfl, Nat.le_of_ble_eq_true rfl⟩ (fun w' H locs hp h => ?_)
              obtain ⟨u29, rfl, hw⟩ := hp
              refine z_aload_n X hl 0 rfl rfl dX10_finds_94 ?_
              refine z_iload_n X hl 2 rfl rfl dX10_finds_95 ?_
              refine z_if_eq (tgt := 108) X h26 dX10_finds_96 (by decide) (fun _ => ?_) (fun c30 => absurd c30 (by omega))
              refine z_aload_n X hl 0 rfl rfl dX10_finds_108 ?_
              refine gM_X10_backMany (x := sI u29 1) X K h rfl q_1342 dX10_finds_109 ?_
              refine z_iload_n X hl 3 rfl rfl dX10_finds_112 ?_
              refine z_iadd X dX10_finds_113 ?_
              refine r_callVv (rest := []) X K g h (ct_X10_goesTo u29 ((sI u29 1) + x3_3) _ hw) lk_X10_115 0 rfl rfl ⟨rfl, rfl⟩ ⟨Nat.le_of_ble_eq_true rfl, Nat.le_of_ble_eq_true rfl⟩ rfl (lv_size hl) rfl (Nat.le_of_ble_eq_true rfl) dX10_finds_114 ⟨Nat.le_of_ble_eq_true rfl, Nat.le_of_ble_eq_true rfl⟩ (fun w' H locs hp h => ?_)
              obtain ⟨u31, rfl, hw⟩ := hp
              refine z_aload_n X hl 0 rfl rfl dX10_finds_117 ?_
              refine z_iload_n X hl 2 rfl rfl dX10_finds_118 ?_
              refine z_if_eq (tgt := 126) X h26 dX10_finds_119 (by decide) (fun _ => ?_) (fun c32 => absurd c32 (by omega))
              refine z_iconst X dX10_finds_126 ?_
              refine pM_X10_givenBy X K h q_1344 dX10_finds_127 (fun H locs h => ?_)
              refine z_iload_n X hl 3 rfl rfl dX10_finds_130 ?_
              exact r_iret X hr hlk K h (Nat.le_refl _) (Nat.le_refl _) dX10_finds_131 ⟨_, rfl, hw⟩
            · replace hw := hw.2 c27
              refine z_aload_n X hl 0 rfl rfl dX10_finds_69 ?_
              refine gM_X10_backMany (x := sI u0 1) X K h rfl q_1342 dX10_finds_70 ?_
              refine z_goto (tgt := 80) X dX10_finds_73 (by decide) ?_
              obtain ⟨h33, hw⟩ := hw
              refine z_icmp_le (tgt := 90) X h5 h33 dX10_finds_80 (by decide) (fun c34 => ?_) (fun c34 => ?_)
              · replace hw := hw.1 c34
                refine z_aload_n X hl 0 rfl rfl dX10_finds_90 ?_
                refine r_callVv (rest := []) X K g h (ct_X10_keeps u0 _ hw) lk_X10_106 0 rfl rfl ⟨rfl, rfl⟩ ⟨Nat.le_of_ble_eq_true rfl, Nat.le_of_ble_eq_true rfl⟩ rfl (lv_size hl) rfl (Nat.le_of_ble_eq_true rfl) dX10_finds_91 ⟨Nat.le_of_ble_eq_true rfl, Nat.le_of_ble_eq_true rfl⟩ (fun w' H locs hp h => ?_)
                obtain ⟨u35, rfl, hw⟩ := hp
                refine z_aload_n X hl 0 rfl rfl dX10_finds_94 ?_
                refine z_iload_n X hl 2 rfl rfl dX10_finds_95 ?_
                refine z_if_eq (tgt := 108) X h26 dX10_finds_96 (by decide) (fun c36 => absurd c36 (by omega)) (fun _ => ?_)
                refine z_aload_n X hl 0 rfl rfl dX10_finds_99 ?_
                refine gM_X10_backMany (x := sI u35 1) X K h rfl q_1342 dX10_finds_100 ?_
                refine z_iload_n X hl 3 rfl rfl dX10_finds_103 ?_
                refine z_isub X dX10_finds_104 ?_
                refine z_goto (tgt := 114) X dX10_finds_105 (by decide) ?_
                refine r_callVv (rest := []) X K g h (ct_X10_goesTo u35 ((sI u35 1) - x3_3) _ hw) lk_X10_115 0 rfl rfl ⟨rfl, rfl⟩ ⟨Nat.le_of_ble_eq_true rfl, Nat.le_of_ble_eq_true rfl⟩ rfl (lv_size hl) rfl (Nat.le_of_ble_eq_true rfl) dX10_finds_114 ⟨Nat.le_of_ble_eq_true rfl, Nat.le_of_ble_eq_true rfl⟩ (fun w' H locs hp h => ?_)
                obtain ⟨u37, rfl, hw⟩ := hp
                refine z_aload_n X hl 0 rfl rfl dX10_finds_117 ?_
                refine z_iload_n X hl 2 rfl rfl dX10_finds_118 ?_
                refine z_if_eq (tgt := 126) X h26 dX10_finds_119 (by decide) (fun c38 => absurd c38 (by omega)) (fun _ => ?_)
                refine z_iconst X dX10_finds_122 ?_
                refine z_goto (tgt := 127) X dX10_finds_123 (by decide) ?_
                refine pM_X10_givenBy X K h q_1344 dX10_finds_127 (fun H locs h => ?_)
                refine z_iload_n X hl 3 rfl rfl dX10_finds_130 ?_
                exact r_iret X hr hlk K h (Nat.le_refl _) (Nat.le_refl _) dX10_finds_131 ⟨_, rfl, hw⟩
              · replace hw := hw.2 c34
                refine z_aload_n X hl 0 rfl rfl dX10_finds_83 ?_
                refine z_bipush (v := (-2)) X dX10_finds_84 (by decide) ?_
                refine r_callVi (rest := []) X K g h (ct_X10_refuses u0 (-2) _ hw) lk_X10_103 0 rfl rfl ⟨rfl, rfl⟩ ⟨Nat.le_of_ble_eq_true rfl, Nat.le_of_ble_eq_true rfl⟩ rfl (lv_size hl) rfl (Nat.le_of_ble_eq_true rfl) dX10_finds_86 ⟨Nat.le_of_ble_eq_true rfl, Nat.le_of_ble_eq_true rfl⟩ (fun z39 w' H locs hp h => ?_)
                obtain ⟨u40, rfl, hw⟩ := hp
                exact r_iret X hr hlk K h (Nat.le_refl _) (Nat.le_refl _) dX10_finds_89 ⟨_, rfl, hw⟩
          · replace hw := hw.2 c25
            refine z_iinc (lv' := [(3, zI (x3_3 + 1)), (0, .ref (a 0)), (1, zI p1), (2, zI p2)]) X hl 3 rfl (by decide) dX10_finds_58 rfl (fun ls hl => ?_)
            refine z_goto (tgt := 35) X dX10_finds_61 (by decide) ?_
            exact ih35 (x3_3 + 1) H locs ls hw h (lv_sub hl [1, 2, 3, 0] rfl)
    exact key35 n35 1 H locs ls hw h (lv_sub hl [1, 2, 3, 0] rfl)
  · replace hw := hw.2 c2
    obtain ⟨n6, hw⟩ := hw
    have key6 : ∀ (n : Nat) (t : Int) (H : Heap) (locs : List Loc) (ls : Array Slot), Lp (B_X10_finds_6 post u0 p1 p2) n t → HW G (va_A (WM G a u0) s.heap.size) s.heap (WM G a u0) H locs → lv_has ls 4 [(0, .ref (a 0)), (1, zI p1), (2, zI p2), (3, zI t)] → W p l e rm_X10_finds s m args below meth c H locs 0 0 (EndI G (WM G a u0) (Po (WM G a) post) args s 0 0 below) (F0 m 6 ls []) := by
      intro n
      induction n with
      | zero =>
        intro t H locs ls hw
        exact hw.elim
      | succ n6 ih6 =>
        intro x3_41 H locs ls hw h hl
        replace hw : b_X10_finds_6 post u0 p1 p2 (Lp (B_X10_finds_6 post u0 p1 p2) n6) x3_41 := hw
        refine z_iload_n X hl 3 rfl rfl dX10_finds_6 ?_
        refine z_aload_n X hl 0 rfl rfl dX10_finds_7 ?_
        refine gM_X10_backMany (x := sI u0 1) X K h rfl q_1342 dX10_finds_8 ?_
        obtain ⟨h43, h44, hw⟩ := hw
        refine z_icmp_gt (tgt := 64) X h43 h44 dX10_finds_11 (by decide) (fun c45 => ?_) (fun c45 => ?_)
        · replace hw := hw.1 c45
          refine z_iload_n X hl 3 rfl rfl dX10_finds_64 ?_
          refine z_iload_n X hl 2 rfl rfl dX10_finds_65 ?_
          obtain ⟨h46, hw⟩ := hw
          refine z_if_eq (tgt := 76) X h46 dX10_finds_66 (by decide) (fun c47 => ?_) (fun c47 => ?_)
          · replace hw := hw.1 c47
            refine z_aload_n X hl 0 rfl rfl dX10_finds_76 ?_
            refine gM_X10_frontMany (x := sI u0 2) X K h rfl q_1343 dX10_finds_77 ?_
            obtain ⟨h48, hw⟩ := hw
            refine z_icmp_le (tgt := 90) X h43 h48 dX10_finds_80 (by decide) (fun c49 => ?_) (fun c49 => ?_)
            · replace hw := hw.1 c49
              refine z_aload_n X hl 0 rfl rfl dX10_finds_90 ?_
              refine r_callVv (rest := []) X K g h (ct_X10_keeps u0 _ hw) lk_X10_106 0 rfl rfl ⟨rfl, rfl⟩ ⟨Nat.le_of_ble_eq_true rfl, Nat.le_of_ble_eq_true rfl⟩ rfl (lv_size hl) rfl (Nat.le_of_ble_eq_true rfl) dX10_finds_91 ⟨Nat.le_of_ble_eq_true rfl, Nat.le_of_ble_eq_true rfl⟩ (fun w' H locs hp h => ?_)
              obtain ⟨u50, rfl, hw⟩ := hp
              refine z_aload_n X hl 0 rfl rfl dX10_finds_94 ?_
              refine z_iload_n X hl 2 rfl rfl dX10_finds_95 ?_
              refine z_if_eq (tgt := 108) X h46 dX10_finds_96 (by decide) (fun _ => ?_) (fun c51 => absurd c51 (by omega))
              refine z_aload_n X hl 0 rfl rfl dX10_finds_108 ?_
              refine gM_X10_backMany (x := sI u50 1) X K h rfl q_1342 dX10_finds_109 ?_
              refine z_iload_n X hl 3 rfl rfl dX10_finds_112 ?_
              refine z_iadd X dX10_finds_113 ?_
              refine r_callVv (rest := []) X K g h (ct_X10_goesTo u50 ((sI u50 1) + x3_41) _ hw) lk_X10_115 0 rfl rfl ⟨rfl, rfl⟩ ⟨Nat.le_of_ble_eq_true rfl, Nat.le_of_ble_eq_true rfl⟩ rfl (lv_size hl) rfl (Nat.le_of_ble_eq_true rfl) dX10_finds_114 ⟨Nat.le_of_ble_eq_true rfl, Nat.le_of_ble_eq_true rfl⟩ (fun w' H locs hp h => ?_)
              obtain ⟨u52, rfl, hw⟩ := hp
              refine z_aload_n X hl 0 rfl rfl dX10_finds_117 ?_
              refine z_iload_n X hl 2 rfl rfl dX10_finds_118 ?_
              refine z_if_eq (tgt := 126) X h46 dX10_finds_119 (by decide) (fun _ => ?_) (fun c53 => absurd c53 (by omega))
              refine z_iconst X dX10_finds_126 ?_
              refine pM_X10_givenBy X K h q_1344 dX10_finds_127 (fun H locs h => ?_)
              refine z_iload_n X hl 3 rfl rfl dX10_finds_130 ?_
              exact r_iret X hr hlk K h (Nat.le_refl _) (Nat.le_refl _) dX10_finds_131 ⟨_, rfl, hw⟩
            · replace hw := hw.2 c49
              refine z_aload_n X hl 0 rfl rfl dX10_finds_83 ?_
              refine z_bipush (v := (-2)) X dX10_finds_84 (by decide) ?_
              refine r_callVi (rest := []) X K g h (ct_X10_refuses u0 (-2) _ hw) lk_X10_103 0 rfl rfl ⟨rfl, rfl⟩ ⟨Nat.le_of_ble_eq_true rfl, Nat.le_of_ble_eq_true rfl⟩ rfl (lv_size hl) rfl (Nat.le_of_ble_eq_true rfl) dX10_finds_86 ⟨Nat.le_of_ble_eq_true rfl, Nat.le_of_ble_eq_true rfl⟩ (fun z54 w' H locs hp h => ?_)
              obtain ⟨u55, rfl, hw⟩ := hp
              exact r_iret X hr hlk K h (Nat.le_refl _) (Nat.le_refl _) dX10_finds_89 ⟨_, rfl, hw⟩
          · replace hw := hw.2 c47
            refine z_aload_n X hl 0 rfl rfl dX10_finds_69 ?_
            refine gM_X10_backMany (x := sI u0 1) X K h rfl q_1342 dX10_finds_70 ?_
            refine z_goto (tgt := 80) X dX10_finds_73 (by decide) ?_
            refine z_icmp_le (tgt := 90) X h43 h44 dX10_finds_80 (by decide) (fun c56 => absurd c56 (by omega)) (fun _ => ?_)
            refine z_aload_n X hl 0 rfl rfl dX10_finds_83 ?_
            refine z_bipush (v := (-2)) X dX10_finds_84 (by decide) ?_
            refine r_callVi (rest := []) X K g h (ct_X10_refuses u0 (-2) _ hw) lk_X10_103 0 rfl rfl ⟨rfl, rfl⟩ ⟨Nat.le_of_ble_eq_true rfl, Nat.le_of_ble_eq_true rfl⟩ rfl (lv_size hl) rfl (Nat.le_of_ble_eq_true rfl) dX10_finds_86 ⟨Nat.le_of_ble_eq_true rfl, Nat.le_of_ble_eq_true rfl⟩ (fun z57 w' H locs hp h => ?_)
            obtain ⟨u58, rfl, hw⟩ := hp
            exact r_iret X hr hlk K h (Nat.le_refl _) (Nat.le_refl _) dX10_finds_89 ⟨_, rfl, hw⟩
        · replace hw := hw.2 c45
          refine z_aload_n X hl 0 rfl rfl dX10_finds_14 ?_
          refine gM_X10_back X K h q_1340 dX10_finds_15 ?_
          refine z_aload_n X hl 0 rfl rfl dX10_finds_18 ?_
          refine gM_X10_backMany (x := sI u0 1) X K h rfl q_1342 dX10_finds_19 ?_
          refine z_iload_n X hl 3 rfl rfl dX10_finds_22 ?_
          refine z_isub X dX10_finds_23 ?_
          obtain ⟨h59, h60, hw⟩ := hw
          refine lM_0 (x := sA u0 0 ((sI u0 1) - x3_41)) X K h h59 h60 rfl dX10_finds_24 ?_
          refine z_iload_n X hl 1 rfl rfl dX10_finds_25 ?_
          obtain ⟨h61, h62, hw⟩ := hw
          refine z_icmp_eq (tgt := 64) X h61 h62 dX10_finds_26 (by decide) (fun c63 => ?_) (fun c63 => ?_)
          · replace hw := hw.1 c63
            refine z_iload_n X hl 3 rfl rfl dX10_finds_64 ?_
            refine z_iload_n X hl 2 rfl rfl dX10_finds_65 ?_
            obtain ⟨h64, hw⟩ := hw
            refine z_if_eq (tgt := 76) X h64 dX10_finds_66 (by decide) (fun c65 => ?_) (fun c65 => ?_)
            · replace hw := hw.1 c65
              refine z_aload_n X hl 0 rfl rfl dX10_finds_76 ?_
              refine gM_X10_frontMany (x := sI u0 2) X K h rfl q_1343 dX10_finds_77 ?_
              obtain ⟨h66, hw⟩ := hw
              refine z_icmp_le (tgt := 90) X h43 h66 dX10_finds_80 (by decide) (fun c67 => ?_) (fun c67 => ?_)
              · replace hw := hw.1 c67
                refine z_aload_n X hl 0 rfl rfl dX10_finds_90 ?_
                refine r_callVv (rest := []) X K g h (ct_X10_keeps u0 _ hw) lk_X10_106 0 rfl rfl ⟨rfl, rfl⟩ ⟨Nat.le_of_ble_eq_true rfl, Nat.le_of_ble_eq_true rfl⟩ rfl (lv_size hl) rfl (Nat.le_of_ble_eq_true rfl) dX10_finds_91 ⟨Nat.le_of_ble_eq_true rfl, Nat.le_of_ble_eq_true rfl⟩ (fun w' H locs hp h => ?_)
                obtain ⟨u68, rfl, hw⟩ := hp
                refine z_aload_n X hl 0 rfl rfl dX10_finds_94 ?_
                refine z_iload_n X hl 2 rfl rfl dX10_finds_95 ?_
                refine z_if_eq (tgt := 108) X h64 dX10_finds_96 (by decide) (fun _ => ?_) (fun c69 => absurd c69 (by omega))
                refine z_aload_n X hl 0 rfl rfl dX10_finds_108 ?_
                refine gM_X10_backMany (x := sI u68 1) X K h rfl q_1342 dX10_finds_109 ?_
                refine z_iload_n X hl 3 rfl rfl dX10_finds_112 ?_
                refine z_iadd X dX10_finds_113 ?_
                refine r_callVv (rest := []) X K g h (ct_X10_goesTo u68 ((sI u68 1) + x3_41) _ hw) lk_X10_115 0 rfl rfl ⟨rfl, rfl⟩ ⟨Nat.le_of_ble_eq_true rfl, Nat.le_of_ble_eq_true rfl⟩ rfl (lv_size hl) rfl (Nat.le_of_ble_eq_true rfl) dX10_finds_114 ⟨Nat.le_of_ble_eq_true rfl, Nat.le_of_ble_eq_true rfl⟩ (fun w' H locs hp h => ?_)
                obtain ⟨u70, rfl, hw⟩ := hp
                refine z_aload_n X hl 0 rfl rfl dX10_finds_117 ?_
                refine z_iload_n X hl 2 rfl rfl dX10_finds_118 ?_
                refine z_if_eq (tgt := 126) X h64 dX10_finds_119 (by decide) (fun _ => ?_) (fun c71 => absurd c71 (by omega))
                refine z_iconst X dX10_finds_126 ?_
                refine pM_X10_givenBy X K h q_1344 dX10_finds_127 (fun H locs h => ?_)
                refine z_iload_n X hl 3 rfl rfl dX10_finds_130 ?_
                exact r_iret X hr hlk K h (Nat.le_refl _) (Nat.le_refl _) dX10_finds_131 ⟨_, rfl, hw⟩
              · replace hw := hw.2 c67
                refine z_aload_n X hl 0 rfl rfl dX10_finds_83 ?_
                refine z_bipush (v := (-2)) X dX10_finds_84 (by decide) ?_
                refine r_callVi (rest := []) X K g h (ct_X10_refuses u0 (-2) _ hw) lk_X10_103 0 rfl rfl ⟨rfl, rfl⟩ ⟨Nat.le_of_ble_eq_true rfl, Nat.le_of_ble_eq_true rfl⟩ rfl (lv_size hl) rfl (Nat.le_of_ble_eq_true rfl) dX10_finds_86 ⟨Nat.le_of_ble_eq_true rfl, Nat.le_of_ble_eq_true rfl⟩ (fun z72 w' H locs hp h => ?_)
                obtain ⟨u73, rfl, hw⟩ := hp
                exact r_iret X hr hlk K h (Nat.le_refl _) (Nat.le_refl _) dX10_finds_89 ⟨_, rfl, hw⟩
            · replace hw := hw.2 c65
              refine z_aload_n X hl 0 rfl rfl dX10_finds_69 ?_
              refine gM_X10_backMany (x := sI u0 1) X K h rfl q_1342 dX10_finds_70 ?_
              refine z_goto (tgt := 80) X dX10_finds_73 (by decide) ?_
              refine z_icmp_le (tgt := 90) X h43 h44 dX10_finds_80 (by decide) (fun _ => ?_) (fun c74 => absurd c74 (by omega))
              refine z_aload_n X hl 0 rfl rfl dX10_finds_90 ?_
              refine r_callVv (rest := []) X K g h (ct_X10_keeps u0 _ hw) lk_X10_106 0 rfl rfl ⟨rfl, rfl⟩ ⟨Nat.le_of_ble_eq_true rfl, Nat.le_of_ble_eq_true rfl⟩ rfl (lv_size hl) rfl (Nat.le_of_ble_eq_true rfl) dX10_finds_91 ⟨Nat.le_of_ble_eq_true rfl, Nat.le_of_ble_eq_true rfl⟩ (fun w' H locs hp h => ?_)
              obtain ⟨u75, rfl, hw⟩ := hp
              refine z_aload_n X hl 0 rfl rfl dX10_finds_94 ?_
              refine z_iload_n X hl 2 rfl rfl dX10_finds_95 ?_
              refine z_if_eq (tgt := 108) X h64 dX10_finds_96 (by decide) (fun c76 => absurd c76 (by omega)) (fun _ => ?_)
              refine z_aload_n X hl 0 rfl rfl dX10_finds_99 ?_
              refine gM_X10_backMany (x := sI u75 1) X K h rfl q_1342 dX10_finds_100 ?_
              refine z_iload_n X hl 3 rfl rfl dX10_finds_103 ?_
              refine z_isub X dX10_finds_104 ?_
              refine z_goto (tgt := 114) X dX10_finds_105 (by decide) ?_
              refine r_callVv (rest := []) X K g h (ct_X10_goesTo u75 ((sI u75 1) - x3_41) _ hw) lk_X10_115 0 rfl rfl ⟨rfl, rfl⟩ ⟨Nat.le_of_ble_eq_true rfl, Nat.le_of_ble_eq_true rfl⟩ rfl (lv_size hl) rfl (Nat.le_of_ble_eq_true rfl) dX10_finds_114 ⟨Nat.le_of_ble_eq_true rfl, Nat.le_of_ble_eq_true rfl⟩ (fun w' H locs hp h => ?_)
              obtain ⟨u77, rfl, hw⟩ := hp
              refine z_aload_n X hl 0 rfl rfl dX10_finds_117 ?_
              refine z_iload_n X hl 2 rfl rfl dX10_finds_118 ?_
              refine z_if_eq (tgt := 126) X h64 dX10_finds_119 (by decide) (fun c78 => absurd c78 (by omega)) (fun _ => ?_)
              refine z_iconst X dX10_finds_122 ?_
              refine z_goto (tgt := 127) X dX10_finds_123 (by decide) ?_
              refine pM_X10_givenBy X K h q_1344 dX10_finds_127 (fun H locs h => ?_)
              refine z_iload_n X hl 3 rfl rfl dX10_finds_130 ?_
              exact r_iret X hr hlk K h (Nat.le_refl _) (Nat.le_refl _) dX10_finds_131 ⟨_, rfl, hw⟩
          · replace hw := hw.2 c63
            refine z_iinc (lv' := [(3, zI (x3_41 + 1)), (0, .ref (a 0)), (1, zI p1), (2, zI p2)]) X hl 3 rfl (by decide) dX10_finds_29 rfl (fun ls hl => ?_)
            refine z_goto (tgt := 6) X dX10_finds_32 (by decide) ?_
            exact ih6 (x3_41 + 1) H locs ls hw h (lv_sub hl [1, 2, 3, 0] rfl)
    exact key6 n6 1 H locs ls hw h (lv_sub hl [1, 2, 3, 0] rfl)
def w_X10_swaps (post : Int → St → Prop) (u0 : St) : Prop :=
(InR (sI u0 1)) ∧ ((sI u0 1 = 0 → (w_X10_refuses (fun (z3 : Int) (u4 : St) => post z3 u4) u0 (-2))) ∧
 (¬ sI u0 1 = 0 → (InR (sI u0 2)) ∧ ((¬ sI u0 2 = 0 → (w_X10_keeps (fun  (u7 : St) => (0 ≤ (sI u7 1) - 1) ∧ ((sI u7 1) - 1 < 101) ∧ (0 ≤ (sI u7 2) - 1) ∧ ((sI u7 2) - 1 < 101) ∧ post (zset (sA u7 0) ((sI u7 1) - 1) (sA u7 1 ((sI u7 2) - 1)) ((sI u7 1) - 1)) (pI (pA (pA u7 0 ((sI u7 1) - 1) (sA u7 1 ((sI u7 2) - 1))) 1 ((sI u7 2) - 1) (sA u7 0 ((sI u7 1) - 1))) 3 1)) u0)) ∧
 (sI u0 2 = 0 → (w_X10_refuses (fun (z12 : Int) (u13 : St) => post z12 u13) u0 (-2))))))
abbrev rm_X10_swaps : Room := { frames := 2, cells := 0, slots := 0, locals := 43 }
set_option maxRecDepth 100000 in
set_option maxHeartbeats 4000000 in
theorem ct_X10_swaps {l : Launch} {G : Gr} {a : Nat → Nat} (u0 : St) (post : Int → St → Prop) (hw : w_X10_swaps post u0) : Ct l G yX10_swaps (ws_ yX10_swaps cX10_swaps 2 (some .int)) rm_X10_swaps [.ref (a 0)] (WM G a u0) 0 0 (Po (WM G a) post) := by
  refine Ct.of (by decide) (Nat.le_of_ble_eq_true rfl) ?_
  intro p e s m args below meth c ls X hr hlk K g h hl
  have hl : lv_has ls 2 [(0, .ref (a 0))] := hl
  obtain ⟨H, hH⟩ : ∃ H, H = s.heap := ⟨_, rfl⟩
  obtain ⟨locs, hL⟩ : ∃ L : List Loc, L = [] := ⟨_, rfl⟩
  replace h : HW G (va_A (WM G a u0) s.heap.size) s.heap (WM G a u0) H locs := by rw [hH, hL]; exact h
  suffices hg : W p l e rm_X10_swaps s m args below meth c H locs 0 0 (EndI G (WM G a u0) (Po (WM G a) post) args s 0 0 below) (F0 m 0 ls []) by rw [hH, hL] at hg; exact hg
  clear hH hL
  refine z_aload_n X hl 0 rfl rfl dX10_swaps_0 ?_
  refine gM_X10_backMany (x := sI u0 1) X K h rfl q_1342 dX10_swaps_1 ?_
  obtain ⟨h1, hw⟩ := hw
  refine z_if_eq (tgt := 14) X h1 dX10_swaps_4 (by decide) (fun c2 => ?_) (fun c2 => ?_)
  · replace hw := hw.1 c2
    refine z_aload_n X hl 0 rfl rfl dX10_swaps_14 ?_
    refine z_bipush (v := (-2)) X dX10_swaps_15 (by decide) ?_
    refine r_callVi (rest := []) X K g h (ct_X10_refuses u0 (-2) _ hw) lk_X10_103 0 rfl rfl ⟨rfl, rfl⟩ ⟨Nat.le_of_ble_eq_true rfl, Nat.le_of_ble_eq_true rfl⟩ rfl (lv_size hl) rfl (Nat.le_of_ble_eq_true rfl) dX10_swaps_17 ⟨Nat.le_of_ble_eq_true rfl, Nat.le_of_ble_eq_true rfl⟩ (fun z3 w' H locs hp h => ?_)
    obtain ⟨u4, rfl, hw⟩ := hp
    exact r_iret X hr hlk K h (Nat.le_refl _) (Nat.le_refl _) dX10_swaps_20 ⟨_, rfl, hw⟩
  · replace hw := hw.2 c2
    refine z_aload_n X hl 0 rfl rfl dX10_swaps_7 ?_
    refine gM_X10_frontMany (x := sI u0 2) X K h rfl q_1343 dX10_swaps_8 ?_
    obtain ⟨h5, hw⟩ := hw
    refine z_if_ne (tgt := 21) X h5 dX10_swaps_11 (by decide) (fun c6 => ?_) (fun c6 => ?_)
    · replace hw := hw.1 c6
      refine z_aload_n X hl 0 rfl rfl dX10_swaps_21 ?_
      refine r_callVv (rest := []) X K g h (ct_X10_keeps u0 _ hw) lk_X10_106 0 rfl rfl ⟨rfl, rfl⟩ ⟨Nat.le_of_ble_eq_true rfl, Nat.le_of_ble_eq_true rfl⟩ rfl (lv_size hl) rfl (Nat.le_of_ble_eq_true rfl) dX10_swaps_22 ⟨Nat.le_of_ble_eq_true rfl, Nat.le_of_ble_eq_true rfl⟩ (fun w' H locs hp h => ?_)
      obtain ⟨u7, rfl, hw⟩ := hp
      refine z_aload_n X hl 0 rfl rfl dX10_swaps_25 ?_
      refine gM_X10_back X K h q_1340 dX10_swaps_26 ?_
      refine z_aload_n X hl 0 rfl rfl dX10_swaps_29 ?_
      refine gM_X10_backMany (x := sI u7 1) X K h rfl q_1342 dX10_swaps_30 ?_
      refine z_iconst X dX10_swaps_33 ?_
      refine z_isub X dX10_swaps_34 ?_
      obtain ⟨h8, h9, hw⟩ := hw
      refine lM_0 (x := sA u7 0 ((sI u7 1) - 1)) X K h h8 h9 rfl dX10_swaps_35 ?_
      refine z_istore_n (i := 1) (lv' := [(1, zI (sA u7 0 ((sI u7 1) - 1))), (0, .ref (a 0))]) X hl rfl (by decide) dX10_swaps_36 rfl (fun ls hl => ?_)
      refine z_aload_n X hl 1 rfl rfl dX10_swaps_37 ?_
      refine gM_X10_back X K h q_1340 dX10_swaps_38 ?_
      refine z_aload_n X hl 1 rfl rfl dX10_swaps_41 ?_
      refine gM_X10_backMany (x := sI u7 1) X K h rfl q_1342 dX10_swaps_42 ?_
      refine z_iconst X dX10_swaps_45 ?_
      refine z_isub X dX10_swaps_46 ?_
      refine z_aload_n X hl 1 rfl rfl dX10_swaps_47 ?_
      refine gM_X10_front X K h q_1341 dX10_swaps_48 ?_
      refine z_aload_n X hl 1 rfl rfl dX10_swaps_51 ?_
      refine gM_X10_frontMany (x := sI u7 2) X K h rfl q_1343 dX10_swaps_52 ?_
      refine z_iconst X dX10_swaps_55 ?_
      refine z_isub X dX10_swaps_56 ?_
      obtain ⟨h10, h11, hw⟩ := hw
      refine lM_1 (x := sA u7 1 ((sI u7 2) - 1)) X K h h10 h11 rfl dX10_swaps_57 ?_
      refine sM_0 X K h h8 h9 dX10_swaps_58 (fun H locs h => ?_)
      refine z_aload_n X hl 1 rfl rfl dX10_swaps_59 ?_
      refine gM_X10_front X K h q_1341 dX10_swaps_60 ?_
      refine z_aload_n X hl 1 rfl rfl dX10_swaps_63 ?_
      refine gM_X10_frontMany (x := sI u7 2) X K h rfl q_1343 dX10_swaps_64 ?_
      refine z_iconst X dX10_swaps_67 ?_
      refine z_isub X dX10_swaps_68 ?_
      refine z_iload_n X hl 0 rfl rfl dX10_swaps_69 ?_
      refine sM_1 X K h h10 h11 dX10_swaps_70 (fun H locs h => ?_)
      refine z_aload_n X hl 1 rfl rfl dX10_swaps_71 ?_
      refine z_iconst X dX10_swaps_72 ?_
      refine pM_X10_givenBy X K h q_1344 dX10_swaps_73 (fun H locs h => ?_)
      refine z_aload_n X hl 1 rfl rfl dX10_swaps_76 ?_
      refine gM_X10_back X K h q_1340 dX10_swaps_77 ?_
      refine z_aload_n X hl 1 rfl rfl dX10_swaps_80 ?_
      refine gM_X10_backMany (x := sI u7 1) X K h rfl q_1342 dX10_swaps_81 ?_
      refine z_iconst X dX10_swaps_84 ?_
      refine z_isub X dX10_swaps_85 ?_
      refine lM_0 (x := zset (sA u7 0) ((sI u7 1) - 1) (sA u7 1 ((sI u7 2) - 1)) ((sI u7 1) - 1)) X K h h8 h9 rfl dX10_swaps_86 ?_
      exact r_iret X hr hlk K h (Nat.le_refl _) (Nat.le_refl _) dX10_swaps_87 ⟨_, rfl, hw⟩
    · replace hw := hw.2 c6
      refine z_aload_n X hl 0 rfl rfl dX10_swaps_14 ?_
      refine z_bipush (v := (-2)) X dX10_swaps_15 (by decide) ?_
      refine r_callVi (rest := []) X K g h (ct_X10_refuses u0 (-2) _ hw) lk_X10_103 0 rfl rfl ⟨rfl, rfl⟩ ⟨Nat.le_of_ble_eq_true rfl, Nat.le_of_ble_eq_true rfl⟩ rfl (lv_size hl) rfl (Nat.le_of_ble_eq_true rfl) dX10_swaps_17 ⟨Nat.le_of_ble_eq_true rfl, Nat.le_of_ble_eq_true rfl⟩ (fun z12 w' H locs hp h => ?_)
      obtain ⟨u13, rfl, hw⟩ := hp
      exact r_iret X hr hlk K h (Nat.le_refl _) (Nat.le_refl _) dX10_swaps_20 ⟨_, rfl, hw⟩
def w_X10_next (post : Int → St → Prop) (u0 : St) : Prop :=
(w_X10_passes (fun (z1 : Int) (u2 : St) => post z1 u2) (pI u0 0 0))
abbrev rm_X10_next : Room := { frames := 3, cells := 0, slots := 0, locals := 63 }
set_option maxRecDepth 100000 in
set_option maxHeartbeats 4000000 in
theorem ct_X10_next {l : Launch} {G : Gr} {a : Nat → Nat} (u0 : St) (post : Int → St → Prop) (hw : w_X10_next post u0) : Ct l G yX10_next (ws_ yX10_next cX10_next 1 (some .int)) rm_X10_next [.ref (a 0)] (WM G a u0) 0 0 (Po (WM G a) post) := by
  refine Ct.of (by decide) (Nat.le_of_ble_eq_true rfl) ?_
  intro p e s m args below meth c ls X hr hlk K g h hl
  have hl : lv_has ls 1 [(0, .ref (a 0))] := hl
  obtain ⟨H, hH⟩ : ∃ H, H = s.heap := ⟨_, rfl⟩
  obtain ⟨locs, hL⟩ : ∃ L : List Loc, L = [] := ⟨_, rfl⟩
  replace h : HW G (va_A (WM G a u0) s.heap.size) s.heap (WM G a u0) H locs := by rw [hH, hL]; exact h
  suffices hg : W p l e rm_X10_next s m args below meth c H locs 0 0 (EndI G (WM G a u0) (Po (WM G a) post) args s 0 0 below) (F0 m 0 ls []) by rw [hH, hL] at hg; exact hg
  clear hH hL
  refine z_aload_n X hl 0 rfl rfl dX10_next_0 ?_
  refine z_iconst X dX10_next_1 ?_
  refine pM_X10_thrown X K h q_1339 dX10_next_2 (fun H locs h => ?_)
  refine z_aload_n X hl 0 rfl rfl dX10_next_5 ?_
  refine r_callVi (rest := []) X K g h (ct_X10_passes (pI u0 0 0) _ hw) lk_X10_119 0 rfl rfl ⟨rfl, rfl⟩ ⟨Nat.le_of_ble_eq_true rfl, Nat.le_of_ble_eq_true rfl⟩ rfl (lv_size hl) rfl (Nat.le_of_ble_eq_true rfl) dX10_next_6 ⟨Nat.le_of_ble_eq_true rfl, Nat.le_of_ble_eq_true rfl⟩ (fun z1 w' H locs hp h => ?_)
  obtain ⟨u2, rfl, hw⟩ := hp
  exact r_iret X hr hlk K h (Nat.le_refl _) (Nat.le_refl _) dX10_next_9 ⟨_, rfl, hw⟩
def w_X10_previous (post : Int → St → Prop) (u0 : St) : Prop :=
(w_X10_passesBack (fun (z1 : Int) (u2 : St) => post z1 u2) (pI u0 0 0))
abbrev rm_X10_previous : Room := { frames := 3, cells := 0, slots := 0, locals := 63 }
set_option maxRecDepth 100000 in
set_option maxHeartbeats 4000000 in
theorem ct_X10_previous {l : Launch} {G : Gr} {a : Nat → Nat} (u0 : St) (post : Int → St → Prop) (hw : w_X10_previous post u0) : Ct l G yX10_previous (ws_ yX10_previous cX10_previous 1 (some .int)) rm_X10_previous [.ref (a 0)] (WM G a u0) 0 0 (Po (WM G a) post) := by
  refine Ct.of (by decide) (Nat.le_of_ble_eq_true rfl) ?_
  intro p e s m args below meth c ls X hr hlk K g h hl
  have hl : lv_has ls 1 [(0, .ref (a 0))] := hl
  obtain ⟨H, hH⟩ : ∃ H, H = s.heap := ⟨_, rfl⟩
  obtain ⟨locs, hL⟩ : ∃ L : List Loc, L = [] := ⟨_, rfl⟩
  replace h : HW G (va_A (WM G a u0) s.heap.size) s.heap (WM G a u0) H locs := by rw [hH, hL]; exact h
  suffices hg : W p l e rm_X10_previous s m args below meth c H locs 0 0 (EndI G (WM G a u0) (Po (WM G a) post) args s 0 0 below) (F0 m 0 ls []) by rw [hH, hL] at hg; exact hg
  clear hH hL
  refine z_aload_n X hl 0 rfl rfl dX10_previous_0 ?_
  refine z_iconst X dX10_previous_1 ?_
  refine pM_X10_thrown X K h q_1339 dX10_previous_2 (fun H locs h => ?_)
  refine z_aload_n X hl 0 rfl rfl dX10_previous_5 ?_
  refine r_callVi (rest := []) X K g h (ct_X10_passesBack (pI u0 0 0) _ hw) lk_X10_122 0 rfl rfl ⟨rfl, rfl⟩ ⟨Nat.le_of_ble_eq_true rfl, Nat.le_of_ble_eq_true rfl⟩ rfl (lv_size hl) rfl (Nat.le_of_ble_eq_true rfl) dX10_previous_6 ⟨Nat.le_of_ble_eq_true rfl, Nat.le_of_ble_eq_true rfl⟩ (fun z1 w' H locs hp h => ?_)
  obtain ⟨u2, rfl, hw⟩ := hp
  exact r_iret X hr hlk K h (Nat.le_refl _) (Nat.le_refl _) dX10_previous_9 ⟨_, rfl, hw⟩
def w_X10_add (post : Int → St → Prop) (u0 : St) (p1 : Int) : Prop :=
(w_X10_noWord (fun (z1 : Int) (u2 : St) => (InR z1) ∧ ((z1 = 0 → (w_X10_adds (fun (z5 : Int) (u6 : St) => post z5 u6) u2 p1)) ∧
 (¬ z1 = 0 → post 0 u2))) (pI u0 0 0) p1)
abbrev rm_X10_add : Room := { frames := 3, cells := 0, slots := 0, locals := 64 }
set_option maxRecDepth 100000 in
set_option maxHeartbeats 4000000 in
theorem ct_X10_add {l : Launch} {G : Gr} {a : Nat → Nat} (u0 : St) (p1 : Int) (post : Int → St → Prop) (hw : w_X10_add post u0 p1) : Ct l G yX10_add (ws_ yX10_add cX10_add 2 (some .int)) rm_X10_add [.ref (a 0), zI p1] (WM G a u0) 0 0 (Po (WM G a) post) := by
  refine Ct.of (by decide) (Nat.le_of_ble_eq_true rfl) ?_
  intro p e s m args below meth c ls X hr hlk K g h hl
  have hl : lv_has ls 2 [(0, .ref (a 0)), (1, zI p1)] := hl
  obtain ⟨H, hH⟩ : ∃ H, H = s.heap := ⟨_, rfl⟩
  obtain ⟨locs, hL⟩ : ∃ L : List Loc, L = [] := ⟨_, rfl⟩
  replace h : HW G (va_A (WM G a u0) s.heap.size) s.heap (WM G a u0) H locs := by rw [hH, hL]; exact h
  suffices hg : W p l e rm_X10_add s m args below meth c H locs 0 0 (EndI G (WM G a u0) (Po (WM G a) post) args s 0 0 below) (F0 m 0 ls []) by rw [hH, hL] at hg; exact hg
  clear hH hL
  refine z_aload_n X hl 0 rfl rfl dX10_add_0 ?_
  refine z_iconst X dX10_add_1 ?_
  refine pM_X10_thrown X K h q_1339 dX10_add_2 (fun H locs h => ?_)
  refine z_aload_n X hl 0 rfl rfl dX10_add_5 ?_
  refine z_iload_n X hl 1 rfl rfl dX10_add_6 ?_
  refine r_callVi (rest := []) X K g h (ct_X10_noWord (pI u0 0 0) p1 _ hw) lk_X10_125 0 rfl rfl ⟨rfl, rfl⟩ ⟨Nat.le_of_ble_eq_true rfl, Nat.le_of_ble_eq_true rfl⟩ rfl (lv_size hl) rfl (Nat.le_of_ble_eq_true rfl) dX10_add_7 ⟨Nat.le_of_ble_eq_true rfl, Nat.le_of_ble_eq_true rfl⟩ (fun z1 w' H locs hp h => ?_)
  obtain ⟨u2, rfl, hw⟩ := hp
  obtain ⟨h3, hw⟩ := hw
  refine z_if_eq (tgt := 17) X h3 dX10_add_10 (by decide) (fun c4 => ?_) (fun c4 => ?_)
  · replace hw := hw.1 c4
    refine z_aload_n X hl 0 rfl rfl dX10_add_17 ?_
    refine z_iload_n X hl 1 rfl rfl dX10_add_18 ?_
    refine r_callVi (rest := []) X K g h (ct_X10_adds u2 p1 _ hw) lk_X10_128 0 rfl rfl ⟨rfl, rfl⟩ ⟨Nat.le_of_ble_eq_true rfl, Nat.le_of_ble_eq_true rfl⟩ rfl (lv_size hl) rfl (Nat.le_of_ble_eq_true rfl) dX10_add_19 ⟨Nat.le_of_ble_eq_true rfl, Nat.le_of_ble_eq_true rfl⟩ (fun z5 w' H locs hp h => ?_)
    obtain ⟨u6, rfl, hw⟩ := hp
    exact r_iret X hr hlk K h (Nat.le_refl _) (Nat.le_refl _) dX10_add_22 ⟨_, rfl, hw⟩
  · replace hw := hw.2 c4
    refine z_iconst X dX10_add_13 ?_
    refine z_goto (tgt := 22) X dX10_add_14 (by decide) ?_
    exact r_iret X hr hlk K h (Nat.le_refl _) (Nat.le_refl _) dX10_add_22 ⟨_, rfl, hw⟩
def w_X10_set (post : Int → St → Prop) (u0 : St) (p1 : Int) : Prop :=
(w_X10_noWord (fun (z1 : Int) (u2 : St) => (InR z1) ∧ ((z1 = 0 → (w_X10_sets (fun (z5 : Int) (u6 : St) => post z5 u6) u2 p1)) ∧
 (¬ z1 = 0 → post 0 u2))) (pI u0 0 0) p1)
abbrev rm_X10_set : Room := { frames := 3, cells := 0, slots := 0, locals := 65 }
set_option maxRecDepth 100000 in
set_option maxHeartbeats 4000000 in
theorem ct_X10_set {l : Launch} {G : Gr} {a : Nat → Nat} (u0 : St) (p1 : Int) (post : Int → St → Prop) (hw : w_X10_set post u0 p1) : Ct l G yX10_set (ws_ yX10_set cX10_set 2 (some .int)) rm_X10_set [.ref (a 0), zI p1] (WM G a u0) 0 0 (Po (WM G a) post) := by
  refine Ct.of (by decide) (Nat.le_of_ble_eq_true rfl) ?_
  intro p e s m args below meth c ls X hr hlk K g h hl
  have hl : lv_has ls 2 [(0, .ref (a 0)), (1, zI p1)] := hl
  obtain ⟨H, hH⟩ : ∃ H, H = s.heap := ⟨_, rfl⟩
  obtain ⟨locs, hL⟩ : ∃ L : List Loc, L = [] := ⟨_, rfl⟩
  replace h : HW G (va_A (WM G a u0) s.heap.size) s.heap (WM G a u0) H locs := by rw [hH, hL]; exact h
  suffices hg : W p l e rm_X10_set s m args below meth c H locs 0 0 (EndI G (WM G a u0) (Po (WM G a) post) args s 0 0 below) (F0 m 0 ls []) by rw [hH, hL] at hg; exact hg
  clear hH hL
  refine z_aload_n X hl 0 rfl rfl dX10_set_0 ?_
  refine z_iconst X dX10_set_1 ?_
  refine pM_X10_thrown X K h q_1339 dX10_set_2 (fun H locs h => ?_)
  refine z_aload_n X hl 0 rfl rfl dX10_set_5 ?_
  refine z_iload_n X hl 1 rfl rfl dX10_set_6 ?_
  refine r_callVi (rest := []) X K g h (ct_X10_noWord (pI u0 0 0) p1 _ hw) lk_X10_125 0 rfl rfl ⟨rfl, rfl⟩ ⟨Nat.le_of_ble_eq_true rfl, Nat.le_of_ble_eq_true rfl⟩ rfl (lv_size hl) rfl (Nat.le_of_ble_eq_true rfl) dX10_set_7 ⟨Nat.le_of_ble_eq_true rfl, Nat.le_of_ble_eq_true rfl⟩ (fun z1 w' H locs hp h => ?_)
  obtain ⟨u2, rfl, hw⟩ := hp
  obtain ⟨h3, hw⟩ := hw
  refine z_if_eq (tgt := 17) X h3 dX10_set_10 (by decide) (fun c4 => ?_) (fun c4 => ?_)
  · replace hw := hw.1 c4
    refine z_aload_n X hl 0 rfl rfl dX10_set_17 ?_
    refine z_iload_n X hl 1 rfl rfl dX10_set_18 ?_
    refine r_callVi (rest := []) X K g h (ct_X10_sets u2 p1 _ hw) lk_X10_131 0 rfl rfl ⟨rfl, rfl⟩ ⟨Nat.le_of_ble_eq_true rfl, Nat.le_of_ble_eq_true rfl⟩ rfl (lv_size hl) rfl (Nat.le_of_ble_eq_true rfl) dX10_set_19 ⟨Nat.le_of_ble_eq_true rfl, Nat.le_of_ble_eq_true rfl⟩ (fun z5 w' H locs hp h => ?_)
    obtain ⟨u6, rfl, hw⟩ := hp
    exact r_iret X hr hlk K h (Nat.le_refl _) (Nat.le_refl _) dX10_set_22 ⟨_, rfl, hw⟩
  · replace hw := hw.2 c4
    refine z_iconst X dX10_set_13 ?_
    refine z_goto (tgt := 22) X dX10_set_14 (by decide) ?_
    exact r_iret X hr hlk K h (Nat.le_refl _) (Nat.le_refl _) dX10_set_22 ⟨_, rfl, hw⟩
def w_X10_remove (post : Int → St → Prop) (u0 : St) : Prop :=
(w_X10_removes (fun (z1 : Int) (u2 : St) => post z1 u2) (pI u0 0 0))
abbrev rm_X10_remove : Room := { frames := 3, cells := 0, slots := 0, locals := 64 }
set_option maxRecDepth 100000 in
set_option maxHeartbeats 4000000 in
theorem ct_X10_remove {l : Launch} {G : Gr} {a : Nat → Nat} (u0 : St) (post : Int → St → Prop) (hw : w_X10_remove post u0) : Ct l G yX10_remove (ws_ yX10_remove cX10_remove 1 (some .int)) rm_X10_remove [.ref (a 0)] (WM G a u0) 0 0 (Po (WM G a) post) := by
  refine Ct.of (by decide) (Nat.le_of_ble_eq_true rfl) ?_
  intro p e s m args below meth c ls X hr hlk K g h hl
  have hl : lv_has ls 1 [(0, .ref (a 0))] := hl
  obtain ⟨H, hH⟩ : ∃ H, H = s.heap := ⟨_, rfl⟩
  obtain ⟨locs, hL⟩ : ∃ L : List Loc, L = [] := ⟨_, rfl⟩
  replace h : HW G (va_A (WM G a u0) s.heap.size) s.heap (WM G a u0) H locs := by rw [hH, hL]; exact h
  suffices hg : W p l e rm_X10_remove s m args below meth c H locs 0 0 (EndI G (WM G a u0) (Po (WM G a) post) args s 0 0 below) (F0 m 0 ls []) by rw [hH, hL] at hg; exact hg
  clear hH hL
  refine z_aload_n X hl 0 rfl rfl dX10_remove_0 ?_
  refine z_iconst X dX10_remove_1 ?_
  refine pM_X10_thrown X K h q_1339 dX10_remove_2 (fun H locs h => ?_)
  refine z_aload_n X hl 0 rfl rfl dX10_remove_5 ?_
  refine r_callVi (rest := []) X K g h (ct_X10_removes (pI u0 0 0) _ hw) lk_X10_134 0 rfl rfl ⟨rfl, rfl⟩ ⟨Nat.le_of_ble_eq_true rfl, Nat.le_of_ble_eq_true rfl⟩ rfl (lv_size hl) rfl (Nat.le_of_ble_eq_true rfl) dX10_remove_6 ⟨Nat.le_of_ble_eq_true rfl, Nat.le_of_ble_eq_true rfl⟩ (fun z1 w' H locs hp h => ?_)
  obtain ⟨u2, rfl, hw⟩ := hp
  exact r_iret X hr hlk K h (Nat.le_refl _) (Nat.le_refl _) dX10_remove_9 ⟨_, rfl, hw⟩
def w_X10_move (post : Int → St → Prop) (u0 : St) (p1 : Int) : Prop :=
(w_X10_moves (fun (z1 : Int) (u2 : St) => post z1 u2) (pI u0 0 0) p1)
abbrev rm_X10_move : Room := { frames := 3, cells := 0, slots := 0, locals := 64 }
set_option maxRecDepth 100000 in
set_option maxHeartbeats 4000000 in
theorem ct_X10_move {l : Launch} {G : Gr} {a : Nat → Nat} (u0 : St) (p1 : Int) (post : Int → St → Prop) (hw : w_X10_move post u0 p1) : Ct l G yX10_move (ws_ yX10_move cX10_move 2 (some .int)) rm_X10_move [.ref (a 0), zI p1] (WM G a u0) 0 0 (Po (WM G a) post) := by
  refine Ct.of (by decide) (Nat.le_of_ble_eq_true rfl) ?_
  intro p e s m args below meth c ls X hr hlk K g h hl
  have hl : lv_has ls 2 [(0, .ref (a 0)), (1, zI p1)] := hl
  obtain ⟨H, hH⟩ : ∃ H, H = s.heap := ⟨_, rfl⟩
  obtain ⟨locs, hL⟩ : ∃ L : List Loc, L = [] := ⟨_, rfl⟩
  replace h : HW G (va_A (WM G a u0) s.heap.size) s.heap (WM G a u0) H locs := by rw [hH, hL]; exact h
  suffices hg : W p l e rm_X10_move s m args below meth c H locs 0 0 (EndI G (WM G a u0) (Po (WM G a) post) args s 0 0 below) (F0 m 0 ls []) by rw [hH, hL] at hg; exact hg
  clear hH hL
  refine z_aload_n X hl 0 rfl rfl dX10_move_0 ?_
  refine z_iconst X dX10_move_1 ?_
  refine pM_X10_thrown X K h q_1339 dX10_move_2 (fun H locs h => ?_)
  refine z_aload_n X hl 0 rfl rfl dX10_move_5 ?_
  refine z_iload_n X hl 1 rfl rfl dX10_move_6 ?_
  refine r_callVi (rest := []) X K g h (ct_X10_moves (pI u0 0 0) p1 _ hw) lk_X10_137 0 rfl rfl ⟨rfl, rfl⟩ ⟨Nat.le_of_ble_eq_true rfl, Nat.le_of_ble_eq_true rfl⟩ rfl (lv_size hl) rfl (Nat.le_of_ble_eq_true rfl) dX10_move_7 ⟨Nat.le_of_ble_eq_true rfl, Nat.le_of_ble_eq_true rfl⟩ (fun z1 w' H locs hp h => ?_)
  obtain ⟨u2, rfl, hw⟩ := hp
  exact r_iret X hr hlk K h (Nat.le_refl _) (Nat.le_refl _) dX10_move_10 ⟨_, rfl, hw⟩
def w_X10_find (post : Int → St → Prop) (u0 : St) (p1 : Int) (p2 : Int) : Prop :=
(w_X10_noWord (fun (z1 : Int) (u2 : St) => (InR z1) ∧ ((z1 = 0 → (w_X10_finds (fun (z5 : Int) (u6 : St) => post z5 u6) u2 p1 p2)) ∧
 (¬ z1 = 0 → post 0 u2))) (pI u0 0 0) p1)
abbrev rm_X10_find : Room := { frames := 3, cells := 0, slots := 0, locals := 66 }
set_option maxRecDepth 100000 in
set_option maxHeartbeats 4000000 in
theorem ct_X10_find {l : Launch} {G : Gr} {a : Nat → Nat} (u0 : St) (p1 : Int) (p2 : Int) (post : Int → St → Prop) (hw : w_X10_find post u0 p1 p2) : Ct l G yX10_find (ws_ yX10_find cX10_find 3 (some .int)) rm_X10_find [.ref (a 0), zI p1, zI p2] (WM G a u0) 0 0 (Po (WM G a) post) := by
  refine Ct.of (by decide) (Nat.le_of_ble_eq_true rfl) ?_
  intro p e s m args below meth c ls X hr hlk K g h hl
  have hl : lv_has ls 3 [(0, .ref (a 0)), (1, zI p1), (2, zI p2)] := hl
  obtain ⟨H, hH⟩ : ∃ H, H = s.heap := ⟨_, rfl⟩
  obtain ⟨locs, hL⟩ : ∃ L : List Loc, L = [] := ⟨_, rfl⟩
  replace h : HW G (va_A (WM G a u0) s.heap.size) s.heap (WM G a u0) H locs := by rw [hH, hL]; exact h
  suffices hg : W p l e rm_X10_find s m args below meth c H locs 0 0 (EndI G (WM G a u0) (Po (WM G a) post) args s 0 0 below) (F0 m 0 ls []) by rw [hH, hL] at hg; exact hg
  clear hH hL
  refine z_aload_n X hl 0 rfl rfl dX10_find_0 ?_
  refine z_iconst X dX10_find_1 ?_
  refine pM_X10_thrown X K h q_1339 dX10_find_2 (fun H locs h => ?_)
  refine z_aload_n X hl 0 rfl rfl dX10_find_5 ?_
  refine z_iload_n X hl 1 rfl rfl dX10_find_6 ?_
  refine r_callVi (rest := []) X K g h (ct_X10_noWord (pI u0 0 0) p1 _ hw) lk_X10_125 0 rfl rfl ⟨rfl, rfl⟩ ⟨Nat.le_of_ble_eq_true rfl, Nat.le_of_ble_eq_true rfl⟩ rfl (lv_size hl) rfl (Nat.le_of_ble_eq_true rfl) dX10_find_7 ⟨Nat.le_of_ble_eq_true rfl, Nat.le_of_ble_eq_true rfl⟩ (fun z1 w' H locs hp h => ?_)
  obtain ⟨u2, rfl, hw⟩ := hp
  obtain ⟨h3, hw⟩ := hw
  refine z_if_eq (tgt := 17) X h3 dX10_find_10 (by decide) (fun c4 => ?_) (fun c4 => ?_)
  · replace hw := hw.1 c4
    refine z_aload_n X hl 0 rfl rfl dX10_find_17 ?_
    refine z_iload_n X hl 1 rfl rfl dX10_find_18 ?_
    refine z_iload_n X hl 2 rfl rfl dX10_find_19 ?_
    refine r_callVi (rest := []) X K g h (ct_X10_finds u2 p1 p2 _ hw) lk_X10_140 0 rfl rfl ⟨rfl, rfl⟩ ⟨Nat.le_of_ble_eq_true rfl, Nat.le_of_ble_eq_true rfl⟩ rfl (lv_size hl) rfl (Nat.le_of_ble_eq_true rfl) dX10_find_20 ⟨Nat.le_of_ble_eq_true rfl, Nat.le_of_ble_eq_true rfl⟩ (fun z5 w' H locs hp h => ?_)
    obtain ⟨u6, rfl, hw⟩ := hp
    exact r_iret X hr hlk K h (Nat.le_refl _) (Nat.le_refl _) dX10_find_23 ⟨_, rfl, hw⟩
  · replace hw := hw.2 c4
    refine z_iconst X dX10_find_13 ?_
    refine z_goto (tgt := 23) X dX10_find_14 (by decide) ?_
    exact r_iret X hr hlk K h (Nat.le_refl _) (Nat.le_refl _) dX10_find_23 ⟨_, rfl, hw⟩
def w_X10_swap (post : Int → St → Prop) (u0 : St) : Prop :=
(w_X10_swaps (fun (z1 : Int) (u2 : St) => post z1 u2) (pI u0 0 0))
abbrev rm_X10_swap : Room := { frames := 3, cells := 0, slots := 0, locals := 64 }
set_option maxRecDepth 100000 in
set_option maxHeartbeats 4000000 in
theorem ct_X10_swap {l : Launch} {G : Gr} {a : Nat → Nat} (u0 : St) (post : Int → St → Prop) (hw : w_X10_swap post u0) : Ct l G yX10_swap (ws_ yX10_swap cX10_swap 1 (some .int)) rm_X10_swap [.ref (a 0)] (WM G a u0) 0 0 (Po (WM G a) post) := by
  refine Ct.of (by decide) (Nat.le_of_ble_eq_true rfl) ?_
  intro p e s m args below meth c ls X hr hlk K g h hl
  have hl : lv_has ls 1 [(0, .ref (a 0))] := hl
  obtain ⟨H, hH⟩ : ∃ H, H = s.heap := ⟨_, rfl⟩
  obtain ⟨locs, hL⟩ : ∃ L : List Loc, L = [] := ⟨_, rfl⟩
  replace h : HW G (va_A (WM G a u0) s.heap.size) s.heap (WM G a u0) H locs := by rw [hH, hL]; exact h
  suffices hg : W p l e rm_X10_swap s m args below meth c H locs 0 0 (EndI G (WM G a u0) (Po (WM G a) post) args s 0 0 below) (F0 m 0 ls []) by rw [hH, hL] at hg; exact hg
  clear hH hL
  refine z_aload_n X hl 0 rfl rfl dX10_swap_0 ?_
  refine z_iconst X dX10_swap_1 ?_
  refine pM_X10_thrown X K h q_1339 dX10_swap_2 (fun H locs h => ?_)
  refine z_aload_n X hl 0 rfl rfl dX10_swap_5 ?_
  refine r_callVi (rest := []) X K g h (ct_X10_swaps (pI u0 0 0) _ hw) lk_X10_144 0 rfl rfl ⟨rfl, rfl⟩ ⟨Nat.le_of_ble_eq_true rfl, Nat.le_of_ble_eq_true rfl⟩ rfl (lv_size hl) rfl (Nat.le_of_ble_eq_true rfl) dX10_swap_6 ⟨Nat.le_of_ble_eq_true rfl, Nat.le_of_ble_eq_true rfl⟩ (fun z1 w' H locs hp h => ?_)
  obtain ⟨u2, rfl, hw⟩ := hp
  exact r_iret X hr hlk K h (Nat.le_refl _) (Nat.le_refl _) dX10_swap_9 ⟨_, rfl, hw⟩
def b_X10_undo_51 (post : Int → St → Prop) (K51 : St × Int → Prop) (u5 : St) (x1_6 : Int) : Prop :=
(InR x1_6) ∧ ((x1_6 < 0 → (0 ≤ sI u5 5) ∧ (sI u5 5 < 50) ∧ (w_X10_goesTo (fun  (u11 : St) => post (sI u11 5) u11) u5 (sA u5 4 (sI u5 5)))) ∧
 (¬ x1_6 < 0 → (0 ≤ (100 * (sI u5 5)) + x1_6) ∧ ((100 * (sI u5 5)) + x1_6 < 5000) ∧ (0 ≤ sI u5 2) ∧ (sI u5 2 < 101) ∧ K51 ((pI (pA u5 1 (sI u5 2) (sA u5 3 ((100 * (sI u5 5)) + x1_6))) 2 ((sI u5 2) + 1)), x1_6 + (-1))))
def B_X10_undo_51 (post : Int → St → Prop) : (St × Int → Prop) → St × Int → Prop := fun K t => b_X10_undo_51 post K t.1 t.2
def w_X10_undo (post : Int → St → Prop) (u0 : St) : Prop :=
(InR (sI u0 5)) ∧ ((¬ sI u0 5 = 0 → (0 ≤ (sI u0 5) - 1) ∧ ((sI u0 5) - 1 < 50) ∧ (∃ n : Nat, Lp (B_X10_undo_51 post) n ((pI (pI (pI (pI (pI u0 0 0) 5 ((sI u0 5) - 1)) 1 0) 2 0) 3 0), (sA u0 5 ((sI u0 5) - 1)) - 1))) ∧
 (sI u0 5 = 0 → post (-1) (pI u0 0 0)))
abbrev rm_X10_undo : Room := { frames := 2, cells := 0, slots := 0, locals := 41 }
set_option maxRecDepth 100000 in
set_option maxHeartbeats 4000000 in
theorem ct_X10_undo {l : Launch} {G : Gr} {a : Nat → Nat} (u0 : St) (post : Int → St → Prop) (hw : w_X10_undo post u0) : Ct l G yX10_undo (ws_ yX10_undo cX10_undo 2 (some .int)) rm_X10_undo [.ref (a 0)] (WM G a u0) 0 0 (Po (WM G a) post) := by
  refine Ct.of (by decide) (Nat.le_of_ble_eq_true rfl) ?_
  intro p e s m args below meth c ls X hr hlk K g h hl
  have hl : lv_has ls 2 [(0, .ref (a 0))] := hl
  obtain ⟨H, hH⟩ : ∃ H, H = s.heap := ⟨_, rfl⟩
  obtain ⟨locs, hL⟩ : ∃ L : List Loc, L = [] := ⟨_, rfl⟩
  replace h : HW G (va_A (WM G a u0) s.heap.size) s.heap (WM G a u0) H locs := by rw [hH, hL]; exact h
  suffices hg : W p l e rm_X10_undo s m args below meth c H locs 0 0 (EndI G (WM G a u0) (Po (WM G a) post) args s 0 0 below) (F0 m 0 ls []) by rw [hH, hL] at hg; exact hg
  clear hH hL
  refine z_aload_n X hl 0 rfl rfl dX10_undo_0 ?_
  refine z_iconst X dX10_undo_1 ?_
  refine pM_X10_thrown X K h q_1339 dX10_undo_2 (fun H locs h => ?_)
  refine z_aload_n X hl 0 rfl rfl dX10_undo_5 ?_
  refine gM_X10_kept (x := sI u0 5) X K h rfl q_1350 dX10_undo_6 ?_
  obtain ⟨h1, hw⟩ := hw
  refine z_if_ne (tgt := 14) X h1 dX10_undo_9 (by decide) (fun c2 => ?_) (fun c2 => ?_)
  · replace hw := hw.1 c2
    refine z_aload_n X hl 0 rfl rfl dX10_undo_14 ?_
    refine z_dup X rfl dX10_undo_15 ?_
    refine gM_X10_kept (x := sI u0 5) X K h rfl q_1350 dX10_undo_16 ?_
    refine z_iconst X dX10_undo_19 ?_
    refine z_isub X dX10_undo_20 ?_
    refine pM_X10_kept X K h q_1350 dX10_undo_21 (fun H locs h => ?_)
    refine z_aload_n X hl 0 rfl rfl dX10_undo_24 ?_
    refine z_iconst X dX10_undo_25 ?_
    refine pM_X10_backMany X K h q_1342 dX10_undo_26 (fun H locs h => ?_)
    refine z_aload_n X hl 0 rfl rfl dX10_undo_29 ?_
    refine z_iconst X dX10_undo_30 ?_
    refine pM_X10_frontMany X K h q_1343 dX10_undo_31 (fun H locs h => ?_)
    refine z_aload_n X hl 0 rfl rfl dX10_undo_34 ?_
    refine z_iconst X dX10_undo_35 ?_
    refine pM_X10_givenBy X K h q_1344 dX10_undo_36 (fun H locs h => ?_)
    refine z_aload_n X hl 0 rfl rfl dX10_undo_39 ?_
    refine gM_X10_wasMany X K h q_1349 dX10_undo_40 ?_
    refine z_aload_n X hl 0 rfl rfl dX10_undo_43 ?_
    refine gM_X10_kept (x := (sI u0 5) - 1) X K h rfl q_1350 dX10_undo_44 ?_
    obtain ⟨h3, h4, hw⟩ := hw
    refine lM_5 (x := sA u0 5 ((sI u0 5) - 1)) X K h h3 h4 rfl dX10_undo_47 ?_
    refine z_iconst X dX10_undo_48 ?_
    refine z_isub X dX10_undo_49 ?_
    refine z_istore_n (i := 1) (lv' := [(1, zI ((sA u0 5 ((sI u0 5) - 1)) - 1)), (0, .ref (a 0))]) X hl rfl (by decide) dX10_undo_50 rfl (fun ls hl => ?_)
    obtain ⟨n51, hw⟩ := hw
    have key51 : ∀ (n : Nat) (t : St × Int) (H : Heap) (locs : List Loc) (ls : Array Slot), Lp (B_X10_undo_51 post) n t → HW G (va_A (WM G a u0) s.heap.size) s.heap (WM G a t.1) H locs → lv_has ls 2 [(0, .ref (a 0)), (1, zI t.2)] → W p l e rm_X10_undo s m args below meth c H locs 0 0 (EndI G (WM G a u0) (Po (WM G a) post) args s 0 0 below) (F0 m 51 ls []) := by
      intro n
      induction n with
      | zero =>
        intro t H locs ls hw
        exact hw.elim
      | succ n51 ih51 =>
        rintro ⟨u5, x1_6⟩ H locs ls hw h hl
        replace hw : b_X10_undo_51 post (Lp (B_X10_undo_51 post) n51) u5 x1_6 := hw
        refine z_iload_n X hl 1 rfl rfl dX10_undo_51 ?_
        obtain ⟨h7, hw⟩ := hw
        refine z_if_lt (tgt := 94) X h7 dX10_undo_52 (by decide) (fun c8 => ?_) (fun c8 => ?_)
        · replace hw := hw.1 c8
          refine z_aload_n X hl 0 rfl rfl dX10_undo_94 ?_
          refine z_aload_n X hl 0 rfl rfl dX10_undo_95 ?_
          refine gM_X10_wasBehind X K h q_1348 dX10_undo_96 ?_
          refine z_aload_n X hl 0 rfl rfl dX10_undo_99 ?_
          refine gM_X10_kept (x := sI u5 5) X K h rfl q_1350 dX10_undo_100 ?_
          obtain ⟨h9, h10, hw⟩ := hw
          refine lM_4 (x := sA u5 4 (sI u5 5)) X K h h9 h10 rfl dX10_undo_103 ?_
          refine r_callVv (rest := []) X K g h (ct_X10_goesTo u5 (sA u5 4 (sI u5 5)) _ hw) lk_X10_115 0 rfl rfl ⟨rfl, rfl⟩ ⟨Nat.le_of_ble_eq_true rfl, Nat.le_of_ble_eq_true rfl⟩ rfl (lv_size hl) rfl (Nat.le_of_ble_eq_true rfl) dX10_undo_104 ⟨Nat.le_of_ble_eq_true rfl, Nat.le_of_ble_eq_true rfl⟩ (fun w' H locs hp h => ?_)
          obtain ⟨u11, rfl, hw⟩ := hp
          refine z_aload_n X hl 0 rfl rfl dX10_undo_107 ?_
          refine gM_X10_kept (x := sI u11 5) X K h rfl q_1350 dX10_undo_108 ?_
          exact r_iret X hr hlk K h (Nat.le_refl _) (Nat.le_refl _) dX10_undo_111 ⟨_, rfl, hw⟩
        · replace hw := hw.2 c8
          refine z_aload_n X hl 0 rfl rfl dX10_undo_55 ?_
          refine gM_X10_front X K h q_1341 dX10_undo_56 ?_
          refine z_aload_n X hl 0 rfl rfl dX10_undo_59 ?_
          refine gM_X10_frontMany (x := sI u5 2) X K h rfl q_1343 dX10_undo_60 ?_
          refine z_aload_n X hl 0 rfl rfl dX10_undo_63 ?_
          refine gM_X10_was X K h q_1347 dX10_undo_64 ?_
          refine z_bipush (v := 100) X dX10_undo_67 (by decide) ?_
          refine z_aload_n X hl 0 rfl rfl dX10_undo_69 ?_
          refine gM_X10_kept (x := sI u5 5) X K h rfl q_1350 dX10_undo_70 ?_
          refine z_imul X dX10_undo_73 ?_
          refine z_iload_n X hl 1 rfl rfl dX10_undo_74 ?_
          refine z_iadd X dX10_undo_75 ?_
          obtain ⟨h12, h13, hw⟩ := hw
          refine lM_3 (x := sA u5 3 ((100 * (sI u5 5)) + x1_6)) X K h h12 h13 rfl dX10_undo_76 ?_
          obtain ⟨h14, h15, hw⟩ := hw
          refine sM_1 X K h h14 h15 dX10_undo_77 (fun H locs h => ?_)
          refine z_aload_n X hl 0 rfl rfl dX10_undo_78 ?_
          refine z_dup X rfl dX10_undo_79 ?_
          refine gM_X10_frontMany (x := sI u5 2) X K h rfl q_1343 dX10_undo_80 ?_
          refine z_iconst X dX10_undo_83 ?_
          refine z_iadd X dX10_undo_84 ?_
          refine pM_X10_frontMany X K h q_1343 dX10_undo_85 (fun H locs h => ?_)
          refine z_iinc (lv' := [(1, zI (x1_6 + (-1))), (0, .ref (a 0))]) X hl 1 rfl (by decide) dX10_undo_88 rfl (fun ls hl => ?_)
          refine z_goto (tgt := 51) X dX10_undo_91 (by decide) ?_
          exact ih51 ((pI (pA u5 1 (sI u5 2) (sA u5 3 ((100 * (sI u5 5)) + x1_6))) 2 ((sI u5 2) + 1)), x1_6 + (-1)) H locs ls hw h (lv_sub hl [1, 0] rfl)
    exact key51 n51 ((pI (pI (pI (pI (pI u0 0 0) 5 ((sI u0 5) - 1)) 1 0) 2 0) 3 0), (sA u0 5 ((sI u0 5) - 1)) - 1) H locs ls hw h (lv_sub hl [1, 0] rfl)
  · replace hw := hw.2 c2
    refine z_iconst X dX10_undo_12 ?_
    exact r_iret X hr hlk K h (Nat.le_refl _) (Nat.le_refl _) dX10_undo_13 ⟨_, rfl, hw⟩
def w_X10_undoable (post : Int → St → Prop) (u0 : St) : Prop :=
post (sI u0 5) (pI u0 0 0)
abbrev rm_X10_undoable : Room := { frames := 0, cells := 0, slots := 0, locals := 0 }
set_option maxRecDepth 100000 in
set_option maxHeartbeats 4000000 in
theorem ct_X10_undoable {l : Launch} {G : Gr} {a : Nat → Nat} (u0 : St) (post : Int → St → Prop) (hw : w_X10_undoable post u0) : Ct l G yX10_undoable (ws_ yX10_undoable cX10_undoable 1 (some .int)) rm_X10_undoable [.ref (a 0)] (WM G a u0) 0 0 (Po (WM G a) post) := by
  refine Ct.of (by decide) (Nat.le_of_ble_eq_true rfl) ?_
  intro p e s m args below meth c ls X hr hlk K g h hl
  have hl : lv_has ls 1 [(0, .ref (a 0))] := hl
  obtain ⟨H, hH⟩ : ∃ H, H = s.heap := ⟨_, rfl⟩
  obtain ⟨locs, hL⟩ : ∃ L : List Loc, L = [] := ⟨_, rfl⟩
  replace h : HW G (va_A (WM G a u0) s.heap.size) s.heap (WM G a u0) H locs := by rw [hH, hL]; exact h
  suffices hg : W p l e rm_X10_undoable s m args below meth c H locs 0 0 (EndI G (WM G a u0) (Po (WM G a) post) args s 0 0 below) (F0 m 0 ls []) by rw [hH, hL] at hg; exact hg
  clear hH hL
  refine z_aload_n X hl 0 rfl rfl dX10_undoable_0 ?_
  refine z_iconst X dX10_undoable_1 ?_
  refine pM_X10_thrown X K h q_1339 dX10_undoable_2 (fun H locs h => ?_)
  refine z_aload_n X hl 0 rfl rfl dX10_undoable_5 ?_
  refine gM_X10_kept (x := sI u0 5) X K h rfl q_1350 dX10_undoable_6 ?_
  exact r_iret X hr hlk K h (Nat.le_refl _) (Nat.le_refl _) dX10_undoable_9 ⟨_, rfl, hw⟩
def b_X10_bytesIn_4 (post : Int → Prop) (y0_4 : Int) (K4 : Int × Int → Prop) (x1_1 : Int) (x2_2 : Int) : Prop :=
(InR x2_2) ∧ ((32 ≤ x2_2 → post x1_1) ∧
 (¬ 32 ≤ x2_2 → (InR y0_4) ∧ (0 ≤ x2_2) ∧ (x2_2 < 32) ∧ (InR ((y0_4 / ((2 ^ x2_2.toNat : Nat) : Int)) % 256)) ∧ ((¬ (y0_4 / ((2 ^ x2_2.toNat : Nat) : Int)) % 256 = 0 → K4 (x1_1 + 1, x2_2 + 8)) ∧
 ((y0_4 / ((2 ^ x2_2.toNat : Nat) : Int)) % 256 = 0 → K4 (x1_1 + 0, x2_2 + 8)))))
def B_X10_bytesIn_4 (post : Int → Prop) (y0_4 : Int) : (Int × Int → Prop) → Int × Int → Prop := fun K t => b_X10_bytesIn_4 post y0_4 K t.1 t.2
def w_X10_bytesIn (post : Int → Prop) (p0 : Int) : Prop :=
(∃ n : Nat, Lp (B_X10_bytesIn_4 post p0) n (0, 0))
abbrev rm_X10_bytesIn : Room := { frames := 0, cells := 0, slots := 0, locals := 0 }
set_option maxRecDepth 100000 in
set_option maxHeartbeats 4000000 in
theorem ct_X10_bytesIn {l : Launch} {G : Gr} {w : va_W} (p0 : Int) (post : Int → Prop) (hw : w_X10_bytesIn post p0) : Ct l G yX10_bytesIn (ws_ yX10_bytesIn cX10_bytesIn 3 (some .int)) rm_X10_bytesIn [zI p0] w 0 0 (PoP w post) := by
  refine Ct.of (by decide) (Nat.le_of_ble_eq_true rfl) ?_
  intro p e s m args below meth c ls X hr hlk K g h hl
  have hl : lv_has ls 3 [(0, zI p0)] := hl
  obtain ⟨H, hH⟩ : ∃ H, H = s.heap := ⟨_, rfl⟩
  obtain ⟨locs, hL⟩ : ∃ L : List Loc, L = [] := ⟨_, rfl⟩
  replace h : HW G (va_A w s.heap.size) s.heap (w) H locs := by rw [hH, hL]; exact h
  suffices hg : W p l e rm_X10_bytesIn s m args below meth c H locs 0 0 (EndI G w (PoP w post) args s 0 0 below) (F0 m 0 ls []) by rw [hH, hL] at hg; exact hg
  clear hH hL
  refine z_iconst X dX10_bytesIn_0 ?_
  refine z_istore_n (i := 1) (lv' := [(1, zI 0), (0, zI p0)]) X hl rfl (by decide) dX10_bytesIn_1 rfl (fun ls hl => ?_)
  refine z_iconst X dX10_bytesIn_2 ?_
  refine z_istore_n (i := 2) (lv' := [(2, zI 0), (1, zI 0), (0, zI p0)]) X hl rfl (by decide) dX10_bytesIn_3 rfl (fun ls hl => ?_)
  obtain ⟨n4, hw⟩ := hw
  have key4 : ∀ (n : Nat) (t : Int × Int) (H : Heap) (locs : List Loc) (ls : Array Slot), Lp (B_X10_bytesIn_4 post p0) n t → HW G (va_A w s.heap.size) s.heap (w) H locs → lv_has ls 3 [(0, zI p0), (1, zI t.1), (2, zI t.2)] → W p l e rm_X10_bytesIn s m args below meth c H locs 0 0 (EndI G w (PoP w post) args s 0 0 below) (F0 m 4 ls []) := by
    intro n
    induction n with
    | zero =>
      intro t H locs ls hw
      exact hw.elim
    | succ n4 ih4 =>
      rintro ⟨x1_1, x2_2⟩ H locs ls hw h hl
      replace hw : b_X10_bytesIn_4 post p0 (Lp (B_X10_bytesIn_4 post p0) n4) x1_1 x2_2 := hw
      refine z_iload_n X hl 2 rfl rfl dX10_bytesIn_4 ?_
      refine z_bipush (v := 32) X dX10_bytesIn_5 (by decide) ?_
      obtain ⟨h3, hw⟩ := hw
      refine z_icmp_ge (tgt := 34) X h3 (by decide) dX10_bytesIn_7 (by decide) (fun c4 => ?_) (fun c4 => ?_)
      · replace hw := hw.1 c4
        refine z_iload_n X hl 1 rfl rfl dX10_bytesIn_34 ?_
        exact r_iret X hr hlk K h (Nat.le_refl _) (Nat.le_refl _) dX10_bytesIn_35 ⟨rfl, hw⟩
      · replace hw := hw.2 c4
        refine z_iload_n X hl 1 rfl rfl dX10_bytesIn_10 ?_
        refine z_iload_n X hl 0 rfl rfl dX10_bytesIn_11 ?_
        refine z_iload_n X hl 2 rfl rfl dX10_bytesIn_12 ?_
        obtain ⟨h5, h6, h7, hw⟩ := hw
        refine z_ishr X h5 h6 h7 dX10_bytesIn_13 ?_
        refine z_sipush (v := 255) X dX10_bytesIn_14 (by decide) ?_
        refine z_iand255 X dX10_bytesIn_17 ?_
        obtain ⟨h8, hw⟩ := hw
        refine z_if_ne (tgt := 25) X h8 dX10_bytesIn_18 (by decide) (fun c9 => ?_) (fun c9 => ?_)
        · replace hw := hw.1 c9
          refine z_iconst X dX10_bytesIn_25 ?_
          refine z_iadd X dX10_bytesIn_26 ?_
          refine z_istore_n (i := 1) (lv' := [(1, zI (x1_1 + 1)), (0, zI p0), (2, zI x2_2)]) X hl rfl (by decide) dX10_bytesIn_27 rfl (fun ls hl => ?_)
          refine z_iinc (lv' := [(2, zI (x2_2 + 8)), (1, zI (x1_1 + 1)), (0, zI p0)]) X hl 2 rfl (by decide) dX10_bytesIn_28 rfl (fun ls hl => ?_)
          refine z_goto (tgt := 4) X dX10_bytesIn_31 (by decide) ?_
          exact ih4 (x1_1 + 1, x2_2 + 8) H locs ls hw h (lv_sub hl [2, 1, 0] rfl)
        · replace hw := hw.2 c9
          refine z_iconst X dX10_bytesIn_21 ?_
          refine z_goto (tgt := 26) X dX10_bytesIn_22 (by decide) ?_
          refine z_iadd X dX10_bytesIn_26 ?_
          refine z_istore_n (i := 1) (lv' := [(1, zI (x1_1 + 0)), (0, zI p0), (2, zI x2_2)]) X hl rfl (by decide) dX10_bytesIn_27 rfl (fun ls hl => ?_)
          refine z_iinc (lv' := [(2, zI (x2_2 + 8)), (1, zI (x1_1 + 0)), (0, zI p0)]) X hl 2 rfl (by decide) dX10_bytesIn_28 rfl (fun ls hl => ?_)
          refine z_goto (tgt := 4) X dX10_bytesIn_31 (by decide) ?_
          exact ih4 (x1_1 + 0, x2_2 + 8) H locs ls hw h (lv_sub hl [2, 1, 0] rfl)
  exact key4 n4 (0, 0) H locs ls hw h (lv_sub hl [2, 1, 0] rfl)
def b_X10_takesBytes_3 (post : St → Prop) (y1_3 : Int) (K3 : St × Int → Prop) (u1 : St) (x2_2 : Int) : Prop :=
(InR x2_2) ∧ ((x2_2 < 0 → post u1) ∧
 (¬ x2_2 < 0 → (InR y1_3) ∧ (0 ≤ x2_2) ∧ (x2_2 < 32) ∧ (InR ((y1_3 / ((2 ^ x2_2.toNat : Nat) : Int)) % 256)) ∧ ((¬ (y1_3 / ((2 ^ x2_2.toNat : Nat) : Int)) % 256 = 0 → (0 ≤ sI u1 6) ∧ (sI u1 6 < 300) ∧ K3 ((pI (pA u1 6 (sI u1 6) ((y1_3 / ((2 ^ x2_2.toNat : Nat) : Int)) % 256)) 6 ((sI u1 6) + 1)), x2_2 + (-8))) ∧
 ((y1_3 / ((2 ^ x2_2.toNat : Nat) : Int)) % 256 = 0 → K3 (u1, x2_2 + (-8))))))
def B_X10_takesBytes_3 (post : St → Prop) (y1_3 : Int) : (St × Int → Prop) → St × Int → Prop := fun K t => b_X10_takesBytes_3 post y1_3 K t.1 t.2
def w_X10_takesBytes (post : St → Prop) (u0 : St) (p1 : Int) : Prop :=
(∃ n : Nat, Lp (B_X10_takesBytes_3 post p1) n (u0, 24))
abbrev rm_X10_takesBytes : Room := { frames := 0, cells := 0, slots := 0, locals := 0 }
set_option maxRecDepth 100000 in
set_option maxHeartbeats 4000000 in
theorem ct_X10_takesBytes {l : Launch} {G : Gr} {a : Nat → Nat} (u0 : St) (p1 : Int) (post : St → Prop) (hw : w_X10_takesBytes post u0 p1) : CtV l G yX10_takesBytes (ws_ yX10_takesBytes cX10_takesBytes 4 (none)) rm_X10_takesBytes [.ref (a 0), zI p1] (WM G a u0) 0 0 (PoV (WM G a) post) := by
  refine CtV.of (by decide) (Nat.le_of_ble_eq_true rfl) ?_
  intro p e s m args below meth c ls X hr hlk K g h hl
  have hl : lv_has ls 4 [(0, .ref (a 0)), (1, zI p1)] := hl
  obtain ⟨H, hH⟩ : ∃ H, H = s.heap := ⟨_, rfl⟩
  obtain ⟨locs, hL⟩ : ∃ L : List Loc, L = [] := ⟨_, rfl⟩
  replace h : HW G (va_A (WM G a u0) s.heap.size) s.heap (WM G a u0) H locs := by rw [hH, hL]; exact h
  suffices hg : W p l e rm_X10_takesBytes s m args below meth c H locs 0 0 (EndV G (WM G a u0) (PoV (WM G a) post) args s 0 0 below) (F0 m 0 ls []) by rw [hH, hL] at hg; exact hg
  clear hH hL
  refine z_bipush (v := 24) X dX10_takesBytes_0 (by decide) ?_
  refine z_istore_n (i := 2) (lv' := [(2, zI 24), (0, .ref (a 0)), (1, zI p1)]) X hl rfl (by decide) dX10_takesBytes_2 rfl (fun ls hl => ?_)
  obtain ⟨n3, hw⟩ := hw
  have key3 : ∀ (n : Nat) (t : St × Int) (H : Heap) (locs : List Loc) (ls : Array Slot), Lp (B_X10_takesBytes_3 post p1) n t → HW G (va_A (WM G a u0) s.heap.size) s.heap (WM G a t.1) H locs → lv_has ls 4 [(0, .ref (a 0)), (1, zI p1), (2, zI t.2)] → W p l e rm_X10_takesBytes s m args below meth c H locs 0 0 (EndV G (WM G a u0) (PoV (WM G a) post) args s 0 0 below) (F0 m 3 ls []) := by
    intro n
    induction n with
    | zero =>
      intro t H locs ls hw
      exact hw.elim
    | succ n3 ih3 =>
      rintro ⟨u1, x2_2⟩ H locs ls hw h hl
      replace hw : b_X10_takesBytes_3 post p1 (Lp (B_X10_takesBytes_3 post p1) n3) u1 x2_2 := hw
      refine z_iload_n X hl 2 rfl rfl dX10_takesBytes_3 ?_
      obtain ⟨h3, hw⟩ := hw
      refine z_if_lt (tgt := 48) X h3 dX10_takesBytes_4 (by decide) (fun c4 => ?_) (fun c4 => ?_)
      · replace hw := hw.1 c4
        exact r_vret X hr hlk K h (Nat.le_refl _) (Nat.le_refl _) dX10_takesBytes_48 ⟨_, rfl, hw⟩
      · replace hw := hw.2 c4
        refine z_iload_n X hl 1 rfl rfl dX10_takesBytes_7 ?_
        refine z_iload_n X hl 2 rfl rfl dX10_takesBytes_8 ?_
        obtain ⟨h5, h6, h7, hw⟩ := hw
        refine z_ishr X h5 h6 h7 dX10_takesBytes_9 ?_
        refine z_sipush (v := 255) X dX10_takesBytes_10 (by decide) ?_
        refine z_iand255 X dX10_takesBytes_13 ?_
        refine z_istore_n (i := 3) (lv' := [(3, zI ((p1 / ((2 ^ x2_2.toNat : Nat) : Int)) % 256)), (0, .ref (a 0)), (1, zI p1), (2, zI x2_2)]) X hl rfl (by decide) dX10_takesBytes_14 rfl (fun ls hl => ?_)
        refine z_iload_n X hl 0 rfl rfl dX10_takesBytes_15 ?_
        obtain ⟨h8, hw⟩ := hw
        refine z_if_ne (tgt := 22) X h8 dX10_takesBytes_16 (by decide) (fun c9 => ?_) (fun c9 => ?_)
        · replace hw := hw.1 c9
          refine z_aload_n X hl 1 rfl rfl dX10_takesBytes_22 ?_
          refine gM_X10_tape X K h q_1351 dX10_takesBytes_23 ?_
          refine z_aload_n X hl 1 rfl rfl dX10_takesBytes_26 ?_
          refine gM_X10_tapeMany (x := sI u1 6) X K h rfl q_1352 dX10_takesBytes_27 ?_
          refine z_iload_n X hl 0 rfl rfl dX10_takesBytes_30 ?_
          obtain ⟨h10, h11, hw⟩ := hw
          refine sM_6 X K h h10 h11 dX10_takesBytes_31 (fun H locs h => ?_)
          refine z_aload_n X hl 1 rfl rfl dX10_takesBytes_32 ?_
          refine z_dup X rfl dX10_takesBytes_33 ?_
          refine gM_X10_tapeMany (x := sI u1 6) X K h rfl q_1352 dX10_takesBytes_34 ?_
          refine z_iconst X dX10_takesBytes_37 ?_
          refine z_iadd X dX10_takesBytes_38 ?_
          refine pM_X10_tapeMany X K h q_1352 dX10_takesBytes_39 (fun H locs h => ?_)
          refine z_iinc (lv' := [(2, zI (x2_2 + (-8))), (3, zI ((p1 / ((2 ^ x2_2.toNat : Nat) : Int)) % 256)), (0, .ref (a 0)), (1, zI p1)]) X hl 3 rfl (by decide) dX10_takesBytes_42 rfl (fun ls hl => ?_)
          refine z_goto (tgt := 3) X dX10_takesBytes_45 (by decide) ?_
          exact ih3 ((pI (pA u1 6 (sI u1 6) ((p1 / ((2 ^ x2_2.toNat : Nat) : Int)) % 256)) 6 ((sI u1 6) + 1)), x2_2 + (-8)) H locs ls hw h (lv_sub hl [2, 3, 0] rfl)
        · replace hw := hw.2 c9
          refine z_goto (tgt := 42) X dX10_takesBytes_19 (by decide) ?_
          refine z_iinc (lv' := [(2, zI (x2_2 + (-8))), (3, zI ((p1 / ((2 ^ x2_2.toNat : Nat) : Int)) % 256)), (0, .ref (a 0)), (1, zI p1)]) X hl 3 rfl (by decide) dX10_takesBytes_42 rfl (fun ls hl => ?_)
          refine z_goto (tgt := 3) X dX10_takesBytes_45 (by decide) ?_
          exact ih3 (u1, x2_2 + (-8)) H locs ls hw h (lv_sub hl [2, 3, 0] rfl)
  exact key3 n3 (u0, 24) H locs ls hw h (lv_sub hl [1, 2, 0] rfl)
def w_X10_append (post : Int → St → Prop) (u0 : St) (p1 : Int) (p2 : Int) (p3 : Int) (p4 : Int) (p5 : Int) : Prop :=
(w_X10_bytesIn (fun (z1 : Int) => (w_X10_bytesIn (fun (z2 : Int) => (w_X10_bytesIn (fun (z3 : Int) => (w_X10_bytesIn (fun (z4 : Int) => (w_X10_bytesIn (fun (z5 : Int) => (InR ((sI u0 6) + ((((z1 + z2) + z3) + z4) + z5))) ∧ ((300 < (sI u0 6) + ((((z1 + z2) + z3) + z4) + z5) → (w_X10_fails (fun (z8 : Int) (u9 : St) => (InR z8) ∧ ((z8 = 0 → (w_X10_takesBytes (fun  (u12 : St) => (w_X10_takesBytes (fun  (u13 : St) => (w_X10_takesBytes (fun  (u14 : St) => (w_X10_takesBytes (fun  (u15 : St) => (w_X10_takesBytes (fun  (u16 : St) => post (sI u16 6) u16) u15 p5)) u14 p4)) u13 p3)) u12 p2)) u9 p1)) ∧
 (¬ z8 = 0 → post 0 u9))) (pI u0 0 0) 0 1)) ∧
 (¬ 300 < (sI u0 6) + ((((z1 + z2) + z3) + z4) + z5) → (w_X10_fails (fun (z17 : Int) (u18 : St) => (InR z17) ∧ ((z17 = 0 → (w_X10_takesBytes (fun  (u21 : St) => (w_X10_takesBytes (fun  (u22 : St) => (w_X10_takesBytes (fun  (u23 : St) => (w_X10_takesBytes (fun  (u24 : St) => (w_X10_takesBytes (fun  (u25 : St) => post (sI u25 6) u25) u24 p5)) u23 p4)) u22 p3)) u21 p2)) u18 p1)) ∧
 (¬ z17 = 0 → post 0 u18))) (pI u0 0 0) 1 1)))) p5)) p4)) p3)) p2)) p1)
abbrev rm_X10_append : Room := { frames := 1, cells := 0, slots := 0, locals := 23 }
set_option maxRecDepth 100000 in
set_option maxHeartbeats 4000000 in
theorem ct_X10_append {l : Launch} {G : Gr} {a : Nat → Nat} (u0 : St) (p1 : Int) (p2 : Int) (p3 : Int) (p4 : Int) (p5 : Int) (post : Int → St → Prop) (hw : w_X10_append post u0 p1 p2 p3 p4 p5) : Ct l G yX10_append (ws_ yX10_append cX10_append 7 (some .int)) rm_X10_append [.ref (a 0), zI p1, zI p2, zI p3, zI p4, zI p5] (WM G a u0) 0 0 (Po (WM G a) post) := by
  refine Ct.of (by decide) (Nat.le_of_ble_eq_true rfl) ?_
  intro p e s m args below meth c ls X hr hlk K g h hl
  have hl : lv_has ls 7 [(0, .ref (a 0)), (1, zI p1), (2, zI p2), (3, zI p3), (4, zI p4), (5, zI p5)] := hl
  obtain ⟨H, hH⟩ : ∃ H, H = s.heap := ⟨_, rfl⟩
  obtain ⟨locs, hL⟩ : ∃ L : List Loc, L = [] := ⟨_, rfl⟩
  replace h : HW G (va_A (WM G a u0) s.heap.size) s.heap (WM G a u0) H locs := by rw [hH, hL]; exact h
  suffices hg : W p l e rm_X10_append s m args below meth c H locs 0 0 (EndI G (WM G a u0) (Po (WM G a) post) args s 0 0 below) (F0 m 0 ls []) by rw [hH, hL] at hg; exact hg
  clear hH hL
  refine z_aload_n X hl 0 rfl rfl dX10_append_0 ?_
  refine z_iconst X dX10_append_1 ?_
  refine pM_X10_thrown X K h q_1339 dX10_append_2 (fun H locs h => ?_)
  refine z_iload_n X hl 1 rfl rfl dX10_append_5 ?_
  refine r_callSi (rest := []) X K g h (ct_X10_bytesIn (w := WM G a (pI u0 0 0)) p1 _ hw) lk_X10_150 ⟨rfl, rfl⟩ ⟨Nat.le_of_ble_eq_true rfl, Nat.le_of_ble_eq_true rfl⟩ rfl (lv_size hl) rfl (Nat.le_of_ble_eq_true rfl) dX10_append_6 ⟨Nat.le_of_ble_eq_true rfl, Nat.le_of_ble_eq_true rfl⟩ (fun z1 w' H locs hp h => ?_)
  obtain ⟨rfl, hw⟩ := hp
  refine z_iload_n X hl 2 rfl rfl dX10_append_9 ?_
  refine r_callSi (rest := [zI z1]) X K g h (ct_X10_bytesIn (w := WM G a (pI u0 0 0)) p2 _ hw) lk_X10_150 ⟨rfl, rfl⟩ ⟨Nat.le_of_ble_eq_true rfl, Nat.le_of_ble_eq_true rfl⟩ rfl (lv_size hl) rfl (Nat.le_of_ble_eq_true rfl) dX10_append_10 ⟨Nat.le_of_ble_eq_true rfl, Nat.le_of_ble_eq_true rfl⟩ (fun z2 w' H locs hp h => ?_)
  obtain ⟨rfl, hw⟩ := hp
  refine z_iadd X dX10_append_13 ?_
  refine z_iload_n X hl 3 rfl rfl dX10_append_14 ?_
  refine r_callSi (rest := [zI (z1 + z2)]) X K g h (ct_X10_bytesIn (w := WM G a (pI u0 0 0)) p3 _ hw) lk_X10_150 ⟨rfl, rfl⟩ ⟨Nat.le_of_ble_eq_true rfl, Nat.le_of_ble_eq_true rfl⟩ rfl (lv_size hl) rfl (Nat.le_of_ble_eq_true rfl) dX10_append_15 ⟨Nat.le_of_ble_eq_true rfl, Nat.le_of_ble_eq_true rfl⟩ (fun z3 w' H locs hp h => ?_)
  obtain ⟨rfl, hw⟩ := hp
  refine z_iadd X dX10_append_18 ?_
  refine z_iload X hl 4 rfl dX10_append_19 ?_
  refine r_callSi (rest := [zI ((z1 + z2) + z3)]) X K g h (ct_X10_bytesIn (w := WM G a (pI u0 0 0)) p4 _ hw) lk_X10_150 ⟨rfl, rfl⟩ ⟨Nat.le_of_ble_eq_true rfl, Nat.le_of_ble_eq_true rfl⟩ rfl (lv_size hl) rfl (Nat.le_of_ble_eq_true rfl) dX10_append_21 ⟨Nat.le_of_ble_eq_true rfl, Nat.le_of_ble_eq_true rfl⟩ (fun z4 w' H locs hp h => ?_)
  obtain ⟨rfl, hw⟩ := hp
  refine z_iadd X dX10_append_24 ?_
  refine z_iload X hl 5 rfl dX10_append_25 ?_
  refine r_callSi (rest := [zI (((z1 + z2) + z3) + z4)]) X K g h (ct_X10_bytesIn (w := WM G a (pI u0 0 0)) p5 _ hw) lk_X10_150 ⟨rfl, rfl⟩ ⟨Nat.le_of_ble_eq_true rfl, Nat.le_of_ble_eq_true rfl⟩ rfl (lv_size hl) rfl (Nat.le_of_ble_eq_true rfl) dX10_append_27 ⟨Nat.le_of_ble_eq_true rfl, Nat.le_of_ble_eq_true rfl⟩ (fun z5 w' H locs hp h => ?_)
  obtain ⟨rfl, hw⟩ := hp
  refine z_iadd X dX10_append_30 ?_
  refine z_istore (i := 6) (lv' := [(6, zI ((((z1 + z2) + z3) + z4) + z5)), (0, .ref (a 0)), (1, zI p1), (2, zI p2), (3, zI p3), (4, zI p4), (5, zI p5)]) X hl (by decide) dX10_append_31 rfl (fun ls hl => ?_)
  refine z_aload_n X hl 1 rfl rfl dX10_append_33 ?_
  refine z_aload_n X hl 1 rfl rfl dX10_append_34 ?_
  refine gM_X10_tapeMany (x := sI u0 6) X K h rfl q_1352 dX10_append_35 ?_
  refine z_iload X hl 0 rfl dX10_append_38 ?_
  refine z_iadd X dX10_append_40 ?_
  refine z_sipush (v := 300) X dX10_append_41 (by decide) ?_
  obtain ⟨h6, hw⟩ := hw
  refine z_icmp_gt (tgt := 51) X h6 (by decide) dX10_append_44 (by decide) (fun c7 => ?_) (fun c7 => ?_)
  · replace hw := hw.1 c7
    refine z_iconst X dX10_append_51 ?_
    refine z_iconst X dX10_append_52 ?_
    refine r_callVi (rest := []) X K g h (ct_X10_fails (pI u0 0 0) 0 1 _ hw) lk_X10_74 0 rfl rfl ⟨rfl, rfl⟩ ⟨Nat.le_of_ble_eq_true rfl, Nat.le_of_ble_eq_true rfl⟩ rfl (lv_size hl) rfl (Nat.le_of_ble_eq_true rfl) dX10_append_53 ⟨Nat.le_of_ble_eq_true rfl, Nat.le_of_ble_eq_true rfl⟩ (fun z8 w' H locs hp h => ?_)
    obtain ⟨u9, rfl, hw⟩ := hp
    obtain ⟨h10, hw⟩ := hw
    refine z_if_eq (tgt := 61) X h10 dX10_append_56 (by decide) (fun c11 => ?_) (fun c11 => ?_)
    · replace hw := hw.1 c11
      refine z_aload_n X hl 1 rfl rfl dX10_append_61 ?_
      refine z_iload_n X hl 2 rfl rfl dX10_append_62 ?_
      refine r_callVv (rest := []) X K g h (ct_X10_takesBytes u9 p1 _ hw) lk_X10_153 0 rfl rfl ⟨rfl, rfl⟩ ⟨Nat.le_of_ble_eq_true rfl, Nat.le_of_ble_eq_true rfl⟩ rfl (lv_size hl) rfl (Nat.le_of_ble_eq_true rfl) dX10_append_63 ⟨Nat.le_of_ble_eq_true rfl, Nat.le_of_ble_eq_true rfl⟩ (fun w' H locs hp h => ?_)
      obtain ⟨u12, rfl, hw⟩ := hp
      refine z_aload_n X hl 1 rfl rfl dX10_append_66 ?_
      refine z_iload_n X hl 3 rfl rfl dX10_append_67 ?_
      refine r_callVv (rest := []) X K g h (ct_X10_takesBytes u12 p2 _ hw) lk_X10_153 0 rfl rfl ⟨rfl, rfl⟩ ⟨Nat.le_of_ble_eq_true rfl, Nat.le_of_ble_eq_true rfl⟩ rfl (lv_size hl) rfl (Nat.le_of_ble_eq_true rfl) dX10_append_68 ⟨Nat.le_of_ble_eq_true rfl, Nat.le_of_ble_eq_true rfl⟩ (fun w' H locs hp h => ?_)
      obtain ⟨u13, rfl, hw⟩ := hp
      refine z_aload_n X hl 1 rfl rfl dX10_append_71 ?_
      refine z_iload_n X hl 4 rfl rfl dX10_append_72 ?_
      refine r_callVv (rest := []) X K g h (ct_X10_takesBytes u13 p3 _ hw) lk_X10_153 0 rfl rfl ⟨rfl, rfl⟩ ⟨Nat.le_of_ble_eq_true rfl, Nat.le_of_ble_eq_true rfl⟩ rfl (lv_size hl) rfl (Nat.le_of_ble_eq_true rfl) dX10_append_73 ⟨Nat.le_of_ble_eq_true rfl, Nat.le_of_ble_eq_true rfl⟩ (fun w' H locs hp h => ?_)
      obtain ⟨u14, rfl, hw⟩ := hp
      refine z_aload_n X hl 1 rfl rfl dX10_append_76 ?_
      refine z_iload X hl 5 rfl dX10_append_77 ?_
      refine r_callVv (rest := []) X K g h (ct_X10_takesBytes u14 p4 _ hw) lk_X10_153 0 rfl rfl ⟨rfl, rfl⟩ ⟨Nat.le_of_ble_eq_true rfl, Nat.le_of_ble_eq_true rfl⟩ rfl (lv_size hl) rfl (Nat.le_of_ble_eq_true rfl) dX10_append_79 ⟨Nat.le_of_ble_eq_true rfl, Nat.le_of_ble_eq_true rfl⟩ (fun w' H locs hp h => ?_)
      obtain ⟨u15, rfl, hw⟩ := hp
      refine z_aload_n X hl 1 rfl rfl dX10_append_82 ?_
      refine z_iload X hl 6 rfl dX10_append_83 ?_
      refine r_callVv (rest := []) X K g h (ct_X10_takesBytes u15 p5 _ hw) lk_X10_153 0 rfl rfl ⟨rfl, rfl⟩ ⟨Nat.le_of_ble_eq_true rfl, Nat.le_of_ble_eq_true rfl⟩ rfl (lv_size hl) rfl (Nat.le_of_ble_eq_true rfl) dX10_append_85 ⟨Nat.le_of_ble_eq_true rfl, Nat.le_of_ble_eq_true rfl⟩ (fun w' H locs hp h => ?_)
      obtain ⟨u16, rfl, hw⟩ := hp
      refine z_aload_n X hl 1 rfl rfl dX10_append_88 ?_
      refine gM_X10_tapeMany (x := sI u16 6) X K h rfl q_1352 dX10_append_89 ?_
      exact r_iret X hr hlk K h (Nat.le_refl _) (Nat.le_refl _) dX10_append_92 ⟨_, rfl, hw⟩
    · replace hw := hw.2 c11
      refine z_iconst X dX10_append_59 ?_
      exact r_iret X hr hlk K h (Nat.le_refl _) (Nat.le_refl _) dX10_append_60 ⟨_, rfl, hw⟩
  · replace hw := hw.2 c7
    refine z_iconst X dX10_append_47 ?_
    refine z_goto (tgt := 52) X dX10_append_48 (by decide) ?_
    refine z_iconst X dX10_append_52 ?_
    refine r_callVi (rest := []) X K g h (ct_X10_fails (pI u0 0 0) 1 1 _ hw) lk_X10_74 0 rfl rfl ⟨rfl, rfl⟩ ⟨Nat.le_of_ble_eq_true rfl, Nat.le_of_ble_eq_true rfl⟩ rfl (lv_size hl) rfl (Nat.le_of_ble_eq_true rfl) dX10_append_53 ⟨Nat.le_of_ble_eq_true rfl, Nat.le_of_ble_eq_true rfl⟩ (fun z17 w' H locs hp h => ?_)
    obtain ⟨u18, rfl, hw⟩ := hp
    obtain ⟨h19, hw⟩ := hw
    refine z_if_eq (tgt := 61) X h19 dX10_append_56 (by decide) (fun c20 => ?_) (fun c20 => ?_)
    · replace hw := hw.1 c20
      refine z_aload_n X hl 1 rfl rfl dX10_append_61 ?_
      refine z_iload_n X hl 2 rfl rfl dX10_append_62 ?_
      refine r_callVv (rest := []) X K g h (ct_X10_takesBytes u18 p1 _ hw) lk_X10_153 0 rfl rfl ⟨rfl, rfl⟩ ⟨Nat.le_of_ble_eq_true rfl, Nat.le_of_ble_eq_true rfl⟩ rfl (lv_size hl) rfl (Nat.le_of_ble_eq_true rfl) dX10_append_63 ⟨Nat.le_of_ble_eq_true rfl, Nat.le_of_ble_eq_true rfl⟩ (fun w' H locs hp h => ?_)
      obtain ⟨u21, rfl, hw⟩ := hp
      refine z_aload_n X hl 1 rfl rfl dX10_append_66 ?_
      refine z_iload_n X hl 3 rfl rfl dX10_append_67 ?_
      refine r_callVv (rest := []) X K g h (ct_X10_takesBytes u21 p2 _ hw) lk_X10_153 0 rfl rfl ⟨rfl, rfl⟩ ⟨Nat.le_of_ble_eq_true rfl, Nat.le_of_ble_eq_true rfl⟩ rfl (lv_size hl) rfl (Nat.le_of_ble_eq_true rfl) dX10_append_68 ⟨Nat.le_of_ble_eq_true rfl, Nat.le_of_ble_eq_true rfl⟩ (fun w' H locs hp h => ?_)
      obtain ⟨u22, rfl, hw⟩ := hp
      refine z_aload_n X hl 1 rfl rfl dX10_append_71 ?_
      refine z_iload_n X hl 4 rfl rfl dX10_append_72 ?_
      refine r_callVv (rest := []) X K g h (ct_X10_takesBytes u22 p3 _ hw) lk_X10_153 0 rfl rfl ⟨rfl, rfl⟩ ⟨Nat.le_of_ble_eq_true rfl, Nat.le_of_ble_eq_true rfl⟩ rfl (lv_size hl) rfl (Nat.le_of_ble_eq_true rfl) dX10_append_73 ⟨Nat.le_of_ble_eq_true rfl, Nat.le_of_ble_eq_true rfl⟩ (fun w' H locs hp h => ?_)
      obtain ⟨u23, rfl, hw⟩ := hp
      refine z_aload_n X hl 1 rfl rfl dX10_append_76 ?_
      refine z_iload X hl 5 rfl dX10_append_77 ?_
      refine r_callVv (rest := []) X K g h (ct_X10_takesBytes u23 p4 _ hw) lk_X10_153 0 rfl rfl ⟨rfl, rfl⟩ ⟨Nat.le_of_ble_eq_true rfl, Nat.le_of_ble_eq_true rfl⟩ rfl (lv_size hl) rfl (Nat.le_of_ble_eq_true rfl) dX10_append_79 ⟨Nat.le_of_ble_eq_true rfl, Nat.le_of_ble_eq_true rfl⟩ (fun w' H locs hp h => ?_)
      obtain ⟨u24, rfl, hw⟩ := hp
      refine z_aload_n X hl 1 rfl rfl dX10_append_82 ?_
      refine z_iload X hl 6 rfl dX10_append_83 ?_
      refine r_callVv (rest := []) X K g h (ct_X10_takesBytes u24 p5 _ hw) lk_X10_153 0 rfl rfl ⟨rfl, rfl⟩ ⟨Nat.le_of_ble_eq_true rfl, Nat.le_of_ble_eq_true rfl⟩ rfl (lv_size hl) rfl (Nat.le_of_ble_eq_true rfl) dX10_append_85 ⟨Nat.le_of_ble_eq_true rfl, Nat.le_of_ble_eq_true rfl⟩ (fun w' H locs hp h => ?_)
      obtain ⟨u25, rfl, hw⟩ := hp
      refine z_aload_n X hl 1 rfl rfl dX10_append_88 ?_
      refine gM_X10_tapeMany (x := sI u25 6) X K h rfl q_1352 dX10_append_89 ?_
      exact r_iret X hr hlk K h (Nat.le_refl _) (Nat.le_refl _) dX10_append_92 ⟨_, rfl, hw⟩
    · replace hw := hw.2 c20
      refine z_iconst X dX10_append_59 ?_
      exact r_iret X hr hlk K h (Nat.le_refl _) (Nat.le_refl _) dX10_append_60 ⟨_, rfl, hw⟩
def w_X10_clearTape (post : Int → St → Prop) (u0 : St) : Prop :=
post (sI u0 6) (pI (pI u0 0 0) 6 0)
abbrev rm_X10_clearTape : Room := { frames := 0, cells := 0, slots := 0, locals := 0 }
set_option maxRecDepth 100000 in
set_option maxHeartbeats 4000000 in
theorem ct_X10_clearTape {l : Launch} {G : Gr} {a : Nat → Nat} (u0 : St) (post : Int → St → Prop) (hw : w_X10_clearTape post u0) : Ct l G yX10_clearTape (ws_ yX10_clearTape cX10_clearTape 2 (some .int)) rm_X10_clearTape [.ref (a 0)] (WM G a u0) 0 0 (Po (WM G a) post) := by
  refine Ct.of (by decide) (Nat.le_of_ble_eq_true rfl) ?_
  intro p e s m args below meth c ls X hr hlk K g h hl
  have hl : lv_has ls 2 [(0, .ref (a 0))] := hl
  obtain ⟨H, hH⟩ : ∃ H, H = s.heap := ⟨_, rfl⟩
  obtain ⟨locs, hL⟩ : ∃ L : List Loc, L = [] := ⟨_, rfl⟩
  replace h : HW G (va_A (WM G a u0) s.heap.size) s.heap (WM G a u0) H locs := by rw [hH, hL]; exact h
  suffices hg : W p l e rm_X10_clearTape s m args below meth c H locs 0 0 (EndI G (WM G a u0) (Po (WM G a) post) args s 0 0 below) (F0 m 0 ls []) by rw [hH, hL] at hg; exact hg
  clear hH hL
  refine z_aload_n X hl 0 rfl rfl dX10_clearTape_0 ?_
  refine z_iconst X dX10_clearTape_1 ?_
  refine pM_X10_thrown X K h q_1339 dX10_clearTape_2 (fun H locs h => ?_)
  refine z_aload_n X hl 0 rfl rfl dX10_clearTape_5 ?_
  refine gM_X10_tapeMany (x := sI u0 6) X K h rfl q_1352 dX10_clearTape_6 ?_
  refine z_istore_n (i := 1) (lv' := [(1, zI (sI u0 6)), (0, .ref (a 0))]) X hl rfl (by decide) dX10_clearTape_9 rfl (fun ls hl => ?_)
  refine z_aload_n X hl 1 rfl rfl dX10_clearTape_10 ?_
  refine z_iconst X dX10_clearTape_11 ?_
  refine pM_X10_tapeMany X K h q_1352 dX10_clearTape_12 (fun H locs h => ?_)
  refine z_iload_n X hl 0 rfl rfl dX10_clearTape_15 ?_
  exact r_iret X hr hlk K h (Nat.le_refl _) (Nat.le_refl _) dX10_clearTape_16 ⟨_, rfl, hw⟩
def w_X10_isLetter (post : Int → Prop) (p0 : Int) : Prop :=
(w_X10_in (fun (z1 : Int) => (z1 = 0 ∨ z1 = 1) ∧ post z1) p0 97 122)
abbrev rm_X10_isLetter : Room := { frames := 1, cells := 0, slots := 0, locals := 22 }
set_option maxRecDepth 100000 in
set_option maxHeartbeats 4000000 in
theorem ct_X10_isLetter {l : Launch} {G : Gr} {w : va_W} (p0 : Int) (post : Int → Prop) (hw : w_X10_isLetter post p0) : Ct l G yX10_isLetter (ws_ yX10_isLetter cX10_isLetter 1 (some .boolean)) rm_X10_isLetter [zI p0] w 0 0 (PoP w post) := by
  refine Ct.of (by decide) (Nat.le_of_ble_eq_true rfl) ?_
  intro p e s m args below meth c ls X hr hlk K g h hl
  have hl : lv_has ls 1 [(0, zI p0)] := hl
  obtain ⟨H, hH⟩ : ∃ H, H = s.heap := ⟨_, rfl⟩
  obtain ⟨locs, hL⟩ : ∃ L : List Loc, L = [] := ⟨_, rfl⟩
  replace h : HW G (va_A w s.heap.size) s.heap (w) H locs := by rw [hH, hL]; exact h
  suffices hg : W p l e rm_X10_isLetter s m args below meth c H locs 0 0 (EndI G w (PoP w post) args s 0 0 below) (F0 m 0 ls []) by rw [hH, hL] at hg; exact hg
  clear hH hL
  refine z_iload_n X hl 0 rfl rfl dX10_isLetter_0 ?_
  refine z_bipush (v := 97) X dX10_isLetter_1 (by decide) ?_
  refine z_bipush (v := 122) X dX10_isLetter_3 (by decide) ?_
  refine r_callSi (rest := []) X K g h (ct_X10_in (w := w) p0 97 122 _ hw) lk_X10_66 ⟨rfl, rfl⟩ ⟨Nat.le_of_ble_eq_true rfl, Nat.le_of_ble_eq_true rfl⟩ rfl (lv_size hl) rfl (Nat.le_of_ble_eq_true rfl) dX10_isLetter_5 ⟨Nat.le_of_ble_eq_true rfl, Nat.le_of_ble_eq_true rfl⟩ (fun z1 w' H locs hp h => ?_)
  obtain ⟨hww, hw⟩ := hp
  rw [hww] at h
  obtain ⟨h2, hw⟩ := hw
  exact r_zret X hr hlk K h (Nat.le_refl _) (Nat.le_refl _) dX10_isLetter_8 h2 ⟨rfl, hw⟩
def w_X10_isDigit (post : Int → Prop) (p0 : Int) : Prop :=
(w_X10_in (fun (z1 : Int) => (z1 = 0 ∨ z1 = 1) ∧ post z1) p0 48 57)
abbrev rm_X10_isDigit : Room := { frames := 1, cells := 0, slots := 0, locals := 22 }
set_option maxRecDepth 100000 in
set_option maxHeartbeats 4000000 in
theorem ct_X10_isDigit {l : Launch} {G : Gr} {w : va_W} (p0 : Int) (post : Int → Prop) (hw : w_X10_isDigit post p0) : Ct l G yX10_isDigit (ws_ yX10_isDigit cX10_isDigit 1 (some .boolean)) rm_X10_isDigit [zI p0] w 0 0 (PoP w post) := by
  refine Ct.of (by decide) (Nat.le_of_ble_eq_true rfl) ?_
  intro p e s m args below meth c ls X hr hlk K g h hl
  have hl : lv_has ls 1 [(0, zI p0)] := hl
  obtain ⟨H, hH⟩ : ∃ H, H = s.heap := ⟨_, rfl⟩
  obtain ⟨locs, hL⟩ : ∃ L : List Loc, L = [] := ⟨_, rfl⟩
  replace h : HW G (va_A w s.heap.size) s.heap (w) H locs := by rw [hH, hL]; exact h
  suffices hg : W p l e rm_X10_isDigit s m args below meth c H locs 0 0 (EndI G w (PoP w post) args s 0 0 below) (F0 m 0 ls []) by rw [hH, hL] at hg; exact hg
  clear hH hL
  refine z_iload_n X hl 0 rfl rfl dX10_isDigit_0 ?_
  refine z_bipush (v := 48) X dX10_isDigit_1 (by decide) ?_
  refine z_bipush (v := 57) X dX10_isDigit_3 (by decide) ?_
  refine r_callSi (rest := []) X K g h (ct_X10_in (w := w) p0 48 57 _ hw) lk_X10_66 ⟨rfl, rfl⟩ ⟨Nat.le_of_ble_eq_true rfl, Nat.le_of_ble_eq_true rfl⟩ rfl (lv_size hl) rfl (Nat.le_of_ble_eq_true rfl) dX10_isDigit_5 ⟨Nat.le_of_ble_eq_true rfl, Nat.le_of_ble_eq_true rfl⟩ (fun z1 w' H locs hp h => ?_)
  obtain ⟨hww, hw⟩ := hp
  rw [hww] at h
  obtain ⟨h2, hw⟩ := hw
  exact r_zret X hr hlk K h (Nat.le_refl _) (Nat.le_refl _) dX10_isDigit_8 h2 ⟨rfl, hw⟩
def w_X10_isBlank (post : Int → Prop) (p0 : Int) : Prop :=
(InR p0) ∧ ((p0 = 32 → post 1) ∧
 (¬ p0 = 32 → ((¬ p0 = 10 → post 0) ∧
 (p0 = 10 → post 1))))
abbrev rm_X10_isBlank : Room := { frames := 0, cells := 0, slots := 0, locals := 0 }
set_option maxRecDepth 100000 in
set_option maxHeartbeats 4000000 in
theorem ct_X10_isBlank {l : Launch} {G : Gr} {w : va_W} (p0 : Int) (post : Int → Prop) (hw : w_X10_isBlank post p0) : Ct l G yX10_isBlank (ws_ yX10_isBlank cX10_isBlank 1 (some .boolean)) rm_X10_isBlank [zI p0] w 0 0 (PoP w post) := by
  refine Ct.of (by decide) (Nat.le_of_ble_eq_true rfl) ?_
  intro p e s m args below meth c ls X hr hlk K g h hl
  have hl : lv_has ls 1 [(0, zI p0)] := hl
  obtain ⟨H, hH⟩ : ∃ H, H = s.heap := ⟨_, rfl⟩
  obtain ⟨locs, hL⟩ : ∃ L : List Loc, L = [] := ⟨_, rfl⟩
  replace h : HW G (va_A w s.heap.size) s.heap (w) H locs := by rw [hH, hL]; exact h
  suffices hg : W p l e rm_X10_isBlank s m args below meth c H locs 0 0 (EndI G w (PoP w post) args s 0 0 below) (F0 m 0 ls []) by rw [hH, hL] at hg; exact hg
  clear hH hL
  refine z_iload_n X hl 0 rfl rfl dX10_isBlank_0 ?_
  refine z_bipush (v := 32) X dX10_isBlank_1 (by decide) ?_
  obtain ⟨h1, hw⟩ := hw
  refine z_icmp_eq (tgt := 12) X h1 (by decide) dX10_isBlank_3 (by decide) (fun c2 => ?_) (fun c2 => ?_)
  · replace hw := hw.1 c2
    refine z_iconst X dX10_isBlank_12 ?_
    refine z_goto (tgt := 17) X dX10_isBlank_13 (by decide) ?_
    exact r_zret X hr hlk K h (Nat.le_refl _) (Nat.le_refl _) dX10_isBlank_17 (by decide) ⟨rfl, hw⟩
  · replace hw := hw.2 c2
    refine z_iload_n X hl 0 rfl rfl dX10_isBlank_6 ?_
    refine z_bipush (v := 10) X dX10_isBlank_7 (by decide) ?_
    refine z_icmp_ne (tgt := 16) X h1 (by decide) dX10_isBlank_9 (by decide) (fun c3 => ?_) (fun c3 => ?_)
    · replace hw := hw.1 c3
      refine z_iconst X dX10_isBlank_16 ?_
      exact r_zret X hr hlk K h (Nat.le_refl _) (Nat.le_refl _) dX10_isBlank_17 (by decide) ⟨rfl, hw⟩
    · replace hw := hw.2 c3
      refine z_iconst X dX10_isBlank_12 ?_
      refine z_goto (tgt := 17) X dX10_isBlank_13 (by decide) ?_
      exact r_zret X hr hlk K h (Nat.le_refl _) (Nat.le_refl _) dX10_isBlank_17 (by decide) ⟨rfl, hw⟩
def w_X10_isSign (post : Int → Prop) (p0 : Int) : Prop :=
(InR p0) ∧ ((p0 = 46 → post 1) ∧
 (¬ p0 = 46 → ((p0 = 44 → post 1) ∧
 (¬ p0 = 44 → ((p0 = 45 → post 1) ∧
 (¬ p0 = 45 → ((p0 = 37 → post 1) ∧
 (¬ p0 = 37 → ((p0 = 43 → post 1) ∧
 (¬ p0 = 43 → ((p0 = 61 → post 1) ∧
 (¬ p0 = 61 → ((p0 = 62 → post 1) ∧
 (¬ p0 = 62 → ((p0 = 60 → post 1) ∧
 (¬ p0 = 60 → ((p0 = 64 → post 1) ∧
 (¬ p0 = 64 → ((p0 = 42 → post 1) ∧
 (¬ p0 = 42 → ((p0 = 123 → post 1) ∧
 (¬ p0 = 123 → ((¬ p0 = 125 → post 0) ∧
 (p0 = 125 → post 1))))))))))))))))))))))))
abbrev rm_X10_isSign : Room := { frames := 0, cells := 0, slots := 0, locals := 0 }
set_option maxRecDepth 100000 in
set_option maxHeartbeats 4000000 in
theorem ct_X10_isSign {l : Launch} {G : Gr} {w : va_W} (p0 : Int) (post : Int → Prop) (hw : w_X10_isSign post p0) : Ct l G yX10_isSign (ws_ yX10_isSign cX10_isSign 1 (some .boolean)) rm_X10_isSign [zI p0] w 0 0 (PoP w post) := by
  refine Ct.of (by decide) (Nat.le_of_ble_eq_true rfl) ?_
  intro p e s m args below meth c ls X hr hlk K g h hl
  have hl : lv_has ls 1 [(0, zI p0)] := hl
  obtain ⟨H, hH⟩ : ∃ H, H = s.heap := ⟨_, rfl⟩
  obtain ⟨locs, hL⟩ : ∃ L : List Loc, L = [] := ⟨_, rfl⟩
  replace h : HW G (va_A w s.heap.size) s.heap (w) H locs := by rw [hH, hL]; exact h
  suffices hg : W p l e rm_X10_isSign s m args below meth c H locs 0 0 (EndI G w (PoP w post) args s 0 0 below) (F0 m 0 ls []) by rw [hH, hL] at hg; exact hg
  clear hH hL
  refine z_iload_n X hl 0 rfl rfl dX10_isSign_0 ?_
  refine z_bipush (v := 46) X dX10_isSign_1 (by decide) ?_
  obtain ⟨h1, hw⟩ := hw
  refine z_icmp_eq (tgt := 72) X h1 (by decide) dX10_isSign_3 (by decide) (fun c2 => ?_) (fun c2 => ?_)
  · replace hw := hw.1 c2
    refine z_iconst X dX10_isSign_72 ?_
    refine z_goto (tgt := 77) X dX10_isSign_73 (by decide) ?_
    exact r_zret X hr hlk K h (Nat.le_refl _) (Nat.le_refl _) dX10_isSign_77 (by decide) ⟨rfl, hw⟩
  · replace hw := hw.2 c2
    refine z_iload_n X hl 0 rfl rfl dX10_isSign_6 ?_
    refine z_bipush (v := 44) X dX10_isSign_7 (by decide) ?_
    refine z_icmp_eq (tgt := 72) X h1 (by decide) dX10_isSign_9 (by decide) (fun c3 => ?_) (fun c3 => ?_)
    · replace hw := hw.1 c3
      refine z_iconst X dX10_isSign_72 ?_
      refine z_goto (tgt := 77) X dX10_isSign_73 (by decide) ?_
      exact r_zret X hr hlk K h (Nat.le_refl _) (Nat.le_refl _) dX10_isSign_77 (by decide) ⟨rfl, hw⟩
    · replace hw := hw.2 c3
      refine z_iload_n X hl 0 rfl rfl dX10_isSign_12 ?_
      refine z_bipush (v := 45) X dX10_isSign_13 (by decide) ?_
      refine z_icmp_eq (tgt := 72) X h1 (by decide) dX10_isSign_15 (by decide) (fun c4 => ?_) (fun c4 => ?_)
      · replace hw := hw.1 c4
        refine z_iconst X dX10_isSign_72 ?_
        refine z_goto (tgt := 77) X dX10_isSign_73 (by decide) ?_
        exact r_zret X hr hlk K h (Nat.le_refl _) (Nat.le_refl _) dX10_isSign_77 (by decide) ⟨rfl, hw⟩
      · replace hw := hw.2 c4
        refine z_iload_n X hl 0 rfl rfl dX10_isSign_18 ?_
        refine z_bipush (v := 37) X dX10_isSign_19 (by decide) ?_
        refine z_icmp_eq (tgt := 72) X h1 (by decide) dX10_isSign_21 (by decide) (fun c5 => ?_) (fun c5 => ?_)
        · replace hw := hw.1 c5
          refine z_iconst X dX10_isSign_72 ?_
          refine z_goto (tgt := 77) X dX10_isSign_73 (by decide) ?_
          exact r_zret X hr hlk K h (Nat.le_refl _) (Nat.le_refl _) dX10_isSign_77 (by decide) ⟨rfl, hw⟩
        · replace hw := hw.2 c5
          refine z_iload_n X hl 0 rfl rfl dX10_isSign_24 ?_
          refine z_bipush (v := 43) X dX10_isSign_25 (by decide) ?_
          refine z_icmp_eq (tgt := 72) X h1 (by decide) dX10_isSign_27 (by decide) (fun c6 => ?_) (fun c6 => ?_)
          · replace hw := hw.1 c6
            refine z_iconst X dX10_isSign_72 ?_
            refine z_goto (tgt := 77) X dX10_isSign_73 (by decide) ?_
            exact r_zret X hr hlk K h (Nat.le_refl _) (Nat.le_refl _) dX10_isSign_77 (by decide) ⟨rfl, hw⟩
          · replace hw := hw.2 c6
            refine z_iload_n X hl 0 rfl rfl dX10_isSign_30 ?_
            refine z_bipush (v := 61) X dX10_isSign_31 (by decide) ?_
            refine z_icmp_eq (tgt := 72) X h1 (by decide) dX10_isSign_33 (by decide) (fun c7 => ?_) (fun c7 => ?_)
            · replace hw := hw.1 c7
              refine z_iconst X dX10_isSign_72 ?_
              refine z_goto (tgt := 77) X dX10_isSign_73 (by decide) ?_
              exact r_zret X hr hlk K h (Nat.le_refl _) (Nat.le_refl _) dX10_isSign_77 (by decide) ⟨rfl, hw⟩
            · replace hw := hw.2 c7
              refine z_iload_n X hl 0 rfl rfl dX10_isSign_36 ?_
              refine z_bipush (v := 62) X dX10_isSign_37 (by decide) ?_
              refine z_icmp_eq (tgt := 72) X h1 (by decide) dX10_isSign_39 (by decide) (fun c8 => ?_) (fun c8 => ?_)
              · replace hw := hw.1 c8
                refine z_iconst X dX10_isSign_72 ?_
                refine z_goto (tgt := 77) X dX10_isSign_73 (by decide) ?_
                exact r_zret X hr hlk K h (Nat.le_refl _) (Nat.le_refl _) dX10_isSign_77 (by decide) ⟨rfl, hw⟩
              · replace hw := hw.2 c8
                refine z_iload_n X hl 0 rfl rfl dX10_isSign_42 ?_
                refine z_bipush (v := 60) X dX10_isSign_43 (by decide) ?_
                refine z_icmp_eq (tgt := 72) X h1 (by decide) dX10_isSign_45 (by decide) (fun c9 => ?_) (fun c9 => ?_)
                · replace hw := hw.1 c9
                  refine z_iconst X dX10_isSign_72 ?_
                  refine z_goto (tgt := 77) X dX10_isSign_73 (by decide) ?_
                  exact r_zret X hr hlk K h (Nat.le_refl _) (Nat.le_refl _) dX10_isSign_77 (by decide) ⟨rfl, hw⟩
                · replace hw := hw.2 c9
                  refine z_iload_n X hl 0 rfl rfl dX10_isSign_48 ?_
                  refine z_bipush (v := 64) X dX10_isSign_49 (by decide) ?_
                  refine z_icmp_eq (tgt := 72) X h1 (by decide) dX10_isSign_51 (by decide) (fun c10 => ?_) (fun c10 => ?_)
                  · replace hw := hw.1 c10
                    refine z_iconst X dX10_isSign_72 ?_
                    refine z_goto (tgt := 77) X dX10_isSign_73 (by decide) ?_
                    exact r_zret X hr hlk K h (Nat.le_refl _) (Nat.le_refl _) dX10_isSign_77 (by decide) ⟨rfl, hw⟩
                  · replace hw := hw.2 c10
                    refine z_iload_n X hl 0 rfl rfl dX10_isSign_54 ?_
                    refine z_bipush (v := 42) X dX10_isSign_55 (by decide) ?_
                    refine z_icmp_eq (tgt := 72) X h1 (by decide) dX10_isSign_57 (by decide) (fun c11 => ?_) (fun c11 => ?_)
                    · replace hw := hw.1 c11
                      refine z_iconst X dX10_isSign_72 ?_
                      refine z_goto (tgt := 77) X dX10_isSign_73 (by decide) ?_
                      exact r_zret X hr hlk K h (Nat.le_refl _) (Nat.le_refl _) dX10_isSign_77 (by decide) ⟨rfl, hw⟩
                    · replace hw := hw.2 c11
                      refine z_iload_n X hl 0 rfl rfl dX10_isSign_60 ?_
                      refine z_bipush (v := 123) X dX10_isSign_61 (by decide) ?_
                      refine z_icmp_eq (tgt := 72) X h1 (by decide) dX10_isSign_63 (by decide) (fun c12 => ?_) (fun c12 => ?_)
                      · replace hw := hw.1 c12
                        refine z_iconst X dX10_isSign_72 ?_
                        refine z_goto (tgt := 77) X dX10_isSign_73 (by decide) ?_
                        exact r_zret X hr hlk K h (Nat.le_refl _) (Nat.le_refl _) dX10_isSign_77 (by decide) ⟨rfl, hw⟩
                      · replace hw := hw.2 c12
                        refine z_iload_n X hl 0 rfl rfl dX10_isSign_66 ?_
                        refine z_bipush (v := 125) X dX10_isSign_67 (by decide) ?_
                        refine z_icmp_ne (tgt := 76) X h1 (by decide) dX10_isSign_69 (by decide) (fun c13 => ?_) (fun c13 => ?_)
                        · replace hw := hw.1 c13
                          refine z_iconst X dX10_isSign_76 ?_
                          exact r_zret X hr hlk K h (Nat.le_refl _) (Nat.le_refl _) dX10_isSign_77 (by decide) ⟨rfl, hw⟩
                        · replace hw := hw.2 c13
                          refine z_iconst X dX10_isSign_72 ?_
                          refine z_goto (tgt := 77) X dX10_isSign_73 (by decide) ?_
                          exact r_zret X hr hlk K h (Nat.le_refl _) (Nat.le_refl _) dX10_isSign_77 (by decide) ⟨rfl, hw⟩
def b_X10_readsWord_7 (post : St → Prop) (K7 : St × Int → Prop) (u1 : St) (x1_2 : Int) : Prop :=
(InR (sI u1 10)) ∧ (InR (sI u1 6)) ∧ ((sI u1 6 ≤ sI u1 10 → (InR x1_2) ∧ ((6 < x1_2 → post (pI u1 7 4)) ∧
 (¬ 6 < x1_2 → post (pI u1 7 3)))) ∧
 (¬ sI u1 6 ≤ sI u1 10 → (0 ≤ sI u1 10) ∧ (sI u1 10 < 300) ∧ (w_X10_isLetter (fun (z10 : Int) => (InR z10) ∧ ((z10 = 0 → (InR x1_2) ∧ ((6 < x1_2 → post (pI u1 7 4)) ∧
 (¬ 6 < x1_2 → post (pI u1 7 3)))) ∧
 (¬ z10 = 0 → (InR x1_2) ∧ ((6 ≤ x1_2 → K7 ((pI u1 10 ((sI u1 10) + 1)), x1_2 + 1)) ∧
 (¬ 6 ≤ x1_2 → K7 ((pI (pI u1 9 ((((27 * (sI u1 9)) + (sA u1 6 (sI u1 10))) - 97) + 1)) 10 ((sI u1 10) + 1)), x1_2 + 1)))))) (sA u1 6 (sI u1 10)))))
def B_X10_readsWord_7 (post : St → Prop) : (St × Int → Prop) → St × Int → Prop := fun K t => b_X10_readsWord_7 post K t.1 t.2
def w_X10_readsWord (post : St → Prop) (u0 : St) : Prop :=
(∃ n : Nat, Lp (B_X10_readsWord_7 post) n ((pI u0 9 0), 0))
abbrev rm_X10_readsWord : Room := { frames := 2, cells := 0, slots := 0, locals := 42 }
set_option maxRecDepth 100000 in
set_option maxHeartbeats 4000000 in
theorem ct_X10_readsWord {l : Launch} {G : Gr} {a : Nat → Nat} (u0 : St) (post : St → Prop) (hw : w_X10_readsWord post u0) : CtV l G yX10_readsWord (ws_ yX10_readsWord cX10_readsWord 2 (none)) rm_X10_readsWord [.ref (a 0)] (WM G a u0) 0 0 (PoV (WM G a) post) := by
  refine CtV.of (by decide) (Nat.le_of_ble_eq_true rfl) ?_
  intro p e s m args below meth c ls X hr hlk K g h hl
  have hl : lv_has ls 2 [(0, .ref (a 0))] := hl
  obtain ⟨H, hH⟩ : ∃ H, H = s.heap := ⟨_, rfl⟩
  obtain ⟨locs, hL⟩ : ∃ L : List Loc, L = [] := ⟨_, rfl⟩
  replace h : HW G (va_A (WM G a u0) s.heap.size) s.heap (WM G a u0) H locs := by rw [hH, hL]; exact h
  suffices hg : W p l e rm_X10_readsWord s m args below meth c H locs 0 0 (EndV G (WM G a u0) (PoV (WM G a) post) args s 0 0 below) (F0 m 0 ls []) by rw [hH, hL] at hg; exact hg
  clear hH hL
  refine z_aload_n X hl 0 rfl rfl dX10_readsWord_0 ?_
  refine z_iconst X dX10_readsWord_1 ?_
  refine pM_X10_value X K h q_1355 dX10_readsWord_2 (fun H locs h => ?_)
  refine z_iconst X dX10_readsWord_5 ?_
  refine z_istore_n (i := 1) (lv' := [(1, zI 0), (0, .ref (a 0))]) X hl rfl (by decide) dX10_readsWord_6 rfl (fun ls hl => ?_)
  obtain ⟨n7, hw⟩ := hw
  have key7 : ∀ (n : Nat) (t : St × Int) (H : Heap) (locs : List Loc) (ls : Array Slot), Lp (B_X10_readsWord_7 post) n t → HW G (va_A (WM G a u0) s.heap.size) s.heap (WM G a t.1) H locs → lv_has ls 2 [(0, .ref (a 0)), (1, zI t.2)] → W p l e rm_X10_readsWord s m args below meth c H locs 0 0 (EndV G (WM G a u0) (PoV (WM G a) post) args s 0 0 below) (F0 m 7 ls []) := by
    intro n
    induction n with
    | zero =>
      intro t H locs ls hw
      exact hw.elim
    | succ n7 ih7 =>
      rintro ⟨u1, x1_2⟩ H locs ls hw h hl
      replace hw : b_X10_readsWord_7 post (Lp (B_X10_readsWord_7 post) n7) u1 x1_2 := hw
      refine z_aload_n X hl 0 rfl rfl dX10_readsWord_7 ?_
      refine gM_X10_at (x := sI u1 10) X K h rfl q_1356 dX10_readsWord_8 ?_
      refine z_aload_n X hl 0 rfl rfl dX10_readsWord_11 ?_
      refine gM_X10_tapeMany (x := sI u1 6) X K h rfl q_1352 dX10_readsWord_12 ?_
      obtain ⟨h3, h4, hw⟩ := hw
      refine z_icmp_ge (tgt := 81) X h3 h4 dX10_readsWord_15 (by decide) (fun c5 => ?_) (fun c5 => ?_)
      · replace hw := hw.1 c5
        refine z_aload_n X hl 0 rfl rfl dX10_readsWord_81 ?_
        refine z_iload_n X hl 1 rfl rfl dX10_readsWord_82 ?_
        refine z_bipush (v := 6) X dX10_readsWord_83 (by decide) ?_
        obtain ⟨h6, hw⟩ := hw
        refine z_icmp_gt (tgt := 92) X h6 (by decide) dX10_readsWord_85 (by decide) (fun c7 => ?_) (fun c7 => ?_)
        · replace hw := hw.1 c7
          refine z_iconst X dX10_readsWord_92 ?_
          refine pM_X10_token X K h q_1353 dX10_readsWord_93 (fun H locs h => ?_)
          exact r_vret X hr hlk K h (Nat.le_refl _) (Nat.le_refl _) dX10_readsWord_96 ⟨_, rfl, hw⟩
        · replace hw := hw.2 c7
          refine z_iconst X dX10_readsWord_88 ?_
          refine z_goto (tgt := 93) X dX10_readsWord_89 (by decide) ?_
          refine pM_X10_token X K h q_1353 dX10_readsWord_93 (fun H locs h => ?_)
          exact r_vret X hr hlk K h (Nat.le_refl _) (Nat.le_refl _) dX10_readsWord_96 ⟨_, rfl, hw⟩
      · replace hw := hw.2 c5
        refine z_aload_n X hl 0 rfl rfl dX10_readsWord_18 ?_
        refine gM_X10_tape X K h q_1351 dX10_readsWord_19 ?_
        refine z_aload_n X hl 0 rfl rfl dX10_readsWord_22 ?_
        refine gM_X10_at (x := sI u1 10) X K h rfl q_1356 dX10_readsWord_23 ?_
        obtain ⟨h8, h9, hw⟩ := hw
        refine lM_6 (x := sA u1 6 (sI u1 10)) X K h h8 h9 rfl dX10_readsWord_26 ?_
        refine r_callSi (rest := []) X K g h (ct_X10_isLetter (w := WM G a u1) (sA u1 6 (sI u1 10)) _ hw) lk_X10_162 ⟨rfl, rfl⟩ ⟨Nat.le_of_ble_eq_true rfl, Nat.le_of_ble_eq_true rfl⟩ rfl (lv_size hl) rfl (Nat.le_of_ble_eq_true rfl) dX10_readsWord_27 ⟨Nat.le_of_ble_eq_true rfl, Nat.le_of_ble_eq_true rfl⟩ (fun z10 w' H locs hp h => ?_)
        obtain ⟨rfl, hw⟩ := hp
        obtain ⟨h11, hw⟩ := hw
        refine z_if_eq (tgt := 81) X h11 dX10_readsWord_30 (by decide) (fun c12 => ?_) (fun c12 => ?_)
        · replace hw := hw.1 c12
          refine z_aload_n X hl 0 rfl rfl dX10_readsWord_81 ?_
          refine z_iload_n X hl 1 rfl rfl dX10_readsWord_82 ?_
          refine z_bipush (v := 6) X dX10_readsWord_83 (by decide) ?_
          obtain ⟨h13, hw⟩ := hw
          refine z_icmp_gt (tgt := 92) X h13 (by decide) dX10_readsWord_85 (by decide) (fun c14 => ?_) (fun c14 => ?_)
          · replace hw := hw.1 c14
            refine z_iconst X dX10_readsWord_92 ?_
            refine pM_X10_token X K h q_1353 dX10_readsWord_93 (fun H locs h => ?_)
            exact r_vret X hr hlk K h (Nat.le_refl _) (Nat.le_refl _) dX10_readsWord_96 ⟨_, rfl, hw⟩
          · replace hw := hw.2 c14
            refine z_iconst X dX10_readsWord_88 ?_
            refine z_goto (tgt := 93) X dX10_readsWord_89 (by decide) ?_
            refine pM_X10_token X K h q_1353 dX10_readsWord_93 (fun H locs h => ?_)
            exact r_vret X hr hlk K h (Nat.le_refl _) (Nat.le_refl _) dX10_readsWord_96 ⟨_, rfl, hw⟩
        · replace hw := hw.2 c12
          refine z_iload_n X hl 1 rfl rfl dX10_readsWord_33 ?_
          refine z_bipush (v := 6) X dX10_readsWord_34 (by decide) ?_
          obtain ⟨h15, hw⟩ := hw
          refine z_icmp_ge (tgt := 65) X h15 (by decide) dX10_readsWord_36 (by decide) (fun c16 => ?_) (fun c16 => ?_)
          · replace hw := hw.1 c16
            refine z_iinc (lv' := [(1, zI (x1_2 + 1)), (0, .ref (a 0))]) X hl 1 rfl (by decide) dX10_readsWord_65 rfl (fun ls hl => ?_)
            refine z_aload_n X hl 1 rfl rfl dX10_readsWord_68 ?_
            refine z_dup X rfl dX10_readsWord_69 ?_
            refine gM_X10_at (x := sI u1 10) X K h rfl q_1356 dX10_readsWord_70 ?_
            refine z_iconst X dX10_readsWord_73 ?_
            refine z_iadd X dX10_readsWord_74 ?_
            refine pM_X10_at X K h q_1356 dX10_readsWord_75 (fun H locs h => ?_)
            refine z_goto (tgt := 7) X dX10_readsWord_78 (by decide) ?_
            exact ih7 ((pI u1 10 ((sI u1 10) + 1)), x1_2 + 1) H locs ls hw h (lv_sub hl [1, 0] rfl)
          · replace hw := hw.2 c16
            refine z_aload_n X hl 0 rfl rfl dX10_readsWord_39 ?_
            refine z_bipush (v := 27) X dX10_readsWord_40 (by decide) ?_
            refine z_aload_n X hl 0 rfl rfl dX10_readsWord_42 ?_
            refine gM_X10_value (x := sI u1 9) X K h rfl q_1355 dX10_readsWord_43 ?_
            refine z_imul X dX10_readsWord_46 ?_
            refine z_aload_n X hl 0 rfl rfl dX10_readsWord_47 ?_
            refine gM_X10_tape X K h q_1351 dX10_readsWord_48 ?_
            refine z_aload_n X hl 0 rfl rfl dX10_readsWord_51 ?_
            refine gM_X10_at (x := sI u1 10) X K h rfl q_1356 dX10_readsWord_52 ?_
            refine lM_6 (x := sA u1 6 (sI u1 10)) X K h h8 h9 rfl dX10_readsWord_55 ?_
            refine z_iadd X dX10_readsWord_56 ?_
            refine z_bipush (v := 97) X dX10_readsWord_57 (by decide) ?_
            refine z_isub X dX10_readsWord_59 ?_
            refine z_iconst X dX10_readsWord_60 ?_
            refine z_iadd X dX10_readsWord_61 ?_
            refine pM_X10_value X K h q_1355 dX10_readsWord_62 (fun H locs h => ?_)
            refine z_iinc (lv' := [(1, zI (x1_2 + 1)), (0, .ref (a 0))]) X hl 1 rfl (by decide) dX10_readsWord_65 rfl (fun ls hl => ?_)
            refine z_aload_n X hl 1 rfl rfl dX10_readsWord_68 ?_
            refine z_dup X rfl dX10_readsWord_69 ?_
            refine gM_X10_at (x := sI u1 10) X K h rfl q_1356 dX10_readsWord_70 ?_
            refine z_iconst X dX10_readsWord_73 ?_
            refine z_iadd X dX10_readsWord_74 ?_
            refine pM_X10_at X K h q_1356 dX10_readsWord_75 (fun H locs h => ?_)
            refine z_goto (tgt := 7) X dX10_readsWord_78 (by decide) ?_
            exact ih7 ((pI (pI u1 9 ((((27 * (sI u1 9)) + (sA u1 6 (sI u1 10))) - 97) + 1)) 10 ((sI u1 10) + 1)), x1_2 + 1) H locs ls hw h (lv_sub hl [1, 0] rfl)
  exact key7 n7 ((pI u0 9 0), 0) H locs ls hw h (lv_sub hl [1, 0] rfl)
def b_X10_readsNumber_7 (post : St → Prop) (K7 : St × Int → Prop) (u1 : St) (x1_2 : Int) : Prop :=
(InR (sI u1 10)) ∧ (InR (sI u1 6)) ∧ ((sI u1 6 ≤ sI u1 10 → (InR x1_2) ∧ ((3 < x1_2 → post (pI u1 7 4)) ∧
 (¬ 3 < x1_2 → post (pI u1 7 2)))) ∧
 (¬ sI u1 6 ≤ sI u1 10 → (0 ≤ sI u1 10) ∧ (sI u1 10 < 300) ∧ (w_X10_isDigit (fun (z10 : Int) => (InR z10) ∧ ((z10 = 0 → (InR x1_2) ∧ ((3 < x1_2 → post (pI u1 7 4)) ∧
 (¬ 3 < x1_2 → post (pI u1 7 2)))) ∧
 (¬ z10 = 0 → (InR x1_2) ∧ ((3 ≤ x1_2 → K7 ((pI u1 10 ((sI u1 10) + 1)), x1_2 + 1)) ∧
 (¬ 3 ≤ x1_2 → K7 ((pI (pI u1 9 (((10 * (sI u1 9)) + (sA u1 6 (sI u1 10))) - 48)) 10 ((sI u1 10) + 1)), x1_2 + 1)))))) (sA u1 6 (sI u1 10)))))
def B_X10_readsNumber_7 (post : St → Prop) : (St × Int → Prop) → St × Int → Prop := fun K t => b_X10_readsNumber_7 post K t.1 t.2
def w_X10_readsNumber (post : St → Prop) (u0 : St) : Prop :=
(∃ n : Nat, Lp (B_X10_readsNumber_7 post) n ((pI u0 9 0), 0))
abbrev rm_X10_readsNumber : Room := { frames := 2, cells := 0, slots := 0, locals := 42 }
set_option maxRecDepth 100000 in
set_option maxHeartbeats 4000000 in
theorem ct_X10_readsNumber {l : Launch} {G : Gr} {a : Nat → Nat} (u0 : St) (post : St → Prop) (hw : w_X10_readsNumber post u0) : CtV l G yX10_readsNumber (ws_ yX10_readsNumber cX10_readsNumber 2 (none)) rm_X10_readsNumber [.ref (a 0)] (WM G a u0) 0 0 (PoV (WM G a) post) := by
  refine CtV.of (by decide) (Nat.le_of_ble_eq_true rfl) ?_
  intro p e s m args below meth c ls X hr hlk K g h hl
  have hl : lv_has ls 2 [(0, .ref (a 0))] := hl
  obtain ⟨H, hH⟩ : ∃ H, H = s.heap := ⟨_, rfl⟩
  obtain ⟨locs, hL⟩ : ∃ L : List Loc, L = [] := ⟨_, rfl⟩
  replace h : HW G (va_A (WM G a u0) s.heap.size) s.heap (WM G a u0) H locs := by rw [hH, hL]; exact h
  suffices hg : W p l e rm_X10_readsNumber s m args below meth c H locs 0 0 (EndV G (WM G a u0) (PoV (WM G a) post) args s 0 0 below) (F0 m 0 ls []) by rw [hH, hL] at hg; exact hg
  clear hH hL
  refine z_aload_n X hl 0 rfl rfl dX10_readsNumber_0 ?_
  refine z_iconst X dX10_readsNumber_1 ?_
  refine pM_X10_value X K h q_1355 dX10_readsNumber_2 (fun H locs h => ?_)
  refine z_iconst X dX10_readsNumber_5 ?_
  refine z_istore_n (i := 1) (lv' := [(1, zI 0), (0, .ref (a 0))]) X hl rfl (by decide) dX10_readsNumber_6 rfl (fun ls hl => ?_)
  obtain ⟨n7, hw⟩ := hw
  have key7 : ∀ (n : Nat) (t : St × Int) (H : Heap) (locs : List Loc) (ls : Array Slot), Lp (B_X10_readsNumber_7 post) n t → HW G (va_A (WM G a u0) s.heap.size) s.heap (WM G a t.1) H locs → lv_has ls 2 [(0, .ref (a 0)), (1, zI t.2)] → W p l e rm_X10_readsNumber s m args below meth c H locs 0 0 (EndV G (WM G a u0) (PoV (WM G a) post) args s 0 0 below) (F0 m 7 ls []) := by
    intro n
    induction n with
    | zero =>
      intro t H locs ls hw
      exact hw.elim
    | succ n7 ih7 =>
      rintro ⟨u1, x1_2⟩ H locs ls hw h hl
      replace hw : b_X10_readsNumber_7 post (Lp (B_X10_readsNumber_7 post) n7) u1 x1_2 := hw
      refine z_aload_n X hl 0 rfl rfl dX10_readsNumber_7 ?_
      refine gM_X10_at (x := sI u1 10) X K h rfl q_1356 dX10_readsNumber_8 ?_
      refine z_aload_n X hl 0 rfl rfl dX10_readsNumber_11 ?_
      refine gM_X10_tapeMany (x := sI u1 6) X K h rfl q_1352 dX10_readsNumber_12 ?_
      obtain ⟨h3, h4, hw⟩ := hw
      refine z_icmp_ge (tgt := 78) X h3 h4 dX10_readsNumber_15 (by decide) (fun c5 => ?_) (fun c5 => ?_)
      · replace hw := hw.1 c5
        refine z_aload_n X hl 0 rfl rfl dX10_readsNumber_78 ?_
        refine z_iload_n X hl 1 rfl rfl dX10_readsNumber_79 ?_
        refine z_iconst X dX10_readsNumber_80 ?_
        obtain ⟨h6, hw⟩ := hw
        refine z_icmp_gt (tgt := 88) X h6 (by decide) dX10_readsNumber_81 (by decide) (fun c7 => ?_) (fun c7 => ?_)
        · replace hw := hw.1 c7
          refine z_iconst X dX10_readsNumber_88 ?_
          refine pM_X10_token X K h q_1353 dX10_readsNumber_89 (fun H locs h => ?_)
          exact r_vret X hr hlk K h (Nat.le_refl _) (Nat.le_refl _) dX10_readsNumber_92 ⟨_, rfl, hw⟩
        · replace hw := hw.2 c7
          refine z_iconst X dX10_readsNumber_84 ?_
          refine z_goto (tgt := 89) X dX10_readsNumber_85 (by decide) ?_
          refine pM_X10_token X K h q_1353 dX10_readsNumber_89 (fun H locs h => ?_)
          exact r_vret X hr hlk K h (Nat.le_refl _) (Nat.le_refl _) dX10_readsNumber_92 ⟨_, rfl, hw⟩
      · replace hw := hw.2 c5
        refine z_aload_n X hl 0 rfl rfl dX10_readsNumber_18 ?_
        refine gM_X10_tape X K h q_1351 dX10_readsNumber_19 ?_
        refine z_aload_n X hl 0 rfl rfl dX10_readsNumber_22 ?_
        refine gM_X10_at (x := sI u1 10) X K h rfl q_1356 dX10_readsNumber_23 ?_
        obtain ⟨h8, h9, hw⟩ := hw
        refine lM_6 (x := sA u1 6 (sI u1 10)) X K h h8 h9 rfl dX10_readsNumber_26 ?_
        refine r_callSi (rest := []) X K g h (ct_X10_isDigit (w := WM G a u1) (sA u1 6 (sI u1 10)) _ hw) lk_X10_168 ⟨rfl, rfl⟩ ⟨Nat.le_of_ble_eq_true rfl, Nat.le_of_ble_eq_true rfl⟩ rfl (lv_size hl) rfl (Nat.le_of_ble_eq_true rfl) dX10_readsNumber_27 ⟨Nat.le_of_ble_eq_true rfl, Nat.le_of_ble_eq_true rfl⟩ (fun z10 w' H locs hp h => ?_)
        obtain ⟨rfl, hw⟩ := hp
        obtain ⟨h11, hw⟩ := hw
        refine z_if_eq (tgt := 78) X h11 dX10_readsNumber_30 (by decide) (fun c12 => ?_) (fun c12 => ?_)
        · replace hw := hw.1 c12
          refine z_aload_n X hl 0 rfl rfl dX10_readsNumber_78 ?_
          refine z_iload_n X hl 1 rfl rfl dX10_readsNumber_79 ?_
          refine z_iconst X dX10_readsNumber_80 ?_
          obtain ⟨h13, hw⟩ := hw
          refine z_icmp_gt (tgt := 88) X h13 (by decide) dX10_readsNumber_81 (by decide) (fun c14 => ?_) (fun c14 => ?_)
          · replace hw := hw.1 c14
            refine z_iconst X dX10_readsNumber_88 ?_
            refine pM_X10_token X K h q_1353 dX10_readsNumber_89 (fun H locs h => ?_)
            exact r_vret X hr hlk K h (Nat.le_refl _) (Nat.le_refl _) dX10_readsNumber_92 ⟨_, rfl, hw⟩
          · replace hw := hw.2 c14
            refine z_iconst X dX10_readsNumber_84 ?_
            refine z_goto (tgt := 89) X dX10_readsNumber_85 (by decide) ?_
            refine pM_X10_token X K h q_1353 dX10_readsNumber_89 (fun H locs h => ?_)
            exact r_vret X hr hlk K h (Nat.le_refl _) (Nat.le_refl _) dX10_readsNumber_92 ⟨_, rfl, hw⟩
        · replace hw := hw.2 c12
          refine z_iload_n X hl 1 rfl rfl dX10_readsNumber_33 ?_
          refine z_iconst X dX10_readsNumber_34 ?_
          obtain ⟨h15, hw⟩ := hw
          refine z_icmp_ge (tgt := 62) X h15 (by decide) dX10_readsNumber_35 (by decide) (fun c16 => ?_) (fun c16 => ?_)
          · replace hw := hw.1 c16
            refine z_iinc (lv' := [(1, zI (x1_2 + 1)), (0, .ref (a 0))]) X hl 1 rfl (by decide) dX10_readsNumber_62 rfl (fun ls hl => ?_)
            refine z_aload_n X hl 1 rfl rfl dX10_readsNumber_65 ?_
            refine z_dup X rfl dX10_readsNumber_66 ?_
            refine gM_X10_at (x := sI u1 10) X K h rfl q_1356 dX10_readsNumber_67 ?_
            refine z_iconst X dX10_readsNumber_70 ?_
            refine z_iadd X dX10_readsNumber_71 ?_
            refine pM_X10_at X K h q_1356 dX10_readsNumber_72 (fun H locs h => ?_)
            refine z_goto (tgt := 7) X dX10_readsNumber_75 (by decide) ?_
            exact ih7 ((pI u1 10 ((sI u1 10) + 1)), x1_2 + 1) H locs ls hw h (lv_sub hl [1, 0] rfl)
          · replace hw := hw.2 c16
            refine z_aload_n X hl 0 rfl rfl dX10_readsNumber_38 ?_
            refine z_bipush (v := 10) X dX10_readsNumber_39 (by decide) ?_
            refine z_aload_n X hl 0 rfl rfl dX10_readsNumber_41 ?_
            refine gM_X10_value (x := sI u1 9) X K h rfl q_1355 dX10_readsNumber_42 ?_
            refine z_imul X dX10_readsNumber_45 ?_
            refine z_aload_n X hl 0 rfl rfl dX10_readsNumber_46 ?_
            refine gM_X10_tape X K h q_1351 dX10_readsNumber_47 ?_
            refine z_aload_n X hl 0 rfl rfl dX10_readsNumber_50 ?_
            refine gM_X10_at (x := sI u1 10) X K h rfl q_1356 dX10_readsNumber_51 ?_
            refine lM_6 (x := sA u1 6 (sI u1 10)) X K h h8 h9 rfl dX10_readsNumber_54 ?_
            refine z_iadd X dX10_readsNumber_55 ?_
            refine z_bipush (v := 48) X dX10_readsNumber_56 (by decide) ?_
            refine z_isub X dX10_readsNumber_58 ?_
            refine pM_X10_value X K h q_1355 dX10_readsNumber_59 (fun H locs h => ?_)
            refine z_iinc (lv' := [(1, zI (x1_2 + 1)), (0, .ref (a 0))]) X hl 1 rfl (by decide) dX10_readsNumber_62 rfl (fun ls hl => ?_)
            refine z_aload_n X hl 1 rfl rfl dX10_readsNumber_65 ?_
            refine z_dup X rfl dX10_readsNumber_66 ?_
            refine gM_X10_at (x := sI u1 10) X K h rfl q_1356 dX10_readsNumber_67 ?_
            refine z_iconst X dX10_readsNumber_70 ?_
            refine z_iadd X dX10_readsNumber_71 ?_
            refine pM_X10_at X K h q_1356 dX10_readsNumber_72 (fun H locs h => ?_)
            refine z_goto (tgt := 7) X dX10_readsNumber_75 (by decide) ?_
            exact ih7 ((pI (pI u1 9 (((10 * (sI u1 9)) + (sA u1 6 (sI u1 10))) - 48)) 10 ((sI u1 10) + 1)), x1_2 + 1) H locs ls hw h (lv_sub hl [1, 0] rfl)
  exact key7 n7 ((pI u0 9 0), 0) H locs ls hw h (lv_sub hl [1, 0] rfl)
def b_X10_reads_0 (post : St → Prop) (K0 : St → Prop) (u1 : St) : Prop :=
(InR (sI u1 10)) ∧ (InR (sI u1 6)) ∧ ((sI u1 6 ≤ sI u1 10 → ((¬ sI u1 10 = sI u1 6 → (0 ≤ sI u1 10) ∧ (sI u1 10 < 300) ∧ (w_X10_isLetter (fun (z8 : Int) => (InR z8) ∧ ((z8 = 0 → (w_X10_isDigit (fun (z11 : Int) => (InR z11) ∧ ((z11 = 0 → (w_X10_isSign (fun (z14 : Int) => (InR z14) ∧ ((z14 = 0 → post (pI (pI (pI (pI (pI u1 8 (sI u1 10)) 7 0) 9 (sA u1 6 (sI u1 10))) 7 4) 10 ((sI u1 10) + 1))) ∧
 (¬ z14 = 0 → post (pI (pI (pI (pI (pI u1 8 (sI u1 10)) 7 0) 9 (sA u1 6 (sI u1 10))) 7 1) 10 ((sI u1 10) + 1))))) (sA u1 6 (sI u1 10)))) ∧
 (¬ z11 = 0 → (w_X10_readsNumber (fun  (u17 : St) => post u17) (pI (pI u1 8 (sI u1 10)) 7 0))))) (sA u1 6 (sI u1 10)))) ∧
 (¬ z8 = 0 → (w_X10_readsWord (fun  (u18 : St) => post u18) (pI (pI u1 8 (sI u1 10)) 7 0))))) (sA u1 6 (sI u1 10)))) ∧
 (sI u1 10 = sI u1 6 → post (pI (pI u1 8 (sI u1 10)) 7 0)))) ∧
 (¬ sI u1 6 ≤ sI u1 10 → (0 ≤ sI u1 10) ∧ (sI u1 10 < 300) ∧ (w_X10_isBlank (fun (z21 : Int) => (InR z21) ∧ ((z21 = 0 → (w_X10_isLetter (fun (z25 : Int) => (InR z25) ∧ ((z25 = 0 → (w_X10_isDigit (fun (z28 : Int) => (InR z28) ∧ ((z28 = 0 → (w_X10_isSign (fun (z31 : Int) => (InR z31) ∧ ((z31 = 0 → post (pI (pI (pI (pI (pI u1 8 (sI u1 10)) 7 0) 9 (sA u1 6 (sI u1 10))) 7 4) 10 ((sI u1 10) + 1))) ∧
 (¬ z31 = 0 → post (pI (pI (pI (pI (pI u1 8 (sI u1 10)) 7 0) 9 (sA u1 6 (sI u1 10))) 7 1) 10 ((sI u1 10) + 1))))) (sA u1 6 (sI u1 10)))) ∧
 (¬ z28 = 0 → (w_X10_readsNumber (fun  (u34 : St) => post u34) (pI (pI u1 8 (sI u1 10)) 7 0))))) (sA u1 6 (sI u1 10)))) ∧
 (¬ z25 = 0 → (w_X10_readsWord (fun  (u35 : St) => post u35) (pI (pI u1 8 (sI u1 10)) 7 0))))) (sA u1 6 (sI u1 10)))) ∧
 (¬ z21 = 0 → K0 (pI u1 10 ((sI u1 10) + 1))))) (sA u1 6 (sI u1 10)))))
def B_X10_reads_0 (post : St → Prop) : (St → Prop) → St → Prop := fun K t => b_X10_reads_0 post K t
def w_X10_reads (post : St → Prop) (u0 : St) : Prop :=
(∃ n : Nat, Lp (B_X10_reads_0 post) n u0)
abbrev rm_X10_reads : Room := { frames := 3, cells := 0, slots := 0, locals := 63 }
set_option maxRecDepth 100000 in
set_option maxHeartbeats 4000000 in
theorem ct_X10_reads {l : Launch} {G : Gr} {a : Nat → Nat} (u0 : St) (post : St → Prop) (hw : w_X10_reads post u0) : CtV l G yX10_reads (ws_ yX10_reads cX10_reads 1 (none)) rm_X10_reads [.ref (a 0)] (WM G a u0) 0 0 (PoV (WM G a) post) := by
  refine CtV.of (by decide) (Nat.le_of_ble_eq_true rfl) ?_
  intro p e s m args below meth c ls X hr hlk K g h hl
  have hl : lv_has ls 1 [(0, .ref (a 0))] := hl
  obtain ⟨H, hH⟩ : ∃ H, H = s.heap := ⟨_, rfl⟩
  obtain ⟨locs, hL⟩ : ∃ L : List Loc, L = [] := ⟨_, rfl⟩
  replace h : HW G (va_A (WM G a u0) s.heap.size) s.heap (WM G a u0) H locs := by rw [hH, hL]; exact h
  suffices hg : W p l e rm_X10_reads s m args below meth c H locs 0 0 (EndV G (WM G a u0) (PoV (WM G a) post) args s 0 0 below) (F0 m 0 ls []) by rw [hH, hL] at hg; exact hg
  clear hH hL
  obtain ⟨n0, hw⟩ := hw
  have key0 : ∀ (n : Nat) (t : St) (H : Heap) (locs : List Loc) (ls : Array Slot), Lp (B_X10_reads_0 post) n t → HW G (va_A (WM G a u0) s.heap.size) s.heap (WM G a t) H locs → lv_has ls 1 [(0, .ref (a 0))] → W p l e rm_X10_reads s m args below meth c H locs 0 0 (EndV G (WM G a u0) (PoV (WM G a) post) args s 0 0 below) (F0 m 0 ls []) := by
    intro n
    induction n with
    | zero =>
      intro t H locs ls hw
      exact hw.elim
    | succ n0 ih0 =>
      intro u1 H locs ls hw h hl
      replace hw : b_X10_reads_0 post (Lp (B_X10_reads_0 post) n0) u1 := hw
      refine z_aload_n X hl 0 rfl rfl dX10_reads_0 ?_
      refine gM_X10_at (x := sI u1 10) X K h rfl q_1356 dX10_reads_1 ?_
      refine z_aload_n X hl 0 rfl rfl dX10_reads_4 ?_
      refine gM_X10_tapeMany (x := sI u1 6) X K h rfl q_1352 dX10_reads_5 ?_
      obtain ⟨h2, h3, hw⟩ := hw
      refine z_icmp_ge (tgt := 39) X h2 h3 dX10_reads_8 (by decide) (fun c4 => ?_) (fun c4 => ?_)
      · replace hw := hw.1 c4
        refine z_aload_n X hl 0 rfl rfl dX10_reads_39 ?_
        refine z_aload_n X hl 0 rfl rfl dX10_reads_40 ?_
        refine gM_X10_at (x := sI u1 10) X K h rfl q_1356 dX10_reads_41 ?_
        refine pM_X10_tokenAt X K h q_1354 dX10_reads_44 (fun H locs h => ?_)
        refine z_aload_n X hl 0 rfl rfl dX10_reads_47 ?_
        refine z_iconst X dX10_reads_48 ?_
        refine pM_X10_token X K h q_1353 dX10_reads_49 (fun H locs h => ?_)
        refine z_aload_n X hl 0 rfl rfl dX10_reads_52 ?_
        refine gM_X10_at (x := sI u1 10) X K h rfl q_1356 dX10_reads_53 ?_
        refine z_aload_n X hl 0 rfl rfl dX10_reads_56 ?_
        refine gM_X10_tapeMany (x := sI u1 6) X K h rfl q_1352 dX10_reads_57 ?_
        refine z_icmp_ne (tgt := 64) X h2 h3 dX10_reads_60 (by decide) (fun c5 => ?_) (fun c5 => ?_)
        · replace hw := hw.1 c5
          refine z_aload_n X hl 0 rfl rfl dX10_reads_64 ?_
          refine gM_X10_tape X K h q_1351 dX10_reads_65 ?_
          refine z_aload_n X hl 0 rfl rfl dX10_reads_68 ?_
          refine gM_X10_at (x := sI u1 10) X K h rfl q_1356 dX10_reads_69 ?_
          obtain ⟨h6, h7, hw⟩ := hw
          refine lM_6 (x := sA u1 6 (sI u1 10)) X K h h6 h7 rfl dX10_reads_72 ?_
          refine r_callSi (rest := []) X K g h (ct_X10_isLetter (w := WM G a (pI (pI u1 8 (sI u1 10)) 7 0)) (sA u1 6 (sI u1 10)) _ hw) lk_X10_162 ⟨rfl, rfl⟩ ⟨Nat.le_of_ble_eq_true rfl, Nat.le_of_ble_eq_true rfl⟩ rfl (lv_size hl) rfl (Nat.le_of_ble_eq_true rfl) dX10_reads_73 ⟨Nat.le_of_ble_eq_true rfl, Nat.le_of_ble_eq_true rfl⟩ (fun z8 w' H locs hp h => ?_)
          obtain ⟨rfl, hw⟩ := hp
          obtain ⟨h9, hw⟩ := hw
          refine z_if_eq (tgt := 86) X h9 dX10_reads_76 (by decide) (fun c10 => ?_) (fun c10 => ?_)
          · replace hw := hw.1 c10
            refine z_aload_n X hl 0 rfl rfl dX10_reads_86 ?_
            refine gM_X10_tape X K h q_1351 dX10_reads_87 ?_
            refine z_aload_n X hl 0 rfl rfl dX10_reads_90 ?_
            refine gM_X10_at (x := sI u1 10) X K h rfl q_1356 dX10_reads_91 ?_
            refine lM_6 (x := sA u1 6 (sI u1 10)) X K h h6 h7 rfl dX10_reads_94 ?_
            refine r_callSi (rest := []) X K g h (ct_X10_isDigit (w := WM G a (pI (pI u1 8 (sI u1 10)) 7 0)) (sA u1 6 (sI u1 10)) _ hw) lk_X10_168 ⟨rfl, rfl⟩ ⟨Nat.le_of_ble_eq_true rfl, Nat.le_of_ble_eq_true rfl⟩ rfl (lv_size hl) rfl (Nat.le_of_ble_eq_true rfl) dX10_reads_95 ⟨Nat.le_of_ble_eq_true rfl, Nat.le_of_ble_eq_true rfl⟩ (fun z11 w' H locs hp h => ?_)
            obtain ⟨rfl, hw⟩ := hp
            obtain ⟨h12, hw⟩ := hw
            refine z_if_eq (tgt := 108) X h12 dX10_reads_98 (by decide) (fun c13 => ?_) (fun c13 => ?_)
            · replace hw := hw.1 c13
              refine z_aload_n X hl 0 rfl rfl dX10_reads_108 ?_
              refine z_aload_n X hl 0 rfl rfl dX10_reads_109 ?_
              refine gM_X10_tape X K h q_1351 dX10_reads_110 ?_
              refine z_aload_n X hl 0 rfl rfl dX10_reads_113 ?_
              refine gM_X10_at (x := sI u1 10) X K h rfl q_1356 dX10_reads_114 ?_
              refine lM_6 (x := sA u1 6 (sI u1 10)) X K h h6 h7 rfl dX10_reads_117 ?_
              refine pM_X10_value X K h q_1355 dX10_reads_118 (fun H locs h => ?_)
              refine z_aload_n X hl 0 rfl rfl dX10_reads_121 ?_
              refine z_aload_n X hl 0 rfl rfl dX10_reads_122 ?_
              refine gM_X10_value (x := sA u1 6 (sI u1 10)) X K h rfl q_1355 dX10_reads_123 ?_
              refine r_callSi (rest := [.ref (a 0)]) X K g h (ct_X10_isSign (w := WM G a (pI (pI (pI u1 8 (sI u1 10)) 7 0) 9 (sA u1 6 (sI u1 10)))) (sA u1 6 (sI u1 10)) _ hw) lk_X10_183 ⟨rfl, rfl⟩ ⟨Nat.le_of_ble_eq_true rfl, Nat.le_of_ble_eq_true rfl⟩ rfl (lv_size hl) rfl (Nat.le_of_ble_eq_true rfl) dX10_reads_126 ⟨Nat.le_of_ble_eq_true rfl, Nat.le_of_ble_eq_true rfl⟩ (fun z14 w' H locs hp h => ?_)
              obtain ⟨rfl, hw⟩ := hp
              obtain ⟨h15, hw⟩ := hw
              refine z_if_eq (tgt := 136) X h15 dX10_reads_129 (by decide) (fun c16 => ?_) (fun c16 => ?_)
              · replace hw := hw.1 c16
                refine z_iconst X dX10_reads_136 ?_
                refine pM_X10_token X K h q_1353 dX10_reads_137 (fun H locs h => ?_)
                refine z_aload_n X hl 0 rfl rfl dX10_reads_140 ?_
                refine z_dup X rfl dX10_reads_141 ?_
                refine gM_X10_at (x := sI u1 10) X K h rfl q_1356 dX10_reads_142 ?_
                refine z_iconst X dX10_reads_145 ?_
                refine z_iadd X dX10_reads_146 ?_
                refine pM_X10_at X K h q_1356 dX10_reads_147 (fun H locs h => ?_)
                exact r_vret X hr hlk K h (Nat.le_refl _) (Nat.le_refl _) dX10_reads_150 ⟨_, rfl, hw⟩
              · replace hw := hw.2 c16
                refine z_iconst X dX10_reads_132 ?_
                refine z_goto (tgt := 137) X dX10_reads_133 (by decide) ?_
                refine pM_X10_token X K h q_1353 dX10_reads_137 (fun H locs h => ?_)
                refine z_aload_n X hl 0 rfl rfl dX10_reads_140 ?_
                refine z_dup X rfl dX10_reads_141 ?_
                refine gM_X10_at (x := sI u1 10) X K h rfl q_1356 dX10_reads_142 ?_
                refine z_iconst X dX10_reads_145 ?_
                refine z_iadd X dX10_reads_146 ?_
                refine pM_X10_at X K h q_1356 dX10_reads_147 (fun H locs h => ?_)
                exact r_vret X hr hlk K h (Nat.le_refl _) (Nat.le_refl _) dX10_reads_150 ⟨_, rfl, hw⟩
            · replace hw := hw.2 c13
              refine z_aload_n X hl 0 rfl rfl dX10_reads_101 ?_
              refine r_callVv (rest := []) X K g h (ct_X10_readsNumber (pI (pI u1 8 (sI u1 10)) 7 0) _ hw) lk_X10_180 0 rfl rfl ⟨rfl, rfl⟩ ⟨Nat.le_of_ble_eq_true rfl, Nat.le_of_ble_eq_true rfl⟩ rfl (lv_size hl) rfl (Nat.le_of_ble_eq_true rfl) dX10_reads_102 ⟨Nat.le_of_ble_eq_true rfl, Nat.le_of_ble_eq_true rfl⟩ (fun w' H locs hp h => ?_)
              obtain ⟨u17, rfl, hw⟩ := hp
              refine z_goto (tgt := 150) X dX10_reads_105 (by decide) ?_
              exact r_vret X hr hlk K h (Nat.le_refl _) (Nat.le_refl _) dX10_reads_150 ⟨_, rfl, hw⟩
          · replace hw := hw.2 c10
            refine z_aload_n X hl 0 rfl rfl dX10_reads_79 ?_
            refine r_callVv (rest := []) X K g h (ct_X10_readsWord (pI (pI u1 8 (sI u1 10)) 7 0) _ hw) lk_X10_177 0 rfl rfl ⟨rfl, rfl⟩ ⟨Nat.le_of_ble_eq_true rfl, Nat.le_of_ble_eq_true rfl⟩ rfl (lv_size hl) rfl (Nat.le_of_ble_eq_true rfl) dX10_reads_80 ⟨Nat.le_of_ble_eq_true rfl, Nat.le_of_ble_eq_true rfl⟩ (fun w' H locs hp h => ?_)
            obtain ⟨u18, rfl, hw⟩ := hp
            refine z_goto (tgt := 150) X dX10_reads_83 (by decide) ?_
            exact r_vret X hr hlk K h (Nat.le_refl _) (Nat.le_refl _) dX10_reads_150 ⟨_, rfl, hw⟩
        · replace hw := hw.2 c5
          exact r_vret X hr hlk K h (Nat.le_refl _) (Nat.le_refl _) dX10_reads_63 ⟨_, rfl, hw⟩
      · replace hw := hw.2 c4
        refine z_aload_n X hl 0 rfl rfl dX10_reads_11 ?_
        refine gM_X10_tape X K h q_1351 dX10_reads_12 ?_
        refine z_aload_n X hl 0 rfl rfl dX10_reads_15 ?_
        refine gM_X10_at (x := sI u1 10) X K h rfl q_1356 dX10_reads_16 ?_
        obtain ⟨h19, h20, hw⟩ := hw
        refine lM_6 (x := sA u1 6 (sI u1 10)) X K h h19 h20 rfl dX10_reads_19 ?_
        refine r_callSi (rest := []) X K g h (ct_X10_isBlank (w := WM G a u1) (sA u1 6 (sI u1 10)) _ hw) lk_X10_171 ⟨rfl, rfl⟩ ⟨Nat.le_of_ble_eq_true rfl, Nat.le_of_ble_eq_true rfl⟩ rfl (lv_size hl) rfl (Nat.le_of_ble_eq_true rfl) dX10_reads_20 ⟨Nat.le_of_ble_eq_true rfl, Nat.le_of_ble_eq_true rfl⟩ (fun z21 w' H locs hp h => ?_)
        obtain ⟨rfl, hw⟩ := hp
        obtain ⟨h22, hw⟩ := hw
        refine z_if_eq (tgt := 39) X h22 dX10_reads_23 (by decide) (fun c23 => ?_) (fun c23 => ?_)
        · replace hw := hw.1 c23
          refine z_aload_n X hl 0 rfl rfl dX10_reads_39 ?_
          refine z_aload_n X hl 0 rfl rfl dX10_reads_40 ?_
          refine gM_X10_at (x := sI u1 10) X K h rfl q_1356 dX10_reads_41 ?_
          refine pM_X10_tokenAt X K h q_1354 dX10_reads_44 (fun H locs h => ?_)
          refine z_aload_n X hl 0 rfl rfl dX10_reads_47 ?_
          refine z_iconst X dX10_reads_48 ?_
          refine pM_X10_token X K h q_1353 dX10_reads_49 (fun H locs h => ?_)
          refine z_aload_n X hl 0 rfl rfl dX10_reads_52 ?_
          refine gM_X10_at (x := sI u1 10) X K h rfl q_1356 dX10_reads_53 ?_
          refine z_aload_n X hl 0 rfl rfl dX10_reads_56 ?_
          refine gM_X10_tapeMany (x := sI u1 6) X K h rfl q_1352 dX10_reads_57 ?_
          refine z_icmp_ne (tgt := 64) X h2 h3 dX10_reads_60 (by decide) (fun _ => ?_) (fun c24 => absurd c24 (by omega))
          refine z_aload_n X hl 0 rfl rfl dX10_reads_64 ?_
          refine gM_X10_tape X K h q_1351 dX10_reads_65 ?_
          refine z_aload_n X hl 0 rfl rfl dX10_reads_68 ?_
          refine gM_X10_at (x := sI u1 10) X K h rfl q_1356 dX10_reads_69 ?_
          refine lM_6 (x := sA u1 6 (sI u1 10)) X K h h19 h20 rfl dX10_reads_72 ?_
          refine r_callSi (rest := []) X K g h (ct_X10_isLetter (w := WM G a (pI (pI u1 8 (sI u1 10)) 7 0)) (sA u1 6 (sI u1 10)) _ hw) lk_X10_162 ⟨rfl, rfl⟩ ⟨Nat.le_of_ble_eq_true rfl, Nat.le_of_ble_eq_true rfl⟩ rfl (lv_size hl) rfl (Nat.le_of_ble_eq_true rfl) dX10_reads_73 ⟨Nat.le_of_ble_eq_true rfl, Nat.le_of_ble_eq_true rfl⟩ (fun z25 w' H locs hp h => ?_)
          obtain ⟨rfl, hw⟩ := hp
          obtain ⟨h26, hw⟩ := hw
          refine z_if_eq (tgt := 86) X h26 dX10_reads_76 (by decide) (fun c27 => ?_) (fun c27 => ?_)
          · replace hw := hw.1 c27
            refine z_aload_n X hl 0 rfl rfl dX10_reads_86 ?_
            refine gM_X10_tape X K h q_1351 dX10_reads_87 ?_
            refine z_aload_n X hl 0 rfl rfl dX10_reads_90 ?_
            refine gM_X10_at (x := sI u1 10) X K h rfl q_1356 dX10_reads_91 ?_
            refine lM_6 (x := sA u1 6 (sI u1 10)) X K h h19 h20 rfl dX10_reads_94 ?_
            refine r_callSi (rest := []) X K g h (ct_X10_isDigit (w := WM G a (pI (pI u1 8 (sI u1 10)) 7 0)) (sA u1 6 (sI u1 10)) _ hw) lk_X10_168 ⟨rfl, rfl⟩ ⟨Nat.le_of_ble_eq_true rfl, Nat.le_of_ble_eq_true rfl⟩ rfl (lv_size hl) rfl (Nat.le_of_ble_eq_true rfl) dX10_reads_95 ⟨Nat.le_of_ble_eq_true rfl, Nat.le_of_ble_eq_true rfl⟩ (fun z28 w' H locs hp h => ?_)
            obtain ⟨rfl, hw⟩ := hp
            obtain ⟨h29, hw⟩ := hw
            refine z_if_eq (tgt := 108) X h29 dX10_reads_98 (by decide) (fun c30 => ?_) (fun c30 => ?_)
            · replace hw := hw.1 c30
              refine z_aload_n X hl 0 rfl rfl dX10_reads_108 ?_
              refine z_aload_n X hl 0 rfl rfl dX10_reads_109 ?_
              refine gM_X10_tape X K h q_1351 dX10_reads_110 ?_
              refine z_aload_n X hl 0 rfl rfl dX10_reads_113 ?_
              refine gM_X10_at (x := sI u1 10) X K h rfl q_1356 dX10_reads_114 ?_
              refine lM_6 (x := sA u1 6 (sI u1 10)) X K h h19 h20 rfl dX10_reads_117 ?_
              refine pM_X10_value X K h q_1355 dX10_reads_118 (fun H locs h => ?_)
              refine z_aload_n X hl 0 rfl rfl dX10_reads_121 ?_
              refine z_aload_n X hl 0 rfl rfl dX10_reads_122 ?_
              refine gM_X10_value (x := sA u1 6 (sI u1 10)) X K h rfl q_1355 dX10_reads_123 ?_
              refine r_callSi (rest := [.ref (a 0)]) X K g h (ct_X10_isSign (w := WM G a (pI (pI (pI u1 8 (sI u1 10)) 7 0) 9 (sA u1 6 (sI u1 10)))) (sA u1 6 (sI u1 10)) _ hw) lk_X10_183 ⟨rfl, rfl⟩ ⟨Nat.le_of_ble_eq_true rfl, Nat.le_of_ble_eq_true rfl⟩ rfl (lv_size hl) rfl (Nat.le_of_ble_eq_true rfl) dX10_reads_126 ⟨Nat.le_of_ble_eq_true rfl, Nat.le_of_ble_eq_true rfl⟩ (fun z31 w' H locs hp h => ?_)
              obtain ⟨rfl, hw⟩ := hp
              obtain ⟨h32, hw⟩ := hw
              refine z_if_eq (tgt := 136) X h32 dX10_reads_129 (by decide) (fun c33 => ?_) (fun c33 => ?_)
              · replace hw := hw.1 c33
                refine z_iconst X dX10_reads_136 ?_
                refine pM_X10_token X K h q_1353 dX10_reads_137 (fun H locs h => ?_)
                refine z_aload_n X hl 0 rfl rfl dX10_reads_140 ?_
                refine z_dup X rfl dX10_reads_141 ?_
                refine gM_X10_at (x := sI u1 10) X K h rfl q_1356 dX10_reads_142 ?_
                refine z_iconst X dX10_reads_145 ?_
                refine z_iadd X dX10_reads_146 ?_
                refine pM_X10_at X K h q_1356 dX10_reads_147 (fun H locs h => ?_)
                exact r_vret X hr hlk K h (Nat.le_refl _) (Nat.le_refl _) dX10_reads_150 ⟨_, rfl, hw⟩
              · replace hw := hw.2 c33
                refine z_iconst X dX10_reads_132 ?_
                refine z_goto (tgt := 137) X dX10_reads_133 (by decide) ?_
                refine pM_X10_token X K h q_1353 dX10_reads_137 (fun H locs h => ?_)
                refine z_aload_n X hl 0 rfl rfl dX10_reads_140 ?_
                refine z_dup X rfl dX10_reads_141 ?_
                refine gM_X10_at (x := sI u1 10) X K h rfl q_1356 dX10_reads_142 ?_
                refine z_iconst X dX10_reads_145 ?_
                refine z_iadd X dX10_reads_146 ?_
                refine pM_X10_at X K h q_1356 dX10_reads_147 (fun H locs h => ?_)
                exact r_vret X hr hlk K h (Nat.le_refl _) (Nat.le_refl _) dX10_reads_150 ⟨_, rfl, hw⟩
            · replace hw := hw.2 c30
              refine z_aload_n X hl 0 rfl rfl dX10_reads_101 ?_
              refine r_callVv (rest := []) X K g h (ct_X10_readsNumber (pI (pI u1 8 (sI u1 10)) 7 0) _ hw) lk_X10_180 0 rfl rfl ⟨rfl, rfl⟩ ⟨Nat.le_of_ble_eq_true rfl, Nat.le_of_ble_eq_true rfl⟩ rfl (lv_size hl) rfl (Nat.le_of_ble_eq_true rfl) dX10_reads_102 ⟨Nat.le_of_ble_eq_true rfl, Nat.le_of_ble_eq_true rfl⟩ (fun w' H locs hp h => ?_)
              obtain ⟨u34, rfl, hw⟩ := hp
              refine z_goto (tgt := 150) X dX10_reads_105 (by decide) ?_
              exact r_vret X hr hlk K h (Nat.le_refl _) (Nat.le_refl _) dX10_reads_150 ⟨_, rfl, hw⟩
          · replace hw := hw.2 c27
            refine z_aload_n X hl 0 rfl rfl dX10_reads_79 ?_
            refine r_callVv (rest := []) X K g h (ct_X10_readsWord (pI (pI u1 8 (sI u1 10)) 7 0) _ hw) lk_X10_177 0 rfl rfl ⟨rfl, rfl⟩ ⟨Nat.le_of_ble_eq_true rfl, Nat.le_of_ble_eq_true rfl⟩ rfl (lv_size hl) rfl (Nat.le_of_ble_eq_true rfl) dX10_reads_80 ⟨Nat.le_of_ble_eq_true rfl, Nat.le_of_ble_eq_true rfl⟩ (fun w' H locs hp h => ?_)
            obtain ⟨u35, rfl, hw⟩ := hp
            refine z_goto (tgt := 150) X dX10_reads_83 (by decide) ?_
            exact r_vret X hr hlk K h (Nat.le_refl _) (Nat.le_refl _) dX10_reads_150 ⟨_, rfl, hw⟩
        · replace hw := hw.2 c23
          refine z_aload_n X hl 0 rfl rfl dX10_reads_26 ?_
          refine z_dup X rfl dX10_reads_27 ?_
          refine gM_X10_at (x := sI u1 10) X K h rfl q_1356 dX10_reads_28 ?_
          refine z_iconst X dX10_reads_31 ?_
          refine z_iadd X dX10_reads_32 ?_
          refine pM_X10_at X K h q_1356 dX10_reads_33 (fun H locs h => ?_)
          refine z_goto (tgt := 0) X dX10_reads_36 (by decide) ?_
          exact ih0 (pI u1 10 ((sI u1 10) + 1)) H locs ls hw h (lv_sub hl [0] rfl)
  exact key0 n0 u0 H locs ls hw h (lv_sub hl [0] rfl)
def w_X10_isSignNow (post : Int → Prop) (u0 : St) (p1 : Int) : Prop :=
(InR (sI u0 7)) ∧ ((¬ sI u0 7 = 1 → post 0) ∧
 (sI u0 7 = 1 → (InR (sI u0 9)) ∧ (InR p1) ∧ ((¬ sI u0 9 = p1 → post 0) ∧
 (sI u0 9 = p1 → post 1))))
abbrev rm_X10_isSignNow : Room := { frames := 0, cells := 0, slots := 0, locals := 0 }
set_option maxRecDepth 100000 in
set_option maxHeartbeats 4000000 in
theorem ct_X10_isSignNow {l : Launch} {G : Gr} {a : Nat → Nat} (u0 : St) (p1 : Int) (post : Int → Prop) (hw : w_X10_isSignNow post u0 p1) : Ct l G yX10_isSignNow (ws_ yX10_isSignNow cX10_isSignNow 2 (some .boolean)) rm_X10_isSignNow [.ref (a 0), zI p1] (WM G a u0) 0 0 (PoP (WM G a u0) post) := by
  refine Ct.of (by decide) (Nat.le_of_ble_eq_true rfl) ?_
  intro p e s m args below meth c ls X hr hlk K g h hl
  have hl : lv_has ls 2 [(0, .ref (a 0)), (1, zI p1)] := hl
  obtain ⟨H, hH⟩ : ∃ H, H = s.heap := ⟨_, rfl⟩
  obtain ⟨locs, hL⟩ : ∃ L : List Loc, L = [] := ⟨_, rfl⟩
  replace h : HW G (va_A (WM G a u0) s.heap.size) s.heap (WM G a u0) H locs := by rw [hH, hL]; exact h
  suffices hg : W p l e rm_X10_isSignNow s m args below meth c H locs 0 0 (EndI G (WM G a u0) (PoP (WM G a u0) post) args s 0 0 below) (F0 m 0 ls []) by rw [hH, hL] at hg; exact hg
  clear hH hL
  refine z_aload_n X hl 0 rfl rfl dX10_isSignNow_0 ?_
  refine gM_X10_token (x := sI u0 7) X K h rfl q_1353 dX10_isSignNow_1 ?_
  refine z_iconst X dX10_isSignNow_4 ?_
  obtain ⟨h1, hw⟩ := hw
  refine z_icmp_ne (tgt := 20) X h1 (by decide) dX10_isSignNow_5 (by decide) (fun c2 => ?_) (fun c2 => ?_)
  · replace hw := hw.1 c2
    refine z_iconst X dX10_isSignNow_20 ?_
    exact r_zret X hr hlk K h (Nat.le_refl _) (Nat.le_refl _) dX10_isSignNow_21 (by decide) ⟨rfl, hw⟩
  · replace hw := hw.2 c2
    refine z_aload_n X hl 0 rfl rfl dX10_isSignNow_8 ?_
    refine gM_X10_value (x := sI u0 9) X K h rfl q_1355 dX10_isSignNow_9 ?_
    refine z_iload_n X hl 1 rfl rfl dX10_isSignNow_12 ?_
    obtain ⟨h3, h4, hw⟩ := hw
    refine z_icmp_ne (tgt := 20) X h3 h4 dX10_isSignNow_13 (by decide) (fun c5 => ?_) (fun c5 => ?_)
    · replace hw := hw.1 c5
      refine z_iconst X dX10_isSignNow_20 ?_
      exact r_zret X hr hlk K h (Nat.le_refl _) (Nat.le_refl _) dX10_isSignNow_21 (by decide) ⟨rfl, hw⟩
    · replace hw := hw.2 c5
      refine z_iconst X dX10_isSignNow_16 ?_
      refine z_goto (tgt := 21) X dX10_isSignNow_17 (by decide) ?_
      exact r_zret X hr hlk K h (Nat.le_refl _) (Nat.le_refl _) dX10_isSignNow_21 (by decide) ⟨rfl, hw⟩
def w_X10_clears (post : St → Prop) (u0 : St) : Prop :=
post (pI (pI (pI (pI u0 1 0) 2 0) 3 0) 5 0)
abbrev rm_X10_clears : Room := { frames := 0, cells := 0, slots := 0, locals := 0 }
set_option maxRecDepth 100000 in
set_option maxHeartbeats 4000000 in
theorem ct_X10_clears {l : Launch} {G : Gr} {a : Nat → Nat} (u0 : St) (post : St → Prop) (hw : w_X10_clears post u0) : CtV l G yX10_clears (ws_ yX10_clears cX10_clears 1 (none)) rm_X10_clears [.ref (a 0)] (WM G a u0) 0 0 (PoV (WM G a) post) := by
  refine CtV.of (by decide) (Nat.le_of_ble_eq_true rfl) ?_
  intro p e s m args below meth c ls X hr hlk K g h hl
  have hl : lv_has ls 1 [(0, .ref (a 0))] := hl
  obtain ⟨H, hH⟩ : ∃ H, H = s.heap := ⟨_, rfl⟩
  obtain ⟨locs, hL⟩ : ∃ L : List Loc, L = [] := ⟨_, rfl⟩
  replace h : HW G (va_A (WM G a u0) s.heap.size) s.heap (WM G a u0) H locs := by rw [hH, hL]; exact h
  suffices hg : W p l e rm_X10_clears s m args below meth c H locs 0 0 (EndV G (WM G a u0) (PoV (WM G a) post) args s 0 0 below) (F0 m 0 ls []) by rw [hH, hL] at hg; exact hg
  clear hH hL
  refine z_aload_n X hl 0 rfl rfl dX10_clears_0 ?_
  refine z_iconst X dX10_clears_1 ?_
  refine pM_X10_backMany X K h q_1342 dX10_clears_2 (fun H locs h => ?_)
  refine z_aload_n X hl 0 rfl rfl dX10_clears_5 ?_
  refine z_iconst X dX10_clears_6 ?_
  refine pM_X10_frontMany X K h q_1343 dX10_clears_7 (fun H locs h => ?_)
  refine z_aload_n X hl 0 rfl rfl dX10_clears_10 ?_
  refine z_iconst X dX10_clears_11 ?_
  refine pM_X10_givenBy X K h q_1344 dX10_clears_12 (fun H locs h => ?_)
  refine z_aload_n X hl 0 rfl rfl dX10_clears_15 ?_
  refine z_iconst X dX10_clears_16 ?_
  refine pM_X10_kept X K h q_1350 dX10_clears_17 (fun H locs h => ?_)
  exact r_vret X hr hlk K h (Nat.le_refl _) (Nat.le_refl _) dX10_clears_20 ⟨_, rfl, hw⟩
def b_X10_fill_106 (post : Int → St → Prop) (y1_106 : Int) (K106 : St × Int → Prop) (u22 : St) (x2_23 : Int) : Prop :=
(InR x2_23) ∧ ((x2_23 < 0 → post y1_106 u22) ∧
 (¬ x2_23 < 0 → (0 ≤ x2_23) ∧ (x2_23 < 100) ∧ (0 ≤ sI u22 2) ∧ (sI u22 2 < 101) ∧ K106 ((pI (pA u22 1 (sI u22 2) (sA u22 7 x2_23)) 2 ((sI u22 2) + 1)), x2_23 + (-1))))
def B_X10_fill_106 (post : Int → St → Prop) (y1_106 : Int) : (St × Int → Prop) → St × Int → Prop := fun K t => b_X10_fill_106 post y1_106 K t.1 t.2
def j_X10_fill_89 (post : Int → St → Prop) (u16 : St) (x1_14 : Int) (t15 : Int) : Prop :=
(w_X10_fails (fun (z17 : Int) (u18 : St) => (InR z17) ∧ ((z17 = 0 → (w_X10_clears (fun  (u21 : St) => (∃ n : Nat, Lp (B_X10_fill_106 post x1_14) n (u21, x1_14 - 1))) u18)) ∧
 (¬ z17 = 0 → post 0 u18))) u16 t15 1)
def j_X10_fill_70 (post : Int → St → Prop) (u11 : St) (x1_10 : Int) : Prop :=
(InR (sI u11 11)) ∧ ((¬ sI u11 11 = (-1) → (j_X10_fill_89 post (pI u11 6 0) x1_10 0)) ∧
 (sI u11 11 = (-1) → (j_X10_fill_89 post (pI u11 6 0) x1_10 1)))
def j_X10_fill_55 (post : Int → St → Prop) (u7 : St) (x1_6 : Int) : Prop :=
(InR (sI u7 7)) ∧ ((sI u7 7 = 0 → (j_X10_fill_70 post u7 x1_6)) ∧
 (¬ sI u7 7 = 0 → (j_X10_fill_70 post (pI u7 11 (sI u7 8)) x1_6)))
def b_X10_fill_21 (post : Int → St → Prop) (K21 : St × Int → Prop) (u2 : St) (x1_3 : Int) : Prop :=
(InR (sI u2 7)) ∧ ((¬ sI u2 7 = 3 → (j_X10_fill_55 post u2 x1_3)) ∧
 (sI u2 7 = 3 → (InR x1_3) ∧ ((100 ≤ x1_3 → (j_X10_fill_55 post u2 x1_3)) ∧
 (¬ 100 ≤ x1_3 → (0 ≤ x1_3) ∧ (x1_3 < 100) ∧ (w_X10_reads (fun  (u34 : St) => K21 (u34, x1_3 + 1)) (pA u2 7 x1_3 (sI u2 9)))))))
def B_X10_fill_21 (post : Int → St → Prop) : (St × Int → Prop) → St × Int → Prop := fun K t => b_X10_fill_21 post K t.1 t.2
def w_X10_fill (post : Int → St → Prop) (u0 : St) : Prop :=
(w_X10_reads (fun  (u1 : St) => (∃ n : Nat, Lp (B_X10_fill_21 post) n (u1, 0))) (pI (pI (pI u0 0 0) 10 0) 11 (-1)))
abbrev rm_X10_fill : Room := { frames := 4, cells := 0, slots := 0, locals := 83 }
set_option maxRecDepth 100000 in
set_option maxHeartbeats 4000000 in
theorem ct_X10_fill {l : Launch} {G : Gr} {a : Nat → Nat} (u0 : St) (post : Int → St → Prop) (hw : w_X10_fill post u0) : Ct l G yX10_fill (ws_ yX10_fill cX10_fill 3 (some .int)) rm_X10_fill [.ref (a 0)] (WM G a u0) 0 0 (Po (WM G a) post) := by
  refine Ct.of (by decide) (Nat.le_of_ble_eq_true rfl) ?_
  intro p e s m args below meth c ls X hr hlk K g h hl
  have hl : lv_has ls 3 [(0, .ref (a 0))] := hl
  obtain ⟨H, hH⟩ : ∃ H, H = s.heap := ⟨_, rfl⟩
  obtain ⟨locs, hL⟩ : ∃ L : List Loc, L = [] := ⟨_, rfl⟩
  replace h : HW G (va_A (WM G a u0) s.heap.size) s.heap (WM G a u0) H locs := by rw [hH, hL]; exact h
  suffices hg : W p l e rm_X10_fill s m args below meth c H locs 0 0 (EndI G (WM G a u0) (Po (WM G a) post) args s 0 0 below) (F0 m 0 ls []) by rw [hH, hL] at hg; exact hg
  clear hH hL
  have J89 : ∀ (u16 : St) (x1_14 : Int) (t15 : Int) (H : Heap) (locs : List Loc) (ls : Array Slot), j_X10_fill_89 post u16 x1_14 t15 → HW G (va_A (WM G a u0) s.heap.size) s.heap (WM G a u16) H locs → lv_has ls 3 [(0, .ref (a 0)), (1, zI x1_14)] → W p l e rm_X10_fill s m args below meth c H locs 0 0 (EndI G (WM G a u0) (Po (WM G a) post) args s 0 0 below) (F0 m 89 ls [zI t15, .ref (a 0)]) := by
    intro u16 x1_14 t15 H locs ls hw h hl
    refine z_iconst X dX10_fill_89 ?_
    refine r_callVi (rest := []) X K g h (ct_X10_fails u16 t15 1 _ hw) lk_X10_74 0 rfl rfl ⟨rfl, rfl⟩ ⟨Nat.le_of_ble_eq_true rfl, Nat.le_of_ble_eq_true rfl⟩ rfl (lv_size hl) rfl (Nat.le_of_ble_eq_true rfl) dX10_fill_90 ⟨Nat.le_of_ble_eq_true rfl, Nat.le_of_ble_eq_true rfl⟩ (fun z17 w' H locs hp h => ?_)
    obtain ⟨u18, rfl, hw⟩ := hp
    obtain ⟨h19, hw⟩ := hw
    refine z_if_eq (tgt := 98) X h19 dX10_fill_93 (by decide) (fun c20 => ?_) (fun c20 => ?_)
    · replace hw := hw.1 c20
      refine z_aload_n X hl 0 rfl rfl dX10_fill_98 ?_
      refine r_callVv (rest := []) X K g h (ct_X10_clears u18 _ hw) lk_X10_189 0 rfl rfl ⟨rfl, rfl⟩ ⟨Nat.le_of_ble_eq_true rfl, Nat.le_of_ble_eq_true rfl⟩ rfl (lv_size hl) rfl (Nat.le_of_ble_eq_true rfl) dX10_fill_99 ⟨Nat.le_of_ble_eq_true rfl, Nat.le_of_ble_eq_true rfl⟩ (fun w' H locs hp h => ?_)
      obtain ⟨u21, rfl, hw⟩ := hp
      refine z_iload_n X hl 1 rfl rfl dX10_fill_102 ?_
      refine z_iconst X dX10_fill_103 ?_
      refine z_isub X dX10_fill_104 ?_
      refine z_istore_n (i := 2) (lv' := [(2, zI (x1_14 - 1)), (0, .ref (a 0)), (1, zI x1_14)]) X hl rfl (by decide) dX10_fill_105 rfl (fun ls hl => ?_)
      obtain ⟨n106, hw⟩ := hw
      have key106 : ∀ (n : Nat) (t : St × Int) (H : Heap) (locs : List Loc) (ls : Array Slot), Lp (B_X10_fill_106 post x1_14) n t → HW G (va_A (WM G a u0) s.heap.size) s.heap (WM G a t.1) H locs → lv_has ls 3 [(0, .ref (a 0)), (1, zI x1_14), (2, zI t.2)] → W p l e rm_X10_fill s m args below meth c H locs 0 0 (EndI G (WM G a u0) (Po (WM G a) post) args s 0 0 below) (F0 m 106 ls []) := by
        intro n
        induction n with
        | zero =>
          intro t H locs ls hw
          exact hw.elim
        | succ n106 ih106 =>
          rintro ⟨u22, x2_23⟩ H locs ls hw h hl
          replace hw : b_X10_fill_106 post x1_14 (Lp (B_X10_fill_106 post x1_14) n106) u22 x2_23 := hw
          refine z_iload_n X hl 2 rfl rfl dX10_fill_106 ?_
          obtain ⟨h24, hw⟩ := hw
          refine z_if_lt (tgt := 141) X h24 dX10_fill_107 (by decide) (fun c25 => ?_) (fun c25 => ?_)
          · replace hw := hw.1 c25
            refine z_iload_n X hl 1 rfl rfl dX10_fill_141 ?_
            exact r_iret X hr hlk K h (Nat.le_refl _) (Nat.le_refl _) dX10_fill_142 ⟨_, rfl, hw⟩
          · replace hw := hw.2 c25
            refine z_aload_n X hl 0 rfl rfl dX10_fill_110 ?_
            refine gM_X10_front X K h q_1341 dX10_fill_111 ?_
            refine z_aload_n X hl 0 rfl rfl dX10_fill_114 ?_
            refine gM_X10_frontMany (x := sI u22 2) X K h rfl q_1343 dX10_fill_115 ?_
            refine z_aload_n X hl 0 rfl rfl dX10_fill_118 ?_
            refine gM_X10_read X K h q_1359 dX10_fill_119 ?_
            refine z_iload_n X hl 2 rfl rfl dX10_fill_122 ?_
            obtain ⟨h26, h27, hw⟩ := hw
            refine lM_7 (x := sA u22 7 x2_23) X K h h26 h27 rfl dX10_fill_123 ?_
            obtain ⟨h28, h29, hw⟩ := hw
            refine sM_1 X K h h28 h29 dX10_fill_124 (fun H locs h => ?_)
            refine z_aload_n X hl 0 rfl rfl dX10_fill_125 ?_
            refine z_dup X rfl dX10_fill_126 ?_
            refine gM_X10_frontMany (x := sI u22 2) X K h rfl q_1343 dX10_fill_127 ?_
            refine z_iconst X dX10_fill_130 ?_
            refine z_iadd X dX10_fill_131 ?_
            refine pM_X10_frontMany X K h q_1343 dX10_fill_132 (fun H locs h => ?_)
            refine z_iinc (lv' := [(2, zI (x2_23 + (-1))), (0, .ref (a 0)), (1, zI x1_14)]) X hl 2 rfl (by decide) dX10_fill_135 rfl (fun ls hl => ?_)
            refine z_goto (tgt := 106) X dX10_fill_138 (by decide) ?_
            exact ih106 ((pI (pA u22 1 (sI u22 2) (sA u22 7 x2_23)) 2 ((sI u22 2) + 1)), x2_23 + (-1)) H locs ls hw h (lv_sub hl [1, 2, 0] rfl)
      exact key106 n106 (u21, x1_14 - 1) H locs ls hw h (lv_sub hl [1, 2, 0] rfl)
    · replace hw := hw.2 c20
      refine z_iconst X dX10_fill_96 ?_
      exact r_iret X hr hlk K h (Nat.le_refl _) (Nat.le_refl _) dX10_fill_97 ⟨_, rfl, hw⟩
  have J70 : ∀ (u11 : St) (x1_10 : Int) (H : Heap) (locs : List Loc) (ls : Array Slot), j_X10_fill_70 post u11 x1_10 → HW G (va_A (WM G a u0) s.heap.size) s.heap (WM G a u11) H locs → lv_has ls 3 [(0, .ref (a 0)), (1, zI x1_10)] → W p l e rm_X10_fill s m args below meth c H locs 0 0 (EndI G (WM G a u0) (Po (WM G a) post) args s 0 0 below) (F0 m 70 ls []) := by
    intro u11 x1_10 H locs ls hw h hl
    refine z_aload_n X hl 0 rfl rfl dX10_fill_70 ?_
    refine z_iconst X dX10_fill_71 ?_
    refine pM_X10_tapeMany X K h q_1352 dX10_fill_72 (fun H locs h => ?_)
    refine z_aload_n X hl 0 rfl rfl dX10_fill_75 ?_
    refine z_aload_n X hl 0 rfl rfl dX10_fill_76 ?_
    refine gM_X10_errorAt (x := sI u11 11) X K h rfl q_1357 dX10_fill_77 ?_
    refine z_iconst X dX10_fill_80 ?_
    obtain ⟨h12, hw⟩ := hw
    refine z_icmp_ne (tgt := 88) X h12 (by decide) dX10_fill_81 (by decide) (fun c13 => ?_) (fun c13 => ?_)
    · replace hw := hw.1 c13
      refine z_iconst X dX10_fill_88 ?_
      exact J89 (pI u11 6 0) x1_10 0 H locs ls hw h (lv_sub hl [0, 1] rfl)
    · replace hw := hw.2 c13
      refine z_iconst X dX10_fill_84 ?_
      refine z_goto (tgt := 89) X dX10_fill_85 (by decide) ?_
      exact J89 (pI u11 6 0) x1_10 1 H locs ls hw h (lv_sub hl [0, 1] rfl)
  have J55 : ∀ (u7 : St) (x1_6 : Int) (H : Heap) (locs : List Loc) (ls : Array Slot), j_X10_fill_55 post u7 x1_6 → HW G (va_A (WM G a u0) s.heap.size) s.heap (WM G a u7) H locs → lv_has ls 3 [(0, .ref (a 0)), (1, zI x1_6)] → W p l e rm_X10_fill s m args below meth c H locs 0 0 (EndI G (WM G a u0) (Po (WM G a) post) args s 0 0 below) (F0 m 55 ls []) := by
    intro u7 x1_6 H locs ls hw h hl
    refine z_aload_n X hl 0 rfl rfl dX10_fill_55 ?_
    refine gM_X10_token (x := sI u7 7) X K h rfl q_1353 dX10_fill_56 ?_
    obtain ⟨h8, hw⟩ := hw
    refine z_if_eq (tgt := 70) X h8 dX10_fill_59 (by decide) (fun c9 => ?_) (fun c9 => ?_)
    · replace hw := hw.1 c9
      exact J70 u7 x1_6 H locs ls hw h (lv_sub hl [0, 1] rfl)
    · replace hw := hw.2 c9
      refine z_aload_n X hl 0 rfl rfl dX10_fill_62 ?_
      refine z_aload_n X hl 0 rfl rfl dX10_fill_63 ?_
      refine gM_X10_tokenAt (x := sI u7 8) X K h rfl q_1354 dX10_fill_64 ?_
      refine pM_X10_errorAt X K h q_1357 dX10_fill_67 (fun H locs h => ?_)
      exact J70 (pI u7 11 (sI u7 8)) x1_6 H locs ls hw h (lv_sub hl [0, 1] rfl)
  refine z_aload_n X hl 0 rfl rfl dX10_fill_0 ?_
  refine z_iconst X dX10_fill_1 ?_
  refine pM_X10_thrown X K h q_1339 dX10_fill_2 (fun H locs h => ?_)
  refine z_aload_n X hl 0 rfl rfl dX10_fill_5 ?_
  refine z_iconst X dX10_fill_6 ?_
  refine pM_X10_at X K h q_1356 dX10_fill_7 (fun H locs h => ?_)
  refine z_iconst X dX10_fill_10 ?_
  refine z_istore_n (i := 1) (lv' := [(1, zI 0), (0, .ref (a 0))]) X hl rfl (by decide) dX10_fill_11 rfl (fun ls hl => ?_)
  refine z_aload_n X hl 1 rfl rfl dX10_fill_12 ?_
  refine z_iconst X dX10_fill_13 ?_
  refine pM_X10_errorAt X K h q_1357 dX10_fill_14 (fun H locs h => ?_)
  refine z_aload_n X hl 1 rfl rfl dX10_fill_17 ?_
  refine r_callVv (rest := []) X K g h (ct_X10_reads (pI (pI (pI u0 0 0) 10 0) 11 (-1)) _ hw) lk_X10_186 0 rfl rfl ⟨rfl, rfl⟩ ⟨Nat.le_of_ble_eq_true rfl, Nat.le_of_ble_eq_true rfl⟩ rfl (lv_size hl) rfl (Nat.le_of_ble_eq_true rfl) dX10_fill_18 ⟨Nat.le_of_ble_eq_true rfl, Nat.le_of_ble_eq_true rfl⟩ (fun w' H locs hp h => ?_)
  obtain ⟨u1, rfl, hw⟩ := hp
  obtain ⟨n21, hw⟩ := hw
  have key21 : ∀ (n : Nat) (t : St × Int) (H : Heap) (locs : List Loc) (ls : Array Slot), Lp (B_X10_fill_21 post) n t → HW G (va_A (WM G a u0) s.heap.size) s.heap (WM G a t.1) H locs → lv_has ls 3 [(0, .ref (a 0)), (1, zI t.2)] → W p l e rm_X10_fill s m args below meth c H locs 0 0 (EndI G (WM G a u0) (Po (WM G a) post) args s 0 0 below) (F0 m 21 ls []) := by
    intro n
    induction n with
    | zero =>
      intro t H locs ls hw
      exact hw.elim
    | succ n21 ih21 =>
      rintro ⟨u2, x1_3⟩ H locs ls hw h hl
      replace hw : b_X10_fill_21 post (Lp (B_X10_fill_21 post) n21) u2 x1_3 := hw
      refine z_aload_n X hl 0 rfl rfl dX10_fill_21 ?_
      refine gM_X10_token (x := sI u2 7) X K h rfl q_1353 dX10_fill_22 ?_
      refine z_iconst X dX10_fill_25 ?_
      obtain ⟨h4, hw⟩ := hw
      refine z_icmp_ne (tgt := 55) X h4 (by decide) dX10_fill_26 (by decide) (fun c5 => ?_) (fun c5 => ?_)
      · replace hw := hw.1 c5
        exact J55 u2 x1_3 H locs ls hw h (lv_sub hl [0, 1] rfl)
      · replace hw := hw.2 c5
        refine z_iload_n X hl 1 rfl rfl dX10_fill_29 ?_
        refine z_bipush (v := 100) X dX10_fill_30 (by decide) ?_
        obtain ⟨h30, hw⟩ := hw
        refine z_icmp_ge (tgt := 55) X h30 (by decide) dX10_fill_32 (by decide) (fun c31 => ?_) (fun c31 => ?_)
        · replace hw := hw.1 c31
          exact J55 u2 x1_3 H locs ls hw h (lv_sub hl [0, 1] rfl)
        · replace hw := hw.2 c31
          refine z_aload_n X hl 0 rfl rfl dX10_fill_35 ?_
          refine gM_X10_read X K h q_1359 dX10_fill_36 ?_
          refine z_iload_n X hl 1 rfl rfl dX10_fill_39 ?_
          refine z_aload_n X hl 0 rfl rfl dX10_fill_40 ?_
          refine gM_X10_value (x := sI u2 9) X K h rfl q_1355 dX10_fill_41 ?_
          obtain ⟨h32, h33, hw⟩ := hw
          refine sM_7 X K h h32 h33 dX10_fill_44 (fun H locs h => ?_)
          refine z_iinc (lv' := [(1, zI (x1_3 + 1)), (0, .ref (a 0))]) X hl 1 rfl (by decide) dX10_fill_45 rfl (fun ls hl => ?_)
          refine z_aload_n X hl 1 rfl rfl dX10_fill_48 ?_
          refine r_callVv (rest := []) X K g h (ct_X10_reads (pA u2 7 x1_3 (sI u2 9)) _ hw) lk_X10_186 0 rfl rfl ⟨rfl, rfl⟩ ⟨Nat.le_of_ble_eq_true rfl, Nat.le_of_ble_eq_true rfl⟩ rfl (lv_size hl) rfl (Nat.le_of_ble_eq_true rfl) dX10_fill_49 ⟨Nat.le_of_ble_eq_true rfl, Nat.le_of_ble_eq_true rfl⟩ (fun w' H locs hp h => ?_)
          obtain ⟨u34, rfl, hw⟩ := hp
          refine z_goto (tgt := 21) X dX10_fill_52 (by decide) ?_
          exact ih21 (u34, x1_3 + 1) H locs ls hw h (lv_sub hl [1, 0] rfl)
  exact key21 n21 (u1, 0) H locs ls hw h (lv_sub hl [1, 0] rfl)
def w_X10_keepsItem (post : St → Prop) (u0 : St) (p1 : Int) (p2 : Int) : Prop :=
(0 ≤ sI u0 13) ∧ (sI u0 13 < 300) ∧ post (pI (pA (pA u0 8 (sI u0 13) p1) 9 (sI u0 13) p2) 13 ((sI u0 13) + 1))
abbrev rm_X10_keepsItem : Room := { frames := 0, cells := 0, slots := 0, locals := 0 }
set_option maxRecDepth 100000 in
set_option maxHeartbeats 4000000 in
theorem ct_X10_keepsItem {l : Launch} {G : Gr} {a : Nat → Nat} (u0 : St) (p1 : Int) (p2 : Int) (post : St → Prop) (hw : w_X10_keepsItem post u0 p1 p2) : CtV l G yX10_keepsItem (ws_ yX10_keepsItem cX10_keepsItem 3 (none)) rm_X10_keepsItem [.ref (a 0), zI p1, zI p2] (WM G a u0) 0 0 (PoV (WM G a) post) := by
  refine CtV.of (by decide) (Nat.le_of_ble_eq_true rfl) ?_
  intro p e s m args below meth c ls X hr hlk K g h hl
  have hl : lv_has ls 3 [(0, .ref (a 0)), (1, zI p1), (2, zI p2)] := hl
  obtain ⟨H, hH⟩ : ∃ H, H = s.heap := ⟨_, rfl⟩
  obtain ⟨locs, hL⟩ : ∃ L : List Loc, L = [] := ⟨_, rfl⟩
  replace h : HW G (va_A (WM G a u0) s.heap.size) s.heap (WM G a u0) H locs := by rw [hH, hL]; exact h
  suffices hg : W p l e rm_X10_keepsItem s m args below meth c H locs 0 0 (EndV G (WM G a u0) (PoV (WM G a) post) args s 0 0 below) (F0 m 0 ls []) by rw [hH, hL] at hg; exact hg
  clear hH hL
  refine z_aload_n X hl 0 rfl rfl dX10_keepsItem_0 ?_
  refine gM_X10_itemKind X K h q_1360 dX10_keepsItem_1 ?_
  refine z_aload_n X hl 0 rfl rfl dX10_keepsItem_4 ?_
  refine gM_X10_items (x := sI u0 13) X K h rfl q_1363 dX10_keepsItem_5 ?_
  refine z_iload_n X hl 1 rfl rfl dX10_keepsItem_8 ?_
  obtain ⟨h1, h2, hw⟩ := hw
  refine sM_8 X K h h1 h2 dX10_keepsItem_9 (fun H locs h => ?_)
  refine z_aload_n X hl 0 rfl rfl dX10_keepsItem_10 ?_
  refine gM_X10_itemValue X K h q_1361 dX10_keepsItem_11 ?_
  refine z_aload_n X hl 0 rfl rfl dX10_keepsItem_14 ?_
  refine gM_X10_items (x := sI u0 13) X K h rfl q_1363 dX10_keepsItem_15 ?_
  refine z_iload_n X hl 2 rfl rfl dX10_keepsItem_18 ?_
  refine sM_9 X K h h1 h2 dX10_keepsItem_19 (fun H locs h => ?_)
  refine z_aload_n X hl 0 rfl rfl dX10_keepsItem_20 ?_
  refine z_dup X rfl dX10_keepsItem_21 ?_
  refine gM_X10_items (x := sI u0 13) X K h rfl q_1363 dX10_keepsItem_22 ?_
  refine z_iconst X dX10_keepsItem_25 ?_
  refine z_iadd X dX10_keepsItem_26 ?_
  refine pM_X10_items X K h q_1363 dX10_keepsItem_27 (fun H locs h => ?_)
  exact r_vret X hr hlk K h (Nat.le_refl _) (Nat.le_refl _) dX10_keepsItem_30 ⟨_, rfl, hw⟩
def w_X10_opens (post : Int → St → Prop) (u0 : St) (p1 : Int) (p2 : Int) : Prop :=
(w_X10_isSignNow (fun (z1 : Int) => (InR z1) ∧ ((z1 = 0 → post 0 u0) ∧
 (¬ z1 = 0 → (InR p1) ∧ ((¬ p1 = 4 → (w_X10_keepsItem (fun  (u6 : St) => (w_X10_reads (fun  (u7 : St) => post 1 u7) u6)) u0 123 p2)) ∧
 (p1 = 4 → post 0 u0))))) u0 123)
abbrev rm_X10_opens : Room := { frames := 4, cells := 0, slots := 0, locals := 83 }
set_option maxRecDepth 100000 in
set_option maxHeartbeats 4000000 in
theorem ct_X10_opens {l : Launch} {G : Gr} {a : Nat → Nat} (u0 : St) (p1 : Int) (p2 : Int) (post : Int → St → Prop) (hw : w_X10_opens post u0 p1 p2) : Ct l G yX10_opens (ws_ yX10_opens cX10_opens 3 (some .boolean)) rm_X10_opens [.ref (a 0), zI p1, zI p2] (WM G a u0) 0 0 (Po (WM G a) post) := by
  refine Ct.of (by decide) (Nat.le_of_ble_eq_true rfl) ?_
  intro p e s m args below meth c ls X hr hlk K g h hl
  have hl : lv_has ls 3 [(0, .ref (a 0)), (1, zI p1), (2, zI p2)] := hl
  obtain ⟨H, hH⟩ : ∃ H, H = s.heap := ⟨_, rfl⟩
  obtain ⟨locs, hL⟩ : ∃ L : List Loc, L = [] := ⟨_, rfl⟩
  replace h : HW G (va_A (WM G a u0) s.heap.size) s.heap (WM G a u0) H locs := by rw [hH, hL]; exact h
  suffices hg : W p l e rm_X10_opens s m args below meth c H locs 0 0 (EndI G (WM G a u0) (Po (WM G a) post) args s 0 0 below) (F0 m 0 ls []) by rw [hH, hL] at hg; exact hg
  clear hH hL
  refine z_aload_n X hl 0 rfl rfl dX10_opens_0 ?_
  refine z_bipush (v := 123) X dX10_opens_1 (by decide) ?_
  refine r_callVi (rest := []) X K g h (ct_X10_isSignNow u0 123 _ hw) lk_X10_195 0 rfl rfl ⟨rfl, rfl⟩ ⟨Nat.le_of_ble_eq_true rfl, Nat.le_of_ble_eq_true rfl⟩ rfl (lv_size hl) rfl (Nat.le_of_ble_eq_true rfl) dX10_opens_3 ⟨Nat.le_of_ble_eq_true rfl, Nat.le_of_ble_eq_true rfl⟩ (fun z1 w' H locs hp h => ?_)
  obtain ⟨rfl, hw⟩ := hp
  obtain ⟨h2, hw⟩ := hw
  refine z_if_eq (tgt := 14) X h2 dX10_opens_6 (by decide) (fun c3 => ?_) (fun c3 => ?_)
  · replace hw := hw.1 c3
    refine z_iconst X dX10_opens_14 ?_
    exact r_zret X hr hlk K h (Nat.le_refl _) (Nat.le_refl _) dX10_opens_15 (by decide) ⟨_, rfl, hw⟩
  · replace hw := hw.2 c3
    refine z_iload_n X hl 1 rfl rfl dX10_opens_9 ?_
    refine z_iconst X dX10_opens_10 ?_
    obtain ⟨h4, hw⟩ := hw
    refine z_icmp_ne (tgt := 16) X h4 (by decide) dX10_opens_11 (by decide) (fun c5 => ?_) (fun c5 => ?_)
    · replace hw := hw.1 c5
      refine z_aload_n X hl 0 rfl rfl dX10_opens_16 ?_
      refine z_bipush (v := 123) X dX10_opens_17 (by decide) ?_
      refine z_iload_n X hl 2 rfl rfl dX10_opens_19 ?_
      refine r_callVv (rest := []) X K g h (ct_X10_keepsItem u0 123 p2 _ hw) lk_X10_198 0 rfl rfl ⟨rfl, rfl⟩ ⟨Nat.le_of_ble_eq_true rfl, Nat.le_of_ble_eq_true rfl⟩ rfl (lv_size hl) rfl (Nat.le_of_ble_eq_true rfl) dX10_opens_20 ⟨Nat.le_of_ble_eq_true rfl, Nat.le_of_ble_eq_true rfl⟩ (fun w' H locs hp h => ?_)
      obtain ⟨u6, rfl, hw⟩ := hp
      refine z_aload_n X hl 0 rfl rfl dX10_opens_23 ?_
      refine r_callVv (rest := []) X K g h (ct_X10_reads u6 _ hw) lk_X10_186 0 rfl rfl ⟨rfl, rfl⟩ ⟨Nat.le_of_ble_eq_true rfl, Nat.le_of_ble_eq_true rfl⟩ rfl (lv_size hl) rfl (Nat.le_of_ble_eq_true rfl) dX10_opens_24 ⟨Nat.le_of_ble_eq_true rfl, Nat.le_of_ble_eq_true rfl⟩ (fun w' H locs hp h => ?_)
      obtain ⟨u7, rfl, hw⟩ := hp
      refine z_iconst X dX10_opens_27 ?_
      exact r_zret X hr hlk K h (Nat.le_refl _) (Nat.le_refl _) dX10_opens_28 (by decide) ⟨_, rfl, hw⟩
    · replace hw := hw.2 c5
      refine z_iconst X dX10_opens_14 ?_
      exact r_zret X hr hlk K h (Nat.le_refl _) (Nat.le_refl _) dX10_opens_15 (by decide) ⟨_, rfl, hw⟩
def w_X10_readsItem (post : Int → St → Prop) (u0 : St) (p1 : Int) : Prop :=
(InR (sI u0 7)) ∧ ((¬ sI u0 7 = 2 → ((¬ sI u0 7 = 1 → post 0 u0) ∧
 (sI u0 7 = 1 → (InR (sI u0 9)) ∧ ((sI u0 9 = 123 → post 0 u0) ∧
 (¬ sI u0 9 = 123 → ((¬ sI u0 9 = 125 → (w_X10_reads (fun  (u7 : St) => ((¬ sI u0 9 = 42 → ((sI u0 9 = 46 → (w_X10_keepsItem (fun  (u12 : St) => post 1 u12) u7 (sI u0 9) 0)) ∧
 (¬ sI u0 9 = 46 → ((sI u0 9 = 44 → (w_X10_keepsItem (fun  (u17 : St) => post 1 u17) u7 (sI u0 9) 0)) ∧
 (¬ sI u0 9 = 44 → ((sI u0 9 = 45 → (w_X10_keepsItem (fun  (u22 : St) => post 1 u22) u7 (sI u0 9) 0)) ∧
 (¬ sI u0 9 = 45 → ((¬ sI u0 9 = 37 → ((¬ sI u0 9 = 64 → (InR (sI u7 7)) ∧ ((sI u7 7 = 3 → (w_X10_keepsItem (fun  (u30 : St) => (w_X10_reads (fun  (u32 : St) => post 1 u32) u30)) u7 (sI u0 9) (sI u7 9))) ∧
 (¬ sI u7 7 = 3 → post 0 u7))) ∧
 (sI u0 9 = 64 → (InR (sI u7 7)) ∧ ((sI u7 7 = 2 → (w_X10_keepsItem (fun  (u36 : St) => (w_X10_reads (fun  (u38 : St) => post 1 u38) u36)) u7 (sI u0 9) (sI u7 9))) ∧
 (¬ sI u7 7 = 2 → post 0 u7))))) ∧
 (sI u0 9 = 37 → (w_X10_keepsItem (fun  (u41 : St) => post 1 u41) u7 (sI u0 9) 0)))))))))) ∧
 (sI u0 9 = 42 → (w_X10_opens (fun (z43 : Int) (u44 : St) => (z43 = 0 ∨ z43 = 1) ∧ post z43 u44) u7 p1 0)))) u0)) ∧
 (sI u0 9 = 125 → post 0 u0))))))) ∧
 (sI u0 7 = 2 → (w_X10_in (fun (z46 : Int) => (InR z46) ∧ ((¬ z46 = 0 → (w_X10_reads (fun  (u49 : St) => (w_X10_opens (fun (z50 : Int) (u51 : St) => (z50 = 0 ∨ z50 = 1) ∧ post z50 u51) u49 p1 (sI u0 9))) u0)) ∧
 (z46 = 0 → post 0 u0))) (sI u0 9) 1 20)))
abbrev rm_X10_readsItem : Room := { frames := 5, cells := 0, slots := 0, locals := 105 }
set_option maxRecDepth 100000 in
set_option maxHeartbeats 4000000 in
theorem ct_X10_readsItem {l : Launch} {G : Gr} {a : Nat → Nat} (u0 : St) (p1 : Int) (post : Int → St → Prop) (hw : w_X10_readsItem post u0 p1) : Ct l G yX10_readsItem (ws_ yX10_readsItem cX10_readsItem 4 (some .boolean)) rm_X10_readsItem [.ref (a 0), zI p1] (WM G a u0) 0 0 (Po (WM G a) post) := by
  refine Ct.of (by decide) (Nat.le_of_ble_eq_true rfl) ?_
  intro p e s m args below meth c ls X hr hlk K g h hl
  have hl : lv_has ls 4 [(0, .ref (a 0)), (1, zI p1)] := hl
  obtain ⟨H, hH⟩ : ∃ H, H = s.heap := ⟨_, rfl⟩
  obtain ⟨locs, hL⟩ : ∃ L : List Loc, L = [] := ⟨_, rfl⟩
  replace h : HW G (va_A (WM G a u0) s.heap.size) s.heap (WM G a u0) H locs := by rw [hH, hL]; exact h
  suffices hg : W p l e rm_X10_readsItem s m args below meth c H locs 0 0 (EndI G (WM G a u0) (Po (WM G a) post) args s 0 0 below) (F0 m 0 ls []) by rw [hH, hL] at hg; exact hg
  clear hH hL
  refine z_aload_n X hl 0 rfl rfl dX10_readsItem_0 ?_
  refine gM_X10_token (x := sI u0 7) X K h rfl q_1353 dX10_readsItem_1 ?_
  refine z_iconst X dX10_readsItem_4 ?_
  obtain ⟨h1, hw⟩ := hw
  refine z_icmp_ne (tgt := 36) X h1 (by decide) dX10_readsItem_5 (by decide) (fun c2 => ?_) (fun c2 => ?_)
  · replace hw := hw.1 c2
    refine z_aload_n X hl 0 rfl rfl dX10_readsItem_36 ?_
    refine gM_X10_token (x := sI u0 7) X K h rfl q_1353 dX10_readsItem_37 ?_
    refine z_iconst X dX10_readsItem_40 ?_
    refine z_icmp_ne (tgt := 62) X h1 (by decide) dX10_readsItem_41 (by decide) (fun c3 => ?_) (fun c3 => ?_)
    · replace hw := hw.1 c3
      refine z_iconst X dX10_readsItem_62 ?_
      exact r_zret X hr hlk K h (Nat.le_refl _) (Nat.le_refl _) dX10_readsItem_63 (by decide) ⟨_, rfl, hw⟩
    · replace hw := hw.2 c3
      refine z_aload_n X hl 0 rfl rfl dX10_readsItem_44 ?_
      refine gM_X10_value (x := sI u0 9) X K h rfl q_1355 dX10_readsItem_45 ?_
      refine z_bipush (v := 123) X dX10_readsItem_48 (by decide) ?_
      obtain ⟨h4, hw⟩ := hw
      refine z_icmp_eq (tgt := 62) X h4 (by decide) dX10_readsItem_50 (by decide) (fun c5 => ?_) (fun c5 => ?_)
      · replace hw := hw.1 c5
        refine z_iconst X dX10_readsItem_62 ?_
        exact r_zret X hr hlk K h (Nat.le_refl _) (Nat.le_refl _) dX10_readsItem_63 (by decide) ⟨_, rfl, hw⟩
      · replace hw := hw.2 c5
        refine z_aload_n X hl 0 rfl rfl dX10_readsItem_53 ?_
        refine gM_X10_value (x := sI u0 9) X K h rfl q_1355 dX10_readsItem_54 ?_
        refine z_bipush (v := 125) X dX10_readsItem_57 (by decide) ?_
        refine z_icmp_ne (tgt := 64) X h4 (by decide) dX10_readsItem_59 (by decide) (fun c6 => ?_) (fun c6 => ?_)
        · replace hw := hw.1 c6
          refine z_aload_n X hl 0 rfl rfl dX10_readsItem_64 ?_
          refine gM_X10_value (x := sI u0 9) X K h rfl q_1355 dX10_readsItem_65 ?_
          refine z_istore_n (i := 2) (lv' := [(2, zI (sI u0 9)), (0, .ref (a 0)), (1, zI p1)]) X hl rfl (by decide) dX10_readsItem_68 rfl (fun ls hl => ?_)
          refine z_aload_n X hl 1 rfl rfl dX10_readsItem_69 ?_
          refine r_callVv (rest := []) X K g h (ct_X10_reads u0 _ hw) lk_X10_186 0 rfl rfl ⟨rfl, rfl⟩ ⟨Nat.le_of_ble_eq_true rfl, Nat.le_of_ble_eq_true rfl⟩ rfl (lv_size hl) rfl (Nat.le_of_ble_eq_true rfl) dX10_readsItem_70 ⟨Nat.le_of_ble_eq_true rfl, Nat.le_of_ble_eq_true rfl⟩ (fun w' H locs hp h => ?_)
          obtain ⟨u7, rfl, hw⟩ := hp
          refine z_iload_n X hl 0 rfl rfl dX10_readsItem_73 ?_
          refine z_bipush (v := 42) X dX10_readsItem_74 (by decide) ?_
          refine z_icmp_ne (tgt := 86) X h4 (by decide) dX10_readsItem_76 (by decide) (fun c8 => ?_) (fun c8 => ?_)
          · replace hw := hw.1 c8
            refine z_iload_n X hl 0 rfl rfl dX10_readsItem_86 ?_
            refine z_bipush (v := 46) X dX10_readsItem_87 (by decide) ?_
            refine z_icmp_eq (tgt := 110) X h4 (by decide) dX10_readsItem_89 (by decide) (fun c9 => ?_) (fun c9 => ?_)
            · replace hw := hw.1 c9
              refine z_iconst X dX10_readsItem_110 ?_
              refine z_goto (tgt := 115) X dX10_readsItem_111 (by decide) ?_
              refine z_istore_n (i := 3) (lv' := [(3, zI 1), (2, zI (sI u0 9)), (0, .ref (a 0)), (1, zI p1)]) X hl rfl (by decide) dX10_readsItem_115 rfl (fun ls hl => ?_)
              refine z_iload_n X hl 0 rfl rfl dX10_readsItem_116 ?_
              refine z_if_ne (tgt := 140) X (by decide) dX10_readsItem_117 (by decide) (fun _ => ?_) (fun c10 => absurd c10 (by decide))
              refine z_aload_n X hl 2 rfl rfl dX10_readsItem_140 ?_
              refine z_iload_n X hl 1 rfl rfl dX10_readsItem_141 ?_
              refine z_iload_n X hl 0 rfl rfl dX10_readsItem_142 ?_
              refine z_if_eq (tgt := 150) X (by decide) dX10_readsItem_143 (by decide) (fun c11 => absurd c11 (by decide)) (fun _ => ?_)
              refine z_iconst X dX10_readsItem_146 ?_
              refine z_goto (tgt := 154) X dX10_readsItem_147 (by decide) ?_
              refine r_callVv (rest := []) X K g h (ct_X10_keepsItem u7 (sI u0 9) 0 _ hw) lk_X10_198 0 rfl rfl ⟨rfl, rfl⟩ ⟨Nat.le_of_ble_eq_true rfl, Nat.le_of_ble_eq_true rfl⟩ rfl (lv_size hl) rfl (Nat.le_of_ble_eq_true rfl) dX10_readsItem_154 ⟨Nat.le_of_ble_eq_true rfl, Nat.le_of_ble_eq_true rfl⟩ (fun w' H locs hp h => ?_)
              obtain ⟨u12, rfl, hw⟩ := hp
              refine z_iload_n X hl 0 rfl rfl dX10_readsItem_157 ?_
              refine z_if_ne (tgt := 165) X (by decide) dX10_readsItem_158 (by decide) (fun _ => ?_) (fun c13 => absurd c13 (by decide))
              refine z_iconst X dX10_readsItem_165 ?_
              exact r_zret X hr hlk K h (Nat.le_refl _) (Nat.le_refl _) dX10_readsItem_166 (by decide) ⟨_, rfl, hw⟩
            · replace hw := hw.2 c9
              refine z_iload_n X hl 0 rfl rfl dX10_readsItem_92 ?_
              refine z_bipush (v := 44) X dX10_readsItem_93 (by decide) ?_
              refine z_icmp_eq (tgt := 110) X h4 (by decide) dX10_readsItem_95 (by decide) (fun c14 => ?_) (fun c14 => ?_)
              · replace hw := hw.1 c14
                refine z_iconst X dX10_readsItem_110 ?_
                refine z_goto (tgt := 115) X dX10_readsItem_111 (by decide) ?_
                refine z_istore_n (i := 3) (lv' := [(3, zI 1), (2, zI (sI u0 9)), (0, .ref (a 0)), (1, zI p1)]) X hl rfl (by decide) dX10_readsItem_115 rfl (fun ls hl => ?_)
                refine z_iload_n X hl 0 rfl rfl dX10_readsItem_116 ?_
                refine z_if_ne (tgt := 140) X (by decide) dX10_readsItem_117 (by decide) (fun _ => ?_) (fun c15 => absurd c15 (by decide))
                refine z_aload_n X hl 2 rfl rfl dX10_readsItem_140 ?_
                refine z_iload_n X hl 1 rfl rfl dX10_readsItem_141 ?_
                refine z_iload_n X hl 0 rfl rfl dX10_readsItem_142 ?_
                refine z_if_eq (tgt := 150) X (by decide) dX10_readsItem_143 (by decide) (fun c16 => absurd c16 (by decide)) (fun _ => ?_)
                refine z_iconst X dX10_readsItem_146 ?_
                refine z_goto (tgt := 154) X dX10_readsItem_147 (by decide) ?_
                refine r_callVv (rest := []) X K g h (ct_X10_keepsItem u7 (sI u0 9) 0 _ hw) lk_X10_198 0 rfl rfl ⟨rfl, rfl⟩ ⟨Nat.le_of_ble_eq_true rfl, Nat.le_of_ble_eq_true rfl⟩ rfl (lv_size hl) rfl (Nat.le_of_ble_eq_true rfl) dX10_readsItem_154 ⟨Nat.le_of_ble_eq_true rfl, Nat.le_of_ble_eq_true rfl⟩ (fun w' H locs hp h => ?_)
                obtain ⟨u17, rfl, hw⟩ := hp
                refine z_iload_n X hl 0 rfl rfl dX10_readsItem_157 ?_
                refine z_if_ne (tgt := 165) X (by decide) dX10_readsItem_158 (by decide) (fun _ => ?_) (fun c18 => absurd c18 (by decide))
                refine z_iconst X dX10_readsItem_165 ?_
                exact r_zret X hr hlk K h (Nat.le_refl _) (Nat.le_refl _) dX10_readsItem_166 (by decide) ⟨_, rfl, hw⟩
              · replace hw := hw.2 c14
                refine z_iload_n X hl 0 rfl rfl dX10_readsItem_98 ?_
                refine z_bipush (v := 45) X dX10_readsItem_99 (by decide) ?_
                refine z_icmp_eq (tgt := 110) X h4 (by decide) dX10_readsItem_101 (by decide) (fun c19 => ?_) (fun c19 => ?_)
                · replace hw := hw.1 c19
                  refine z_iconst X dX10_readsItem_110 ?_
                  refine z_goto (tgt := 115) X dX10_readsItem_111 (by decide) ?_
                  refine z_istore_n (i := 3) (lv' := [(3, zI 1), (2, zI (sI u0 9)), (0, .ref (a 0)), (1, zI p1)]) X hl rfl (by decide) dX10_readsItem_115 rfl (fun ls hl => ?_)
                  refine z_iload_n X hl 0 rfl rfl dX10_readsItem_116 ?_
                  refine z_if_ne (tgt := 140) X (by decide) dX10_readsItem_117 (by decide) (fun _ => ?_) (fun c20 => absurd c20 (by decide))
                  refine z_aload_n X hl 2 rfl rfl dX10_readsItem_140 ?_
                  refine z_iload_n X hl 1 rfl rfl dX10_readsItem_141 ?_
                  refine z_iload_n X hl 0 rfl rfl dX10_readsItem_142 ?_
                  refine z_if_eq (tgt := 150) X (by decide) dX10_readsItem_143 (by decide) (fun c21 => absurd c21 (by decide)) (fun _ => ?_)
                  refine z_iconst X dX10_readsItem_146 ?_
                  refine z_goto (tgt := 154) X dX10_readsItem_147 (by decide) ?_
                  refine r_callVv (rest := []) X K g h (ct_X10_keepsItem u7 (sI u0 9) 0 _ hw) lk_X10_198 0 rfl rfl ⟨rfl, rfl⟩ ⟨Nat.le_of_ble_eq_true rfl, Nat.le_of_ble_eq_true rfl⟩ rfl (lv_size hl) rfl (Nat.le_of_ble_eq_true rfl) dX10_readsItem_154 ⟨Nat.le_of_ble_eq_true rfl, Nat.le_of_ble_eq_true rfl⟩ (fun w' H locs hp h => ?_)
                  obtain ⟨u22, rfl, hw⟩ := hp
                  refine z_iload_n X hl 0 rfl rfl dX10_readsItem_157 ?_
                  refine z_if_ne (tgt := 165) X (by decide) dX10_readsItem_158 (by decide) (fun _ => ?_) (fun c23 => absurd c23 (by decide))
                  refine z_iconst X dX10_readsItem_165 ?_
                  exact r_zret X hr hlk K h (Nat.le_refl _) (Nat.le_refl _) dX10_readsItem_166 (by decide) ⟨_, rfl, hw⟩
                · replace hw := hw.2 c19
                  refine z_iload_n X hl 0 rfl rfl dX10_readsItem_104 ?_
                  refine z_bipush (v := 37) X dX10_readsItem_105 (by decide) ?_
                  refine z_icmp_ne (tgt := 114) X h4 (by decide) dX10_readsItem_107 (by decide) (fun c24 => ?_) (fun c24 => ?_)
                  · replace hw := hw.1 c24
                    refine z_iconst X dX10_readsItem_114 ?_
                    refine z_istore_n (i := 3) (lv' := [(3, zI 0), (2, zI (sI u0 9)), (0, .ref (a 0)), (1, zI p1)]) X hl rfl (by decide) dX10_readsItem_115 rfl (fun ls hl => ?_)
                    refine z_iload_n X hl 0 rfl rfl dX10_readsItem_116 ?_
                    refine z_if_ne (tgt := 140) X (by decide) dX10_readsItem_117 (by decide) (fun c25 => absurd c25 (by decide)) (fun _ => ?_)
                    refine z_aload_n X hl 2 rfl rfl dX10_readsItem_120 ?_
                    refine gM_X10_token (x := sI u7 7) X K h rfl q_1353 dX10_readsItem_121 ?_
                    refine z_iload_n X hl 1 rfl rfl dX10_readsItem_124 ?_
                    refine z_bipush (v := 64) X dX10_readsItem_125 (by decide) ?_
                    refine z_icmp_ne (tgt := 134) X h4 (by decide) dX10_readsItem_127 (by decide) (fun c26 => ?_) (fun c26 => ?_)
                    · replace hw := hw.1 c26
                      refine z_iconst X dX10_readsItem_134 ?_
                      obtain ⟨h27, hw⟩ := hw
                      refine z_icmp_eq (tgt := 140) X h27 (by decide) dX10_readsItem_135 (by decide) (fun c28 => ?_) (fun c28 => ?_)
                      · replace hw := hw.1 c28
                        refine z_aload_n X hl 2 rfl rfl dX10_readsItem_140 ?_
                        refine z_iload_n X hl 1 rfl rfl dX10_readsItem_141 ?_
                        refine z_iload_n X hl 0 rfl rfl dX10_readsItem_142 ?_
                        refine z_if_eq (tgt := 150) X (by decide) dX10_readsItem_143 (by decide) (fun _ => ?_) (fun c29 => absurd c29 (by decide))
                        refine z_aload_n X hl 2 rfl rfl dX10_readsItem_150 ?_
                        refine gM_X10_value (x := sI u7 9) X K h rfl q_1355 dX10_readsItem_151 ?_
                        refine r_callVv (rest := []) X K g h (ct_X10_keepsItem u7 (sI u0 9) (sI u7 9) _ hw) lk_X10_198 0 rfl rfl ⟨rfl, rfl⟩ ⟨Nat.le_of_ble_eq_true rfl, Nat.le_of_ble_eq_true rfl⟩ rfl (lv_size hl) rfl (Nat.le_of_ble_eq_true rfl) dX10_readsItem_154 ⟨Nat.le_of_ble_eq_true rfl, Nat.le_of_ble_eq_true rfl⟩ (fun w' H locs hp h => ?_)
                        obtain ⟨u30, rfl, hw⟩ := hp
                        refine z_iload_n X hl 0 rfl rfl dX10_readsItem_157 ?_
                        refine z_if_ne (tgt := 165) X (by decide) dX10_readsItem_158 (by decide) (fun c31 => absurd c31 (by decide)) (fun _ => ?_)
                        refine z_aload_n X hl 2 rfl rfl dX10_readsItem_161 ?_
                        refine r_callVv (rest := []) X K g h (ct_X10_reads u30 _ hw) lk_X10_186 0 rfl rfl ⟨rfl, rfl⟩ ⟨Nat.le_of_ble_eq_true rfl, Nat.le_of_ble_eq_true rfl⟩ rfl (lv_size hl) rfl (Nat.le_of_ble_eq_true rfl) dX10_readsItem_162 ⟨Nat.le_of_ble_eq_true rfl, Nat.le_of_ble_eq_true rfl⟩ (fun w' H locs hp h => ?_)
                        obtain ⟨u32, rfl, hw⟩ := hp
                        refine z_iconst X dX10_readsItem_165 ?_
                        exact r_zret X hr hlk K h (Nat.le_refl _) (Nat.le_refl _) dX10_readsItem_166 (by decide) ⟨_, rfl, hw⟩
                      · replace hw := hw.2 c28
                        refine z_iconst X dX10_readsItem_138 ?_
                        exact r_zret X hr hlk K h (Nat.le_refl _) (Nat.le_refl _) dX10_readsItem_139 (by decide) ⟨_, rfl, hw⟩
                    · replace hw := hw.2 c26
                      refine z_iconst X dX10_readsItem_130 ?_
                      refine z_goto (tgt := 135) X dX10_readsItem_131 (by decide) ?_
                      obtain ⟨h33, hw⟩ := hw
                      refine z_icmp_eq (tgt := 140) X h33 (by decide) dX10_readsItem_135 (by decide) (fun c34 => ?_) (fun c34 => ?_)
                      · replace hw := hw.1 c34
                        refine z_aload_n X hl 2 rfl rfl dX10_readsItem_140 ?_
                        refine z_iload_n X hl 1 rfl rfl dX10_readsItem_141 ?_
                        refine z_iload_n X hl 0 rfl rfl dX10_readsItem_142 ?_
                        refine z_if_eq (tgt := 150) X (by decide) dX10_readsItem_143 (by decide) (fun _ => ?_) (fun c35 => absurd c35 (by decide))
                        refine z_aload_n X hl 2 rfl rfl dX10_readsItem_150 ?_
                        refine gM_X10_value (x := sI u7 9) X K h rfl q_1355 dX10_readsItem_151 ?_
                        refine r_callVv (rest := []) X K g h (ct_X10_keepsItem u7 (sI u0 9) (sI u7 9) _ hw) lk_X10_198 0 rfl rfl ⟨rfl, rfl⟩ ⟨Nat.le_of_ble_eq_true rfl, Nat.le_of_ble_eq_true rfl⟩ rfl (lv_size hl) rfl (Nat.le_of_ble_eq_true rfl) dX10_readsItem_154 ⟨Nat.le_of_ble_eq_true rfl, Nat.le_of_ble_eq_true rfl⟩ (fun w' H locs hp h => ?_)
                        obtain ⟨u36, rfl, hw⟩ := hp
                        refine z_iload_n X hl 0 rfl rfl dX10_readsItem_157 ?_
                        refine z_if_ne (tgt := 165) X (by decide) dX10_readsItem_158 (by decide) (fun c37 => absurd c37 (by decide)) (fun _ => ?_)
                        refine z_aload_n X hl 2 rfl rfl dX10_readsItem_161 ?_
                        refine r_callVv (rest := []) X K g h (ct_X10_reads u36 _ hw) lk_X10_186 0 rfl rfl ⟨rfl, rfl⟩ ⟨Nat.le_of_ble_eq_true rfl, Nat.le_of_ble_eq_true rfl⟩ rfl (lv_size hl) rfl (Nat.le_of_ble_eq_true rfl) dX10_readsItem_162 ⟨Nat.le_of_ble_eq_true rfl, Nat.le_of_ble_eq_true rfl⟩ (fun w' H locs hp h => ?_)
                        obtain ⟨u38, rfl, hw⟩ := hp
                        refine z_iconst X dX10_readsItem_165 ?_
                        exact r_zret X hr hlk K h (Nat.le_refl _) (Nat.le_refl _) dX10_readsItem_166 (by decide) ⟨_, rfl, hw⟩
                      · replace hw := hw.2 c34
                        refine z_iconst X dX10_readsItem_138 ?_
                        exact r_zret X hr hlk K h (Nat.le_refl _) (Nat.le_refl _) dX10_readsItem_139 (by decide) ⟨_, rfl, hw⟩
                  · replace hw := hw.2 c24
                    refine z_iconst X dX10_readsItem_110 ?_
                    refine z_goto (tgt := 115) X dX10_readsItem_111 (by decide) ?_
                    refine z_istore_n (i := 3) (lv' := [(3, zI 1), (2, zI (sI u0 9)), (0, .ref (a 0)), (1, zI p1)]) X hl rfl (by decide) dX10_readsItem_115 rfl (fun ls hl => ?_)
                    refine z_iload_n X hl 0 rfl rfl dX10_readsItem_116 ?_
                    refine z_if_ne (tgt := 140) X (by decide) dX10_readsItem_117 (by decide) (fun _ => ?_) (fun c39 => absurd c39 (by decide))
                    refine z_aload_n X hl 2 rfl rfl dX10_readsItem_140 ?_
                    refine z_iload_n X hl 1 rfl rfl dX10_readsItem_141 ?_
                    refine z_iload_n X hl 0 rfl rfl dX10_readsItem_142 ?_
                    refine z_if_eq (tgt := 150) X (by decide) dX10_readsItem_143 (by decide) (fun c40 => absurd c40 (by decide)) (fun _ => ?_)
                    refine z_iconst X dX10_readsItem_146 ?_
                    refine z_goto (tgt := 154) X dX10_readsItem_147 (by decide) ?_
                    refine r_callVv (rest := []) X K g h (ct_X10_keepsItem u7 (sI u0 9) 0 _ hw) lk_X10_198 0 rfl rfl ⟨rfl, rfl⟩ ⟨Nat.le_of_ble_eq_true rfl, Nat.le_of_ble_eq_true rfl⟩ rfl (lv_size hl) rfl (Nat.le_of_ble_eq_true rfl) dX10_readsItem_154 ⟨Nat.le_of_ble_eq_true rfl, Nat.le_of_ble_eq_true rfl⟩ (fun w' H locs hp h => ?_)
                    obtain ⟨u41, rfl, hw⟩ := hp
                    refine z_iload_n X hl 0 rfl rfl dX10_readsItem_157 ?_
                    refine z_if_ne (tgt := 165) X (by decide) dX10_readsItem_158 (by decide) (fun _ => ?_) (fun c42 => absurd c42 (by decide))
                    refine z_iconst X dX10_readsItem_165 ?_
                    exact r_zret X hr hlk K h (Nat.le_refl _) (Nat.le_refl _) dX10_readsItem_166 (by decide) ⟨_, rfl, hw⟩
          · replace hw := hw.2 c8
            refine z_aload_n X hl 1 rfl rfl dX10_readsItem_79 ?_
            refine z_iload_n X hl 2 rfl rfl dX10_readsItem_80 ?_
            refine z_iconst X dX10_readsItem_81 ?_
            refine r_callVi (rest := []) X K g h (ct_X10_opens u7 p1 0 _ hw) lk_X10_202 0 rfl rfl ⟨rfl, rfl⟩ ⟨Nat.le_of_ble_eq_true rfl, Nat.le_of_ble_eq_true rfl⟩ rfl (lv_size hl) rfl (Nat.le_of_ble_eq_true rfl) dX10_readsItem_82 ⟨Nat.le_of_ble_eq_true rfl, Nat.le_of_ble_eq_true rfl⟩ (fun z43 w' H locs hp h => ?_)
            obtain ⟨u44, rfl, hw⟩ := hp
            obtain ⟨h45, hw⟩ := hw
            exact r_zret X hr hlk K h (Nat.le_refl _) (Nat.le_refl _) dX10_readsItem_85 h45 ⟨_, rfl, hw⟩
        · replace hw := hw.2 c6
          refine z_iconst X dX10_readsItem_62 ?_
          exact r_zret X hr hlk K h (Nat.le_refl _) (Nat.le_refl _) dX10_readsItem_63 (by decide) ⟨_, rfl, hw⟩
  · replace hw := hw.2 c2
    refine z_aload_n X hl 0 rfl rfl dX10_readsItem_8 ?_
    refine gM_X10_value (x := sI u0 9) X K h rfl q_1355 dX10_readsItem_9 ?_
    refine z_istore_n (i := 2) (lv' := [(2, zI (sI u0 9)), (0, .ref (a 0)), (1, zI p1)]) X hl rfl (by decide) dX10_readsItem_12 rfl (fun ls hl => ?_)
    refine z_iload_n X hl 0 rfl rfl dX10_readsItem_13 ?_
    refine z_iconst X dX10_readsItem_14 ?_
    refine z_bipush (v := 20) X dX10_readsItem_15 (by decide) ?_
    refine r_callSi (rest := []) X K g h (ct_X10_in (w := WM G a u0) (sI u0 9) 1 20 _ hw) lk_X10_66 ⟨rfl, rfl⟩ ⟨Nat.le_of_ble_eq_true rfl, Nat.le_of_ble_eq_true rfl⟩ rfl (lv_size hl) rfl (Nat.le_of_ble_eq_true rfl) dX10_readsItem_17 ⟨Nat.le_of_ble_eq_true rfl, Nat.le_of_ble_eq_true rfl⟩ (fun z46 w' H locs hp h => ?_)
    obtain ⟨rfl, hw⟩ := hp
    obtain ⟨h47, hw⟩ := hw
    refine z_if_ne (tgt := 25) X h47 dX10_readsItem_20 (by decide) (fun c48 => ?_) (fun c48 => ?_)
    · replace hw := hw.1 c48
      refine z_aload_n X hl 1 rfl rfl dX10_readsItem_25 ?_
      refine r_callVv (rest := []) X K g h (ct_X10_reads u0 _ hw) lk_X10_186 0 rfl rfl ⟨rfl, rfl⟩ ⟨Nat.le_of_ble_eq_true rfl, Nat.le_of_ble_eq_true rfl⟩ rfl (lv_size hl) rfl (Nat.le_of_ble_eq_true rfl) dX10_readsItem_26 ⟨Nat.le_of_ble_eq_true rfl, Nat.le_of_ble_eq_true rfl⟩ (fun w' H locs hp h => ?_)
      obtain ⟨u49, rfl, hw⟩ := hp
      refine z_aload_n X hl 1 rfl rfl dX10_readsItem_29 ?_
      refine z_iload_n X hl 2 rfl rfl dX10_readsItem_30 ?_
      refine z_iload_n X hl 0 rfl rfl dX10_readsItem_31 ?_
      refine r_callVi (rest := []) X K g h (ct_X10_opens u49 p1 (sI u0 9) _ hw) lk_X10_202 0 rfl rfl ⟨rfl, rfl⟩ ⟨Nat.le_of_ble_eq_true rfl, Nat.le_of_ble_eq_true rfl⟩ rfl (lv_size hl) rfl (Nat.le_of_ble_eq_true rfl) dX10_readsItem_32 ⟨Nat.le_of_ble_eq_true rfl, Nat.le_of_ble_eq_true rfl⟩ (fun z50 w' H locs hp h => ?_)
      obtain ⟨u51, rfl, hw⟩ := hp
      obtain ⟨h52, hw⟩ := hw
      exact r_zret X hr hlk K h (Nat.le_refl _) (Nat.le_refl _) dX10_readsItem_35 h52 ⟨_, rfl, hw⟩
    · replace hw := hw.2 c48
      refine z_iconst X dX10_readsItem_23 ?_
      exact r_zret X hr hlk K h (Nat.le_refl _) (Nat.le_refl _) dX10_readsItem_24 (by decide) ⟨_, rfl, hw⟩
def b_X10_readsAll_16 (post : Int → St → Prop) (K16 : St × Int → Prop) (u2 : St) (x1_3 : Int) : Prop :=
(InR (sI u2 7)) ∧ ((sI u2 7 = 0 → (InR x1_3) ∧ ((¬ x1_3 = 0 → post 0 u2) ∧
 (x1_3 = 0 → post 1 u2))) ∧
 (¬ sI u2 7 = 0 → (InR x1_3) ∧ ((x1_3 ≤ 0 → (w_X10_readsItem (fun (z10 : Int) (u11 : St) => (InR z10) ∧ ((¬ z10 = 0 → (0 ≤ (sI u11 13) - 1) ∧ ((sI u11 13) - 1 < 300) ∧ (InR (sA u11 8 ((sI u11 13) - 1))) ∧ ((sA u11 8 ((sI u11 13) - 1) = 123 → (0 ≤ x1_3) ∧ (x1_3 < 4) ∧ K16 ((pA u11 11 x1_3 ((sI u11 13) - 1)), x1_3 + 1)) ∧
 (¬ sA u11 8 ((sI u11 13) - 1) = 123 → K16 (u11, x1_3)))) ∧
 (z10 = 0 → post 0 u11))) u2 x1_3)) ∧
 (¬ x1_3 ≤ 0 → (w_X10_isSignNow (fun (z20 : Int) => (InR z20) ∧ ((z20 = 0 → (w_X10_readsItem (fun (z23 : Int) (u24 : St) => (InR z23) ∧ ((¬ z23 = 0 → (0 ≤ (sI u24 13) - 1) ∧ ((sI u24 13) - 1 < 300) ∧ (InR (sA u24 8 ((sI u24 13) - 1))) ∧ ((sA u24 8 ((sI u24 13) - 1) = 123 → (0 ≤ x1_3) ∧ (x1_3 < 4) ∧ K16 ((pA u24 11 x1_3 ((sI u24 13) - 1)), x1_3 + 1)) ∧
 (¬ sA u24 8 ((sI u24 13) - 1) = 123 → K16 (u24, x1_3)))) ∧
 (z23 = 0 → post 0 u24))) u2 x1_3)) ∧
 (¬ z20 = 0 → (0 ≤ x1_3 + (-1)) ∧ (x1_3 + (-1) < 4) ∧ (0 ≤ sA u2 11 (x1_3 + (-1))) ∧ (sA u2 11 (x1_3 + (-1)) < 300) ∧ (w_X10_keepsItem (fun  (u37 : St) => (w_X10_reads (fun  (u38 : St) => K16 (u38, x1_3 + (-1))) u37)) (pA u2 10 (sA u2 11 (x1_3 + (-1))) (sI u2 13)) 125 0)))) u2 125)))))
def B_X10_readsAll_16 (post : Int → St → Prop) : (St × Int → Prop) → St × Int → Prop := fun K t => b_X10_readsAll_16 post K t.1 t.2
def w_X10_readsAll (post : Int → St → Prop) (u0 : St) : Prop :=
(w_X10_reads (fun  (u1 : St) => (∃ n : Nat, Lp (B_X10_readsAll_16 post) n (u1, 0))) (pI (pI u0 10 0) 13 0))
abbrev rm_X10_readsAll : Room := { frames := 6, cells := 0, slots := 0, locals := 128 }
set_option maxRecDepth 100000 in
set_option maxHeartbeats 4000000 in
theorem ct_X10_readsAll {l : Launch} {G : Gr} {a : Nat → Nat} (u0 : St) (post : Int → St → Prop) (hw : w_X10_readsAll post u0) : Ct l G yX10_readsAll (ws_ yX10_readsAll cX10_readsAll 2 (some .boolean)) rm_X10_readsAll [.ref (a 0)] (WM G a u0) 0 0 (Po (WM G a) post) := by
  refine Ct.of (by decide) (Nat.le_of_ble_eq_true rfl) ?_
  intro p e s m args below meth c ls X hr hlk K g h hl
  have hl : lv_has ls 2 [(0, .ref (a 0))] := hl
  obtain ⟨H, hH⟩ : ∃ H, H = s.heap := ⟨_, rfl⟩
  obtain ⟨locs, hL⟩ : ∃ L : List Loc, L = [] := ⟨_, rfl⟩
  replace h : HW G (va_A (WM G a u0) s.heap.size) s.heap (WM G a u0) H locs := by rw [hH, hL]; exact h
  suffices hg : W p l e rm_X10_readsAll s m args below meth c H locs 0 0 (EndI G (WM G a u0) (Po (WM G a) post) args s 0 0 below) (F0 m 0 ls []) by rw [hH, hL] at hg; exact hg
  clear hH hL
  refine z_aload_n X hl 0 rfl rfl dX10_readsAll_0 ?_
  refine z_iconst X dX10_readsAll_1 ?_
  refine pM_X10_at X K h q_1356 dX10_readsAll_2 (fun H locs h => ?_)
  refine z_aload_n X hl 0 rfl rfl dX10_readsAll_5 ?_
  refine z_iconst X dX10_readsAll_6 ?_
  refine pM_X10_items X K h q_1363 dX10_readsAll_7 (fun H locs h => ?_)
  refine z_iconst X dX10_readsAll_10 ?_
  refine z_istore_n (i := 1) (lv' := [(1, zI 0), (0, .ref (a 0))]) X hl rfl (by decide) dX10_readsAll_11 rfl (fun ls hl => ?_)
  refine z_aload_n X hl 1 rfl rfl dX10_readsAll_12 ?_
  refine r_callVv (rest := []) X K g h (ct_X10_reads (pI (pI u0 10 0) 13 0) _ hw) lk_X10_186 0 rfl rfl ⟨rfl, rfl⟩ ⟨Nat.le_of_ble_eq_true rfl, Nat.le_of_ble_eq_true rfl⟩ rfl (lv_size hl) rfl (Nat.le_of_ble_eq_true rfl) dX10_readsAll_13 ⟨Nat.le_of_ble_eq_true rfl, Nat.le_of_ble_eq_true rfl⟩ (fun w' H locs hp h => ?_)
  obtain ⟨u1, rfl, hw⟩ := hp
  obtain ⟨n16, hw⟩ := hw
  have key16 : ∀ (n : Nat) (t : St × Int) (H : Heap) (locs : List Loc) (ls : Array Slot), Lp (B_X10_readsAll_16 post) n t → HW G (va_A (WM G a u0) s.heap.size) s.heap (WM G a t.1) H locs → lv_has ls 2 [(0, .ref (a 0)), (1, zI t.2)] → W p l e rm_X10_readsAll s m args below meth c H locs 0 0 (EndI G (WM G a u0) (Po (WM G a) post) args s 0 0 below) (F0 m 16 ls []) := by
    intro n
    induction n with
    | zero =>
      intro t H locs ls hw
      exact hw.elim
    | succ n16 ih16 =>
      rintro ⟨u2, x1_3⟩ H locs ls hw h hl
      replace hw : b_X10_readsAll_16 post (Lp (B_X10_readsAll_16 post) n16) u2 x1_3 := hw
      refine z_aload_n X hl 0 rfl rfl dX10_readsAll_16 ?_
      refine gM_X10_token (x := sI u2 7) X K h rfl q_1353 dX10_readsAll_17 ?_
      obtain ⟨h4, hw⟩ := hw
      refine z_if_eq (tgt := 115) X h4 dX10_readsAll_20 (by decide) (fun c5 => ?_) (fun c5 => ?_)
      · replace hw := hw.1 c5
        refine z_iload_n X hl 1 rfl rfl dX10_readsAll_115 ?_
        obtain ⟨h6, hw⟩ := hw
        refine z_if_ne (tgt := 123) X h6 dX10_readsAll_116 (by decide) (fun c7 => ?_) (fun c7 => ?_)
        · replace hw := hw.1 c7
          refine z_iconst X dX10_readsAll_123 ?_
          exact r_zret X hr hlk K h (Nat.le_refl _) (Nat.le_refl _) dX10_readsAll_124 (by decide) ⟨_, rfl, hw⟩
        · replace hw := hw.2 c7
          refine z_iconst X dX10_readsAll_119 ?_
          refine z_goto (tgt := 124) X dX10_readsAll_120 (by decide) ?_
          exact r_zret X hr hlk K h (Nat.le_refl _) (Nat.le_refl _) dX10_readsAll_124 (by decide) ⟨_, rfl, hw⟩
      · replace hw := hw.2 c5
        refine z_iload_n X hl 1 rfl rfl dX10_readsAll_23 ?_
        obtain ⟨h8, hw⟩ := hw
        refine z_if_le (tgt := 68) X h8 dX10_readsAll_24 (by decide) (fun c9 => ?_) (fun c9 => ?_)
        · replace hw := hw.1 c9
          refine z_aload_n X hl 0 rfl rfl dX10_readsAll_68 ?_
          refine z_iload_n X hl 1 rfl rfl dX10_readsAll_69 ?_
          refine r_callVi (rest := []) X K g h (ct_X10_readsItem u2 x1_3 _ hw) lk_X10_206 0 rfl rfl ⟨rfl, rfl⟩ ⟨Nat.le_of_ble_eq_true rfl, Nat.le_of_ble_eq_true rfl⟩ rfl (lv_size hl) rfl (Nat.le_of_ble_eq_true rfl) dX10_readsAll_70 ⟨Nat.le_of_ble_eq_true rfl, Nat.le_of_ble_eq_true rfl⟩ (fun z10 w' H locs hp h => ?_)
          obtain ⟨u11, rfl, hw⟩ := hp
          obtain ⟨h12, hw⟩ := hw
          refine z_if_ne (tgt := 78) X h12 dX10_readsAll_73 (by decide) (fun c13 => ?_) (fun c13 => ?_)
          · replace hw := hw.1 c13
            refine z_aload_n X hl 0 rfl rfl dX10_readsAll_78 ?_
            refine gM_X10_itemKind X K h q_1360 dX10_readsAll_79 ?_
            refine z_aload_n X hl 0 rfl rfl dX10_readsAll_82 ?_
            refine gM_X10_items (x := sI u11 13) X K h rfl q_1363 dX10_readsAll_83 ?_
            refine z_iconst X dX10_readsAll_86 ?_
            refine z_isub X dX10_readsAll_87 ?_
            obtain ⟨h14, h15, hw⟩ := hw
            refine lM_8 (x := sA u11 8 ((sI u11 13) - 1)) X K h h14 h15 rfl dX10_readsAll_88 ?_
            refine z_bipush (v := 123) X dX10_readsAll_89 (by decide) ?_
            obtain ⟨h16, hw⟩ := hw
            refine z_icmp_eq (tgt := 97) X h16 (by decide) dX10_readsAll_91 (by decide) (fun c17 => ?_) (fun c17 => ?_)
            · replace hw := hw.1 c17
              refine z_aload_n X hl 0 rfl rfl dX10_readsAll_97 ?_
              refine gM_X10_began X K h q_1364 dX10_readsAll_98 ?_
              refine z_iload_n X hl 1 rfl rfl dX10_readsAll_101 ?_
              refine z_aload_n X hl 0 rfl rfl dX10_readsAll_102 ?_
              refine gM_X10_items (x := sI u11 13) X K h rfl q_1363 dX10_readsAll_103 ?_
              refine z_iconst X dX10_readsAll_106 ?_
              refine z_isub X dX10_readsAll_107 ?_
              obtain ⟨h18, h19, hw⟩ := hw
              refine sM_11 X K h h18 h19 dX10_readsAll_108 (fun H locs h => ?_)
              refine z_iinc (lv' := [(1, zI (x1_3 + 1)), (0, .ref (a 0))]) X hl 1 rfl (by decide) dX10_readsAll_109 rfl (fun ls hl => ?_)
              refine z_goto (tgt := 16) X dX10_readsAll_112 (by decide) ?_
              exact ih16 ((pA u11 11 x1_3 ((sI u11 13) - 1)), x1_3 + 1) H locs ls hw h (lv_sub hl [1, 0] rfl)
            · replace hw := hw.2 c17
              refine z_goto (tgt := 16) X dX10_readsAll_94 (by decide) ?_
              exact ih16 (u11, x1_3) H locs ls hw h (lv_sub hl [0, 1] rfl)
          · replace hw := hw.2 c13
            refine z_iconst X dX10_readsAll_76 ?_
            exact r_zret X hr hlk K h (Nat.le_refl _) (Nat.le_refl _) dX10_readsAll_77 (by decide) ⟨_, rfl, hw⟩
        · replace hw := hw.2 c9
          refine z_aload_n X hl 0 rfl rfl dX10_readsAll_27 ?_
          refine z_bipush (v := 125) X dX10_readsAll_28 (by decide) ?_
          refine r_callVi (rest := []) X K g h (ct_X10_isSignNow u2 125 _ hw) lk_X10_195 0 rfl rfl ⟨rfl, rfl⟩ ⟨Nat.le_of_ble_eq_true rfl, Nat.le_of_ble_eq_true rfl⟩ rfl (lv_size hl) rfl (Nat.le_of_ble_eq_true rfl) dX10_readsAll_30 ⟨Nat.le_of_ble_eq_true rfl, Nat.le_of_ble_eq_true rfl⟩ (fun z20 w' H locs hp h => ?_)
          obtain ⟨rfl, hw⟩ := hp
          obtain ⟨h21, hw⟩ := hw
          refine z_if_eq (tgt := 68) X h21 dX10_readsAll_33 (by decide) (fun c22 => ?_) (fun c22 => ?_)
          · replace hw := hw.1 c22
            refine z_aload_n X hl 0 rfl rfl dX10_readsAll_68 ?_
            refine z_iload_n X hl 1 rfl rfl dX10_readsAll_69 ?_
            refine r_callVi (rest := []) X K g h (ct_X10_readsItem u2 x1_3 _ hw) lk_X10_206 0 rfl rfl ⟨rfl, rfl⟩ ⟨Nat.le_of_ble_eq_true rfl, Nat.le_of_ble_eq_true rfl⟩ rfl (lv_size hl) rfl (Nat.le_of_ble_eq_true rfl) dX10_readsAll_70 ⟨Nat.le_of_ble_eq_true rfl, Nat.le_of_ble_eq_true rfl⟩ (fun z23 w' H locs hp h => ?_)
            obtain ⟨u24, rfl, hw⟩ := hp
            obtain ⟨h25, hw⟩ := hw
            refine z_if_ne (tgt := 78) X h25 dX10_readsAll_73 (by decide) (fun c26 => ?_) (fun c26 => ?_)
            · replace hw := hw.1 c26
              refine z_aload_n X hl 0 rfl rfl dX10_readsAll_78 ?_
              refine gM_X10_itemKind X K h q_1360 dX10_readsAll_79 ?_
              refine z_aload_n X hl 0 rfl rfl dX10_readsAll_82 ?_
              refine gM_X10_items (x := sI u24 13) X K h rfl q_1363 dX10_readsAll_83 ?_
              refine z_iconst X dX10_readsAll_86 ?_
              refine z_isub X dX10_readsAll_87 ?_
              obtain ⟨h27, h28, hw⟩ := hw
              refine lM_8 (x := sA u24 8 ((sI u24 13) - 1)) X K h h27 h28 rfl dX10_readsAll_88 ?_
              refine z_bipush (v := 123) X dX10_readsAll_89 (by decide) ?_
              obtain ⟨h29, hw⟩ := hw
              refine z_icmp_eq (tgt := 97) X h29 (by decide) dX10_readsAll_91 (by decide) (fun c30 => ?_) (fun c30 => ?_)
              · replace hw := hw.1 c30
                refine z_aload_n X hl 0 rfl rfl dX10_readsAll_97 ?_
                refine gM_X10_began X K h q_1364 dX10_readsAll_98 ?_
                refine z_iload_n X hl 1 rfl rfl dX10_readsAll_101 ?_
                refine z_aload_n X hl 0 rfl rfl dX10_readsAll_102 ?_
                refine gM_X10_items (x := sI u24 13) X K h rfl q_1363 dX10_readsAll_103 ?_
                refine z_iconst X dX10_readsAll_106 ?_
                refine z_isub X dX10_readsAll_107 ?_
                obtain ⟨h31, h32, hw⟩ := hw
                refine sM_11 X K h h31 h32 dX10_readsAll_108 (fun H locs h => ?_)
                refine z_iinc (lv' := [(1, zI (x1_3 + 1)), (0, .ref (a 0))]) X hl 1 rfl (by decide) dX10_readsAll_109 rfl (fun ls hl => ?_)
                refine z_goto (tgt := 16) X dX10_readsAll_112 (by decide) ?_
                exact ih16 ((pA u24 11 x1_3 ((sI u24 13) - 1)), x1_3 + 1) H locs ls hw h (lv_sub hl [1, 0] rfl)
              · replace hw := hw.2 c30
                refine z_goto (tgt := 16) X dX10_readsAll_94 (by decide) ?_
                exact ih16 (u24, x1_3) H locs ls hw h (lv_sub hl [0, 1] rfl)
            · replace hw := hw.2 c26
              refine z_iconst X dX10_readsAll_76 ?_
              exact r_zret X hr hlk K h (Nat.le_refl _) (Nat.le_refl _) dX10_readsAll_77 (by decide) ⟨_, rfl, hw⟩
          · replace hw := hw.2 c22
            refine z_iinc (lv' := [(1, zI (x1_3 + (-1))), (0, .ref (a 0))]) X hl 1 rfl (by decide) dX10_readsAll_36 rfl (fun ls hl => ?_)
            refine z_aload_n X hl 1 rfl rfl dX10_readsAll_39 ?_
            refine gM_X10_itemEnd X K h q_1362 dX10_readsAll_40 ?_
            refine z_aload_n X hl 1 rfl rfl dX10_readsAll_43 ?_
            refine gM_X10_began X K h q_1364 dX10_readsAll_44 ?_
            refine z_iload_n X hl 0 rfl rfl dX10_readsAll_47 ?_
            obtain ⟨h33, h34, hw⟩ := hw
            refine lM_11 (x := sA u2 11 (x1_3 + (-1))) X K h h33 h34 rfl dX10_readsAll_48 ?_
            refine z_aload_n X hl 1 rfl rfl dX10_readsAll_49 ?_
            refine gM_X10_items (x := sI u2 13) X K h rfl q_1363 dX10_readsAll_50 ?_
            obtain ⟨h35, h36, hw⟩ := hw
            refine sM_10 X K h h35 h36 dX10_readsAll_53 (fun H locs h => ?_)
            refine z_aload_n X hl 1 rfl rfl dX10_readsAll_54 ?_
            refine z_bipush (v := 125) X dX10_readsAll_55 (by decide) ?_
            refine z_iconst X dX10_readsAll_57 ?_
            refine r_callVv (rest := []) X K g h (ct_X10_keepsItem (pA u2 10 (sA u2 11 (x1_3 + (-1))) (sI u2 13)) 125 0 _ hw) lk_X10_198 0 rfl rfl ⟨rfl, rfl⟩ ⟨Nat.le_of_ble_eq_true rfl, Nat.le_of_ble_eq_true rfl⟩ rfl (lv_size hl) rfl (Nat.le_of_ble_eq_true rfl) dX10_readsAll_58 ⟨Nat.le_of_ble_eq_true rfl, Nat.le_of_ble_eq_true rfl⟩ (fun w' H locs hp h => ?_)
            obtain ⟨u37, rfl, hw⟩ := hp
            refine z_aload_n X hl 1 rfl rfl dX10_readsAll_61 ?_
            refine r_callVv (rest := []) X K g h (ct_X10_reads u37 _ hw) lk_X10_186 0 rfl rfl ⟨rfl, rfl⟩ ⟨Nat.le_of_ble_eq_true rfl, Nat.le_of_ble_eq_true rfl⟩ rfl (lv_size hl) rfl (Nat.le_of_ble_eq_true rfl) dX10_readsAll_62 ⟨Nat.le_of_ble_eq_true rfl, Nat.le_of_ble_eq_true rfl⟩ (fun w' H locs hp h => ?_)
            obtain ⟨u38, rfl, hw⟩ := hp
            refine z_goto (tgt := 16) X dX10_readsAll_65 (by decide) ?_
            exact ih16 (u38, x1_3 + (-1)) H locs ls hw h (lv_sub hl [1, 0] rfl)
  exact key16 n16 (u1, 0) H locs ls hw h (lv_sub hl [1, 0] rfl)
def w_X10_does (post : Int → St → Prop) (u0 : St) (p1 : Int) (p2 : Int) : Prop :=
(InR p1) ∧ ((p1 = 37 → (w_X10_swaps (fun (z2 : Int) (u3 : St) => post z2 u3) u0)) ∧
 (p1 = 43 → (w_X10_adds (fun (z5 : Int) (u6 : St) => post z5 u6) u0 p2)) ∧
 (p1 = 44 → (w_X10_passesBack (fun (z8 : Int) (u9 : St) => post z8 u9) u0)) ∧
 (p1 = 45 → (w_X10_removes (fun (z11 : Int) (u12 : St) => post z11 u12) u0)) ∧
 (p1 = 46 → (w_X10_passes (fun (z14 : Int) (u15 : St) => post z14 u15) u0)) ∧
 (p1 = 60 → (w_X10_finds (fun (z17 : Int) (u18 : St) => post z17 u18) u0 p2 1)) ∧
 (p1 = 61 → (w_X10_sets (fun (z20 : Int) (u21 : St) => post z20 u21) u0 p2)) ∧
 (p1 = 62 → (w_X10_finds (fun (z23 : Int) (u24 : St) => post z23 u24) u0 p2 0)) ∧
 (¬ (p1 = 37 ∨ p1 = 43 ∨ p1 = 44 ∨ p1 = 45 ∨ p1 = 46 ∨ p1 = 60 ∨ p1 = 61 ∨ p1 = 62) → (w_X10_moves (fun (z26 : Int) (u27 : St) => post z26 u27) u0 p2)))
abbrev rm_X10_does : Room := { frames := 3, cells := 0, slots := 0, locals := 66 }
set_option maxRecDepth 100000 in
set_option maxHeartbeats 4000000 in
theorem ct_X10_does {l : Launch} {G : Gr} {a : Nat → Nat} (u0 : St) (p1 : Int) (p2 : Int) (post : Int → St → Prop) (hw : w_X10_does post u0 p1 p2) : Ct l G yX10_does (ws_ yX10_does cX10_does 3 (some .int)) rm_X10_does [.ref (a 0), zI p1, zI p2] (WM G a u0) 0 0 (Po (WM G a) post) := by
  refine Ct.of (by decide) (Nat.le_of_ble_eq_true rfl) ?_
  intro p e s m args below meth c ls X hr hlk K g h hl
  have hl : lv_has ls 3 [(0, .ref (a 0)), (1, zI p1), (2, zI p2)] := hl
  obtain ⟨H, hH⟩ : ∃ H, H = s.heap := ⟨_, rfl⟩
  obtain ⟨locs, hL⟩ : ∃ L : List Loc, L = [] := ⟨_, rfl⟩
  replace h : HW G (va_A (WM G a u0) s.heap.size) s.heap (WM G a u0) H locs := by rw [hH, hL]; exact h
  suffices hg : W p l e rm_X10_does s m args below meth c H locs 0 0 (EndI G (WM G a u0) (Po (WM G a) post) args s 0 0 below) (F0 m 0 ls []) by rw [hH, hL] at hg; exact hg
  clear hH hL
  refine z_iload_n X hl 1 rfl rfl dX10_does_0 ?_
  obtain ⟨h1, hw⟩ := hw
  by_cases c4 : p1 = 37
  · replace hw := hw.1 c4
    refine z_top c4 ?_
    refine lv_tableIn (off := 134) (tgt := 135) X.1 X.2.1 dX10_does_1 (by decide) (by decide) (by decide) (by decide) ?_
    refine z_aload_n X hl 0 rfl rfl dX10_does_135 ?_
    refine r_callVi (rest := []) X K g h (ct_X10_swaps u0 _ hw) lk_X10_144 0 rfl rfl ⟨rfl, rfl⟩ ⟨Nat.le_of_ble_eq_true rfl, Nat.le_of_ble_eq_true rfl⟩ rfl (lv_size hl) rfl (Nat.le_of_ble_eq_true rfl) dX10_does_136 ⟨Nat.le_of_ble_eq_true rfl, Nat.le_of_ble_eq_true rfl⟩ (fun z2 w' H locs hp h => ?_)
    obtain ⟨u3, rfl, hw⟩ := hp
    exact r_iret X hr hlk K h (Nat.le_refl _) (Nat.le_refl _) dX10_does_139 ⟨_, rfl, hw⟩
  · by_cases c7 : p1 = 43
    · replace hw := hw.2.1 c7
      refine z_top c7 ?_
      refine lv_tableIn (off := 139) (tgt := 140) X.1 X.2.1 dX10_does_1 (by decide) (by decide) (by decide) (by decide) ?_
      refine z_aload_n X hl 0 rfl rfl dX10_does_140 ?_
      refine z_iload_n X hl 2 rfl rfl dX10_does_141 ?_
      refine r_callVi (rest := []) X K g h (ct_X10_adds u0 p2 _ hw) lk_X10_128 0 rfl rfl ⟨rfl, rfl⟩ ⟨Nat.le_of_ble_eq_true rfl, Nat.le_of_ble_eq_true rfl⟩ rfl (lv_size hl) rfl (Nat.le_of_ble_eq_true rfl) dX10_does_142 ⟨Nat.le_of_ble_eq_true rfl, Nat.le_of_ble_eq_true rfl⟩ (fun z5 w' H locs hp h => ?_)
      obtain ⟨u6, rfl, hw⟩ := hp
      exact r_iret X hr hlk K h (Nat.le_refl _) (Nat.le_refl _) dX10_does_145 ⟨_, rfl, hw⟩
    · by_cases c10 : p1 = 44
      · replace hw := hw.2.2.1 c10
        refine z_top c10 ?_
        refine lv_tableIn (off := 124) (tgt := 125) X.1 X.2.1 dX10_does_1 (by decide) (by decide) (by decide) (by decide) ?_
        refine z_aload_n X hl 0 rfl rfl dX10_does_125 ?_
        refine r_callVi (rest := []) X K g h (ct_X10_passesBack u0 _ hw) lk_X10_122 0 rfl rfl ⟨rfl, rfl⟩ ⟨Nat.le_of_ble_eq_true rfl, Nat.le_of_ble_eq_true rfl⟩ rfl (lv_size hl) rfl (Nat.le_of_ble_eq_true rfl) dX10_does_126 ⟨Nat.le_of_ble_eq_true rfl, Nat.le_of_ble_eq_true rfl⟩ (fun z8 w' H locs hp h => ?_)
        obtain ⟨u9, rfl, hw⟩ := hp
        exact r_iret X hr hlk K h (Nat.le_refl _) (Nat.le_refl _) dX10_does_129 ⟨_, rfl, hw⟩
      · by_cases c13 : p1 = 45
        · replace hw := hw.2.2.2.1 c13
          refine z_top c13 ?_
          refine lv_tableIn (off := 129) (tgt := 130) X.1 X.2.1 dX10_does_1 (by decide) (by decide) (by decide) (by decide) ?_
          refine z_aload_n X hl 0 rfl rfl dX10_does_130 ?_
          refine r_callVi (rest := []) X K g h (ct_X10_removes u0 _ hw) lk_X10_134 0 rfl rfl ⟨rfl, rfl⟩ ⟨Nat.le_of_ble_eq_true rfl, Nat.le_of_ble_eq_true rfl⟩ rfl (lv_size hl) rfl (Nat.le_of_ble_eq_true rfl) dX10_does_131 ⟨Nat.le_of_ble_eq_true rfl, Nat.le_of_ble_eq_true rfl⟩ (fun z11 w' H locs hp h => ?_)
          obtain ⟨u12, rfl, hw⟩ := hp
          exact r_iret X hr hlk K h (Nat.le_refl _) (Nat.le_refl _) dX10_does_134 ⟨_, rfl, hw⟩
        · by_cases c16 : p1 = 46
          · replace hw := hw.2.2.2.2.1 c16
            refine z_top c16 ?_
            refine lv_tableIn (off := 119) (tgt := 120) X.1 X.2.1 dX10_does_1 (by decide) (by decide) (by decide) (by decide) ?_
            refine z_aload_n X hl 0 rfl rfl dX10_does_120 ?_
            refine r_callVi (rest := []) X K g h (ct_X10_passes u0 _ hw) lk_X10_119 0 rfl rfl ⟨rfl, rfl⟩ ⟨Nat.le_of_ble_eq_true rfl, Nat.le_of_ble_eq_true rfl⟩ rfl (lv_size hl) rfl (Nat.le_of_ble_eq_true rfl) dX10_does_121 ⟨Nat.le_of_ble_eq_true rfl, Nat.le_of_ble_eq_true rfl⟩ (fun z14 w' H locs hp h => ?_)
            obtain ⟨u15, rfl, hw⟩ := hp
            exact r_iret X hr hlk K h (Nat.le_refl _) (Nat.le_refl _) dX10_does_124 ⟨_, rfl, hw⟩
          · by_cases c19 : p1 = 60
            · replace hw := hw.2.2.2.2.2.1 c19
              refine z_top c19 ?_
              refine lv_tableIn (off := 158) (tgt := 159) X.1 X.2.1 dX10_does_1 (by decide) (by decide) (by decide) (by decide) ?_
              refine z_aload_n X hl 0 rfl rfl dX10_does_159 ?_
              refine z_iload_n X hl 2 rfl rfl dX10_does_160 ?_
              refine z_iconst X dX10_does_161 ?_
              refine r_callVi (rest := []) X K g h (ct_X10_finds u0 p2 1 _ hw) lk_X10_140 0 rfl rfl ⟨rfl, rfl⟩ ⟨Nat.le_of_ble_eq_true rfl, Nat.le_of_ble_eq_true rfl⟩ rfl (lv_size hl) rfl (Nat.le_of_ble_eq_true rfl) dX10_does_162 ⟨Nat.le_of_ble_eq_true rfl, Nat.le_of_ble_eq_true rfl⟩ (fun z17 w' H locs hp h => ?_)
              obtain ⟨u18, rfl, hw⟩ := hp
              exact r_iret X hr hlk K h (Nat.le_refl _) (Nat.le_refl _) dX10_does_165 ⟨_, rfl, hw⟩
            · by_cases c22 : p1 = 61
              · replace hw := hw.2.2.2.2.2.2.1 c22
                refine z_top c22 ?_
                refine lv_tableIn (off := 145) (tgt := 146) X.1 X.2.1 dX10_does_1 (by decide) (by decide) (by decide) (by decide) ?_
                refine z_aload_n X hl 0 rfl rfl dX10_does_146 ?_
                refine z_iload_n X hl 2 rfl rfl dX10_does_147 ?_
                refine r_callVi (rest := []) X K g h (ct_X10_sets u0 p2 _ hw) lk_X10_131 0 rfl rfl ⟨rfl, rfl⟩ ⟨Nat.le_of_ble_eq_true rfl, Nat.le_of_ble_eq_true rfl⟩ rfl (lv_size hl) rfl (Nat.le_of_ble_eq_true rfl) dX10_does_148 ⟨Nat.le_of_ble_eq_true rfl, Nat.le_of_ble_eq_true rfl⟩ (fun z20 w' H locs hp h => ?_)
                obtain ⟨u21, rfl, hw⟩ := hp
                exact r_iret X hr hlk K h (Nat.le_refl _) (Nat.le_refl _) dX10_does_151 ⟨_, rfl, hw⟩
              · by_cases c25 : p1 = 62
                · replace hw := hw.2.2.2.2.2.2.2.1 c25
                  refine z_top c25 ?_
                  refine lv_tableIn (off := 151) (tgt := 152) X.1 X.2.1 dX10_does_1 (by decide) (by decide) (by decide) (by decide) ?_
                  refine z_aload_n X hl 0 rfl rfl dX10_does_152 ?_
                  refine z_iload_n X hl 2 rfl rfl dX10_does_153 ?_
                  refine z_iconst X dX10_does_154 ?_
                  refine r_callVi (rest := []) X K g h (ct_X10_finds u0 p2 0 _ hw) lk_X10_140 0 rfl rfl ⟨rfl, rfl⟩ ⟨Nat.le_of_ble_eq_true rfl, Nat.le_of_ble_eq_true rfl⟩ rfl (lv_size hl) rfl (Nat.le_of_ble_eq_true rfl) dX10_does_155 ⟨Nat.le_of_ble_eq_true rfl, Nat.le_of_ble_eq_true rfl⟩ (fun z23 w' H locs hp h => ?_)
                  obtain ⟨u24, rfl, hw⟩ := hp
                  exact r_iret X hr hlk K h (Nat.le_refl _) (Nat.le_refl _) dX10_does_158 ⟨_, rfl, hw⟩
                · replace hw := hw.2.2.2.2.2.2.2.2 (by omega)
                  refine z_tableOut (tgt := 166) X h1 dX10_does_1 (by decide) (by rcases (show (p1 < 37 ∨ 62 < p1) ∨ p1 = 38 ∨ p1 = 39 ∨ p1 = 40 ∨ p1 = 41 ∨ p1 = 42 ∨ p1 = 47 ∨ p1 = 48 ∨ p1 = 49 ∨ p1 = 50 ∨ p1 = 51 ∨ p1 = 52 ∨ p1 = 53 ∨ p1 = 54 ∨ p1 = 55 ∨ p1 = 56 ∨ p1 = 57 ∨ p1 = 58 ∨ p1 = 59 by omega) with o29 | o29 | o29 | o29 | o29 | o29 | o29 | o29 | o29 | o29 | o29 | o29 | o29 | o29 | o29 | o29 | o29 | o29 | o29 <;> first | exact Or.inl o29 | exact Or.inr ⟨1, by omega, by decide, rfl⟩ | exact Or.inr ⟨2, by omega, by decide, rfl⟩ | exact Or.inr ⟨3, by omega, by decide, rfl⟩ | exact Or.inr ⟨4, by omega, by decide, rfl⟩ | exact Or.inr ⟨5, by omega, by decide, rfl⟩ | exact Or.inr ⟨10, by omega, by decide, rfl⟩ | exact Or.inr ⟨11, by omega, by decide, rfl⟩ | exact Or.inr ⟨12, by omega, by decide, rfl⟩ | exact Or.inr ⟨13, by omega, by decide, rfl⟩ | exact Or.inr ⟨14, by omega, by decide, rfl⟩ | exact Or.inr ⟨15, by omega, by decide, rfl⟩ | exact Or.inr ⟨16, by omega, by decide, rfl⟩ | exact Or.inr ⟨17, by omega, by decide, rfl⟩ | exact Or.inr ⟨18, by omega, by decide, rfl⟩ | exact Or.inr ⟨19, by omega, by decide, rfl⟩ | exact Or.inr ⟨20, by omega, by decide, rfl⟩ | exact Or.inr ⟨21, by omega, by decide, rfl⟩ | exact Or.inr ⟨22, by omega, by decide, rfl⟩ ) ?_
                  refine z_aload_n X hl 0 rfl rfl dX10_does_166 ?_
                  refine z_iload_n X hl 2 rfl rfl dX10_does_167 ?_
                  refine r_callVi (rest := []) X K g h (ct_X10_moves u0 p2 _ hw) lk_X10_137 0 rfl rfl ⟨rfl, rfl⟩ ⟨Nat.le_of_ble_eq_true rfl, Nat.le_of_ble_eq_true rfl⟩ rfl (lv_size hl) rfl (Nat.le_of_ble_eq_true rfl) dX10_does_168 ⟨Nat.le_of_ble_eq_true rfl, Nat.le_of_ble_eq_true rfl⟩ (fun z26 w' H locs hp h => ?_)
                  obtain ⟨u27, rfl, hw⟩ := hp
                  exact r_iret X hr hlk K h (Nat.le_refl _) (Nat.le_refl _) dX10_does_171 ⟨_, rfl, hw⟩
def b_X10_runs_216 (post : Int → St → Prop) (u20 : St) (y2_216 : Int) (y5_216 : Int) (K6 : St × Int × Int × Int → Prop) (K216 : Int → Prop) (x1_19 : Int) : Prop :=
(InR x1_19) ∧ ((x1_19 ≤ 0 → ((¬ x1_19 = 0 → (0 ≤ x1_19 + (-1)) ∧ (x1_19 + (-1) < 4) ∧ (0 ≤ sA u20 11 (x1_19 + (-1))) ∧ (sA u20 11 (x1_19 + (-1)) < 300) ∧ K6 (u20, x1_19 + (-1), y2_216, (sA u20 10 (sA u20 11 (x1_19 + (-1)))) + 1)) ∧
 (x1_19 = 0 → post y2_216 (pI u20 12 y5_216)))) ∧
 (¬ x1_19 ≤ 0 → (0 ≤ x1_19 - 1) ∧ (x1_19 - 1 < 4) ∧ (InR (sA u20 12 (x1_19 - 1))) ∧ ((sA u20 12 (x1_19 - 1) ≤ 0 → (0 ≤ x1_19 + (-1)) ∧ (x1_19 + (-1) < 4) ∧ (0 ≤ sA u20 11 (x1_19 + (-1))) ∧ (sA u20 11 (x1_19 + (-1)) < 300) ∧ K6 (u20, x1_19 + (-1), y2_216, (sA u20 10 (sA u20 11 (x1_19 + (-1)))) + 1)) ∧
 (¬ sA u20 12 (x1_19 - 1) ≤ 0 → K216 (x1_19 + (-1))))))
def B_X10_runs_216 (post : Int → St → Prop) (u20 : St) (y2_216 : Int) (y5_216 : Int) (K6 : St × Int × Int × Int → Prop) : (Int → Prop) → Int → Prop := fun K t => b_X10_runs_216 post u20 y2_216 y5_216 K6 K t
def b_X10_runs_6 (post : Int → St → Prop) (K6 : St × Int × Int × Int → Prop) (u1 : St) (x1_2 : Int) (x2_3 : Int) (x3_4 : Int) : Prop :=
(InR x3_4) ∧ (InR (sI u1 13)) ∧ ((sI u1 13 ≤ x3_4 → post x2_3 u1) ∧
 (¬ sI u1 13 ≤ x3_4 → (0 ≤ x3_4) ∧ (x3_4 < 300) ∧ (InR (sA u1 8 x3_4)) ∧ ((¬ sA u1 8 x3_4 = 123 → ((¬ sA u1 8 x3_4 = 125 → (InR x2_3) ∧ ((¬ x2_3 = 300 → (w_X10_does (fun (z15 : Int) (u16 : St) => (InR z15) ∧ ((z15 < 0 → (∃ n : Nat, Lp (B_X10_runs_216 post u16 x2_3 z15 K6) n x1_2)) ∧
 (¬ z15 < 0 → K6 (u16, x1_2, x2_3 + 1, x3_4 + 1)))) u1 (sA u1 8 x3_4) (sA u1 9 x3_4))) ∧
 (x2_3 = 300 → post x2_3 (pI u1 12 (-6))))) ∧
 (sA u1 8 x3_4 = 125 → (0 ≤ x1_2 - 1) ∧ (x1_2 - 1 < 4) ∧ (InR (sA u1 12 (x1_2 - 1))) ∧ ((¬ sA u1 12 (x1_2 - 1) = 0 → ((sA u1 12 (x1_2 - 1) ≤ 1 → K6 ((pA u1 13 (x1_2 - 1) x2_3), x1_2 + (-1), x2_3, x3_4 + 1)) ∧
 (¬ sA u1 12 (x1_2 - 1) ≤ 1 → ((sA u1 12 (x1_2 - 1) ≤ 0 → K6 ((pA u1 13 (x1_2 - 1) x2_3), x1_2, x2_3, (sA u1 11 (x1_2 - 1)) + 1)) ∧
 (¬ sA u1 12 (x1_2 - 1) ≤ 0 → K6 ((pA (pA u1 13 (x1_2 - 1) x2_3) 12 (x1_2 - 1) ((sA u1 12 (x1_2 - 1)) - 1)), x1_2, x2_3, (sA u1 11 (x1_2 - 1)) + 1)))))) ∧
 (sA u1 12 (x1_2 - 1) = 0 → (InR x2_3) ∧ (InR (sA u1 13 (x1_2 - 1))) ∧ ((x2_3 ≤ sA u1 13 (x1_2 - 1) → K6 ((pA u1 13 (x1_2 - 1) x2_3), x1_2 + (-1), x2_3, x3_4 + 1)) ∧
 (¬ x2_3 ≤ sA u1 13 (x1_2 - 1) → K6 ((pA u1 13 (x1_2 - 1) x2_3), x1_2, x2_3, (sA u1 11 (x1_2 - 1)) + 1)))))))) ∧
 (sA u1 8 x3_4 = 123 → (0 ≤ x1_2) ∧ (x1_2 < 4) ∧ K6 ((pA (pA (pA u1 11 x1_2 x3_4) 12 x1_2 (sA u1 9 x3_4)) 13 x1_2 x2_3), x1_2 + 1, x2_3, x3_4 + 1)))))
def B_X10_runs_6 (post : Int → St → Prop) : (St × Int × Int × Int → Prop) → St × Int × Int × Int → Prop := fun K t => b_X10_runs_6 post K t.1 t.2.1 t.2.2.1 t.2.2.2
def w_X10_runs (post : Int → St → Prop) (u0 : St) : Prop :=
(∃ n : Nat, Lp (B_X10_runs_6 post) n (u0, 0, 0, 0))
abbrev rm_X10_runs : Room := { frames := 4, cells := 0, slots := 0, locals := 88 }
set_option maxRecDepth 100000 in
set_option maxHeartbeats 4000000 in
theorem ct_X10_runs {l : Launch} {G : Gr} {a : Nat → Nat} (u0 : St) (post : Int → St → Prop) (hw : w_X10_runs post u0) : Ct l G yX10_runs (ws_ yX10_runs cX10_runs 7 (some .int)) rm_X10_runs [.ref (a 0)] (WM G a u0) 0 0 (Po (WM G a) post) := by
  refine Ct.of (by decide) (Nat.le_of_ble_eq_true rfl) ?_
  intro p e s m args below meth c ls X hr hlk K g h hl
  have hl : lv_has ls 7 [(0, .ref (a 0))] := hl
  obtain ⟨H, hH⟩ : ∃ H, H = s.heap := ⟨_, rfl⟩
  obtain ⟨locs, hL⟩ : ∃ L : List Loc, L = [] := ⟨_, rfl⟩
  replace h : HW G (va_A (WM G a u0) s.heap.size) s.heap (WM G a u0) H locs := by rw [hH, hL]; exact h
  suffices hg : W p l e rm_X10_runs s m args below meth c H locs 0 0 (EndI G (WM G a u0) (Po (WM G a) post) args s 0 0 below) (F0 m 0 ls []) by rw [hH, hL] at hg; exact hg
  clear hH hL
  refine z_iconst X dX10_runs_0 ?_
  refine z_istore_n (i := 1) (lv' := [(1, zI 0), (0, .ref (a 0))]) X hl rfl (by decide) dX10_runs_1 rfl (fun ls hl => ?_)
  refine z_iconst X dX10_runs_2 ?_
  refine z_istore_n (i := 2) (lv' := [(2, zI 0), (1, zI 0), (0, .ref (a 0))]) X hl rfl (by decide) dX10_runs_3 rfl (fun ls hl => ?_)
  refine z_iconst X dX10_runs_4 ?_
  refine z_istore_n (i := 3) (lv' := [(3, zI 0), (2, zI 0), (1, zI 0), (0, .ref (a 0))]) X hl rfl (by decide) dX10_runs_5 rfl (fun ls hl => ?_)
  obtain ⟨n6, hw⟩ := hw
  have key6 : ∀ (n : Nat) (t : St × Int × Int × Int) (H : Heap) (locs : List Loc) (ls : Array Slot), Lp (B_X10_runs_6 post) n t → HW G (va_A (WM G a u0) s.heap.size) s.heap (WM G a t.1) H locs → lv_has ls 7 [(0, .ref (a 0)), (1, zI t.2.1), (2, zI t.2.2.1), (3, zI t.2.2.2)] → W p l e rm_X10_runs s m args below meth c H locs 0 0 (EndI G (WM G a u0) (Po (WM G a) post) args s 0 0 below) (F0 m 6 ls []) := by
    intro n
    induction n with
    | zero =>
      intro t H locs ls hw
      exact hw.elim
    | succ n6 ih6 =>
      rintro ⟨u1, x1_2, x2_3, x3_4⟩ H locs ls hw h hl
      replace hw : b_X10_runs_6 post (Lp (B_X10_runs_6 post) n6) u1 x1_2 x2_3 x3_4 := hw
      refine z_iload_n X hl 3 rfl rfl dX10_runs_6 ?_
      refine z_aload_n X hl 0 rfl rfl dX10_runs_7 ?_
      refine gM_X10_items (x := sI u1 13) X K h rfl q_1363 dX10_runs_8 ?_
      obtain ⟨h5, h6, hw⟩ := hw
      refine z_icmp_ge (tgt := 270) X h5 h6 dX10_runs_11 (by decide) (fun c7 => ?_) (fun c7 => ?_)
      · replace hw := hw.1 c7
        refine z_iload_n X hl 2 rfl rfl dX10_runs_270 ?_
        exact r_iret X hr hlk K h (Nat.le_refl _) (Nat.le_refl _) dX10_runs_271 ⟨_, rfl, hw⟩
      · replace hw := hw.2 c7
        refine z_aload_n X hl 0 rfl rfl dX10_runs_14 ?_
        refine gM_X10_itemKind X K h q_1360 dX10_runs_15 ?_
        refine z_iload_n X hl 3 rfl rfl dX10_runs_18 ?_
        obtain ⟨h8, h9, hw⟩ := hw
        refine lM_8 (x := sA u1 8 x3_4) X K h h8 h9 rfl dX10_runs_19 ?_
        refine z_istore (i := 4) (lv' := [(4, zI (sA u1 8 x3_4)), (0, .ref (a 0)), (1, zI x1_2), (2, zI x2_3), (3, zI x3_4)]) X hl (by decide) dX10_runs_20 rfl (fun ls hl => ?_)
        refine z_iload X hl 0 rfl dX10_runs_22 ?_
        refine z_bipush (v := 123) X dX10_runs_24 (by decide) ?_
        obtain ⟨h10, hw⟩ := hw
        refine z_icmp_ne (tgt := 61) X h10 (by decide) dX10_runs_26 (by decide) (fun c11 => ?_) (fun c11 => ?_)
        · replace hw := hw.1 c11
          refine z_iload X hl 0 rfl dX10_runs_61 ?_
          refine z_bipush (v := 125) X dX10_runs_63 (by decide) ?_
          refine z_icmp_ne (tgt := 176) X h10 (by decide) dX10_runs_65 (by decide) (fun c12 => ?_) (fun c12 => ?_)
          · replace hw := hw.1 c12
            refine z_iload_n X hl 3 rfl rfl dX10_runs_176 ?_
            refine z_sipush (v := 300) X dX10_runs_177 (by decide) ?_
            obtain ⟨h13, hw⟩ := hw
            refine z_icmp_ne (tgt := 191) X h13 (by decide) dX10_runs_180 (by decide) (fun c14 => ?_) (fun c14 => ?_)
            · replace hw := hw.1 c14
              refine z_aload_n X hl 1 rfl rfl dX10_runs_191 ?_
              refine z_iload X hl 0 rfl dX10_runs_192 ?_
              refine z_aload_n X hl 1 rfl rfl dX10_runs_194 ?_
              refine gM_X10_itemValue X K h q_1361 dX10_runs_195 ?_
              refine z_iload_n X hl 4 rfl rfl dX10_runs_198 ?_
              refine lM_9 (x := sA u1 9 x3_4) X K h h8 h9 rfl dX10_runs_199 ?_
              refine r_callVi (rest := []) X K g h (ct_X10_does u1 (sA u1 8 x3_4) (sA u1 9 x3_4) _ hw) lk_X10_212 0 rfl rfl ⟨rfl, rfl⟩ ⟨Nat.le_of_ble_eq_true rfl, Nat.le_of_ble_eq_true rfl⟩ rfl (lv_size hl) rfl (Nat.le_of_ble_eq_true rfl) dX10_runs_200 ⟨Nat.le_of_ble_eq_true rfl, Nat.le_of_ble_eq_true rfl⟩ (fun z15 w' H locs hp h => ?_)
              obtain ⟨u16, rfl, hw⟩ := hp
              refine z_istore (i := 5) (lv' := [(5, zI z15), (4, zI (sA u1 8 x3_4)), (0, .ref (a 0)), (1, zI x1_2), (2, zI x2_3), (3, zI x3_4)]) X hl (by decide) dX10_runs_203 rfl (fun ls hl => ?_)
              refine z_iload X hl 0 rfl dX10_runs_205 ?_
              obtain ⟨h17, hw⟩ := hw
              refine z_if_lt (tgt := 216) X h17 dX10_runs_207 (by decide) (fun c18 => ?_) (fun c18 => ?_)
              · replace hw := hw.1 c18
                obtain ⟨n216, hw⟩ := hw
                have key216 : ∀ (n : Nat) (t : Int) (H : Heap) (locs : List Loc) (ls : Array Slot), Lp (B_X10_runs_216 post u16 x2_3 z15 (Lp (B_X10_runs_6 post) n6)) n t → HW G (va_A (WM G a u0) s.heap.size) s.heap (WM G a u16) H locs → lv_has ls 7 [(0, .ref (a 0)), (1, zI t), (2, zI x2_3), (5, zI z15)] → W p l e rm_X10_runs s m args below meth c H locs 0 0 (EndI G (WM G a u0) (Po (WM G a) post) args s 0 0 below) (F0 m 216 ls []) := by
                  intro n
                  induction n with
                  | zero =>
                    intro t H locs ls hw
                    exact hw.elim
                  | succ n216 ih216 =>
                    intro x1_19 H locs ls hw h hl
                    replace hw : b_X10_runs_216 post u16 x2_3 z15 (Lp (B_X10_runs_6 post) n6) (Lp (B_X10_runs_216 post u16 x2_3 z15 (Lp (B_X10_runs_6 post) n6)) n216) x1_19 := hw
                    refine z_iload_n X hl 1 rfl rfl dX10_runs_216 ?_
                    obtain ⟨h21, hw⟩ := hw
                    refine z_if_le (tgt := 237) X h21 dX10_runs_217 (by decide) (fun c22 => ?_) (fun c22 => ?_)
                    · replace hw := hw.1 c22
                      refine z_iload_n X hl 1 rfl rfl dX10_runs_237 ?_
                      refine z_if_ne (tgt := 249) X h21 dX10_runs_238 (by decide) (fun c23 => ?_) (fun c23 => ?_)
                      · replace hw := hw.1 c23
                        refine z_iinc (lv' := [(1, zI (x1_19 + (-1))), (0, .ref (a 0)), (2, zI x2_3), (5, zI z15)]) X hl 1 rfl (by decide) dX10_runs_249 rfl (fun ls hl => ?_)
                        refine z_aload_n X hl 1 rfl rfl dX10_runs_252 ?_
                        refine gM_X10_itemEnd X K h q_1362 dX10_runs_253 ?_
                        refine z_aload_n X hl 1 rfl rfl dX10_runs_256 ?_
                        refine gM_X10_began X K h q_1364 dX10_runs_257 ?_
                        refine z_iload_n X hl 0 rfl rfl dX10_runs_260 ?_
                        obtain ⟨h24, h25, hw⟩ := hw
                        refine lM_11 (x := sA u16 11 (x1_19 + (-1))) X K h h24 h25 rfl dX10_runs_261 ?_
                        obtain ⟨h26, h27, hw⟩ := hw
                        refine lM_10 (x := sA u16 10 (sA u16 11 (x1_19 + (-1)))) X K h h26 h27 rfl dX10_runs_262 ?_
                        refine z_istore_n (i := 3) (lv' := [(3, zI (sA u16 10 (sA u16 11 (x1_19 + (-1))))), (1, zI (x1_19 + (-1))), (0, .ref (a 0)), (2, zI x2_3), (5, zI z15)]) X hl rfl (by decide) dX10_runs_263 rfl (fun ls hl => ?_)
                        refine z_iinc (lv' := [(3, zI ((sA u16 10 (sA u16 11 (x1_19 + (-1)))) + 1)), (1, zI (x1_19 + (-1))), (0, .ref (a 0)), (2, zI x2_3), (5, zI z15)]) X hl 0 rfl (by decide) dX10_runs_264 rfl (fun ls hl => ?_)
                        refine z_goto (tgt := 6) X dX10_runs_267 (by decide) ?_
                        exact ih6 (u16, x1_19 + (-1), x2_3, (sA u16 10 (sA u16 11 (x1_19 + (-1)))) + 1) H locs ls hw h (lv_sub hl [2, 1, 3, 0] rfl)
                      · replace hw := hw.2 c23
                        refine z_aload_n X hl 0 rfl rfl dX10_runs_241 ?_
                        refine z_iload X hl 3 rfl dX10_runs_242 ?_
                        refine pM_X10_ended X K h q_1358 dX10_runs_244 (fun H locs h => ?_)
                        refine z_iload_n X hl 2 rfl rfl dX10_runs_247 ?_
                        exact r_iret X hr hlk K h (Nat.le_refl _) (Nat.le_refl _) dX10_runs_248 ⟨_, rfl, hw⟩
                    · replace hw := hw.2 c22
                      refine z_aload_n X hl 0 rfl rfl dX10_runs_220 ?_
                      refine gM_X10_left X K h q_1365 dX10_runs_221 ?_
                      refine z_iload_n X hl 1 rfl rfl dX10_runs_224 ?_
                      refine z_iconst X dX10_runs_225 ?_
                      refine z_isub X dX10_runs_226 ?_
                      obtain ⟨h28, h29, hw⟩ := hw
                      refine lM_12 (x := sA u16 12 (x1_19 - 1)) X K h h28 h29 rfl dX10_runs_227 ?_
                      obtain ⟨h30, hw⟩ := hw
                      refine z_if_le (tgt := 237) X h30 dX10_runs_228 (by decide) (fun c31 => ?_) (fun c31 => ?_)
                      · replace hw := hw.1 c31
                        refine z_iload_n X hl 1 rfl rfl dX10_runs_237 ?_
                        refine z_if_ne (tgt := 249) X h21 dX10_runs_238 (by decide) (fun _ => ?_) (fun c32 => absurd c32 (by omega))
                        refine z_iinc (lv' := [(1, zI (x1_19 + (-1))), (0, .ref (a 0)), (2, zI x2_3), (5, zI z15)]) X hl 1 rfl (by decide) dX10_runs_249 rfl (fun ls hl => ?_)
                        refine z_aload_n X hl 1 rfl rfl dX10_runs_252 ?_
                        refine gM_X10_itemEnd X K h q_1362 dX10_runs_253 ?_
                        refine z_aload_n X hl 1 rfl rfl dX10_runs_256 ?_
                        refine gM_X10_began X K h q_1364 dX10_runs_257 ?_
                        refine z_iload_n X hl 0 rfl rfl dX10_runs_260 ?_
                        obtain ⟨h33, h34, hw⟩ := hw
                        refine lM_11 (x := sA u16 11 (x1_19 + (-1))) X K h h33 h34 rfl dX10_runs_261 ?_
                        obtain ⟨h35, h36, hw⟩ := hw
                        refine lM_10 (x := sA u16 10 (sA u16 11 (x1_19 + (-1)))) X K h h35 h36 rfl dX10_runs_262 ?_
                        refine z_istore_n (i := 3) (lv' := [(3, zI (sA u16 10 (sA u16 11 (x1_19 + (-1))))), (1, zI (x1_19 + (-1))), (0, .ref (a 0)), (2, zI x2_3), (5, zI z15)]) X hl rfl (by decide) dX10_runs_263 rfl (fun ls hl => ?_)
                        refine z_iinc (lv' := [(3, zI ((sA u16 10 (sA u16 11 (x1_19 + (-1)))) + 1)), (1, zI (x1_19 + (-1))), (0, .ref (a 0)), (2, zI x2_3), (5, zI z15)]) X hl 0 rfl (by decide) dX10_runs_264 rfl (fun ls hl => ?_)
                        refine z_goto (tgt := 6) X dX10_runs_267 (by decide) ?_
                        exact ih6 (u16, x1_19 + (-1), x2_3, (sA u16 10 (sA u16 11 (x1_19 + (-1)))) + 1) H locs ls hw h (lv_sub hl [2, 1, 3, 0] rfl)
                      · replace hw := hw.2 c31
                        refine z_iinc (lv' := [(1, zI (x1_19 + (-1))), (0, .ref (a 0)), (2, zI x2_3), (5, zI z15)]) X hl 1 rfl (by decide) dX10_runs_231 rfl (fun ls hl => ?_)
                        refine z_goto (tgt := 216) X dX10_runs_234 (by decide) ?_
                        exact ih216 (x1_19 + (-1)) H locs ls hw h (lv_sub hl [1, 0, 2, 3] rfl)
                exact key216 n216 x1_2 H locs ls hw h (lv_sub hl [2, 3, 4, 0] rfl)
              · replace hw := hw.2 c18
                refine z_iinc (lv' := [(2, zI (x2_3 + 1)), (5, zI z15), (4, zI (sA u1 8 x3_4)), (0, .ref (a 0)), (1, zI x1_2), (3, zI x3_4)]) X hl 4 rfl (by decide) dX10_runs_210 rfl (fun ls hl => ?_)
                refine z_goto (tgt := 264) X dX10_runs_213 (by decide) ?_
                refine z_iinc (lv' := [(3, zI (x3_4 + 1)), (2, zI (x2_3 + 1)), (5, zI z15), (4, zI (sA u1 8 x3_4)), (0, .ref (a 0)), (1, zI x1_2)]) X hl 5 rfl (by decide) dX10_runs_264 rfl (fun ls hl => ?_)
                refine z_goto (tgt := 6) X dX10_runs_267 (by decide) ?_
                exact ih6 (u16, x1_2, x2_3 + 1, x3_4 + 1) H locs ls hw h (lv_sub hl [4, 5, 1, 0] rfl)
            · replace hw := hw.2 c14
              refine z_aload_n X hl 1 rfl rfl dX10_runs_183 ?_
              refine z_bipush (v := (-6)) X dX10_runs_184 (by decide) ?_
              refine pM_X10_ended X K h q_1358 dX10_runs_186 (fun H locs h => ?_)
              refine z_iload_n X hl 3 rfl rfl dX10_runs_189 ?_
              exact r_iret X hr hlk K h (Nat.le_refl _) (Nat.le_refl _) dX10_runs_190 ⟨_, rfl, hw⟩
          · replace hw := hw.2 c12
            refine z_iload_n X hl 2 rfl rfl dX10_runs_68 ?_
            refine z_iconst X dX10_runs_69 ?_
            refine z_isub X dX10_runs_70 ?_
            refine z_istore (i := 5) (lv' := [(5, zI (x1_2 - 1)), (4, zI (sA u1 8 x3_4)), (0, .ref (a 0)), (1, zI x1_2), (2, zI x2_3), (3, zI x3_4)]) X hl (by decide) dX10_runs_71 rfl (fun ls hl => ?_)
            refine z_aload_n X hl 2 rfl rfl dX10_runs_73 ?_
            refine gM_X10_left X K h q_1365 dX10_runs_74 ?_
            refine z_iload X hl 0 rfl dX10_runs_77 ?_
            obtain ⟨h37, h38, hw⟩ := hw
            refine lM_12 (x := sA u1 12 (x1_2 - 1)) X K h h37 h38 rfl dX10_runs_79 ?_
            obtain ⟨h39, hw⟩ := hw
            refine z_if_ne (tgt := 102) X h39 dX10_runs_80 (by decide) (fun c40 => ?_) (fun c40 => ?_)
            · replace hw := hw.1 c40
              refine z_aload_n X hl 2 rfl rfl dX10_runs_102 ?_
              refine gM_X10_left X K h q_1365 dX10_runs_103 ?_
              refine z_iload X hl 0 rfl dX10_runs_106 ?_
              refine lM_12 (x := sA u1 12 (x1_2 - 1)) X K h h37 h38 rfl dX10_runs_108 ?_
              refine z_iconst X dX10_runs_109 ?_
              refine z_icmp_le (tgt := 117) X h39 (by decide) dX10_runs_110 (by decide) (fun c41 => ?_) (fun c41 => ?_)
              · replace hw := hw.1 c41
                refine z_iconst X dX10_runs_117 ?_
                refine z_istore (i := 6) (lv' := [(6, zI 0), (5, zI (x1_2 - 1)), (4, zI (sA u1 8 x3_4)), (0, .ref (a 0)), (1, zI x1_2), (2, zI x2_3), (3, zI x3_4)]) X hl (by decide) dX10_runs_118 rfl (fun ls hl => ?_)
                refine z_aload_n X hl 3 rfl rfl dX10_runs_120 ?_
                refine gM_X10_doneThen X K h q_1366 dX10_runs_121 ?_
                refine z_iload X hl 1 rfl dX10_runs_124 ?_
                refine z_iload_n X hl 5 rfl rfl dX10_runs_126 ?_
                refine sM_13 X K h h37 h38 dX10_runs_127 (fun H locs h => ?_)
                refine z_iload X hl 0 rfl dX10_runs_128 ?_
                refine z_if_eq (tgt := 154) X (by decide) dX10_runs_130 (by decide) (fun _ => ?_) (fun c42 => absurd c42 (by decide))
                refine z_iload X hl 0 rfl dX10_runs_154 ?_
                refine z_if_eq (tgt := 170) X (by decide) dX10_runs_156 (by decide) (fun _ => ?_) (fun c43 => absurd c43 (by decide))
                refine z_iinc (lv' := [(1, zI (x1_2 + (-1))), (6, zI 0), (5, zI (x1_2 - 1)), (4, zI (sA u1 8 x3_4)), (0, .ref (a 0)), (2, zI x2_3), (3, zI x3_4)]) X hl 4 rfl (by decide) dX10_runs_170 rfl (fun ls hl => ?_)
                refine z_goto (tgt := 264) X dX10_runs_173 (by decide) ?_
                refine z_iinc (lv' := [(3, zI (x3_4 + 1)), (1, zI (x1_2 + (-1))), (6, zI 0), (5, zI (x1_2 - 1)), (4, zI (sA u1 8 x3_4)), (0, .ref (a 0)), (2, zI x2_3)]) X hl 6 rfl (by decide) dX10_runs_264 rfl (fun ls hl => ?_)
                refine z_goto (tgt := 6) X dX10_runs_267 (by decide) ?_
                exact ih6 ((pA u1 13 (x1_2 - 1) x2_3), x1_2 + (-1), x2_3, x3_4 + 1) H locs ls hw h (lv_sub hl [5, 1, 6, 0] rfl)
              · replace hw := hw.2 c41
                refine z_iconst X dX10_runs_113 ?_
                refine z_goto (tgt := 118) X dX10_runs_114 (by decide) ?_
                refine z_istore (i := 6) (lv' := [(6, zI 1), (5, zI (x1_2 - 1)), (4, zI (sA u1 8 x3_4)), (0, .ref (a 0)), (1, zI x1_2), (2, zI x2_3), (3, zI x3_4)]) X hl (by decide) dX10_runs_118 rfl (fun ls hl => ?_)
                refine z_aload_n X hl 3 rfl rfl dX10_runs_120 ?_
                refine gM_X10_doneThen X K h q_1366 dX10_runs_121 ?_
                refine z_iload X hl 1 rfl dX10_runs_124 ?_
                refine z_iload_n X hl 5 rfl rfl dX10_runs_126 ?_
                refine sM_13 X K h h37 h38 dX10_runs_127 (fun H locs h => ?_)
                refine z_iload X hl 0 rfl dX10_runs_128 ?_
                refine z_if_eq (tgt := 154) X (by decide) dX10_runs_130 (by decide) (fun c44 => absurd c44 (by decide)) (fun _ => ?_)
                refine z_aload_n X hl 3 rfl rfl dX10_runs_133 ?_
                refine gM_X10_left X K h q_1365 dX10_runs_134 ?_
                refine z_iload X hl 1 rfl dX10_runs_137 ?_
                refine lM_12 (x := sA u1 12 (x1_2 - 1)) X K h h37 h38 rfl dX10_runs_139 ?_
                refine z_if_le (tgt := 154) X h39 dX10_runs_140 (by decide) (fun c45 => ?_) (fun c45 => ?_)
                · replace hw := hw.1 c45
                  refine z_iload X hl 0 rfl dX10_runs_154 ?_
                  refine z_if_eq (tgt := 170) X (by decide) dX10_runs_156 (by decide) (fun c46 => absurd c46 (by decide)) (fun _ => ?_)
                  refine z_aload_n X hl 3 rfl rfl dX10_runs_159 ?_
                  refine gM_X10_began X K h q_1364 dX10_runs_160 ?_
                  refine z_iload X hl 1 rfl dX10_runs_163 ?_
                  refine lM_11 (x := sA u1 11 (x1_2 - 1)) X K h h37 h38 rfl dX10_runs_165 ?_
                  refine z_istore_n (i := 3) (lv' := [(3, zI (sA u1 11 (x1_2 - 1))), (6, zI 1), (5, zI (x1_2 - 1)), (4, zI (sA u1 8 x3_4)), (0, .ref (a 0)), (1, zI x1_2), (2, zI x2_3)]) X hl rfl (by decide) dX10_runs_166 rfl (fun ls hl => ?_)
                  refine z_goto (tgt := 173) X dX10_runs_167 (by decide) ?_
                  refine z_goto (tgt := 264) X dX10_runs_173 (by decide) ?_
                  refine z_iinc (lv' := [(3, zI ((sA u1 11 (x1_2 - 1)) + 1)), (6, zI 1), (5, zI (x1_2 - 1)), (4, zI (sA u1 8 x3_4)), (0, .ref (a 0)), (1, zI x1_2), (2, zI x2_3)]) X hl 0 rfl (by decide) dX10_runs_264 rfl (fun ls hl => ?_)
                  refine z_goto (tgt := 6) X dX10_runs_267 (by decide) ?_
                  exact ih6 ((pA u1 13 (x1_2 - 1) x2_3), x1_2, x2_3, (sA u1 11 (x1_2 - 1)) + 1) H locs ls hw h (lv_sub hl [4, 5, 6, 0] rfl)
                · replace hw := hw.2 c45
                  refine z_aload_n X hl 3 rfl rfl dX10_runs_143 ?_
                  refine gM_X10_left X K h q_1365 dX10_runs_144 ?_
                  refine z_iload X hl 1 rfl dX10_runs_147 ?_
                  refine z_dup2 X rfl rfl dX10_runs_149 ?_
                  refine lM_12 (x := sA u1 12 (x1_2 - 1)) X K h h37 h38 rfl dX10_runs_150 ?_
                  refine z_iconst X dX10_runs_151 ?_
                  refine z_isub X dX10_runs_152 ?_
                  refine sM_12 X K h h37 h38 dX10_runs_153 (fun H locs h => ?_)
                  refine z_iload X hl 0 rfl dX10_runs_154 ?_
                  refine z_if_eq (tgt := 170) X (by decide) dX10_runs_156 (by decide) (fun c47 => absurd c47 (by decide)) (fun _ => ?_)
                  refine z_aload_n X hl 3 rfl rfl dX10_runs_159 ?_
                  refine gM_X10_began X K h q_1364 dX10_runs_160 ?_
                  refine z_iload X hl 1 rfl dX10_runs_163 ?_
                  refine lM_11 (x := sA u1 11 (x1_2 - 1)) X K h h37 h38 rfl dX10_runs_165 ?_
                  refine z_istore_n (i := 3) (lv' := [(3, zI (sA u1 11 (x1_2 - 1))), (6, zI 1), (5, zI (x1_2 - 1)), (4, zI (sA u1 8 x3_4)), (0, .ref (a 0)), (1, zI x1_2), (2, zI x2_3)]) X hl rfl (by decide) dX10_runs_166 rfl (fun ls hl => ?_)
                  refine z_goto (tgt := 173) X dX10_runs_167 (by decide) ?_
                  refine z_goto (tgt := 264) X dX10_runs_173 (by decide) ?_
                  refine z_iinc (lv' := [(3, zI ((sA u1 11 (x1_2 - 1)) + 1)), (6, zI 1), (5, zI (x1_2 - 1)), (4, zI (sA u1 8 x3_4)), (0, .ref (a 0)), (1, zI x1_2), (2, zI x2_3)]) X hl 0 rfl (by decide) dX10_runs_264 rfl (fun ls hl => ?_)
                  refine z_goto (tgt := 6) X dX10_runs_267 (by decide) ?_
                  exact ih6 ((pA (pA u1 13 (x1_2 - 1) x2_3) 12 (x1_2 - 1) ((sA u1 12 (x1_2 - 1)) - 1)), x1_2, x2_3, (sA u1 11 (x1_2 - 1)) + 1) H locs ls hw h (lv_sub hl [4, 5, 6, 0] rfl)
            · replace hw := hw.2 c40
              refine z_iload_n X hl 4 rfl rfl dX10_runs_83 ?_
              refine z_aload_n X hl 2 rfl rfl dX10_runs_84 ?_
              refine gM_X10_doneThen X K h q_1366 dX10_runs_85 ?_
              refine z_iload X hl 0 rfl dX10_runs_88 ?_
              refine lM_13 (x := sA u1 13 (x1_2 - 1)) X K h h37 h38 rfl dX10_runs_90 ?_
              obtain ⟨h48, h49, hw⟩ := hw
              refine z_icmp_le (tgt := 98) X h48 h49 dX10_runs_91 (by decide) (fun c50 => ?_) (fun c50 => ?_)
              · replace hw := hw.1 c50
                refine z_iconst X dX10_runs_98 ?_
                refine z_goto (tgt := 118) X dX10_runs_99 (by decide) ?_
                refine z_istore (i := 6) (lv' := [(6, zI 0), (5, zI (x1_2 - 1)), (4, zI (sA u1 8 x3_4)), (0, .ref (a 0)), (1, zI x1_2), (2, zI x2_3), (3, zI x3_4)]) X hl (by decide) dX10_runs_118 rfl (fun ls hl => ?_)
                refine z_aload_n X hl 3 rfl rfl dX10_runs_120 ?_
                refine gM_X10_doneThen X K h q_1366 dX10_runs_121 ?_
                refine z_iload X hl 1 rfl dX10_runs_124 ?_
                refine z_iload_n X hl 5 rfl rfl dX10_runs_126 ?_
                refine sM_13 X K h h37 h38 dX10_runs_127 (fun H locs h => ?_)
                refine z_iload X hl 0 rfl dX10_runs_128 ?_
                refine z_if_eq (tgt := 154) X (by decide) dX10_runs_130 (by decide) (fun _ => ?_) (fun c51 => absurd c51 (by decide))
                refine z_iload X hl 0 rfl dX10_runs_154 ?_
                refine z_if_eq (tgt := 170) X (by decide) dX10_runs_156 (by decide) (fun _ => ?_) (fun c52 => absurd c52 (by decide))
                refine z_iinc (lv' := [(1, zI (x1_2 + (-1))), (6, zI 0), (5, zI (x1_2 - 1)), (4, zI (sA u1 8 x3_4)), (0, .ref (a 0)), (2, zI x2_3), (3, zI x3_4)]) X hl 4 rfl (by decide) dX10_runs_170 rfl (fun ls hl => ?_)
                refine z_goto (tgt := 264) X dX10_runs_173 (by decide) ?_
                refine z_iinc (lv' := [(3, zI (x3_4 + 1)), (1, zI (x1_2 + (-1))), (6, zI 0), (5, zI (x1_2 - 1)), (4, zI (sA u1 8 x3_4)), (0, .ref (a 0)), (2, zI x2_3)]) X hl 6 rfl (by decide) dX10_runs_264 rfl (fun ls hl => ?_)
                refine z_goto (tgt := 6) X dX10_runs_267 (by decide) ?_
                exact ih6 ((pA u1 13 (x1_2 - 1) x2_3), x1_2 + (-1), x2_3, x3_4 + 1) H locs ls hw h (lv_sub hl [5, 1, 6, 0] rfl)
              · replace hw := hw.2 c50
                refine z_iconst X dX10_runs_94 ?_
                refine z_goto (tgt := 118) X dX10_runs_95 (by decide) ?_
                refine z_istore (i := 6) (lv' := [(6, zI 1), (5, zI (x1_2 - 1)), (4, zI (sA u1 8 x3_4)), (0, .ref (a 0)), (1, zI x1_2), (2, zI x2_3), (3, zI x3_4)]) X hl (by decide) dX10_runs_118 rfl (fun ls hl => ?_)
                refine z_aload_n X hl 3 rfl rfl dX10_runs_120 ?_
                refine gM_X10_doneThen X K h q_1366 dX10_runs_121 ?_
                refine z_iload X hl 1 rfl dX10_runs_124 ?_
                refine z_iload_n X hl 5 rfl rfl dX10_runs_126 ?_
                refine sM_13 X K h h37 h38 dX10_runs_127 (fun H locs h => ?_)
                refine z_iload X hl 0 rfl dX10_runs_128 ?_
                refine z_if_eq (tgt := 154) X (by decide) dX10_runs_130 (by decide) (fun c53 => absurd c53 (by decide)) (fun _ => ?_)
                refine z_aload_n X hl 3 rfl rfl dX10_runs_133 ?_
                refine gM_X10_left X K h q_1365 dX10_runs_134 ?_
                refine z_iload X hl 1 rfl dX10_runs_137 ?_
                refine lM_12 (x := sA u1 12 (x1_2 - 1)) X K h h37 h38 rfl dX10_runs_139 ?_
                refine z_if_le (tgt := 154) X h39 dX10_runs_140 (by decide) (fun _ => ?_) (fun c54 => absurd c54 (by omega))
                refine z_iload X hl 0 rfl dX10_runs_154 ?_
                refine z_if_eq (tgt := 170) X (by decide) dX10_runs_156 (by decide) (fun c55 => absurd c55 (by decide)) (fun _ => ?_)
                refine z_aload_n X hl 3 rfl rfl dX10_runs_159 ?_
                refine gM_X10_began X K h q_1364 dX10_runs_160 ?_
                refine z_iload X hl 1 rfl dX10_runs_163 ?_
                refine lM_11 (x := sA u1 11 (x1_2 - 1)) X K h h37 h38 rfl dX10_runs_165 ?_
                refine z_istore_n (i := 3) (lv' := [(3, zI (sA u1 11 (x1_2 - 1))), (6, zI 1), (5, zI (x1_2 - 1)), (4, zI (sA u1 8 x3_4)), (0, .ref (a 0)), (1, zI x1_2), (2, zI x2_3)]) X hl rfl (by decide) dX10_runs_166 rfl (fun ls hl => ?_)
                refine z_goto (tgt := 173) X dX10_runs_167 (by decide) ?_
                refine z_goto (tgt := 264) X dX10_runs_173 (by decide) ?_
                refine z_iinc (lv' := [(3, zI ((sA u1 11 (x1_2 - 1)) + 1)), (6, zI 1), (5, zI (x1_2 - 1)), (4, zI (sA u1 8 x3_4)), (0, .ref (a 0)), (1, zI x1_2), (2, zI x2_3)]) X hl 0 rfl (by decide) dX10_runs_264 rfl (fun ls hl => ?_)
                refine z_goto (tgt := 6) X dX10_runs_267 (by decide) ?_
                exact ih6 ((pA u1 13 (x1_2 - 1) x2_3), x1_2, x2_3, (sA u1 11 (x1_2 - 1)) + 1) H locs ls hw h (lv_sub hl [4, 5, 6, 0] rfl)
        · replace hw := hw.2 c11
          refine z_aload_n X hl 1 rfl rfl dX10_runs_29 ?_
          refine gM_X10_began X K h q_1364 dX10_runs_30 ?_
          refine z_iload_n X hl 2 rfl rfl dX10_runs_33 ?_
          refine z_iload_n X hl 4 rfl rfl dX10_runs_34 ?_
          obtain ⟨h56, h57, hw⟩ := hw
          refine sM_11 X K h h56 h57 dX10_runs_35 (fun H locs h => ?_)
          refine z_aload_n X hl 1 rfl rfl dX10_runs_36 ?_
          refine gM_X10_left X K h q_1365 dX10_runs_37 ?_
          refine z_iload_n X hl 2 rfl rfl dX10_runs_40 ?_
          refine z_aload_n X hl 1 rfl rfl dX10_runs_41 ?_
          refine gM_X10_itemValue X K h q_1361 dX10_runs_42 ?_
          refine z_iload_n X hl 4 rfl rfl dX10_runs_45 ?_
          refine lM_9 (x := sA u1 9 x3_4) X K h h8 h9 rfl dX10_runs_46 ?_
          refine sM_12 X K h h56 h57 dX10_runs_47 (fun H locs h => ?_)
          refine z_aload_n X hl 1 rfl rfl dX10_runs_48 ?_
          refine gM_X10_doneThen X K h q_1366 dX10_runs_49 ?_
          refine z_iload_n X hl 2 rfl rfl dX10_runs_52 ?_
          refine z_iload_n X hl 3 rfl rfl dX10_runs_53 ?_
          refine sM_13 X K h h56 h57 dX10_runs_54 (fun H locs h => ?_)
          refine z_iinc (lv' := [(1, zI (x1_2 + 1)), (4, zI (sA u1 8 x3_4)), (0, .ref (a 0)), (2, zI x2_3), (3, zI x3_4)]) X hl 2 rfl (by decide) dX10_runs_55 rfl (fun ls hl => ?_)
          refine z_goto (tgt := 264) X dX10_runs_58 (by decide) ?_
          refine z_iinc (lv' := [(3, zI (x3_4 + 1)), (1, zI (x1_2 + 1)), (4, zI (sA u1 8 x3_4)), (0, .ref (a 0)), (2, zI x2_3)]) X hl 4 rfl (by decide) dX10_runs_264 rfl (fun ls hl => ?_)
          refine z_goto (tgt := 6) X dX10_runs_267 (by decide) ?_
          exact ih6 ((pA (pA (pA u1 11 x1_2 x3_4) 12 x1_2 (sA u1 9 x3_4)) 13 x1_2 x2_3), x1_2 + 1, x2_3, x3_4 + 1) H locs ls hw h (lv_sub hl [3, 1, 4, 0] rfl)
  exact key6 n6 (u0, 0, 0, 0) H locs ls hw h (lv_sub hl [3, 2, 1, 0] rfl)
def w_X10_run (post : Int → St → Prop) (u0 : St) : Prop :=
(w_X10_readsAll (fun (z1 : Int) (u2 : St) => (InR z1) ∧ ((z1 = 0 → (w_X10_fails (fun (z5 : Int) (u6 : St) => (InR z5) ∧ ((z5 = 0 → (w_X10_runs (fun (z9 : Int) (u10 : St) => post z9 u10) u6)) ∧
 (¬ z5 = 0 → post 0 u6))) (pI (pI (pI u2 11 (sI u2 8)) 12 0) 6 0) z1 1)) ∧
 (¬ z1 = 0 → (w_X10_fails (fun (z11 : Int) (u12 : St) => (InR z11) ∧ ((z11 = 0 → (w_X10_runs (fun (z15 : Int) (u16 : St) => post z15 u16) u12)) ∧
 (¬ z11 = 0 → post 0 u12))) (pI (pI (pI u2 11 (-1)) 12 0) 6 0) z1 1)))) (pI u0 0 0))
abbrev rm_X10_run : Room := { frames := 7, cells := 0, slots := 0, locals := 149 }
set_option maxRecDepth 100000 in
set_option maxHeartbeats 4000000 in
theorem ct_X10_run {l : Launch} {G : Gr} {a : Nat → Nat} (u0 : St) (post : Int → St → Prop) (hw : w_X10_run post u0) : Ct l G yX10_run (ws_ yX10_run cX10_run 2 (some .int)) rm_X10_run [.ref (a 0)] (WM G a u0) 0 0 (Po (WM G a) post) := by
  refine Ct.of (by decide) (Nat.le_of_ble_eq_true rfl) ?_
  intro p e s m args below meth c ls X hr hlk K g h hl
  have hl : lv_has ls 2 [(0, .ref (a 0))] := hl
  obtain ⟨H, hH⟩ : ∃ H, H = s.heap := ⟨_, rfl⟩
  obtain ⟨locs, hL⟩ : ∃ L : List Loc, L = [] := ⟨_, rfl⟩
  replace h : HW G (va_A (WM G a u0) s.heap.size) s.heap (WM G a u0) H locs := by rw [hH, hL]; exact h
  suffices hg : W p l e rm_X10_run s m args below meth c H locs 0 0 (EndI G (WM G a u0) (Po (WM G a) post) args s 0 0 below) (F0 m 0 ls []) by rw [hH, hL] at hg; exact hg
  clear hH hL
  refine z_aload_n X hl 0 rfl rfl dX10_run_0 ?_
  refine z_iconst X dX10_run_1 ?_
  refine pM_X10_thrown X K h q_1339 dX10_run_2 (fun H locs h => ?_)
  refine z_aload_n X hl 0 rfl rfl dX10_run_5 ?_
  refine r_callVi (rest := []) X K g h (ct_X10_readsAll (pI u0 0 0) _ hw) lk_X10_216 0 rfl rfl ⟨rfl, rfl⟩ ⟨Nat.le_of_ble_eq_true rfl, Nat.le_of_ble_eq_true rfl⟩ rfl (lv_size hl) rfl (Nat.le_of_ble_eq_true rfl) dX10_run_6 ⟨Nat.le_of_ble_eq_true rfl, Nat.le_of_ble_eq_true rfl⟩ (fun z1 w' H locs hp h => ?_)
  obtain ⟨u2, rfl, hw⟩ := hp
  refine z_istore_n (i := 1) (lv' := [(1, zI z1), (0, .ref (a 0))]) X hl rfl (by decide) dX10_run_9 rfl (fun ls hl => ?_)
  refine z_aload_n X hl 1 rfl rfl dX10_run_10 ?_
  refine z_iload_n X hl 0 rfl rfl dX10_run_11 ?_
  obtain ⟨h3, hw⟩ := hw
  refine z_if_eq (tgt := 19) X h3 dX10_run_12 (by decide) (fun c4 => ?_) (fun c4 => ?_)
  · replace hw := hw.1 c4
    refine z_aload_n X hl 1 rfl rfl dX10_run_19 ?_
    refine gM_X10_tokenAt (x := sI u2 8) X K h rfl q_1354 dX10_run_20 ?_
    refine pM_X10_errorAt X K h q_1357 dX10_run_23 (fun H locs h => ?_)
    refine z_aload_n X hl 1 rfl rfl dX10_run_26 ?_
    refine z_iconst X dX10_run_27 ?_
    refine pM_X10_ended X K h q_1358 dX10_run_28 (fun H locs h => ?_)
    refine z_aload_n X hl 1 rfl rfl dX10_run_31 ?_
    refine z_iconst X dX10_run_32 ?_
    refine pM_X10_tapeMany X K h q_1352 dX10_run_33 (fun H locs h => ?_)
    refine z_aload_n X hl 1 rfl rfl dX10_run_36 ?_
    refine z_iload_n X hl 0 rfl rfl dX10_run_37 ?_
    refine z_iconst X dX10_run_38 ?_
    refine r_callVi (rest := []) X K g h (ct_X10_fails (pI (pI (pI u2 11 (sI u2 8)) 12 0) 6 0) z1 1 _ hw) lk_X10_74 0 rfl rfl ⟨rfl, rfl⟩ ⟨Nat.le_of_ble_eq_true rfl, Nat.le_of_ble_eq_true rfl⟩ rfl (lv_size hl) rfl (Nat.le_of_ble_eq_true rfl) dX10_run_39 ⟨Nat.le_of_ble_eq_true rfl, Nat.le_of_ble_eq_true rfl⟩ (fun z5 w' H locs hp h => ?_)
    obtain ⟨u6, rfl, hw⟩ := hp
    obtain ⟨h7, hw⟩ := hw
    refine z_if_eq (tgt := 49) X h7 dX10_run_42 (by decide) (fun c8 => ?_) (fun c8 => ?_)
    · replace hw := hw.1 c8
      refine z_aload_n X hl 1 rfl rfl dX10_run_49 ?_
      refine r_callVi (rest := []) X K g h (ct_X10_runs u6 _ hw) lk_X10_220 0 rfl rfl ⟨rfl, rfl⟩ ⟨Nat.le_of_ble_eq_true rfl, Nat.le_of_ble_eq_true rfl⟩ rfl (lv_size hl) rfl (Nat.le_of_ble_eq_true rfl) dX10_run_50 ⟨Nat.le_of_ble_eq_true rfl, Nat.le_of_ble_eq_true rfl⟩ (fun z9 w' H locs hp h => ?_)
      obtain ⟨u10, rfl, hw⟩ := hp
      exact r_iret X hr hlk K h (Nat.le_refl _) (Nat.le_refl _) dX10_run_53 ⟨_, rfl, hw⟩
    · replace hw := hw.2 c8
      refine z_iconst X dX10_run_45 ?_
      refine z_goto (tgt := 53) X dX10_run_46 (by decide) ?_
      exact r_iret X hr hlk K h (Nat.le_refl _) (Nat.le_refl _) dX10_run_53 ⟨_, rfl, hw⟩
  · replace hw := hw.2 c4
    refine z_iconst X dX10_run_15 ?_
    refine z_goto (tgt := 23) X dX10_run_16 (by decide) ?_
    refine pM_X10_errorAt X K h q_1357 dX10_run_23 (fun H locs h => ?_)
    refine z_aload_n X hl 1 rfl rfl dX10_run_26 ?_
    refine z_iconst X dX10_run_27 ?_
    refine pM_X10_ended X K h q_1358 dX10_run_28 (fun H locs h => ?_)
    refine z_aload_n X hl 1 rfl rfl dX10_run_31 ?_
    refine z_iconst X dX10_run_32 ?_
    refine pM_X10_tapeMany X K h q_1352 dX10_run_33 (fun H locs h => ?_)
    refine z_aload_n X hl 1 rfl rfl dX10_run_36 ?_
    refine z_iload_n X hl 0 rfl rfl dX10_run_37 ?_
    refine z_iconst X dX10_run_38 ?_
    refine r_callVi (rest := []) X K g h (ct_X10_fails (pI (pI (pI u2 11 (-1)) 12 0) 6 0) z1 1 _ hw) lk_X10_74 0 rfl rfl ⟨rfl, rfl⟩ ⟨Nat.le_of_ble_eq_true rfl, Nat.le_of_ble_eq_true rfl⟩ rfl (lv_size hl) rfl (Nat.le_of_ble_eq_true rfl) dX10_run_39 ⟨Nat.le_of_ble_eq_true rfl, Nat.le_of_ble_eq_true rfl⟩ (fun z11 w' H locs hp h => ?_)
    obtain ⟨u12, rfl, hw⟩ := hp
    obtain ⟨h13, hw⟩ := hw
    refine z_if_eq (tgt := 49) X h13 dX10_run_42 (by decide) (fun c14 => ?_) (fun c14 => ?_)
    · replace hw := hw.1 c14
      refine z_aload_n X hl 1 rfl rfl dX10_run_49 ?_
      refine r_callVi (rest := []) X K g h (ct_X10_runs u12 _ hw) lk_X10_220 0 rfl rfl ⟨rfl, rfl⟩ ⟨Nat.le_of_ble_eq_true rfl, Nat.le_of_ble_eq_true rfl⟩ rfl (lv_size hl) rfl (Nat.le_of_ble_eq_true rfl) dX10_run_50 ⟨Nat.le_of_ble_eq_true rfl, Nat.le_of_ble_eq_true rfl⟩ (fun z15 w' H locs hp h => ?_)
      obtain ⟨u16, rfl, hw⟩ := hp
      exact r_iret X hr hlk K h (Nat.le_refl _) (Nat.le_refl _) dX10_run_53 ⟨_, rfl, hw⟩
    · replace hw := hw.2 c14
      refine z_iconst X dX10_run_45 ?_
      refine z_goto (tgt := 53) X dX10_run_46 (by decide) ?_
      exact r_iret X hr hlk K h (Nat.le_refl _) (Nat.le_refl _) dX10_run_53 ⟨_, rfl, hw⟩
def w_X10_errorPosition (post : Int → St → Prop) (u0 : St) : Prop :=
post (sI u0 11) (pI u0 0 0)
abbrev rm_X10_errorPosition : Room := { frames := 0, cells := 0, slots := 0, locals := 0 }
set_option maxRecDepth 100000 in
set_option maxHeartbeats 4000000 in
theorem ct_X10_errorPosition {l : Launch} {G : Gr} {a : Nat → Nat} (u0 : St) (post : Int → St → Prop) (hw : w_X10_errorPosition post u0) : Ct l G yX10_errorPosition (ws_ yX10_errorPosition cX10_errorPosition 1 (some .int)) rm_X10_errorPosition [.ref (a 0)] (WM G a u0) 0 0 (Po (WM G a) post) := by
  refine Ct.of (by decide) (Nat.le_of_ble_eq_true rfl) ?_
  intro p e s m args below meth c ls X hr hlk K g h hl
  have hl : lv_has ls 1 [(0, .ref (a 0))] := hl
  obtain ⟨H, hH⟩ : ∃ H, H = s.heap := ⟨_, rfl⟩
  obtain ⟨locs, hL⟩ : ∃ L : List Loc, L = [] := ⟨_, rfl⟩
  replace h : HW G (va_A (WM G a u0) s.heap.size) s.heap (WM G a u0) H locs := by rw [hH, hL]; exact h
  suffices hg : W p l e rm_X10_errorPosition s m args below meth c H locs 0 0 (EndI G (WM G a u0) (Po (WM G a) post) args s 0 0 below) (F0 m 0 ls []) by rw [hH, hL] at hg; exact hg
  clear hH hL
  refine z_aload_n X hl 0 rfl rfl dX10_errorPosition_0 ?_
  refine z_iconst X dX10_errorPosition_1 ?_
  refine pM_X10_thrown X K h q_1339 dX10_errorPosition_2 (fun H locs h => ?_)
  refine z_aload_n X hl 0 rfl rfl dX10_errorPosition_5 ?_
  refine gM_X10_errorAt (x := sI u0 11) X K h rfl q_1357 dX10_errorPosition_6 ?_
  exact r_iret X hr hlk K h (Nat.le_refl _) (Nat.le_refl _) dX10_errorPosition_9 ⟨_, rfl, hw⟩
def w_X10_endedBy (post : Int → St → Prop) (u0 : St) : Prop :=
post (sI u0 12) (pI u0 0 0)
abbrev rm_X10_endedBy : Room := { frames := 0, cells := 0, slots := 0, locals := 0 }
set_option maxRecDepth 100000 in
set_option maxHeartbeats 4000000 in
theorem ct_X10_endedBy {l : Launch} {G : Gr} {a : Nat → Nat} (u0 : St) (post : Int → St → Prop) (hw : w_X10_endedBy post u0) : Ct l G yX10_endedBy (ws_ yX10_endedBy cX10_endedBy 1 (some .int)) rm_X10_endedBy [.ref (a 0)] (WM G a u0) 0 0 (Po (WM G a) post) := by
  refine Ct.of (by decide) (Nat.le_of_ble_eq_true rfl) ?_
  intro p e s m args below meth c ls X hr hlk K g h hl
  have hl : lv_has ls 1 [(0, .ref (a 0))] := hl
  obtain ⟨H, hH⟩ : ∃ H, H = s.heap := ⟨_, rfl⟩
  obtain ⟨locs, hL⟩ : ∃ L : List Loc, L = [] := ⟨_, rfl⟩
  replace h : HW G (va_A (WM G a u0) s.heap.size) s.heap (WM G a u0) H locs := by rw [hH, hL]; exact h
  suffices hg : W p l e rm_X10_endedBy s m args below meth c H locs 0 0 (EndI G (WM G a u0) (Po (WM G a) post) args s 0 0 below) (F0 m 0 ls []) by rw [hH, hL] at hg; exact hg
  clear hH hL
  refine z_aload_n X hl 0 rfl rfl dX10_endedBy_0 ?_
  refine z_iconst X dX10_endedBy_1 ?_
  refine pM_X10_thrown X K h q_1339 dX10_endedBy_2 (fun H locs h => ?_)
  refine z_aload_n X hl 0 rfl rfl dX10_endedBy_5 ?_
  refine gM_X10_ended (x := sI u0 12) X K h rfl q_1358 dX10_endedBy_6 ?_
  exact r_iret X hr hlk K h (Nat.le_refl _) (Nat.le_refl _) dX10_endedBy_9 ⟨_, rfl, hw⟩
def w_X10_nextIndex (post : Int → St → Prop) (u0 : St) : Prop :=
post (sI u0 1) (pI u0 0 0)
abbrev rm_X10_nextIndex : Room := { frames := 0, cells := 0, slots := 0, locals := 0 }
set_option maxRecDepth 100000 in
set_option maxHeartbeats 4000000 in
theorem ct_X10_nextIndex {l : Launch} {G : Gr} {a : Nat → Nat} (u0 : St) (post : Int → St → Prop) (hw : w_X10_nextIndex post u0) : Ct l G yX10_nextIndex (ws_ yX10_nextIndex cX10_nextIndex 1 (some .int)) rm_X10_nextIndex [.ref (a 0)] (WM G a u0) 0 0 (Po (WM G a) post) := by
  refine Ct.of (by decide) (Nat.le_of_ble_eq_true rfl) ?_
  intro p e s m args below meth c ls X hr hlk K g h hl
  have hl : lv_has ls 1 [(0, .ref (a 0))] := hl
  obtain ⟨H, hH⟩ : ∃ H, H = s.heap := ⟨_, rfl⟩
  obtain ⟨locs, hL⟩ : ∃ L : List Loc, L = [] := ⟨_, rfl⟩
  replace h : HW G (va_A (WM G a u0) s.heap.size) s.heap (WM G a u0) H locs := by rw [hH, hL]; exact h
  suffices hg : W p l e rm_X10_nextIndex s m args below meth c H locs 0 0 (EndI G (WM G a u0) (Po (WM G a) post) args s 0 0 below) (F0 m 0 ls []) by rw [hH, hL] at hg; exact hg
  clear hH hL
  refine z_aload_n X hl 0 rfl rfl dX10_nextIndex_0 ?_
  refine z_iconst X dX10_nextIndex_1 ?_
  refine pM_X10_thrown X K h q_1339 dX10_nextIndex_2 (fun H locs h => ?_)
  refine z_aload_n X hl 0 rfl rfl dX10_nextIndex_5 ?_
  refine gM_X10_backMany (x := sI u0 1) X K h rfl q_1342 dX10_nextIndex_6 ?_
  exact r_iret X hr hlk K h (Nat.le_refl _) (Nat.le_refl _) dX10_nextIndex_9 ⟨_, rfl, hw⟩
def w_X10_previousIndex (post : Int → St → Prop) (u0 : St) : Prop :=
post ((sI u0 1) - 1) (pI u0 0 0)
abbrev rm_X10_previousIndex : Room := { frames := 0, cells := 0, slots := 0, locals := 0 }
set_option maxRecDepth 100000 in
set_option maxHeartbeats 4000000 in
theorem ct_X10_previousIndex {l : Launch} {G : Gr} {a : Nat → Nat} (u0 : St) (post : Int → St → Prop) (hw : w_X10_previousIndex post u0) : Ct l G yX10_previousIndex (ws_ yX10_previousIndex cX10_previousIndex 1 (some .int)) rm_X10_previousIndex [.ref (a 0)] (WM G a u0) 0 0 (Po (WM G a) post) := by
  refine Ct.of (by decide) (Nat.le_of_ble_eq_true rfl) ?_
  intro p e s m args below meth c ls X hr hlk K g h hl
  have hl : lv_has ls 1 [(0, .ref (a 0))] := hl
  obtain ⟨H, hH⟩ : ∃ H, H = s.heap := ⟨_, rfl⟩
  obtain ⟨locs, hL⟩ : ∃ L : List Loc, L = [] := ⟨_, rfl⟩
  replace h : HW G (va_A (WM G a u0) s.heap.size) s.heap (WM G a u0) H locs := by rw [hH, hL]; exact h
  suffices hg : W p l e rm_X10_previousIndex s m args below meth c H locs 0 0 (EndI G (WM G a u0) (Po (WM G a) post) args s 0 0 below) (F0 m 0 ls []) by rw [hH, hL] at hg; exact hg
  clear hH hL
  refine z_aload_n X hl 0 rfl rfl dX10_previousIndex_0 ?_
  refine z_iconst X dX10_previousIndex_1 ?_
  refine pM_X10_thrown X K h q_1339 dX10_previousIndex_2 (fun H locs h => ?_)
  refine z_aload_n X hl 0 rfl rfl dX10_previousIndex_5 ?_
  refine gM_X10_backMany (x := sI u0 1) X K h rfl q_1342 dX10_previousIndex_6 ?_
  refine z_iconst X dX10_previousIndex_9 ?_
  refine z_isub X dX10_previousIndex_10 ?_
  exact r_iret X hr hlk K h (Nat.le_refl _) (Nat.le_refl _) dX10_previousIndex_11 ⟨_, rfl, hw⟩
def w_X10_hasNext (post : Int → St → Prop) (u0 : St) : Prop :=
(InR (sI u0 2)) ∧ ((sI u0 2 ≤ 0 → post 0 (pI u0 0 0)) ∧
 (¬ sI u0 2 ≤ 0 → post 1 (pI u0 0 0)))
abbrev rm_X10_hasNext : Room := { frames := 0, cells := 0, slots := 0, locals := 0 }
set_option maxRecDepth 100000 in
set_option maxHeartbeats 4000000 in
theorem ct_X10_hasNext {l : Launch} {G : Gr} {a : Nat → Nat} (u0 : St) (post : Int → St → Prop) (hw : w_X10_hasNext post u0) : Ct l G yX10_hasNext (ws_ yX10_hasNext cX10_hasNext 1 (some .boolean)) rm_X10_hasNext [.ref (a 0)] (WM G a u0) 0 0 (Po (WM G a) post) := by
  refine Ct.of (by decide) (Nat.le_of_ble_eq_true rfl) ?_
  intro p e s m args below meth c ls X hr hlk K g h hl
  have hl : lv_has ls 1 [(0, .ref (a 0))] := hl
  obtain ⟨H, hH⟩ : ∃ H, H = s.heap := ⟨_, rfl⟩
  obtain ⟨locs, hL⟩ : ∃ L : List Loc, L = [] := ⟨_, rfl⟩
  replace h : HW G (va_A (WM G a u0) s.heap.size) s.heap (WM G a u0) H locs := by rw [hH, hL]; exact h
  suffices hg : W p l e rm_X10_hasNext s m args below meth c H locs 0 0 (EndI G (WM G a u0) (Po (WM G a) post) args s 0 0 below) (F0 m 0 ls []) by rw [hH, hL] at hg; exact hg
  clear hH hL
  refine z_aload_n X hl 0 rfl rfl dX10_hasNext_0 ?_
  refine z_iconst X dX10_hasNext_1 ?_
  refine pM_X10_thrown X K h q_1339 dX10_hasNext_2 (fun H locs h => ?_)
  refine z_aload_n X hl 0 rfl rfl dX10_hasNext_5 ?_
  refine gM_X10_frontMany (x := sI u0 2) X K h rfl q_1343 dX10_hasNext_6 ?_
  obtain ⟨h1, hw⟩ := hw
  refine z_if_le (tgt := 16) X h1 dX10_hasNext_9 (by decide) (fun c2 => ?_) (fun c2 => ?_)
  · replace hw := hw.1 c2
    refine z_iconst X dX10_hasNext_16 ?_
    exact r_zret X hr hlk K h (Nat.le_refl _) (Nat.le_refl _) dX10_hasNext_17 (by decide) ⟨_, rfl, hw⟩
  · replace hw := hw.2 c2
    refine z_iconst X dX10_hasNext_12 ?_
    refine z_goto (tgt := 17) X dX10_hasNext_13 (by decide) ?_
    exact r_zret X hr hlk K h (Nat.le_refl _) (Nat.le_refl _) dX10_hasNext_17 (by decide) ⟨_, rfl, hw⟩
def w_X10_hasPrevious (post : Int → St → Prop) (u0 : St) : Prop :=
(InR (sI u0 1)) ∧ ((sI u0 1 ≤ 0 → post 0 (pI u0 0 0)) ∧
 (¬ sI u0 1 ≤ 0 → post 1 (pI u0 0 0)))
abbrev rm_X10_hasPrevious : Room := { frames := 0, cells := 0, slots := 0, locals := 0 }
set_option maxRecDepth 100000 in
set_option maxHeartbeats 4000000 in
theorem ct_X10_hasPrevious {l : Launch} {G : Gr} {a : Nat → Nat} (u0 : St) (post : Int → St → Prop) (hw : w_X10_hasPrevious post u0) : Ct l G yX10_hasPrevious (ws_ yX10_hasPrevious cX10_hasPrevious 1 (some .boolean)) rm_X10_hasPrevious [.ref (a 0)] (WM G a u0) 0 0 (Po (WM G a) post) := by
  refine Ct.of (by decide) (Nat.le_of_ble_eq_true rfl) ?_
  intro p e s m args below meth c ls X hr hlk K g h hl
  have hl : lv_has ls 1 [(0, .ref (a 0))] := hl
  obtain ⟨H, hH⟩ : ∃ H, H = s.heap := ⟨_, rfl⟩
  obtain ⟨locs, hL⟩ : ∃ L : List Loc, L = [] := ⟨_, rfl⟩
  replace h : HW G (va_A (WM G a u0) s.heap.size) s.heap (WM G a u0) H locs := by rw [hH, hL]; exact h
  suffices hg : W p l e rm_X10_hasPrevious s m args below meth c H locs 0 0 (EndI G (WM G a u0) (Po (WM G a) post) args s 0 0 below) (F0 m 0 ls []) by rw [hH, hL] at hg; exact hg
  clear hH hL
  refine z_aload_n X hl 0 rfl rfl dX10_hasPrevious_0 ?_
  refine z_iconst X dX10_hasPrevious_1 ?_
  refine pM_X10_thrown X K h q_1339 dX10_hasPrevious_2 (fun H locs h => ?_)
  refine z_aload_n X hl 0 rfl rfl dX10_hasPrevious_5 ?_
  refine gM_X10_backMany (x := sI u0 1) X K h rfl q_1342 dX10_hasPrevious_6 ?_
  obtain ⟨h1, hw⟩ := hw
  refine z_if_le (tgt := 16) X h1 dX10_hasPrevious_9 (by decide) (fun c2 => ?_) (fun c2 => ?_)
  · replace hw := hw.1 c2
    refine z_iconst X dX10_hasPrevious_16 ?_
    exact r_zret X hr hlk K h (Nat.le_refl _) (Nat.le_refl _) dX10_hasPrevious_17 (by decide) ⟨_, rfl, hw⟩
  · replace hw := hw.2 c2
    refine z_iconst X dX10_hasPrevious_12 ?_
    refine z_goto (tgt := 17) X dX10_hasPrevious_13 (by decide) ?_
    exact r_zret X hr hlk K h (Nat.le_refl _) (Nat.le_refl _) dX10_hasPrevious_17 (by decide) ⟨_, rfl, hw⟩
def w_X10_ahead (post : Int → St → Prop) (u0 : St) (p1 : Int) : Prop :=
(w_X10_in (fun (z1 : Int) => (InR z1) ∧ ((z1 = 0 → post (-1) (pI u0 0 0)) ∧
 (¬ z1 = 0 → (0 ≤ ((sI u0 2) - 1) - p1) ∧ (((sI u0 2) - 1) - p1 < 101) ∧ post (sA u0 1 (((sI u0 2) - 1) - p1)) (pI u0 0 0)))) p1 0 ((sI u0 2) - 1))
abbrev rm_X10_ahead : Room := { frames := 1, cells := 0, slots := 0, locals := 22 }
set_option maxRecDepth 100000 in
set_option maxHeartbeats 4000000 in
theorem ct_X10_ahead {l : Launch} {G : Gr} {a : Nat → Nat} (u0 : St) (p1 : Int) (post : Int → St → Prop) (hw : w_X10_ahead post u0 p1) : Ct l G yX10_ahead (ws_ yX10_ahead cX10_ahead 2 (some .int)) rm_X10_ahead [.ref (a 0), zI p1] (WM G a u0) 0 0 (Po (WM G a) post) := by
  refine Ct.of (by decide) (Nat.le_of_ble_eq_true rfl) ?_
  intro p e s m args below meth c ls X hr hlk K g h hl
  have hl : lv_has ls 2 [(0, .ref (a 0)), (1, zI p1)] := hl
  obtain ⟨H, hH⟩ : ∃ H, H = s.heap := ⟨_, rfl⟩
  obtain ⟨locs, hL⟩ : ∃ L : List Loc, L = [] := ⟨_, rfl⟩
  replace h : HW G (va_A (WM G a u0) s.heap.size) s.heap (WM G a u0) H locs := by rw [hH, hL]; exact h
  suffices hg : W p l e rm_X10_ahead s m args below meth c H locs 0 0 (EndI G (WM G a u0) (Po (WM G a) post) args s 0 0 below) (F0 m 0 ls []) by rw [hH, hL] at hg; exact hg
  clear hH hL
  refine z_aload_n X hl 0 rfl rfl dX10_ahead_0 ?_
  refine z_iconst X dX10_ahead_1 ?_
  refine pM_X10_thrown X K h q_1339 dX10_ahead_2 (fun H locs h => ?_)
  refine z_iload_n X hl 1 rfl rfl dX10_ahead_5 ?_
  refine z_iconst X dX10_ahead_6 ?_
  refine z_aload_n X hl 0 rfl rfl dX10_ahead_7 ?_
  refine gM_X10_frontMany (x := sI u0 2) X K h rfl q_1343 dX10_ahead_8 ?_
  refine z_iconst X dX10_ahead_11 ?_
  refine z_isub X dX10_ahead_12 ?_
  refine r_callSi (rest := []) X K g h (ct_X10_in (w := WM G a (pI u0 0 0)) p1 0 ((sI u0 2) - 1) _ hw) lk_X10_66 ⟨rfl, rfl⟩ ⟨Nat.le_of_ble_eq_true rfl, Nat.le_of_ble_eq_true rfl⟩ rfl (lv_size hl) rfl (Nat.le_of_ble_eq_true rfl) dX10_ahead_13 ⟨Nat.le_of_ble_eq_true rfl, Nat.le_of_ble_eq_true rfl⟩ (fun z1 w' H locs hp h => ?_)
  obtain ⟨rfl, hw⟩ := hp
  obtain ⟨h2, hw⟩ := hw
  refine z_if_eq (tgt := 35) X h2 dX10_ahead_16 (by decide) (fun c3 => ?_) (fun c3 => ?_)
  · replace hw := hw.1 c3
    refine z_iconst X dX10_ahead_35 ?_
    exact r_iret X hr hlk K h (Nat.le_refl _) (Nat.le_refl _) dX10_ahead_36 ⟨_, rfl, hw⟩
  · replace hw := hw.2 c3
    refine z_aload_n X hl 0 rfl rfl dX10_ahead_19 ?_
    refine gM_X10_front X K h q_1341 dX10_ahead_20 ?_
    refine z_aload_n X hl 0 rfl rfl dX10_ahead_23 ?_
    refine gM_X10_frontMany (x := sI u0 2) X K h rfl q_1343 dX10_ahead_24 ?_
    refine z_iconst X dX10_ahead_27 ?_
    refine z_isub X dX10_ahead_28 ?_
    refine z_iload_n X hl 1 rfl rfl dX10_ahead_29 ?_
    refine z_isub X dX10_ahead_30 ?_
    obtain ⟨h4, h5, hw⟩ := hw
    refine lM_1 (x := sA u0 1 (((sI u0 2) - 1) - p1)) X K h h4 h5 rfl dX10_ahead_31 ?_
    refine z_goto (tgt := 36) X dX10_ahead_32 (by decide) ?_
    exact r_iret X hr hlk K h (Nat.le_refl _) (Nat.le_refl _) dX10_ahead_36 ⟨_, rfl, hw⟩
def w_X10_behind (post : Int → St → Prop) (u0 : St) (p1 : Int) : Prop :=
(w_X10_in (fun (z1 : Int) => (InR z1) ∧ ((z1 = 0 → post (-1) (pI u0 0 0)) ∧
 (¬ z1 = 0 → (0 ≤ ((sI u0 1) - 1) - p1) ∧ (((sI u0 1) - 1) - p1 < 101) ∧ post (sA u0 0 (((sI u0 1) - 1) - p1)) (pI u0 0 0)))) p1 0 ((sI u0 1) - 1))
abbrev rm_X10_behind : Room := { frames := 1, cells := 0, slots := 0, locals := 22 }
set_option maxRecDepth 100000 in
set_option maxHeartbeats 4000000 in
theorem ct_X10_behind {l : Launch} {G : Gr} {a : Nat → Nat} (u0 : St) (p1 : Int) (post : Int → St → Prop) (hw : w_X10_behind post u0 p1) : Ct l G yX10_behind (ws_ yX10_behind cX10_behind 2 (some .int)) rm_X10_behind [.ref (a 0), zI p1] (WM G a u0) 0 0 (Po (WM G a) post) := by
  refine Ct.of (by decide) (Nat.le_of_ble_eq_true rfl) ?_
  intro p e s m args below meth c ls X hr hlk K g h hl
  have hl : lv_has ls 2 [(0, .ref (a 0)), (1, zI p1)] := hl
  obtain ⟨H, hH⟩ : ∃ H, H = s.heap := ⟨_, rfl⟩
  obtain ⟨locs, hL⟩ : ∃ L : List Loc, L = [] := ⟨_, rfl⟩
  replace h : HW G (va_A (WM G a u0) s.heap.size) s.heap (WM G a u0) H locs := by rw [hH, hL]; exact h
  suffices hg : W p l e rm_X10_behind s m args below meth c H locs 0 0 (EndI G (WM G a u0) (Po (WM G a) post) args s 0 0 below) (F0 m 0 ls []) by rw [hH, hL] at hg; exact hg
  clear hH hL
  refine z_aload_n X hl 0 rfl rfl dX10_behind_0 ?_
  refine z_iconst X dX10_behind_1 ?_
  refine pM_X10_thrown X K h q_1339 dX10_behind_2 (fun H locs h => ?_)
  refine z_iload_n X hl 1 rfl rfl dX10_behind_5 ?_
  refine z_iconst X dX10_behind_6 ?_
  refine z_aload_n X hl 0 rfl rfl dX10_behind_7 ?_
  refine gM_X10_backMany (x := sI u0 1) X K h rfl q_1342 dX10_behind_8 ?_
  refine z_iconst X dX10_behind_11 ?_
  refine z_isub X dX10_behind_12 ?_
  refine r_callSi (rest := []) X K g h (ct_X10_in (w := WM G a (pI u0 0 0)) p1 0 ((sI u0 1) - 1) _ hw) lk_X10_66 ⟨rfl, rfl⟩ ⟨Nat.le_of_ble_eq_true rfl, Nat.le_of_ble_eq_true rfl⟩ rfl (lv_size hl) rfl (Nat.le_of_ble_eq_true rfl) dX10_behind_13 ⟨Nat.le_of_ble_eq_true rfl, Nat.le_of_ble_eq_true rfl⟩ (fun z1 w' H locs hp h => ?_)
  obtain ⟨rfl, hw⟩ := hp
  obtain ⟨h2, hw⟩ := hw
  refine z_if_eq (tgt := 35) X h2 dX10_behind_16 (by decide) (fun c3 => ?_) (fun c3 => ?_)
  · replace hw := hw.1 c3
    refine z_iconst X dX10_behind_35 ?_
    exact r_iret X hr hlk K h (Nat.le_refl _) (Nat.le_refl _) dX10_behind_36 ⟨_, rfl, hw⟩
  · replace hw := hw.2 c3
    refine z_aload_n X hl 0 rfl rfl dX10_behind_19 ?_
    refine gM_X10_back X K h q_1340 dX10_behind_20 ?_
    refine z_aload_n X hl 0 rfl rfl dX10_behind_23 ?_
    refine gM_X10_backMany (x := sI u0 1) X K h rfl q_1342 dX10_behind_24 ?_
    refine z_iconst X dX10_behind_27 ?_
    refine z_isub X dX10_behind_28 ?_
    refine z_iload_n X hl 1 rfl rfl dX10_behind_29 ?_
    refine z_isub X dX10_behind_30 ?_
    obtain ⟨h4, h5, hw⟩ := hw
    refine lM_0 (x := sA u0 0 (((sI u0 1) - 1) - p1)) X K h h4 h5 rfl dX10_behind_31 ?_
    refine z_goto (tgt := 36) X dX10_behind_32 (by decide) ?_
    exact r_iret X hr hlk K h (Nat.le_refl _) (Nat.le_refl _) dX10_behind_36 ⟨_, rfl, hw⟩
def w_X10_given (post : Int → St → Prop) (u0 : St) : Prop :=
(w_X10_givenNow (fun (z1 : Int) => post z1 (pI u0 0 0)) (pI u0 0 0))
abbrev rm_X10_given : Room := { frames := 1, cells := 0, slots := 0, locals := 20 }
set_option maxRecDepth 100000 in
set_option maxHeartbeats 4000000 in
theorem ct_X10_given {l : Launch} {G : Gr} {a : Nat → Nat} (u0 : St) (post : Int → St → Prop) (hw : w_X10_given post u0) : Ct l G yX10_given (ws_ yX10_given cX10_given 1 (some .int)) rm_X10_given [.ref (a 0)] (WM G a u0) 0 0 (Po (WM G a) post) := by
  refine Ct.of (by decide) (Nat.le_of_ble_eq_true rfl) ?_
  intro p e s m args below meth c ls X hr hlk K g h hl
  have hl : lv_has ls 1 [(0, .ref (a 0))] := hl
  obtain ⟨H, hH⟩ : ∃ H, H = s.heap := ⟨_, rfl⟩
  obtain ⟨locs, hL⟩ : ∃ L : List Loc, L = [] := ⟨_, rfl⟩
  replace h : HW G (va_A (WM G a u0) s.heap.size) s.heap (WM G a u0) H locs := by rw [hH, hL]; exact h
  suffices hg : W p l e rm_X10_given s m args below meth c H locs 0 0 (EndI G (WM G a u0) (Po (WM G a) post) args s 0 0 below) (F0 m 0 ls []) by rw [hH, hL] at hg; exact hg
  clear hH hL
  refine z_aload_n X hl 0 rfl rfl dX10_given_0 ?_
  refine z_iconst X dX10_given_1 ?_
  refine pM_X10_thrown X K h q_1339 dX10_given_2 (fun H locs h => ?_)
  refine z_aload_n X hl 0 rfl rfl dX10_given_5 ?_
  refine r_callVi (rest := []) X K g h (ct_X10_givenNow (pI u0 0 0) _ hw) lk_X10_112 0 rfl rfl ⟨rfl, rfl⟩ ⟨Nat.le_of_ble_eq_true rfl, Nat.le_of_ble_eq_true rfl⟩ rfl (lv_size hl) rfl (Nat.le_of_ble_eq_true rfl) dX10_given_6 ⟨Nat.le_of_ble_eq_true rfl, Nat.le_of_ble_eq_true rfl⟩ (fun z1 w' H locs hp h => ?_)
  obtain ⟨rfl, hw⟩ := hp
  exact r_iret X hr hlk K h (Nat.le_refl _) (Nat.le_refl _) dX10_given_9 ⟨_, rfl, hw⟩
def w_X10_givenBy (post : Int → St → Prop) (u0 : St) : Prop :=
post (sI u0 3) (pI u0 0 0)
abbrev rm_X10_givenBy : Room := { frames := 0, cells := 0, slots := 0, locals := 0 }
set_option maxRecDepth 100000 in
set_option maxHeartbeats 4000000 in
theorem ct_X10_givenBy {l : Launch} {G : Gr} {a : Nat → Nat} (u0 : St) (post : Int → St → Prop) (hw : w_X10_givenBy post u0) : Ct l G yX10_givenBy (ws_ yX10_givenBy cX10_givenBy 1 (some .int)) rm_X10_givenBy [.ref (a 0)] (WM G a u0) 0 0 (Po (WM G a) post) := by
  refine Ct.of (by decide) (Nat.le_of_ble_eq_true rfl) ?_
  intro p e s m args below meth c ls X hr hlk K g h hl
  have hl : lv_has ls 1 [(0, .ref (a 0))] := hl
  obtain ⟨H, hH⟩ : ∃ H, H = s.heap := ⟨_, rfl⟩
  obtain ⟨locs, hL⟩ : ∃ L : List Loc, L = [] := ⟨_, rfl⟩
  replace h : HW G (va_A (WM G a u0) s.heap.size) s.heap (WM G a u0) H locs := by rw [hH, hL]; exact h
  suffices hg : W p l e rm_X10_givenBy s m args below meth c H locs 0 0 (EndI G (WM G a u0) (Po (WM G a) post) args s 0 0 below) (F0 m 0 ls []) by rw [hH, hL] at hg; exact hg
  clear hH hL
  refine z_aload_n X hl 0 rfl rfl dX10_givenBy_0 ?_
  refine z_iconst X dX10_givenBy_1 ?_
  refine pM_X10_thrown X K h q_1339 dX10_givenBy_2 (fun H locs h => ?_)
  refine z_aload_n X hl 0 rfl rfl dX10_givenBy_5 ?_
  refine gM_X10_givenBy (x := sI u0 3) X K h rfl q_1344 dX10_givenBy_6 ?_
  exact r_iret X hr hlk K h (Nat.le_refl _) (Nat.le_refl _) dX10_givenBy_9 ⟨_, rfl, hw⟩
def w_X10_refusedNow (post : Int → St → Prop) (u0 : St) : Prop :=
(InR (sI u0 2)) ∧ ((¬ sI u0 2 = 0 → (InR (sI u0 1)) ∧ ((¬ sI u0 1 = 0 → (w_X10_many (fun (z5 : Int) => (InR z5) ∧ ((¬ z5 = 100 → (InR (sI u0 3)) ∧ ((¬ sI u0 3 = 0 → post ((((0 + 0) + 0) + 0) + 0) (pI u0 0 0)) ∧
 (sI u0 3 = 0 → post ((((0 + 0) + 0) + 8) + 0) (pI u0 0 0)))) ∧
 (z5 = 100 → (InR (sI u0 3)) ∧ ((¬ sI u0 3 = 0 → post ((((0 + 0) + 4) + 0) + 0) (pI u0 0 0)) ∧
 (sI u0 3 = 0 → post ((((0 + 0) + 4) + 8) + 0) (pI u0 0 0)))))) (pI u0 0 0))) ∧
 (sI u0 1 = 0 → (w_X10_many (fun (z20 : Int) => (InR z20) ∧ ((¬ z20 = 100 → (InR (sI u0 3)) ∧ ((¬ sI u0 3 = 0 → post ((((0 + 2) + 0) + 0) + 16) (pI u0 0 0)) ∧
 (sI u0 3 = 0 → post ((((0 + 2) + 0) + 8) + 16) (pI u0 0 0)))) ∧
 (z20 = 100 → (InR (sI u0 3)) ∧ ((¬ sI u0 3 = 0 → post ((((0 + 2) + 4) + 0) + 16) (pI u0 0 0)) ∧
 (sI u0 3 = 0 → post ((((0 + 2) + 4) + 8) + 16) (pI u0 0 0)))))) (pI u0 0 0))))) ∧
 (sI u0 2 = 0 → (InR (sI u0 1)) ∧ ((¬ sI u0 1 = 0 → (w_X10_many (fun (z37 : Int) => (InR z37) ∧ ((¬ z37 = 100 → (InR (sI u0 3)) ∧ ((¬ sI u0 3 = 0 → post ((((1 + 0) + 0) + 0) + 16) (pI u0 0 0)) ∧
 (sI u0 3 = 0 → post ((((1 + 0) + 0) + 8) + 16) (pI u0 0 0)))) ∧
 (z37 = 100 → (InR (sI u0 3)) ∧ ((¬ sI u0 3 = 0 → post ((((1 + 0) + 4) + 0) + 16) (pI u0 0 0)) ∧
 (sI u0 3 = 0 → post ((((1 + 0) + 4) + 8) + 16) (pI u0 0 0)))))) (pI u0 0 0))) ∧
 (sI u0 1 = 0 → (w_X10_many (fun (z48 : Int) => (InR z48) ∧ ((¬ z48 = 100 → (InR (sI u0 3)) ∧ ((¬ sI u0 3 = 0 → post ((((1 + 2) + 0) + 0) + 16) (pI u0 0 0)) ∧
 (sI u0 3 = 0 → post ((((1 + 2) + 0) + 8) + 16) (pI u0 0 0)))) ∧
 (z48 = 100 → (InR (sI u0 3)) ∧ ((¬ sI u0 3 = 0 → post ((((1 + 2) + 4) + 0) + 16) (pI u0 0 0)) ∧
 (sI u0 3 = 0 → post ((((1 + 2) + 4) + 8) + 16) (pI u0 0 0)))))) (pI u0 0 0))))))
abbrev rm_X10_refusedNow : Room := { frames := 1, cells := 0, slots := 0, locals := 20 }
set_option maxRecDepth 100000 in
set_option maxHeartbeats 4000000 in
theorem ct_X10_refusedNow {l : Launch} {G : Gr} {a : Nat → Nat} (u0 : St) (post : Int → St → Prop) (hw : w_X10_refusedNow post u0) : Ct l G yX10_refusedNow (ws_ yX10_refusedNow cX10_refusedNow 2 (some .int)) rm_X10_refusedNow [.ref (a 0)] (WM G a u0) 0 0 (Po (WM G a) post) := by
  refine Ct.of (by decide) (Nat.le_of_ble_eq_true rfl) ?_
  intro p e s m args below meth c ls X hr hlk K g h hl
  have hl : lv_has ls 2 [(0, .ref (a 0))] := hl
  obtain ⟨H, hH⟩ : ∃ H, H = s.heap := ⟨_, rfl⟩
  obtain ⟨locs, hL⟩ : ∃ L : List Loc, L = [] := ⟨_, rfl⟩
  replace h : HW G (va_A (WM G a u0) s.heap.size) s.heap (WM G a u0) H locs := by rw [hH, hL]; exact h
  suffices hg : W p l e rm_X10_refusedNow s m args below meth c H locs 0 0 (EndI G (WM G a u0) (Po (WM G a) post) args s 0 0 below) (F0 m 0 ls []) by rw [hH, hL] at hg; exact hg
  clear hH hL
  refine z_aload_n X hl 0 rfl rfl dX10_refusedNow_0 ?_
  refine z_iconst X dX10_refusedNow_1 ?_
  refine pM_X10_thrown X K h q_1339 dX10_refusedNow_2 (fun H locs h => ?_)
  refine z_aload_n X hl 0 rfl rfl dX10_refusedNow_5 ?_
  refine gM_X10_frontMany (x := sI u0 2) X K h rfl q_1343 dX10_refusedNow_6 ?_
  obtain ⟨h1, hw⟩ := hw
  refine z_if_ne (tgt := 16) X h1 dX10_refusedNow_9 (by decide) (fun c2 => ?_) (fun c2 => ?_)
  · replace hw := hw.1 c2
    refine z_iconst X dX10_refusedNow_16 ?_
    refine z_aload_n X hl 0 rfl rfl dX10_refusedNow_17 ?_
    refine gM_X10_backMany (x := sI u0 1) X K h rfl q_1342 dX10_refusedNow_18 ?_
    obtain ⟨h3, hw⟩ := hw
    refine z_if_ne (tgt := 28) X h3 dX10_refusedNow_21 (by decide) (fun c4 => ?_) (fun c4 => ?_)
    · replace hw := hw.1 c4
      refine z_iconst X dX10_refusedNow_28 ?_
      refine z_iadd X dX10_refusedNow_29 ?_
      refine z_aload_n X hl 0 rfl rfl dX10_refusedNow_30 ?_
      refine r_callVi (rest := [zI (0 + 0)]) X K g h (ct_X10_many (pI u0 0 0) _ hw) lk_X10_84 0 rfl rfl ⟨rfl, rfl⟩ ⟨Nat.le_of_ble_eq_true rfl, Nat.le_of_ble_eq_true rfl⟩ rfl (lv_size hl) rfl (Nat.le_of_ble_eq_true rfl) dX10_refusedNow_31 ⟨Nat.le_of_ble_eq_true rfl, Nat.le_of_ble_eq_true rfl⟩ (fun z5 w' H locs hp h => ?_)
      obtain ⟨rfl, hw⟩ := hp
      refine z_bipush (v := 100) X dX10_refusedNow_34 (by decide) ?_
      obtain ⟨h6, hw⟩ := hw
      refine z_icmp_ne (tgt := 43) X h6 (by decide) dX10_refusedNow_36 (by decide) (fun c7 => ?_) (fun c7 => ?_)
      · replace hw := hw.1 c7
        refine z_iconst X dX10_refusedNow_43 ?_
        refine z_iadd X dX10_refusedNow_44 ?_
        refine z_aload_n X hl 0 rfl rfl dX10_refusedNow_45 ?_
        refine gM_X10_givenBy (x := sI u0 3) X K h rfl q_1344 dX10_refusedNow_46 ?_
        obtain ⟨h8, hw⟩ := hw
        refine z_if_ne (tgt := 57) X h8 dX10_refusedNow_49 (by decide) (fun c9 => ?_) (fun c9 => ?_)
        · replace hw := hw.1 c9
          refine z_iconst X dX10_refusedNow_57 ?_
          refine z_iadd X dX10_refusedNow_58 ?_
          refine z_istore_n (i := 1) (lv' := [(1, zI (((0 + 0) + 0) + 0)), (0, .ref (a 0))]) X hl rfl (by decide) dX10_refusedNow_59 rfl (fun ls hl => ?_)
          refine z_iload_n X hl 0 rfl rfl dX10_refusedNow_60 ?_
          refine z_aload_n X hl 1 rfl rfl dX10_refusedNow_61 ?_
          refine gM_X10_frontMany (x := sI u0 2) X K h rfl q_1343 dX10_refusedNow_62 ?_
          refine z_if_eq (tgt := 75) X h1 dX10_refusedNow_65 (by decide) (fun c10 => absurd c10 (by omega)) (fun _ => ?_)
          refine z_aload_n X hl 1 rfl rfl dX10_refusedNow_68 ?_
          refine gM_X10_backMany (x := sI u0 1) X K h rfl q_1342 dX10_refusedNow_69 ?_
          refine z_if_ne (tgt := 80) X h3 dX10_refusedNow_72 (by decide) (fun _ => ?_) (fun c11 => absurd c11 (by omega))
          refine z_iconst X dX10_refusedNow_80 ?_
          refine z_iadd X dX10_refusedNow_81 ?_
          exact r_iret X hr hlk K h (Nat.le_refl _) (Nat.le_refl _) dX10_refusedNow_82 ⟨_, rfl, hw⟩
        · replace hw := hw.2 c9
          refine z_bipush (v := 8) X dX10_refusedNow_52 (by decide) ?_
          refine z_goto (tgt := 58) X dX10_refusedNow_54 (by decide) ?_
          refine z_iadd X dX10_refusedNow_58 ?_
          refine z_istore_n (i := 1) (lv' := [(1, zI (((0 + 0) + 0) + 8)), (0, .ref (a 0))]) X hl rfl (by decide) dX10_refusedNow_59 rfl (fun ls hl => ?_)
          refine z_iload_n X hl 0 rfl rfl dX10_refusedNow_60 ?_
          refine z_aload_n X hl 1 rfl rfl dX10_refusedNow_61 ?_
          refine gM_X10_frontMany (x := sI u0 2) X K h rfl q_1343 dX10_refusedNow_62 ?_
          refine z_if_eq (tgt := 75) X h1 dX10_refusedNow_65 (by decide) (fun c12 => absurd c12 (by omega)) (fun _ => ?_)
          refine z_aload_n X hl 1 rfl rfl dX10_refusedNow_68 ?_
          refine gM_X10_backMany (x := sI u0 1) X K h rfl q_1342 dX10_refusedNow_69 ?_
          refine z_if_ne (tgt := 80) X h3 dX10_refusedNow_72 (by decide) (fun _ => ?_) (fun c13 => absurd c13 (by omega))
          refine z_iconst X dX10_refusedNow_80 ?_
          refine z_iadd X dX10_refusedNow_81 ?_
          exact r_iret X hr hlk K h (Nat.le_refl _) (Nat.le_refl _) dX10_refusedNow_82 ⟨_, rfl, hw⟩
      · replace hw := hw.2 c7
        refine z_iconst X dX10_refusedNow_39 ?_
        refine z_goto (tgt := 44) X dX10_refusedNow_40 (by decide) ?_
        refine z_iadd X dX10_refusedNow_44 ?_
        refine z_aload_n X hl 0 rfl rfl dX10_refusedNow_45 ?_
        refine gM_X10_givenBy (x := sI u0 3) X K h rfl q_1344 dX10_refusedNow_46 ?_
        obtain ⟨h14, hw⟩ := hw
        refine z_if_ne (tgt := 57) X h14 dX10_refusedNow_49 (by decide) (fun c15 => ?_) (fun c15 => ?_)
        · replace hw := hw.1 c15
          refine z_iconst X dX10_refusedNow_57 ?_
          refine z_iadd X dX10_refusedNow_58 ?_
          refine z_istore_n (i := 1) (lv' := [(1, zI (((0 + 0) + 4) + 0)), (0, .ref (a 0))]) X hl rfl (by decide) dX10_refusedNow_59 rfl (fun ls hl => ?_)
          refine z_iload_n X hl 0 rfl rfl dX10_refusedNow_60 ?_
          refine z_aload_n X hl 1 rfl rfl dX10_refusedNow_61 ?_
          refine gM_X10_frontMany (x := sI u0 2) X K h rfl q_1343 dX10_refusedNow_62 ?_
          refine z_if_eq (tgt := 75) X h1 dX10_refusedNow_65 (by decide) (fun c16 => absurd c16 (by omega)) (fun _ => ?_)
          refine z_aload_n X hl 1 rfl rfl dX10_refusedNow_68 ?_
          refine gM_X10_backMany (x := sI u0 1) X K h rfl q_1342 dX10_refusedNow_69 ?_
          refine z_if_ne (tgt := 80) X h3 dX10_refusedNow_72 (by decide) (fun _ => ?_) (fun c17 => absurd c17 (by omega))
          refine z_iconst X dX10_refusedNow_80 ?_
          refine z_iadd X dX10_refusedNow_81 ?_
          exact r_iret X hr hlk K h (Nat.le_refl _) (Nat.le_refl _) dX10_refusedNow_82 ⟨_, rfl, hw⟩
        · replace hw := hw.2 c15
          refine z_bipush (v := 8) X dX10_refusedNow_52 (by decide) ?_
          refine z_goto (tgt := 58) X dX10_refusedNow_54 (by decide) ?_
          refine z_iadd X dX10_refusedNow_58 ?_
          refine z_istore_n (i := 1) (lv' := [(1, zI (((0 + 0) + 4) + 8)), (0, .ref (a 0))]) X hl rfl (by decide) dX10_refusedNow_59 rfl (fun ls hl => ?_)
          refine z_iload_n X hl 0 rfl rfl dX10_refusedNow_60 ?_
          refine z_aload_n X hl 1 rfl rfl dX10_refusedNow_61 ?_
          refine gM_X10_frontMany (x := sI u0 2) X K h rfl q_1343 dX10_refusedNow_62 ?_
          refine z_if_eq (tgt := 75) X h1 dX10_refusedNow_65 (by decide) (fun c18 => absurd c18 (by omega)) (fun _ => ?_)
          refine z_aload_n X hl 1 rfl rfl dX10_refusedNow_68 ?_
          refine gM_X10_backMany (x := sI u0 1) X K h rfl q_1342 dX10_refusedNow_69 ?_
          refine z_if_ne (tgt := 80) X h3 dX10_refusedNow_72 (by decide) (fun _ => ?_) (fun c19 => absurd c19 (by omega))
          refine z_iconst X dX10_refusedNow_80 ?_
          refine z_iadd X dX10_refusedNow_81 ?_
          exact r_iret X hr hlk K h (Nat.le_refl _) (Nat.le_refl _) dX10_refusedNow_82 ⟨_, rfl, hw⟩
    · replace hw := hw.2 c4
      refine z_iconst X dX10_refusedNow_24 ?_
      refine z_goto (tgt := 29) X dX10_refusedNow_25 (by decide) ?_
      refine z_iadd X dX10_refusedNow_29 ?_
      refine z_aload_n X hl 0 rfl rfl dX10_refusedNow_30 ?_
      refine r_callVi (rest := [zI (0 + 2)]) X K g h (ct_X10_many (pI u0 0 0) _ hw) lk_X10_84 0 rfl rfl ⟨rfl, rfl⟩ ⟨Nat.le_of_ble_eq_true rfl, Nat.le_of_ble_eq_true rfl⟩ rfl (lv_size hl) rfl (Nat.le_of_ble_eq_true rfl) dX10_refusedNow_31 ⟨Nat.le_of_ble_eq_true rfl, Nat.le_of_ble_eq_true rfl⟩ (fun z20 w' H locs hp h => ?_)
      obtain ⟨rfl, hw⟩ := hp
      refine z_bipush (v := 100) X dX10_refusedNow_34 (by decide) ?_
      obtain ⟨h21, hw⟩ := hw
      refine z_icmp_ne (tgt := 43) X h21 (by decide) dX10_refusedNow_36 (by decide) (fun c22 => ?_) (fun c22 => ?_)
      · replace hw := hw.1 c22
        refine z_iconst X dX10_refusedNow_43 ?_
        refine z_iadd X dX10_refusedNow_44 ?_
        refine z_aload_n X hl 0 rfl rfl dX10_refusedNow_45 ?_
        refine gM_X10_givenBy (x := sI u0 3) X K h rfl q_1344 dX10_refusedNow_46 ?_
        obtain ⟨h23, hw⟩ := hw
        refine z_if_ne (tgt := 57) X h23 dX10_refusedNow_49 (by decide) (fun c24 => ?_) (fun c24 => ?_)
        · replace hw := hw.1 c24
          refine z_iconst X dX10_refusedNow_57 ?_
          refine z_iadd X dX10_refusedNow_58 ?_
          refine z_istore_n (i := 1) (lv' := [(1, zI (((0 + 2) + 0) + 0)), (0, .ref (a 0))]) X hl rfl (by decide) dX10_refusedNow_59 rfl (fun ls hl => ?_)
          refine z_iload_n X hl 0 rfl rfl dX10_refusedNow_60 ?_
          refine z_aload_n X hl 1 rfl rfl dX10_refusedNow_61 ?_
          refine gM_X10_frontMany (x := sI u0 2) X K h rfl q_1343 dX10_refusedNow_62 ?_
          refine z_if_eq (tgt := 75) X h1 dX10_refusedNow_65 (by decide) (fun c25 => absurd c25 (by omega)) (fun _ => ?_)
          refine z_aload_n X hl 1 rfl rfl dX10_refusedNow_68 ?_
          refine gM_X10_backMany (x := sI u0 1) X K h rfl q_1342 dX10_refusedNow_69 ?_
          refine z_if_ne (tgt := 80) X h3 dX10_refusedNow_72 (by decide) (fun c26 => absurd c26 (by omega)) (fun _ => ?_)
          refine z_bipush (v := 16) X dX10_refusedNow_75 (by decide) ?_
          refine z_goto (tgt := 81) X dX10_refusedNow_77 (by decide) ?_
          refine z_iadd X dX10_refusedNow_81 ?_
          exact r_iret X hr hlk K h (Nat.le_refl _) (Nat.le_refl _) dX10_refusedNow_82 ⟨_, rfl, hw⟩
        · replace hw := hw.2 c24
          refine z_bipush (v := 8) X dX10_refusedNow_52 (by decide) ?_
          refine z_goto (tgt := 58) X dX10_refusedNow_54 (by decide) ?_
          refine z_iadd X dX10_refusedNow_58 ?_
          refine z_istore_n (i := 1) (lv' := [(1, zI (((0 + 2) + 0) + 8)), (0, .ref (a 0))]) X hl rfl (by decide) dX10_refusedNow_59 rfl (fun ls hl => ?_)
          refine z_iload_n X hl 0 rfl rfl dX10_refusedNow_60 ?_
          refine z_aload_n X hl 1 rfl rfl dX10_refusedNow_61 ?_
          refine gM_X10_frontMany (x := sI u0 2) X K h rfl q_1343 dX10_refusedNow_62 ?_
          refine z_if_eq (tgt := 75) X h1 dX10_refusedNow_65 (by decide) (fun c27 => absurd c27 (by omega)) (fun _ => ?_)
          refine z_aload_n X hl 1 rfl rfl dX10_refusedNow_68 ?_
          refine gM_X10_backMany (x := sI u0 1) X K h rfl q_1342 dX10_refusedNow_69 ?_
          refine z_if_ne (tgt := 80) X h3 dX10_refusedNow_72 (by decide) (fun c28 => absurd c28 (by omega)) (fun _ => ?_)
          refine z_bipush (v := 16) X dX10_refusedNow_75 (by decide) ?_
          refine z_goto (tgt := 81) X dX10_refusedNow_77 (by decide) ?_
          refine z_iadd X dX10_refusedNow_81 ?_
          exact r_iret X hr hlk K h (Nat.le_refl _) (Nat.le_refl _) dX10_refusedNow_82 ⟨_, rfl, hw⟩
      · replace hw := hw.2 c22
        refine z_iconst X dX10_refusedNow_39 ?_
        refine z_goto (tgt := 44) X dX10_refusedNow_40 (by decide) ?_
        refine z_iadd X dX10_refusedNow_44 ?_
        refine z_aload_n X hl 0 rfl rfl dX10_refusedNow_45 ?_
        refine gM_X10_givenBy (x := sI u0 3) X K h rfl q_1344 dX10_refusedNow_46 ?_
        obtain ⟨h29, hw⟩ := hw
        refine z_if_ne (tgt := 57) X h29 dX10_refusedNow_49 (by decide) (fun c30 => ?_) (fun c30 => ?_)
        · replace hw := hw.1 c30
          refine z_iconst X dX10_refusedNow_57 ?_
          refine z_iadd X dX10_refusedNow_58 ?_
          refine z_istore_n (i := 1) (lv' := [(1, zI (((0 + 2) + 4) + 0)), (0, .ref (a 0))]) X hl rfl (by decide) dX10_refusedNow_59 rfl (fun ls hl => ?_)
          refine z_iload_n X hl 0 rfl rfl dX10_refusedNow_60 ?_
          refine z_aload_n X hl 1 rfl rfl dX10_refusedNow_61 ?_
          refine gM_X10_frontMany (x := sI u0 2) X K h rfl q_1343 dX10_refusedNow_62 ?_
          refine z_if_eq (tgt := 75) X h1 dX10_refusedNow_65 (by decide) (fun c31 => absurd c31 (by omega)) (fun _ => ?_)
          refine z_aload_n X hl 1 rfl rfl dX10_refusedNow_68 ?_
          refine gM_X10_backMany (x := sI u0 1) X K h rfl q_1342 dX10_refusedNow_69 ?_
          refine z_if_ne (tgt := 80) X h3 dX10_refusedNow_72 (by decide) (fun c32 => absurd c32 (by omega)) (fun _ => ?_)
          refine z_bipush (v := 16) X dX10_refusedNow_75 (by decide) ?_
          refine z_goto (tgt := 81) X dX10_refusedNow_77 (by decide) ?_
          refine z_iadd X dX10_refusedNow_81 ?_
          exact r_iret X hr hlk K h (Nat.le_refl _) (Nat.le_refl _) dX10_refusedNow_82 ⟨_, rfl, hw⟩
        · replace hw := hw.2 c30
          refine z_bipush (v := 8) X dX10_refusedNow_52 (by decide) ?_
          refine z_goto (tgt := 58) X dX10_refusedNow_54 (by decide) ?_
          refine z_iadd X dX10_refusedNow_58 ?_
          refine z_istore_n (i := 1) (lv' := [(1, zI (((0 + 2) + 4) + 8)), (0, .ref (a 0))]) X hl rfl (by decide) dX10_refusedNow_59 rfl (fun ls hl => ?_)
          refine z_iload_n X hl 0 rfl rfl dX10_refusedNow_60 ?_
          refine z_aload_n X hl 1 rfl rfl dX10_refusedNow_61 ?_
          refine gM_X10_frontMany (x := sI u0 2) X K h rfl q_1343 dX10_refusedNow_62 ?_
          refine z_if_eq (tgt := 75) X h1 dX10_refusedNow_65 (by decide) (fun c33 => absurd c33 (by omega)) (fun _ => ?_)
          refine z_aload_n X hl 1 rfl rfl dX10_refusedNow_68 ?_
          refine gM_X10_backMany (x := sI u0 1) X K h rfl q_1342 dX10_refusedNow_69 ?_
          refine z_if_ne (tgt := 80) X h3 dX10_refusedNow_72 (by decide) (fun c34 => absurd c34 (by omega)) (fun _ => ?_)
          refine z_bipush (v := 16) X dX10_refusedNow_75 (by decide) ?_
          refine z_goto (tgt := 81) X dX10_refusedNow_77 (by decide) ?_
          refine z_iadd X dX10_refusedNow_81 ?_
          exact r_iret X hr hlk K h (Nat.le_refl _) (Nat.le_refl _) dX10_refusedNow_82 ⟨_, rfl, hw⟩
  · replace hw := hw.2 c2
    refine z_iconst X dX10_refusedNow_12 ?_
    refine z_goto (tgt := 17) X dX10_refusedNow_13 (by decide) ?_
    refine z_aload_n X hl 0 rfl rfl dX10_refusedNow_17 ?_
    refine gM_X10_backMany (x := sI u0 1) X K h rfl q_1342 dX10_refusedNow_18 ?_
    obtain ⟨h35, hw⟩ := hw
    refine z_if_ne (tgt := 28) X h35 dX10_refusedNow_21 (by decide) (fun c36 => ?_) (fun c36 => ?_)
    · replace hw := hw.1 c36
      refine z_iconst X dX10_refusedNow_28 ?_
      refine z_iadd X dX10_refusedNow_29 ?_
      refine z_aload_n X hl 0 rfl rfl dX10_refusedNow_30 ?_
      refine r_callVi (rest := [zI (1 + 0)]) X K g h (ct_X10_many (pI u0 0 0) _ hw) lk_X10_84 0 rfl rfl ⟨rfl, rfl⟩ ⟨Nat.le_of_ble_eq_true rfl, Nat.le_of_ble_eq_true rfl⟩ rfl (lv_size hl) rfl (Nat.le_of_ble_eq_true rfl) dX10_refusedNow_31 ⟨Nat.le_of_ble_eq_true rfl, Nat.le_of_ble_eq_true rfl⟩ (fun z37 w' H locs hp h => ?_)
      obtain ⟨rfl, hw⟩ := hp
      refine z_bipush (v := 100) X dX10_refusedNow_34 (by decide) ?_
      obtain ⟨h38, hw⟩ := hw
      refine z_icmp_ne (tgt := 43) X h38 (by decide) dX10_refusedNow_36 (by decide) (fun c39 => ?_) (fun c39 => ?_)
      · replace hw := hw.1 c39
        refine z_iconst X dX10_refusedNow_43 ?_
        refine z_iadd X dX10_refusedNow_44 ?_
        refine z_aload_n X hl 0 rfl rfl dX10_refusedNow_45 ?_
        refine gM_X10_givenBy (x := sI u0 3) X K h rfl q_1344 dX10_refusedNow_46 ?_
        obtain ⟨h40, hw⟩ := hw
        refine z_if_ne (tgt := 57) X h40 dX10_refusedNow_49 (by decide) (fun c41 => ?_) (fun c41 => ?_)
        · replace hw := hw.1 c41
          refine z_iconst X dX10_refusedNow_57 ?_
          refine z_iadd X dX10_refusedNow_58 ?_
          refine z_istore_n (i := 1) (lv' := [(1, zI (((1 + 0) + 0) + 0)), (0, .ref (a 0))]) X hl rfl (by decide) dX10_refusedNow_59 rfl (fun ls hl => ?_)
          refine z_iload_n X hl 0 rfl rfl dX10_refusedNow_60 ?_
          refine z_aload_n X hl 1 rfl rfl dX10_refusedNow_61 ?_
          refine gM_X10_frontMany (x := sI u0 2) X K h rfl q_1343 dX10_refusedNow_62 ?_
          refine z_if_eq (tgt := 75) X h1 dX10_refusedNow_65 (by decide) (fun _ => ?_) (fun c42 => absurd c42 (by omega))
          refine z_bipush (v := 16) X dX10_refusedNow_75 (by decide) ?_
          refine z_goto (tgt := 81) X dX10_refusedNow_77 (by decide) ?_
          refine z_iadd X dX10_refusedNow_81 ?_
          exact r_iret X hr hlk K h (Nat.le_refl _) (Nat.le_refl _) dX10_refusedNow_82 ⟨_, rfl, hw⟩
        · replace hw := hw.2 c41
          refine z_bipush (v := 8) X dX10_refusedNow_52 (by decide) ?_
          refine z_goto (tgt := 58) X dX10_refusedNow_54 (by decide) ?_
          refine z_iadd X dX10_refusedNow_58 ?_
          refine z_istore_n (i := 1) (lv' := [(1, zI (((1 + 0) + 0) + 8)), (0, .ref (a 0))]) X hl rfl (by decide) dX10_refusedNow_59 rfl (fun ls hl => ?_)
          refine z_iload_n X hl 0 rfl rfl dX10_refusedNow_60 ?_
          refine z_aload_n X hl 1 rfl rfl dX10_refusedNow_61 ?_
          refine gM_X10_frontMany (x := sI u0 2) X K h rfl q_1343 dX10_refusedNow_62 ?_
          refine z_if_eq (tgt := 75) X h1 dX10_refusedNow_65 (by decide) (fun _ => ?_) (fun c43 => absurd c43 (by omega))
          refine z_bipush (v := 16) X dX10_refusedNow_75 (by decide) ?_
          refine z_goto (tgt := 81) X dX10_refusedNow_77 (by decide) ?_
          refine z_iadd X dX10_refusedNow_81 ?_
          exact r_iret X hr hlk K h (Nat.le_refl _) (Nat.le_refl _) dX10_refusedNow_82 ⟨_, rfl, hw⟩
      · replace hw := hw.2 c39
        refine z_iconst X dX10_refusedNow_39 ?_
        refine z_goto (tgt := 44) X dX10_refusedNow_40 (by decide) ?_
        refine z_iadd X dX10_refusedNow_44 ?_
        refine z_aload_n X hl 0 rfl rfl dX10_refusedNow_45 ?_
        refine gM_X10_givenBy (x := sI u0 3) X K h rfl q_1344 dX10_refusedNow_46 ?_
        obtain ⟨h44, hw⟩ := hw
        refine z_if_ne (tgt := 57) X h44 dX10_refusedNow_49 (by decide) (fun c45 => ?_) (fun c45 => ?_)
        · replace hw := hw.1 c45
          refine z_iconst X dX10_refusedNow_57 ?_
          refine z_iadd X dX10_refusedNow_58 ?_
          refine z_istore_n (i := 1) (lv' := [(1, zI (((1 + 0) + 4) + 0)), (0, .ref (a 0))]) X hl rfl (by decide) dX10_refusedNow_59 rfl (fun ls hl => ?_)
          refine z_iload_n X hl 0 rfl rfl dX10_refusedNow_60 ?_
          refine z_aload_n X hl 1 rfl rfl dX10_refusedNow_61 ?_
          refine gM_X10_frontMany (x := sI u0 2) X K h rfl q_1343 dX10_refusedNow_62 ?_
          refine z_if_eq (tgt := 75) X h1 dX10_refusedNow_65 (by decide) (fun _ => ?_) (fun c46 => absurd c46 (by omega))
          refine z_bipush (v := 16) X dX10_refusedNow_75 (by decide) ?_
          refine z_goto (tgt := 81) X dX10_refusedNow_77 (by decide) ?_
          refine z_iadd X dX10_refusedNow_81 ?_
          exact r_iret X hr hlk K h (Nat.le_refl _) (Nat.le_refl _) dX10_refusedNow_82 ⟨_, rfl, hw⟩
        · replace hw := hw.2 c45
          refine z_bipush (v := 8) X dX10_refusedNow_52 (by decide) ?_
          refine z_goto (tgt := 58) X dX10_refusedNow_54 (by decide) ?_
          refine z_iadd X dX10_refusedNow_58 ?_
          refine z_istore_n (i := 1) (lv' := [(1, zI (((1 + 0) + 4) + 8)), (0, .ref (a 0))]) X hl rfl (by decide) dX10_refusedNow_59 rfl (fun ls hl => ?_)
          refine z_iload_n X hl 0 rfl rfl dX10_refusedNow_60 ?_
          refine z_aload_n X hl 1 rfl rfl dX10_refusedNow_61 ?_
          refine gM_X10_frontMany (x := sI u0 2) X K h rfl q_1343 dX10_refusedNow_62 ?_
          refine z_if_eq (tgt := 75) X h1 dX10_refusedNow_65 (by decide) (fun _ => ?_) (fun c47 => absurd c47 (by omega))
          refine z_bipush (v := 16) X dX10_refusedNow_75 (by decide) ?_
          refine z_goto (tgt := 81) X dX10_refusedNow_77 (by decide) ?_
          refine z_iadd X dX10_refusedNow_81 ?_
          exact r_iret X hr hlk K h (Nat.le_refl _) (Nat.le_refl _) dX10_refusedNow_82 ⟨_, rfl, hw⟩
    · replace hw := hw.2 c36
      refine z_iconst X dX10_refusedNow_24 ?_
      refine z_goto (tgt := 29) X dX10_refusedNow_25 (by decide) ?_
      refine z_iadd X dX10_refusedNow_29 ?_
      refine z_aload_n X hl 0 rfl rfl dX10_refusedNow_30 ?_
      refine r_callVi (rest := [zI (1 + 2)]) X K g h (ct_X10_many (pI u0 0 0) _ hw) lk_X10_84 0 rfl rfl ⟨rfl, rfl⟩ ⟨Nat.le_of_ble_eq_true rfl, Nat.le_of_ble_eq_true rfl⟩ rfl (lv_size hl) rfl (Nat.le_of_ble_eq_true rfl) dX10_refusedNow_31 ⟨Nat.le_of_ble_eq_true rfl, Nat.le_of_ble_eq_true rfl⟩ (fun z48 w' H locs hp h => ?_)
      obtain ⟨rfl, hw⟩ := hp
      refine z_bipush (v := 100) X dX10_refusedNow_34 (by decide) ?_
      obtain ⟨h49, hw⟩ := hw
      refine z_icmp_ne (tgt := 43) X h49 (by decide) dX10_refusedNow_36 (by decide) (fun c50 => ?_) (fun c50 => ?_)
      · replace hw := hw.1 c50
        refine z_iconst X dX10_refusedNow_43 ?_
        refine z_iadd X dX10_refusedNow_44 ?_
        refine z_aload_n X hl 0 rfl rfl dX10_refusedNow_45 ?_
        refine gM_X10_givenBy (x := sI u0 3) X K h rfl q_1344 dX10_refusedNow_46 ?_
        obtain ⟨h51, hw⟩ := hw
        refine z_if_ne (tgt := 57) X h51 dX10_refusedNow_49 (by decide) (fun c52 => ?_) (fun c52 => ?_)
        · replace hw := hw.1 c52
          refine z_iconst X dX10_refusedNow_57 ?_
          refine z_iadd X dX10_refusedNow_58 ?_
          refine z_istore_n (i := 1) (lv' := [(1, zI (((1 + 2) + 0) + 0)), (0, .ref (a 0))]) X hl rfl (by decide) dX10_refusedNow_59 rfl (fun ls hl => ?_)
          refine z_iload_n X hl 0 rfl rfl dX10_refusedNow_60 ?_
          refine z_aload_n X hl 1 rfl rfl dX10_refusedNow_61 ?_
          refine gM_X10_frontMany (x := sI u0 2) X K h rfl q_1343 dX10_refusedNow_62 ?_
          refine z_if_eq (tgt := 75) X h1 dX10_refusedNow_65 (by decide) (fun _ => ?_) (fun c53 => absurd c53 (by omega))
          refine z_bipush (v := 16) X dX10_refusedNow_75 (by decide) ?_
          refine z_goto (tgt := 81) X dX10_refusedNow_77 (by decide) ?_
          refine z_iadd X dX10_refusedNow_81 ?_
          exact r_iret X hr hlk K h (Nat.le_refl _) (Nat.le_refl _) dX10_refusedNow_82 ⟨_, rfl, hw⟩
        · replace hw := hw.2 c52
          refine z_bipush (v := 8) X dX10_refusedNow_52 (by decide) ?_
          refine z_goto (tgt := 58) X dX10_refusedNow_54 (by decide) ?_
          refine z_iadd X dX10_refusedNow_58 ?_
          refine z_istore_n (i := 1) (lv' := [(1, zI (((1 + 2) + 0) + 8)), (0, .ref (a 0))]) X hl rfl (by decide) dX10_refusedNow_59 rfl (fun ls hl => ?_)
          refine z_iload_n X hl 0 rfl rfl dX10_refusedNow_60 ?_
          refine z_aload_n X hl 1 rfl rfl dX10_refusedNow_61 ?_
          refine gM_X10_frontMany (x := sI u0 2) X K h rfl q_1343 dX10_refusedNow_62 ?_
          refine z_if_eq (tgt := 75) X h1 dX10_refusedNow_65 (by decide) (fun _ => ?_) (fun c54 => absurd c54 (by omega))
          refine z_bipush (v := 16) X dX10_refusedNow_75 (by decide) ?_
          refine z_goto (tgt := 81) X dX10_refusedNow_77 (by decide) ?_
          refine z_iadd X dX10_refusedNow_81 ?_
          exact r_iret X hr hlk K h (Nat.le_refl _) (Nat.le_refl _) dX10_refusedNow_82 ⟨_, rfl, hw⟩
      · replace hw := hw.2 c50
        refine z_iconst X dX10_refusedNow_39 ?_
        refine z_goto (tgt := 44) X dX10_refusedNow_40 (by decide) ?_
        refine z_iadd X dX10_refusedNow_44 ?_
        refine z_aload_n X hl 0 rfl rfl dX10_refusedNow_45 ?_
        refine gM_X10_givenBy (x := sI u0 3) X K h rfl q_1344 dX10_refusedNow_46 ?_
        obtain ⟨h55, hw⟩ := hw
        refine z_if_ne (tgt := 57) X h55 dX10_refusedNow_49 (by decide) (fun c56 => ?_) (fun c56 => ?_)
        · replace hw := hw.1 c56
          refine z_iconst X dX10_refusedNow_57 ?_
          refine z_iadd X dX10_refusedNow_58 ?_
          refine z_istore_n (i := 1) (lv' := [(1, zI (((1 + 2) + 4) + 0)), (0, .ref (a 0))]) X hl rfl (by decide) dX10_refusedNow_59 rfl (fun ls hl => ?_)
          refine z_iload_n X hl 0 rfl rfl dX10_refusedNow_60 ?_
          refine z_aload_n X hl 1 rfl rfl dX10_refusedNow_61 ?_
          refine gM_X10_frontMany (x := sI u0 2) X K h rfl q_1343 dX10_refusedNow_62 ?_
          refine z_if_eq (tgt := 75) X h1 dX10_refusedNow_65 (by decide) (fun _ => ?_) (fun c57 => absurd c57 (by omega))
          refine z_bipush (v := 16) X dX10_refusedNow_75 (by decide) ?_
          refine z_goto (tgt := 81) X dX10_refusedNow_77 (by decide) ?_
          refine z_iadd X dX10_refusedNow_81 ?_
          exact r_iret X hr hlk K h (Nat.le_refl _) (Nat.le_refl _) dX10_refusedNow_82 ⟨_, rfl, hw⟩
        · replace hw := hw.2 c56
          refine z_bipush (v := 8) X dX10_refusedNow_52 (by decide) ?_
          refine z_goto (tgt := 58) X dX10_refusedNow_54 (by decide) ?_
          refine z_iadd X dX10_refusedNow_58 ?_
          refine z_istore_n (i := 1) (lv' := [(1, zI (((1 + 2) + 4) + 8)), (0, .ref (a 0))]) X hl rfl (by decide) dX10_refusedNow_59 rfl (fun ls hl => ?_)
          refine z_iload_n X hl 0 rfl rfl dX10_refusedNow_60 ?_
          refine z_aload_n X hl 1 rfl rfl dX10_refusedNow_61 ?_
          refine gM_X10_frontMany (x := sI u0 2) X K h rfl q_1343 dX10_refusedNow_62 ?_
          refine z_if_eq (tgt := 75) X h1 dX10_refusedNow_65 (by decide) (fun _ => ?_) (fun c58 => absurd c58 (by omega))
          refine z_bipush (v := 16) X dX10_refusedNow_75 (by decide) ?_
          refine z_goto (tgt := 81) X dX10_refusedNow_77 (by decide) ?_
          refine z_iadd X dX10_refusedNow_81 ?_
          exact r_iret X hr hlk K h (Nat.le_refl _) (Nat.le_refl _) dX10_refusedNow_82 ⟨_, rfl, hw⟩
def w_X10_size (post : Int → St → Prop) (u0 : St) : Prop :=
(w_X10_many (fun (z1 : Int) => post z1 (pI u0 0 0)) (pI u0 0 0))
abbrev rm_X10_size : Room := { frames := 1, cells := 0, slots := 0, locals := 20 }
set_option maxRecDepth 100000 in
set_option maxHeartbeats 4000000 in
theorem ct_X10_size {l : Launch} {G : Gr} {a : Nat → Nat} (u0 : St) (post : Int → St → Prop) (hw : w_X10_size post u0) : Ct l G yX10_size (ws_ yX10_size cX10_size 1 (some .int)) rm_X10_size [.ref (a 0)] (WM G a u0) 0 0 (Po (WM G a) post) := by
  refine Ct.of (by decide) (Nat.le_of_ble_eq_true rfl) ?_
  intro p e s m args below meth c ls X hr hlk K g h hl
  have hl : lv_has ls 1 [(0, .ref (a 0))] := hl
  obtain ⟨H, hH⟩ : ∃ H, H = s.heap := ⟨_, rfl⟩
  obtain ⟨locs, hL⟩ : ∃ L : List Loc, L = [] := ⟨_, rfl⟩
  replace h : HW G (va_A (WM G a u0) s.heap.size) s.heap (WM G a u0) H locs := by rw [hH, hL]; exact h
  suffices hg : W p l e rm_X10_size s m args below meth c H locs 0 0 (EndI G (WM G a u0) (Po (WM G a) post) args s 0 0 below) (F0 m 0 ls []) by rw [hH, hL] at hg; exact hg
  clear hH hL
  refine z_aload_n X hl 0 rfl rfl dX10_size_0 ?_
  refine z_iconst X dX10_size_1 ?_
  refine pM_X10_thrown X K h q_1339 dX10_size_2 (fun H locs h => ?_)
  refine z_aload_n X hl 0 rfl rfl dX10_size_5 ?_
  refine r_callVi (rest := []) X K g h (ct_X10_many (pI u0 0 0) _ hw) lk_X10_84 0 rfl rfl ⟨rfl, rfl⟩ ⟨Nat.le_of_ble_eq_true rfl, Nat.le_of_ble_eq_true rfl⟩ rfl (lv_size hl) rfl (Nat.le_of_ble_eq_true rfl) dX10_size_6 ⟨Nat.le_of_ble_eq_true rfl, Nat.le_of_ble_eq_true rfl⟩ (fun z1 w' H locs hp h => ?_)
  obtain ⟨rfl, hw⟩ := hp
  exact r_iret X hr hlk K h (Nat.le_refl _) (Nat.le_refl _) dX10_size_9 ⟨_, rfl, hw⟩
def w_X10_wordAt (post : Int → St → Prop) (u0 : St) (p1 : Int) : Prop :=
(w_X10_many (fun (z1 : Int) => (w_X10_in (fun (z2 : Int) => (w_X10_fails (fun (z3 : Int) (u4 : St) => (InR z3) ∧ ((z3 = 0 → (w_X10_wordIn (fun (z7 : Int) => post z7 u4) u4 p1)) ∧
 (¬ z3 = 0 → post 0 u4))) (pI u0 0 0) z2 1)) p1 0 (z1 - 1))) (pI u0 0 0))
abbrev rm_X10_wordAt : Room := { frames := 1, cells := 0, slots := 0, locals := 22 }
set_option maxRecDepth 100000 in
set_option maxHeartbeats 4000000 in
theorem ct_X10_wordAt {l : Launch} {G : Gr} {a : Nat → Nat} (u0 : St) (p1 : Int) (post : Int → St → Prop) (hw : w_X10_wordAt post u0 p1) : Ct l G yX10_wordAt (ws_ yX10_wordAt cX10_wordAt 2 (some .int)) rm_X10_wordAt [.ref (a 0), zI p1] (WM G a u0) 0 0 (Po (WM G a) post) := by
  refine Ct.of (by decide) (Nat.le_of_ble_eq_true rfl) ?_
  intro p e s m args below meth c ls X hr hlk K g h hl
  have hl : lv_has ls 2 [(0, .ref (a 0)), (1, zI p1)] := hl
  obtain ⟨H, hH⟩ : ∃ H, H = s.heap := ⟨_, rfl⟩
  obtain ⟨locs, hL⟩ : ∃ L : List Loc, L = [] := ⟨_, rfl⟩
  replace h : HW G (va_A (WM G a u0) s.heap.size) s.heap (WM G a u0) H locs := by rw [hH, hL]; exact h
  suffices hg : W p l e rm_X10_wordAt s m args below meth c H locs 0 0 (EndI G (WM G a u0) (Po (WM G a) post) args s 0 0 below) (F0 m 0 ls []) by rw [hH, hL] at hg; exact hg
  clear hH hL
  refine z_aload_n X hl 0 rfl rfl dX10_wordAt_0 ?_
  refine z_iconst X dX10_wordAt_1 ?_
  refine pM_X10_thrown X K h q_1339 dX10_wordAt_2 (fun H locs h => ?_)
  refine z_aload_n X hl 0 rfl rfl dX10_wordAt_5 ?_
  refine z_iload_n X hl 1 rfl rfl dX10_wordAt_6 ?_
  refine z_iconst X dX10_wordAt_7 ?_
  refine z_aload_n X hl 0 rfl rfl dX10_wordAt_8 ?_
  refine r_callVi (rest := [zI 0, zI p1, .ref (a 0)]) X K g h (ct_X10_many (pI u0 0 0) _ hw) lk_X10_84 0 rfl rfl ⟨rfl, rfl⟩ ⟨Nat.le_of_ble_eq_true rfl, Nat.le_of_ble_eq_true rfl⟩ rfl (lv_size hl) rfl (Nat.le_of_ble_eq_true rfl) dX10_wordAt_9 ⟨Nat.le_of_ble_eq_true rfl, Nat.le_of_ble_eq_true rfl⟩ (fun z1 w' H locs hp h => ?_)
  obtain ⟨rfl, hw⟩ := hp
  refine z_iconst X dX10_wordAt_12 ?_
  refine z_isub X dX10_wordAt_13 ?_
  refine r_callSi (rest := [.ref (a 0)]) X K g h (ct_X10_in (w := WM G a (pI u0 0 0)) p1 0 (z1 - 1) _ hw) lk_X10_66 ⟨rfl, rfl⟩ ⟨Nat.le_of_ble_eq_true rfl, Nat.le_of_ble_eq_true rfl⟩ rfl (lv_size hl) rfl (Nat.le_of_ble_eq_true rfl) dX10_wordAt_14 ⟨Nat.le_of_ble_eq_true rfl, Nat.le_of_ble_eq_true rfl⟩ (fun z2 w' H locs hp h => ?_)
  obtain ⟨rfl, hw⟩ := hp
  refine z_iconst X dX10_wordAt_17 ?_
  refine r_callVi (rest := []) X K g h (ct_X10_fails (pI u0 0 0) z2 1 _ hw) lk_X10_74 0 rfl rfl ⟨rfl, rfl⟩ ⟨Nat.le_of_ble_eq_true rfl, Nat.le_of_ble_eq_true rfl⟩ rfl (lv_size hl) rfl (Nat.le_of_ble_eq_true rfl) dX10_wordAt_18 ⟨Nat.le_of_ble_eq_true rfl, Nat.le_of_ble_eq_true rfl⟩ (fun z3 w' H locs hp h => ?_)
  obtain ⟨u4, rfl, hw⟩ := hp
  obtain ⟨h5, hw⟩ := hw
  refine z_if_eq (tgt := 28) X h5 dX10_wordAt_21 (by decide) (fun c6 => ?_) (fun c6 => ?_)
  · replace hw := hw.1 c6
    refine z_aload_n X hl 0 rfl rfl dX10_wordAt_28 ?_
    refine z_iload_n X hl 1 rfl rfl dX10_wordAt_29 ?_
    refine r_callVi (rest := []) X K g h (ct_X10_wordIn u4 p1 _ hw) lk_X10_88 0 rfl rfl ⟨rfl, rfl⟩ ⟨Nat.le_of_ble_eq_true rfl, Nat.le_of_ble_eq_true rfl⟩ rfl (lv_size hl) rfl (Nat.le_of_ble_eq_true rfl) dX10_wordAt_30 ⟨Nat.le_of_ble_eq_true rfl, Nat.le_of_ble_eq_true rfl⟩ (fun z7 w' H locs hp h => ?_)
    obtain ⟨rfl, hw⟩ := hp
    exact r_iret X hr hlk K h (Nat.le_refl _) (Nat.le_refl _) dX10_wordAt_33 ⟨_, rfl, hw⟩
  · replace hw := hw.2 c6
    refine z_iconst X dX10_wordAt_24 ?_
    refine z_goto (tgt := 33) X dX10_wordAt_25 (by decide) ?_
    exact r_iret X hr hlk K h (Nat.le_refl _) (Nat.le_refl _) dX10_wordAt_33 ⟨_, rfl, hw⟩
def b_X10_indexOf_17 (post : Int → St → Prop) (u6 : St) (y1_17 : Int) (K17 : Int → Prop) (x2_5 : Int) : Prop :=
(w_X10_many (fun (z7 : Int) => (InR x2_5) ∧ (InR z7) ∧ ((z7 ≤ x2_5 → post (-1) u6) ∧
 (¬ z7 ≤ x2_5 → (w_X10_wordIn (fun (z11 : Int) => (InR z11) ∧ (InR y1_17) ∧ ((¬ z11 = y1_17 → K17 (x2_5 + 1)) ∧
 (z11 = y1_17 → post x2_5 u6))) u6 x2_5)))) u6)
def B_X10_indexOf_17 (post : Int → St → Prop) (u6 : St) (y1_17 : Int) : (Int → Prop) → Int → Prop := fun K t => b_X10_indexOf_17 post u6 y1_17 K t
def w_X10_indexOf (post : Int → St → Prop) (u0 : St) (p1 : Int) : Prop :=
(w_X10_noWord (fun (z1 : Int) (u2 : St) => (InR z1) ∧ ((z1 = 0 → (∃ n : Nat, Lp (B_X10_indexOf_17 post u2 p1) n 0)) ∧
 (¬ z1 = 0 → post 0 u2))) (pI u0 0 0) p1)
abbrev rm_X10_indexOf : Room := { frames := 3, cells := 0, slots := 0, locals := 64 }
set_option maxRecDepth 100000 in
set_option maxHeartbeats 4000000 in
theorem ct_X10_indexOf {l : Launch} {G : Gr} {a : Nat → Nat} (u0 : St) (p1 : Int) (post : Int → St → Prop) (hw : w_X10_indexOf post u0 p1) : Ct l G yX10_indexOf (ws_ yX10_indexOf cX10_indexOf 3 (some .int)) rm_X10_indexOf [.ref (a 0), zI p1] (WM G a u0) 0 0 (Po (WM G a) post) := by
  refine Ct.of (by decide) (Nat.le_of_ble_eq_true rfl) ?_
  intro p e s m args below meth c ls X hr hlk K g h hl
  have hl : lv_has ls 3 [(0, .ref (a 0)), (1, zI p1)] := hl
  obtain ⟨H, hH⟩ : ∃ H, H = s.heap := ⟨_, rfl⟩
  obtain ⟨locs, hL⟩ : ∃ L : List Loc, L = [] := ⟨_, rfl⟩
  replace h : HW G (va_A (WM G a u0) s.heap.size) s.heap (WM G a u0) H locs := by rw [hH, hL]; exact h
  suffices hg : W p l e rm_X10_indexOf s m args below meth c H locs 0 0 (EndI G (WM G a u0) (Po (WM G a) post) args s 0 0 below) (F0 m 0 ls []) by rw [hH, hL] at hg; exact hg
  clear hH hL
  refine z_aload_n X hl 0 rfl rfl dX10_indexOf_0 ?_
  refine z_iconst X dX10_indexOf_1 ?_
  refine pM_X10_thrown X K h q_1339 dX10_indexOf_2 (fun H locs h => ?_)
  refine z_aload_n X hl 0 rfl rfl dX10_indexOf_5 ?_
  refine z_iload_n X hl 1 rfl rfl dX10_indexOf_6 ?_
  refine r_callVi (rest := []) X K g h (ct_X10_noWord (pI u0 0 0) p1 _ hw) lk_X10_125 0 rfl rfl ⟨rfl, rfl⟩ ⟨Nat.le_of_ble_eq_true rfl, Nat.le_of_ble_eq_true rfl⟩ rfl (lv_size hl) rfl (Nat.le_of_ble_eq_true rfl) dX10_indexOf_7 ⟨Nat.le_of_ble_eq_true rfl, Nat.le_of_ble_eq_true rfl⟩ (fun z1 w' H locs hp h => ?_)
  obtain ⟨u2, rfl, hw⟩ := hp
  obtain ⟨h3, hw⟩ := hw
  refine z_if_eq (tgt := 15) X h3 dX10_indexOf_10 (by decide) (fun c4 => ?_) (fun c4 => ?_)
  · replace hw := hw.1 c4
    refine z_iconst X dX10_indexOf_15 ?_
    refine z_istore_n (i := 2) (lv' := [(2, zI 0), (0, .ref (a 0)), (1, zI p1)]) X hl rfl (by decide) dX10_indexOf_16 rfl (fun ls hl => ?_)
    obtain ⟨n17, hw⟩ := hw
    have key17 : ∀ (n : Nat) (t : Int) (H : Heap) (locs : List Loc) (ls : Array Slot), Lp (B_X10_indexOf_17 post u2 p1) n t → HW G (va_A (WM G a u0) s.heap.size) s.heap (WM G a u2) H locs → lv_has ls 3 [(0, .ref (a 0)), (1, zI p1), (2, zI t)] → W p l e rm_X10_indexOf s m args below meth c H locs 0 0 (EndI G (WM G a u0) (Po (WM G a) post) args s 0 0 below) (F0 m 17 ls []) := by
      intro n
      induction n with
      | zero =>
        intro t H locs ls hw
        exact hw.elim
      | succ n17 ih17 =>
        intro x2_5 H locs ls hw h hl
        replace hw : b_X10_indexOf_17 post u2 p1 (Lp (B_X10_indexOf_17 post u2 p1) n17) x2_5 := hw
        refine z_iload_n X hl 2 rfl rfl dX10_indexOf_17 ?_
        refine z_aload_n X hl 0 rfl rfl dX10_indexOf_18 ?_
        refine r_callVi (rest := [zI x2_5]) X K g h (ct_X10_many u2 _ hw) lk_X10_84 0 rfl rfl ⟨rfl, rfl⟩ ⟨Nat.le_of_ble_eq_true rfl, Nat.le_of_ble_eq_true rfl⟩ rfl (lv_size hl) rfl (Nat.le_of_ble_eq_true rfl) dX10_indexOf_19 ⟨Nat.le_of_ble_eq_true rfl, Nat.le_of_ble_eq_true rfl⟩ (fun z7 w' H locs hp h => ?_)
        obtain ⟨rfl, hw⟩ := hp
        obtain ⟨h8, h9, hw⟩ := hw
        refine z_icmp_ge (tgt := 42) X h8 h9 dX10_indexOf_22 (by decide) (fun c10 => ?_) (fun c10 => ?_)
        · replace hw := hw.1 c10
          refine z_iconst X dX10_indexOf_42 ?_
          exact r_iret X hr hlk K h (Nat.le_refl _) (Nat.le_refl _) dX10_indexOf_43 ⟨_, rfl, hw⟩
        · replace hw := hw.2 c10
          refine z_aload_n X hl 0 rfl rfl dX10_indexOf_25 ?_
          refine z_iload_n X hl 2 rfl rfl dX10_indexOf_26 ?_
          refine r_callVi (rest := []) X K g h (ct_X10_wordIn u2 x2_5 _ hw) lk_X10_88 0 rfl rfl ⟨rfl, rfl⟩ ⟨Nat.le_of_ble_eq_true rfl, Nat.le_of_ble_eq_true rfl⟩ rfl (lv_size hl) rfl (Nat.le_of_ble_eq_true rfl) dX10_indexOf_27 ⟨Nat.le_of_ble_eq_true rfl, Nat.le_of_ble_eq_true rfl⟩ (fun z11 w' H locs hp h => ?_)
          obtain ⟨rfl, hw⟩ := hp
          refine z_iload_n X hl 1 rfl rfl dX10_indexOf_30 ?_
          obtain ⟨h12, h13, hw⟩ := hw
          refine z_icmp_ne (tgt := 36) X h12 h13 dX10_indexOf_31 (by decide) (fun c14 => ?_) (fun c14 => ?_)
          · replace hw := hw.1 c14
            refine z_iinc (lv' := [(2, zI (x2_5 + 1)), (0, .ref (a 0)), (1, zI p1)]) X hl 2 rfl (by decide) dX10_indexOf_36 rfl (fun ls hl => ?_)
            refine z_goto (tgt := 17) X dX10_indexOf_39 (by decide) ?_
            exact ih17 (x2_5 + 1) H locs ls hw h (lv_sub hl [1, 2, 0] rfl)
          · replace hw := hw.2 c14
            refine z_iload_n X hl 2 rfl rfl dX10_indexOf_34 ?_
            exact r_iret X hr hlk K h (Nat.le_refl _) (Nat.le_refl _) dX10_indexOf_35 ⟨_, rfl, hw⟩
    exact key17 n17 0 H locs ls hw h (lv_sub hl [1, 2, 0] rfl)
  · replace hw := hw.2 c4
    refine z_iconst X dX10_indexOf_13 ?_
    exact r_iret X hr hlk K h (Nat.le_refl _) (Nat.le_refl _) dX10_indexOf_14 ⟨_, rfl, hw⟩
def b_X10_lastIndexOf_22 (post : Int → St → Prop) (u7 : St) (y1_22 : Int) (K22 : Int → Prop) (x2_6 : Int) : Prop :=
(InR x2_6) ∧ ((x2_6 < 0 → post (-1) u7) ∧
 (¬ x2_6 < 0 → (w_X10_wordIn (fun (z10 : Int) => (InR z10) ∧ (InR y1_22) ∧ ((¬ z10 = y1_22 → K22 (x2_6 + (-1))) ∧
 (z10 = y1_22 → post x2_6 u7))) u7 x2_6)))
def B_X10_lastIndexOf_22 (post : Int → St → Prop) (u7 : St) (y1_22 : Int) : (Int → Prop) → Int → Prop := fun K t => b_X10_lastIndexOf_22 post u7 y1_22 K t
def w_X10_lastIndexOf (post : Int → St → Prop) (u0 : St) (p1 : Int) : Prop :=
(w_X10_noWord (fun (z1 : Int) (u2 : St) => (InR z1) ∧ ((z1 = 0 → (w_X10_many (fun (z5 : Int) => (∃ n : Nat, Lp (B_X10_lastIndexOf_22 post u2 p1) n (z5 - 1))) u2)) ∧
 (¬ z1 = 0 → post 0 u2))) (pI u0 0 0) p1)
abbrev rm_X10_lastIndexOf : Room := { frames := 3, cells := 0, slots := 0, locals := 64 }
set_option maxRecDepth 100000 in
set_option maxHeartbeats 4000000 in
theorem ct_X10_lastIndexOf {l : Launch} {G : Gr} {a : Nat → Nat} (u0 : St) (p1 : Int) (post : Int → St → Prop) (hw : w_X10_lastIndexOf post u0 p1) : Ct l G yX10_lastIndexOf (ws_ yX10_lastIndexOf cX10_lastIndexOf 3 (some .int)) rm_X10_lastIndexOf [.ref (a 0), zI p1] (WM G a u0) 0 0 (Po (WM G a) post) := by
  refine Ct.of (by decide) (Nat.le_of_ble_eq_true rfl) ?_
  intro p e s m args below meth c ls X hr hlk K g h hl
  have hl : lv_has ls 3 [(0, .ref (a 0)), (1, zI p1)] := hl
  obtain ⟨H, hH⟩ : ∃ H, H = s.heap := ⟨_, rfl⟩
  obtain ⟨locs, hL⟩ : ∃ L : List Loc, L = [] := ⟨_, rfl⟩
  replace h : HW G (va_A (WM G a u0) s.heap.size) s.heap (WM G a u0) H locs := by rw [hH, hL]; exact h
  suffices hg : W p l e rm_X10_lastIndexOf s m args below meth c H locs 0 0 (EndI G (WM G a u0) (Po (WM G a) post) args s 0 0 below) (F0 m 0 ls []) by rw [hH, hL] at hg; exact hg
  clear hH hL
  refine z_aload_n X hl 0 rfl rfl dX10_lastIndexOf_0 ?_
  refine z_iconst X dX10_lastIndexOf_1 ?_
  refine pM_X10_thrown X K h q_1339 dX10_lastIndexOf_2 (fun H locs h => ?_)
  refine z_aload_n X hl 0 rfl rfl dX10_lastIndexOf_5 ?_
  refine z_iload_n X hl 1 rfl rfl dX10_lastIndexOf_6 ?_
  refine r_callVi (rest := []) X K g h (ct_X10_noWord (pI u0 0 0) p1 _ hw) lk_X10_125 0 rfl rfl ⟨rfl, rfl⟩ ⟨Nat.le_of_ble_eq_true rfl, Nat.le_of_ble_eq_true rfl⟩ rfl (lv_size hl) rfl (Nat.le_of_ble_eq_true rfl) dX10_lastIndexOf_7 ⟨Nat.le_of_ble_eq_true rfl, Nat.le_of_ble_eq_true rfl⟩ (fun z1 w' H locs hp h => ?_)
  obtain ⟨u2, rfl, hw⟩ := hp
  obtain ⟨h3, hw⟩ := hw
  refine z_if_eq (tgt := 15) X h3 dX10_lastIndexOf_10 (by decide) (fun c4 => ?_) (fun c4 => ?_)
  · replace hw := hw.1 c4
    refine z_aload_n X hl 0 rfl rfl dX10_lastIndexOf_15 ?_
    refine r_callVi (rest := []) X K g h (ct_X10_many u2 _ hw) lk_X10_84 0 rfl rfl ⟨rfl, rfl⟩ ⟨Nat.le_of_ble_eq_true rfl, Nat.le_of_ble_eq_true rfl⟩ rfl (lv_size hl) rfl (Nat.le_of_ble_eq_true rfl) dX10_lastIndexOf_16 ⟨Nat.le_of_ble_eq_true rfl, Nat.le_of_ble_eq_true rfl⟩ (fun z5 w' H locs hp h => ?_)
    obtain ⟨rfl, hw⟩ := hp
    refine z_iconst X dX10_lastIndexOf_19 ?_
    refine z_isub X dX10_lastIndexOf_20 ?_
    refine z_istore_n (i := 2) (lv' := [(2, zI (z5 - 1)), (0, .ref (a 0)), (1, zI p1)]) X hl rfl (by decide) dX10_lastIndexOf_21 rfl (fun ls hl => ?_)
    obtain ⟨n22, hw⟩ := hw
    have key22 : ∀ (n : Nat) (t : Int) (H : Heap) (locs : List Loc) (ls : Array Slot), Lp (B_X10_lastIndexOf_22 post u2 p1) n t → HW G (va_A (WM G a u0) s.heap.size) s.heap (WM G a u2) H locs → lv_has ls 3 [(0, .ref (a 0)), (1, zI p1), (2, zI t)] → W p l e rm_X10_lastIndexOf s m args below meth c H locs 0 0 (EndI G (WM G a u0) (Po (WM G a) post) args s 0 0 below) (F0 m 22 ls []) := by
      intro n
      induction n with
      | zero =>
        intro t H locs ls hw
        exact hw.elim
      | succ n22 ih22 =>
        intro x2_6 H locs ls hw h hl
        replace hw : b_X10_lastIndexOf_22 post u2 p1 (Lp (B_X10_lastIndexOf_22 post u2 p1) n22) x2_6 := hw
        refine z_iload_n X hl 2 rfl rfl dX10_lastIndexOf_22 ?_
        obtain ⟨h8, hw⟩ := hw
        refine z_if_lt (tgt := 43) X h8 dX10_lastIndexOf_23 (by decide) (fun c9 => ?_) (fun c9 => ?_)
        · replace hw := hw.1 c9
          refine z_iconst X dX10_lastIndexOf_43 ?_
          exact r_iret X hr hlk K h (Nat.le_refl _) (Nat.le_refl _) dX10_lastIndexOf_44 ⟨_, rfl, hw⟩
        · replace hw := hw.2 c9
          refine z_aload_n X hl 0 rfl rfl dX10_lastIndexOf_26 ?_
          refine z_iload_n X hl 2 rfl rfl dX10_lastIndexOf_27 ?_
          refine r_callVi (rest := []) X K g h (ct_X10_wordIn u2 x2_6 _ hw) lk_X10_88 0 rfl rfl ⟨rfl, rfl⟩ ⟨Nat.le_of_ble_eq_true rfl, Nat.le_of_ble_eq_true rfl⟩ rfl (lv_size hl) rfl (Nat.le_of_ble_eq_true rfl) dX10_lastIndexOf_28 ⟨Nat.le_of_ble_eq_true rfl, Nat.le_of_ble_eq_true rfl⟩ (fun z10 w' H locs hp h => ?_)
          obtain ⟨rfl, hw⟩ := hp
          refine z_iload_n X hl 1 rfl rfl dX10_lastIndexOf_31 ?_
          obtain ⟨h11, h12, hw⟩ := hw
          refine z_icmp_ne (tgt := 37) X h11 h12 dX10_lastIndexOf_32 (by decide) (fun c13 => ?_) (fun c13 => ?_)
          · replace hw := hw.1 c13
            refine z_iinc (lv' := [(2, zI (x2_6 + (-1))), (0, .ref (a 0)), (1, zI p1)]) X hl 2 rfl (by decide) dX10_lastIndexOf_37 rfl (fun ls hl => ?_)
            refine z_goto (tgt := 22) X dX10_lastIndexOf_40 (by decide) ?_
            exact ih22 (x2_6 + (-1)) H locs ls hw h (lv_sub hl [1, 2, 0] rfl)
          · replace hw := hw.2 c13
            refine z_iload_n X hl 2 rfl rfl dX10_lastIndexOf_35 ?_
            exact r_iret X hr hlk K h (Nat.le_refl _) (Nat.le_refl _) dX10_lastIndexOf_36 ⟨_, rfl, hw⟩
    exact key22 n22 (z5 - 1) H locs ls hw h (lv_sub hl [1, 2, 0] rfl)
  · replace hw := hw.2 c4
    refine z_iconst X dX10_lastIndexOf_13 ?_
    exact r_iret X hr hlk K h (Nat.le_refl _) (Nat.le_refl _) dX10_lastIndexOf_14 ⟨_, rfl, hw⟩
def b_X10_count_19 (post : Int → St → Prop) (u7 : St) (y1_19 : Int) (K19 : Int × Int → Prop) (x2_5 : Int) (x3_6 : Int) : Prop :=
(w_X10_many (fun (z8 : Int) => (InR x3_6) ∧ (InR z8) ∧ ((z8 ≤ x3_6 → post x2_5 u7) ∧
 (¬ z8 ≤ x3_6 → (w_X10_wordIn (fun (z12 : Int) => (InR z12) ∧ (InR y1_19) ∧ ((¬ z12 = y1_19 → K19 (x2_5 + 0, x3_6 + 1)) ∧
 (z12 = y1_19 → K19 (x2_5 + 1, x3_6 + 1)))) u7 x3_6)))) u7)
def B_X10_count_19 (post : Int → St → Prop) (u7 : St) (y1_19 : Int) : (Int × Int → Prop) → Int × Int → Prop := fun K t => b_X10_count_19 post u7 y1_19 K t.1 t.2
def w_X10_count (post : Int → St → Prop) (u0 : St) (p1 : Int) : Prop :=
(w_X10_noWord (fun (z1 : Int) (u2 : St) => (InR z1) ∧ ((z1 = 0 → (∃ n : Nat, Lp (B_X10_count_19 post u2 p1) n (0, 0))) ∧
 (¬ z1 = 0 → post 0 u2))) (pI u0 0 0) p1)
abbrev rm_X10_count : Room := { frames := 3, cells := 0, slots := 0, locals := 64 }
set_option maxRecDepth 100000 in
set_option maxHeartbeats 4000000 in
theorem ct_X10_count {l : Launch} {G : Gr} {a : Nat → Nat} (u0 : St) (p1 : Int) (post : Int → St → Prop) (hw : w_X10_count post u0 p1) : Ct l G yX10_count (ws_ yX10_count cX10_count 4 (some .int)) rm_X10_count [.ref (a 0), zI p1] (WM G a u0) 0 0 (Po (WM G a) post) := by
  refine Ct.of (by decide) (Nat.le_of_ble_eq_true rfl) ?_
  intro p e s m args below meth c ls X hr hlk K g h hl
  have hl : lv_has ls 4 [(0, .ref (a 0)), (1, zI p1)] := hl
  obtain ⟨H, hH⟩ : ∃ H, H = s.heap := ⟨_, rfl⟩
  obtain ⟨locs, hL⟩ : ∃ L : List Loc, L = [] := ⟨_, rfl⟩
  replace h : HW G (va_A (WM G a u0) s.heap.size) s.heap (WM G a u0) H locs := by rw [hH, hL]; exact h
  suffices hg : W p l e rm_X10_count s m args below meth c H locs 0 0 (EndI G (WM G a u0) (Po (WM G a) post) args s 0 0 below) (F0 m 0 ls []) by rw [hH, hL] at hg; exact hg
  clear hH hL
  refine z_aload_n X hl 0 rfl rfl dX10_count_0 ?_
  refine z_iconst X dX10_count_1 ?_
  refine pM_X10_thrown X K h q_1339 dX10_count_2 (fun H locs h => ?_)
  refine z_aload_n X hl 0 rfl rfl dX10_count_5 ?_
  refine z_iload_n X hl 1 rfl rfl dX10_count_6 ?_
  refine r_callVi (rest := []) X K g h (ct_X10_noWord (pI u0 0 0) p1 _ hw) lk_X10_125 0 rfl rfl ⟨rfl, rfl⟩ ⟨Nat.le_of_ble_eq_true rfl, Nat.le_of_ble_eq_true rfl⟩ rfl (lv_size hl) rfl (Nat.le_of_ble_eq_true rfl) dX10_count_7 ⟨Nat.le_of_ble_eq_true rfl, Nat.le_of_ble_eq_true rfl⟩ (fun z1 w' H locs hp h => ?_)
  obtain ⟨u2, rfl, hw⟩ := hp
  obtain ⟨h3, hw⟩ := hw
  refine z_if_eq (tgt := 15) X h3 dX10_count_10 (by decide) (fun c4 => ?_) (fun c4 => ?_)
  · replace hw := hw.1 c4
    refine z_iconst X dX10_count_15 ?_
    refine z_istore_n (i := 2) (lv' := [(2, zI 0), (0, .ref (a 0)), (1, zI p1)]) X hl rfl (by decide) dX10_count_16 rfl (fun ls hl => ?_)
    refine z_iconst X dX10_count_17 ?_
    refine z_istore_n (i := 3) (lv' := [(3, zI 0), (2, zI 0), (0, .ref (a 0)), (1, zI p1)]) X hl rfl (by decide) dX10_count_18 rfl (fun ls hl => ?_)
    obtain ⟨n19, hw⟩ := hw
    have key19 : ∀ (n : Nat) (t : Int × Int) (H : Heap) (locs : List Loc) (ls : Array Slot), Lp (B_X10_count_19 post u2 p1) n t → HW G (va_A (WM G a u0) s.heap.size) s.heap (WM G a u2) H locs → lv_has ls 4 [(0, .ref (a 0)), (1, zI p1), (2, zI t.1), (3, zI t.2)] → W p l e rm_X10_count s m args below meth c H locs 0 0 (EndI G (WM G a u0) (Po (WM G a) post) args s 0 0 below) (F0 m 19 ls []) := by
      intro n
      induction n with
      | zero =>
        intro t H locs ls hw
        exact hw.elim
      | succ n19 ih19 =>
        rintro ⟨x2_5, x3_6⟩ H locs ls hw h hl
        replace hw : b_X10_count_19 post u2 p1 (Lp (B_X10_count_19 post u2 p1) n19) x2_5 x3_6 := hw
        refine z_iload_n X hl 3 rfl rfl dX10_count_19 ?_
        refine z_aload_n X hl 0 rfl rfl dX10_count_20 ?_
        refine r_callVi (rest := [zI x3_6]) X K g h (ct_X10_many u2 _ hw) lk_X10_84 0 rfl rfl ⟨rfl, rfl⟩ ⟨Nat.le_of_ble_eq_true rfl, Nat.le_of_ble_eq_true rfl⟩ rfl (lv_size hl) rfl (Nat.le_of_ble_eq_true rfl) dX10_count_21 ⟨Nat.le_of_ble_eq_true rfl, Nat.le_of_ble_eq_true rfl⟩ (fun z8 w' H locs hp h => ?_)
        obtain ⟨rfl, hw⟩ := hp
        obtain ⟨h9, h10, hw⟩ := hw
        refine z_icmp_ge (tgt := 50) X h9 h10 dX10_count_24 (by decide) (fun c11 => ?_) (fun c11 => ?_)
        · replace hw := hw.1 c11
          refine z_iload_n X hl 2 rfl rfl dX10_count_50 ?_
          exact r_iret X hr hlk K h (Nat.le_refl _) (Nat.le_refl _) dX10_count_51 ⟨_, rfl, hw⟩
        · replace hw := hw.2 c11
          refine z_iload_n X hl 2 rfl rfl dX10_count_27 ?_
          refine z_aload_n X hl 0 rfl rfl dX10_count_28 ?_
          refine z_iload_n X hl 3 rfl rfl dX10_count_29 ?_
          refine r_callVi (rest := [zI x2_5]) X K g h (ct_X10_wordIn u2 x3_6 _ hw) lk_X10_88 0 rfl rfl ⟨rfl, rfl⟩ ⟨Nat.le_of_ble_eq_true rfl, Nat.le_of_ble_eq_true rfl⟩ rfl (lv_size hl) rfl (Nat.le_of_ble_eq_true rfl) dX10_count_30 ⟨Nat.le_of_ble_eq_true rfl, Nat.le_of_ble_eq_true rfl⟩ (fun z12 w' H locs hp h => ?_)
          obtain ⟨rfl, hw⟩ := hp
          refine z_iload_n X hl 1 rfl rfl dX10_count_33 ?_
          obtain ⟨h13, h14, hw⟩ := hw
          refine z_icmp_ne (tgt := 41) X h13 h14 dX10_count_34 (by decide) (fun c15 => ?_) (fun c15 => ?_)
          · replace hw := hw.1 c15
            refine z_iconst X dX10_count_41 ?_
            refine z_iadd X dX10_count_42 ?_
            refine z_istore_n (i := 2) (lv' := [(2, zI (x2_5 + 0)), (0, .ref (a 0)), (1, zI p1), (3, zI x3_6)]) X hl rfl (by decide) dX10_count_43 rfl (fun ls hl => ?_)
            refine z_iinc (lv' := [(3, zI (x3_6 + 1)), (2, zI (x2_5 + 0)), (0, .ref (a 0)), (1, zI p1)]) X hl 3 rfl (by decide) dX10_count_44 rfl (fun ls hl => ?_)
            refine z_goto (tgt := 19) X dX10_count_47 (by decide) ?_
            exact ih19 (x2_5 + 0, x3_6 + 1) H locs ls hw h (lv_sub hl [2, 3, 1, 0] rfl)
          · replace hw := hw.2 c15
            refine z_iconst X dX10_count_37 ?_
            refine z_goto (tgt := 42) X dX10_count_38 (by decide) ?_
            refine z_iadd X dX10_count_42 ?_
            refine z_istore_n (i := 2) (lv' := [(2, zI (x2_5 + 1)), (0, .ref (a 0)), (1, zI p1), (3, zI x3_6)]) X hl rfl (by decide) dX10_count_43 rfl (fun ls hl => ?_)
            refine z_iinc (lv' := [(3, zI (x3_6 + 1)), (2, zI (x2_5 + 1)), (0, .ref (a 0)), (1, zI p1)]) X hl 3 rfl (by decide) dX10_count_44 rfl (fun ls hl => ?_)
            refine z_goto (tgt := 19) X dX10_count_47 (by decide) ?_
            exact ih19 (x2_5 + 1, x3_6 + 1) H locs ls hw h (lv_sub hl [2, 3, 1, 0] rfl)
    exact key19 n19 (0, 0) H locs ls hw h (lv_sub hl [2, 3, 1, 0] rfl)
  · replace hw := hw.2 c4
    refine z_iconst X dX10_count_13 ?_
    exact r_iret X hr hlk K h (Nat.le_refl _) (Nat.le_refl _) dX10_count_14 ⟨_, rfl, hw⟩
def b_X10_unlike_22 (post : Int → St → Prop) (u10 : St) (y1_22 : Int) (y2_22 : Int) (K9 : Int × Int → Prop) (K22 : Int × Int → Prop) (x3_8 : Int) (x4_9 : Int) : Prop :=
(InR x4_9) ∧ (InR y2_22) ∧ ((y2_22 ≤ x4_9 → (InR x3_8) ∧ ((x3_8 = 0 → K9 (y1_22 + 0, y2_22 + 1)) ∧
 (¬ x3_8 = 0 → K9 (y1_22 + 1, y2_22 + 1)))) ∧
 (¬ y2_22 ≤ x4_9 → (w_X10_wordIn (fun (z16 : Int) => (w_X10_wordIn (fun (z17 : Int) => (InR z16) ∧ (InR z17) ∧ ((z16 = z17 → (x3_8 = 0 ∨ x3_8 = 1) ∧ K22 (x3_8 * 0, x4_9 + 1)) ∧
 (¬ z16 = z17 → (x3_8 = 0 ∨ x3_8 = 1) ∧ K22 (x3_8 * 1, x4_9 + 1)))) u10 y2_22)) u10 x4_9)))
def B_X10_unlike_22 (post : Int → St → Prop) (u10 : St) (y1_22 : Int) (y2_22 : Int) (K9 : Int × Int → Prop) : (Int × Int → Prop) → Int × Int → Prop := fun K t => b_X10_unlike_22 post u10 y1_22 y2_22 K9 K t.1 t.2
def b_X10_unlike_9 (post : Int → St → Prop) (u3 : St) (K9 : Int × Int → Prop) (x1_1 : Int) (x2_2 : Int) : Prop :=
(w_X10_many (fun (z4 : Int) => (InR x2_2) ∧ (InR z4) ∧ ((z4 ≤ x2_2 → post x1_1 u3) ∧
 (¬ z4 ≤ x2_2 → (∃ n : Nat, Lp (B_X10_unlike_22 post u3 x1_1 x2_2 K9) n (1, 0))))) u3)
def B_X10_unlike_9 (post : Int → St → Prop) (u3 : St) : (Int × Int → Prop) → Int × Int → Prop := fun K t => b_X10_unlike_9 post u3 K t.1 t.2
def w_X10_unlike (post : Int → St → Prop) (u0 : St) : Prop :=
(∃ n : Nat, Lp (B_X10_unlike_9 post (pI u0 0 0)) n (0, 0))
abbrev rm_X10_unlike : Room := { frames := 1, cells := 0, slots := 0, locals := 21 }
set_option maxRecDepth 100000 in
set_option maxHeartbeats 4000000 in
theorem ct_X10_unlike {l : Launch} {G : Gr} {a : Nat → Nat} (u0 : St) (post : Int → St → Prop) (hw : w_X10_unlike post u0) : Ct l G yX10_unlike (ws_ yX10_unlike cX10_unlike 5 (some .int)) rm_X10_unlike [.ref (a 0)] (WM G a u0) 0 0 (Po (WM G a) post) := by
  refine Ct.of (by decide) (Nat.le_of_ble_eq_true rfl) ?_
  intro p e s m args below meth c ls X hr hlk K g h hl
  have hl : lv_has ls 5 [(0, .ref (a 0))] := hl
  obtain ⟨H, hH⟩ : ∃ H, H = s.heap := ⟨_, rfl⟩
  obtain ⟨locs, hL⟩ : ∃ L : List Loc, L = [] := ⟨_, rfl⟩
  replace h : HW G (va_A (WM G a u0) s.heap.size) s.heap (WM G a u0) H locs := by rw [hH, hL]; exact h
  suffices hg : W p l e rm_X10_unlike s m args below meth c H locs 0 0 (EndI G (WM G a u0) (Po (WM G a) post) args s 0 0 below) (F0 m 0 ls []) by rw [hH, hL] at hg; exact hg
  clear hH hL
  refine z_aload_n X hl 0 rfl rfl dX10_unlike_0 ?_
  refine z_iconst X dX10_unlike_1 ?_
  refine pM_X10_thrown X K h q_1339 dX10_unlike_2 (fun H locs h => ?_)
  refine z_iconst X dX10_unlike_5 ?_
  refine z_istore_n (i := 1) (lv' := [(1, zI 0), (0, .ref (a 0))]) X hl rfl (by decide) dX10_unlike_6 rfl (fun ls hl => ?_)
  refine z_iconst X dX10_unlike_7 ?_
  refine z_istore_n (i := 2) (lv' := [(2, zI 0), (1, zI 0), (0, .ref (a 0))]) X hl rfl (by decide) dX10_unlike_8 rfl (fun ls hl => ?_)
  obtain ⟨n9, hw⟩ := hw
  have key9 : ∀ (n : Nat) (t : Int × Int) (H : Heap) (locs : List Loc) (ls : Array Slot), Lp (B_X10_unlike_9 post (pI u0 0 0)) n t → HW G (va_A (WM G a u0) s.heap.size) s.heap (WM G a (pI u0 0 0)) H locs → lv_has ls 5 [(0, .ref (a 0)), (1, zI t.1), (2, zI t.2)] → W p l e rm_X10_unlike s m args below meth c H locs 0 0 (EndI G (WM G a u0) (Po (WM G a) post) args s 0 0 below) (F0 m 9 ls []) := by
    intro n
    induction n with
    | zero =>
      intro t H locs ls hw
      exact hw.elim
    | succ n9 ih9 =>
      rintro ⟨x1_1, x2_2⟩ H locs ls hw h hl
      replace hw : b_X10_unlike_9 post (pI u0 0 0) (Lp (B_X10_unlike_9 post (pI u0 0 0)) n9) x1_1 x2_2 := hw
      refine z_iload_n X hl 2 rfl rfl dX10_unlike_9 ?_
      refine z_aload_n X hl 0 rfl rfl dX10_unlike_10 ?_
      refine r_callVi (rest := [zI x2_2]) X K g h (ct_X10_many (pI u0 0 0) _ hw) lk_X10_84 0 rfl rfl ⟨rfl, rfl⟩ ⟨Nat.le_of_ble_eq_true rfl, Nat.le_of_ble_eq_true rfl⟩ rfl (lv_size hl) rfl (Nat.le_of_ble_eq_true rfl) dX10_unlike_11 ⟨Nat.le_of_ble_eq_true rfl, Nat.le_of_ble_eq_true rfl⟩ (fun z4 w' H locs hp h => ?_)
      obtain ⟨rfl, hw⟩ := hp
      obtain ⟨h5, h6, hw⟩ := hw
      refine z_icmp_ge (tgt := 74) X h5 h6 dX10_unlike_14 (by decide) (fun c7 => ?_) (fun c7 => ?_)
      · replace hw := hw.1 c7
        refine z_iload_n X hl 1 rfl rfl dX10_unlike_74 ?_
        exact r_iret X hr hlk K h (Nat.le_refl _) (Nat.le_refl _) dX10_unlike_75 ⟨_, rfl, hw⟩
      · replace hw := hw.2 c7
        refine z_iconst X dX10_unlike_17 ?_
        refine z_istore_n (i := 3) (lv' := [(3, zI 1), (0, .ref (a 0)), (1, zI x1_1), (2, zI x2_2)]) X hl rfl (by decide) dX10_unlike_18 rfl (fun ls hl => ?_)
        refine z_iconst X dX10_unlike_19 ?_
        refine z_istore (i := 4) (lv' := [(4, zI 0), (3, zI 1), (0, .ref (a 0)), (1, zI x1_1), (2, zI x2_2)]) X hl (by decide) dX10_unlike_20 rfl (fun ls hl => ?_)
        obtain ⟨n22, hw⟩ := hw
        have key22 : ∀ (n : Nat) (t : Int × Int) (H : Heap) (locs : List Loc) (ls : Array Slot), Lp (B_X10_unlike_22 post (pI u0 0 0) x1_1 x2_2 (Lp (B_X10_unlike_9 post (pI u0 0 0)) n9)) n t → HW G (va_A (WM G a u0) s.heap.size) s.heap (WM G a (pI u0 0 0)) H locs → lv_has ls 5 [(0, .ref (a 0)), (1, zI x1_1), (2, zI x2_2), (3, zI t.1), (4, zI t.2)] → W p l e rm_X10_unlike s m args below meth c H locs 0 0 (EndI G (WM G a u0) (Po (WM G a) post) args s 0 0 below) (F0 m 22 ls []) := by
          intro n
          induction n with
          | zero =>
            intro t H locs ls hw
            exact hw.elim
          | succ n22 ih22 =>
            rintro ⟨x3_8, x4_9⟩ H locs ls hw h hl
            replace hw : b_X10_unlike_22 post (pI u0 0 0) x1_1 x2_2 (Lp (B_X10_unlike_9 post (pI u0 0 0)) n9) (Lp (B_X10_unlike_22 post (pI u0 0 0) x1_1 x2_2 (Lp (B_X10_unlike_9 post (pI u0 0 0)) n9)) n22) x3_8 x4_9 := hw
            refine z_iload X hl 4 rfl dX10_unlike_22 ?_
            refine z_iload_n X hl 2 rfl rfl dX10_unlike_24 ?_
            obtain ⟨h11, h12, hw⟩ := hw
            refine z_icmp_ge (tgt := 56) X h11 h12 dX10_unlike_25 (by decide) (fun c13 => ?_) (fun c13 => ?_)
            · replace hw := hw.1 c13
              refine z_iload_n X hl 1 rfl rfl dX10_unlike_56 ?_
              refine z_iload_n X hl 3 rfl rfl dX10_unlike_57 ?_
              obtain ⟨h14, hw⟩ := hw
              refine z_if_eq (tgt := 65) X h14 dX10_unlike_58 (by decide) (fun c15 => ?_) (fun c15 => ?_)
              · replace hw := hw.1 c15
                refine z_iconst X dX10_unlike_65 ?_
                refine z_iadd X dX10_unlike_66 ?_
                refine z_istore_n (i := 1) (lv' := [(1, zI (x1_1 + 0)), (0, .ref (a 0)), (2, zI x2_2), (3, zI x3_8), (4, zI x4_9)]) X hl rfl (by decide) dX10_unlike_67 rfl (fun ls hl => ?_)
                refine z_iinc (lv' := [(2, zI (x2_2 + 1)), (1, zI (x1_1 + 0)), (0, .ref (a 0)), (3, zI x3_8), (4, zI x4_9)]) X hl 2 rfl (by decide) dX10_unlike_68 rfl (fun ls hl => ?_)
                refine z_goto (tgt := 9) X dX10_unlike_71 (by decide) ?_
                exact ih9 (x1_1 + 0, x2_2 + 1) H locs ls hw h (lv_sub hl [2, 1, 0] rfl)
              · replace hw := hw.2 c15
                refine z_iconst X dX10_unlike_61 ?_
                refine z_goto (tgt := 66) X dX10_unlike_62 (by decide) ?_
                refine z_iadd X dX10_unlike_66 ?_
                refine z_istore_n (i := 1) (lv' := [(1, zI (x1_1 + 1)), (0, .ref (a 0)), (2, zI x2_2), (3, zI x3_8), (4, zI x4_9)]) X hl rfl (by decide) dX10_unlike_67 rfl (fun ls hl => ?_)
                refine z_iinc (lv' := [(2, zI (x2_2 + 1)), (1, zI (x1_1 + 1)), (0, .ref (a 0)), (3, zI x3_8), (4, zI x4_9)]) X hl 2 rfl (by decide) dX10_unlike_68 rfl (fun ls hl => ?_)
                refine z_goto (tgt := 9) X dX10_unlike_71 (by decide) ?_
                exact ih9 (x1_1 + 1, x2_2 + 1) H locs ls hw h (lv_sub hl [2, 1, 0] rfl)
            · replace hw := hw.2 c13
              refine z_iload_n X hl 3 rfl rfl dX10_unlike_28 ?_
              refine z_aload_n X hl 0 rfl rfl dX10_unlike_29 ?_
              refine z_iload X hl 4 rfl dX10_unlike_30 ?_
              refine r_callVi (rest := [zI x3_8]) X K g h (ct_X10_wordIn (pI u0 0 0) x4_9 _ hw) lk_X10_88 0 rfl rfl ⟨rfl, rfl⟩ ⟨Nat.le_of_ble_eq_true rfl, Nat.le_of_ble_eq_true rfl⟩ rfl (lv_size hl) rfl (Nat.le_of_ble_eq_true rfl) dX10_unlike_32 ⟨Nat.le_of_ble_eq_true rfl, Nat.le_of_ble_eq_true rfl⟩ (fun z16 w' H locs hp h => ?_)
              obtain ⟨rfl, hw⟩ := hp
              refine z_aload_n X hl 0 rfl rfl dX10_unlike_35 ?_
              refine z_iload_n X hl 2 rfl rfl dX10_unlike_36 ?_
              refine r_callVi (rest := [zI z16, zI x3_8]) X K g h (ct_X10_wordIn (pI u0 0 0) x2_2 _ hw) lk_X10_88 0 rfl rfl ⟨rfl, rfl⟩ ⟨Nat.le_of_ble_eq_true rfl, Nat.le_of_ble_eq_true rfl⟩ rfl (lv_size hl) rfl (Nat.le_of_ble_eq_true rfl) dX10_unlike_37 ⟨Nat.le_of_ble_eq_true rfl, Nat.le_of_ble_eq_true rfl⟩ (fun z17 w' H locs hp h => ?_)
              obtain ⟨rfl, hw⟩ := hp
              obtain ⟨h18, h19, hw⟩ := hw
              refine z_icmp_eq (tgt := 47) X h18 h19 dX10_unlike_40 (by decide) (fun c20 => ?_) (fun c20 => ?_)
              · replace hw := hw.1 c20
                refine z_iconst X dX10_unlike_47 ?_
                obtain ⟨h21, hw⟩ := hw
                refine z_iand01 X h21 (by decide) dX10_unlike_48 ?_
                refine z_istore_n (i := 3) (lv' := [(3, zI (x3_8 * 0)), (0, .ref (a 0)), (1, zI x1_1), (2, zI x2_2), (4, zI x4_9)]) X hl rfl (by decide) dX10_unlike_49 rfl (fun ls hl => ?_)
                refine z_iinc (lv' := [(4, zI (x4_9 + 1)), (3, zI (x3_8 * 0)), (0, .ref (a 0)), (1, zI x1_1), (2, zI x2_2)]) X hl 4 rfl (by decide) dX10_unlike_50 rfl (fun ls hl => ?_)
                refine z_goto (tgt := 22) X dX10_unlike_53 (by decide) ?_
                exact ih22 (x3_8 * 0, x4_9 + 1) H locs ls hw h (lv_sub hl [2, 3, 4, 1, 0] rfl)
              · replace hw := hw.2 c20
                refine z_iconst X dX10_unlike_43 ?_
                refine z_goto (tgt := 48) X dX10_unlike_44 (by decide) ?_
                obtain ⟨h22, hw⟩ := hw
                refine z_iand01 X h22 (by decide) dX10_unlike_48 ?_
                refine z_istore_n (i := 3) (lv' := [(3, zI (x3_8 * 1)), (0, .ref (a 0)), (1, zI x1_1), (2, zI x2_2), (4, zI x4_9)]) X hl rfl (by decide) dX10_unlike_49 rfl (fun ls hl => ?_)
                refine z_iinc (lv' := [(4, zI (x4_9 + 1)), (3, zI (x3_8 * 1)), (0, .ref (a 0)), (1, zI x1_1), (2, zI x2_2)]) X hl 4 rfl (by decide) dX10_unlike_50 rfl (fun ls hl => ?_)
                refine z_goto (tgt := 22) X dX10_unlike_53 (by decide) ?_
                exact ih22 (x3_8 * 1, x4_9 + 1) H locs ls hw h (lv_sub hl [2, 3, 4, 1, 0] rfl)
        exact key22 n22 (1, 0) H locs ls hw h (lv_sub hl [2, 3, 4, 1, 0] rfl)
  exact key9 n9 (0, 0) H locs ls hw h (lv_sub hl [2, 1, 0] rfl)
def w_X10_clear (post : Int → St → Prop) (u0 : St) : Prop :=
(w_X10_many (fun (z1 : Int) => (w_X10_clears (fun  (u2 : St) => post z1 u2) (pI u0 0 0))) (pI u0 0 0))
abbrev rm_X10_clear : Room := { frames := 1, cells := 0, slots := 0, locals := 20 }
set_option maxRecDepth 100000 in
set_option maxHeartbeats 4000000 in
theorem ct_X10_clear {l : Launch} {G : Gr} {a : Nat → Nat} (u0 : St) (post : Int → St → Prop) (hw : w_X10_clear post u0) : Ct l G yX10_clear (ws_ yX10_clear cX10_clear 2 (some .int)) rm_X10_clear [.ref (a 0)] (WM G a u0) 0 0 (Po (WM G a) post) := by
  refine Ct.of (by decide) (Nat.le_of_ble_eq_true rfl) ?_
  intro p e s m args below meth c ls X hr hlk K g h hl
  have hl : lv_has ls 2 [(0, .ref (a 0))] := hl
  obtain ⟨H, hH⟩ : ∃ H, H = s.heap := ⟨_, rfl⟩
  obtain ⟨locs, hL⟩ : ∃ L : List Loc, L = [] := ⟨_, rfl⟩
  replace h : HW G (va_A (WM G a u0) s.heap.size) s.heap (WM G a u0) H locs := by rw [hH, hL]; exact h
  suffices hg : W p l e rm_X10_clear s m args below meth c H locs 0 0 (EndI G (WM G a u0) (Po (WM G a) post) args s 0 0 below) (F0 m 0 ls []) by rw [hH, hL] at hg; exact hg
  clear hH hL
  refine z_aload_n X hl 0 rfl rfl dX10_clear_0 ?_
  refine z_iconst X dX10_clear_1 ?_
  refine pM_X10_thrown X K h q_1339 dX10_clear_2 (fun H locs h => ?_)
  refine z_aload_n X hl 0 rfl rfl dX10_clear_5 ?_
  refine r_callVi (rest := []) X K g h (ct_X10_many (pI u0 0 0) _ hw) lk_X10_84 0 rfl rfl ⟨rfl, rfl⟩ ⟨Nat.le_of_ble_eq_true rfl, Nat.le_of_ble_eq_true rfl⟩ rfl (lv_size hl) rfl (Nat.le_of_ble_eq_true rfl) dX10_clear_6 ⟨Nat.le_of_ble_eq_true rfl, Nat.le_of_ble_eq_true rfl⟩ (fun z1 w' H locs hp h => ?_)
  obtain ⟨rfl, hw⟩ := hp
  refine z_istore_n (i := 1) (lv' := [(1, zI z1), (0, .ref (a 0))]) X hl rfl (by decide) dX10_clear_9 rfl (fun ls hl => ?_)
  refine z_aload_n X hl 1 rfl rfl dX10_clear_10 ?_
  refine r_callVv (rest := []) X K g h (ct_X10_clears (pI u0 0 0) _ hw) lk_X10_189 0 rfl rfl ⟨rfl, rfl⟩ ⟨Nat.le_of_ble_eq_true rfl, Nat.le_of_ble_eq_true rfl⟩ rfl (lv_size hl) rfl (Nat.le_of_ble_eq_true rfl) dX10_clear_11 ⟨Nat.le_of_ble_eq_true rfl, Nat.le_of_ble_eq_true rfl⟩ (fun w' H locs hp h => ?_)
  obtain ⟨u2, rfl, hw⟩ := hp
  refine z_iload_n X hl 0 rfl rfl dX10_clear_14 ?_
  exact r_iret X hr hlk K h (Nat.le_refl _) (Nat.le_refl _) dX10_clear_15 ⟨_, rfl, hw⟩
def w_X10_writes (post : St → Prop) (u0 : St) (p1 : Int) : Prop :=
(0 ≤ sI u0 14) ∧ (sI u0 14 < 720) ∧ post (pI (pA u0 14 (sI u0 14) p1) 14 ((sI u0 14) + 1))
abbrev rm_X10_writes : Room := { frames := 0, cells := 0, slots := 0, locals := 0 }
set_option maxRecDepth 100000 in
set_option maxHeartbeats 4000000 in
theorem ct_X10_writes {l : Launch} {G : Gr} {a : Nat → Nat} (u0 : St) (p1 : Int) (post : St → Prop) (hw : w_X10_writes post u0 p1) : CtV l G yX10_writes (ws_ yX10_writes cX10_writes 2 (none)) rm_X10_writes [.ref (a 0), zI p1] (WM G a u0) 0 0 (PoV (WM G a) post) := by
  refine CtV.of (by decide) (Nat.le_of_ble_eq_true rfl) ?_
  intro p e s m args below meth c ls X hr hlk K g h hl
  have hl : lv_has ls 2 [(0, .ref (a 0)), (1, zI p1)] := hl
  obtain ⟨H, hH⟩ : ∃ H, H = s.heap := ⟨_, rfl⟩
  obtain ⟨locs, hL⟩ : ∃ L : List Loc, L = [] := ⟨_, rfl⟩
  replace h : HW G (va_A (WM G a u0) s.heap.size) s.heap (WM G a u0) H locs := by rw [hH, hL]; exact h
  suffices hg : W p l e rm_X10_writes s m args below meth c H locs 0 0 (EndV G (WM G a u0) (PoV (WM G a) post) args s 0 0 below) (F0 m 0 ls []) by rw [hH, hL] at hg; exact hg
  clear hH hL
  refine z_aload_n X hl 0 rfl rfl dX10_writes_0 ?_
  refine gM_X10_text X K h q_1367 dX10_writes_1 ?_
  refine z_aload_n X hl 0 rfl rfl dX10_writes_4 ?_
  refine gM_X10_written (x := sI u0 14) X K h rfl q_1368 dX10_writes_5 ?_
  refine z_iload_n X hl 1 rfl rfl dX10_writes_8 ?_
  obtain ⟨h1, h2, hw⟩ := hw
  refine sM_14 X K h h1 h2 dX10_writes_9 (fun H locs h => ?_)
  refine z_aload_n X hl 0 rfl rfl dX10_writes_10 ?_
  refine z_dup X rfl dX10_writes_11 ?_
  refine gM_X10_written (x := sI u0 14) X K h rfl q_1368 dX10_writes_12 ?_
  refine z_iconst X dX10_writes_15 ?_
  refine z_iadd X dX10_writes_16 ?_
  refine pM_X10_written X K h q_1368 dX10_writes_17 (fun H locs h => ?_)
  exact r_vret X hr hlk K h (Nat.le_refl _) (Nat.le_refl _) dX10_writes_20 ⟨_, rfl, hw⟩
def b_X10_writesWord_20 (post : St → Prop) (y1_20 : Int) (K2 : Int → Prop) (K20 : St × Int → Prop) (u9 : St) (x3_10 : Int) : Prop :=
(InR x3_10) ∧ ((x3_10 ≤ 0 → post u9) ∧
 (¬ x3_10 ≤ 0 → (InR y1_20) ∧ (0 ≤ y1_20) ∧ (0 < x3_10) ∧ (InR (y1_20 / x3_10)) ∧ (0 ≤ y1_20 / x3_10) ∧ (w_X10_writes (fun  (u18 : St) => (0 ≤ x3_10) ∧ K20 (u18, x3_10 / 27)) u9 ((97 + ((y1_20 / x3_10) % 27)) - 1))))
def B_X10_writesWord_20 (post : St → Prop) (y1_20 : Int) (K2 : Int → Prop) : (St × Int → Prop) → St × Int → Prop := fun K t => b_X10_writesWord_20 post y1_20 K2 K t.1 t.2
def b_X10_writesWord_2 (post : St → Prop) (u2 : St) (y1_2 : Int) (K2 : Int → Prop) (x2_1 : Int) : Prop :=
(InR y1_2) ∧ (InR x2_1) ∧ (0 ≤ y1_2) ∧ (0 < x2_1) ∧ (InR (y1_2 / x2_1)) ∧ ((y1_2 / x2_1 < 27 → (∃ n : Nat, Lp (B_X10_writesWord_20 post y1_2 K2) n (u2, x2_1))) ∧
 (¬ y1_2 / x2_1 < 27 → K2 (x2_1 * 27)))
def B_X10_writesWord_2 (post : St → Prop) (u2 : St) (y1_2 : Int) : (Int → Prop) → Int → Prop := fun K t => b_X10_writesWord_2 post u2 y1_2 K t
def w_X10_writesWord (post : St → Prop) (u0 : St) (p1 : Int) : Prop :=
(∃ n : Nat, Lp (B_X10_writesWord_2 post u0 p1) n 1)
abbrev rm_X10_writesWord : Room := { frames := 1, cells := 0, slots := 0, locals := 21 }
set_option maxRecDepth 100000 in
set_option maxHeartbeats 4000000 in
theorem ct_X10_writesWord {l : Launch} {G : Gr} {a : Nat → Nat} (u0 : St) (p1 : Int) (post : St → Prop) (hw : w_X10_writesWord post u0 p1) : CtV l G yX10_writesWord (ws_ yX10_writesWord cX10_writesWord 4 (none)) rm_X10_writesWord [.ref (a 0), zI p1] (WM G a u0) 0 0 (PoV (WM G a) post) := by
  refine CtV.of (by decide) (Nat.le_of_ble_eq_true rfl) ?_
  intro p e s m args below meth c ls X hr hlk K g h hl
  have hl : lv_has ls 4 [(0, .ref (a 0)), (1, zI p1)] := hl
  obtain ⟨H, hH⟩ : ∃ H, H = s.heap := ⟨_, rfl⟩
  obtain ⟨locs, hL⟩ : ∃ L : List Loc, L = [] := ⟨_, rfl⟩
  replace h : HW G (va_A (WM G a u0) s.heap.size) s.heap (WM G a u0) H locs := by rw [hH, hL]; exact h
  suffices hg : W p l e rm_X10_writesWord s m args below meth c H locs 0 0 (EndV G (WM G a u0) (PoV (WM G a) post) args s 0 0 below) (F0 m 0 ls []) by rw [hH, hL] at hg; exact hg
  clear hH hL
  refine z_iconst X dX10_writesWord_0 ?_
  refine z_istore_n (i := 2) (lv' := [(2, zI 1), (0, .ref (a 0)), (1, zI p1)]) X hl rfl (by decide) dX10_writesWord_1 rfl (fun ls hl => ?_)
  obtain ⟨n2, hw⟩ := hw
  have key2 : ∀ (n : Nat) (t : Int) (H : Heap) (locs : List Loc) (ls : Array Slot), Lp (B_X10_writesWord_2 post u0 p1) n t → HW G (va_A (WM G a u0) s.heap.size) s.heap (WM G a u0) H locs → lv_has ls 4 [(0, .ref (a 0)), (1, zI p1), (2, zI t)] → W p l e rm_X10_writesWord s m args below meth c H locs 0 0 (EndV G (WM G a u0) (PoV (WM G a) post) args s 0 0 below) (F0 m 2 ls []) := by
    intro n
    induction n with
    | zero =>
      intro t H locs ls hw
      exact hw.elim
    | succ n2 ih2 =>
      intro x2_1 H locs ls hw h hl
      replace hw : b_X10_writesWord_2 post u0 p1 (Lp (B_X10_writesWord_2 post u0 p1) n2) x2_1 := hw
      refine z_iload_n X hl 1 rfl rfl dX10_writesWord_2 ?_
      refine z_iload_n X hl 2 rfl rfl dX10_writesWord_3 ?_
      obtain ⟨h3, h4, h5, h6, hw⟩ := hw
      refine z_idiv X h3 h4 h5 h6 dX10_writesWord_4 ?_
      refine z_bipush (v := 27) X dX10_writesWord_5 (by decide) ?_
      obtain ⟨h7, hw⟩ := hw
      refine z_icmp_lt (tgt := 18) X h7 (by decide) dX10_writesWord_7 (by decide) (fun c8 => ?_) (fun c8 => ?_)
      · replace hw := hw.1 c8
        refine z_iload_n X hl 2 rfl rfl dX10_writesWord_18 ?_
        refine z_istore_n (i := 3) (lv' := [(3, zI x2_1), (0, .ref (a 0)), (1, zI p1), (2, zI x2_1)]) X hl rfl (by decide) dX10_writesWord_19 rfl (fun ls hl => ?_)
        obtain ⟨n20, hw⟩ := hw
        have key20 : ∀ (n : Nat) (t : St × Int) (H : Heap) (locs : List Loc) (ls : Array Slot), Lp (B_X10_writesWord_20 post p1 (Lp (B_X10_writesWord_2 post u0 p1) n2)) n t → HW G (va_A (WM G a u0) s.heap.size) s.heap (WM G a t.1) H locs → lv_has ls 4 [(0, .ref (a 0)), (1, zI p1), (3, zI t.2)] → W p l e rm_X10_writesWord s m args below meth c H locs 0 0 (EndV G (WM G a u0) (PoV (WM G a) post) args s 0 0 below) (F0 m 20 ls []) := by
          intro n
          induction n with
          | zero =>
            intro t H locs ls hw
            exact hw.elim
          | succ n20 ih20 =>
            rintro ⟨u9, x3_10⟩ H locs ls hw h hl
            replace hw : b_X10_writesWord_20 post p1 (Lp (B_X10_writesWord_2 post u0 p1) n2) (Lp (B_X10_writesWord_20 post p1 (Lp (B_X10_writesWord_2 post u0 p1) n2)) n20) u9 x3_10 := hw
            refine z_iload_n X hl 2 rfl rfl dX10_writesWord_20 ?_
            obtain ⟨h11, hw⟩ := hw
            refine z_if_le (tgt := 47) X h11 dX10_writesWord_21 (by decide) (fun c12 => ?_) (fun c12 => ?_)
            · replace hw := hw.1 c12
              exact r_vret X hr hlk K h (Nat.le_refl _) (Nat.le_refl _) dX10_writesWord_47 ⟨_, rfl, hw⟩
            · replace hw := hw.2 c12
              refine z_aload_n X hl 0 rfl rfl dX10_writesWord_24 ?_
              refine z_bipush (v := 97) X dX10_writesWord_25 (by decide) ?_
              refine z_iload_n X hl 1 rfl rfl dX10_writesWord_27 ?_
              refine z_iload_n X hl 2 rfl rfl dX10_writesWord_28 ?_
              obtain ⟨h13, h14, h15, hw⟩ := hw
              refine z_idiv X h13 h11 h14 h15 dX10_writesWord_29 ?_
              refine z_bipush (v := 27) X dX10_writesWord_30 (by decide) ?_
              obtain ⟨h16, h17, hw⟩ := hw
              refine z_irem X h16 (by decide) h17 (by decide) dX10_writesWord_32 ?_
              refine z_iadd X dX10_writesWord_33 ?_
              refine z_iconst X dX10_writesWord_34 ?_
              refine z_isub X dX10_writesWord_35 ?_
              refine r_callVv (rest := []) X K g h (ct_X10_writes u9 ((97 + ((p1 / x3_10) % 27)) - 1) _ hw) lk_X10_226 0 rfl rfl ⟨rfl, rfl⟩ ⟨Nat.le_of_ble_eq_true rfl, Nat.le_of_ble_eq_true rfl⟩ rfl (lv_size hl) rfl (Nat.le_of_ble_eq_true rfl) dX10_writesWord_36 ⟨Nat.le_of_ble_eq_true rfl, Nat.le_of_ble_eq_true rfl⟩ (fun w' H locs hp h => ?_)
              obtain ⟨u18, rfl, hw⟩ := hp
              refine z_iload_n X hl 2 rfl rfl dX10_writesWord_39 ?_
              refine z_bipush (v := 27) X dX10_writesWord_40 (by decide) ?_
              obtain ⟨h19, hw⟩ := hw
              refine z_idiv X h11 (by decide) h19 (by decide) dX10_writesWord_42 ?_
              refine z_istore_n (i := 3) (lv' := [(3, zI (x3_10 / 27)), (0, .ref (a 0)), (1, zI p1)]) X hl rfl (by decide) dX10_writesWord_43 rfl (fun ls hl => ?_)
              refine z_goto (tgt := 20) X dX10_writesWord_44 (by decide) ?_
              exact ih20 (u18, x3_10 / 27) H locs ls hw h (lv_sub hl [1, 2, 0] rfl)
        exact key20 n20 (u0, x2_1) H locs ls hw h (lv_sub hl [1, 2, 0] rfl)
      · replace hw := hw.2 c8
        refine z_iload_n X hl 2 rfl rfl dX10_writesWord_10 ?_
        refine z_bipush (v := 27) X dX10_writesWord_11 (by decide) ?_
        refine z_imul X dX10_writesWord_13 ?_
        refine z_istore_n (i := 2) (lv' := [(2, zI (x2_1 * 27)), (0, .ref (a 0)), (1, zI p1)]) X hl rfl (by decide) dX10_writesWord_14 rfl (fun ls hl => ?_)
        refine z_goto (tgt := 2) X dX10_writesWord_15 (by decide) ?_
        exact ih2 (x2_1 * 27) H locs ls hw h (lv_sub hl [1, 2, 0] rfl)
  exact key2 n2 1 H locs ls hw h (lv_sub hl [1, 2, 0] rfl)
def b_X10_write_55 (post : Int → St → Prop) (K12 : St × Int → Prop) (K55 : St × Int → Prop) (u7 : St) (x1_8 : Int) : Prop :=
(InR x1_8) ∧ ((x1_8 < 0 → post (sI u7 14) u7) ∧
 (¬ x1_8 < 0 → (w_X10_writes (fun  (u11 : St) => (0 ≤ x1_8) ∧ (x1_8 < 101) ∧ (w_X10_writesWord (fun  (u14 : St) => K55 (u14, x1_8 + (-1))) u11 (sA u11 1 x1_8))) u7 32)))
def B_X10_write_55 (post : Int → St → Prop) (K12 : St × Int → Prop) : (St × Int → Prop) → St × Int → Prop := fun K t => b_X10_write_55 post K12 K t.1 t.2
def b_X10_write_12 (post : Int → St → Prop) (K12 : St × Int → Prop) (u1 : St) (x1_2 : Int) : Prop :=
(InR x1_2) ∧ (InR (sI u1 1)) ∧ ((sI u1 1 ≤ x1_2 → (w_X10_writes (fun  (u6 : St) => (∃ n : Nat, Lp (B_X10_write_55 post K12) n (u6, (sI u6 2) - 1))) u1 124)) ∧
 (¬ sI u1 1 ≤ x1_2 → (0 ≤ x1_2) ∧ (x1_2 < 101) ∧ (w_X10_writesWord (fun  (u17 : St) => (w_X10_writes (fun  (u18 : St) => K12 (u18, x1_2 + 1)) u17 32)) u1 (sA u1 0 x1_2))))
def B_X10_write_12 (post : Int → St → Prop) : (St × Int → Prop) → St × Int → Prop := fun K t => b_X10_write_12 post K t.1 t.2
def w_X10_write (post : Int → St → Prop) (u0 : St) : Prop :=
(∃ n : Nat, Lp (B_X10_write_12 post) n ((pI (pI u0 0 0) 14 0), 0))
abbrev rm_X10_write : Room := { frames := 2, cells := 0, slots := 0, locals := 44 }
set_option maxRecDepth 100000 in
set_option maxHeartbeats 4000000 in
theorem ct_X10_write {l : Launch} {G : Gr} {a : Nat → Nat} (u0 : St) (post : Int → St → Prop) (hw : w_X10_write post u0) : Ct l G yX10_write (ws_ yX10_write cX10_write 2 (some .int)) rm_X10_write [.ref (a 0)] (WM G a u0) 0 0 (Po (WM G a) post) := by
  refine Ct.of (by decide) (Nat.le_of_ble_eq_true rfl) ?_
  intro p e s m args below meth c ls X hr hlk K g h hl
  have hl : lv_has ls 2 [(0, .ref (a 0))] := hl
  obtain ⟨H, hH⟩ : ∃ H, H = s.heap := ⟨_, rfl⟩
  obtain ⟨locs, hL⟩ : ∃ L : List Loc, L = [] := ⟨_, rfl⟩
  replace h : HW G (va_A (WM G a u0) s.heap.size) s.heap (WM G a u0) H locs := by rw [hH, hL]; exact h
  suffices hg : W p l e rm_X10_write s m args below meth c H locs 0 0 (EndI G (WM G a u0) (Po (WM G a) post) args s 0 0 below) (F0 m 0 ls []) by rw [hH, hL] at hg; exact hg
  clear hH hL
  refine z_aload_n X hl 0 rfl rfl dX10_write_0 ?_
  refine z_iconst X dX10_write_1 ?_
  refine pM_X10_thrown X K h q_1339 dX10_write_2 (fun H locs h => ?_)
  refine z_aload_n X hl 0 rfl rfl dX10_write_5 ?_
  refine z_iconst X dX10_write_6 ?_
  refine pM_X10_written X K h q_1368 dX10_write_7 (fun H locs h => ?_)
  refine z_iconst X dX10_write_10 ?_
  refine z_istore_n (i := 1) (lv' := [(1, zI 0), (0, .ref (a 0))]) X hl rfl (by decide) dX10_write_11 rfl (fun ls hl => ?_)
  obtain ⟨n12, hw⟩ := hw
  have key12 : ∀ (n : Nat) (t : St × Int) (H : Heap) (locs : List Loc) (ls : Array Slot), Lp (B_X10_write_12 post) n t → HW G (va_A (WM G a u0) s.heap.size) s.heap (WM G a t.1) H locs → lv_has ls 2 [(0, .ref (a 0)), (1, zI t.2)] → W p l e rm_X10_write s m args below meth c H locs 0 0 (EndI G (WM G a u0) (Po (WM G a) post) args s 0 0 below) (F0 m 12 ls []) := by
    intro n
    induction n with
    | zero =>
      intro t H locs ls hw
      exact hw.elim
    | succ n12 ih12 =>
      rintro ⟨u1, x1_2⟩ H locs ls hw h hl
      replace hw : b_X10_write_12 post (Lp (B_X10_write_12 post) n12) u1 x1_2 := hw
      refine z_iload_n X hl 1 rfl rfl dX10_write_12 ?_
      refine z_aload_n X hl 0 rfl rfl dX10_write_13 ?_
      refine gM_X10_backMany (x := sI u1 1) X K h rfl q_1342 dX10_write_14 ?_
      obtain ⟨h3, h4, hw⟩ := hw
      refine z_icmp_ge (tgt := 42) X h3 h4 dX10_write_17 (by decide) (fun c5 => ?_) (fun c5 => ?_)
      · replace hw := hw.1 c5
        refine z_aload_n X hl 0 rfl rfl dX10_write_42 ?_
        refine z_bipush (v := 124) X dX10_write_43 (by decide) ?_
        refine r_callVv (rest := []) X K g h (ct_X10_writes u1 124 _ hw) lk_X10_226 0 rfl rfl ⟨rfl, rfl⟩ ⟨Nat.le_of_ble_eq_true rfl, Nat.le_of_ble_eq_true rfl⟩ rfl (lv_size hl) rfl (Nat.le_of_ble_eq_true rfl) dX10_write_45 ⟨Nat.le_of_ble_eq_true rfl, Nat.le_of_ble_eq_true rfl⟩ (fun w' H locs hp h => ?_)
        obtain ⟨u6, rfl, hw⟩ := hp
        refine z_aload_n X hl 0 rfl rfl dX10_write_48 ?_
        refine gM_X10_frontMany (x := sI u6 2) X K h rfl q_1343 dX10_write_49 ?_
        refine z_iconst X dX10_write_52 ?_
        refine z_isub X dX10_write_53 ?_
        refine z_istore_n (i := 1) (lv' := [(1, zI ((sI u6 2) - 1)), (0, .ref (a 0))]) X hl rfl (by decide) dX10_write_54 rfl (fun ls hl => ?_)
        obtain ⟨n55, hw⟩ := hw
        have key55 : ∀ (n : Nat) (t : St × Int) (H : Heap) (locs : List Loc) (ls : Array Slot), Lp (B_X10_write_55 post (Lp (B_X10_write_12 post) n12)) n t → HW G (va_A (WM G a u0) s.heap.size) s.heap (WM G a t.1) H locs → lv_has ls 2 [(0, .ref (a 0)), (1, zI t.2)] → W p l e rm_X10_write s m args below meth c H locs 0 0 (EndI G (WM G a u0) (Po (WM G a) post) args s 0 0 below) (F0 m 55 ls []) := by
          intro n
          induction n with
          | zero =>
            intro t H locs ls hw
            exact hw.elim
          | succ n55 ih55 =>
            rintro ⟨u7, x1_8⟩ H locs ls hw h hl
            replace hw : b_X10_write_55 post (Lp (B_X10_write_12 post) n12) (Lp (B_X10_write_55 post (Lp (B_X10_write_12 post) n12)) n55) u7 x1_8 := hw
            refine z_iload_n X hl 1 rfl rfl dX10_write_55 ?_
            obtain ⟨h9, hw⟩ := hw
            refine z_if_lt (tgt := 81) X h9 dX10_write_56 (by decide) (fun c10 => ?_) (fun c10 => ?_)
            · replace hw := hw.1 c10
              refine z_aload_n X hl 0 rfl rfl dX10_write_81 ?_
              refine gM_X10_written (x := sI u7 14) X K h rfl q_1368 dX10_write_82 ?_
              exact r_iret X hr hlk K h (Nat.le_refl _) (Nat.le_refl _) dX10_write_85 ⟨_, rfl, hw⟩
            · replace hw := hw.2 c10
              refine z_aload_n X hl 0 rfl rfl dX10_write_59 ?_
              refine z_bipush (v := 32) X dX10_write_60 (by decide) ?_
              refine r_callVv (rest := []) X K g h (ct_X10_writes u7 32 _ hw) lk_X10_226 0 rfl rfl ⟨rfl, rfl⟩ ⟨Nat.le_of_ble_eq_true rfl, Nat.le_of_ble_eq_true rfl⟩ rfl (lv_size hl) rfl (Nat.le_of_ble_eq_true rfl) dX10_write_62 ⟨Nat.le_of_ble_eq_true rfl, Nat.le_of_ble_eq_true rfl⟩ (fun w' H locs hp h => ?_)
              obtain ⟨u11, rfl, hw⟩ := hp
              refine z_aload_n X hl 0 rfl rfl dX10_write_65 ?_
              refine z_aload_n X hl 0 rfl rfl dX10_write_66 ?_
              refine gM_X10_front X K h q_1341 dX10_write_67 ?_
              refine z_iload_n X hl 1 rfl rfl dX10_write_70 ?_
              obtain ⟨h12, h13, hw⟩ := hw
              refine lM_1 (x := sA u11 1 x1_8) X K h h12 h13 rfl dX10_write_71 ?_
              refine r_callVv (rest := []) X K g h (ct_X10_writesWord u11 (sA u11 1 x1_8) _ hw) lk_X10_229 0 rfl rfl ⟨rfl, rfl⟩ ⟨Nat.le_of_ble_eq_true rfl, Nat.le_of_ble_eq_true rfl⟩ rfl (lv_size hl) rfl (Nat.le_of_ble_eq_true rfl) dX10_write_72 ⟨Nat.le_of_ble_eq_true rfl, Nat.le_of_ble_eq_true rfl⟩ (fun w' H locs hp h => ?_)
              obtain ⟨u14, rfl, hw⟩ := hp
              refine z_iinc (lv' := [(1, zI (x1_8 + (-1))), (0, .ref (a 0))]) X hl 1 rfl (by decide) dX10_write_75 rfl (fun ls hl => ?_)
              refine z_goto (tgt := 55) X dX10_write_78 (by decide) ?_
              exact ih55 (u14, x1_8 + (-1)) H locs ls hw h (lv_sub hl [1, 0] rfl)
        exact key55 n55 (u6, (sI u6 2) - 1) H locs ls hw h (lv_sub hl [1, 0] rfl)
      · replace hw := hw.2 c5
        refine z_aload_n X hl 0 rfl rfl dX10_write_20 ?_
        refine z_aload_n X hl 0 rfl rfl dX10_write_21 ?_
        refine gM_X10_back X K h q_1340 dX10_write_22 ?_
        refine z_iload_n X hl 1 rfl rfl dX10_write_25 ?_
        obtain ⟨h15, h16, hw⟩ := hw
        refine lM_0 (x := sA u1 0 x1_2) X K h h15 h16 rfl dX10_write_26 ?_
        refine r_callVv (rest := []) X K g h (ct_X10_writesWord u1 (sA u1 0 x1_2) _ hw) lk_X10_229 0 rfl rfl ⟨rfl, rfl⟩ ⟨Nat.le_of_ble_eq_true rfl, Nat.le_of_ble_eq_true rfl⟩ rfl (lv_size hl) rfl (Nat.le_of_ble_eq_true rfl) dX10_write_27 ⟨Nat.le_of_ble_eq_true rfl, Nat.le_of_ble_eq_true rfl⟩ (fun w' H locs hp h => ?_)
        obtain ⟨u17, rfl, hw⟩ := hp
        refine z_aload_n X hl 0 rfl rfl dX10_write_30 ?_
        refine z_bipush (v := 32) X dX10_write_31 (by decide) ?_
        refine r_callVv (rest := []) X K g h (ct_X10_writes u17 32 _ hw) lk_X10_226 0 rfl rfl ⟨rfl, rfl⟩ ⟨Nat.le_of_ble_eq_true rfl, Nat.le_of_ble_eq_true rfl⟩ rfl (lv_size hl) rfl (Nat.le_of_ble_eq_true rfl) dX10_write_33 ⟨Nat.le_of_ble_eq_true rfl, Nat.le_of_ble_eq_true rfl⟩ (fun w' H locs hp h => ?_)
        obtain ⟨u18, rfl, hw⟩ := hp
        refine z_iinc (lv' := [(1, zI (x1_2 + 1)), (0, .ref (a 0))]) X hl 1 rfl (by decide) dX10_write_36 rfl (fun ls hl => ?_)
        refine z_goto (tgt := 12) X dX10_write_39 (by decide) ?_
        exact ih12 (u18, x1_2 + 1) H locs ls hw h (lv_sub hl [1, 0] rfl)
  exact key12 n12 ((pI (pI u0 0 0) 14 0), 0) H locs ls hw h (lv_sub hl [1, 0] rfl)
def w_X10_writtenAt (post : Int → St → Prop) (u0 : St) (p1 : Int) : Prop :=
(w_X10_in (fun (z1 : Int) => (w_X10_fails (fun (z2 : Int) (u3 : St) => (InR z2) ∧ ((z2 = 0 → (0 ≤ p1) ∧ (p1 < 720) ∧ post (sA u3 14 p1) u3) ∧
 (¬ z2 = 0 → post 0 u3))) (pI u0 0 0) z1 1)) p1 0 ((sI u0 14) - 1))
abbrev rm_X10_writtenAt : Room := { frames := 1, cells := 0, slots := 0, locals := 22 }
set_option maxRecDepth 100000 in
set_option maxHeartbeats 4000000 in
theorem ct_X10_writtenAt {l : Launch} {G : Gr} {a : Nat → Nat} (u0 : St) (p1 : Int) (post : Int → St → Prop) (hw : w_X10_writtenAt post u0 p1) : Ct l G yX10_writtenAt (ws_ yX10_writtenAt cX10_writtenAt 2 (some .int)) rm_X10_writtenAt [.ref (a 0), zI p1] (WM G a u0) 0 0 (Po (WM G a) post) := by
  refine Ct.of (by decide) (Nat.le_of_ble_eq_true rfl) ?_
  intro p e s m args below meth c ls X hr hlk K g h hl
  have hl : lv_has ls 2 [(0, .ref (a 0)), (1, zI p1)] := hl
  obtain ⟨H, hH⟩ : ∃ H, H = s.heap := ⟨_, rfl⟩
  obtain ⟨locs, hL⟩ : ∃ L : List Loc, L = [] := ⟨_, rfl⟩
  replace h : HW G (va_A (WM G a u0) s.heap.size) s.heap (WM G a u0) H locs := by rw [hH, hL]; exact h
  suffices hg : W p l e rm_X10_writtenAt s m args below meth c H locs 0 0 (EndI G (WM G a u0) (Po (WM G a) post) args s 0 0 below) (F0 m 0 ls []) by rw [hH, hL] at hg; exact hg
  clear hH hL
  refine z_aload_n X hl 0 rfl rfl dX10_writtenAt_0 ?_
  refine z_iconst X dX10_writtenAt_1 ?_
  refine pM_X10_thrown X K h q_1339 dX10_writtenAt_2 (fun H locs h => ?_)
  refine z_aload_n X hl 0 rfl rfl dX10_writtenAt_5 ?_
  refine z_iload_n X hl 1 rfl rfl dX10_writtenAt_6 ?_
  refine z_iconst X dX10_writtenAt_7 ?_
  refine z_aload_n X hl 0 rfl rfl dX10_writtenAt_8 ?_
  refine gM_X10_written (x := sI u0 14) X K h rfl q_1368 dX10_writtenAt_9 ?_
  refine z_iconst X dX10_writtenAt_12 ?_
  refine z_isub X dX10_writtenAt_13 ?_
  refine r_callSi (rest := [.ref (a 0)]) X K g h (ct_X10_in (w := WM G a (pI u0 0 0)) p1 0 ((sI u0 14) - 1) _ hw) lk_X10_66 ⟨rfl, rfl⟩ ⟨Nat.le_of_ble_eq_true rfl, Nat.le_of_ble_eq_true rfl⟩ rfl (lv_size hl) rfl (Nat.le_of_ble_eq_true rfl) dX10_writtenAt_14 ⟨Nat.le_of_ble_eq_true rfl, Nat.le_of_ble_eq_true rfl⟩ (fun z1 w' H locs hp h => ?_)
  obtain ⟨rfl, hw⟩ := hp
  refine z_iconst X dX10_writtenAt_17 ?_
  refine r_callVi (rest := []) X K g h (ct_X10_fails (pI u0 0 0) z1 1 _ hw) lk_X10_74 0 rfl rfl ⟨rfl, rfl⟩ ⟨Nat.le_of_ble_eq_true rfl, Nat.le_of_ble_eq_true rfl⟩ rfl (lv_size hl) rfl (Nat.le_of_ble_eq_true rfl) dX10_writtenAt_18 ⟨Nat.le_of_ble_eq_true rfl, Nat.le_of_ble_eq_true rfl⟩ (fun z2 w' H locs hp h => ?_)
  obtain ⟨u3, rfl, hw⟩ := hp
  obtain ⟨h4, hw⟩ := hw
  refine z_if_eq (tgt := 28) X h4 dX10_writtenAt_21 (by decide) (fun c5 => ?_) (fun c5 => ?_)
  · replace hw := hw.1 c5
    refine z_aload_n X hl 0 rfl rfl dX10_writtenAt_28 ?_
    refine gM_X10_text X K h q_1367 dX10_writtenAt_29 ?_
    refine z_iload_n X hl 1 rfl rfl dX10_writtenAt_32 ?_
    obtain ⟨h6, h7, hw⟩ := hw
    refine lM_14 (x := sA u3 14 p1) X K h h6 h7 rfl dX10_writtenAt_33 ?_
    exact r_iret X hr hlk K h (Nat.le_refl _) (Nat.le_refl _) dX10_writtenAt_34 ⟨_, rfl, hw⟩
  · replace hw := hw.2 c5
    refine z_iconst X dX10_writtenAt_24 ?_
    refine z_goto (tgt := 34) X dX10_writtenAt_25 (by decide) ?_
    exact r_iret X hr hlk K h (Nat.le_refl _) (Nat.le_refl _) dX10_writtenAt_34 ⟨_, rfl, hw⟩
def w_X10_refusals (post : Int → St → Prop) (u0 : St) (p1 : Int) : Prop :=
(w_X10_in (fun (z1 : Int) => (w_X10_fails (fun (z2 : Int) (u3 : St) => (InR z2) ∧ ((z2 = 0 → (0 ≤ 0 - p1) ∧ (0 - p1 < 6) ∧ post (sA u3 2 (0 - p1)) u3) ∧
 (¬ z2 = 0 → post 0 u3))) (pI u0 0 0) z1 1)) p1 (-5) (-2))
abbrev rm_X10_refusals : Room := { frames := 1, cells := 0, slots := 0, locals := 22 }
set_option maxRecDepth 100000 in
set_option maxHeartbeats 4000000 in
theorem ct_X10_refusals {l : Launch} {G : Gr} {a : Nat → Nat} (u0 : St) (p1 : Int) (post : Int → St → Prop) (hw : w_X10_refusals post u0 p1) : Ct l G yX10_refusals (ws_ yX10_refusals cX10_refusals 2 (some .int)) rm_X10_refusals [.ref (a 0), zI p1] (WM G a u0) 0 0 (Po (WM G a) post) := by
  refine Ct.of (by decide) (Nat.le_of_ble_eq_true rfl) ?_
  intro p e s m args below meth c ls X hr hlk K g h hl
  have hl : lv_has ls 2 [(0, .ref (a 0)), (1, zI p1)] := hl
  obtain ⟨H, hH⟩ : ∃ H, H = s.heap := ⟨_, rfl⟩
  obtain ⟨locs, hL⟩ : ∃ L : List Loc, L = [] := ⟨_, rfl⟩
  replace h : HW G (va_A (WM G a u0) s.heap.size) s.heap (WM G a u0) H locs := by rw [hH, hL]; exact h
  suffices hg : W p l e rm_X10_refusals s m args below meth c H locs 0 0 (EndI G (WM G a u0) (Po (WM G a) post) args s 0 0 below) (F0 m 0 ls []) by rw [hH, hL] at hg; exact hg
  clear hH hL
  refine z_aload_n X hl 0 rfl rfl dX10_refusals_0 ?_
  refine z_iconst X dX10_refusals_1 ?_
  refine pM_X10_thrown X K h q_1339 dX10_refusals_2 (fun H locs h => ?_)
  refine z_aload_n X hl 0 rfl rfl dX10_refusals_5 ?_
  refine z_iload_n X hl 1 rfl rfl dX10_refusals_6 ?_
  refine z_bipush (v := (-5)) X dX10_refusals_7 (by decide) ?_
  refine z_bipush (v := (-2)) X dX10_refusals_9 (by decide) ?_
  refine r_callSi (rest := [.ref (a 0)]) X K g h (ct_X10_in (w := WM G a (pI u0 0 0)) p1 (-5) (-2) _ hw) lk_X10_66 ⟨rfl, rfl⟩ ⟨Nat.le_of_ble_eq_true rfl, Nat.le_of_ble_eq_true rfl⟩ rfl (lv_size hl) rfl (Nat.le_of_ble_eq_true rfl) dX10_refusals_11 ⟨Nat.le_of_ble_eq_true rfl, Nat.le_of_ble_eq_true rfl⟩ (fun z1 w' H locs hp h => ?_)
  obtain ⟨rfl, hw⟩ := hp
  refine z_iconst X dX10_refusals_14 ?_
  refine r_callVi (rest := []) X K g h (ct_X10_fails (pI u0 0 0) z1 1 _ hw) lk_X10_74 0 rfl rfl ⟨rfl, rfl⟩ ⟨Nat.le_of_ble_eq_true rfl, Nat.le_of_ble_eq_true rfl⟩ rfl (lv_size hl) rfl (Nat.le_of_ble_eq_true rfl) dX10_refusals_15 ⟨Nat.le_of_ble_eq_true rfl, Nat.le_of_ble_eq_true rfl⟩ (fun z2 w' H locs hp h => ?_)
  obtain ⟨u3, rfl, hw⟩ := hp
  obtain ⟨h4, hw⟩ := hw
  refine z_if_eq (tgt := 25) X h4 dX10_refusals_18 (by decide) (fun c5 => ?_) (fun c5 => ?_)
  · replace hw := hw.1 c5
    refine z_aload_n X hl 0 rfl rfl dX10_refusals_25 ?_
    refine gM_X10_refusals X K h q_1346 dX10_refusals_26 ?_
    refine z_iconst X dX10_refusals_29 ?_
    refine z_iload_n X hl 1 rfl rfl dX10_refusals_30 ?_
    refine z_isub X dX10_refusals_31 ?_
    obtain ⟨h6, h7, hw⟩ := hw
    refine lM_2 (x := sA u3 2 (0 - p1)) X K h h6 h7 rfl dX10_refusals_32 ?_
    exact r_iret X hr hlk K h (Nat.le_refl _) (Nat.le_refl _) dX10_refusals_33 ⟨_, rfl, hw⟩
  · replace hw := hw.2 c5
    refine z_iconst X dX10_refusals_21 ?_
    refine z_goto (tgt := 33) X dX10_refusals_22 (by decide) ?_
    exact r_iret X hr hlk K h (Nat.le_refl _) (Nat.le_refl _) dX10_refusals_33 ⟨_, rfl, hw⟩
def w_X10_acts (post : Int → St → Prop) (u0 : St) : Prop :=
post (sI u0 4) (pI u0 0 0)
abbrev rm_X10_acts : Room := { frames := 0, cells := 0, slots := 0, locals := 0 }
set_option maxRecDepth 100000 in
set_option maxHeartbeats 4000000 in
theorem ct_X10_acts {l : Launch} {G : Gr} {a : Nat → Nat} (u0 : St) (post : Int → St → Prop) (hw : w_X10_acts post u0) : Ct l G yX10_acts (ws_ yX10_acts cX10_acts 1 (some .int)) rm_X10_acts [.ref (a 0)] (WM G a u0) 0 0 (Po (WM G a) post) := by
  refine Ct.of (by decide) (Nat.le_of_ble_eq_true rfl) ?_
  intro p e s m args below meth c ls X hr hlk K g h hl
  have hl : lv_has ls 1 [(0, .ref (a 0))] := hl
  obtain ⟨H, hH⟩ : ∃ H, H = s.heap := ⟨_, rfl⟩
  obtain ⟨locs, hL⟩ : ∃ L : List Loc, L = [] := ⟨_, rfl⟩
  replace h : HW G (va_A (WM G a u0) s.heap.size) s.heap (WM G a u0) H locs := by rw [hH, hL]; exact h
  suffices hg : W p l e rm_X10_acts s m args below meth c H locs 0 0 (EndI G (WM G a u0) (Po (WM G a) post) args s 0 0 below) (F0 m 0 ls []) by rw [hH, hL] at hg; exact hg
  clear hH hL
  refine z_aload_n X hl 0 rfl rfl dX10_acts_0 ?_
  refine z_iconst X dX10_acts_1 ?_
  refine pM_X10_thrown X K h q_1339 dX10_acts_2 (fun H locs h => ?_)
  refine z_aload_n X hl 0 rfl rfl dX10_acts_5 ?_
  refine gM_X10_acts (x := sI u0 4) X K h rfl q_1345 dX10_acts_6 ?_
  exact r_iret X hr hlk K h (Nat.le_refl _) (Nat.le_refl _) dX10_acts_9 ⟨_, rfl, hw⟩
def w_X10_agree (post : Int → St → Prop) (u0 : St) : Prop :=
post 1 (pI u0 0 0)
abbrev rm_X10_agree : Room := { frames := 0, cells := 0, slots := 0, locals := 0 }
set_option maxRecDepth 100000 in
set_option maxHeartbeats 4000000 in
theorem ct_X10_agree {l : Launch} {G : Gr} {a : Nat → Nat} (u0 : St) (post : Int → St → Prop) (hw : w_X10_agree post u0) : Ct l G yX10_agree (ws_ yX10_agree cX10_agree 1 (some .boolean)) rm_X10_agree [.ref (a 0)] (WM G a u0) 0 0 (Po (WM G a) post) := by
  refine Ct.of (by decide) (Nat.le_of_ble_eq_true rfl) ?_
  intro p e s m args below meth c ls X hr hlk K g h hl
  have hl : lv_has ls 1 [(0, .ref (a 0))] := hl
  obtain ⟨H, hH⟩ : ∃ H, H = s.heap := ⟨_, rfl⟩
  obtain ⟨locs, hL⟩ : ∃ L : List Loc, L = [] := ⟨_, rfl⟩
  replace h : HW G (va_A (WM G a u0) s.heap.size) s.heap (WM G a u0) H locs := by rw [hH, hL]; exact h
  suffices hg : W p l e rm_X10_agree s m args below meth c H locs 0 0 (EndI G (WM G a u0) (Po (WM G a) post) args s 0 0 below) (F0 m 0 ls []) by rw [hH, hL] at hg; exact hg
  clear hH hL
  refine z_aload_n X hl 0 rfl rfl dX10_agree_0 ?_
  refine z_iconst X dX10_agree_1 ?_
  refine pM_X10_thrown X K h q_1339 dX10_agree_2 (fun H locs h => ?_)
  refine z_iconst X dX10_agree_5 ?_
  exact r_zret X hr hlk K h (Nat.le_refl _) (Nat.le_refl _) dX10_agree_6 (by decide) ⟨_, rfl, hw⟩
def w_X10_errors (post : Int → St → Prop) (u0 : St) : Prop :=
post 0 (pI u0 0 0)
abbrev rm_X10_errors : Room := { frames := 0, cells := 0, slots := 0, locals := 0 }
set_option maxRecDepth 100000 in
set_option maxHeartbeats 4000000 in
theorem ct_X10_errors {l : Launch} {G : Gr} {a : Nat → Nat} (u0 : St) (post : Int → St → Prop) (hw : w_X10_errors post u0) : Ct l G yX10_errors (ws_ yX10_errors cX10_errors 1 (some .int)) rm_X10_errors [.ref (a 0)] (WM G a u0) 0 0 (Po (WM G a) post) := by
  refine Ct.of (by decide) (Nat.le_of_ble_eq_true rfl) ?_
  intro p e s m args below meth c ls X hr hlk K g h hl
  have hl : lv_has ls 1 [(0, .ref (a 0))] := hl
  obtain ⟨H, hH⟩ : ∃ H, H = s.heap := ⟨_, rfl⟩
  obtain ⟨locs, hL⟩ : ∃ L : List Loc, L = [] := ⟨_, rfl⟩
  replace h : HW G (va_A (WM G a u0) s.heap.size) s.heap (WM G a u0) H locs := by rw [hH, hL]; exact h
  suffices hg : W p l e rm_X10_errors s m args below meth c H locs 0 0 (EndI G (WM G a u0) (Po (WM G a) post) args s 0 0 below) (F0 m 0 ls []) by rw [hH, hL] at hg; exact hg
  clear hH hL
  refine z_aload_n X hl 0 rfl rfl dX10_errors_0 ?_
  refine z_iconst X dX10_errors_1 ?_
  refine pM_X10_thrown X K h q_1339 dX10_errors_2 (fun H locs h => ?_)
  refine z_iconst X dX10_errors_5 ?_
  exact r_iret X hr hlk K h (Nat.le_refl _) (Nat.le_refl _) dX10_errors_6 ⟨_, rfl, hw⟩
