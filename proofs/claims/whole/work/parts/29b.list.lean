/-! the JDK's list -/
def w_J3_checkIndex_8e157 (post : Int → Prop) (p0 : Int) (p1 : Int) (p2 : Option Nat) : Prop :=
(InR p0) ∧ ((p0 < 0 → False) ∧
 (¬ p0 < 0 → (InR p1) ∧ ((p0 < p1 → post p0) ∧
 (¬ p0 < p1 → False))))
abbrev rm_J3_checkIndex_8e157 : Room := { frames := 0, cells := 0, slots := 0, locals := 0 }
set_option maxRecDepth 100000 in
set_option maxHeartbeats 4000000 in
theorem ct_J3_checkIndex_8e157 {l : Launch} {G : Gr} {w : va_W} (p0 : Int) (p1 : Int) (p2 : Option Nat) (post : Int → Prop) (hw : w_J3_checkIndex_8e157 post p0 p1 p2) : Ct l G yJ3_checkIndex_8e157 (ws_ yJ3_checkIndex_8e157 cJ3_checkIndex_8e157 3 (some .int)) rm_J3_checkIndex_8e157 [zI p0, zI p1, va_rf p2] w 0 0 (PoP w post) := by
  refine Ct.of (by decide) (by simp [lg_sl, rf_cat, zI_cat, ref_cat]) ?_
  intro p e s m args below meth c ls X hr hlk K g h hl
  have hl : lv_has ls 3 [(0, zI p0), (1, zI p1), (2, va_rf p2)] := by simpa [lv_args, rf_cat, zI_cat, ref_cat] using hl
  obtain ⟨H, hH⟩ : ∃ H, H = s.heap := ⟨_, rfl⟩
  obtain ⟨locs, hL⟩ : ∃ L : List Loc, L = [] := ⟨_, rfl⟩
  replace h : HW G (va_A w s.heap.size) s.heap (w) H locs := by rw [hH, hL]; exact h
  suffices hg : W p l e rm_J3_checkIndex_8e157 s m args below meth c H locs 0 0 (EndI G w (PoP w post) args s 0 0 below) (F0 m 0 ls []) by rw [hH, hL] at hg; exact hg
  clear hH hL
  refine z_iload_n X hl 0 rfl rfl dJ3_checkIndex_8e157_0 ?_
  obtain ⟨h1, hw⟩ := hw
  refine z_if_lt (tgt := 9) X h1 dJ3_checkIndex_8e157_1 (by decide) (fun c2 => ?_) (fun c2 => ?_)
  · replace hw := hw.1 c2
    refine z_aloadR_n X hl 2 rfl rfl dJ3_checkIndex_8e157_9 ?_
    refine z_iload_n X hl 0 rfl rfl dJ3_checkIndex_8e157_10 ?_
    refine z_iload_n X hl 1 rfl rfl dJ3_checkIndex_8e157_11 ?_
    exact hw.elim
  · replace hw := hw.2 c2
    refine z_iload_n X hl 0 rfl rfl dJ3_checkIndex_8e157_4 ?_
    refine z_iload_n X hl 1 rfl rfl dJ3_checkIndex_8e157_5 ?_
    obtain ⟨h3, hw⟩ := hw
    refine z_icmp_lt (tgt := 16) X h1 h3 dJ3_checkIndex_8e157_6 (by decide) (fun c4 => ?_) (fun c4 => ?_)
    · replace hw := hw.1 c4
      refine z_iload_n X hl 0 rfl rfl dJ3_checkIndex_8e157_16 ?_
      exact r_iret X hr hlk K h (Nat.le_refl _) (Nat.le_refl _) dJ3_checkIndex_8e157_17 ⟨rfl, hw⟩
    · replace hw := hw.2 c4
      refine z_aloadR_n X hl 2 rfl rfl dJ3_checkIndex_8e157_9 ?_
      refine z_iload_n X hl 0 rfl rfl dJ3_checkIndex_8e157_10 ?_
      refine z_iload_n X hl 1 rfl rfl dJ3_checkIndex_8e157_11 ?_
      exact hw.elim
def w_J15_checkIndex_7cf53 (post : Int → Prop) (p0 : Int) (p1 : Int) : Prop :=
(w_J3_checkIndex_8e157 (fun (z1 : Int) => post z1) p0 p1 none)
abbrev rm_J15_checkIndex_7cf53 : Room := { frames := 1, cells := 0, slots := 0, locals := 22 }
set_option maxRecDepth 100000 in
set_option maxHeartbeats 4000000 in
theorem ct_J15_checkIndex_7cf53 {l : Launch} {G : Gr} {w : va_W} (p0 : Int) (p1 : Int) (post : Int → Prop) (hw : w_J15_checkIndex_7cf53 post p0 p1) : Ct l G yJ15_checkIndex_7cf53 (ws_ yJ15_checkIndex_7cf53 cJ15_checkIndex_7cf53 2 (some .int)) rm_J15_checkIndex_7cf53 [zI p0, zI p1] w 0 0 (PoP w post) := by
  refine Ct.of (by decide) (Nat.le_of_ble_eq_true rfl) ?_
  intro p e s m args below meth c ls X hr hlk K g h hl
  have hl : lv_has ls 2 [(0, zI p0), (1, zI p1)] := hl
  obtain ⟨H, hH⟩ : ∃ H, H = s.heap := ⟨_, rfl⟩
  obtain ⟨locs, hL⟩ : ∃ L : List Loc, L = [] := ⟨_, rfl⟩
  replace h : HW G (va_A w s.heap.size) s.heap (w) H locs := by rw [hH, hL]; exact h
  suffices hg : W p l e rm_J15_checkIndex_7cf53 s m args below meth c H locs 0 0 (EndI G w (PoP w post) args s 0 0 below) (F0 m 0 ls []) by rw [hH, hL] at hg; exact hg
  clear hH hL
  refine z_iload_n X hl 0 rfl rfl dJ15_checkIndex_7cf53_0 ?_
  refine z_iload_n X hl 1 rfl rfl dJ15_checkIndex_7cf53_1 ?_
  refine z_null X dJ15_checkIndex_7cf53_2 ?_
  refine r_callSi (rest := []) X K g h (ct_J3_checkIndex_8e157 (w := w) p0 p1 none _ hw) lk_J15_105 ⟨rfl, rfl⟩ ⟨Nat.le_of_ble_eq_true rfl, Nat.le_of_ble_eq_true rfl⟩ rfl (lv_size hl) rfl (Nat.le_of_ble_eq_true rfl) dJ15_checkIndex_7cf53_3 ⟨Nat.le_of_ble_eq_true rfl, Nat.le_of_ble_eq_true rfl⟩ (fun z1 w' H locs hp h => ?_)
  obtain ⟨hww, hw⟩ := hp
  rw [hww] at h
  exact r_iret X hr hlk K h (Nat.le_refl _) (Nat.le_refl _) dJ15_checkIndex_7cf53_6 ⟨rfl, hw⟩
def w_Jx4a65c_grow_d5877 (post : Option Nat → St → Prop) (mc ms : Nat) (G : Gr) (u0 : St) : Prop :=
(∃ a2 b3 : Nat, (0 + a2 ≤ mc) ∧ (0 + b3 ≤ ms) ∧ w_Jx4a65c_grow_92f84 (fun (z1 : Option Nat) (u6 : St) => post z1 u6) a2 b3 G u0 ((sI u0 11) + 1))
abbrev rm_Jx4a65c_grow_d5877 (mc ms : Nat) : Room := { frames := 9, cells := mc, slots := ms, locals := 273 }
set_option maxRecDepth 100000 in
set_option maxHeartbeats 4000000 in
theorem ct_Jx4a65c_grow_d5877 {l : Launch} {G : Gr} {a : Nat → Nat} (mc ms : Nat) (u0 : St) (post : Option Nat → St → Prop) (hw : w_Jx4a65c_grow_d5877 post mc ms G u0) : CtQ l G yJx4a65c_grow_d5877 (ws_ yJx4a65c_grow_d5877 cJx4a65c_grow_d5877 1 (some (.array (.object "java/lang/Object")))) (rm_Jx4a65c_grow_d5877 mc ms) [.ref (a 5)] (WC G a u0) mc ms (PoR (WC G a) post) := by
  refine CtQ.of (by decide) (Nat.le_of_ble_eq_true rfl) ?_
  intro p e s m args below meth c ls X hr hlk K g h hl
  have hl : lv_has ls 1 [(0, .ref (a 5))] := hl
  obtain ⟨H, hH⟩ : ∃ H, H = s.heap := ⟨_, rfl⟩
  obtain ⟨locs, hL⟩ : ∃ L : List Loc, L = [] := ⟨_, rfl⟩
  replace h : HW G (va_A (WC G a u0) s.heap.size) s.heap (WC G a u0) H locs := by rw [hH, hL]; exact h
  suffices hg : W p l e (rm_Jx4a65c_grow_d5877 mc ms) s m args below meth c H locs 0 0 (EndQ G (WC G a u0) (PoR (WC G a) post) args s mc ms below) (F0 m 0 ls []) by rw [hH, hL] at hg; exact hg
  clear hH hL
  refine z_aload_n X hl 0 rfl rfl dJx4a65c_grow_d5877_0 ?_
  refine z_aload_n X hl 0 rfl rfl dJx4a65c_grow_d5877_1 ?_
  refine gC_Jx4a65c_size (x := sI u0 11) X K h rfl q_130 dJx4a65c_grow_d5877_2 ?_
  refine z_iconst X dJx4a65c_grow_d5877_5 ?_
  refine z_iadd X dJx4a65c_grow_d5877_6 ?_
  obtain ⟨a2, b3, hk4, hs5, hw⟩ := hw
  refine r_callVq (rest := []) X K g h (ct_Jx4a65c_grow_92f84 a2 b3 u0 ((sI u0 11) + 1) _ hw) lk_Jx4a65c_69 5 rfl rfl ⟨rfl, rfl⟩ ⟨Nat.le_of_ble_eq_true rfl, Nat.le_of_ble_eq_true rfl⟩ rfl (lv_size hl) rfl (Nat.le_of_ble_eq_true rfl) dJx4a65c_grow_d5877_7 ⟨hk4, hs5⟩ (fun z1 w' H locs hp h => ?_)
  obtain ⟨u6, rfl, hw⟩ := hp
  exact r_aret X hr (Or.inr ⟨_, rfl⟩) hlk K h hk4 hs5 dJx4a65c_grow_d5877_10 ⟨_, rfl, hw⟩
def w_Jx4a65c_size_8abf5 (post : Int → Prop) (u0 : St) : Prop :=
post (sI u0 11)
abbrev rm_Jx4a65c_size_8abf5 : Room := { frames := 0, cells := 0, slots := 0, locals := 0 }
set_option maxRecDepth 100000 in
set_option maxHeartbeats 4000000 in
theorem ct_Jx4a65c_size_8abf5 {l : Launch} {G : Gr} {a : Nat → Nat} (u0 : St) (post : Int → Prop) (hw : w_Jx4a65c_size_8abf5 post u0) : Ct l G yJx4a65c_size_8abf5 (ws_ yJx4a65c_size_8abf5 cJx4a65c_size_8abf5 1 (some .int)) rm_Jx4a65c_size_8abf5 [.ref (a 5)] (WC G a u0) 0 0 (PoP (WC G a u0) post) := by
  refine Ct.of (by decide) (Nat.le_of_ble_eq_true rfl) ?_
  intro p e s m args below meth c ls X hr hlk K g h hl
  have hl : lv_has ls 1 [(0, .ref (a 5))] := hl
  obtain ⟨H, hH⟩ : ∃ H, H = s.heap := ⟨_, rfl⟩
  obtain ⟨locs, hL⟩ : ∃ L : List Loc, L = [] := ⟨_, rfl⟩
  replace h : HW G (va_A (WC G a u0) s.heap.size) s.heap (WC G a u0) H locs := by rw [hH, hL]; exact h
  suffices hg : W p l e rm_Jx4a65c_size_8abf5 s m args below meth c H locs 0 0 (EndI G (WC G a u0) (PoP (WC G a u0) post) args s 0 0 below) (F0 m 0 ls []) by rw [hH, hL] at hg; exact hg
  clear hH hL
  refine z_aload_n X hl 0 rfl rfl dJx4a65c_size_8abf5_0 ?_
  refine gC_Jx4a65c_size (x := sI u0 11) X K h rfl q_130 dJx4a65c_size_8abf5_1 ?_
  exact r_iret X hr hlk K h (Nat.le_refl _) (Nat.le_refl _) dJx4a65c_size_8abf5_4 ⟨rfl, hw⟩
def w_Jx4a65c_elementData_915e3 (post : Option Nat → Prop) (G : Gr) (u0 : St) (p1 : Int) : Prop :=
(∃ ed1 : Nat, (sR u0 0 = some ed1) ∧ ∃ (n3 : Nat) (f4 : Nat → Option Nat), (ed1 ∈ sL u0) ∧ (sF u0 ed1 = arrE G n3 f4) ∧ ((n3 : Int) < 2147483648) ∧ (0 ≤ p1) ∧ (p1 < (n3 : Int)) ∧ post (f4 p1.toNat))
abbrev rm_Jx4a65c_elementData_915e3 : Room := { frames := 0, cells := 0, slots := 0, locals := 0 }
set_option maxRecDepth 100000 in
set_option maxHeartbeats 4000000 in
theorem ct_Jx4a65c_elementData_915e3 {l : Launch} {G : Gr} {a : Nat → Nat} (u0 : St) (p1 : Int) (post : Option Nat → Prop) (hw : w_Jx4a65c_elementData_915e3 post G u0 p1) : CtQ l G yJx4a65c_elementData_915e3 (ws_ yJx4a65c_elementData_915e3 cJx4a65c_elementData_915e3 2 (some (.object "java/lang/Object"))) rm_Jx4a65c_elementData_915e3 [.ref (a 5), zI p1] (WC G a u0) 0 0 (PoS (WC G a u0) post) := by
  refine CtQ.of (by decide) (Nat.le_of_ble_eq_true rfl) ?_
  intro p e s m args below meth c ls X hr hlk K g h hl
  have hl : lv_has ls 2 [(0, .ref (a 5)), (1, zI p1)] := hl
  obtain ⟨H, hH⟩ : ∃ H, H = s.heap := ⟨_, rfl⟩
  obtain ⟨locs, hL⟩ : ∃ L : List Loc, L = [] := ⟨_, rfl⟩
  replace h : HW G (va_A (WC G a u0) s.heap.size) s.heap (WC G a u0) H locs := by rw [hH, hL]; exact h
  suffices hg : W p l e rm_Jx4a65c_elementData_915e3 s m args below meth c H locs 0 0 (EndQ G (WC G a u0) (PoS (WC G a u0) post) args s 0 0 below) (F0 m 0 ls []) by rw [hH, hL] at hg; exact hg
  clear hH hL
  refine z_aload_n X hl 0 rfl rfl dJx4a65c_elementData_915e3_0 ?_
  refine gC_Jx4a65c_elementData (r := sR u0 0) X K h rfl q_129 dJx4a65c_elementData_915e3_1 ?_
  refine z_iload_n X hl 1 rfl rfl dJx4a65c_elementData_915e3_4 ?_
  obtain ⟨ed1, hr2, n3, f4, hL5, hF6, hn7, hw⟩ := hw
  obtain ⟨h8, h9, hw⟩ := hw
  refine r_aaldq X K h hr2 hL5 hF6 h8 h9 hn7 dJx4a65c_elementData_915e3_5 ?_
  exact r_aret X hr (Or.inl ⟨_, rfl⟩) hlk K h (Nat.le_refl _) (Nat.le_refl _) dJx4a65c_elementData_915e3_6 ⟨rfl, hw⟩
def w_Jx4a65c_get_915e3 (post : Option Nat → Prop) (G : Gr) (u0 : St) (p1 : Int) : Prop :=
(w_J15_checkIndex_7cf53 (fun (z1 : Int) => (w_Jx4a65c_elementData_915e3 (fun (z2 : Option Nat) => post z2) G u0 p1)) p1 (sI u0 11))
abbrev rm_Jx4a65c_get_915e3 : Room := { frames := 2, cells := 0, slots := 0, locals := 43 }
set_option maxRecDepth 100000 in
set_option maxHeartbeats 4000000 in
theorem ct_Jx4a65c_get_915e3 {l : Launch} {G : Gr} {a : Nat → Nat} (u0 : St) (p1 : Int) (post : Option Nat → Prop) (hw : w_Jx4a65c_get_915e3 post G u0 p1) : CtQ l G yJx4a65c_get_915e3 (ws_ yJx4a65c_get_915e3 cJx4a65c_get_915e3 2 (some (.object "java/lang/Object"))) rm_Jx4a65c_get_915e3 [.ref (a 5), zI p1] (WC G a u0) 0 0 (PoS (WC G a u0) post) := by
  refine CtQ.of (by decide) (Nat.le_of_ble_eq_true rfl) ?_
  intro p e s m args below meth c ls X hr hlk K g h hl
  have hl : lv_has ls 2 [(0, .ref (a 5)), (1, zI p1)] := hl
  obtain ⟨H, hH⟩ : ∃ H, H = s.heap := ⟨_, rfl⟩
  obtain ⟨locs, hL⟩ : ∃ L : List Loc, L = [] := ⟨_, rfl⟩
  replace h : HW G (va_A (WC G a u0) s.heap.size) s.heap (WC G a u0) H locs := by rw [hH, hL]; exact h
  suffices hg : W p l e rm_Jx4a65c_get_915e3 s m args below meth c H locs 0 0 (EndQ G (WC G a u0) (PoS (WC G a u0) post) args s 0 0 below) (F0 m 0 ls []) by rw [hH, hL] at hg; exact hg
  clear hH hL
  refine z_iload_n X hl 1 rfl rfl dJx4a65c_get_915e3_0 ?_
  refine z_aload_n X hl 0 rfl rfl dJx4a65c_get_915e3_1 ?_
  refine gC_Jx4a65c_size (x := sI u0 11) X K h rfl q_130 dJx4a65c_get_915e3_2 ?_
  refine r_callSi (rest := []) X K g h (ct_J15_checkIndex_7cf53 (w := WC G a u0) p1 (sI u0 11) _ hw) lk_Jx4a65c_118 ⟨rfl, rfl⟩ ⟨Nat.le_of_ble_eq_true rfl, Nat.le_of_ble_eq_true rfl⟩ rfl (lv_size hl) rfl (Nat.le_of_ble_eq_true rfl) dJx4a65c_get_915e3_5 ⟨Nat.le_of_ble_eq_true rfl, Nat.le_of_ble_eq_true rfl⟩ (fun z1 w' H locs hp h => ?_)
  obtain ⟨rfl, hw⟩ := hp
  refine z_pop X rfl dJx4a65c_get_915e3_8 ?_
  refine z_aload_n X hl 0 rfl rfl dJx4a65c_get_915e3_9 ?_
  refine z_iload_n X hl 1 rfl rfl dJx4a65c_get_915e3_10 ?_
  refine r_callVq (rest := []) X K g h (ct_Jx4a65c_elementData_915e3 u0 p1 _ hw) lk_Jx4a65c_123 5 rfl rfl ⟨rfl, rfl⟩ ⟨Nat.le_of_ble_eq_true rfl, Nat.le_of_ble_eq_true rfl⟩ rfl (lv_size hl) rfl (Nat.le_of_ble_eq_true rfl) dJx4a65c_get_915e3_11 ⟨Nat.le_of_ble_eq_true rfl, Nat.le_of_ble_eq_true rfl⟩ (fun z2 w' H locs hp h => ?_)
  obtain ⟨rfl, hw⟩ := hp
  exact r_aret X hr (Or.inl ⟨_, rfl⟩) hlk K h (Nat.le_refl _) (Nat.le_refl _) dJx4a65c_get_915e3_14 ⟨rfl, hw⟩
def w_Jx4a65c_set_bcc79 (post : Option Nat → St → Prop) (G : Gr) (u0 : St) (p1 : Int) (p2 : Option Nat) : Prop :=
(w_J15_checkIndex_7cf53 (fun (z1 : Int) => (w_Jx4a65c_elementData_915e3 (fun (z2 : Option Nat) => (∃ ed3 : Nat, (sR u0 0 = some ed3) ∧ ∃ (n5 : Nat) (f6 : Nat → Option Nat), (ed3 ∈ sL u0) ∧ (sF u0 ed3 = arrE G n5 f6) ∧ ((n5 : Int) < 2147483648) ∧ (0 ≤ p1) ∧ (p1 < (n5 : Int)) ∧ (∃ (q12 : Nat) (w13 : Int), (p2 = some q12) ∧ (isBox G u0 q12 w13) ∧ post z2 (pF u0 ed3 (arrE G n5 (va_up f6 p1.toNat p2)))))) G u0 p1)) p1 (sI u0 11))
abbrev rm_Jx4a65c_set_bcc79 : Room := { frames := 2, cells := 0, slots := 0, locals := 43 }
set_option maxRecDepth 100000 in
set_option maxHeartbeats 4000000 in
theorem ct_Jx4a65c_set_bcc79 {l : Launch} {G : Gr} {a : Nat → Nat} (u0 : St) (p1 : Int) (p2 : Option Nat) (post : Option Nat → St → Prop) (hw : w_Jx4a65c_set_bcc79 post G u0 p1 p2) : CtQ l G yJx4a65c_set_bcc79 (ws_ yJx4a65c_set_bcc79 cJx4a65c_set_bcc79 4 (some (.object "java/lang/Object"))) rm_Jx4a65c_set_bcc79 [.ref (a 5), zI p1, va_rf p2] (WC G a u0) 0 0 (PoR (WC G a) post) := by
  refine CtQ.of (by decide) (by simp [lg_sl, rf_cat, zI_cat, ref_cat]) ?_
  intro p e s m args below meth c ls X hr hlk K g h hl
  have hl : lv_has ls 4 [(0, .ref (a 5)), (1, zI p1), (2, va_rf p2)] := by simpa [lv_args, rf_cat, zI_cat, ref_cat] using hl
  obtain ⟨H, hH⟩ : ∃ H, H = s.heap := ⟨_, rfl⟩
  obtain ⟨locs, hL⟩ : ∃ L : List Loc, L = [] := ⟨_, rfl⟩
  replace h : HW G (va_A (WC G a u0) s.heap.size) s.heap (WC G a u0) H locs := by rw [hH, hL]; exact h
  suffices hg : W p l e rm_Jx4a65c_set_bcc79 s m args below meth c H locs 0 0 (EndQ G (WC G a u0) (PoR (WC G a) post) args s 0 0 below) (F0 m 0 ls []) by rw [hH, hL] at hg; exact hg
  clear hH hL
  refine z_iload_n X hl 1 rfl rfl dJx4a65c_set_bcc79_0 ?_
  refine z_aload_n X hl 0 rfl rfl dJx4a65c_set_bcc79_1 ?_
  refine gC_Jx4a65c_size (x := sI u0 11) X K h rfl q_130 dJx4a65c_set_bcc79_2 ?_
  refine r_callSi (rest := []) X K g h (ct_J15_checkIndex_7cf53 (w := WC G a u0) p1 (sI u0 11) _ hw) lk_Jx4a65c_118 ⟨rfl, rfl⟩ ⟨Nat.le_of_ble_eq_true rfl, Nat.le_of_ble_eq_true rfl⟩ rfl (lv_size hl) rfl (Nat.le_of_ble_eq_true rfl) dJx4a65c_set_bcc79_5 ⟨Nat.le_of_ble_eq_true rfl, Nat.le_of_ble_eq_true rfl⟩ (fun z1 w' H locs hp h => ?_)
  obtain ⟨rfl, hw⟩ := hp
  refine z_pop X rfl dJx4a65c_set_bcc79_8 ?_
  refine z_aload_n X hl 0 rfl rfl dJx4a65c_set_bcc79_9 ?_
  refine z_iload_n X hl 1 rfl rfl dJx4a65c_set_bcc79_10 ?_
  refine r_callVq (rest := []) X K g h (ct_Jx4a65c_elementData_915e3 u0 p1 _ hw) lk_Jx4a65c_123 5 rfl rfl ⟨rfl, rfl⟩ ⟨Nat.le_of_ble_eq_true rfl, Nat.le_of_ble_eq_true rfl⟩ rfl (lv_size hl) rfl (Nat.le_of_ble_eq_true rfl) dJx4a65c_set_bcc79_11 ⟨Nat.le_of_ble_eq_true rfl, Nat.le_of_ble_eq_true rfl⟩ (fun z2 w' H locs hp h => ?_)
  obtain ⟨rfl, hw⟩ := hp
  refine z_astoreR_n (i := 3) (lv' := [(3, va_rf z2), (0, .ref (a 5)), (1, zI p1), (2, va_rf p2)]) X hl rfl (by decide) dJx4a65c_set_bcc79_14 (by simp [List.filter, rf_cat, zI_cat, ref_cat]) (fun ls hl => ?_)
  refine z_aload_n X hl 1 rfl rfl dJx4a65c_set_bcc79_15 ?_
  refine gC_Jx4a65c_elementData (r := sR u0 0) X K h rfl q_129 dJx4a65c_set_bcc79_16 ?_
  refine z_iload_n X hl 2 rfl rfl dJx4a65c_set_bcc79_19 ?_
  refine z_aloadR_n X hl 3 rfl rfl dJx4a65c_set_bcc79_20 ?_
  obtain ⟨ed3, hr4, n5, f6, hL7, hF8, hn9, hw⟩ := hw
  obtain ⟨h10, h11, hw⟩ := hw
  obtain ⟨q12, w13, hq14, hb15, hw⟩ := hw
  refine r_aastq X K g h hr4 hL7 hF8 h10 h11 hn9 hq14 hb15 dJx4a65c_set_bcc79_21 (fun H locs h => ?_)
  refine z_aloadR_n X hl 0 rfl rfl dJx4a65c_set_bcc79_22 ?_
  exact r_aret X hr (Or.inl ⟨_, rfl⟩) hlk K h (Nat.le_refl _) (Nat.le_refl _) dJx4a65c_set_bcc79_23 ⟨_, rfl, hw⟩
def w_Jx4a65c_rangeCheckForAdd_d00df (post : St → Prop) (u0 : St) (p1 : Int) : Prop :=
(InR p1) ∧ (InR (sI u0 11)) ∧ ((sI u0 11 < p1 → False) ∧
 (¬ sI u0 11 < p1 → ((0 ≤ p1 → post u0) ∧
 (¬ 0 ≤ p1 → False))))
abbrev rm_Jx4a65c_rangeCheckForAdd_d00df : Room := { frames := 1, cells := 0, slots := 0, locals := 21 }
set_option maxRecDepth 100000 in
set_option maxHeartbeats 4000000 in
theorem ct_Jx4a65c_rangeCheckForAdd_d00df {l : Launch} {G : Gr} {a : Nat → Nat} (u0 : St) (p1 : Int) (post : St → Prop) (hw : w_Jx4a65c_rangeCheckForAdd_d00df post u0 p1) : CtV l G yJx4a65c_rangeCheckForAdd_d00df (ws_ yJx4a65c_rangeCheckForAdd_d00df cJx4a65c_rangeCheckForAdd_d00df 2 (none)) rm_Jx4a65c_rangeCheckForAdd_d00df [.ref (a 5), zI p1] (WC G a u0) 0 0 (PoV (WC G a) post) := by
  refine CtV.of (by decide) (Nat.le_of_ble_eq_true rfl) ?_
  intro p e s m args below meth c ls X hr hlk K g h hl
  have hl : lv_has ls 2 [(0, .ref (a 5)), (1, zI p1)] := hl
  obtain ⟨H, hH⟩ : ∃ H, H = s.heap := ⟨_, rfl⟩
  obtain ⟨locs, hL⟩ : ∃ L : List Loc, L = [] := ⟨_, rfl⟩
  replace h : HW G (va_A (WC G a u0) s.heap.size) s.heap (WC G a u0) H locs := by rw [hH, hL]; exact h
  suffices hg : W p l e rm_Jx4a65c_rangeCheckForAdd_d00df s m args below meth c H locs 0 0 (EndV G (WC G a u0) (PoV (WC G a) post) args s 0 0 below) (F0 m 0 ls []) by rw [hH, hL] at hg; exact hg
  clear hH hL
  refine z_iload_n X hl 1 rfl rfl dJx4a65c_rangeCheckForAdd_d00df_0 ?_
  refine z_aload_n X hl 0 rfl rfl dJx4a65c_rangeCheckForAdd_d00df_1 ?_
  refine gC_Jx4a65c_size (x := sI u0 11) X K h rfl q_130 dJx4a65c_rangeCheckForAdd_d00df_2 ?_
  obtain ⟨h1, h2, hw⟩ := hw
  refine z_icmp_gt (tgt := 12) X h1 h2 dJx4a65c_rangeCheckForAdd_d00df_5 (by decide) (fun c3 => ?_) (fun c3 => ?_)
  · replace hw := hw.1 c3
    exact hw.elim
  · replace hw := hw.2 c3
    refine z_iload_n X hl 1 rfl rfl dJx4a65c_rangeCheckForAdd_d00df_8 ?_
    refine z_if_ge (tgt := 25) X h1 dJx4a65c_rangeCheckForAdd_d00df_9 (by decide) (fun c4 => ?_) (fun c4 => ?_)
    · replace hw := hw.1 c4
      exact r_vret X hr hlk K h (Nat.le_refl _) (Nat.le_refl _) dJx4a65c_rangeCheckForAdd_d00df_25 ⟨_, rfl, hw⟩
    · replace hw := hw.2 c4
      exact hw.elim
def w_Jx4a65c_add_7a177 (post : St → Prop) (mc ms : Nat) (G : Gr) (u0 : St) (p1 : Int) (p2 : Option Nat) : Prop :=
(w_Jx4a65c_rangeCheckForAdd_d00df (fun  (u1 : St) => (((sR u1 0 = some G.2.2.2.2) ∧ (InR (sI u1 11)) ∧ ((¬ sI u1 11 = 0 → (∃ ed5 : Nat, (sR u1 0 = some ed5) ∧ ∃ (n7 : Nat) (f8 : Nat → Option Nat), (ed5 ∈ sL (pI u1 10 ((sI u1 10) + 1))) ∧ (sF (pI u1 10 ((sI u1 10) + 1)) ed5 = arrE G n7 f8) ∧ ((n7 : Int) < 2147483648) ∧ (0 ≤ p1) ∧ (0 ≤ p1 + 1) ∧ (0 ≤ (sI u1 11) - p1) ∧ (p1 + ((sI u1 11) - p1) ≤ (n7 : Int)) ∧ (p1 + 1 + ((sI u1 11) - p1) ≤ (n7 : Int)) ∧ (allBox G (pI u1 10 ((sI u1 10) + 1)) f8 p1 ((sI u1 11) - p1)) ∧ (∃ (n18 : Nat) (f19 : Nat → Option Nat), (ed5 ∈ sL (pF (pI u1 10 ((sI u1 10) + 1)) ed5 (arrE G n7 (va_cpy f8 f8 p1.toNat (p1 + 1).toNat ((sI u1 11) - p1).toNat)))) ∧ (sF (pF (pI u1 10 ((sI u1 10) + 1)) ed5 (arrE G n7 (va_cpy f8 f8 p1.toNat (p1 + 1).toNat ((sI u1 11) - p1).toNat))) ed5 = arrE G n18 f19) ∧ ((n18 : Int) < 2147483648) ∧ (p1 < (n18 : Int)) ∧ (∃ (q24 : Nat) (w25 : Int), (p2 = some q24) ∧ (isBox G (pF (pI u1 10 ((sI u1 10) + 1)) ed5 (arrE G n7 (va_cpy f8 f8 p1.toNat (p1 + 1).toNat ((sI u1 11) - p1).toNat))) q24 w25) ∧ post (pI (pF (pF (pI u1 10 ((sI u1 10) + 1)) ed5 (arrE G n7 (va_cpy f8 f8 p1.toNat (p1 + 1).toNat ((sI u1 11) - p1).toNat))) ed5 (arrE G n18 (va_up f19 p1.toNat p2))) 11 ((sI u1 11) + 1)))))) ∧
 (sI u1 11 = 0 → (∃ a29 b30 : Nat, (0 + a29 ≤ mc) ∧ (0 + b30 ≤ ms) ∧ w_Jx4a65c_grow_d5877 (fun (z28 : Option Nat) (u33 : St) => (∃ ed34 : Nat, (z28 = some ed34) ∧ ∃ (n36 : Nat) (f37 : Nat → Option Nat), (ed34 ∈ sL u33) ∧ (sF u33 ed34 = arrE G n36 f37) ∧ ((n36 : Int) < 2147483648) ∧ (0 ≤ p1) ∧ (0 ≤ p1 + 1) ∧ (0 ≤ (sI u1 11) - p1) ∧ (p1 + ((sI u1 11) - p1) ≤ (n36 : Int)) ∧ (p1 + 1 + ((sI u1 11) - p1) ≤ (n36 : Int)) ∧ (allBox G u33 f37 p1 ((sI u1 11) - p1)) ∧ (∃ (n47 : Nat) (f48 : Nat → Option Nat), (ed34 ∈ sL (pF u33 ed34 (arrE G n36 (va_cpy f37 f37 p1.toNat (p1 + 1).toNat ((sI u1 11) - p1).toNat)))) ∧ (sF (pF u33 ed34 (arrE G n36 (va_cpy f37 f37 p1.toNat (p1 + 1).toNat ((sI u1 11) - p1).toNat))) ed34 = arrE G n47 f48) ∧ ((n47 : Int) < 2147483648) ∧ (p1 < (n47 : Int)) ∧ (∃ (q53 : Nat) (w54 : Int), (p2 = some q53) ∧ (isBox G (pF u33 ed34 (arrE G n36 (va_cpy f37 f37 p1.toNat (p1 + 1).toNat ((sI u1 11) - p1).toNat))) q53 w54) ∧ post (pI (pF (pF u33 ed34 (arrE G n36 (va_cpy f37 f37 p1.toNat (p1 + 1).toNat ((sI u1 11) - p1).toNat))) ed34 (arrE G n47 (va_up f48 p1.toNat p2))) 11 ((sI u1 11) + 1)))))) a29 b30 G (pI u1 10 ((sI u1 10) + 1)))))) ∨
 (∃ ed57 : Nat, (sR u1 0 = some ed57) ∧ ∃ (n59 : Nat) (f60 : Nat → Option Nat), (ed57 ∈ sL (pI u1 10 ((sI u1 10) + 1))) ∧ (sF (pI u1 10 ((sI u1 10) + 1)) ed57 = arrE G n59 f60) ∧ ((n59 : Int) < 2147483648) ∧ (InR (sI u1 11)) ∧ (InR (n59 : Int)) ∧ ((¬ sI u1 11 = (n59 : Int) → (0 ≤ p1) ∧ (0 ≤ p1 + 1) ∧ (0 ≤ (sI u1 11) - p1) ∧ (p1 + ((sI u1 11) - p1) ≤ (n59 : Int)) ∧ (p1 + 1 + ((sI u1 11) - p1) ≤ (n59 : Int)) ∧ (allBox G (pI u1 10 ((sI u1 10) + 1)) f60 p1 ((sI u1 11) - p1)) ∧ (∃ (n73 : Nat) (f74 : Nat → Option Nat), (ed57 ∈ sL (pF (pI u1 10 ((sI u1 10) + 1)) ed57 (arrE G n59 (va_cpy f60 f60 p1.toNat (p1 + 1).toNat ((sI u1 11) - p1).toNat)))) ∧ (sF (pF (pI u1 10 ((sI u1 10) + 1)) ed57 (arrE G n59 (va_cpy f60 f60 p1.toNat (p1 + 1).toNat ((sI u1 11) - p1).toNat))) ed57 = arrE G n73 f74) ∧ ((n73 : Int) < 2147483648) ∧ (p1 < (n73 : Int)) ∧ (∃ (q79 : Nat) (w80 : Int), (p2 = some q79) ∧ (isBox G (pF (pI u1 10 ((sI u1 10) + 1)) ed57 (arrE G n59 (va_cpy f60 f60 p1.toNat (p1 + 1).toNat ((sI u1 11) - p1).toNat))) q79 w80) ∧ post (pI (pF (pF (pI u1 10 ((sI u1 10) + 1)) ed57 (arrE G n59 (va_cpy f60 f60 p1.toNat (p1 + 1).toNat ((sI u1 11) - p1).toNat))) ed57 (arrE G n73 (va_up f74 p1.toNat p2))) 11 ((sI u1 11) + 1))))) ∧
 (sI u1 11 = (n59 : Int) → (∃ a84 b85 : Nat, (0 + a84 ≤ mc) ∧ (0 + b85 ≤ ms) ∧ w_Jx4a65c_grow_d5877 (fun (z83 : Option Nat) (u88 : St) => (∃ ed89 : Nat, (z83 = some ed89) ∧ ∃ (n91 : Nat) (f92 : Nat → Option Nat), (ed89 ∈ sL u88) ∧ (sF u88 ed89 = arrE G n91 f92) ∧ ((n91 : Int) < 2147483648) ∧ (0 ≤ p1) ∧ (0 ≤ p1 + 1) ∧ (0 ≤ (sI u1 11) - p1) ∧ (p1 + ((sI u1 11) - p1) ≤ (n91 : Int)) ∧ (p1 + 1 + ((sI u1 11) - p1) ≤ (n91 : Int)) ∧ (allBox G u88 f92 p1 ((sI u1 11) - p1)) ∧ (∃ (n102 : Nat) (f103 : Nat → Option Nat), (ed89 ∈ sL (pF u88 ed89 (arrE G n91 (va_cpy f92 f92 p1.toNat (p1 + 1).toNat ((sI u1 11) - p1).toNat)))) ∧ (sF (pF u88 ed89 (arrE G n91 (va_cpy f92 f92 p1.toNat (p1 + 1).toNat ((sI u1 11) - p1).toNat))) ed89 = arrE G n102 f103) ∧ ((n102 : Int) < 2147483648) ∧ (p1 < (n102 : Int)) ∧ (∃ (q108 : Nat) (w109 : Int), (p2 = some q108) ∧ (isBox G (pF u88 ed89 (arrE G n91 (va_cpy f92 f92 p1.toNat (p1 + 1).toNat ((sI u1 11) - p1).toNat))) q108 w109) ∧ post (pI (pF (pF u88 ed89 (arrE G n91 (va_cpy f92 f92 p1.toNat (p1 + 1).toNat ((sI u1 11) - p1).toNat))) ed89 (arrE G n102 (va_up f103 p1.toNat p2))) 11 ((sI u1 11) + 1)))))) a84 b85 G (pI u1 10 ((sI u1 10) + 1)))))))) u0 p1)
abbrev rm_Jx4a65c_add_7a177 (mc ms : Nat) : Room := { frames := 10, cells := mc, slots := ms, locals := 293 }
set_option maxRecDepth 100000 in
set_option maxHeartbeats 4000000 in
theorem ct_Jx4a65c_add_7a177 {l : Launch} {G : Gr} {a : Nat → Nat} (mc ms : Nat) (u0 : St) (p1 : Int) (p2 : Option Nat) (post : St → Prop) (hw : w_Jx4a65c_add_7a177 post mc ms G u0 p1 p2) : CtV l G yJx4a65c_add_7a177 (ws_ yJx4a65c_add_7a177 cJx4a65c_add_7a177 5 (none)) (rm_Jx4a65c_add_7a177 mc ms) [.ref (a 5), zI p1, va_rf p2] (WC G a u0) mc ms (PoV (WC G a) post) := by
  refine CtV.of (by decide) (by simp [lg_sl, rf_cat, zI_cat, ref_cat]) ?_
  intro p e s m args below meth c ls X hr hlk K g h hl
  have hl : lv_has ls 5 [(0, .ref (a 5)), (1, zI p1), (2, va_rf p2)] := by simpa [lv_args, rf_cat, zI_cat, ref_cat] using hl
  obtain ⟨H, hH⟩ : ∃ H, H = s.heap := ⟨_, rfl⟩
  obtain ⟨locs, hL⟩ : ∃ L : List Loc, L = [] := ⟨_, rfl⟩
  replace h : HW G (va_A (WC G a u0) s.heap.size) s.heap (WC G a u0) H locs := by rw [hH, hL]; exact h
  suffices hg : W p l e (rm_Jx4a65c_add_7a177 mc ms) s m args below meth c H locs 0 0 (EndV G (WC G a u0) (PoV (WC G a) post) args s mc ms below) (F0 m 0 ls []) by rw [hH, hL] at hg; exact hg
  clear hH hL
  refine z_aload_n X hl 0 rfl rfl dJx4a65c_add_7a177_0 ?_
  refine z_iload_n X hl 1 rfl rfl dJx4a65c_add_7a177_1 ?_
  refine r_callVv (rest := []) X K g h (ct_Jx4a65c_rangeCheckForAdd_d00df u0 p1 _ hw) lk_Jx4a65c_135 5 rfl rfl ⟨rfl, rfl⟩ ⟨Nat.le_of_ble_eq_true rfl, Nat.le_of_ble_eq_true rfl⟩ rfl (lv_size hl) rfl (Nat.le_of_ble_eq_true rfl) dJx4a65c_add_7a177_2 ⟨(Nat.zero_le _), (Nat.zero_le _)⟩ (fun w' H locs hp h => ?_)
  obtain ⟨u1, rfl, hw⟩ := hp
  refine z_aload_n X hl 0 rfl rfl dJx4a65c_add_7a177_5 ?_
  refine z_dup X rfl dJx4a65c_add_7a177_6 ?_
  refine gC_Jx4a65c_modCount (x := sI u1 10) X K h rfl q_132 dJx4a65c_add_7a177_7 ?_
  refine z_iconst X dJx4a65c_add_7a177_10 ?_
  refine z_iadd X dJx4a65c_add_7a177_11 ?_
  refine pC_Jx4a65c_modCount X K h q_132 dJx4a65c_add_7a177_12 (fun H locs h => ?_)
  refine z_aload_n X hl 0 rfl rfl dJx4a65c_add_7a177_15 ?_
  refine gC_Jx4a65c_size (x := sI u1 11) X K h rfl q_130 dJx4a65c_add_7a177_16 ?_
  refine z_dup X rfl dJx4a65c_add_7a177_19 ?_
  refine z_istore_n (i := 3) (lv' := [(3, zI (sI u1 11)), (0, .ref (a 5)), (1, zI p1), (2, va_rf p2)]) X hl rfl (by decide) dJx4a65c_add_7a177_20 (by simp [List.filter, rf_cat, zI_cat, ref_cat]) (fun ls hl => ?_)
  refine z_aload_n X hl 1 rfl rfl dJx4a65c_add_7a177_21 ?_
  refine gC_Jx4a65c_elementData (r := sR u1 0) X K h rfl q_129 dJx4a65c_add_7a177_22 ?_
  refine z_dup X (rf_cat _) dJx4a65c_add_7a177_25 ?_
  refine z_astoreR (i := 4) (lv' := [(4, va_rf (sR u1 0)), (3, zI (sI u1 11)), (0, .ref (a 5)), (1, zI p1), (2, va_rf p2)]) X hl (by decide) dJx4a65c_add_7a177_26 rfl (fun ls hl => ?_)
  rcases hw with hw | hw
  · obtain ⟨c2, hw⟩ := hw
    refine r_aalen0 X g h c2 dJx4a65c_add_7a177_28 ?_
    obtain ⟨h3, hw⟩ := hw
    refine z_icmp_ne (tgt := 38) X h3 (by decide) dJx4a65c_add_7a177_29 (by decide) (fun c4 => ?_) (fun c4 => ?_)
    · replace hw := hw.1 c4
      refine z_aloadR X hl 0 rfl dJx4a65c_add_7a177_38 ?_
      refine z_iload_n X hl 3 rfl rfl dJx4a65c_add_7a177_40 ?_
      refine z_aloadR X hl 0 rfl dJx4a65c_add_7a177_41 ?_
      refine z_iload_n X hl 3 rfl rfl dJx4a65c_add_7a177_43 ?_
      refine z_iconst X dJx4a65c_add_7a177_44 ?_
      refine z_iadd X dJx4a65c_add_7a177_45 ?_
      refine z_iload_n X hl 1 rfl rfl dJx4a65c_add_7a177_46 ?_
      refine z_iload_n X hl 3 rfl rfl dJx4a65c_add_7a177_47 ?_
      refine z_isub X dJx4a65c_add_7a177_48 ?_
      obtain ⟨ed5, hr6, n7, f8, hL9, hF10, hn11, hw⟩ := hw
      obtain ⟨h12, h13, h14, h15, h16, h17, hw⟩ := hw
      refine r_acopy X K g h hr6 hL9 hF10 h12 h13 h14 h15 h16 hn11 h17 (lv_size hl) ⟨Nat.le_of_ble_eq_true rfl, Nat.le_of_ble_eq_true rfl⟩ dJx4a65c_add_7a177_49 (fun H locs h => ?_)
      refine z_aloadR X hl 0 rfl dJx4a65c_add_7a177_52 ?_
      refine z_iload_n X hl 3 rfl rfl dJx4a65c_add_7a177_54 ?_
      refine z_aloadR_n X hl 4 rfl rfl dJx4a65c_add_7a177_55 ?_
      obtain ⟨n18, f19, hL20, hF21, hn22, hw⟩ := hw
      obtain ⟨h23, hw⟩ := hw
      obtain ⟨q24, w25, hq26, hb27, hw⟩ := hw
      refine r_aastq X K g h hr6 hL20 hF21 h12 h23 hn22 hq26 hb27 dJx4a65c_add_7a177_56 (fun H locs h => ?_)
      refine z_aload_n X hl 2 rfl rfl dJx4a65c_add_7a177_57 ?_
      refine z_iload_n X hl 1 rfl rfl dJx4a65c_add_7a177_58 ?_
      refine z_iconst X dJx4a65c_add_7a177_59 ?_
      refine z_iadd X dJx4a65c_add_7a177_60 ?_
      refine pC_Jx4a65c_size X K h q_130 dJx4a65c_add_7a177_61 (fun H locs h => ?_)
      exact r_vret X hr hlk K h (Nat.zero_le _) (Nat.zero_le _) dJx4a65c_add_7a177_64 ⟨_, rfl, hw⟩
    · replace hw := hw.2 c4
      refine z_aload_n X hl 2 rfl rfl dJx4a65c_add_7a177_32 ?_
      obtain ⟨a29, b30, hk31, hs32, hw⟩ := hw
      refine r_callVq (rest := []) X K g h (ct_Jx4a65c_grow_d5877 a29 b30 (pI u1 10 ((sI u1 10) + 1)) _ hw) lk_Jx4a65c_129 5 rfl rfl ⟨rfl, rfl⟩ ⟨Nat.le_of_ble_eq_true rfl, Nat.le_of_ble_eq_true rfl⟩ rfl (lv_size hl) rfl (Nat.le_of_ble_eq_true rfl) dJx4a65c_add_7a177_33 ⟨hk31, hs32⟩ (fun z28 w' H locs hp h => ?_)
      obtain ⟨u33, rfl, hw⟩ := hp
      refine z_astoreR (i := 4) (lv' := [(4, va_rf z28), (3, zI (sI u1 11)), (0, .ref (a 5)), (1, zI p1), (2, va_rf p2)]) X hl (by decide) dJx4a65c_add_7a177_36 rfl (fun ls hl => ?_)
      refine z_aloadR X hl 0 rfl dJx4a65c_add_7a177_38 ?_
      refine z_iload_n X hl 3 rfl rfl dJx4a65c_add_7a177_40 ?_
      refine z_aloadR X hl 0 rfl dJx4a65c_add_7a177_41 ?_
      refine z_iload_n X hl 3 rfl rfl dJx4a65c_add_7a177_43 ?_
      refine z_iconst X dJx4a65c_add_7a177_44 ?_
      refine z_iadd X dJx4a65c_add_7a177_45 ?_
      refine z_iload_n X hl 1 rfl rfl dJx4a65c_add_7a177_46 ?_
      refine z_iload_n X hl 3 rfl rfl dJx4a65c_add_7a177_47 ?_
      refine z_isub X dJx4a65c_add_7a177_48 ?_
      obtain ⟨ed34, hr35, n36, f37, hL38, hF39, hn40, hw⟩ := hw
      obtain ⟨h41, h42, h43, h44, h45, h46, hw⟩ := hw
      refine r_acopy X K g h hr35 hL38 hF39 h41 h42 h43 h44 h45 hn40 h46 (lv_size hl) ⟨Nat.le_of_ble_eq_true rfl, Nat.le_of_ble_eq_true rfl⟩ dJx4a65c_add_7a177_49 (fun H locs h => ?_)
      refine z_aloadR X hl 0 rfl dJx4a65c_add_7a177_52 ?_
      refine z_iload_n X hl 3 rfl rfl dJx4a65c_add_7a177_54 ?_
      refine z_aloadR_n X hl 4 rfl rfl dJx4a65c_add_7a177_55 ?_
      obtain ⟨n47, f48, hL49, hF50, hn51, hw⟩ := hw
      obtain ⟨h52, hw⟩ := hw
      obtain ⟨q53, w54, hq55, hb56, hw⟩ := hw
      refine r_aastq X K g h hr35 hL49 hF50 h41 h52 hn51 hq55 hb56 dJx4a65c_add_7a177_56 (fun H locs h => ?_)
      refine z_aload_n X hl 2 rfl rfl dJx4a65c_add_7a177_57 ?_
      refine z_iload_n X hl 1 rfl rfl dJx4a65c_add_7a177_58 ?_
      refine z_iconst X dJx4a65c_add_7a177_59 ?_
      refine z_iadd X dJx4a65c_add_7a177_60 ?_
      refine pC_Jx4a65c_size X K h q_130 dJx4a65c_add_7a177_61 (fun H locs h => ?_)
      exact r_vret X hr hlk K h hk31 hs32 dJx4a65c_add_7a177_64 ⟨_, rfl, hw⟩
  · obtain ⟨ed57, hr58, n59, f60, hL61, hF62, hn63, hw⟩ := hw
    refine r_aalen X K h hr58 hL61 hF62 dJx4a65c_add_7a177_28 ?_
    obtain ⟨h64, h65, hw⟩ := hw
    refine z_icmp_ne (tgt := 38) X h64 h65 dJx4a65c_add_7a177_29 (by decide) (fun c66 => ?_) (fun c66 => ?_)
    · replace hw := hw.1 c66
      refine z_aloadR X hl 0 rfl dJx4a65c_add_7a177_38 ?_
      refine z_iload_n X hl 3 rfl rfl dJx4a65c_add_7a177_40 ?_
      refine z_aloadR X hl 0 rfl dJx4a65c_add_7a177_41 ?_
      refine z_iload_n X hl 3 rfl rfl dJx4a65c_add_7a177_43 ?_
      refine z_iconst X dJx4a65c_add_7a177_44 ?_
      refine z_iadd X dJx4a65c_add_7a177_45 ?_
      refine z_iload_n X hl 1 rfl rfl dJx4a65c_add_7a177_46 ?_
      refine z_iload_n X hl 3 rfl rfl dJx4a65c_add_7a177_47 ?_
      refine z_isub X dJx4a65c_add_7a177_48 ?_
      obtain ⟨h67, h68, h69, h70, h71, h72, hw⟩ := hw
      refine r_acopy X K g h hr58 hL61 hF62 h67 h68 h69 h70 h71 hn63 h72 (lv_size hl) ⟨Nat.le_of_ble_eq_true rfl, Nat.le_of_ble_eq_true rfl⟩ dJx4a65c_add_7a177_49 (fun H locs h => ?_)
      refine z_aloadR X hl 0 rfl dJx4a65c_add_7a177_52 ?_
      refine z_iload_n X hl 3 rfl rfl dJx4a65c_add_7a177_54 ?_
      refine z_aloadR_n X hl 4 rfl rfl dJx4a65c_add_7a177_55 ?_
      obtain ⟨n73, f74, hL75, hF76, hn77, hw⟩ := hw
      obtain ⟨h78, hw⟩ := hw
      obtain ⟨q79, w80, hq81, hb82, hw⟩ := hw
      refine r_aastq X K g h hr58 hL75 hF76 h67 h78 hn77 hq81 hb82 dJx4a65c_add_7a177_56 (fun H locs h => ?_)
      refine z_aload_n X hl 2 rfl rfl dJx4a65c_add_7a177_57 ?_
      refine z_iload_n X hl 1 rfl rfl dJx4a65c_add_7a177_58 ?_
      refine z_iconst X dJx4a65c_add_7a177_59 ?_
      refine z_iadd X dJx4a65c_add_7a177_60 ?_
      refine pC_Jx4a65c_size X K h q_130 dJx4a65c_add_7a177_61 (fun H locs h => ?_)
      exact r_vret X hr hlk K h (Nat.zero_le _) (Nat.zero_le _) dJx4a65c_add_7a177_64 ⟨_, rfl, hw⟩
    · replace hw := hw.2 c66
      refine z_aload_n X hl 2 rfl rfl dJx4a65c_add_7a177_32 ?_
      obtain ⟨a84, b85, hk86, hs87, hw⟩ := hw
      refine r_callVq (rest := []) X K g h (ct_Jx4a65c_grow_d5877 a84 b85 (pI u1 10 ((sI u1 10) + 1)) _ hw) lk_Jx4a65c_129 5 rfl rfl ⟨rfl, rfl⟩ ⟨Nat.le_of_ble_eq_true rfl, Nat.le_of_ble_eq_true rfl⟩ rfl (lv_size hl) rfl (Nat.le_of_ble_eq_true rfl) dJx4a65c_add_7a177_33 ⟨hk86, hs87⟩ (fun z83 w' H locs hp h => ?_)
      obtain ⟨u88, rfl, hw⟩ := hp
      refine z_astoreR (i := 4) (lv' := [(4, va_rf z83), (3, zI (sI u1 11)), (0, .ref (a 5)), (1, zI p1), (2, va_rf p2)]) X hl (by decide) dJx4a65c_add_7a177_36 rfl (fun ls hl => ?_)
      refine z_aloadR X hl 0 rfl dJx4a65c_add_7a177_38 ?_
      refine z_iload_n X hl 3 rfl rfl dJx4a65c_add_7a177_40 ?_
      refine z_aloadR X hl 0 rfl dJx4a65c_add_7a177_41 ?_
      refine z_iload_n X hl 3 rfl rfl dJx4a65c_add_7a177_43 ?_
      refine z_iconst X dJx4a65c_add_7a177_44 ?_
      refine z_iadd X dJx4a65c_add_7a177_45 ?_
      refine z_iload_n X hl 1 rfl rfl dJx4a65c_add_7a177_46 ?_
      refine z_iload_n X hl 3 rfl rfl dJx4a65c_add_7a177_47 ?_
      refine z_isub X dJx4a65c_add_7a177_48 ?_
      obtain ⟨ed89, hr90, n91, f92, hL93, hF94, hn95, hw⟩ := hw
      obtain ⟨h96, h97, h98, h99, h100, h101, hw⟩ := hw
      refine r_acopy X K g h hr90 hL93 hF94 h96 h97 h98 h99 h100 hn95 h101 (lv_size hl) ⟨Nat.le_of_ble_eq_true rfl, Nat.le_of_ble_eq_true rfl⟩ dJx4a65c_add_7a177_49 (fun H locs h => ?_)
      refine z_aloadR X hl 0 rfl dJx4a65c_add_7a177_52 ?_
      refine z_iload_n X hl 3 rfl rfl dJx4a65c_add_7a177_54 ?_
      refine z_aloadR_n X hl 4 rfl rfl dJx4a65c_add_7a177_55 ?_
      obtain ⟨n102, f103, hL104, hF105, hn106, hw⟩ := hw
      obtain ⟨h107, hw⟩ := hw
      obtain ⟨q108, w109, hq110, hb111, hw⟩ := hw
      refine r_aastq X K g h hr90 hL104 hF105 h96 h107 hn106 hq110 hb111 dJx4a65c_add_7a177_56 (fun H locs h => ?_)
      refine z_aload_n X hl 2 rfl rfl dJx4a65c_add_7a177_57 ?_
      refine z_iload_n X hl 1 rfl rfl dJx4a65c_add_7a177_58 ?_
      refine z_iconst X dJx4a65c_add_7a177_59 ?_
      refine z_iadd X dJx4a65c_add_7a177_60 ?_
      refine pC_Jx4a65c_size X K h q_130 dJx4a65c_add_7a177_61 (fun H locs h => ?_)
      exact r_vret X hr hlk K h hk86 hs87 dJx4a65c_add_7a177_64 ⟨_, rfl, hw⟩
def w_Jx4a65c_fastRemove_b59b0 (post : St → Prop) (G : Gr) (u0 : St) (p1 : Option Nat) (p2 : Int) : Prop :=
(InR ((sI u0 11) - 1)) ∧ (InR p2) ∧ (((sI u0 11) - 1 ≤ p2 → (∃ ed4 : Nat, (p1 = some ed4) ∧ ∃ (n6 : Nat) (f7 : Nat → Option Nat), (ed4 ∈ sL (pI (pI u0 10 ((sI u0 10) + 1)) 11 ((sI u0 11) - 1))) ∧ (sF (pI (pI u0 10 ((sI u0 10) + 1)) 11 ((sI u0 11) - 1)) ed4 = arrE G n6 f7) ∧ ((n6 : Int) < 2147483648) ∧ (0 ≤ (sI u0 11) - 1) ∧ ((sI u0 11) - 1 < (n6 : Int)) ∧ post (pF (pI (pI u0 10 ((sI u0 10) + 1)) 11 ((sI u0 11) - 1)) ed4 (arrE G n6 (va_up f7 ((sI u0 11) - 1).toNat none))))) ∧
 (¬ (sI u0 11) - 1 ≤ p2 → (∃ ed13 : Nat, (p1 = some ed13) ∧ ∃ (n15 : Nat) (f16 : Nat → Option Nat), (ed13 ∈ sL (pI u0 10 ((sI u0 10) + 1))) ∧ (sF (pI u0 10 ((sI u0 10) + 1)) ed13 = arrE G n15 f16) ∧ ((n15 : Int) < 2147483648) ∧ (0 ≤ p2 + 1) ∧ (0 ≤ p2) ∧ (0 ≤ ((sI u0 11) - 1) - p2) ∧ (p2 + 1 + (((sI u0 11) - 1) - p2) ≤ (n15 : Int)) ∧ (p2 + (((sI u0 11) - 1) - p2) ≤ (n15 : Int)) ∧ (allBox G (pI u0 10 ((sI u0 10) + 1)) f16 (p2 + 1) (((sI u0 11) - 1) - p2)) ∧ (∃ (n26 : Nat) (f27 : Nat → Option Nat), (ed13 ∈ sL (pI (pF (pI u0 10 ((sI u0 10) + 1)) ed13 (arrE G n15 (va_cpy f16 f16 (p2 + 1).toNat p2.toNat (((sI u0 11) - 1) - p2).toNat))) 11 ((sI u0 11) - 1))) ∧ (sF (pI (pF (pI u0 10 ((sI u0 10) + 1)) ed13 (arrE G n15 (va_cpy f16 f16 (p2 + 1).toNat p2.toNat (((sI u0 11) - 1) - p2).toNat))) 11 ((sI u0 11) - 1)) ed13 = arrE G n26 f27) ∧ ((n26 : Int) < 2147483648) ∧ (0 ≤ (sI u0 11) - 1) ∧ ((sI u0 11) - 1 < (n26 : Int)) ∧ post (pF (pI (pF (pI u0 10 ((sI u0 10) + 1)) ed13 (arrE G n15 (va_cpy f16 f16 (p2 + 1).toNat p2.toNat (((sI u0 11) - 1) - p2).toNat))) 11 ((sI u0 11) - 1)) ed13 (arrE G n26 (va_up f27 ((sI u0 11) - 1).toNat none)))))))
abbrev rm_Jx4a65c_fastRemove_b59b0 : Room := { frames := 1, cells := 0, slots := 0, locals := 120 }
set_option maxRecDepth 100000 in
set_option maxHeartbeats 4000000 in
theorem ct_Jx4a65c_fastRemove_b59b0 {l : Launch} {G : Gr} {a : Nat → Nat} (u0 : St) (p1 : Option Nat) (p2 : Int) (post : St → Prop) (hw : w_Jx4a65c_fastRemove_b59b0 post G u0 p1 p2) : CtV l G yJx4a65c_fastRemove_b59b0 (ws_ yJx4a65c_fastRemove_b59b0 cJx4a65c_fastRemove_b59b0 4 (none)) rm_Jx4a65c_fastRemove_b59b0 [.ref (a 5), va_rf p1, zI p2] (WC G a u0) 0 0 (PoV (WC G a) post) := by
  refine CtV.of (by decide) (by simp [lg_sl, rf_cat, zI_cat, ref_cat]) ?_
  intro p e s m args below meth c ls X hr hlk K g h hl
  have hl : lv_has ls 4 [(0, .ref (a 5)), (1, va_rf p1), (2, zI p2)] := by simpa [lv_args, rf_cat, zI_cat, ref_cat] using hl
  obtain ⟨H, hH⟩ : ∃ H, H = s.heap := ⟨_, rfl⟩
  obtain ⟨locs, hL⟩ : ∃ L : List Loc, L = [] := ⟨_, rfl⟩
  replace h : HW G (va_A (WC G a u0) s.heap.size) s.heap (WC G a u0) H locs := by rw [hH, hL]; exact h
  suffices hg : W p l e rm_Jx4a65c_fastRemove_b59b0 s m args below meth c H locs 0 0 (EndV G (WC G a u0) (PoV (WC G a) post) args s 0 0 below) (F0 m 0 ls []) by rw [hH, hL] at hg; exact hg
  clear hH hL
  refine z_aload_n X hl 0 rfl rfl dJx4a65c_fastRemove_b59b0_0 ?_
  refine z_dup X rfl dJx4a65c_fastRemove_b59b0_1 ?_
  refine gC_Jx4a65c_modCount (x := sI u0 10) X K h rfl q_132 dJx4a65c_fastRemove_b59b0_2 ?_
  refine z_iconst X dJx4a65c_fastRemove_b59b0_5 ?_
  refine z_iadd X dJx4a65c_fastRemove_b59b0_6 ?_
  refine pC_Jx4a65c_modCount X K h q_132 dJx4a65c_fastRemove_b59b0_7 (fun H locs h => ?_)
  refine z_aload_n X hl 0 rfl rfl dJx4a65c_fastRemove_b59b0_10 ?_
  refine gC_Jx4a65c_size (x := sI u0 11) X K h rfl q_130 dJx4a65c_fastRemove_b59b0_11 ?_
  refine z_iconst X dJx4a65c_fastRemove_b59b0_14 ?_
  refine z_isub X dJx4a65c_fastRemove_b59b0_15 ?_
  refine z_dup X rfl dJx4a65c_fastRemove_b59b0_16 ?_
  refine z_istore_n (i := 3) (lv' := [(3, zI ((sI u0 11) - 1)), (0, .ref (a 5)), (1, va_rf p1), (2, zI p2)]) X hl rfl (by decide) dJx4a65c_fastRemove_b59b0_17 rfl (fun ls hl => ?_)
  refine z_iload_n X hl 3 rfl rfl dJx4a65c_fastRemove_b59b0_18 ?_
  obtain ⟨h1, h2, hw⟩ := hw
  refine z_icmp_le (tgt := 34) X h1 h2 dJx4a65c_fastRemove_b59b0_19 (by decide) (fun c3 => ?_) (fun c3 => ?_)
  · replace hw := hw.1 c3
    refine z_aloadR_n X hl 2 rfl rfl dJx4a65c_fastRemove_b59b0_34 ?_
    refine z_aload_n X hl 1 rfl rfl dJx4a65c_fastRemove_b59b0_35 ?_
    refine z_iload_n X hl 0 rfl rfl dJx4a65c_fastRemove_b59b0_36 ?_
    refine z_dup_x1 X rfl rfl dJx4a65c_fastRemove_b59b0_37 ?_
    refine pC_Jx4a65c_size X K h q_130 dJx4a65c_fastRemove_b59b0_38 (fun H locs h => ?_)
    refine z_null X dJx4a65c_fastRemove_b59b0_41 ?_
    obtain ⟨ed4, hr5, n6, f7, hL8, hF9, hn10, hw⟩ := hw
    obtain ⟨h11, h12, hw⟩ := hw
    refine r_aastN X K h hr5 hL8 hF9 h11 h12 hn10 dJx4a65c_fastRemove_b59b0_42 (fun H locs h => ?_)
    exact r_vret X hr hlk K h (Nat.le_refl _) (Nat.le_refl _) dJx4a65c_fastRemove_b59b0_43 ⟨_, rfl, hw⟩
  · replace hw := hw.2 c3
    refine z_aloadR_n X hl 2 rfl rfl dJx4a65c_fastRemove_b59b0_22 ?_
    refine z_iload_n X hl 3 rfl rfl dJx4a65c_fastRemove_b59b0_23 ?_
    refine z_iconst X dJx4a65c_fastRemove_b59b0_24 ?_
    refine z_iadd X dJx4a65c_fastRemove_b59b0_25 ?_
    refine z_aloadR_n X hl 2 rfl rfl dJx4a65c_fastRemove_b59b0_26 ?_
    refine z_iload_n X hl 3 rfl rfl dJx4a65c_fastRemove_b59b0_27 ?_
    refine z_iload_n X hl 0 rfl rfl dJx4a65c_fastRemove_b59b0_28 ?_
    refine z_iload_n X hl 3 rfl rfl dJx4a65c_fastRemove_b59b0_29 ?_
    refine z_isub X dJx4a65c_fastRemove_b59b0_30 ?_
    obtain ⟨ed13, hr14, n15, f16, hL17, hF18, hn19, hw⟩ := hw
    obtain ⟨h20, h21, h22, h23, h24, h25, hw⟩ := hw
    refine r_acopy X K g h hr14 hL17 hF18 h20 h21 h22 h23 h24 hn19 h25 (lv_size hl) ⟨Nat.le_of_ble_eq_true rfl, Nat.le_of_ble_eq_true rfl⟩ dJx4a65c_fastRemove_b59b0_31 (fun H locs h => ?_)
    refine z_aloadR_n X hl 2 rfl rfl dJx4a65c_fastRemove_b59b0_34 ?_
    refine z_aload_n X hl 1 rfl rfl dJx4a65c_fastRemove_b59b0_35 ?_
    refine z_iload_n X hl 0 rfl rfl dJx4a65c_fastRemove_b59b0_36 ?_
    refine z_dup_x1 X rfl rfl dJx4a65c_fastRemove_b59b0_37 ?_
    refine pC_Jx4a65c_size X K h q_130 dJx4a65c_fastRemove_b59b0_38 (fun H locs h => ?_)
    refine z_null X dJx4a65c_fastRemove_b59b0_41 ?_
    obtain ⟨n26, f27, hL28, hF29, hn30, hw⟩ := hw
    obtain ⟨h31, h32, hw⟩ := hw
    refine r_aastN X K h hr14 hL28 hF29 h31 h32 hn30 dJx4a65c_fastRemove_b59b0_42 (fun H locs h => ?_)
    exact r_vret X hr hlk K h (Nat.le_refl _) (Nat.le_refl _) dJx4a65c_fastRemove_b59b0_43 ⟨_, rfl, hw⟩
def w_Jx4a65c_remove_915e3 (post : Option Nat → St → Prop) (G : Gr) (u0 : St) (p1 : Int) : Prop :=
(w_J15_checkIndex_7cf53 (fun (z1 : Int) => (∃ ed2 : Nat, (sR u0 0 = some ed2) ∧ ∃ (n4 : Nat) (f5 : Nat → Option Nat), (ed2 ∈ sL u0) ∧ (sF u0 ed2 = arrE G n4 f5) ∧ ((n4 : Int) < 2147483648) ∧ (0 ≤ p1) ∧ (p1 < (n4 : Int)) ∧ (w_Jx4a65c_fastRemove_b59b0 (fun  (u11 : St) => post (f5 p1.toNat) u11) G u0 (sR u0 0) p1))) p1 (sI u0 11))
abbrev rm_Jx4a65c_remove_915e3 : Room := { frames := 2, cells := 0, slots := 0, locals := 143 }
set_option maxRecDepth 100000 in
set_option maxHeartbeats 4000000 in
theorem ct_Jx4a65c_remove_915e3 {l : Launch} {G : Gr} {a : Nat → Nat} (u0 : St) (p1 : Int) (post : Option Nat → St → Prop) (hw : w_Jx4a65c_remove_915e3 post G u0 p1) : CtQ l G yJx4a65c_remove_915e3 (ws_ yJx4a65c_remove_915e3 cJx4a65c_remove_915e3 4 (some (.object "java/lang/Object"))) rm_Jx4a65c_remove_915e3 [.ref (a 5), zI p1] (WC G a u0) 0 0 (PoR (WC G a) post) := by
  refine CtQ.of (by decide) (Nat.le_of_ble_eq_true rfl) ?_
  intro p e s m args below meth c ls X hr hlk K g h hl
  have hl : lv_has ls 4 [(0, .ref (a 5)), (1, zI p1)] := hl
  obtain ⟨H, hH⟩ : ∃ H, H = s.heap := ⟨_, rfl⟩
  obtain ⟨locs, hL⟩ : ∃ L : List Loc, L = [] := ⟨_, rfl⟩
  replace h : HW G (va_A (WC G a u0) s.heap.size) s.heap (WC G a u0) H locs := by rw [hH, hL]; exact h
  suffices hg : W p l e rm_Jx4a65c_remove_915e3 s m args below meth c H locs 0 0 (EndQ G (WC G a u0) (PoR (WC G a) post) args s 0 0 below) (F0 m 0 ls []) by rw [hH, hL] at hg; exact hg
  clear hH hL
  refine z_iload_n X hl 1 rfl rfl dJx4a65c_remove_915e3_0 ?_
  refine z_aload_n X hl 0 rfl rfl dJx4a65c_remove_915e3_1 ?_
  refine gC_Jx4a65c_size (x := sI u0 11) X K h rfl q_130 dJx4a65c_remove_915e3_2 ?_
  refine r_callSi (rest := []) X K g h (ct_J15_checkIndex_7cf53 (w := WC G a u0) p1 (sI u0 11) _ hw) lk_Jx4a65c_118 ⟨rfl, rfl⟩ ⟨Nat.le_of_ble_eq_true rfl, Nat.le_of_ble_eq_true rfl⟩ rfl (lv_size hl) rfl (Nat.le_of_ble_eq_true rfl) dJx4a65c_remove_915e3_5 ⟨Nat.le_of_ble_eq_true rfl, Nat.le_of_ble_eq_true rfl⟩ (fun z1 w' H locs hp h => ?_)
  obtain ⟨rfl, hw⟩ := hp
  refine z_pop X rfl dJx4a65c_remove_915e3_8 ?_
  refine z_aload_n X hl 0 rfl rfl dJx4a65c_remove_915e3_9 ?_
  refine gC_Jx4a65c_elementData (r := sR u0 0) X K h rfl q_129 dJx4a65c_remove_915e3_10 ?_
  refine z_astoreR_n (i := 2) (lv' := [(2, va_rf (sR u0 0)), (0, .ref (a 5)), (1, zI p1)]) X hl rfl (by decide) dJx4a65c_remove_915e3_13 rfl (fun ls hl => ?_)
  refine z_aloadR_n X hl 0 rfl rfl dJx4a65c_remove_915e3_14 ?_
  refine z_iload_n X hl 2 rfl rfl dJx4a65c_remove_915e3_15 ?_
  obtain ⟨ed2, hr3, n4, f5, hL6, hF7, hn8, hw⟩ := hw
  obtain ⟨h9, h10, hw⟩ := hw
  refine r_aaldq X K h hr3 hL6 hF7 h9 h10 hn8 dJx4a65c_remove_915e3_16 ?_
  refine z_astoreR_n (i := 3) (lv' := [(3, va_rf (f5 p1.toNat)), (2, va_rf (sR u0 0)), (0, .ref (a 5)), (1, zI p1)]) X hl rfl (by decide) dJx4a65c_remove_915e3_17 (by simp [List.filter, rf_cat, zI_cat, ref_cat]) (fun ls hl => ?_)
  refine z_aload_n X hl 2 rfl rfl dJx4a65c_remove_915e3_18 ?_
  refine z_aloadR_n X hl 1 rfl rfl dJx4a65c_remove_915e3_19 ?_
  refine z_iload_n X hl 3 rfl rfl dJx4a65c_remove_915e3_20 ?_
  refine r_callVv (rest := []) X K g h (ct_Jx4a65c_fastRemove_b59b0 u0 (sR u0 0) p1 _ hw) lk_Jx4a65c_144 5 rfl rfl ⟨rfl, rfl⟩ ⟨Nat.le_of_ble_eq_true rfl, Nat.le_of_ble_eq_true rfl⟩ rfl (lv_size hl) rfl (Nat.le_of_ble_eq_true rfl) dJx4a65c_remove_915e3_21 ⟨Nat.le_of_ble_eq_true rfl, Nat.le_of_ble_eq_true rfl⟩ (fun w' H locs hp h => ?_)
  obtain ⟨u11, rfl, hw⟩ := hp
  refine z_aloadR_n X hl 0 rfl rfl dJx4a65c_remove_915e3_24 ?_
  exact r_aret X hr (Or.inl ⟨_, rfl⟩) hlk K h (Nat.le_refl _) (Nat.le_refl _) dJx4a65c_remove_915e3_25 ⟨_, rfl, hw⟩
def b_Jx4a65c_clear_da8c8_27 (post : St → Prop) (G : Gr) (y1_27 : Option Nat) (y2_27 : Int) (K27 : St × Int → Prop) (u1 : St) (x3_2 : Int) : Prop :=
(InR x3_2) ∧ (InR y2_27) ∧ ((y2_27 ≤ x3_2 → post u1) ∧
 (¬ y2_27 ≤ x3_2 → (∃ ed6 : Nat, (y1_27 = some ed6) ∧ ∃ (n8 : Nat) (f9 : Nat → Option Nat), (ed6 ∈ sL u1) ∧ (sF u1 ed6 = arrE G n8 f9) ∧ ((n8 : Int) < 2147483648) ∧ (0 ≤ x3_2) ∧ (x3_2 < (n8 : Int)) ∧ K27 ((pF u1 ed6 (arrE G n8 (va_up f9 x3_2.toNat none))), x3_2 + 1))))
def B_Jx4a65c_clear_da8c8_27 (post : St → Prop) (G : Gr) (y1_27 : Option Nat) (y2_27 : Int) : (St × Int → Prop) → St × Int → Prop := fun K t => b_Jx4a65c_clear_da8c8_27 post G y1_27 y2_27 K t.1 t.2
def w_Jx4a65c_clear_da8c8 (post : St → Prop) (G : Gr) (u0 : St) : Prop :=
(∃ n : Nat, Lp (B_Jx4a65c_clear_da8c8_27 post G (sR u0 0) (sI u0 11)) n ((pI (pI u0 10 ((sI u0 10) + 1)) 11 0), 0))
abbrev rm_Jx4a65c_clear_da8c8 : Room := { frames := 0, cells := 0, slots := 0, locals := 0 }
set_option maxRecDepth 100000 in
set_option maxHeartbeats 4000000 in
theorem ct_Jx4a65c_clear_da8c8 {l : Launch} {G : Gr} {a : Nat → Nat} (u0 : St) (post : St → Prop) (hw : w_Jx4a65c_clear_da8c8 post G u0) : CtV l G yJx4a65c_clear_da8c8 (ws_ yJx4a65c_clear_da8c8 cJx4a65c_clear_da8c8 4 (none)) rm_Jx4a65c_clear_da8c8 [.ref (a 5)] (WC G a u0) 0 0 (PoV (WC G a) post) := by
  refine CtV.of (by decide) (Nat.le_of_ble_eq_true rfl) ?_
  intro p e s m args below meth c ls X hr hlk K g h hl
  have hl : lv_has ls 4 [(0, .ref (a 5))] := hl
  obtain ⟨H, hH⟩ : ∃ H, H = s.heap := ⟨_, rfl⟩
  obtain ⟨locs, hL⟩ : ∃ L : List Loc, L = [] := ⟨_, rfl⟩
  replace h : HW G (va_A (WC G a u0) s.heap.size) s.heap (WC G a u0) H locs := by rw [hH, hL]; exact h
  suffices hg : W p l e rm_Jx4a65c_clear_da8c8 s m args below meth c H locs 0 0 (EndV G (WC G a u0) (PoV (WC G a) post) args s 0 0 below) (F0 m 0 ls []) by rw [hH, hL] at hg; exact hg
  clear hH hL
  refine z_aload_n X hl 0 rfl rfl dJx4a65c_clear_da8c8_0 ?_
  refine z_dup X rfl dJx4a65c_clear_da8c8_1 ?_
  refine gC_Jx4a65c_modCount (x := sI u0 10) X K h rfl q_132 dJx4a65c_clear_da8c8_2 ?_
  refine z_iconst X dJx4a65c_clear_da8c8_5 ?_
  refine z_iadd X dJx4a65c_clear_da8c8_6 ?_
  refine pC_Jx4a65c_modCount X K h q_132 dJx4a65c_clear_da8c8_7 (fun H locs h => ?_)
  refine z_aload_n X hl 0 rfl rfl dJx4a65c_clear_da8c8_10 ?_
  refine gC_Jx4a65c_elementData (r := sR u0 0) X K h rfl q_129 dJx4a65c_clear_da8c8_11 ?_
  refine z_astoreR_n (i := 1) (lv' := [(1, va_rf (sR u0 0)), (0, .ref (a 5))]) X hl rfl (by decide) dJx4a65c_clear_da8c8_14 rfl (fun ls hl => ?_)
  refine z_aload_n X hl 1 rfl rfl dJx4a65c_clear_da8c8_15 ?_
  refine gC_Jx4a65c_size (x := sI u0 11) X K h rfl q_130 dJx4a65c_clear_da8c8_16 ?_
  refine z_istore_n (i := 2) (lv' := [(2, zI (sI u0 11)), (1, va_rf (sR u0 0)), (0, .ref (a 5))]) X hl rfl (by decide) dJx4a65c_clear_da8c8_19 (by simp [List.filter, rf_cat, zI_cat, ref_cat]) (fun ls hl => ?_)
  refine z_aload_n X hl 2 rfl rfl dJx4a65c_clear_da8c8_20 ?_
  refine z_iconst X dJx4a65c_clear_da8c8_21 ?_
  refine z_dup_x1 X rfl rfl dJx4a65c_clear_da8c8_22 ?_
  refine pC_Jx4a65c_size X K h q_130 dJx4a65c_clear_da8c8_23 (fun H locs h => ?_)
  refine z_istore_n (i := 3) (lv' := [(3, zI 0), (2, zI (sI u0 11)), (1, va_rf (sR u0 0)), (0, .ref (a 5))]) X hl rfl (by decide) dJx4a65c_clear_da8c8_26 rfl (fun ls hl => ?_)
  obtain ⟨n27, hw⟩ := hw
  have key27 : ∀ (n : Nat) (t : St × Int) (H : Heap) (locs : List Loc) (ls : Array Slot), Lp (B_Jx4a65c_clear_da8c8_27 post G (sR u0 0) (sI u0 11)) n t → HW G (va_A (WC G a u0) s.heap.size) s.heap (WC G a t.1) H locs → lv_has ls 4 [(1, va_rf (sR u0 0)), (2, zI (sI u0 11)), (3, zI t.2)] → W p l e rm_Jx4a65c_clear_da8c8 s m args below meth c H locs 0 0 (EndV G (WC G a u0) (PoV (WC G a) post) args s 0 0 below) (F0 m 27 ls []) := by
    intro n
    induction n with
    | zero =>
      intro t H locs ls hw
      exact hw.elim
    | succ n27 ih27 =>
      rintro ⟨u1, x3_2⟩ H locs ls hw h hl
      replace hw : b_Jx4a65c_clear_da8c8_27 post G (sR u0 0) (sI u0 11) (Lp (B_Jx4a65c_clear_da8c8_27 post G (sR u0 0) (sI u0 11)) n27) u1 x3_2 := hw
      refine z_iload_n X hl 2 rfl rfl dJx4a65c_clear_da8c8_27 ?_
      refine z_iload_n X hl 1 rfl rfl dJx4a65c_clear_da8c8_28 ?_
      obtain ⟨h3, h4, hw⟩ := hw
      refine z_icmp_ge (tgt := 42) X h3 h4 dJx4a65c_clear_da8c8_29 (by decide) (fun c5 => ?_) (fun c5 => ?_)
      · replace hw := hw.1 c5
        exact r_vret X hr hlk K h (Nat.le_refl _) (Nat.le_refl _) dJx4a65c_clear_da8c8_42 ⟨_, rfl, hw⟩
      · replace hw := hw.2 c5
        refine z_aloadR_n X hl 0 rfl rfl dJx4a65c_clear_da8c8_32 ?_
        refine z_iload_n X hl 2 rfl rfl dJx4a65c_clear_da8c8_33 ?_
        refine z_null X dJx4a65c_clear_da8c8_34 ?_
        obtain ⟨ed6, hr7, n8, f9, hL10, hF11, hn12, hw⟩ := hw
        obtain ⟨h13, h14, hw⟩ := hw
        refine r_aastN X K h hr7 hL10 hF11 h13 h14 hn12 dJx4a65c_clear_da8c8_35 (fun H locs h => ?_)
        refine z_iinc (lv' := [(3, zI (x3_2 + 1)), (1, va_rf (sR u0 0)), (2, zI (sI u0 11))]) X hl 2 rfl (by decide) dJx4a65c_clear_da8c8_36 rfl (fun ls hl => ?_)
        refine z_goto (tgt := 27) X dJx4a65c_clear_da8c8_39 (by decide) ?_
        exact ih27 ((pF u1 ed6 (arrE G n8 (va_up f9 x3_2.toNat none))), x3_2 + 1) H locs ls hw h (lv_sub hl [1, 2, 0] rfl)
  exact key27 n27 ((pI (pI u0 10 ((sI u0 10) + 1)) 11 0), 0) H locs ls hw h (lv_sub hl [2, 1, 0] rfl)
