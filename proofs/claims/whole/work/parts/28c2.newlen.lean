/-! the list asks for its new length -/
def w_J8_newLength_cabcc (post : Int → Prop) (p0 : Int) (p1 : Int) (p2 : Int) : Prop :=
(InR p1) ∧ (InR p2) ∧ (InR (p0 + (max p1 p2))) ∧ ((p0 + (max p1 p2) ≤ 0 → False) ∧
 (¬ p0 + (max p1 p2) ≤ 0 → ((2147483639 < p0 + (max p1 p2) → False) ∧
 (¬ 2147483639 < p0 + (max p1 p2) → post (p0 + (max p1 p2))))))
abbrev rm_J8_newLength_cabcc : Room := { frames := 1, cells := 0, slots := 0, locals := 21 }
set_option maxRecDepth 100000 in
set_option maxHeartbeats 4000000 in
theorem ct_J8_newLength_cabcc {l : Launch} {G : Gr} {w : va_W} (p0 : Int) (p1 : Int) (p2 : Int) (post : Int → Prop) (hw : w_J8_newLength_cabcc post p0 p1 p2) : Ct l G yJ8_newLength_cabcc (ws_ yJ8_newLength_cabcc cJ8_newLength_cabcc 4 (some .int)) rm_J8_newLength_cabcc [zI p0, zI p1, zI p2] w 0 0 (PoP w post) := by
  refine Ct.of (by decide) (Nat.le_of_ble_eq_true rfl) ?_
  intro p e s m args below meth c ls X hr hlk K g h hl
  have hl : lv_has ls 4 [(0, zI p0), (1, zI p1), (2, zI p2)] := hl
  obtain ⟨H, hH⟩ : ∃ H, H = s.heap := ⟨_, rfl⟩
  obtain ⟨locs, hL⟩ : ∃ L : List Loc, L = [] := ⟨_, rfl⟩
  replace h : HW G (va_A w s.heap.size) s.heap (w) H locs := by rw [hH, hL]; exact h
  suffices hg : W p l e rm_J8_newLength_cabcc s m args below meth c H locs 0 0 (EndI G w (PoP w post) args s 0 0 below) (F0 m 0 ls []) by rw [hH, hL] at hg; exact hg
  clear hH hL
  refine z_iload_n X hl 0 rfl rfl dJ8_newLength_cabcc_0 ?_
  refine z_iload_n X hl 1 rfl rfl dJ8_newLength_cabcc_1 ?_
  refine z_iload_n X hl 2 rfl rfl dJ8_newLength_cabcc_2 ?_
  obtain ⟨h1, h2, hw⟩ := hw
  refine z_mmax X h1 h2 q_597 (lv_size hl) ⟨Nat.le_of_ble_eq_true rfl, Nat.le_of_ble_eq_true rfl⟩ ⟨Nat.le_of_ble_eq_true rfl, Nat.le_of_ble_eq_true rfl⟩ dJ8_newLength_cabcc_3 ?_
  refine z_iadd X dJ8_newLength_cabcc_6 ?_
  refine z_istore_n (i := 3) (lv' := [(3, zI (p0 + (max p1 p2))), (0, zI p0), (1, zI p1), (2, zI p2)]) X hl rfl (by decide) dJ8_newLength_cabcc_7 rfl (fun ls hl => ?_)
  refine z_iconst X dJ8_newLength_cabcc_8 ?_
  refine z_iload_n X hl 0 rfl rfl dJ8_newLength_cabcc_9 ?_
  obtain ⟨h3, hw⟩ := hw
  refine z_icmp_ge (tgt := 21) X (by decide) h3 dJ8_newLength_cabcc_10 (by decide) (fun c4 => ?_) (fun c4 => ?_)
  · replace hw := hw.1 c4
    refine z_iload_n X hl 1 rfl rfl dJ8_newLength_cabcc_21 ?_
    refine z_iload_n X hl 2 rfl rfl dJ8_newLength_cabcc_22 ?_
    exact hw.elim
  · replace hw := hw.2 c4
    refine z_iload_n X hl 0 rfl rfl dJ8_newLength_cabcc_13 ?_
    refine z_ldc (z := 2147483639) X dJ8_newLength_cabcc_14 q_600 rfl ?_
    refine z_icmp_gt (tgt := 21) X h3 (by decide) dJ8_newLength_cabcc_16 (by decide) (fun c5 => ?_) (fun c5 => ?_)
    · replace hw := hw.1 c5
      refine z_iload_n X hl 1 rfl rfl dJ8_newLength_cabcc_21 ?_
      refine z_iload_n X hl 2 rfl rfl dJ8_newLength_cabcc_22 ?_
      exact hw.elim
    · replace hw := hw.2 c5
      refine z_iload_n X hl 0 rfl rfl dJ8_newLength_cabcc_19 ?_
      exact r_iret X hr hlk K h (Nat.le_refl _) (Nat.le_refl _) dJ8_newLength_cabcc_20 ⟨rfl, hw⟩
