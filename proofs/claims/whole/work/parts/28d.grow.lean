/-! the list's growing -/
theorem zI_cat (x : Int) : (zI x).category = 1 := rfl
theorem ref_cat (q : Nat) : (Value.ref q).category = 1 := rfl
theorem q_386 : Cond.classLink RX4 30 "java/lang/Integer" ∈ lw_all := lwa 386 (by decide +kernel) (by decide +kernel)
theorem q_min7 : Cond.methodLink RJ7 304 Lib.Math.min.name ∈ lw_all := lwa 615 (by decide +kernel) (by decide +kernel)
theorem q_ac7 : Cond.methodLink RJ7 150 arraycopyName ∈ lw_all := lwa 616 (by decide +kernel) (by decide +kernel)
theorem q_cl7 : Cond.classLink RJ7 110 "[Ljava/lang/Object;" ∈ lw_all := lwa 860 (by decide +kernel) (by decide +kernel)
theorem q_co7 : Cond.classLink RJ7 2 "java/lang/Object" ∈ lw_all := lwa 862 (by decide +kernel) (by decide +kernel)
theorem q_gc1 : Cond.methodLink RJ7 86 ⟨"java/lang/Object", "getClass", "()Ljava/lang/Class;"⟩ ∈ lw_all := lwa 835 (by decide +kernel) (by decide +kernel)
theorem q_gc2 : Cond.instanceMethod ⟨"java/lang/Object", "getClass", "()Ljava/lang/Class;"⟩ ∈ lw_all := lwa 836 (by decide +kernel) (by decide +kernel)
theorem q_gc3 : Cond.selects "[Ljava/lang/Object;" ⟨"java/lang/Object", "getClass", "()Ljava/lang/Class;"⟩ ⟨"java/lang/Object", "getClass", "()Ljava/lang/Class;"⟩ ∈ lw_all := lwa 1772 (by decide +kernel) (by decide +kernel)
theorem q_gc4 : Cond.native ⟨"java/lang/Object", "getClass", "()Ljava/lang/Class;"⟩ ∈ lw_all := lwa 856 (by decide +kernel) (by decide +kernel)
theorem q_maxA : Cond.methodLink RJx4a65c 79 Lib.Math.max.name ∈ lw_all := lwa 863 (by decide +kernel) (by decide +kernel)
theorem q_clL : Cond.classLink RJx4a65c 7 "java/lang/Object" ∈ lw_all := lwa 864 (by decide +kernel) (by decide +kernel)
set_option maxRecDepth 100000 in
set_option maxHeartbeats 4000000 in
/-- Arrays.copyOf(array, length, class) -/
theorem ct_copyOf3 {l : Launch} {G : Gr} {a : Nat → Nat} (mc ms : Nat) (u : St) (ed n n2 : Nat) (f : Nat → Option Nat) (hL : ed ∈ sL u) (hF : sF u ed = arrE G n f) (hn : n ≤ n2) (hn2 : n2 ≤ 100000) (hb : allBox G u f 0 n) (hm : 1 ≤ mc) (hs : n2 ≤ ms) : CtQ l G yJ7_copyOf_6403c (ws_ yJ7_copyOf_6403c cJ7_copyOf_6403c 4 (some (.array (.object "java/lang/Object")))) { frames := 2, cells := mc, slots := ms, locals := 150 } [.ref ed, zI n2, .ref (G.2.2.1 256)] (WC G a u) mc ms (PoR (WC G a) (fun z u' => ∃ q : Nat, q ∉ sL u ∧ z = some q ∧ u' = pN u q (arrE G n2 (va_cpy f (fun _ => none) 0 0 n)))) := by
  refine CtQ.of (by decide) (Nat.le_of_ble_eq_true rfl) ?_
  intro p e s m args below meth c ls X hr hlk K g h hl
  have hl : lv_has ls 4 [(0, .ref ed), (1, zI n2), (2, .ref (G.2.2.1 256))] := hl
  refine z_aload_n X hl 2 rfl rfl dJ7_copyOf_6403c_0 ?_
  refine va_ldcM X.1 X.2.1 X.2.2.2.1 (X.2.2.2.2 _ q_cl7) g.2.2.2.2.2.1 dJ7_copyOf_6403c_1 ?_
  refine lv_acmp_ne (rx := some (G.2.2.1 256)) (ry := some (G.2.2.1 256)) (tgt := 13) X.1 X.2.1 dJ7_copyOf_6403c_3 (by decide) (fun q9 => absurd rfl q9) (fun _ => ?_)
  refine z_iload_n X hl 1 rfl rfl dJ7_copyOf_6403c_6 ?_
  refine r_newO (N := n2) X K g h rfl hn2 q_co7 ⟨by show 0 + 1 ≤ mc; omega, by show 0 + n2 ≤ ms; omega⟩ dJ7_copyOf_6403c_7 (fun q H hq h => ?_)
  refine z_goto (tgt := 24) X dJ7_copyOf_6403c_10 (by decide) ?_
  refine z_astore_n (i := 3) (lv' := [(3, .ref q), (0, .ref ed), (1, zI n2), (2, .ref (G.2.2.1 256))]) X hl rfl (by decide) dJ7_copyOf_6403c_24 rfl (fun ls hl => ?_)
  have hne : ed ≠ q := fun e9 => hq (e9 ▸ hL)
  have hL1 : ed ∈ sL (pN u q (arrE G n2 (fun _ => none))) := List.mem_append_left _ hL
  have hF1 : sF (pN u q (arrE G n2 (fun _ => none))) ed = arrE G n f := (if_neg hne).trans hF
  have hL2 : q ∈ sL (pN u q (arrE G n2 (fun _ => none))) := List.mem_append_right _ List.mem_cons_self
  have hF2 : sF (pN u q (arrE G n2 (fun _ => none))) q = arrE G n2 (fun _ => none) := if_pos rfl
  have hb1 : allBox G (pN u q (arrE G n2 (fun _ => none))) f 0 n := fun j j0 j1 y hy => by
    obtain ⟨v, hv⟩ := hb j j0 j1 y hy
    refine ⟨v, ?_⟩
    rcases hv with ⟨a1, a2⟩ | a1
    · exact Or.inl ⟨List.mem_append_left _ a1, (if_neg (fun (e9 : y = q) => hq (e9 ▸ a1))).trans a2⟩
    · exact Or.inr a1
  refine z_aload_n X hl 1 rfl rfl dJ7_copyOf_6403c_25 ?_
  refine z_iconst X dJ7_copyOf_6403c_26 ?_
  refine z_aload_n X hl 0 rfl rfl dJ7_copyOf_6403c_27 ?_
  refine z_iconst X dJ7_copyOf_6403c_28 ?_
  refine z_aload_n X hl 1 rfl rfl dJ7_copyOf_6403c_29 ?_
  refine r_aalen (r := some ed) X K h rfl hL1 hF1 dJ7_copyOf_6403c_30 ?_
  refine z_iload_n X hl 2 rfl rfl dJ7_copyOf_6403c_31 ?_
  refine z_mmin X ⟨by omega, by omega⟩ ⟨by omega, by omega⟩ q_min7 (lv_size hl) ⟨Nat.le_of_ble_eq_true rfl, Nat.le_of_ble_eq_true rfl⟩ ⟨by show 0 + 1 ≤ mc; omega, by show 0 + n2 ≤ ms; omega⟩ dJ7_copyOf_6403c_32 ?_
  refine z_top (show min (n : Int) n2 = n by omega) ?_
  refine r_acopy2 (r := some ed) X q_ac7 K g h rfl hL1 hF1 hL2 hF2 (by omega) (by omega) (by omega) (by omega) (by omega) (by omega) (by omega) hb1 (lv_size hl) ⟨Nat.le_of_ble_eq_true rfl, Nat.le_of_ble_eq_true rfl⟩ dJ7_copyOf_6403c_35 (fun H locs h => ?_)
  refine z_aload_n X hl 0 rfl rfl dJ7_copyOf_6403c_38 ?_
  refine r_aret (z := some q) X hr (Or.inr ⟨_, rfl⟩) hlk K h (by omega) (by omega) dJ7_copyOf_6403c_39 ⟨_, rfl, q, hq, rfl, ?_⟩
  show (u.1, u.2.1, u.2.2.1, u.2.2.2.1 ++ [q], va_up (va_up u.2.2.2.2 q _) q _) = _
  rw [bx_uu, Int.toNat_natCast]
  rfl
theorem lk_J7_300 : LkS RJ7 300 yJ7_copyOf_6403c cJ7_copyOf_6403c 4 (some (.array (.object "java/lang/Object"))) 3 := LkS.of (lwa_all (L := [Cond.methodLink RJ7 300 yJ7_copyOf_6403c]) (by decide +kernel) _ List.mem_cons_self) (lwa_all (L := [Cond.static yJ7_copyOf_6403c]) (by decide +kernel) _ List.mem_cons_self) (lwa_all (L := [Cond.initialized yJ7_copyOf_6403c.cls]) (by decide +kernel) _ List.mem_cons_self) (lwa_all (L := [Cond.code yJ7_copyOf_6403c cJ7_copyOf_6403c 4 (some (.array (.object "java/lang/Object")))]) (by decide +kernel) _ List.mem_cons_self) (by decide +kernel)
theorem lk_A_66 : LkS RJx4a65c 66 yJ7_copyOf_1904c cJ7_copyOf_1904c 2 (some (.array (.object "java/lang/Object"))) 2 := LkS.of (lwa_all (L := [Cond.methodLink RJx4a65c 66 yJ7_copyOf_1904c]) (by decide +kernel) _ List.mem_cons_self) (lwa_all (L := [Cond.static yJ7_copyOf_1904c]) (by decide +kernel) _ List.mem_cons_self) (lwa_all (L := [Cond.initialized yJ7_copyOf_1904c.cls]) (by decide +kernel) _ List.mem_cons_self) (lwa_all (L := [Cond.code yJ7_copyOf_1904c cJ7_copyOf_1904c 2 (some (.array (.object "java/lang/Object")))]) (by decide +kernel) _ List.mem_cons_self) (by decide +kernel)
set_option maxRecDepth 100000 in
set_option maxHeartbeats 4000000 in
/-- Arrays.copyOf(array, length) -/
theorem ct_copyOf2 {l : Launch} {G : Gr} {a : Nat → Nat} (mc ms : Nat) (u : St) (ed n n2 : Nat) (f : Nat → Option Nat) (hL : ed ∈ sL u) (hF : sF u ed = arrE G n f) (hn : n ≤ n2) (hn2 : n2 ≤ 100000) (hb : allBox G u f 0 n) (hm : 1 ≤ mc) (hs : n2 ≤ ms) : CtQ l G yJ7_copyOf_1904c (ws_ yJ7_copyOf_1904c cJ7_copyOf_1904c 2 (some (.array (.object "java/lang/Object")))) { frames := 3, cells := mc, slots := ms, locals := 180 } [.ref ed, zI n2] (WC G a u) mc ms (PoR (WC G a) (fun z u' => ∃ q : Nat, q ∉ sL u ∧ z = some q ∧ u' = pN u q (arrE G n2 (va_cpy f (fun _ => none) 0 0 n)))) := by
  refine CtQ.of (by decide) (Nat.le_of_ble_eq_true rfl) ?_
  intro p e s m args below meth c ls X hr hlk K g h hl
  have hl : lv_has ls 2 [(0, .ref ed), (1, zI n2)] := hl
  refine z_aload_n X hl 0 rfl rfl dJ7_copyOf_1904c_0 ?_
  refine z_iload_n X hl 1 rfl rfl dJ7_copyOf_1904c_1 ?_
  refine z_aload_n X hl 0 rfl rfl dJ7_copyOf_1904c_2 ?_
  refine va_getC X.1 X.2.1 (by rw [X.2.2.1]; exact (lv_size hl).symm) X.2.2.2.1 (X.2.2.2.2 _ q_gc1) (va_Nw.use rfl (g.1.2.1 _ (by decide))) (X.2.2.2.2 _ q_gc3) (X.2.2.2.2 _ q_gc2) (X.2.2.2.2 _ q_gc4) g.2.2.2.2.2.1 (arr_recv K h hL hF) (Nat.le_of_ble_eq_true rfl) (Nat.le_of_ble_eq_true rfl) dJ7_copyOf_1904c_3 ?_
  refine r_callSq (rest := []) X K g h (ct_copyOf3 mc ms u ed n n2 f hL hF hn hn2 hb hm hs) lk_J7_300 ⟨rfl, rfl⟩ ⟨Nat.le_of_ble_eq_true rfl, Nat.le_of_ble_eq_true rfl⟩ rfl (lv_size hl) rfl (Nat.le_of_ble_eq_true rfl) dJ7_copyOf_1904c_6 ⟨by show 0 + mc ≤ mc; omega, by show 0 + ms ≤ ms; omega⟩ (fun z w' H locs hp h => ?_)
  obtain ⟨u', rfl, hp⟩ := hp
  exact r_aret X hr (Or.inr ⟨_, rfl⟩) hlk K h (by omega) (by omega) dJ7_copyOf_1904c_9 ⟨_, rfl, hp⟩
def w_Jx4a65c_grow_92f84 (post : Option Nat → St → Prop) (mc ms : Nat) (G : Gr) (u : St) (p1 : Int) : Prop :=
  (sR u 0 = some G.2.2.2.2 ∧ 0 ≤ p1 ∧ p1 ≤ 10 ∧ 1 ≤ mc ∧ 10 ≤ ms ∧ ∀ q : Nat, q ∉ sL u → post (some q) (pR (pN u q (arrE G 10 (fun _ => none))) 0 (some q))) ∨
  (∃ (ed n : Nat) (f : Nat → Option Nat), sR u 0 = some ed ∧ ed ∈ sL u ∧ sF u ed = arrE G n f ∧ 2 ≤ n ∧ n ≤ 1000 ∧ p1 = (n : Int) + 1 ∧ 1 ≤ mc ∧ n + n / 2 ≤ ms ∧ allBox G u f 0 n ∧ ∀ q : Nat, q ∉ sL u → post (some q) (pR (pN u q (arrE G (n + n / 2) (va_cpy f (fun _ => none) 0 0 n))) 0 (some q)))
abbrev rm_Jx4a65c_grow_92f84 (mc ms : Nat) : Room := { frames := 8, cells := mc, slots := ms, locals := 250 }
set_option maxRecDepth 100000 in
set_option maxHeartbeats 4000000 in
theorem ct_Jx4a65c_grow_92f84 {l : Launch} {G : Gr} {a : Nat → Nat} (mc ms : Nat) (u : St) (p1 : Int) (post : Option Nat → St → Prop) (hw : w_Jx4a65c_grow_92f84 post mc ms G u p1) : CtQ l G yJx4a65c_grow_92f84 (ws_ yJx4a65c_grow_92f84 cJx4a65c_grow_92f84 4 (some (.array (.object "java/lang/Object")))) (rm_Jx4a65c_grow_92f84 mc ms) [.ref (a 5), zI p1] (WC G a u) mc ms (PoR (WC G a) post) := by
  refine CtQ.of (by decide) (Nat.le_of_ble_eq_true rfl) ?_
  intro p e s m args below meth c ls X hr hlk K g h hl
  have hl : lv_has ls 4 [(0, .ref (a 5)), (1, zI p1)] := hl
  have hS0 := h.2.2.1
  refine z_aload_n X hl 0 rfl rfl dJx4a65c_grow_92f84_0 ?_
  refine gC_Jx4a65c_elementData (r := sR u 0) X K h rfl q_129 dJx4a65c_grow_92f84_1 ?_
  rcases hw with ⟨hte, h0, h10, hm, hs, hw⟩ | ⟨ed, n, f, hed, hL, hF, hn2, hn, hp1, hm, hs, hb, hw⟩
  · refine r_aalen0 X g h hte dJx4a65c_grow_92f84_4 ?_
    refine z_istore_n (i := 2) (lv' := [(2, zI 0), (0, .ref (a 5)), (1, zI p1)]) X hl rfl (by decide) dJx4a65c_grow_92f84_5 rfl (fun ls hl => ?_)
    refine z_iload_n X hl 0 rfl rfl dJx4a65c_grow_92f84_6 ?_
    refine z_if_gt (tgt := 20) X (by decide) dJx4a65c_grow_92f84_7 (by decide) (fun c1 => absurd c1 (by decide)) (fun _ => ?_)
    refine z_aload_n X hl 1 rfl rfl dJx4a65c_grow_92f84_10 ?_
    refine gC_Jx4a65c_elementData (r := sR u 0) X K h rfl q_129 dJx4a65c_grow_92f84_11 ?_
    refine va_gets X.1 X.2.1 g.2.2.2.1 hS0 X.2.2.2.1 (X.2.2.2.2 _ q_127) (fun _ h9 => h9) dJx4a65c_grow_92f84_14 ?_
    rw [hte]
    refine lv_acmp_eq (rx := some G.2.2.2.2) (ry := some G.2.2.2.2) (tgt := 45) X.1 X.2.1 dJx4a65c_grow_92f84_17 (by decide) (fun _ => ?_) (fun q9 => absurd rfl q9)
    refine z_aload_n X hl 1 rfl rfl dJx4a65c_grow_92f84_45 ?_
    refine z_bipush (v := 10) X dJx4a65c_grow_92f84_46 (by decide) ?_
    refine z_iload_n X hl 2 rfl rfl dJx4a65c_grow_92f84_48 ?_
    refine z_mmax X (by decide) ⟨by omega, by omega⟩ q_maxA (lv_size hl) ⟨Nat.le_of_ble_eq_true rfl, Nat.le_of_ble_eq_true rfl⟩ ⟨Nat.zero_le _, Nat.zero_le _⟩ dJx4a65c_grow_92f84_49 ?_
    refine r_newO (N := 10) X K g h (by omega) (by omega) q_clL ⟨by show 0 + 1 ≤ mc; omega, by show 0 + 10 ≤ ms; omega⟩ dJx4a65c_grow_92f84_52 (fun q H hq h => ?_)
    refine z_dup_x1 X rfl rfl dJx4a65c_grow_92f84_55 ?_
    refine pC_Jx4a65c_elementData (r := some q) X K h q_129 dJx4a65c_grow_92f84_56 (fun H locs h => ?_)
    exact r_aret (z := some q) X hr (Or.inr ⟨_, rfl⟩) hlk K h (by omega) (by omega) dJx4a65c_grow_92f84_59 ⟨_, rfl, hw q hq⟩
  · refine r_aalen X K h hed hL hF dJx4a65c_grow_92f84_4 ?_
    refine z_istore_n (i := 2) (lv' := [(2, zI n), (0, .ref (a 5)), (1, zI p1)]) X hl rfl (by decide) dJx4a65c_grow_92f84_5 rfl (fun ls hl => ?_)
    refine z_iload_n X hl 0 rfl rfl dJx4a65c_grow_92f84_6 ?_
    refine z_if_gt (tgt := 20) X ⟨by omega, by omega⟩ dJx4a65c_grow_92f84_7 (by decide) (fun _ => ?_) (fun c1 => absurd c1 (by omega))
    refine z_iload_n X hl 0 rfl rfl dJx4a65c_grow_92f84_20 ?_
    refine z_iload_n X hl 2 rfl rfl dJx4a65c_grow_92f84_21 ?_
    refine z_iload_n X hl 0 rfl rfl dJx4a65c_grow_92f84_22 ?_
    refine z_isub X dJx4a65c_grow_92f84_23 ?_
    refine z_iload_n X hl 0 rfl rfl dJx4a65c_grow_92f84_24 ?_
    refine z_iconst X dJx4a65c_grow_92f84_25 ?_
    refine z_ishr X ⟨by omega, by omega⟩ (by decide) (by decide) dJx4a65c_grow_92f84_26 ?_
    have e1 : (n : Int) / ((2 ^ (1 : Int).toNat : Nat) : Int) = (n / 2 : Nat) := by
      rw [show ((2 ^ (1 : Int).toNat : Nat) : Int) = 2 from rfl]
      omega
    rw [e1]
    have hw8 : w_J8_newLength_cabcc (fun z => z = ((n + n / 2 : Nat) : Int)) (n : Int) (p1 - n) ((n / 2 : Nat) : Int) := by
      refine ⟨⟨by omega, by omega⟩, ⟨by omega, by omega⟩, ⟨by omega, by omega⟩, fun c1 => by omega, fun c1 => ⟨fun c2 => by omega, fun c2 => ?_⟩⟩
      show _ = _
      omega
    refine r_callSi (rest := []) X K g h (ct_J8_newLength_cabcc (w := WC G a u) _ _ _ _ hw8) lk_Jx4a65c_73 ⟨rfl, rfl⟩ ⟨Nat.le_of_ble_eq_true rfl, Nat.le_of_ble_eq_true rfl⟩ rfl (lv_size hl) rfl (Nat.le_of_ble_eq_true rfl) dJx4a65c_grow_92f84_27 ⟨Nat.zero_le _, Nat.zero_le _⟩ (fun z w' H locs hp h => ?_)
    obtain ⟨rfl, rfl⟩ := hp
    refine z_istore_n (i := 3) (lv' := [(3, zI ((n + n / 2 : Nat) : Int)), (2, zI n), (0, .ref (a 5)), (1, zI p1)]) X hl rfl (by decide) dJx4a65c_grow_92f84_30 rfl (fun ls hl => ?_)
    refine z_aload_n X hl 2 rfl rfl dJx4a65c_grow_92f84_31 ?_
    refine z_aload_n X hl 2 rfl rfl dJx4a65c_grow_92f84_32 ?_
    refine gC_Jx4a65c_elementData (r := some ed) X K h hed q_129 dJx4a65c_grow_92f84_33 ?_
    refine z_iload_n X hl 0 rfl rfl dJx4a65c_grow_92f84_36 ?_
    refine r_callSq (rest := [.ref (a 5)]) X K g h (ct_copyOf2 mc ms u ed n (n + n / 2) f hL hF (by omega) (by omega) hb hm hs) lk_A_66 ⟨rfl, rfl⟩ ⟨Nat.le_of_ble_eq_true rfl, Nat.le_of_ble_eq_true rfl⟩ rfl (lv_size hl) rfl (Nat.le_of_ble_eq_true rfl) dJx4a65c_grow_92f84_37 ⟨by show 0 + 0 + mc ≤ mc; omega, by show 0 + 0 + ms ≤ ms; omega⟩ (fun z w' H locs hp h => ?_)
    obtain ⟨u', rfl, q, hq, rfl, rfl⟩ := hp
    refine z_dup_x1 X rfl rfl dJx4a65c_grow_92f84_40 ?_
    refine pC_Jx4a65c_elementData (r := some q) X K h q_129 dJx4a65c_grow_92f84_41 (fun H locs h => ?_)
    exact r_aret (z := some q) X hr (Or.inr ⟨_, rfl⟩) hlk K h (by omega) (by omega) dJx4a65c_grow_92f84_44 ⟨_, rfl, hw q hq⟩
