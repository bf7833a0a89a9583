/-! what holds between the class's state and the reference's after k calls -/
def Ot (u v : St) : Prop := sI v 6 = sI u 14 ∧ 0 ≤ sI u 14 ∧ sI u 14 ≤ 300 ∧ (∀ j, 0 ≤ j → j < sI u 14 → sA v 6 j = sA u 6 j ∧ 1 ≤ sA u 6 j ∧ sA u 6 j ≤ 255) ∧ sI v 11 = sI u 1 ∧ sI v 12 = sI u 2 ∧ sI v 14 = sI u 3 ∧ 0 ≤ sI u 3 ∧ sI u 3 ≤ 701 ∧ (∀ j, 0 ≤ j → j < sI u 3 → sA v 14 j = sA u 12 j)
def IJ (G : Gr) (k : Nat) (u v : St) : Prop := ∃ g : Sg, VS g ∧ gA g ≤ 300 * k ∧ AJ G u g ∧ MJ v g ∧ Ot u v
def Inv (G : Gr) (k c sl : Nat) (u v : St) : Prop := c ≤ 141 + 500 * k ∧ sl ≤ 10226 + 1000 * k ∧ IJ G k u v
theorem mj_0 {v : St} {g : Sg} {z : Int} (h : MJ v g) : MJ (pI v 0 z) g := h
theorem ot_0 {u v : St} {z : Int} (h : Ot u v) : Ot u (pI v 0 z) := h
theorem ot_x {u u' v v' : St} (h : Ot u v) (hu : Fx u u') (hv : FxM v v') : Ot u' v' := by
  obtain ⟨h1, h2, h3, h4, h5, h6, h7, h8, h9, h10⟩ := h
  unfold Ot
  rw [hu.1 14 (by omega), hu.1 1 (by omega), hu.1 2 (by omega), hu.1 3 (by omega), hu.2 6 (by omega), hu.2 12 (by omega), hv.1 6 (by omega), hv.1 11 (by omega), hv.1 12 (by omega), hv.1 14 (by omega), hv.2 6 (by omega), hv.2 14 (by omega)]
  exact ⟨h1, h2, h3, h4, h5, h6, h7, h8, h9, h10⟩
theorem IJ.up {G : Gr} {k : Nat} {u v : St} (h : IJ G k u v) : IJ G (k + 1) u v := by
  obtain ⟨g, h1, h2, h3, h4, h5⟩ := h
  exact ⟨g, h1, by omega, h3, h4, h5⟩
theorem inv_up {G : Gr} (k c sl : Nat) (u v : St) (h : Inv G k c sl u v) : Inv G (k + 1) c sl u v := ⟨by have := h.1; omega, by have := h.2.1; omega, h.2.2.up⟩
theorem inv_r {G : Gr} {k c sl : Nat} {u v : St} {z : Int} (h : Inv G k c sl u v) : Inv G (k + 1) c sl u (pI v 0 z) := inv_up k c sl u (pI v 0 z) h
theorem inv_x {G : Gr} {k c sl : Nat} {u u' v v' : St} (h : Inv G k c sl u v) (hI : IJ G (k + 1) u' v') : Inv G (k + 1) c sl u' v' := ⟨by have := h.1; omega, by have := h.2.1; omega, hI⟩
theorem inv_c {G : Gr} {k c sl : Nat} {u u' v v' : St} (h : Inv G k c sl u v) (hI : IJ G (k + 1) u' v') : Inv G (k + 1) (c + 500) (sl + 1000) u' v' := ⟨by have := h.1; omega, by have := h.2.1; omega, hI⟩
theorem inv_m {G : Gr} {k c sl : Nat} {u v : St} (h : Inv G k c sl u v) (hk : k < 512) : c + 500 ≤ 601024 ∧ sl + 1000 ≤ 7293034 := ⟨by have := h.1; omega, by have := h.2.1; omega⟩
theorem act_on {G : Gr} {wc : (Int → St → Prop) → Nat → Nat → St → Prop} {wm : (Int → St → Prop) → St → Prop} {g : Sg} {k : Nat} {u v : St} (h : Act G wc wm g) (hV : VS g) (hk : gA g ≤ 300 * k) (hA : AJ G u g) (hM : MJ v g) (hO : Ot u v) {Q : Int → Int → St → St → Prop} (hQ : ∀ z u' v', sI v' 0 = 0 → IJ G (k + 1) u' v' → Q z z u' v') : ∃ a b : Nat, a ≤ 200 ∧ b ≤ 700 ∧ wc (fun z u' => wm (fun z' v' => Q z' z u' v') (pI v 0 0)) a b u := by
  obtain ⟨z, g', a, b, hV', hz, hC, hd, hc, hm⟩ := h
  have c0 := hV.2.2.2.2.2.1
  have c1 := hV'.2.2.2.2.2.2
  refine ⟨a, b, by omega, by omega, hc u _ hA (fun u' A F => hm (pI v 0 0) _ (mj_0 hM) (fun v' M F' => hQ z u' v' ?_ ⟨g', hV', by omega, A, M, ot_x (ot_0 hO) F F'⟩))⟩
  exact F'.1 0 (by omega)
theorem st_0 (G : Gr) : St_0 G (Inv G) := by
  intro k c sl u v hk hI
  obtain ⟨g, hV, hA, hu, hv, hO⟩ := hI.2.2
  obtain ⟨a, b, -, -, h⟩ := act_on (act_next (G := G) hV) hV hA hu hv hO (Q := fun z' z u' v' => z' = z ∧ Inv G (k + 1) c sl u' v') (fun z u' v' _ h => ⟨rfl, inv_x hI h⟩)
  exact h
theorem st_1 (G : Gr) : St_1 G (Inv G) := by
  intro k c sl u v hk hI
  obtain ⟨g, hV, hA, hu, hv, hO⟩ := hI.2.2
  obtain ⟨a, b, -, -, h⟩ := act_on (act_prev (G := G) hV) hV hA hu hv hO (Q := fun z' z u' v' => z' = z ∧ Inv G (k + 1) c sl u' v') (fun z u' v' _ h => ⟨rfl, inv_x hI h⟩)
  exact h
theorem st_2 (G : Gr) : St_2 G (Inv G) := by
  intro k c sl u v x hk hI hx
  have hm := inv_m hI hk
  obtain ⟨g, hV, hA, hu, hv, hO⟩ := hI.2.2
  refine ⟨500, 1000, hm.1, hm.2, 1, 6, by omega, by omega, require_ok hx (by omega) (by omega) (fun hW => ?_) (fun hW => ?_)⟩
  · obtain ⟨a, b, ha, hb, h⟩ := act_on (act_insert (G := G) hW hV) hV hA hu hv hO (Q := fun z' z u' v' => sI v' 0 = 0 ∧ z' = z ∧ Inv G (k + 1) (c + 500) (sl + 1000) u' v') (fun z u' v' h0 h => ⟨h0, rfl, inv_c hI h⟩)
    obtain ⟨z, g', a', b', hV', hz, hC, hd, hc, hmm⟩ := act_insert (G := G) hW hV
    have c0 := hV.2.2.2.2.2.1
    have c1 := hV'.2.2.2.2.2.2
    refine ⟨a', b', by omega, by omega, hc u _ hu (fun u' A F => noWord_ok rfl hx (fun _ => ⟨by decide, fun _ => hmm (pI v 0 0) _ (mj_0 hv) (fun v' M F' => ⟨F'.1 0 (by omega), rfl, inv_c hI ⟨g', hV', by omega, A, M, ot_x (ot_0 hO) F F'⟩⟩), fun e => absurd rfl e⟩) (fun e => absurd hW e))⟩
  · exact noWord_ok rfl hx (fun e => absurd e hW) (fun _ => ⟨by decide, fun e => absurd e (by decide), fun _ => ⟨rfl, inv_c hI ⟨g, hV, by omega, hu, hv, hO⟩⟩⟩)
theorem st_3 (G : Gr) : St_3 G (Inv G) := by
  intro k c sl u v x hk hI hx
  have hm := inv_m hI hk
  obtain ⟨g, hV, hA, hu, hv, hO⟩ := hI.2.2
  refine ⟨500, 1000, hm.1, hm.2, 1, 6, by omega, by omega, require_ok hx (by omega) (by omega) (fun hW => ?_) (fun hW => ?_)⟩
  · obtain ⟨z, g', a', b', hV', hz, hC, hd, hc, hmm⟩ := act_exch (G := G) hW hV
    have c0 := hV.2.2.2.2.2.1
    have c1 := hV'.2.2.2.2.2.2
    refine ⟨a', b', by omega, by omega, hc u _ hu (fun u' A F => noWord_ok rfl hx (fun _ => ⟨by decide, fun _ => hmm (pI v 0 0) _ (mj_0 hv) (fun v' M F' => ⟨F'.1 0 (by omega), rfl, inv_c hI ⟨g', hV', by omega, A, M, ot_x (ot_0 hO) F F'⟩⟩), fun e => absurd rfl e⟩) (fun e => absurd hW e))⟩
  · exact noWord_ok rfl hx (fun e => absurd e hW) (fun _ => ⟨by decide, fun e => absurd e (by decide), fun _ => ⟨rfl, inv_c hI ⟨g, hV, by omega, hu, hv, hO⟩⟩⟩)
theorem st_4 (G : Gr) : St_4 G (Inv G) := by
  intro k c sl u v hk hI
  obtain ⟨g, hV, hA, hu, hv, hO⟩ := hI.2.2
  obtain ⟨a, b, -, -, h⟩ := act_on (act_drop (G := G) hV) hV hA hu hv hO (Q := fun z' z u' v' => z' = z ∧ Inv G (k + 1) c sl u' v') (fun z u' v' _ h => ⟨rfl, inv_x hI h⟩)
  exact h
theorem st_5 (G : Gr) : St_5 G (Inv G) := by
  intro k c sl u v x hk hI hx
  obtain ⟨g, hV, hA, hu, hv, hO⟩ := hI.2.2
  obtain ⟨a, b, -, -, h⟩ := act_on (act_go (G := G) hx hV) hV hA hu hv hO (Q := fun z' z u' v' => z' = z ∧ Inv G (k + 1) c sl u' v') (fun z u' v' _ h => ⟨rfl, inv_x hI h⟩)
  exact h
theorem st_6 (G : Gr) : St_6 G (Inv G) := by
  intro k c sl u v x y hk hI hx hy
  have hm := inv_m hI hk
  obtain ⟨g, hV, hA, hu, hv, hO⟩ := hI.2.2
  refine ⟨500, 1000, hm.1, hm.2, 1, 6, by omega, by omega, require_ok hx (by omega) (by omega) (fun hW => ?_) (fun hW => ?_)⟩
  · have key : Act G (fun post _ _ u => w_X1_seek post G u x y) (fun post v => w_X10_finds post v x y) g := by
      rcases hy with rfl | rfl
      · exact act_seekF hW hV
      · exact act_seekB hW hV
    obtain ⟨z, g', a', b', hV', hz, hC, hd, hc, hmm⟩ := key
    have c0 := hV.2.2.2.2.2.1
    have c1 := hV'.2.2.2.2.2.2
    refine hc u _ hu (fun u' A F => noWord_ok rfl hx (fun _ => ⟨by decide, fun _ => hmm (pI v 0 0) _ (mj_0 hv) (fun v' M F' => ⟨F'.1 0 (by omega), rfl, inv_c hI ⟨g', hV', by omega, A, M, ot_x (ot_0 hO) F F'⟩⟩), fun e => absurd rfl e⟩) (fun e => absurd hW e))
  · exact noWord_ok rfl hx (fun e => absurd e hW) (fun _ => ⟨by decide, fun e => absurd e (by decide), fun _ => ⟨rfl, inv_c hI ⟨g, hV, by omega, hu, hv, hO⟩⟩⟩)
theorem st_7 (G : Gr) : St_7 G (Inv G) := by
  intro k c sl u v hk hI
  have hm := inv_m hI hk
  obtain ⟨g, hV, hA, hu, hv, hO⟩ := hI.2.2
  obtain ⟨a, b, ha, hb, h⟩ := act_on (act_cross (G := G) hV) hV hA hu hv hO (Q := fun z' z u' v' => z' = z ∧ Inv G (k + 1) (c + 500) (sl + 1000) u' v') (fun z u' v' _ h => ⟨rfl, inv_c hI h⟩)
  exact ⟨500, 1000, hm.1, hm.2, a, b, by omega, by omega, h⟩
theorem st_8 (G : Gr) : St_8 G (Inv G) := by
  intro k c sl u v hk hI
  have hm := inv_m hI hk
  obtain ⟨g, hV, hA, hu, hv, hO⟩ := hI.2.2
  refine ⟨500, 1000, hm.1, hm.2, 500, 1000, by omega, by omega, ?_⟩
  by_cases hz : gK g = 0
  · have e7 : sI u 7 = 0 := hu.2.2.2.2.1.trans hz
    have e5 : sI v 5 = 0 := hv.2.2.2.2.1.trans hz
    exact ⟨⟨by omega, by omega⟩, fun e => absurd e7 e, fun _ => ⟨⟨by omega, by omega⟩, fun e => absurd e5 e, fun _ => ⟨rfl, inv_c hI ⟨g, hV, by omega, hu, hv, hO⟩⟩⟩⟩
  · refine undo_c hV hz (by omega) (by omega) hu (fun u' cap c0 c1 A F => undo_m cap hV hz hv (fun v' M e0 eI eA => ⟨rfl, inv_c hI ⟨gpop g cap, vs_pop hV hz c0 c1, ?_, A, M, ?_⟩⟩))
    · show gA g ≤ _
      omega
    · refine ot_x (v := pI v 0 0) (ot_0 hO) F ⟨fun k hk => ?_, fun k hk => eA k hk⟩
      rcases hk with rfl | hk
      · exact e0
      · rw [eI k hk, sI_pI, if_neg (by omega)]
theorem st_9 (G : Gr) : St_9 G (Inv G) := by
  intro k c sl u v hk hI
  obtain ⟨g, hV, hA, hu, hv, hO⟩ := hI.2.2
  exact ⟨hv.2.2.2.2.1.trans hu.2.2.2.2.1.symm, inv_r hI⟩
theorem st_11 (G : Gr) : St_11 G (Inv G) := by
  intro k c sl u v hk hI
  obtain ⟨g, hV, hA, hu, hv, hO⟩ := hI.2.2
  obtain ⟨h1, h2, h3, h4, h5, h6, h7, h8, h9, h10⟩ := hO
  refine ⟨h1, inv_x hI ⟨g, hV, by omega, ⟨txt_keep hu.1 (fun j a b => ?_) (fun _ _ _ => rfl) (fun _ => rfl) rfl rfl, hu.2⟩, hv, rfl, Int.le_refl 0, (by show (0 : Int) ≤ 300; decide), fun j a b => absurd b (by show ¬ j < 0; omega), h5, h6, h7, h8, h9, h10⟩⟩
  rw [sI_pI, if_neg (by omega)]
def gnil (g : Sg) : Sg := (fun _ => (0, 0, fun _ => 0), 0, 0, gA g, gR g, gC g)
theorem vs_nil {g : Sg} (hV : VS g) : VS (gnil g) := ⟨Int.le_refl 0, (by show (0 : Int) ≤ 50; decide), fun _ _ _ => ⟨Int.le_refl 0, Int.le_refl 0, (by show (0 : Int) ≤ 100; decide), fun j a b => absurd b (by show ¬ j < 0; omega)⟩, Or.inl rfl, hV.2.2.2.2.1, hV.2.2.2.2.2.1, hV.2.2.2.2.2.2⟩
theorem anew_c {post : St → Prop} {G : Gr} {u : St} {g : Sg} (h : AJ G u g) (hp : ∀ u', AJ G u' (gnil g) → Fx u u' → post u') : w_X1_startAnew post G u := by
  refine ln_empty (fun _ => 0) h.1 (fun u1 a b => hp _ ⟨txt_keep a (fun j a b => ?_) (fun _ _ _ => rfl) (fun _ => rfl) rfl rfl, ?_⟩ (b.x.tr ⟨fun j a => ?_, fun j a => rfl⟩))
  · rw [sI_pI, if_neg (by omega), sI_pI, if_neg (by omega)]
  · obtain ⟨h1, h2, h3, h4, h5, h6, h7, h8⟩ := h.2.fr b
    exact ⟨rfl, h2, h3, rfl, h5, h6, h7, fun i a b => absurd b (by show ¬ i < 0; omega)⟩
  · rw [sI_pI, if_neg (by omega), sI_pI, if_neg (by omega)]
theorem clears_m {post : St → Prop} {v : St} {g : Sg} (h : MJ v g) (hp : ∀ v', MJ v' (gnil g) → FxM v v' → post v') : w_X10_clears post v := by
  obtain ⟨h1, h2, h3, h4, h5, h6⟩ := h
  refine hp _ ⟨TA.nil, rfl, h3, h4, rfl, fun i a b => absurd b (by show ¬ i < 0; omega)⟩ ⟨fun j a => ?_, fun j a => rfl⟩
  rw [sI_pI, if_neg (by omega), sI_pI, if_neg (by omega), sI_pI, if_neg (by omega), sI_pI, if_neg (by omega)]
theorem st_31 (G : Gr) : St_31 G (Inv G) := by
  intro k c sl u v hk hI
  obtain ⟨g, hV, hA, hu, hv, hO⟩ := hI.2.2
  refine ln_length hu.1 (anew_c hu (fun u' A F => many_ok (T := gS g 0) (mj_0 hv).1 (clears_m (mj_0 hv) (fun v' M F' => ⟨rfl, inv_x hI ⟨gnil g, vs_nil hV, ?_, A, M, ot_x (ot_0 hO) F F'⟩⟩))))
  show gA g ≤ _
  omega
