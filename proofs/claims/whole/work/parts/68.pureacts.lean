/-! the class's history and its acts, beside the reference's -/
def UndR (k x : Int) (T T1 : Tx) : Prop := (k = 0 ∧ T1 = (T.1, x, T.2.2)) ∨ (k = 1 ∧ T1 = (T.1 - 1, T.2.1 - 1, drpW T.2.2 (T.2.1 - 1))) ∨ (k = 2 ∧ 1 ≤ T.2.1 ∧ T1 = (T.1, T.2.1, setW T.2.2 (T.2.1 - 1) x)) ∨ (k = 3 ∧ T.2.1 < T.1 ∧ T1 = (T.1, T.2.1, setW T.2.2 T.2.1 x)) ∨ (k = 4 ∧ T1 = (T.1 + 1, T.2.1 + 1, insW T.2.2 T.2.1 x)) ∨ (k = 5 ∧ T1 = (T.1 + 1, T.2.1, insW T.2.2 T.2.1 x)) ∨ (k = 6 ∧ 1 ≤ T.2.1 ∧ T.2.1 < T.1 ∧ T1 = (T.1, T.2.1, swpW T.2.2 T.2.1))
def EJ (u : St) (g : Sg) : Prop := sI u 5 = gD g ∧ sI u 4 = gA g ∧ (∀ i, 0 ≤ i → i < 4 → sA u 0 i = gR g i) ∧ sI u 7 = gK g ∧ 0 ≤ sI u 6 ∧ sI u 6 < 50 ∧ sI u 8 = 0 ∧ ∀ i, 0 ≤ i → i < gK g → UndR (sA u 1 ((sI u 6 + 50 - i) % 50)) (sA u 2 ((sI u 6 + 50 - i) % 50)) (gS g i) (gS g (i + 1))
def TxJ (G : Gr) (u : St) (T : Tx) (cap : Int) : Prop := Txt G u T.1 T.2.1 T.2.2 cap
def AJ (G : Gr) (u : St) (g : Sg) : Prop := TxJ G u (gS g 0) (gC g) ∧ EJ u g
def Fx (u u' : St) : Prop := (∀ k, k < 4 ∨ k = 8 ∨ 13 < k → sI u' k = sI u k) ∧ (∀ k, 5 < k → sA u' k = sA u k)
theorem Fx.rf {v : St} : Fx v v := ⟨fun _ _ => rfl, fun _ _ => rfl⟩
theorem Fx.tr {u v w : St} (h : Fx u v) (h' : Fx v w) : Fx u w := ⟨fun k a => (h'.1 k a).trans (h.1 k a), fun k a => (h'.2 k a).trans (h.2 k a)⟩
theorem Fr.x {u v : St} (h : Fr u v) : Fx u v := ⟨fun k a => h.1 k (by omega), fun k a => h.2 k (by omega) (by omega) (by omega)⟩
theorem EJ.fr {u u' : St} {g : Sg} (h : EJ u g) (hF : Fr u u') : EJ u' g := by
  obtain ⟨h1, h2, h3, h4, h5, h6, h7, h8⟩ := h
  refine ⟨(hF.1 5 (by omega)).trans h1, (hF.1 4 (by omega)).trans h2, fun i a b => by rw [hF.2 0 (by decide) (by decide) (by decide)]; exact h3 i a b, (hF.1 7 (by omega)).trans h4, by rw [hF.1 6 (by omega)]; exact h5, by rw [hF.1 6 (by omega)]; exact h6, by rw [hF.1 8 (by omega)]; exact h7, fun i a b => ?_⟩
  rw [hF.2 1 (by decide) (by decide) (by decide), hF.2 2 (by decide) (by decide) (by decide), hF.1 6 (by omega)]
  exact h8 i a b
theorem txt_keep {G : Gr} {u u' : St} {n p cap : Int} {W : Int → Int} (h : Txt G u n p W cap) (eI : ∀ k, 8 < k → k < 14 → sI u' k = sI u k) (eA : ∀ k, 2 < k → k < 6 → sA u' k = sA u k) (eR : ∀ k, sR u' k = sR u k) (eL : sL u' = sL u) (eF : sF u' = sF u) : Txt G u' n p W cap := by
  obtain ⟨h1, h2, h3, h4⟩ := h
  refine ⟨⟨h1.1, h1.2.1, (eI 9 (by omega) (by omega)).trans h1.2.2.1, al_keep h1.2.2.2 (eI 11 (by omega) (by omega)) (eR 0) (fun q v b => by unfold isBox at *; rw [eL, eF]; exact b) (fun q N f m e => by rw [eL, eF]; exact ⟨m, e⟩)⟩, chn_keep h2 (eI 12 (by omega) (by omega)) (eI 13 (by omega) (by omega)) (fun k _ => eR k) (fun q m x b f e => by rw [eL, eF]; exact ⟨m, e⟩), ?_, h4⟩
  unfold Rows at *
  rw [eA 3 (by decide) (by decide), eA 4 (by decide) (by decide), eA 5 (by decide) (by decide)]
  exact h3
theorem conclude_ok {post : St → Prop} {G : Gr} {u : St} {g : Sg} {k x d cap : Int} {T : Tx} (hT : TxJ G u T cap) (hE : EJ u g) (h0 : 0 ≤ gK g ∧ gK g ≤ 50) (hU : UndR k x T (gS g 0)) (hp : ∀ u', AJ G u' (gpush g T d cap) → Fx u u' → post u') : w_X1_conclude post u k x d := by
  obtain ⟨h1, h2, h3, h4, h5, h6, h7, h8⟩ := hE
  refine ⟨⟨by omega, by omega⟩, by omega, by omega, by omega, ⟨by omega, by omega⟩, hp _ ⟨txt_keep hT (fun j a b => ?_) (fun j a b => ?_) (fun _ => rfl) rfl rfl, rfl, ?_, fun i a b => ?_, ?_, ?_, ?_, ?_, fun i a b => ?_⟩ ⟨fun j a => ?_, fun j a => ?_⟩⟩
  · rw [sI_pI, if_neg (by omega), sI_pI, if_neg (by omega), sI_pI, if_neg (by omega), sI_pA, sI_pA, sI_pI, if_neg (by omega)]
  · rw [sA_pI, sA_pI, sA_pI, sA_pA, if_neg (by omega), sA_pA, if_neg (by omega), sA_pI]
  · show sI u 4 + 1 = gA g + 1
    rw [h2]
  · exact h3 i a b
  · show min (sI u 7 + 1) 50 = min (gK g + 1) 50
    rw [h4]
  · show 0 ≤ (sI u 6 + 1) % 50
    omega
  · show (sI u 6 + 1) % 50 < 50
    omega
  · exact h7
  · have b : i < min (gK g + 1) 50 := b
    show UndR (zset (sA u 1) ((sI u 6 + 1) % 50) k (((sI u 6 + 1) % 50 + 50 - i) % 50)) (zset (sA u 2) ((sI u 6 + 1) % 50) x (((sI u 6 + 1) % 50 + 50 - i) % 50)) (tc T (gS g) i) (tc T (gS g) (i + 1))
    rw [tc_s _ _ a, zset_at, zset_at]
    by_cases c : i = 0
    · subst c
      rw [if_pos (by omega), if_pos (by omega)]
      exact hU
    · rw [if_neg (by omega), if_neg (by omega)]
      have e := h8 (i - 1) (by omega) (by omega)
      rw [show (sI u 6 + 50 - (i - 1)) % 50 = ((sI u 6 + 1) % 50 + 50 - i) % 50 by omega, show i - 1 + 1 = i by omega] at e
      have e2 := tc_s T (gS g) (i := i - 1) (by omega)
      rw [show i - 1 + 1 = i by omega] at e2
      rw [e2]
      exact e
  · rw [sI_pI, if_neg (by omega), sI_pI, if_neg (by omega), sI_pI, if_neg (by omega), sI_pA, sI_pA, sI_pI, if_neg (by omega)]
  · rw [sA_pI, sA_pI, sA_pI, sA_pA, if_neg (by omega), sA_pA, if_neg (by omega), sA_pI]
theorem refuse_ok {post : Int → St → Prop} {G : Gr} {u : St} {g : Sg} {z : Int} (hz : -5 ≤ z ∧ z ≤ -2) (h : AJ G u g) (hp : ∀ u', AJ G u' (grefu g (-2 - z)) → Fx u u' → post z u') : w_X1_refuse post u z := by
  obtain ⟨hT, h1, h2, h3, h4, h5, h6, h7, h8⟩ := h
  refine ⟨⟨by omega, by omega⟩, fun c => absurd c (by omega), fun _ => ⟨fun c => absurd c (by omega), fun _ => ⟨by omega, by omega, hp _ ⟨txt_keep hT (fun _ _ _ => rfl) (fun j a b => ?_) (fun _ => rfl) rfl rfl, h1, h2, fun i a b => ?_, h4, h5, h6, h7, h8⟩ ⟨fun _ _ => rfl, fun j a => ?_⟩⟩⟩⟩
  · rw [sA_pA, if_neg (by omega)]
  · show zset (sA u 0) (-2 - z) (sA u 0 (-2 - z) + 1) i = if i = -2 - z then gR g i + 1 else gR g i
    rw [zset_at]
    by_cases c : i = -2 - z
    · rw [if_pos c, if_pos c, ← h3 i a b, c]
    · rw [if_neg c, if_neg c, h3 i a b]
  · rw [sA_pA, if_neg (by omega)]
/-! an act: both sides answer alike and come to the same texts -/
def Act (G : Gr) (wc : (Int → St → Prop) → Nat → Nat → St → Prop) (wm : (Int → St → Prop) → St → Prop) (g : Sg) : Prop :=
  ∃ (z : Int) (g' : Sg) (a b : Nat), VS g' ∧ InR z ∧ gC g ≤ gC g' ∧ ((z < 0 ∧ -5 ≤ z ∧ z ≤ -2 ∧ a = 0 ∧ b = 0 ∧ gA g' = gA g ∧ gC g' = gC g) ∨ (0 ≤ z ∧ gA g' = gA g + 1 ∧ (a : Int) ≤ 1 + (gC g' - gC g) ∧ (b : Int) ≤ 1 + 4 * (gC g' - gC g))) ∧
    (∀ (u : St) (post : Int → St → Prop), AJ G u g → (∀ u', AJ G u' g' → Fx u u' → post z u') → wc post a b u) ∧ (∀ (v : St) (post : Int → St → Prop), MJ v g → (∀ v', MJ v' g' → FxM v v' → post z v') → wm post v)
theorem act_no {G : Gr} {wc : (Int → St → Prop) → Nat → Nat → St → Prop} {wm : (Int → St → Prop) → St → Prop} {g : Sg} (z : Int) (hz : -5 ≤ z ∧ z ≤ -2) (hV : VS g) (hc : ∀ (u : St) (post : Int → St → Prop), AJ G u g → w_X1_refuse post u z → wc post 0 0 u) (hm : ∀ (v : St) (post : Int → St → Prop), MJ v g → w_X10_refuses post v z → wm post v) : Act G wc wm g :=
  ⟨z, grefu g (-2 - z), 0, 0, hV, ⟨by omega, by omega⟩, Int.le_refl _, Or.inl ⟨by omega, hz.1, hz.2, rfl, rfl, rfl, rfl⟩, fun u post h hp => hc u post h (refuse_ok hz h hp), fun v post h hp => hm v post h (refuses_ok hz h hp)⟩
theorem vs_push {g : Sg} {T : Tx} {d cap : Int} (hV : VS g) (hT : VT T) (hd : d = 0 ∨ (d = 1 ∧ 1 ≤ T.2.1) ∨ (d = 2 ∧ T.2.1 < T.1)) (h1 : 0 ≤ cap) (h2 : cap ≤ 148) : VS (gpush g T d cap) := by
  obtain ⟨a, b, c, e, f, -⟩ := hV
  refine ⟨?_, ?_, fun i i0 i1 => ?_, hd, ?_, h1, h2⟩
  · show 0 ≤ min (gK g + 1) 50
    omega
  · show min (gK g + 1) 50 ≤ 50
    omega
  · have i1 : i ≤ min (gK g + 1) 50 := i1
    show VT (tc T (gS g) i)
    unfold tc
    by_cases h : i = 0
    · rw [if_pos h]
      exact hT
    · rw [if_neg h]
      exact c _ (by omega) (by omega)
  · show 0 ≤ gA g + 1
    omega
theorem act_yes {G : Gr} {wc : (Int → St → Prop) → Nat → Nat → St → Prop} {wm : (Int → St → Prop) → St → Prop} {g : Sg} (z : Int) (T : Tx) (d cap : Int) (a b : Nat) (hz : 0 ≤ z ∧ z ≤ 387420488) (hV : VS g) (hT : VT T) (hd : d = 0 ∨ (d = 1 ∧ 1 ≤ T.2.1) ∨ (d = 2 ∧ T.2.1 < T.1)) (hc0 : gC g ≤ cap) (hc1 : 0 ≤ cap) (hc2 : cap ≤ 148) (ha : (a : Int) ≤ 1 + (cap - gC g)) (hb : (b : Int) ≤ 1 + 4 * (cap - gC g))
    (hc : ∀ (u : St) (post : Int → St → Prop), AJ G u g → (∀ u', AJ G u' (gpush g T d cap) → Fx u u' → post z u') → wc post a b u)
    (hm : ∀ (v : St) (post : Int → St → Prop), MJ v g → (∀ v', MJ v' (gpush g T d cap) → FxM v v' → post z v') → wm post v) : Act G wc wm g :=
  ⟨z, gpush g T d cap, a, b, vs_push hV hT hd hc1 hc2, ⟨by omega, by omega⟩, hc0, Or.inr ⟨hz.1, rfl, ha, hb⟩, hc, hm⟩
theorem fxm_i3 {v v' : St} {d : Int} (h : FrM v v') : FxM v (pI v' 3 d) := ⟨fun k hk => by rw [sI_pI, if_neg (by omega)]; exact h.1 k (by omega) (by omega), fun k hk => by rw [sA_pI]; exact h.2 k (by omega) (by omega)⟩
theorem mj_i3 {v v' : St} {g : Sg} {T : Tx} {d cap : Int} (h : KJ v g) (hT : MT v' T) (hF : FrM v v') : MJ (pI v' 3 d) (gpush g T d cap) := mj_of h hT (by rw [sI_pI, if_pos rfl]) (hF.1 4 (by decide) (by decide)) (hF.1 5 (by decide) (by decide)) (fun k a b => hF.2 k (by omega) (by omega))
theorem wz {T : Tx} (h : VT T) {j : Int} (h0 : 0 ≤ j) (hn : j < T.1) : 0 ≤ T.2.2 j ∧ T.2.2 j ≤ 387420488 := by
  have := h.2.2.2 j h0 hn
  have a := this.1
  have b := this.2.1
  omega
theorem act_next {G : Gr} {g : Sg} (hV : VS g) : Act G (fun post _ _ u => w_X1_pass post G u 0) w_X10_passes g := by
  have hT := hV.2.2.1 0 (by omega) hV.1
  rcases hS : gS g 0 with ⟨n, p, W⟩
  rw [hS] at hT
  obtain ⟨t0, t1, t2, t3⟩ := hT
  have t0 : 0 ≤ p := t0
  have t1 : p ≤ n := t1
  have t2 : n ≤ 100 := t2
  have hcap := hV.2.2.2.2.2.1
  by_cases c : p < n
  · refine act_yes (W p) (n, p + 1, W) 1 (gC g) 0 0 (wz (T := (n, p, W)) ⟨t0, t1, t2, t3⟩ t0 c) hV ⟨by show 0 ≤ p + 1; omega, by show p + 1 ≤ n; omega, t2, t3⟩ (Or.inr (Or.inl ⟨rfl, by show 1 ≤ p + 1; omega⟩)) (by omega) hcap hV.2.2.2.2.2.2 (by omega) (by omega) (fun u post h hp => ?_) (fun v post h hp => ?_)
    · obtain ⟨hx, hE⟩ := h
      unfold TxJ at hx
      rw [hS] at hx
      refine ln_hasA hx (fun e => absurd e (by show ¬ p = n; omega)) (fun _ => ⟨by decide, fun _ => ?_, fun e => absurd e (by decide)⟩)
      refine ln_caret hx (ln_next hx c (fun u' a b => ⟨by decide, fun _ => ?_, fun e => absurd rfl e⟩))
      exact conclude_ok (g := g) (T := (n, p + 1, W)) a (hE.fr b) ⟨hV.1, hV.2.1⟩ (Or.inl ⟨rfl, hS⟩) (fun u'' a2 b2 => hp u'' a2 (b.x.tr b2))
    · have hm := h.1
      rw [hS] at hm
      have e1 : sI v 2 = n - p := hm.2.2.2.2.1
      refine ⟨⟨by omega, by omega⟩, fun _ => keeps_ok h hV (fun v1 a1 b1 => ?_), fun e => absurd e (by omega)⟩
      have hm1 := a1.1
      rw [hS] at hm1
      refine goesOn_ok hm1 c (fun v2 a2 b2 => ?_)
      have e2 : sI v2 1 = p + 1 := a2.2.2.2.1
      refine ⟨by omega, by omega, ?_⟩
      have e3 : sA v2 0 (p + 1 - 1) = W (p + 1 - 1) := a2.2.2.2.2.2.1 _ (by omega) (by show p + 1 - 1 < p + 1; omega)
      rw [e2, e3, show p + 1 - 1 = p by omega]
      exact hp _ (mj_i3 a1 a2 b2) (b1.tr (fxm_i3 b2))
  · have hpn : p = n := by omega
    refine act_no (-2) (by decide) hV (fun u post h hp => ?_) (fun v post h hp => ?_)
    · have hx := h.1
      unfold TxJ at hx
      rw [hS] at hx
      exact ln_hasA hx (fun _ => ⟨by decide, fun e => absurd rfl e, fun _ => hp⟩) (fun e => absurd e c)
    · have hm := h.1
      rw [hS] at hm
      have e1 : sI v 2 = n - p := hm.2.2.2.2.1
      exact ⟨⟨by omega, by omega⟩, fun e => absurd e (by omega), fun _ => hp⟩
theorem act_prev {G : Gr} {g : Sg} (hV : VS g) : Act G (fun post _ _ u => w_X1_pass post G u 1) w_X10_passesBack g := by
  have hT := hV.2.2.1 0 (by omega) hV.1
  rcases hS : gS g 0 with ⟨n, p, W⟩
  rw [hS] at hT
  obtain ⟨t0, t1, t2, t3⟩ := hT
  have t0 : 0 ≤ p := t0
  have t1 : p ≤ n := t1
  have t2 : n ≤ 100 := t2
  have hcap := hV.2.2.2.2.2.1
  by_cases c : 0 < p
  · refine act_yes (W (p - 1)) (n, p - 1, W) 2 (gC g) 0 0 (wz (T := (n, p, W)) ⟨t0, t1, t2, t3⟩ (by omega) (by show p - 1 < n; omega)) hV ⟨by show 0 ≤ p - 1; omega, by show p - 1 ≤ n; omega, t2, t3⟩ (Or.inr (Or.inr ⟨rfl, by show p - 1 < n; omega⟩)) (by omega) hcap hV.2.2.2.2.2.2 (by omega) (by omega) (fun u post h hp => ?_) (fun v post h hp => ?_)
    · obtain ⟨hx, hE⟩ := h
      unfold TxJ at hx
      rw [hS] at hx
      refine ln_hasB (by decide) (by decide) hx (fun e => absurd e (by show ¬ p = 0; omega)) (fun _ => ⟨by decide, fun _ => ?_, fun e => absurd e (by decide)⟩)
      refine ln_caret hx (ln_prev (by decide) (by decide) hx c (fun u' a b => ⟨by decide, fun e => absurd e (by decide), fun _ => ?_⟩))
      refine conclude_ok (g := g) (T := (n, p - 1, W)) a (hE.fr b) ⟨hV.1, hV.2.1⟩ (Or.inl ⟨rfl, hS⟩) (fun u'' a2 b2 => hp u'' a2 (b.x.tr b2))
    · have hm := h.1
      rw [hS] at hm
      have e1 : sI v 1 = p := hm.2.2.2.1
      refine ⟨⟨by omega, by omega⟩, fun _ => keeps_ok h hV (fun v1 a1 b1 => ?_), fun e => absurd e (by omega)⟩
      have hm1 := a1.1
      rw [hS] at hm1
      refine goesBack_ok hm1 c (fun v2 a2 b2 => ?_)
      have e2 : sI v2 2 = n - (p - 1) := a2.2.2.2.2.1
      have e3 : sA v2 1 (sI v2 2 - 1) = W (p - 1) := TA.last a2 (by show p - 1 < n; omega)
      refine ⟨by omega, by omega, ?_⟩
      rw [e3]
      exact hp _ (mj_i3 a1 a2 b2) (b1.tr (fxm_i3 b2))
  · have hpn : p = 0 := by omega
    refine act_no (-2) (by decide) hV (fun u post h hp => ?_) (fun v post h hp => ?_)
    · have hx := h.1
      unfold TxJ at hx
      rw [hS] at hx
      exact ln_hasB (by decide) (by decide) hx (fun _ => ⟨by decide, fun e => absurd rfl e, fun _ => hp⟩) (fun e => absurd e c)
    · have hm := h.1
      rw [hS] at hm
      have e1 : sI v 1 = p := hm.2.2.2.1
      exact ⟨⟨by omega, by omega⟩, fun e => absurd e (by omega), fun _ => hp⟩
