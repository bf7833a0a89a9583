/-! the other acts -/
theorem ncap_b {cap n : Int} (h0 : 0 ≤ cap) (h1 : n < 100) (h2 : cap ≤ 148) : cap ≤ ncap cap n ∧ ncap cap n ≤ 148 ∧ 0 ≤ ncap cap n := by
  unfold ncap
  by_cases c : n = cap
  · rw [if_pos c]
    by_cases c2 : cap = 0
    · rw [if_pos c2]
      omega
    · rw [if_neg c2]
      omega
  · rw [if_neg c]
    omega
theorem MT.c {v : St} {n p : Int} {W : Int → Int} (h : MT v (n, p, W)) : sI v 1 = p ∧ sI v 2 = n - p := ⟨h.2.2.2.1, h.2.2.2.2.1⟩
theorem act_insert {G : Gr} {g : Sg} {x : Int} (hx : isW x) (hV : VS g) : Act G (fun post mc ms u => w_X1_insert post mc ms G u x) (fun post v => w_X10_adds post v x) g := by
  have hT := hV.2.2.1 0 (by omega) hV.1
  rcases hS : gS g 0 with ⟨n, p, W⟩
  rw [hS] at hT
  obtain ⟨t0, t1, t2, t3⟩ := hT
  have t0 : 0 ≤ p := t0
  have t1 : p ≤ n := t1
  have t2 : n ≤ 100 := t2
  have c0 := hV.2.2.2.2.2.1
  have c1 := hV.2.2.2.2.2.2
  by_cases c : n < 100
  · have hb := ncap_b c0 c c1
    refine act_yes (n + 1) (n + 1, p + 1, insW W p x) 0 (ncap (gC g) n) (1 + (ncap (gC g) n - gC g)).toNat (1 + 4 * (ncap (gC g) n - gC g)).toNat (by omega) hV ⟨by show 0 ≤ p + 1; omega, by show p + 1 ≤ n + 1; omega, by show n + 1 ≤ 100; omega, w_ins t3 t0 t1 hx⟩ (Or.inl rfl) hb.1 hb.2.2 hb.2.1 (by omega) (by omega) (fun u post h hp => ?_) (fun v post h hp => ?_)
    · obtain ⟨hy, hE⟩ := h
      unfold TxJ at hy
      rw [hS] at hy
      have hy : Txt G u n p W (gC g) := hy
      refine ln_length hy ⟨⟨by show -2147483648 ≤ n; omega, by show n ≤ 2147483647; omega⟩, fun _ => ⟨_, _, Nat.le_of_eq (Nat.zero_add _), Nat.le_of_eq (Nat.zero_add _), ?_⟩, fun e => absurd c e⟩
      refine ln_insert hy c hx (by show 0 ≤ ncap (gC g) n - gC g; omega) (by omega) (by omega) (fun u' a b => ?_)
      refine conclude_ok (g := g) (T := (n + 1, p + 1, insW W p x)) a (hE.fr b) ⟨hV.1, hV.2.1⟩ (Or.inr (Or.inl ⟨rfl, ?_⟩)) (fun u'' a2 b2 => ?_)
      · rw [hS]
        show (n, p, W) = (n + 1 - 1, p + 1 - 1, drpW (insW W p x) (p + 1 - 1))
        rw [show p + 1 - 1 = p by omega, show n + 1 - 1 = n by omega, drp_ins]
      · exact ln_length a2.1 (hp u'' a2 (b.x.tr b2))
    · have hm := h.1
      rw [hS] at hm
      refine many_ok (T := (n, p, W)) hm ⟨⟨by show -2147483648 ≤ n; omega, by show n ≤ 2147483647; omega⟩, fun _ => keeps_ok h hV (fun v1 a1 b1 => ?_), fun e => absurd e (by show ¬ n = 100; omega)⟩
      have hm1 := a1.1
      rw [hS] at hm1
      have hT1 : MT (pI (pI (pA v1 0 (sI v1 1) x) 1 (sI v1 1 + 1)) 3 0) (n + 1, p + 1, insW W p x) := TA.ins x hm1 c
      have hF : FrM v1 (pI (pA v1 0 (sI v1 1) x) 1 (sI v1 1 + 1)) := ⟨fun k a b => by rw [sI_pI, if_neg a, sI_pA], fun k a b => by rw [sA_pI, sA_pA, if_neg a]⟩
      refine ⟨by have := hm1.c; omega, by have := hm1.c; omega, many_ok (T := (n + 1, p + 1, insW W p x)) hT1 ?_⟩
      exact hp _ (mj_i3 a1 hT1 hF) (b1.tr (fxm_i3 hF))
  · have hpn : n = 100 := by omega
    refine act_no (-5) (by decide) hV (fun u post h hp => ?_) (fun v post h hp => ?_)
    · have hy := h.1
      unfold TxJ at hy
      rw [hS] at hy
      exact ln_length hy ⟨⟨by show -2147483648 ≤ n; omega, by show n ≤ 2147483647; omega⟩, fun e => absurd e c, fun _ => hp⟩
    · have hm := h.1
      rw [hS] at hm
      exact many_ok (T := (n, p, W)) hm ⟨⟨by show -2147483648 ≤ n; omega, by show n ≤ 2147483647; omega⟩, fun e => absurd hpn e, fun _ => hp⟩
theorem given_ok {post : Int → Prop} {v : St} {n p d : Int} {W : Int → Int} (h : MT v (n, p, W)) (hd : sI v 3 = d) (hp1 : d = 1 → 1 ≤ p ∧ post (W (p - 1))) (hp2 : d = 2 → p < n ∧ post (W p)) (hp0 : d = 0 → post (-1)) (hdd : d = 0 ∨ d = 1 ∨ d = 2) : w_X10_givenNow post v := by
  have e := h.c
  have t0 : 0 ≤ p := h.1
  have t1 : p ≤ n := h.2.1
  have t2 : n ≤ 100 := h.2.2.1
  subst hd
  refine ⟨⟨by omega, by omega⟩, fun c => ⟨fun c2 => ?_, fun c2 => ?_⟩, fun c => hp0 c⟩
  · have hh := hp2 (by omega)
    have e2 : sA v 1 (sI v 2 - 1) = W p := TA.last h hh.1
    exact ⟨by omega, by omega, by rw [e2]; exact hh.2⟩
  · have hh := hp1 c2
    have e2 : sA v 0 (sI v 1 - 1) = W (p - 1) := TA.first h hh.1
    exact ⟨by omega, by omega, by rw [e2]; exact hh.2⟩
theorem act_exch {G : Gr} {g : Sg} {x : Int} (hx : isW x) (hV : VS g) : Act G (fun post mc ms u => w_X1_exchange post mc ms G u x) (fun post v => w_X10_sets post v x) g := by
  have hT := hV.2.2.1 0 (by omega) hV.1
  have hD := hV.2.2.2.1
  rcases hS : gS g 0 with ⟨n, p, W⟩
  rw [hS] at hT hD
  obtain ⟨t0, t1, t2, t3⟩ := hT
  have t0 : 0 ≤ p := t0
  have t1 : p ≤ n := t1
  have t2 : n ≤ 100 := t2
  have c0 := hV.2.2.2.2.2.1
  have c1 := hV.2.2.2.2.2.2
  rcases hD with d | ⟨d, dp⟩ | ⟨d, dp⟩
  · refine act_no (-3) (by decide) hV (fun u post h hp => ?_) (fun v post h hp => ?_)
    · have e : sI u 5 = 0 := h.2.1.trans d
      exact ⟨⟨by omega, by omega⟩, fun c => absurd e c, fun _ => hp⟩
    · have e : sI v 3 = 0 := h.2.1.trans d
      exact ⟨⟨by omega, by omega⟩, fun c => absurd e c, fun _ => hp⟩
  · have dp : 1 ≤ p := dp
    refine act_yes (W (p - 1)) (n, p, setW W (p - 1) x) 1 (gC g) 1 1 (wz (T := (n, p, W)) ⟨t0, t1, t2, t3⟩ (by omega) (by show p - 1 < n; omega)) hV ⟨t0, t1, t2, w_set t3 hx⟩ (Or.inr (Or.inl ⟨rfl, dp⟩)) (by omega) c0 c1 (by omega) (by omega) (fun u post h hp => ?_) (fun v post h hp => ?_)
    · obtain ⟨hy, hE⟩ := h
      unfold TxJ at hy
      rw [hS] at hy
      have e : sI u 5 = 1 := hE.1.trans d
      refine ⟨⟨by omega, by omega⟩, fun _ => ⟨fun c => absurd e c, fun _ => ⟨1, 1, by omega, by omega, ?_⟩⟩, fun c => absurd c (by omega)⟩
      refine ln_exchB hy (by omega) hx (by omega) (by omega) (fun u' a b => ?_)
      rw [show sI u' 5 = 1 from (b.1 5 (by omega)).trans e]
      refine conclude_ok (g := g) (T := (n, p, setW W (p - 1) x)) a (hE.fr b) ⟨hV.1, hV.2.1⟩ (Or.inr (Or.inr (Or.inl ⟨rfl, dp, ?_⟩))) (fun u'' a2 b2 => hp u'' a2 (b.x.tr b2))
      rw [hS]
      show (n, p, W) = (n, p, setW (setW W (p - 1) x) (p - 1) (W (p - 1)))
      rw [set_set]
    · have hm := h.1
      rw [hS] at hm
      have e : sI v 3 = 1 := h.2.1.trans d
      refine ⟨⟨by omega, by omega⟩, fun _ => keeps_ok h hV (fun v1 a1 b1 => ?_), fun c => absurd c (by omega)⟩
      have hm1 := a1.1
      rw [hS] at hm1
      have e1 : sI v1 3 = 1 := a1.2.1.trans d
      have e2 := hm1.c
      have hT1 : MT (pA v1 0 (sI v1 1 - 1) x) (n, p, setW W (p - 1) x) := TA.setB x hm1 dp
      refine given_ok hm1 e1 (fun _ => ⟨dp, ⟨by omega, by omega⟩, fun c => absurd e1 c, fun _ => ⟨by omega, by omega, hp _ (mj_of a1 hT1 e1 rfl rfl (fun k a b => ?_)) (b1.tr ⟨fun _ _ => rfl, fun k hk => ?_⟩)⟩⟩) (fun c => absurd c (by decide)) (fun c => absurd c (by decide)) (by omega)
      · rw [sA_pA, if_neg (by omega)]
      · rw [sA_pA, if_neg (by omega)]
  · have dp : p < n := dp
    refine act_yes (W p) (n, p, setW W p x) 2 (gC g) 1 1 (wz (T := (n, p, W)) ⟨t0, t1, t2, t3⟩ t0 dp) hV ⟨t0, t1, t2, w_set t3 hx⟩ (Or.inr (Or.inr ⟨rfl, dp⟩)) (by omega) c0 c1 (by omega) (by omega) (fun u post h hp => ?_) (fun v post h hp => ?_)
    · obtain ⟨hy, hE⟩ := h
      unfold TxJ at hy
      rw [hS] at hy
      have e : sI u 5 = 2 := hE.1.trans d
      refine ⟨⟨by omega, by omega⟩, fun _ => ⟨fun _ => ⟨1, 1, by omega, by omega, ?_⟩, fun c => absurd c (by omega)⟩, fun c => absurd c (by omega)⟩
      refine ln_exchA hy dp hx (by omega) (by omega) (fun u' a b => ?_)
      rw [show sI u' 5 = 2 from (b.1 5 (by omega)).trans e]
      refine conclude_ok (g := g) (T := (n, p, setW W p x)) a (hE.fr b) ⟨hV.1, hV.2.1⟩ (Or.inr (Or.inr (Or.inr (Or.inl ⟨rfl, dp, ?_⟩)))) (fun u'' a2 b2 => hp u'' a2 (b.x.tr b2))
      rw [hS]
      show (n, p, W) = (n, p, setW (setW W p x) p (W p))
      rw [set_set]
    · have hm := h.1
      rw [hS] at hm
      have e : sI v 3 = 2 := h.2.1.trans d
      refine ⟨⟨by omega, by omega⟩, fun _ => keeps_ok h hV (fun v1 a1 b1 => ?_), fun c => absurd c (by omega)⟩
      have hm1 := a1.1
      rw [hS] at hm1
      have e1 : sI v1 3 = 2 := a1.2.1.trans d
      have e2 := hm1.c
      have hT1 : MT (pA v1 1 (sI v1 2 - 1) x) (n, p, setW W p x) := TA.setA x hm1 dp
      refine given_ok hm1 e1 (fun c => absurd c (by decide)) (fun _ => ⟨dp, ⟨by omega, by omega⟩, fun _ => ⟨by omega, by omega, hp _ (mj_of a1 hT1 e1 rfl rfl (fun k a b => ?_)) (b1.tr ⟨fun _ _ => rfl, fun k hk => ?_⟩)⟩, fun c => absurd c (by omega)⟩) (fun c => absurd c (by decide)) (by omega)
      · rw [sA_pA, if_neg (by omega)]
      · rw [sA_pA, if_neg (by omega)]
theorem act_drop {G : Gr} {g : Sg} (hV : VS g) : Act G (fun post _ _ u => w_X1_drop post G u) w_X10_removes g := by
  have hT := hV.2.2.1 0 (by omega) hV.1
  have hD := hV.2.2.2.1
  rcases hS : gS g 0 with ⟨n, p, W⟩
  rw [hS] at hT hD
  obtain ⟨t0, t1, t2, t3⟩ := hT
  have t0 : 0 ≤ p := t0
  have t1 : p ≤ n := t1
  have t2 : n ≤ 100 := t2
  have c0 := hV.2.2.2.2.2.1
  have c1 := hV.2.2.2.2.2.2
  rcases hD with d | ⟨d, dp⟩ | ⟨d, dp⟩
  · refine act_no (-3) (by decide) hV (fun u post h hp => ?_) (fun v post h hp => ?_)
    · have e : sI u 5 = 0 := h.2.1.trans d
      exact ⟨⟨by omega, by omega⟩, fun c => absurd e c, fun _ => hp⟩
    · have e : sI v 3 = 0 := h.2.1.trans d
      exact ⟨⟨by omega, by omega⟩, fun c => absurd e c, fun _ => hp⟩
  · have dp : 1 ≤ p := dp
    refine act_yes (W (p - 1)) (n - 1, p - 1, drpW W (p - 1)) 0 (gC g) 0 0 (wz (T := (n, p, W)) ⟨t0, t1, t2, t3⟩ (by omega) (by show p - 1 < n; omega)) hV ⟨by show 0 ≤ p - 1; omega, by show p - 1 ≤ n - 1; omega, by show n - 1 ≤ 100; omega, w_drp t3⟩ (Or.inl rfl) (by omega) c0 c1 (by omega) (by omega) (fun u post h hp => ?_) (fun v post h hp => ?_)
    · obtain ⟨hy, hE⟩ := h
      unfold TxJ at hy
      rw [hS] at hy
      have e : sI u 5 = 1 := hE.1.trans d
      refine ⟨⟨by omega, by omega⟩, fun _ => ⟨fun c => absurd e c, fun _ => ?_⟩, fun c => absurd c (by omega)⟩
      refine ln_dropB hy (by omega) (fun u' a b => ?_)
      refine conclude_ok (g := g) (T := (n - 1, p - 1, drpW W (p - 1))) a (hE.fr b) ⟨hV.1, hV.2.1⟩ (Or.inr (Or.inr (Or.inr (Or.inr (Or.inl ⟨rfl, ?_⟩))))) (fun u'' a2 b2 => hp u'' a2 (b.x.tr b2))
      rw [hS]
      show (n, p, W) = (n - 1 + 1, p - 1 + 1, insW (drpW W (p - 1)) (p - 1) (W (p - 1)))
      rw [ins_drp, show n - 1 + 1 = n by omega, show p - 1 + 1 = p by omega]
    · have hm := h.1
      rw [hS] at hm
      have e : sI v 3 = 1 := h.2.1.trans d
      refine ⟨⟨by omega, by omega⟩, fun _ => keeps_ok h hV (fun v1 a1 b1 => ?_), fun c => absurd c (by omega)⟩
      have hm1 := a1.1
      rw [hS] at hm1
      have e1 : sI v1 3 = 1 := a1.2.1.trans d
      have hT1 : MT (pI v1 1 (sI v1 1 - 1)) (n - 1, p - 1, drpW W (p - 1)) := TA.drpB hm1 dp
      have hF : FrM v1 (pI v1 1 (sI v1 1 - 1)) := ⟨fun k a b => by rw [sI_pI, if_neg a], fun k a b => rfl⟩
      exact given_ok hm1 e1 (fun _ => ⟨dp, ⟨by omega, by omega⟩, fun c => absurd e1 c, fun _ => hp _ (mj_i3 a1 hT1 hF) (b1.tr (fxm_i3 hF))⟩) (fun c => absurd c (by decide)) (fun c => absurd c (by decide)) (by omega)
  · have dp : p < n := dp
    refine act_yes (W p) (n - 1, p, drpW W p) 0 (gC g) 0 0 (wz (T := (n, p, W)) ⟨t0, t1, t2, t3⟩ t0 dp) hV ⟨t0, by show p ≤ n - 1; omega, by show n - 1 ≤ 100; omega, w_drp t3⟩ (Or.inl rfl) (by omega) c0 c1 (by omega) (by omega) (fun u post h hp => ?_) (fun v post h hp => ?_)
    · obtain ⟨hy, hE⟩ := h
      unfold TxJ at hy
      rw [hS] at hy
      have e : sI u 5 = 2 := hE.1.trans d
      refine ⟨⟨by omega, by omega⟩, fun _ => ⟨fun _ => ?_, fun c => absurd c (by omega)⟩, fun c => absurd c (by omega)⟩
      refine ln_dropA hy dp (fun u' a b => ?_)
      refine conclude_ok (g := g) (T := (n - 1, p, drpW W p)) a (hE.fr b) ⟨hV.1, hV.2.1⟩ (Or.inr (Or.inr (Or.inr (Or.inr (Or.inr (Or.inl ⟨rfl, ?_⟩)))))) (fun u'' a2 b2 => hp u'' a2 (b.x.tr b2))
      rw [hS]
      show (n, p, W) = (n - 1 + 1, p, insW (drpW W p) p (W p))
      rw [ins_drp, show n - 1 + 1 = n by omega]
    · have hm := h.1
      rw [hS] at hm
      have e : sI v 3 = 2 := h.2.1.trans d
      refine ⟨⟨by omega, by omega⟩, fun _ => keeps_ok h hV (fun v1 a1 b1 => ?_), fun c => absurd c (by omega)⟩
      have hm1 := a1.1
      rw [hS] at hm1
      have e1 : sI v1 3 = 2 := a1.2.1.trans d
      have hT1 : MT (pI v1 2 (sI v1 2 - 1)) (n - 1, p, drpW W p) := TA.drpA hm1 dp
      have hF : FrM v1 (pI v1 2 (sI v1 2 - 1)) := ⟨fun k a b => by rw [sI_pI, if_neg b], fun k a b => rfl⟩
      exact given_ok hm1 e1 (fun c => absurd c (by decide)) (fun _ => ⟨dp, ⟨by omega, by omega⟩, fun _ => hp _ (mj_i3 a1 hT1 hF) (b1.tr (fxm_i3 hF)), fun c => absurd c (by omega)⟩) (fun c => absurd c (by decide)) (by omega)
theorem act_go {G : Gr} {g : Sg} {i : Int} (hi : InR i) (hV : VS g) : Act G (fun post _ _ u => w_X1_go post G u i) (fun post v => w_X10_moves post v i) g := by
  have hT := hV.2.2.1 0 (by omega) hV.1
  rcases hS : gS g 0 with ⟨n, p, W⟩
  rw [hS] at hT
  obtain ⟨t0, t1, t2, t3⟩ := hT
  have t0 : 0 ≤ p := t0
  have t1 : p ≤ n := t1
  have t2 : n ≤ 100 := t2
  have c0 := hV.2.2.2.2.2.1
  have c1 := hV.2.2.2.2.2.2
  by_cases c : 0 ≤ i ∧ i ≤ n
  · refine act_yes i (n, i, W) 0 (gC g) 0 0 (by omega) hV ⟨c.1, c.2, t2, t3⟩ (Or.inl rfl) (by omega) c0 c1 (by omega) (by omega) (fun u post h hp => ?_) (fun v post h hp => ?_)
    · obtain ⟨hy, hE⟩ := h
      unfold TxJ at hy
      rw [hS] at hy
      refine ⟨hi, fun e => absurd e (by omega), fun _ => ln_length hy ⟨⟨by show -2147483648 ≤ n; omega, by show n ≤ 2147483647; omega⟩, fun _ => ?_, fun e => absurd c.2 e⟩⟩
      refine ln_caret hy (ln_go hy c.1 c.2 (fun u' a b => ?_))
      exact conclude_ok (g := g) (T := (n, i, W)) a (hE.fr b) ⟨hV.1, hV.2.1⟩ (Or.inl ⟨rfl, hS⟩) (fun u'' a2 b2 => hp u'' a2 (b.x.tr b2))
    · have hm := h.1
      rw [hS] at hm
      refine many_ok (T := (n, p, W)) hm ⟨hi, by decide, fun e => absurd c.1 (by omega), fun _ => ⟨⟨by show -2147483648 ≤ n; omega, by show n ≤ 2147483647; omega⟩, fun e => absurd c.2 (by have e : n < i := e; omega), fun _ => ⟨by decide, fun _ => keeps_ok h hV (fun v1 a1 b1 => ?_), fun e => absurd e (by decide)⟩⟩⟩
      have hm1 := a1.1
      rw [hS] at hm1
      exact goesTo_ok hm1 c.1 c.2 (fun v2 a2 b2 => hp _ (mj_i3 a1 a2 b2) (b1.tr (fxm_i3 b2)))
  · refine act_no (-4) (by decide) hV (fun u post h hp => ?_) (fun v post h hp => ?_)
    · have hy := h.1
      unfold TxJ at hy
      rw [hS] at hy
      exact ⟨hi, fun _ => hp, fun e => ln_length hy ⟨⟨by show -2147483648 ≤ n; omega, by show n ≤ 2147483647; omega⟩, fun e2 => absurd e2 (by show ¬ i ≤ n; omega), fun _ => hp⟩⟩
    · have hm := h.1
      rw [hS] at hm
      exact many_ok (T := (n, p, W)) hm ⟨hi, by decide, fun e => ⟨by decide, fun e => absurd rfl e, fun _ => hp⟩, fun e => ⟨⟨by show -2147483648 ≤ n; omega, by show n ≤ 2147483647; omega⟩, fun e2 => ⟨by decide, fun e => absurd rfl e, fun _ => hp⟩, fun e2 => absurd e2 (by show ¬ ¬ n < i; omega)⟩⟩
theorem act_cross {G : Gr} {g : Sg} (hV : VS g) : Act G (fun post mc ms u => w_X1_cross post mc ms G u) w_X10_swaps g := by
  have hT := hV.2.2.1 0 (by omega) hV.1
  rcases hS : gS g 0 with ⟨n, p, W⟩
  rw [hS] at hT
  obtain ⟨t0, t1, t2, t3⟩ := hT
  have t0 : 0 ≤ p := t0
  have t1 : p ≤ n := t1
  have t2 : n ≤ 100 := t2
  have c0 := hV.2.2.2.2.2.1
  have c1 := hV.2.2.2.2.2.2
  by_cases c : 0 < p ∧ p < n
  · refine act_yes (W p) (n, p, swpW W p) 1 (gC g) 0 0 (wz (T := (n, p, W)) ⟨t0, t1, t2, t3⟩ t0 c.2) hV ⟨t0, t1, t2, w_swp t3 c.1 c.2⟩ (Or.inr (Or.inl ⟨rfl, c.1⟩)) (by omega) c0 c1 (by omega) (by omega) (fun u post h hp => ?_) (fun v post h hp => ?_)
    · obtain ⟨hy, hE⟩ := h
      unfold TxJ at hy
      rw [hS] at hy
      refine ln_hasB (by decide) (by decide) hy (fun e => absurd e (by show ¬ p = 0; omega)) (fun _ => ⟨by decide, fun e => absurd e (by decide), fun _ => ?_⟩)
      refine ln_hasA hy (fun e => absurd e (by show ¬ p = n; omega)) (fun _ => ⟨by decide, fun _ => ⟨0, 0, by omega, by omega, ?_⟩, fun e => absurd e (by decide)⟩)
      refine ln_cross hy c.1 c.2 (fun u' a b => ?_)
      refine conclude_ok (g := g) (T := (n, p, swpW W p)) a (hE.fr b) ⟨hV.1, hV.2.1⟩ (Or.inr (Or.inr (Or.inr (Or.inr (Or.inr (Or.inr ⟨rfl, c.1, c.2, ?_⟩)))))) (fun u'' a2 b2 => hp u'' a2 (b.x.tr b2))
      rw [hS]
      show (n, p, W) = (n, p, swpW (swpW W p) p)
      rw [swp_swp]
    · have hm := h.1
      rw [hS] at hm
      have e := hm.c
      refine ⟨⟨by omega, by omega⟩, fun e => absurd e (by omega), fun _ => ⟨⟨by omega, by omega⟩, fun _ => keeps_ok h hV (fun v1 a1 b1 => ?_), fun e => absurd e (by omega)⟩⟩
      have hm1 := a1.1
      rw [hS] at hm1
      have e1 := hm1.c
      have e2 : sA v1 1 (sI v1 2 - 1) = W p := TA.last hm1 c.2
      have hT1 : MT (pA (pA v1 0 (sI v1 1 - 1) (sA v1 1 (sI v1 2 - 1))) 1 (sI v1 2 - 1) (sA v1 0 (sI v1 1 - 1))) (n, p, swpW W p) := TA.swp hm1 c.1 c.2
      have hF : FrM v1 (pA (pA v1 0 (sI v1 1 - 1) (sA v1 1 (sI v1 2 - 1))) 1 (sI v1 2 - 1) (sA v1 0 (sI v1 1 - 1))) := ⟨fun k a b => rfl, fun k a b => by rw [sA_pA, if_neg b, sA_pA, if_neg a]⟩
      refine ⟨by omega, by omega, by omega, by omega, ?_⟩
      rw [zset_at, if_pos rfl]
      have key := hp _ (mj_i3 a1 hT1 hF) (b1.tr (fxm_i3 hF))
      rw [← e2] at key
      exact key
  · refine act_no (-2) (by decide) hV (fun u post h hp => ?_) (fun v post h hp => ?_)
    · have hy := h.1
      unfold TxJ at hy
      rw [hS] at hy
      refine ln_hasB (by decide) (by decide) hy (fun _ => ⟨by decide, fun _ => hp, fun e => absurd rfl e⟩) (fun d => ⟨by decide, fun e => absurd e (by decide), fun _ => ?_⟩)
      exact ln_hasA hy (fun _ => ⟨by decide, fun e => absurd rfl e, fun _ => hp⟩) (fun d2 => absurd ⟨d, d2⟩ c)
    · have hm := h.1
      rw [hS] at hm
      have e := hm.c
      exact ⟨⟨by omega, by omega⟩, fun _ => hp, fun d => ⟨⟨by omega, by omega⟩, fun d2 => absurd c (by omega), fun _ => hp⟩⟩
