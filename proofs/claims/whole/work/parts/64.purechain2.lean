/-! the line of the chain: its other acts -/
/-- where a word comes from: the one at q taken out -/
def dpN (n q j : Int) : Int := if j < q then j else if j < n - 1 then j + 1 else if j = n - 1 then q else j
theorem dp_lt {n q j : Int} (h : j < q) : dpN n q j = j := if_pos h
theorem dp_mid {n q j : Int} (h : q ≤ j) (h' : j < n - 1) : dpN n q j = j + 1 := by
  unfold dpN
  rw [if_neg (by omega), if_pos h']
theorem dp_eq {n q : Int} (h : q < n) : dpN n q (n - 1) = q := by
  unfold dpN
  rw [if_neg (by omega), if_neg (by omega), if_pos rfl]
theorem dp_gt {n q j : Int} (h : q < n) (h' : n ≤ j) : dpN n q j = j := by
  unfold dpN
  rw [if_neg (by omega), if_neg (by omega), if_neg (by omega)]
theorem dp_inj {n q i j : Int} (h : q < n) (e : dpN n q i = dpN n q j) : i = j := by
  unfold dpN at e
  split at e <;> split at e <;> (try split at e) <;> (try split at e) <;> (try split at e) <;> omega
theorem dp_dom {n q i : Int} (h0 : 0 ≤ q) (hq : q < n) (hn : n ≤ 100) (a : 0 ≤ i) (b : i < 100) : 0 ≤ dpN n q i ∧ dpN n q i < 100 := by
  unfold dpN
  split
  · omega
  · split
    · omega
    · split <;> omega
theorem lkd_lt {nd : Int → Nat} {n q j : Int} (hq : q < n) (hj : j < q) : lk (fun j => nd (dpN n q j)) (n - 1) j = lk nd n j := lk_eq (by omega) (fun _ _ => by rw [dp_lt hj])
theorem lkd_ge {nd : Int → Nat} {n q j : Int} (h0 : 0 ≤ q) (hj : q ≤ j) : lk (fun j => nd (dpN n q j)) (n - 1) j = lk nd n (j + 1) := lk_eq (by omega) (fun _ _ => by rw [dp_mid hj (by omega)])
theorem nds_drp {u u' : St} {nd : Int → Nat} {n q x : Int} {z : Option Nat} {W : Int → Int} (h : Nds u nd n W) (h0 : 0 ≤ q) (hq : q < n) (hn : n ≤ 100) (hL : sL u' = sL u)
    (hN : sF u' (nd q) = ndE x z (lk nd 100 n))
    (hB : 0 < q → sF u' (nd (q - 1)) = ndE (W (q - 1)) (lk nd n (q - 1 - 1)) (lk nd n (q + 1)))
    (hA : q + 1 < n → sF u' (nd (q + 1)) = ndE (W (q + 1)) (lk nd n (q - 1)) (lk nd n (q + 1 + 1)))
    (hO : ∀ i, 0 ≤ i → i < 100 → i ≠ q → (i ≠ q - 1) → i ≠ q + 1 ∨ n ≤ i → sF u' (nd i) = sF u (nd i)) : Nds u' (fun j => nd (dpN n q j)) (n - 1) (drpW W q) := by
  obtain ⟨n1, n2, n3, n4⟩ := h
  refine ⟨fun i j a b c d e => ?_, fun i a b => ?_, fun i a b => ?_, fun i a b c => ?_⟩
  · have di := dp_dom h0 hq hn a b
    have dj := dp_dom h0 hq hn c d
    exact dp_inj hq (n1 _ _ di.1 di.2 dj.1 dj.2 e)
  · have di := dp_dom h0 hq hn a b
    rw [hL]
    exact n2 _ di.1 di.2
  · show sF u' (nd (dpN n q i)) = _
    by_cases c1 : i < q
    · rw [lkd_lt hq (by omega), dp_lt c1]
      unfold drpW
      rw [if_pos c1]
      by_cases c2 : i = q - 1
      · subst c2
        rw [lkd_ge (j := q - 1 + 1) h0 (by omega), hB (by omega), show q - 1 + 1 + 1 = q + 1 by omega]
      · rw [lkd_lt hq (by omega), hO i a (by omega) (by omega) c2 (by omega)]
        exact n3 i a (by omega)
    · rw [lkd_ge (j := i + 1) h0 (by omega), dp_mid (by omega) b]
      unfold drpW
      rw [if_neg c1]
      by_cases c2 : i = q
      · subst c2
        rw [lkd_lt (j := i - 1) hq (by omega)]
        exact hA (by omega)
      · rw [lkd_ge (j := i - 1) h0 (by omega), show i - 1 + 1 = i + 1 - 1 by omega, hO (i + 1) (by omega) (by omega) (by omega) (by omega) (by omega)]
        exact n3 (i + 1) (by omega) (by omega)
  · show ∃ x b, sF u' (nd (dpN n q i)) = _
    by_cases c1 : i = n - 1
    · subst c1
      rw [dp_eq hq]
      refine ⟨x, z, ?_⟩
      rw [hN]
      congr 1
      exact lk_eq (by omega) (fun _ _ => by rw [dp_gt hq (by omega)]; congr 1; omega)
    · rw [dp_gt hq (by omega), hO i c b (by omega) (by omega) (by omega)]
      obtain ⟨y, w, e⟩ := n4 i (by omega) b c
      refine ⟨y, w, ?_⟩
      rw [e]
      congr 1
      exact lk_eq (by omega) (fun _ _ => by rw [dp_gt hq (by omega)])
/-- what a drop does: the two beside joined, the node in front of the spare ones -/
theorem drop_core {post : Int → St → Prop} {u u1 : St} {nd : Int → Nat} {n q : Int} {W : Int → Int} (hN : Nds u nd n W) (h0 : 0 ≤ q) (hq : q < n) (hn : n ≤ 100) (hL : sL u1 = sL u) (hF : ∀ r, sF u1 r = sF u r) (r3 : sR u1 3 = lk nd 100 n) (d : Int)
    (hp : ∀ u', Nds u' (fun j => nd (dpN n q j)) (n - 1) (drpW W q) → FrC u1 u' → sI u' 12 = sI u1 12 - d → sI u' 13 = sI u1 13 - 1 → sR u' 1 = sR u1 1 → sR u' 2 = sR u1 2 → sR u' 3 = lk (fun j => nd (dpN n q j)) 100 (n - 1) → post (W q) u') :
    w_X0_join (fun (u12 : St) => (∃ (w13 : Int) (b14 f15 : Option Nat), (nd q ∈ sL u12) ∧ (sF u12 (nd q) = ndE w13 b14 f15) ∧ (∃ (w18 : Int) (b19 f20 : Option Nat), (nd q ∈ sL (pF u12 (nd q) (ndE w13 none f15))) ∧ (sF (pF u12 (nd q) (ndE w13 none f15)) (nd q) = ndE w18 b19 f20) ∧ (∃ (w24 : Int) (b25 f26 : Option Nat), (nd q ∈ sL (pI (pI (pR (pF (pF u12 (nd q) (ndE w13 none f15)) (nd q) (ndE w18 b19 (sR u12 3))) 3 (some (nd q))) 12 ((sI u12 12) - d)) 13 ((sI u12 13) - 1))) ∧ (sF (pI (pI (pR (pF (pF u12 (nd q) (ndE w13 none f15)) (nd q) (ndE w18 b19 (sR u12 3))) 3 (some (nd q))) 12 ((sI u12 12) - d)) 13 ((sI u12 13) - 1)) (nd q) = ndE w24 b25 f26) ∧ post w24 (pI (pI (pR (pF (pF u12 (nd q) (ndE w13 none f15)) (nd q) (ndE w18 b19 (sR u12 3))) 3 (some (nd q))) 12 ((sI u12 12) - d)) 13 ((sI u12 13) - 1)))))) u1 (lk nd n (q - 1)) (lk nd n (q + 1)) := by
  have n1 := hN.1
  have n2 := hN.2.1
  have n3 := hN.2.2.1
  refine join_ok (wa := W (q - 1)) (xa := lk nd n (q - 1 - 1)) (ya := lk nd n (q - 1 + 1)) (wb := W (q + 1)) (xb := lk nd n (q + 1 - 1)) (yb := lk nd n (q + 1 + 1)) (fun r ha hb => ?_) (fun r ha => ?_) (fun r hb => ?_) (fun u2 i2 j2 k2 a2 b2 o2 => ?_)
  · obtain ⟨c1, c2, c3⟩ := lk_some ha
    obtain ⟨d1, d2, d3⟩ := lk_some hb
    have := n1 _ _ c1 (by omega) d1 (by omega) (c3.symm.trans d3)
    omega
  · obtain ⟨c1, c2, rfl⟩ := lk_some ha
    exact ⟨hL ▸ n2 _ c1 (by omega), by rw [hF, n3 _ c1 c2]⟩
  · obtain ⟨c1, c2, rfl⟩ := lk_some hb
    exact ⟨hL ▸ n2 _ c1 (by omega), by rw [hF, n3 _ c1 c2]⟩
  · have hL2 : sL u2 = sL u := k2.2.2.2.1.trans hL
    have hne : ∀ i, 0 ≤ i → i < 100 → i ≠ q → nd i ≠ nd q := fun i a b c e => c (n1 i q a b h0 (by omega) e)
    have e2 : sF u2 (nd q) = ndE (W q) (lk nd n (q - 1)) (lk nd n (q + 1)) := by
      rw [o2 (nd q) (fun c => ?_) (fun c => ?_), hF, n3 q h0 hq]
      · obtain ⟨d1, d2, d3⟩ := lk_some c
        have := n1 _ _ h0 (by omega) d1 (by omega) d3
        omega
      · obtain ⟨d1, d2, d3⟩ := lk_some c
        have := n1 _ _ h0 (by omega) d1 (by omega) d3
        omega
    have m2 : nd q ∈ sL u2 := hL2 ▸ n2 q h0 (by omega)
    refine ⟨_, _, _, m2, e2, W q, none, lk nd n (q + 1), m2, by rw [sF_pF, if_pos rfl], W q, none, sR u2 3, m2, by rw [sF_pI, sF_pI, sF_pR, sF_pF, if_pos rfl], ?_⟩
    have e3 : sR u2 3 = lk nd 100 n := (j2 3).trans r3
    refine hp _ (nds_drp (x := W q) (z := none) hN h0 hq hn hL2 ?_ (fun c => ?_) (fun c => ?_) (fun i a b c1 c2 c3 => ?_)) ((k2.tr (FrC.nd e2)).tr ((FrC.nd (by rw [sF_pF, if_pos rfl])).tr ((FrC.r (by decide)).tr (FrC.i12.tr FrC.i13)))) ?_ ?_ (j2 1) (j2 2) ?_
    · rw [sF_pI, sF_pI, sF_pR, sF_pF, if_pos rfl, e3]
    · rw [sF_pI, sF_pI, sF_pR, sF_pF, if_neg (hne (q - 1) (by omega) (by omega) (by omega)), sF_pF, if_neg (hne (q - 1) (by omega) (by omega) (by omega))]
      exact a2 _ (lk_in (by omega) (by omega))
    · rw [sF_pI, sF_pI, sF_pR, sF_pF, if_neg (hne (q + 1) (by omega) (by omega) (by omega)), sF_pF, if_neg (hne (q + 1) (by omega) (by omega) (by omega))]
      exact b2 _ (lk_in (by omega) (by omega))
    · rw [sF_pI, sF_pI, sF_pR, sF_pF, if_neg (hne i a b c1), sF_pF, if_neg (hne i a b c1), o2 (nd i) (fun c => ?_) (fun c => ?_), hF]
      · obtain ⟨d1, d2, d3⟩ := lk_some c
        have := n1 _ _ a b d1 (by omega) d3
        omega
      · obtain ⟨d1, d2, d3⟩ := lk_some c
        have := n1 _ _ a b d1 (by omega) d3
        omega
    · show sI u2 12 - d = _
      rw [i2]
    · show sI u2 13 - 1 = _
      rw [i2]
    · show some (nd q) = _
      rw [lk_in (by omega) (by omega), dp_eq hq]
theorem chn_dropA {post : Int → St → Prop} {u : St} {n p : Int} {W : Int → Int} (h : Chn u n p W) (hn : p < n) (hp : ∀ u', Chn u' (n - 1) p (drpW W p) → FrC u u' → post (W p) u') : w_X0_drop post u 0 := by
  obtain ⟨h1, h2, h3, h4, h5, nd, hN, r1, r2, r3⟩ := h
  rw [lk_in h1 hn] at r2
  refine ⟨⟨by omega, by omega⟩, fun _ => ⟨fun c => (by rw [r2] at c; cases c), fun q hq => ?_⟩, fun c => absurd rfl c⟩
  rw [r2] at hq
  cases hq
  refine ⟨_, _, _, hN.2.1 p h1 (by omega), hN.2.2.1 p h1 hn, ?_⟩
  rw [r1, r2]
  refine drop_core (u1 := pR (pR u 1 (lk nd n (p - 1))) 2 (lk nd n (p + 1))) hN h1 hn h3 rfl (fun _ => rfl) r3 0 (fun u' a b c d e f g => hp u' ⟨h1, by omega, by omega, ?_, ?_, _, a, ?_, ?_, g⟩ (((FrC.r (by decide)).tr (FrC.r (by decide))).tr b))
  · rw [c]
    show sI u 12 - 0 = p
    omega
  · rw [d]
    show sI u 13 - 1 = n - 1
    omega
  · rw [e, lkd_lt hn (by omega)]
    rfl
  · rw [f, lkd_ge h1 (by omega)]
    rfl
theorem chn_dropB {post : Int → St → Prop} {u : St} {n p : Int} {W : Int → Int} (h : Chn u n p W) (hn : 0 < p) (hp : ∀ u', Chn u' (n - 1) (p - 1) (drpW W (p - 1)) → FrC u u' → post (W (p - 1)) u') : w_X0_drop post u 1 := by
  obtain ⟨h1, h2, h3, h4, h5, nd, hN, r1, r2, r3⟩ := h
  rw [lk_in (by omega) (by omega)] at r1
  refine ⟨⟨by omega, by omega⟩, fun c => absurd c (by decide), fun _ => ⟨fun c => (by rw [r1] at c; cases c), fun q hq => ?_⟩⟩
  rw [r1] at hq
  cases hq
  refine ⟨_, _, _, hN.2.1 (p - 1) (by omega) (by omega), hN.2.2.1 (p - 1) (by omega) (by omega), ?_⟩
  rw [r1, r2]
  rw [show lk nd n p = lk nd n (p - 1 + 1) by congr 1; omega]
  refine drop_core (u1 := pR (pR u 1 (lk nd n (p - 1 - 1))) 2 (lk nd n (p - 1 + 1))) hN (q := p - 1) (by omega) (by omega) h3 rfl (fun _ => rfl) r3 1 (fun u' a b c d e f g => hp u' ⟨by omega, by omega, by omega, ?_, ?_, _, a, ?_, ?_, g⟩ (((FrC.r (by decide)).tr (FrC.r (by decide))).tr b))
  · rw [c]
    show sI u 12 - 1 = p - 1
    omega
  · rw [d]
    show sI u 13 - 1 = n - 1
    omega
  · rw [e, lkd_lt (by omega) (by omega)]
    rfl
  · rw [f, lkd_ge (by omega) (by omega)]
    rfl
theorem chn_dropB0 {post : Int → St → Prop} {u : St} {n : Int} {W : Int → Int} (h : Chn u n 0 W) (hp : post (-3) u) : w_X0_drop post u 1 := by
  obtain ⟨h1, h2, h3, h4, h5, nd, hN, r1, r2, r3⟩ := h
  rw [lk_out (by omega)] at r1
  exact ⟨⟨by omega, by omega⟩, fun c => absurd c (by decide), fun _ => ⟨fun _ => hp, fun q hq => (by rw [r1] at hq; cases hq)⟩⟩
theorem chn_dropA0 {post : Int → St → Prop} {u : St} {n : Int} {W : Int → Int} (h : Chn u n n W) (hp : post (-3) u) : w_X0_drop post u 0 := by
  obtain ⟨h1, h2, h3, h4, h5, nd, hN, r1, r2, r3⟩ := h
  rw [lk_out (by omega)] at r2
  exact ⟨⟨by omega, by omega⟩, fun _ => ⟨fun _ => hp, fun q hq => (by rw [r2] at hq; cases hq)⟩, fun c => absurd rfl c⟩
theorem nds_put {u u' : St} {nd : Int → Nat} {n i x : Int} {W : Int → Int} (h : Nds u nd n W) (h0 : 0 ≤ i) (hi : i < n) (hn : n ≤ 100) (hL : sL u' = sL u) (hN : sF u' (nd i) = ndE x (lk nd n (i - 1)) (lk nd n (i + 1))) (hO : ∀ q, q ≠ nd i → sF u' q = sF u q) : Nds u' nd n (setW W i x) := by
  obtain ⟨n1, n2, n3, n4⟩ := h
  have hne : ∀ j, 0 ≤ j → j < 100 → j ≠ i → nd j ≠ nd i := fun j a b c e => c (n1 j i a b h0 (by omega) e)
  refine ⟨n1, fun j a b => hL ▸ n2 j a b, fun j a b => ?_, fun j a b c => ?_⟩
  · unfold setW
    by_cases c : j = i
    · subst c
      rw [if_pos rfl]
      exact hN
    · rw [if_neg c, hO _ (hne j a (by omega) c)]
      exact n3 j a b
  · rw [hO _ (hne j c b (by omega))]
    exact n4 j a b c
theorem chn_exchA {post : Int → St → Prop} {u : St} {n p x : Int} {W : Int → Int} (h : Chn u n p W) (hn : p < n) (hp : ∀ u', Chn u' n p (setW W p x) → FrC u u' → post (W p) u') : w_X0_exchange post u x 0 := by
  obtain ⟨h1, h2, h3, h4, h5, nd, hN, r1, r2, r3⟩ := h
  rw [lk_in h1 hn] at r2
  refine ⟨⟨by omega, by omega⟩, fun _ => ⟨fun c => (by rw [r2] at c; cases c), fun q hq => ?_⟩, fun c => absurd rfl c⟩
  rw [r2] at hq
  cases hq
  refine ⟨_, _, _, hN.2.1 p h1 (by omega), hN.2.2.1 p h1 hn, hp _ ⟨h1, h2, h3, h4, h5, nd, nds_put (x := x) hN h1 hn h3 rfl (by rw [sF_pF, if_pos rfl]) (fun q hq => by rw [sF_pF, if_neg hq]), r1, ?_, r3⟩ (FrC.nd (hN.2.2.1 p h1 hn))⟩
  rw [lk_in h1 hn]
  exact r2
theorem chn_exchB {post : Int → St → Prop} {u : St} {n p x : Int} {W : Int → Int} (h : Chn u n p W) (hn : 0 < p) (hp : ∀ u', Chn u' n p (setW W (p - 1) x) → FrC u u' → post (W (p - 1)) u') : w_X0_exchange post u x 1 := by
  obtain ⟨h1, h2, h3, h4, h5, nd, hN, r1, r2, r3⟩ := h
  rw [lk_in (by omega) (by omega)] at r1
  refine ⟨⟨by omega, by omega⟩, fun c => absurd c (by decide), fun _ => ⟨fun c => (by rw [r1] at c; cases c), fun q hq => ?_⟩⟩
  rw [r1] at hq
  cases hq
  have e := hN.2.2.1 (p - 1) (by omega) (by omega)
  refine ⟨_, _, _, hN.2.1 (p - 1) (by omega) (by omega), e, hp _ ⟨h1, h2, h3, h4, h5, nd, nds_put (x := x) hN (by omega) (by omega) h3 rfl (by rw [sF_pF, if_pos rfl]) (fun q hq => by rw [sF_pF, if_neg hq]), ?_, r2, r3⟩ (FrC.nd e)⟩
  exact r1.trans (lk_in (by omega) (by omega)).symm
theorem swp_set (W : Int → Int) (p : Int) : setW (setW W p (W (p - 1))) (p - 1) (W p) = swpW W p := by
  funext j
  unfold setW swpW
  rfl
theorem chn_cross {post : Int → St → Prop} {u : St} {n p : Int} {W : Int → Int} (h : Chn u n p W) (h0 : 0 < p) (hn : p < n) (hp : ∀ u', Chn u' n p (swpW W p) → FrC u u' → post (W p) u') : w_X0_cross post u := by
  obtain ⟨h1, h2, h3, h4, h5, nd, hN, r1, r2, r3⟩ := h
  rw [lk_in (by omega) (by omega)] at r1
  rw [lk_in h1 hn] at r2
  refine ⟨fun c => (by rw [r1] at c; cases c), fun q hq => ⟨fun c => (by rw [r2] at c; cases c), fun q2 hq2 => ?_⟩⟩
  rw [r1] at hq
  cases hq
  rw [r2] at hq2
  cases hq2
  have e1 := hN.2.2.1 (p - 1) (by omega) (by omega)
  have e2 := hN.2.2.1 p h1 hn
  have m1 := hN.2.1 (p - 1) (by omega) (by omega)
  have hN2 : Nds (pF u (nd p) (ndE (W (p - 1)) (lk nd n (p - 1)) (lk nd n (p + 1)))) nd n (setW W p (W (p - 1))) := nds_put hN h1 hn h3 rfl (by rw [sF_pF, if_pos rfl]) (fun q hq => by rw [sF_pF, if_neg hq])
  have e3 : sF (pF u (nd p) (ndE (W (p - 1)) (lk nd n (p - 1)) (lk nd n (p + 1)))) (nd (p - 1)) = ndE (W (p - 1)) (lk nd n (p - 1 - 1)) (lk nd n (p - 1 + 1)) := by
    rw [sF_pF, if_neg (fun c => ?_), e1]
    have := hN.1 _ _ (by omega) (by omega) h1 (by omega) c
    omega
  refine ⟨_, _, _, hN.2.1 p h1 (by omega), e2, _, _, _, m1, e1, _, _, _, m1, e3, hp _ ⟨h1, h2, h3, h4, h5, nd, ?_, ?_, ?_, r3⟩ ((FrC.nd e2).tr (FrC.nd e3))⟩
  · rw [← swp_set]
    exact nds_put hN2 (by omega) (by omega) h3 rfl (by rw [sF_pF, if_pos rfl]) (fun q hq => by rw [sF_pF, if_neg hq])
  · rw [lk_in (by omega) (by omega)]
    exact r1
  · rw [lk_in h1 hn]
    exact r2
theorem chn_empty {post : St → Prop} {u : St} {n p : Int} {W : Int → Int} (W' : Int → Int) (h : Chn u n p W) (hp : ∀ u', Chn u' 0 0 W' → FrC u u' → post u') : w_X0_empty post u := by
  refine Lp.inv (fun t : St × Int => 0 ≤ t.2 ∧ t.2 ≤ 100 ∧ FrC u t.1 ∧ ∃ n p W, Chn t.1 n p W ∧ p ≤ 100 - t.2 ∧ n - p ≤ 100 - t.2) (fun t => (100 - t.2).toNat) _ ⟨by show (0 : Int) ≤ 0; decide, by show (0 : Int) ≤ 100; decide, FrC.rf, n, p, W, h, ?_, ?_⟩ ?_
  · show p ≤ 100 - 0
    have := h.2.1
    have := h.2.2.1
    omega
  · show n - p ≤ 100 - 0
    have := h.1
    have := h.2.2.1
    omega
  rintro K ⟨w, x⟩ ⟨i1, i2, i3, n1, p1, W1, i4, i5, i6⟩ hK
  have i1 : 0 ≤ x := i1
  have i2 : x ≤ 100 := i2
  have i5 : p1 ≤ 100 - x := i5
  have i6 : n1 - p1 ≤ 100 - x := i6
  have d1 := i4.1
  have d2 := i4.2.1
  have d3 := i4.2.2.1
  refine ⟨⟨by omega, by omega⟩, fun c => ?_, fun c => ?_⟩
  · have c : 100 ≤ x := c
    have e1 : p1 = 0 := by omega
    have e2 : n1 = 0 := by omega
    subst e1
    subst e2
    obtain ⟨h1, h2, h3, h4, h5, nd, hN, r1, r2, r3⟩ := i4
    exact hp w ⟨h1, h2, h3, h4, h5, nd, ⟨hN.1, hN.2.1, fun i a b => absurd b (by omega), hN.2.2.2⟩, r1, r2, r3⟩ i3
  · have step : ∀ (w1 : St) (n2 p2 : Int) (W2 : Int → Int), FrC u w1 → Chn w1 n2 p2 W2 → p2 ≤ 100 - (x + 1) → n2 - p2 ≤ 100 - x → w_X0_drop (fun (z7 : Int) (u8 : St) => K (u8, x + 1)) w1 0 := by
      intro w1 n2 p2 W2 f1 f2 f3 f4
      have g1 := f2.1
      have g2 := f2.2.1
      have g3 := f2.2.2.1
      by_cases c2 : p2 = n2
      · subst c2
        exact chn_dropA0 f2 (hK _ ⟨by show 0 ≤ x + 1; omega, by show x + 1 ≤ 100; omega, f1, p2, p2, W2, f2, f3, by show p2 - p2 ≤ 100 - (x + 1); omega⟩ (by show (100 - (x + 1)).toNat < (100 - x).toNat; omega))
      · refine chn_dropA f2 (by omega) (fun w2 k1 k2 => hK _ ⟨by show 0 ≤ x + 1; omega, by show x + 1 ≤ 100; omega, f1.tr k2, _, _, _, k1, f3, by show n2 - 1 - p2 ≤ 100 - (x + 1); omega⟩ (by show (100 - (x + 1)).toNat < (100 - x).toNat; omega))
    by_cases c2 : p1 = 0
    · subst c2
      exact chn_dropB0 i4 (step w n1 0 W1 i3 i4 (by omega) (by omega))
    · exact chn_dropB i4 (by omega) (fun w2 k1 k2 => step w2 _ _ _ (i3.tr k2) k1 (by omega) (by omega))
theorem chn_wordOf {post : Int → Prop} {u : St} {n p j : Int} {W : Int → Int} (h : Chn u n p W) (h0 : 0 ≤ j) (hn : j < n) (hp : post (W j)) : w_X0_wordOf post u j := by
  obtain ⟨h1, h2, h3, h4, h5, nd, hN, r1, r2, r3⟩ := h
  refine ⟨⟨by omega, by omega⟩, ⟨by omega, by omega⟩, fun c => ?_, fun c => ?_⟩
  · rw [h4] at c
    refine ⟨⟨by omega, by omega⟩, fun _ => ⟨⟨by omega, by omega⟩, fun _ => ?_, fun c => absurd rfl c⟩, fun c => absurd rfl c⟩
    rw [h4]
    refine Lp.inv (fun t : Option Nat × Int => 0 ≤ t.2 ∧ t.2 ≤ j - p ∧ t.1 = lk nd n (p + t.2)) (fun t => (j - p - t.2).toNat) _ ⟨by show (0 : Int) ≤ 0; decide, by show 0 ≤ j - p; omega, by show sR u 2 = lk nd n (p + 0); rw [r2]; congr 1; omega⟩ ?_
    rintro K ⟨r, x⟩ ⟨i1, i2, i3⟩ hK
    have i1 : 0 ≤ x := i1
    have i2 : x ≤ j - p := i2
    have i3 : r = lk nd n (p + x) := i3
    rw [lk_in (by omega) (by omega)] at i3
    subst i3
    have e := hN.2.2.1 (p + x) (by omega) (by omega)
    have m := hN.2.1 (p + x) (by omega) (by omega)
    refine ⟨⟨by omega, by omega⟩, ⟨by omega, by omega⟩, fun c2 => ⟨fun c => (by cases c), fun q hq => ?_⟩, fun c2 => ⟨fun c => (by cases c), fun q hq => ⟨⟨by omega, by omega⟩, fun _ => ?_, fun c => absurd rfl c⟩⟩⟩
    · cases hq
      refine ⟨_, _, _, m, e, ?_⟩
      have c2 : j - p ≤ x := c2
      rw [show p + x = j by omega]
      exact hp
    · cases hq
      have c2 : ¬ j - p ≤ x := c2
      refine ⟨_, _, _, m, e, hK _ ⟨by show 0 ≤ x + 1; omega, by show x + 1 ≤ j - p; omega, ?_⟩ (by show (j - p - (x + 1)).toNat < (j - p - x).toNat; omega)⟩
      show lk nd n (p + x + 1) = lk nd n (p + (x + 1))
      congr 1
      omega
  · rw [h4] at c
    refine ⟨⟨by omega, by omega⟩, fun c => absurd c (by decide), fun _ => ⟨⟨by omega, by omega⟩, fun c => absurd c (by decide), fun _ => ?_⟩⟩
    rw [h4]
    refine Lp.inv (fun t : Option Nat × Int => 0 ≤ t.2 ∧ t.2 ≤ p - 1 - j ∧ t.1 = lk nd n (p - 1 - t.2)) (fun t => (p - 1 - j - t.2).toNat) _ ⟨by show (0 : Int) ≤ 0; decide, by show 0 ≤ p - 1 - j; omega, by show sR u 1 = lk nd n (p - 1 - 0); rw [r1]; congr 1; omega⟩ ?_
    rintro K ⟨r, x⟩ ⟨i1, i2, i3⟩ hK
    have i1 : 0 ≤ x := i1
    have i2 : x ≤ p - 1 - j := i2
    have i3 : r = lk nd n (p - 1 - x) := i3
    rw [lk_in (by omega) (by omega)] at i3
    subst i3
    have e := hN.2.2.1 (p - 1 - x) (by omega) (by omega)
    have m := hN.2.1 (p - 1 - x) (by omega) (by omega)
    refine ⟨⟨by omega, by omega⟩, ⟨by omega, by omega⟩, fun c2 => ⟨fun c => (by cases c), fun q hq => ?_⟩, fun c2 => ⟨fun c => (by cases c), fun q hq => ⟨⟨by omega, by omega⟩, fun c => absurd c (by decide), fun _ => ?_⟩⟩⟩
    · cases hq
      refine ⟨_, _, _, m, e, ?_⟩
      have c2 : p - 1 - j ≤ x := c2
      rw [show p - 1 - x = j by omega]
      exact hp
    · cases hq
      have c2 : ¬ p - 1 - j ≤ x := c2
      refine ⟨_, _, _, m, e, hK _ ⟨by show 0 ≤ x + 1; omega, by show x + 1 ≤ p - 1 - j; omega, ?_⟩ (by show (p - 1 - j - (x + 1)).toNat < (p - 1 - j - x).toNat; omega)⟩
      show lk nd n (p - 1 - x - 1) = lk nd n (p - 1 - (x + 1))
      congr 1
      omega
