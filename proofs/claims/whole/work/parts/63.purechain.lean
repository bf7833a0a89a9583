/-! the line of the chain: its 100 nodes by place, the line's own first, then the spare ones -/
def lk (nd : Int → Nat) (n i : Int) : Option Nat := if 0 ≤ i ∧ i < n then some (nd i) else none
theorem lk_in {nd : Int → Nat} {n i : Int} (h0 : 0 ≤ i) (h1 : i < n) : lk nd n i = some (nd i) := if_pos ⟨h0, h1⟩
theorem lk_out {nd : Int → Nat} {n i : Int} (h : i < 0 ∨ n ≤ i) : lk nd n i = none := if_neg (by omega)
theorem lk_eq {nd nd' : Int → Nat} {n n' i i' : Int} (hc : (0 ≤ i ∧ i < n) ↔ (0 ≤ i' ∧ i' < n')) (hv : 0 ≤ i → i < n → nd i = nd' i') : lk nd n i = lk nd' n' i' := by
  unfold lk
  by_cases h : 0 ≤ i ∧ i < n
  · rw [if_pos h, if_pos (hc.mp h), hv h.1 h.2]
  · rw [if_neg h, if_neg (fun c => h (hc.mpr c))]
theorem lk_some {nd : Int → Nat} {n i : Int} {q : Nat} (h : lk nd n i = some q) : 0 ≤ i ∧ i < n ∧ q = nd i := by
  unfold lk at h
  by_cases c : 0 ≤ i ∧ i < n
  · rw [if_pos c] at h
    exact ⟨c.1, c.2, (Option.some.inj h).symm⟩
  · rw [if_neg c] at h
    cases h
def Nds (u : St) (nd : Int → Nat) (n : Int) (W : Int → Int) : Prop := (∀ i j, 0 ≤ i → i < 100 → 0 ≤ j → j < 100 → nd i = nd j → i = j) ∧ (∀ i, 0 ≤ i → i < 100 → nd i ∈ sL u) ∧ (∀ i, 0 ≤ i → i < n → sF u (nd i) = ndE (W i) (lk nd n (i - 1)) (lk nd n (i + 1))) ∧ (∀ i, n ≤ i → i < 100 → 0 ≤ i → ∃ x b, sF u (nd i) = ndE x b (lk nd 100 (i + 1)))
def Chn (u : St) (n p : Int) (W : Int → Int) : Prop := 0 ≤ p ∧ p ≤ n ∧ n ≤ 100 ∧ sI u 12 = p ∧ sI u 13 = n ∧ ∃ nd : Int → Nat, Nds u nd n W ∧ sR u 1 = lk nd n (p - 1) ∧ sR u 2 = lk nd n p ∧ sR u 3 = lk nd 100 n
def FrC (u u' : St) : Prop := (∀ k, k ≠ 12 → k ≠ 13 → sI u' k = sI u k) ∧ (∀ k, sA u' k = sA u k) ∧ sR u' 0 = sR u 0 ∧ sL u' = sL u ∧ (∀ q, (∀ x b f, sF u q ≠ ndE x b f) → sF u' q = sF u q)
theorem FrC.rf {u : St} : FrC u u := ⟨fun _ _ _ => rfl, fun _ => rfl, rfl, rfl, fun _ _ => rfl⟩
theorem FrC.tr {u v w : St} (h : FrC u v) (h' : FrC v w) : FrC u w := ⟨fun k a b => (h'.1 k a b).trans (h.1 k a b), fun k => (h'.2.1 k).trans (h.2.1 k), h'.2.2.1.trans h.2.2.1, h'.2.2.2.1.trans h.2.2.2.1, fun q hq => (h'.2.2.2.2 q (fun x b f e => hq x b f ((h.2.2.2.2 q hq).symm.trans e))).trans (h.2.2.2.2 q hq)⟩
theorem FrC.nd {u : St} {q : Nat} {x x' : Int} {b b' f f' : Option Nat} (h : sF u q = ndE x b f) : FrC u (pF u q (ndE x' b' f')) := ⟨fun _ _ _ => rfl, fun _ => rfl, rfl, rfl, fun r hr => by
  rw [sF_pF, if_neg (fun (e : r = q) => hr x b f (e ▸ h))]⟩
theorem FrC.r {u : St} {k : Nat} {z : Option Nat} (hk : k ≠ 0) : FrC u (pR u k z) := ⟨fun _ _ _ => rfl, fun _ => rfl, by rw [sR_pR, if_neg (fun e => hk e.symm)], rfl, fun _ _ => rfl⟩
theorem FrC.i12 {u : St} {z : Int} : FrC u (pI u 12 z) := ⟨fun k a b => by rw [sI_pI, if_neg a], fun _ => rfl, rfl, rfl, fun _ _ => rfl⟩
theorem FrC.i13 {u : St} {z : Int} : FrC u (pI u 13 z) := ⟨fun k a b => by rw [sI_pI, if_neg b], fun _ => rfl, rfl, rfl, fun _ _ => rfl⟩
theorem chn_keep {u u' : St} {n p : Int} {W : Int → Int} (h : Chn u n p W) (e12 : sI u' 12 = sI u 12) (e13 : sI u' 13 = sI u 13) (eR : ∀ k, k ≠ 0 → sR u' k = sR u k) (eN : ∀ q ∈ sL u, ∀ x b f, sF u q = ndE x b f → q ∈ sL u' ∧ sF u' q = ndE x b f) : Chn u' n p W := by
  obtain ⟨h1, h2, h3, h4, h5, nd, ⟨n1, n2, n3, n4⟩, r1, r2, r3⟩ := h
  refine ⟨h1, h2, h3, e12.trans h4, e13.trans h5, nd, ⟨n1, fun i a b => ?_, fun i a b => ?_, fun i a b c => ?_⟩, (eR 1 (by decide)).trans r1, (eR 2 (by decide)).trans r2, (eR 3 (by decide)).trans r3⟩
  · by_cases c : i < n
    · exact (eN _ (n2 i a b) _ _ _ (n3 i a c)).1
    · obtain ⟨x, y, e⟩ := n4 i (by omega) b a
      exact (eN _ (n2 i a b) _ _ _ e).1
  · exact (eN _ (n2 i a (by omega)) _ _ _ (n3 i a b)).2
  · obtain ⟨x, y, e⟩ := n4 i a b c
    exact ⟨x, y, (eN _ (n2 i c b) _ _ _ e).2⟩
theorem chn_next {post : Int → St → Prop} {u : St} {n p : Int} {W : Int → Int} (h : Chn u n p W) (hn : p < n) (hp : ∀ u', Chn u' n (p + 1) W → FrC u u' → post (W p) u') : w_X0_pass post u 0 := by
  obtain ⟨h1, h2, h3, h4, h5, nd, hN, r1, r2, r3⟩ := h
  rw [lk_in h1 hn] at r2
  refine ⟨⟨by omega, by omega⟩, fun _ => ⟨fun c => (by rw [r2] at c; cases c), fun q hq => ?_⟩, fun c => absurd rfl c⟩
  rw [r2] at hq
  cases hq
  refine ⟨W p, _, _, hN.2.1 p h1 (by omega), hN.2.2.1 p h1 hn, W p, _, _, hN.2.1 p h1 (by omega), hN.2.2.1 p h1 hn, ?_⟩
  refine hp _ ⟨by omega, by omega, h3, ?_, h5, nd, hN, ?_, rfl, r3⟩ (((FrC.r (by decide)).tr (FrC.r (by decide))).tr FrC.i12)
  · rw [sI_pI, if_pos rfl, h4]
  · show sR u 2 = _
    rw [r2, lk_in (by omega) (by omega)]
    congr 2
    omega
theorem chn_prev {post : Int → St → Prop} {u : St} {n p x : Int} {W : Int → Int} (hx : x ≠ 0) (hxr : InR x) (h : Chn u n p W) (hn : 0 < p) (hp : ∀ u', Chn u' n (p - 1) W → FrC u u' → post (W (p - 1)) u') : w_X0_pass post u x := by
  obtain ⟨h1, h2, h3, h4, h5, nd, hN, r1, r2, r3⟩ := h
  rw [lk_in (by omega) (by omega)] at r1
  refine ⟨hxr, fun c => absurd c hx, fun _ => ⟨fun c => (by rw [r1] at c; cases c), fun q hq => ?_⟩⟩
  rw [r1] at hq
  cases hq
  refine ⟨W (p - 1), _, _, hN.2.1 (p - 1) (by omega) (by omega), hN.2.2.1 (p - 1) (by omega) (by omega), W (p - 1), _, _, hN.2.1 (p - 1) (by omega) (by omega), hN.2.2.1 (p - 1) (by omega) (by omega), ?_⟩
  refine hp _ ⟨by omega, by omega, h3, ?_, h5, nd, hN, rfl, ?_, r3⟩ (((FrC.r (by decide)).tr (FrC.r (by decide))).tr FrC.i12)
  · rw [sI_pI, if_pos rfl, h4]
    omega
  · show sR u 1 = _
    rw [r1, lk_in (by omega) (by omega)]
theorem join_ok {post : St → Prop} {u : St} {a b xa ya xb yb : Option Nat} {wa wb : Int} (hne : ∀ q, a = some q → b ≠ some q) (ha : ∀ q, a = some q → q ∈ sL u ∧ sF u q = ndE wa xa ya) (hb : ∀ q, b = some q → q ∈ sL u ∧ sF u q = ndE wb xb yb)
    (hp : ∀ u', (∀ k, sI u' k = sI u k) → (∀ k, sR u' k = sR u k) → FrC u u' → (∀ q, a = some q → sF u' q = ndE wa xa b) → (∀ q, b = some q → sF u' q = ndE wb a yb) → (∀ q, a ≠ some q → b ≠ some q → sF u' q = sF u q) → post u') : w_X0_join post u a b := by
  refine ⟨fun ea => ⟨fun eb => ?_, fun q eb => ?_⟩, fun q ea => ?_⟩
  · subst ea
    subst eb
    exact hp u (fun _ => rfl) (fun _ => rfl) FrC.rf (fun q e => nomatch e) (fun q e => nomatch e) (fun _ _ _ => rfl)
  · subst ea
    subst eb
    obtain ⟨m, e⟩ := hb q rfl
    refine ⟨wb, xb, yb, m, e, hp _ (fun _ => rfl) (fun _ => rfl) (FrC.nd e) (fun q e => nomatch e) (fun r er => ?_) (fun r _ er => ?_)⟩
    · cases er
      rw [sF_pF, if_pos rfl]
    · rw [sF_pF, if_neg (fun (e : r = q) => er (e ▸ rfl))]
  · subst ea
    obtain ⟨m, e⟩ := ha q rfl
    refine ⟨wa, xa, ya, m, e, fun eb => ?_, fun r eb => ?_⟩
    · subst eb
      refine hp _ (fun _ => rfl) (fun _ => rfl) (FrC.nd e) (fun r er => ?_) (fun q e => nomatch e) (fun r er _ => ?_)
      · cases er
        rw [sF_pF, if_pos rfl]
      · rw [sF_pF, if_neg (fun (e : r = q) => er (e ▸ rfl))]
    · subst eb
      obtain ⟨m2, e2⟩ := hb r rfl
      have hqr : r ≠ q := fun c => hne q rfl (c ▸ rfl)
      have e3 : sF (pF u q (ndE wa xa (some r))) r = ndE wb xb yb := by rw [sF_pF, if_neg hqr, e2]
      refine ⟨wb, xb, yb, m2, e3, hp _ (fun _ => rfl) (fun _ => rfl) ((FrC.nd e).tr (FrC.nd e3)) (fun s es => ?_) (fun s es => ?_) (fun s es et => ?_)⟩
      · cases es
        rw [sF_pF, if_neg (fun c => hqr c.symm), sF_pF, if_pos rfl]
      · cases es
        rw [sF_pF, if_pos rfl]
      · rw [sF_pF, if_neg (fun (e : s = r) => et (e ▸ rfl)), sF_pF, if_neg (fun (e : s = q) => es (e ▸ rfl))]
/-- where a word comes from: put in at p -/
def ipN (n p j : Int) : Int := if j < p then j else if j = p then n else if j ≤ n then j - 1 else j
theorem ip_lt {n p j : Int} (h : j < p) : ipN n p j = j := if_pos h
theorem ip_eq {n p : Int} : ipN n p p = n := by
  unfold ipN
  rw [if_neg (by omega), if_pos rfl]
theorem ip_mid {n p j : Int} (h : p < j) (h' : j ≤ n) : ipN n p j = j - 1 := by
  unfold ipN
  rw [if_neg (by omega), if_neg (by omega), if_pos h']
theorem ip_gt {n p j : Int} (h : p ≤ n) (h' : n < j) : ipN n p j = j := by
  unfold ipN
  rw [if_neg (by omega), if_neg (by omega), if_neg (by omega)]
theorem ip_inj {n p i j : Int} (h : p ≤ n) (e : ipN n p i = ipN n p j) : i = j := by
  unfold ipN at e
  split at e <;> split at e <;> (try split at e) <;> (try split at e) <;> (try split at e) <;> omega
theorem ip_dom {n p i : Int} (h0 : 0 ≤ p) (hp : p ≤ n) (hn : n < 100) (a : 0 ≤ i) (b : i < 100) : 0 ≤ ipN n p i ∧ ipN n p i < 100 := by
  unfold ipN
  split
  · omega
  · split
    · omega
    · split <;> omega
theorem nds_ins {u u' : St} {nd : Int → Nat} {n p x : Int} {W : Int → Int} (h : Nds u nd n W) (h0 : 0 ≤ p) (hpn : p ≤ n) (hn : n < 100) (hL : sL u' = sL u)
    (hN : sF u' (nd n) = ndE x (lk nd n (p - 1)) (lk nd n p))
    (hB : 0 < p → sF u' (nd (p - 1)) = ndE (W (p - 1)) (lk nd n (p - 1 - 1)) (some (nd n)))
    (hA : p < n → sF u' (nd p) = ndE (W p) (some (nd n)) (lk nd n (p + 1)))
    (hO : ∀ i, 0 ≤ i → i < 100 → i ≠ n → i ≠ p - 1 → i ≠ p → sF u' (nd i) = sF u (nd i)) : Nds u' (fun j => nd (ipN n p j)) (n + 1) (insW W p x) := by
  obtain ⟨n1, n2, n3, n4⟩ := h
  have l1 : ∀ j, j < p → lk (fun j => nd (ipN n p j)) (n + 1) j = lk nd n j := fun j hj => lk_eq (by omega) (fun _ _ => by rw [ip_lt hj])
  have l2 : lk (fun j => nd (ipN n p j)) (n + 1) p = some (nd n) := by rw [lk_in h0 (by omega), ip_eq]
  have l3 : ∀ j, p < j → lk (fun j => nd (ipN n p j)) (n + 1) j = lk nd n (j - 1) := fun j hj => lk_eq (by omega) (fun _ _ => by rw [ip_mid hj (by omega)])
  refine ⟨fun i j a b c d e => ?_, fun i a b => ?_, fun i a b => ?_, fun i a b c => ?_⟩
  · have di := ip_dom h0 hpn hn a b
    have dj := ip_dom h0 hpn hn c d
    exact ip_inj hpn (n1 _ _ di.1 di.2 dj.1 dj.2 e)
  · have di := ip_dom h0 hpn hn a b
    rw [hL]
    exact n2 _ di.1 di.2
  · by_cases c1 : i < p
    · rw [l1 (i - 1) (by omega)]
      unfold insW
      rw [if_pos c1]
      show sF u' (nd (ipN n p i)) = _
      rw [ip_lt c1]
      by_cases c2 : i = p - 1
      · subst c2
        rw [show p - 1 + 1 = p by omega, l2]
        exact hB (by omega)
      · rw [l1 (i + 1) (by omega), hO i a (by omega) (by omega) c2 (by omega)]
        exact n3 i a (by omega)
    · by_cases c2 : i = p
      · subst c2
        rw [l1 (i - 1) (by omega), l3 (i + 1) (by omega), show i + 1 - 1 = i by omega]
        unfold insW
        rw [if_neg c1, if_pos rfl]
        show sF u' (nd (ipN n i i)) = _
        rw [ip_eq]
        exact hN
      · rw [l3 (i + 1) (by omega), show i + 1 - 1 = i by omega]
        unfold insW
        rw [if_neg c1, if_neg c2]
        show sF u' (nd (ipN n p i)) = _
        rw [ip_mid (by omega) (by omega)]
        by_cases c3 : i = p + 1
        · subst c3
          rw [show p + 1 - 1 = p by omega, l2]
          exact hA (by omega)
        · rw [l3 (i - 1) (by omega), hO (i - 1) (by omega) (by omega) (by omega) (by omega) (by omega), n3 (i - 1) (by omega) (by omega), show i - 1 + 1 = i by omega]
  · show ∃ x b, sF u' (nd (ipN n p i)) = _
    rw [ip_gt hpn (by omega), hO i c b (by omega) (by omega) (by omega)]
    obtain ⟨y, z, e⟩ := n4 i (by omega) b c
    refine ⟨y, z, ?_⟩
    rw [e]
    congr 1
    exact lk_eq (by omega) (fun _ _ => by rw [ip_gt hpn (by omega)])
theorem chn_insert {post : Int → St → Prop} {u : St} {n p x : Int} {W : Int → Int} (h : Chn u n p W) (hn : n < 100) (hp : ∀ u', Chn u' (n + 1) (p + 1) (insW W p x) → FrC u u' → post (n + 1) u') : w_X0_insert post u x := by
  obtain ⟨h1, h2, h3, h4, h5, nd, hN, r1, r2, r3⟩ := h
  have n1 := hN.1
  have n2 := hN.2.1
  have n3 := hN.2.2.1
  obtain ⟨y, z, e⟩ := hN.2.2.2 n (by omega) hn (by omega)
  rw [lk_in (by omega) hn] at r3
  refine ⟨fun c => (by rw [r3] at c; cases c), fun q hq => ?_⟩
  rw [r3] at hq
  cases hq
  refine ⟨y, z, _, n2 n (by omega) hn, e, y, z, _, n2 n (by omega) hn, e, ?_⟩
  rw [r1, r3]
  have hqn : ∀ i, 0 ≤ i → i < 100 → i ≠ n → nd i ≠ nd n := fun i a b c d => c (n1 i n a b (by omega) hn d)
  have hF1 : FrC u (pF (pR u 3 (lk nd 100 (n + 1))) (nd n) (ndE x z (lk nd 100 (n + 1)))) := (FrC.r (by decide)).tr (FrC.nd e)
  have e1 : ∀ i, 0 ≤ i → i < 100 → i ≠ n → sF (pF (pR u 3 (lk nd 100 (n + 1))) (nd n) (ndE x z (lk nd 100 (n + 1)))) (nd i) = sF u (nd i) := fun i a b c => by
    rw [sF_pF, if_neg (hqn i a b c)]
    rfl
  refine join_ok (wa := W (p - 1)) (xa := lk nd n (p - 1 - 1)) (ya := lk nd n (p - 1 + 1)) (wb := x) (xb := z) (yb := lk nd 100 (n + 1)) (fun q ha hb => ?_) (fun q ha => ?_) (fun q hb => ?_) (fun u1 i1 j1 k1 a1 b1 o1 => ?_)
  · obtain ⟨c1, c2, rfl⟩ := lk_some ha
    exact hqn (p - 1) c1 (by omega) (by omega) (Option.some.inj hb).symm
  · obtain ⟨c1, c2, rfl⟩ := lk_some ha
    exact ⟨n2 _ c1 (by omega), by rw [e1 _ c1 (by omega) (by omega), n3 _ c1 c2]⟩
  · cases hb
    exact ⟨n2 n (by omega) hn, by rw [sF_pF, if_pos rfl]⟩
  · have hs2 : sR u1 2 = lk nd n p := (j1 2).trans r2
    have hL1 : sL u1 = sL u := k1.2.2.2.1
    rw [hs2]
    refine join_ok (wa := x) (xa := lk nd n (p - 1)) (ya := lk nd 100 (n + 1)) (wb := W p) (xb := lk nd n (p - 1)) (yb := lk nd n (p + 1)) (fun q ha hb => ?_) (fun q ha => ?_) (fun q hb => ?_) (fun u2 i2 j2 k2 a2 b2 o2 => ?_)
    · obtain ⟨c1, c2, rfl⟩ := lk_some hb
      exact hqn p c1 (by omega) (by omega) (Option.some.inj ha).symm
    · cases ha
      exact ⟨hL1 ▸ n2 n (by omega) hn, b1 _ rfl⟩
    · obtain ⟨c1, c2, rfl⟩ := lk_some hb
      refine ⟨hL1 ▸ n2 _ c1 (by omega), ?_⟩
      rw [o1 (nd p) (fun c => ?_) (fun c => hqn p c1 (by omega) (by omega) (Option.some.inj c).symm), e1 p c1 (by omega) (by omega), n3 p c1 c2]
      obtain ⟨d1, d2, d3⟩ := lk_some c
      have := n1 _ _ (by omega) (by omega) d1 (by omega) d3
      omega
    · show post (sI u2 13 + 1) _
      have e13 : sI u2 13 = n := (i2 13).trans ((i1 13).trans h5)
      have e12 : sI u2 12 = p := (i2 12).trans ((i1 12).trans h4)
      rw [e13, e12]
      refine hp _ ⟨by omega, by omega, by omega, rfl, rfl, fun j => nd (ipN n p j), ?_, ?_, ?_, ?_⟩ ((((hF1.tr k1).tr k2).tr (FrC.r (by decide))).tr (FrC.i12.tr FrC.i13))
      · refine nds_ins hN h1 h2 hn (k2.2.2.2.1.trans hL1) (a2 _ rfl) (fun c => ?_) (fun c => ?_) (fun i a b c d g => ?_)
        · show sF u2 (nd (p - 1)) = _
          rw [o2 (nd (p - 1)) (fun c => hqn (p - 1) (by omega) (by omega) (by omega) (Option.some.inj c).symm) (fun c => ?_)]
          · exact a1 _ (lk_in (by omega) (by omega))
          · obtain ⟨d1, d2, d3⟩ := lk_some c
            have := n1 _ _ (by omega) (by omega) d1 (by omega) d3
            omega
        · exact b2 _ (lk_in (by omega) (by omega))
        · show sF u2 (nd i) = _
          rw [o2 (nd i) (fun c1 => hqn i a b c (Option.some.inj c1).symm) (fun c1 => ?_), o1 (nd i) (fun c1 => ?_) (fun c1 => hqn i a b c (Option.some.inj c1).symm), e1 i a b c]
          · obtain ⟨d1, d2, d3⟩ := lk_some c1
            have := n1 _ _ a b d1 (by omega) d3
            omega
          · obtain ⟨d1, d2, d3⟩ := lk_some c1
            have := n1 _ _ a b d1 (by omega) d3
            omega
      · show some (nd n) = lk _ (n + 1) (p + 1 - 1)
        rw [show p + 1 - 1 = p by omega, lk_in h1 (by omega), ip_eq]
      · show sR u2 2 = _
        rw [(j2 2).trans hs2]
        exact lk_eq (by omega) (fun _ _ => by rw [ip_mid (by omega) (by omega)]; congr 1; omega)
      · show sR u2 3 = _
        rw [j2 3, j1 3]
        show lk nd 100 (n + 1) = _
        exact lk_eq (by omega) (fun _ _ => by rw [ip_gt h2 (by omega)])
