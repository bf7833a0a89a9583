/-! the calls that only read -/
theorem inv_t {G : Gr} {k c sl : Nat} {u v : St} (hI : Inv G k c sl u v) : ∃ (n p cap d : Int) (W : Int → Int), Txt G u n p W cap ∧ MT v (n, p, W) ∧ sI u 5 = d ∧ sI v 3 = d ∧ (d = 0 ∨ (d = 1 ∧ 1 ≤ p) ∨ (d = 2 ∧ p < n)) := by
  obtain ⟨g, hV, hA, hu, hv, hO⟩ := hI.2.2
  exact ⟨(gS g 0).1, (gS g 0).2.1, gC g, gD g, (gS g 0).2.2, hu.1, hv.1, hu.2.1, hv.2.1, hV.2.2.2.1⟩
theorem MT.b {v : St} {n p : Int} {W : Int → Int} (h : MT v (n, p, W)) : 0 ≤ p ∧ p ≤ n ∧ n ≤ 100 := ⟨h.1, h.2.1, h.2.2.1⟩
theorem in_ok {post : Int → Prop} {x a b : Int} (hx : InR x) (ha : InR a) (hb : InR b) (h0 : ¬ (a ≤ x ∧ x ≤ b) → post 0) (h1 : a ≤ x → x ≤ b → post 1) : w_X10_in post x a b :=
  ⟨hx, ha, fun c => h0 (by omega), fun c => ⟨hb, fun d => h0 (by omega), fun d => h1 (by omega) (by omega)⟩⟩
theorem st_14 (G : Gr) : St_14 G (Inv G) := by
  intro k c sl u v hk hI
  obtain ⟨g, hV, hA, hu, hv, hO⟩ := hI.2.2
  exact ⟨hO.2.2.2.2.1, inv_r hI⟩
theorem st_15 (G : Gr) : St_15 G (Inv G) := by
  intro k c sl u v hk hI
  obtain ⟨g, hV, hA, hu, hv, hO⟩ := hI.2.2
  exact ⟨hO.2.2.2.2.2.1, inv_r hI⟩
theorem st_16 (G : Gr) : St_16 G (Inv G) := by
  intro k c sl u v hk hI
  obtain ⟨n, p, cap, d, W, hu, hv, -⟩ := inv_t hI
  exact ln_caret hu ⟨hv.c.1, inv_r hI⟩
theorem st_17 (G : Gr) : St_17 G (Inv G) := by
  intro k c sl u v hk hI
  obtain ⟨n, p, cap, d, W, hu, hv, -⟩ := inv_t hI
  exact ln_caret hu ⟨by rw [hv.c.1], inv_r hI⟩
theorem st_18 (G : Gr) : St_18 G (Inv G) := by
  intro k c sl u v hk hI
  obtain ⟨n, p, cap, d, W, hu, hv, -⟩ := inv_t hI
  have e := hv.c
  have b := hv.b
  exact ln_hasA hu (fun h => ⟨Or.inl rfl, ⟨by omega, by omega⟩, fun _ => ⟨rfl, inv_r hI⟩, fun f => absurd f (by omega)⟩) (fun h => ⟨Or.inr rfl, ⟨by omega, by omega⟩, fun f => absurd f (by omega), fun _ => ⟨rfl, inv_r hI⟩⟩)
theorem st_19 (G : Gr) : St_19 G (Inv G) := by
  intro k c sl u v hk hI
  obtain ⟨n, p, cap, d, W, hu, hv, -⟩ := inv_t hI
  have e := hv.c
  have b := hv.b
  exact ln_hasB (by decide) (by decide) hu (fun h => ⟨Or.inl rfl, ⟨by omega, by omega⟩, fun _ => ⟨rfl, inv_r hI⟩, fun f => absurd f (by omega)⟩) (fun h => ⟨Or.inr rfl, ⟨by omega, by omega⟩, fun f => absurd f (by omega), fun _ => ⟨rfl, inv_r hI⟩⟩)
theorem st_20 (G : Gr) : St_20 G (Inv G) := by
  intro k c sl u v x hk hI hx
  obtain ⟨n, p, cap, d, W, hu, hv, -⟩ := inv_t hI
  have e := hv.c
  have b := hv.b
  have hno : ¬ (0 ≤ x ∧ x < n - p) → w_X10_ahead (fun z' v' => z' = -1 ∧ Inv G (k + 1) c sl u v') v x := fun h => in_ok hx (by decide) ⟨by omega, by omega⟩ (fun _ => ⟨by decide, fun _ => ⟨rfl, inv_r hI⟩, fun f => absurd rfl f⟩) (fun f1 f2 => absurd h (by omega))
  refine ⟨hx, fun h => hno (by omega), fun h => ln_length hu (ln_caret hu ⟨⟨by omega, by omega⟩, fun h2 => ln_caret hu (ln_wordOf hu (by omega) (by omega) ?_), fun h2 => hno (by omega)⟩)⟩
  refine in_ok hx (by decide) ⟨by omega, by omega⟩ (fun f => absurd f (by omega)) (fun _ _ => ⟨by decide, fun f => absurd f (by decide), fun _ => ⟨by omega, by omega, ?_, inv_r hI⟩⟩)
  have f : sA v 1 (sI v 2 - 1 - x) = W (n - 1 - (sI v 2 - 1 - x)) := hv.2.2.2.2.2.2 _ (by omega) (by show sI v 2 - 1 - x < n - p; omega)
  rw [f]
  congr 1
  omega
theorem st_21 (G : Gr) : St_21 G (Inv G) := by
  intro k c sl u v x hk hI hx
  obtain ⟨n, p, cap, d, W, hu, hv, -⟩ := inv_t hI
  have e := hv.c
  have b := hv.b
  have hno : ¬ (0 ≤ x ∧ x < p) → w_X10_behind (fun z' v' => z' = -1 ∧ Inv G (k + 1) c sl u v') v x := fun h => in_ok hx (by decide) ⟨by omega, by omega⟩ (fun _ => ⟨by decide, fun _ => ⟨rfl, inv_r hI⟩, fun f => absurd rfl f⟩) (fun f1 f2 => absurd h (by omega))
  refine ⟨hx, fun h => hno (by omega), fun h => ln_caret hu ⟨⟨by omega, by omega⟩, fun h2 => ln_caret hu (ln_wordOf hu (by omega) (by omega) ?_), fun h2 => hno (by omega)⟩⟩
  refine in_ok hx (by decide) ⟨by omega, by omega⟩ (fun f => absurd f (by omega)) (fun _ _ => ⟨by decide, fun f => absurd f (by decide), fun _ => ⟨by omega, by omega, ?_, inv_r hI⟩⟩)
  have f : sA v 0 (sI v 1 - 1 - x) = W (sI v 1 - 1 - x) := hv.2.2.2.2.2.1 _ (by omega) (by show sI v 1 - 1 - x < p; omega)
  rw [f, e.1]
theorem st_22 (G : Gr) : St_22 G (Inv G) := by
  intro k c sl u v hk hI
  obtain ⟨n, p, cap, d, W, hu, hv, du, dv, hd⟩ := inv_t hI
  have e := hv.c
  have b := hv.b
  have hm : ∀ z : Int, (d = 1 → z = W (p - 1)) → (d = 2 → z = W p) → (d = 0 → z = -1) → w_X10_given (fun z' v' => z' = z ∧ Inv G (k + 1) c sl u v') v := fun z h1 h2 h0 => given_ok (v := pI v 0 0) hv dv (fun f => ⟨by omega, (h1 f).symm, inv_r hI⟩) (fun f => ⟨by omega, (h2 f).symm, inv_r hI⟩) (fun f => ⟨(h0 f).symm, inv_r hI⟩) (by omega)
  refine ln_caret hu ⟨⟨by omega, by omega⟩, fun h => ⟨fun h1 => ln_wordOf hu (by omega) (by omega) (hm _ (fun f => absurd f (by omega)) (fun _ => rfl) (fun f => absurd f (by omega))), fun h1 => ln_wordOf hu (by omega) (by omega) (hm _ (fun _ => rfl) (fun f => absurd f (by omega)) (fun f => absurd f (by omega)))⟩, fun h => hm _ (fun f => absurd f (by omega)) (fun f => absurd f (by omega)) (fun _ => rfl)⟩
theorem st_23 (G : Gr) : St_23 G (Inv G) := by
  intro k c sl u v hk hI
  obtain ⟨n, p, cap, d, W, hu, hv, du, dv, hd⟩ := inv_t hI
  exact ⟨dv.trans du.symm, inv_r hI⟩
def rvn (n p d : Int) : Int := (if p = n then 1 else 0) + (if p = 0 then 2 else 0) + (if n = 100 then 4 else 0) + (if d = 0 then 8 else 0) + (if p = n ∨ p = 0 then 16 else 0)
theorem st_24 (G : Gr) : St_24 G (Inv G) := by
  intro k c sl u v hk hI
  obtain ⟨n, p, cap, d, W, hu, hv, du, dv, hd⟩ := inv_t hI
  have e := hv.c
  have b := hv.b
  have i1 : InR (sI v 1) := ⟨by omega, by omega⟩
  have i2 : InR (sI v 2) := ⟨by omega, by omega⟩
  have i3 : InR (sI v 3) := ⟨by omega, by omega⟩
  have i4 : InR (sI u 5) := ⟨by omega, by omega⟩
  have i5 : InR n := ⟨by omega, by omega⟩
  have hm : ∀ z : Int, z = rvn n p d → w_X10_refusedNow (fun z' v' => z' = z ∧ Inv G (k + 1) c sl u v') v := by
    intro z hz
    have r : ∀ y : Int, y = rvn n p d → y = z := fun y h => h.trans hz.symm
    have m : ∀ q : Int → Prop, q n → w_X10_many q (pI v 0 0) := fun q h => many_ok (T := (n, p, W)) (v := pI v 0 0) hv h
    refine ⟨i2, fun a1 => ⟨i1, fun a2 => m _ ⟨i5, fun a3 => ⟨i3, fun a4 => ⟨r _ ?_, inv_r hI⟩, fun a4 => ⟨r _ ?_, inv_r hI⟩⟩, fun a3 => ⟨i3, fun a4 => ⟨r _ ?_, inv_r hI⟩, fun a4 => ⟨r _ ?_, inv_r hI⟩⟩⟩, fun a2 => m _ ⟨i5, fun a3 => ⟨i3, fun a4 => ⟨r _ ?_, inv_r hI⟩, fun a4 => ⟨r _ ?_, inv_r hI⟩⟩, fun a3 => ⟨i3, fun a4 => ⟨r _ ?_, inv_r hI⟩, fun a4 => ⟨r _ ?_, inv_r hI⟩⟩⟩⟩, fun a1 => ⟨i1, fun a2 => m _ ⟨i5, fun a3 => ⟨i3, fun a4 => ⟨r _ ?_, inv_r hI⟩, fun a4 => ⟨r _ ?_, inv_r hI⟩⟩, fun a3 => ⟨i3, fun a4 => ⟨r _ ?_, inv_r hI⟩, fun a4 => ⟨r _ ?_, inv_r hI⟩⟩⟩, fun a2 => m _ ⟨i5, fun a3 => ⟨i3, fun a4 => ⟨r _ ?_, inv_r hI⟩, fun a4 => ⟨r _ ?_, inv_r hI⟩⟩, fun a3 => ⟨i3, fun a4 => ⟨r _ ?_, inv_r hI⟩, fun a4 => ⟨r _ ?_, inv_r hI⟩⟩⟩⟩⟩
    all_goals
      rw [e.2] at a1
      rw [e.1] at a2
      rw [dv] at a4
      unfold rvn
      (repeat' split) <;> omega
  refine ln_hasA hu (fun h => ⟨by decide, fun f => absurd rfl f, fun _ => ln_hasB (by decide) (by decide) hu (fun h2 => ⟨by decide, fun f => absurd rfl f, fun _ => ln_length hu ⟨i5, fun h3 => ⟨i4, fun h4 => hm _ ?_, fun h4 => hm _ ?_⟩, fun h3 => ⟨i4, fun h4 => hm _ ?_, fun h4 => hm _ ?_⟩⟩⟩) (fun h2 => ⟨by decide, fun _ => ln_length hu ⟨i5, fun h3 => ⟨i4, fun h4 => hm _ ?_, fun h4 => hm _ ?_⟩, fun h3 => ⟨i4, fun h4 => hm _ ?_, fun h4 => hm _ ?_⟩⟩, fun f => absurd f (by decide)⟩)⟩) (fun h => ⟨by decide, fun _ => ln_hasB (by decide) (by decide) hu (fun h2 => ⟨by decide, fun f => absurd rfl f, fun _ => ln_length hu ⟨i5, fun h3 => ⟨i4, fun h4 => hm _ ?_, fun h4 => hm _ ?_⟩, fun h3 => ⟨i4, fun h4 => hm _ ?_, fun h4 => hm _ ?_⟩⟩⟩) (fun h2 => ⟨by decide, fun _ => ln_length hu ⟨i5, fun h3 => ⟨i4, fun h4 => hm _ ?_, fun h4 => hm _ ?_⟩, fun h3 => ⟨i4, fun h4 => hm _ ?_, fun h4 => hm _ ?_⟩⟩, fun f => absurd f (by decide)⟩), fun f => absurd f (by decide)⟩)
  all_goals
    rw [du] at h4
    unfold rvn
    (repeat' split) <;> omega
theorem st_25 (G : Gr) : St_25 G (Inv G) := by
  intro k c sl u v hk hI
  obtain ⟨n, p, cap, d, W, hu, hv, -⟩ := inv_t hI
  exact ln_length hu (many_ok (T := (n, p, W)) (v := pI v 0 0) hv ⟨rfl, inv_r hI⟩)
theorem inv_rc {G : Gr} {k c sl : Nat} {u v : St} {z : Int} (h : Inv G k c sl u v) : Inv G (k + 1) (c + 500) (sl + 1000) u (pI v 0 z) := inv_c h h.2.2.up
theorem inv_rcc {G : Gr} {k c sl : Nat} {u v : St} {z z' : Int} (h : Inv G k c sl u v) : Inv G (k + 1) (c + 500) (sl + 1000) u (pI (pI v 0 z) 0 z') := inv_c h h.2.2.up
theorem st_26 (G : Gr) : St_26 G (Inv G) := by
  intro k c sl u v x hk hI hx
  have hm := inv_m hI hk
  obtain ⟨n, p, cap, d, W, hu, hv, -⟩ := inv_t hI
  have b := hv.b
  refine ⟨500, 1000, hm.1, hm.2, ?_⟩
  have hno : ¬ (0 ≤ x ∧ x ≤ n - 1) → w_X10_wordAt (fun z' v' => w_X10_thrown (fun t => t = 1 ∧ (Inv G (k + 1) (c + 500) (sl + 1000)) u v') v') v x := fun h => many_ok (T := (n, p, W)) (v := pI v 0 0) hv (in_ok hx (by decide) ⟨by show -2147483648 ≤ n - 1; omega, by show n - 1 ≤ 2147483647; omega⟩ (fun _ => fails_ok rfl (Or.inl rfl) (fun f => absurd f (by decide)) (fun _ => ⟨by decide, fun f => absurd f (by decide), fun _ => ⟨rfl, inv_rcc hI⟩⟩)) (fun f1 f2 => absurd h (by have f2 : x ≤ n - 1 := f2; omega)))
  refine ⟨hx, fun h => ⟨by decide, by decide, hno (by omega)⟩, fun h => ln_length hu ⟨⟨by omega, by omega⟩, fun h2 => ln_wordOf hu (by omega) (by omega) ?_, fun h2 => ⟨by decide, by decide, hno (by omega)⟩⟩⟩
  exact many_ok (T := (n, p, W)) (v := pI v 0 0) hv (in_ok hx (by decide) ⟨by show -2147483648 ≤ n - 1; omega, by show n - 1 ≤ 2147483647; omega⟩ (fun f => absurd f (by show ¬ ¬ (0 ≤ x ∧ x ≤ n - 1); omega)) (fun _ _ => fails_ok rfl (Or.inr rfl) (fun _ => ⟨by decide, fun _ => wordIn_ok (T := (n, p, W)) (v := pI v 0 0) hv (by omega) (by show x < n; omega) ⟨rfl, rfl, inv_rc hI⟩, fun f => absurd rfl f⟩) (fun f => absurd f (by decide))))
/-! searching the line -/
def Fix (W : Int → Int) (x n r : Int) : Prop := (r = -1 ∧ ∀ i, 0 ≤ i → i < n → W i ≠ x) ∨ (0 ≤ r ∧ r < n ∧ W r = x ∧ ∀ i, 0 ≤ i → i < r → W i ≠ x)
theorem fix_ex (W : Int → Int) (x n : Int) (hn : 0 ≤ n) : ∃ r, Fix W x n r := by
  rcases first_or (fun i => W (i - 1) = x) n.toNat with ⟨m, a, b, c, d⟩ | h
  · refine ⟨m - 1, Or.inr ⟨by omega, by omega, c, fun i i0 i1 => ?_⟩⟩
    have e := d (i + 1) (by omega) (by omega)
    rw [show i + 1 - 1 = i by omega] at e
    exact e
  · refine ⟨-1, Or.inl ⟨rfl, fun i i0 i1 => ?_⟩⟩
    have e := h (i + 1) (by omega) (by omega)
    rw [show i + 1 - 1 = i by omega] at e
    exact e
theorem firstIndex_ok {post : Int → Prop} {G : Gr} {u : St} {n p cap x r : Int} {W : Int → Int} (h : Txt G u n p W cap) (hx : InR x) (hr : Fix W x n r) (hp : post r) : w_X9_firstIndex post u x := by
  have b := h.n100
  refine Lp.inv (fun i : Int => 0 ≤ i ∧ i ≤ n ∧ (0 ≤ r → i ≤ r)) (fun i => (n - i).toNat) _ ⟨by decide, by omega, fun a => a⟩ ?_
  rintro K i ⟨i1, i2, i3⟩ hK
  refine ln_length h ⟨⟨by omega, by omega⟩, ⟨by omega, by omega⟩, fun c => ?_, fun c => ln_wordOf h i1 (by omega) ⟨(h.2.2.2 i i1 (by omega)).inr, hx, fun d => hK _ ⟨by omega, by omega, fun e => ?_⟩ (by omega), fun d => ?_⟩⟩
  · rcases hr with ⟨a, b⟩ | ⟨a, b, d, e⟩
    · rw [a] at hp
      exact hp
    · have := i3 a
      omega
  · rcases hr with ⟨a, b⟩ | ⟨a, b, f, g⟩
    · omega
    · have := i3 a
      by_cases q : r = i
      · rw [q] at f
        exact absurd f d
      · omega
  · rcases hr with ⟨a, b⟩ | ⟨a, b, f, g⟩
    · exact absurd d (b i i1 (by omega))
    · have := i3 a
      by_cases q : r = i
      · rw [← q]
        exact hp
      · exact absurd d (g i i1 (by omega))
theorem indexOf_m {post : Int → St → Prop} {v : St} {n p x r : Int} {W : Int → Int} (h : MT v (n, p, W)) (hW : ∀ i, 0 ≤ i → i < n → isW (W i)) (hx : InR x) (hr : Fix W x n r) (hp : post r v) : ∃ m, Lp (B_X10_indexOf_17 post v x) m 0 := by
  have b := h.b
  refine Lp.inv (fun i : Int => 0 ≤ i ∧ i ≤ n ∧ (0 ≤ r → i ≤ r)) (fun i => (n - i).toNat) _ ⟨by decide, by omega, fun a => a⟩ ?_
  rintro K i ⟨i1, i2, i3⟩ hK
  show b_X10_indexOf_17 post v x K i
  unfold b_X10_indexOf_17
  refine many_ok (T := (n, p, W)) h ?_
  refine ⟨⟨by omega, by omega⟩, ⟨by show -2147483648 ≤ n; omega, by show n ≤ 2147483647; omega⟩, fun c => ?_, fun c => wordIn_ok (T := (n, p, W)) h i1 (by show i < n; have c : ¬ n ≤ i := c; omega) ⟨(hW i i1 (by have c : ¬ n ≤ i := c; omega)).inr, hx, fun d => hK _ ⟨by omega, by have c : ¬ n ≤ i := c; omega, fun e => ?_⟩ (by have c : ¬ n ≤ i := c; omega), fun d => ?_⟩⟩
  · have c : n ≤ i := c
    rcases hr with ⟨a, b⟩ | ⟨a, b, d, e⟩
    · rw [a] at hp
      exact hp
    · have := i3 a
      omega
  · have d : ¬ W i = x := d
    rcases hr with ⟨a, b⟩ | ⟨a, b, f, g⟩
    · omega
    · have := i3 a
      by_cases q : r = i
      · rw [q] at f
        exact absurd f d
      · omega
  · have d : W i = x := d
    have c : ¬ n ≤ i := c
    rcases hr with ⟨a, b⟩ | ⟨a, b, f, g⟩
    · exact absurd d (b i i1 (by omega))
    · have := i3 a
      by_cases q : r = i
      · rw [← q]
        exact hp
      · exact absurd d (g i i1 (by omega))
theorem st_27 (G : Gr) : St_27 G (Inv G) := by
  intro k c sl u v x hk hI hx
  have hm := inv_m hI hk
  obtain ⟨n, p, cap, d, W, hu, hv, -⟩ := inv_t hI
  have b := hv.b
  refine ⟨500, 1000, hm.1, hm.2, 1, 6, by omega, by omega, require_ok hx (by omega) (by omega) (fun hW => ?_) (fun hW => noWord_ok rfl hx (fun e => absurd e hW) (fun _ => ⟨by decide, fun e => absurd e (by decide), fun _ => ⟨rfl, inv_rcc hI⟩⟩))⟩
  obtain ⟨r, hr⟩ := fix_ex W x n (by omega)
  exact firstIndex_ok hu hx hr (noWord_ok rfl hx (fun _ => ⟨by decide, fun _ => indexOf_m (v := pI v 0 0) hv hu.2.2.2 hx hr ⟨rfl, rfl, inv_rc hI⟩, fun e => absurd rfl e⟩) (fun e => absurd hW e))
def Lix (W : Int → Int) (x n r : Int) : Prop := (r = -1 ∧ ∀ i, 0 ≤ i → i < n → W i ≠ x) ∨ (0 ≤ r ∧ r < n ∧ W r = x ∧ ∀ i, r < i → i < n → W i ≠ x)
theorem lix_ex (W : Int → Int) (x n : Int) (hn : 0 ≤ n) : ∃ r, Lix W x n r := by
  rcases first_or (fun i => W (n - i) = x) n.toNat with ⟨m, a, b, c, d⟩ | h
  · refine ⟨n - m, Or.inr ⟨by omega, by omega, c, fun i i0 i1 => ?_⟩⟩
    have e := d (n - i) (by omega) (by omega)
    rw [show n - (n - i) = i by omega] at e
    exact e
  · refine ⟨-1, Or.inl ⟨rfl, fun i i0 i1 => ?_⟩⟩
    have e := h (n - i) (by omega) (by omega)
    rw [show n - (n - i) = i by omega] at e
    exact e
theorem st_28 (G : Gr) : St_28 G (Inv G) := by
  intro k c sl u v x hk hI hx
  have hm := inv_m hI hk
  obtain ⟨n, p, cap, d, W, hu, hv, -⟩ := inv_t hI
  have b := hv.b
  refine ⟨500, 1000, hm.1, hm.2, 1, 6, by omega, by omega, require_ok hx (by omega) (by omega) (fun hW => ?_) (fun hW => noWord_ok rfl hx (fun e => absurd e hW) (fun _ => ⟨by decide, fun e => absurd e (by decide), fun _ => ⟨rfl, inv_rcc hI⟩⟩))⟩
  obtain ⟨r, hr⟩ := lix_ex W x n (by omega)
  have hmm : w_X10_lastIndexOf (fun z' v' => w_X10_thrown (fun t => t = 0 ∧ z' = r ∧ (Inv G (k + 1) (c + 500) (sl + 1000)) u v') v') v x := by
    refine noWord_ok rfl hx (fun _ => ⟨by decide, fun _ => many_ok (T := (n, p, W)) (v := pI v 0 0) hv ?_, fun e => absurd rfl e⟩) (fun e => absurd hW e)
    refine Lp.inv (fun i : Int => -1 ≤ i ∧ i ≤ n - 1 ∧ (0 ≤ r → r ≤ i)) (fun i => (i + 1).toNat) _ ⟨by show -1 ≤ n - 1; omega, Int.le_refl _, fun a => ?_⟩ ?_
    · rcases hr with ⟨e, -⟩ | ⟨e, f, -⟩
      · omega
      · show r ≤ n - 1
        omega
    rintro K i ⟨i1, i2, i3⟩ hK
    refine ⟨⟨by omega, by omega⟩, fun c => ?_, fun c => wordIn_ok (T := (n, p, W)) (v := pI v 0 0) hv (by omega) (by show i < n; omega) ⟨(hu.2.2.2 i (by omega) (by omega)).inr, hx, fun d => hK _ ⟨by omega, by omega, fun e => ?_⟩ (by omega), fun d => ?_⟩⟩
    · rcases hr with ⟨e, -⟩ | ⟨e, f, -⟩
      · exact ⟨rfl, e.symm, inv_rc hI⟩
      · have := i3 e
        omega
    · have d : ¬ W i = x := d
      rcases hr with ⟨e, -⟩ | ⟨e, f, g, -⟩
      · omega
      · have := i3 e
        by_cases q : r = i
        · rw [q] at g
          exact absurd g d
        · omega
    · have d : W i = x := d
      rcases hr with ⟨e, f⟩ | ⟨e, f, g, h⟩
      · exact absurd d (f i (by omega) (by omega))
      · have := i3 e
        by_cases q : r = i
        · exact ⟨rfl, q.symm, inv_rc hI⟩
        · exact absurd d (h i (by omega) (by omega))
  refine ln_length hu ?_
  refine Lp.inv (fun i : Int => -1 ≤ i ∧ i ≤ n - 1 ∧ (0 ≤ r → r ≤ i)) (fun i => (i + 1).toNat) _ ⟨by show -1 ≤ n - 1; omega, Int.le_refl _, fun a => ?_⟩ ?_
  · rcases hr with ⟨e, -⟩ | ⟨e, f, -⟩
    · omega
    · show r ≤ n - 1
      omega
  rintro K i ⟨i1, i2, i3⟩ hK
  refine ⟨⟨by omega, by omega⟩, fun c => ⟨by decide, by decide, ?_⟩, fun c => ⟨by decide, by decide, ln_wordOf hu (by omega) (by omega) ⟨(hu.2.2.2 i (by omega) (by omega)).inr, hx, fun d => hK _ ⟨by omega, by omega, fun e => ?_⟩ (by omega), fun d => ?_⟩⟩⟩
  · rcases hr with ⟨e, -⟩ | ⟨e, f, -⟩
    · rw [e] at hmm
      exact hmm
    · have := i3 e
      omega
  · rcases hr with ⟨e, -⟩ | ⟨e, f, g, -⟩
    · omega
    · have := i3 e
      by_cases q : r = i
      · rw [q] at g
        exact absurd g d
      · omega
  · rcases hr with ⟨e, f⟩ | ⟨e, f, g, h⟩
    · exact absurd d (f i (by omega) (by omega))
    · have := i3 e
      by_cases q : r = i
      · rw [← q]
        exact hmm
      · exact absurd d (h i (by omega) (by omega))
def cntW (W : Int → Int) (x : Int) : Nat → Int
  | 0 => 0
  | m + 1 => cntW W x m + if W m = x then 1 else 0
theorem cnt_y {W : Int → Int} {x i : Int} (h : 0 ≤ i) (e : W i = x) : cntW W x (i + 1).toNat = cntW W x i.toNat + 1 := by
  rw [show (i + 1).toNat = i.toNat + 1 by omega]
  show cntW W x i.toNat + (if W (i.toNat : Int) = x then 1 else 0) = _
  rw [show ((i.toNat : Nat) : Int) = i by omega, if_pos e]
theorem cnt_n {W : Int → Int} {x i : Int} (h : 0 ≤ i) (e : ¬ W i = x) : cntW W x (i + 1).toNat = cntW W x i.toNat := by
  rw [show (i + 1).toNat = i.toNat + 1 by omega]
  show cntW W x i.toNat + (if W (i.toNat : Int) = x then 1 else 0) = _
  rw [show ((i.toNat : Nat) : Int) = i by omega, if_neg e, Int.add_zero]
theorem st_29 (G : Gr) : St_29 G (Inv G) := by
  intro k c sl u v x hk hI hx
  have hm := inv_m hI hk
  obtain ⟨n, p, cap, d, W, hu, hv, -⟩ := inv_t hI
  have b := hv.b
  refine ⟨500, 1000, hm.1, hm.2, 1, 6, by omega, by omega, require_ok hx (by omega) (by omega) (fun hW => ?_) (fun hW => noWord_ok rfl hx (fun e => absurd e hW) (fun _ => ⟨by decide, fun e => absurd e (by decide), fun _ => ⟨rfl, inv_rcc hI⟩⟩))⟩
  have hmm : w_X10_count (fun z' v' => w_X10_thrown (fun t => t = 0 ∧ z' = cntW W x n.toNat ∧ (Inv G (k + 1) (c + 500) (sl + 1000)) u v') v') v x := by
    refine noWord_ok rfl hx (fun _ => ⟨by decide, fun _ => ?_, fun e => absurd rfl e⟩) (fun e => absurd hW e)
    refine Lp.inv (fun t : Int × Int => 0 ≤ t.2 ∧ t.2 ≤ n ∧ t.1 = cntW W x t.2.toNat) (fun t => (n - t.2).toNat) _ ⟨Int.le_refl 0, by show 0 ≤ n; omega, rfl⟩ ?_
    rintro K ⟨y, i⟩ ⟨i1, i2, i3⟩ hK
    have i1 : 0 ≤ i := i1
    have i2 : i ≤ n := i2
    have i3 : y = cntW W x i.toNat := i3
    show b_X10_count_19 _ (pI v 0 0) x K y i
    unfold b_X10_count_19
    refine many_ok (T := (n, p, W)) (v := pI v 0 0) hv ?_
    refine ⟨⟨by omega, by omega⟩, ⟨by show -2147483648 ≤ n; omega, by show n ≤ 2147483647; omega⟩, fun c => ?_, fun c => ?_⟩
    · have c : n ≤ i := c
      refine ⟨rfl, ?_, inv_rc hI⟩
      show y = _
      rw [i3, show i = n by omega]
    · have c : ¬ n ≤ i := c
      refine wordIn_ok (T := (n, p, W)) (v := pI v 0 0) hv i1 (by show i < n; omega) ⟨(hu.2.2.2 i i1 (by omega)).inr, hx, fun d => hK _ ⟨by show 0 ≤ i + 1; omega, by show i + 1 ≤ n; omega, ?_⟩ (by show (n - (i + 1)).toNat < (n - i).toNat; omega), fun d => hK _ ⟨by show 0 ≤ i + 1; omega, by show i + 1 ≤ n; omega, ?_⟩ (by show (n - (i + 1)).toNat < (n - i).toNat; omega)⟩
      · show y + 0 = cntW W x (i + 1).toNat
        rw [cnt_n i1 d, i3, Int.add_zero]
      · show y + 1 = cntW W x (i + 1).toNat
        rw [cnt_y i1 d, i3]
  refine Lp.inv (fun t : Int × Int => 0 ≤ t.2 ∧ t.2 ≤ n ∧ t.1 = cntW W x t.2.toNat) (fun t => (n - t.2).toNat) _ ⟨Int.le_refl 0, by show 0 ≤ n; omega, rfl⟩ ?_
  rintro K ⟨y, i⟩ ⟨i1, i2, i3⟩ hK
  have i1 : 0 ≤ i := i1
  have i2 : i ≤ n := i2
  have i3 : y = cntW W x i.toNat := i3
  refine ⟨by decide, by decide, ln_length hu ?_⟩
  refine ⟨⟨by omega, by omega⟩, ⟨by omega, by omega⟩, fun c => ?_, fun c => ?_⟩
  · have c : n ≤ i := c
    show w_X10_count (fun z' v' => w_X10_thrown (fun t => t = 0 ∧ z' = y ∧ _) v') v x
    rw [i3, show i = n by omega]
    exact hmm
  · have c : ¬ n ≤ i := c
    refine ln_wordOf hu i1 (by omega) ⟨(hu.2.2.2 i i1 (by omega)).inr, hx, fun d => hK _ ⟨by show 0 ≤ i + 1; omega, by show i + 1 ≤ n; omega, ?_⟩ (by show (n - (i + 1)).toNat < (n - i).toNat; omega), fun d => hK _ ⟨by show 0 ≤ i + 1; omega, by show i + 1 ≤ n; omega, ?_⟩ (by show (n - (i + 1)).toNat < (n - i).toNat; omega)⟩
    · show y = cntW W x (i + 1).toNat
      rw [cnt_n i1 d, i3]
    · show y + 1 = cntW W x (i + 1).toNat
      rw [cnt_y i1 d, i3]
def New (W : Int → Int) (i : Int) : Prop := ∀ j, 0 ≤ j → j < i → W j ≠ W i
noncomputable def unq (W : Int → Int) : Nat → Int
  | 0 => 0
  | m + 1 => unq W m + @ite Int (New W m) (Classical.propDecidable _) 1 0
theorem unq_y {W : Int → Int} {i : Int} (h : 0 ≤ i) (e : New W i) : unq W (i + 1).toNat = unq W i.toNat + 1 := by
  rw [show (i + 1).toNat = i.toNat + 1 by omega]
  show unq W i.toNat + @ite Int (New W (i.toNat : Int)) (Classical.propDecidable _) 1 0 = _
  rw [show ((i.toNat : Nat) : Int) = i by omega, if_pos e]
theorem unq_n {W : Int → Int} {i : Int} (h : 0 ≤ i) (e : ¬ New W i) : unq W (i + 1).toNat = unq W i.toNat := by
  rw [show (i + 1).toNat = i.toNat + 1 by omega]
  show unq W i.toNat + @ite Int (New W (i.toNat : Int)) (Classical.propDecidable _) 1 0 = _
  rw [show ((i.toNat : Nat) : Int) = i by omega, if_neg e, Int.add_zero]
theorem st_30 (G : Gr) : St_30 G (Inv G) := by
  intro k c sl u v hk hI
  obtain ⟨n, p, cap, d, W, hu, hv, -⟩ := inv_t hI
  have b := hv.b
  have hmm : w_X10_unlike (fun z' v' => z' = unq W n.toNat ∧ Inv G (k + 1) c sl u v') v := by
    refine Lp.inv (fun t : Int × Int => 0 ≤ t.2 ∧ t.2 ≤ n ∧ t.1 = unq W t.2.toNat) (fun t => (n - t.2).toNat) _ ⟨Int.le_refl 0, by show 0 ≤ n; omega, rfl⟩ ?_
    rintro K ⟨y, i⟩ ⟨i1, i2, i3⟩ hK
    have i1 : 0 ≤ i := i1
    have i2 : i ≤ n := i2
    have i3 : y = unq W i.toNat := i3
    show b_X10_unlike_9 _ (pI v 0 0) K y i
    unfold b_X10_unlike_9
    refine many_ok (T := (n, p, W)) (v := pI v 0 0) hv ?_
    refine ⟨⟨by omega, by omega⟩, ⟨by show -2147483648 ≤ n; omega, by show n ≤ 2147483647; omega⟩, fun c => ?_, fun c => ?_⟩
    · have c : n ≤ i := c
      refine ⟨?_, inv_r hI⟩
      show y = _
      rw [i3, show i = n by omega]
    · have c : ¬ n ≤ i := c
      refine Lp.inv (fun t : Int × Int => 0 ≤ t.2 ∧ t.2 ≤ i ∧ ((t.1 = 1 ∧ ∀ j, 0 ≤ j → j < t.2 → W j ≠ W i) ∨ (t.1 = 0 ∧ ¬ New W i))) (fun t => (i - t.2).toNat) _ ⟨Int.le_refl 0, by show 0 ≤ i; omega, Or.inl ⟨rfl, fun j a b => absurd b (by show ¬ j < 0; omega)⟩⟩ ?_
      rintro K2 ⟨f, j⟩ ⟨j1, j2, j3⟩ hK2
      have j1 : 0 ≤ j := j1
      have j2 : j ≤ i := j2
      have j3 : (f = 1 ∧ ∀ l, 0 ≤ l → l < j → W l ≠ W i) ∨ (f = 0 ∧ ¬ New W i) := j3
      have hf : f = 0 ∨ f = 1 := by
        rcases j3 with ⟨a, -⟩ | ⟨a, -⟩
        · exact Or.inr a
        · exact Or.inl a
      refine ⟨⟨by omega, by omega⟩, ⟨by omega, by omega⟩, fun c2 => ⟨⟨by omega, by omega⟩, fun c3 => hK _ ⟨by show 0 ≤ i + 1; omega, by show i + 1 ≤ n; omega, ?_⟩ (by show (n - (i + 1)).toNat < (n - i).toNat; omega), fun c3 => hK _ ⟨by show 0 ≤ i + 1; omega, by show i + 1 ≤ n; omega, ?_⟩ (by show (n - (i + 1)).toNat < (n - i).toNat; omega)⟩, fun c2 => ?_⟩
      · have c3 : f = 0 := c3
        show y + 0 = unq W (i + 1).toNat
        rcases j3 with ⟨a, -⟩ | ⟨a, e⟩
        · omega
        · rw [unq_n i1 e, i3, Int.add_zero]
      · have c3 : ¬ f = 0 := c3
        have c2 : i ≤ j := c2
        show y + 1 = unq W (i + 1).toNat
        rcases j3 with ⟨a, e⟩ | ⟨a, e⟩
        · rw [unq_y i1 (fun l l0 l1 => e l l0 (by omega)), i3]
        · omega
      · have c2 : ¬ i ≤ j := c2
        have w1 := (hu.2.2.2 j j1 (by omega)).inr
        have w2 := (hu.2.2.2 i i1 (by omega)).inr
        refine wordIn_ok (T := (n, p, W)) (v := pI v 0 0) hv j1 (by show j < n; omega) ?_
        refine wordIn_ok (T := (n, p, W)) (v := pI v 0 0) hv i1 (by show i < n; omega) ?_
        refine ⟨w1, w2, fun e => ⟨hf, hK2 _ ⟨by show 0 ≤ j + 1; omega, by show j + 1 ≤ i; omega, Or.inr ⟨Int.mul_zero f, fun h => h j j1 (by omega) e⟩⟩ (by show (i - (j + 1)).toNat < (i - j).toNat; omega)⟩, fun e => ⟨hf, hK2 _ ⟨by show 0 ≤ j + 1; omega, by show j + 1 ≤ i; omega, ?_⟩ (by show (i - (j + 1)).toNat < (i - j).toNat; omega)⟩⟩
        show (f * 1 = 1 ∧ ∀ l, 0 ≤ l → l < j + 1 → W l ≠ W i) ∨ (f * 1 = 0 ∧ ¬ New W i)
        rw [Int.mul_one]
        rcases j3 with ⟨a, h⟩ | h
        · refine Or.inl ⟨a, fun l l0 l1 => ?_⟩
          by_cases q : l = j
          · rw [q]
            exact e
          · exact h l l0 (by omega)
        · exact Or.inr h
  refine Lp.inv (fun t : Int × Int => 0 ≤ t.2 ∧ t.2 ≤ n ∧ t.1 = unq W t.2.toNat) (fun t => (n - t.2).toNat) _ ⟨Int.le_refl 0, by show 0 ≤ n; omega, rfl⟩ ?_
  rintro K ⟨y, i⟩ ⟨i1, i2, i3⟩ hK
  have i1 : 0 ≤ i := i1
  have i2 : i ≤ n := i2
  have i3 : y = unq W i.toNat := i3
  refine ln_length hu ?_
  refine ⟨⟨by omega, by omega⟩, ⟨by omega, by omega⟩, fun c => ?_, fun c => ?_⟩
  · have c : n ≤ i := c
    show w_X10_unlike (fun z' v' => z' = y ∧ _) v
    rw [i3, show i = n by omega]
    exact hmm
  · have c : ¬ n ≤ i := c
    refine ln_wordOf hu i1 (by omega) ?_
    have hw := hu.2.2.2 i i1 (by omega)
    obtain ⟨r, hr⟩ := fix_ex W (W i) n (by omega)
    have hr0 : 0 ≤ r ∧ r ≤ i ∧ (r = i ↔ New W i) := by
      rcases hr with ⟨-, e⟩ | ⟨e1, e2, e3, e4⟩
      · exact absurd rfl (e i i1 (by omega))
      · have e5 : r ≤ i := by
          by_cases q : i < r
          · exact absurd rfl (e4 i i1 q)
          · omega
        refine ⟨e1, e5, fun q => ?_, fun q => ?_⟩
        · rw [q] at e4
          exact e4
        · by_cases q2 : r = i
          · exact q2
          · exact absurd e3 (q r e1 (by omega))
    refine firstIndex_ok hu hw.inr hr ⟨⟨by omega, by omega⟩, fun e => hK _ ⟨by show 0 ≤ i + 1; omega, by show i + 1 ≤ n; omega, ?_⟩ (by show (n - (i + 1)).toNat < (n - i).toNat; omega), fun e => hK _ ⟨by show 0 ≤ i + 1; omega, by show i + 1 ≤ n; omega, ?_⟩ (by show (n - (i + 1)).toNat < (n - i).toNat; omega)⟩
    · show y = unq W (i + 1).toNat
      rw [unq_n i1 (fun h => e (hr0.2.2.mpr h)), i3]
    · show y + 1 = unq W (i + 1).toNat
      rw [unq_y i1 (hr0.2.2.mp e), i3]
theorem st_33 (G : Gr) : St_33 G (Inv G) := by
  intro k c sl u v x hk hI hx
  have hm := inv_m hI hk
  obtain ⟨g, hV, hA, hu, hv, hO⟩ := hI.2.2
  obtain ⟨h1, h2, h3, h4, h5, h6, h7, h8, h9, h10⟩ := hO
  refine ⟨500, 1000, hm.1, hm.2, ?_⟩
  have hb : InR (sI v 14 - 1) := ⟨by omega, by omega⟩
  have hno : ¬ (0 ≤ x ∧ x ≤ sI v 14 - 1) → w_X10_writtenAt (fun z' v' => w_X10_thrown (fun t => t = 1 ∧ (Inv G (k + 1) (c + 500) (sl + 1000)) u v') v') v x := fun h => in_ok hx (by decide) hb (fun _ => fails_ok rfl (Or.inl rfl) (fun f => absurd f (by decide)) (fun _ => ⟨by decide, fun f => absurd f (by decide), fun _ => ⟨rfl, inv_rcc hI⟩⟩)) (fun f1 f2 => absurd ⟨f1, f2⟩ h)
  refine ⟨hx, fun h => ⟨by decide, by decide, hno (by omega)⟩, fun h => ⟨⟨by omega, by omega⟩, fun h2 => ⟨by omega, by omega, ?_⟩, fun h2 => ⟨by decide, by decide, hno (by omega)⟩⟩⟩
  refine in_ok hx (by decide) hb (fun f => absurd f (by omega)) (fun _ _ => fails_ok rfl (Or.inr rfl) (fun _ => ⟨by decide, fun _ => ⟨by omega, by omega, rfl, h10 x (by omega) h2, inv_rc hI⟩, fun f => absurd rfl f⟩) (fun f => absurd f (by decide)))
theorem st_34 (G : Gr) : St_34 G (Inv G) := by
  intro k c sl u v x hk hI hx
  have hm := inv_m hI hk
  obtain ⟨g, hV, hA, hu, hv, hO⟩ := hI.2.2
  refine ⟨500, 1000, hm.1, hm.2, ?_⟩
  have hno : ¬ (-5 ≤ x ∧ x ≤ -2) → w_X10_refusals (fun z' v' => w_X10_thrown (fun t => t = 1 ∧ (Inv G (k + 1) (c + 500) (sl + 1000)) u v') v') v x := fun h => in_ok hx (by decide) (by decide) (fun _ => fails_ok rfl (Or.inl rfl) (fun f => absurd f (by decide)) (fun _ => ⟨by decide, fun f => absurd f (by decide), fun _ => ⟨rfl, inv_rcc hI⟩⟩)) (fun f1 f2 => absurd ⟨f1, f2⟩ h)
  refine ⟨hx, fun h => ⟨by decide, by decide, hno (by omega)⟩, fun h => ⟨fun h2 => ⟨by omega, by omega, ?_⟩, fun h2 => ⟨by decide, by decide, hno (by omega)⟩⟩⟩
  refine in_ok hx (by decide) (by decide) (fun f => absurd f (by omega)) (fun _ _ => fails_ok rfl (Or.inr rfl) (fun _ => ⟨by decide, fun _ => ⟨by omega, by omega, rfl, ?_, inv_rc hI⟩, fun f => absurd rfl f⟩) (fun f => absurd f (by decide)))
  have e1 := hu.2.2.2.1 (-2 - x) (by omega) (by omega)
  have e2 := hv.2.2.2.1 (-2 - x) (by omega) (by omega)
  rw [show -2 - x + 2 = 0 - x by omega] at e2
  exact e2.trans e1.symm
theorem st_35 (G : Gr) : St_35 G (Inv G) := by
  intro k c sl u v hk hI
  obtain ⟨g, hV, hA, hu, hv, hO⟩ := hI.2.2
  exact ⟨hv.2.2.1.trans hu.2.2.1.symm, inv_r hI⟩
theorem st_38 (G : Gr) : St_38 G (Inv G) := by
  intro k c sl u v hk hI
  obtain ⟨n, p, cap, d, W, hu, hv, -⟩ := inv_t hI
  exact ln_agree hu ⟨Or.inr rfl, rfl, inv_r hI⟩
theorem st_39 (G : Gr) : St_39 G (Inv G) := by
  intro k c sl u v hk hI
  obtain ⟨g, hV, hA, hu, hv, hO⟩ := hI.2.2
  exact ⟨hu.2.2.2.2.2.2.2.1.symm, inv_r hI⟩
