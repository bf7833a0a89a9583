/-! append -/
def byt (y k : Int) : Int := (y / ((2 ^ k.toNat : Nat) : Int)) % 256
def nz (b : Int) : Int := if b = 0 then 0 else 1
def cnt4 (y : Int) : Int := nz (byt y 0) + nz (byt y 8) + nz (byt y 16) + nz (byt y 24)
theorem nz_0 {b : Int} (h : b = 0) : nz b = 0 := if_pos h
theorem nz_1 {b : Int} (h : ¬ b = 0) : nz b = 1 := if_neg h
theorem nz_b (b : Int) : 0 ≤ nz b ∧ nz b ≤ 1 := by
  unfold nz
  split <;> omega
theorem byt_b (y k : Int) : 0 ≤ byt y k ∧ byt y k ≤ 255 := by
  unfold byt
  omega
theorem byt_eq {y k : Int} (hk : k = 0 ∨ k = 8 ∨ k = 16 ∨ k = 24) : ((y % 4294967296) / ((2 ^ k.toNat : Nat) : Int)) % 256 = byt y k := by
  rcases hk with rfl | rfl | rfl | rfl
  · show ((y % 4294967296) / 1) % 256 = (y / 1) % 256
    omega
  · show ((y % 4294967296) / 256) % 256 = (y / 256) % 256
    omega
  · show ((y % 4294967296) / 65536) % 256 = (y / 65536) % 256
    omega
  · show ((y % 4294967296) / 16777216) % 256 = (y / 16777216) % 256
    omega
theorem x10b_step {post : Int → Prop} {y a k : Int} {n : Nat} (hy : InR y) (h0 : 0 ≤ k) (h1 : k < 32) (h : Lp (B_X10_bytesIn_4 post y) n (a + nz (byt y k), k + 8)) : Lp (B_X10_bytesIn_4 post y) (n + 1) (a, k) := by
  have hb := byt_b y k
  refine ⟨⟨by show -2147483648 ≤ k; omega, by show k ≤ 2147483647; omega⟩, fun c => absurd h1 (by have c : 32 ≤ k := c; omega), fun _ => ⟨hy, h0, h1, ?_, fun c => ?_, fun c => ?_⟩⟩
  · show InR (byt y k)
    exact ⟨by omega, by omega⟩
  · have c : ¬ byt y k = 0 := c
    rw [nz_1 c] at h
    exact h
  · have c : byt y k = 0 := c
    rw [nz_0 c] at h
    exact h
theorem x10_bytesIn {post : Int → Prop} {y : Int} (hy : InR y) (h : post (cnt4 y)) : w_X10_bytesIn post y := by
  refine ⟨5, x10b_step hy (by decide) (by decide) (x10b_step hy (by decide) (by decide) (x10b_step hy (by decide) (by decide) (x10b_step hy (by decide) (by decide) ⟨(by show InR ((0 : Int) + 8 + 8 + 8 + 8); decide), fun _ => ?_, fun c => absurd (show (32 : Int) ≤ 0 + 8 + 8 + 8 + 8 by decide) c⟩)))⟩
  show post (0 + nz (byt y 0) + nz (byt y 8) + nz (byt y 16) + nz (byt y 24))
  rw [Int.zero_add]
  exact h
theorem x8b_step {post : Int → Prop} {y a k : Int} {n : Nat} (hk : k = 0 ∨ k = 8 ∨ k = 16 ∨ k = 24) (h : Lp (B_X8_bytesIn_5 post y) n (a + nz (byt y k), k + -8)) : Lp (B_X8_bytesIn_5 post y) (n + 1) (a, k) := by
  have hb := byt_b y k
  refine ⟨⟨by show -2147483648 ≤ k; omega, by show k ≤ 2147483647; omega⟩, fun c => absurd hk (by have c : k < 0 := c; omega), fun _ => ⟨by show 0 ≤ k; omega, by show k < 32; omega, ?_, fun c => ?_, fun c => ?_⟩⟩
  · show InR (((y % 4294967296) / ((2 ^ k.toNat : Nat) : Int)) % 256)
    rw [byt_eq hk]
    exact ⟨by omega, by omega⟩
  · have c : ((y % 4294967296) / ((2 ^ k.toNat : Nat) : Int)) % 256 = 0 := c
    rw [byt_eq hk] at c
    rw [nz_0 c, Int.add_zero] at h
    exact h
  · have c : ¬ ((y % 4294967296) / ((2 ^ k.toNat : Nat) : Int)) % 256 = 0 := c
    rw [byt_eq hk] at c
    rw [nz_1 c] at h
    exact h
theorem x8_bytesIn {post : Int → Prop} {y : Int} (h : post (cnt4 y)) : w_X8_bytesIn post y := by
  refine ⟨5, x8b_step (by decide) (x8b_step (by decide) (x8b_step (by decide) (x8b_step (by decide) ⟨(by show InR ((24 : Int) + -8 + -8 + -8 + -8); decide), fun _ => ?_, fun c => absurd (show (24 : Int) + -8 + -8 + -8 + -8 < 0 by decide) c⟩)))⟩
  show post (0 + nz (byt y 24) + nz (byt y 16) + nz (byt y 8) + nz (byt y 0))
  rw [show 0 + nz (byt y 24) + nz (byt y 16) + nz (byt y 8) + nz (byt y 0) = cnt4 y by unfold cnt4; omega]
  exact h
def puC (u : St) (b : Int) : St := if b = 0 then u else pI (pA u 6 (sI u 14) b) 14 (sI u 14 + 1)
def puM (v : St) (b : Int) : St := if b = 0 then v else pI (pA v 6 (sI v 6) b) 6 (sI v 6 + 1)
def tkC (u : St) (y : Int) : St := puC (puC (puC (puC u (byt y 24)) (byt y 16)) (byt y 8)) (byt y 0)
def tkM (v : St) (y : Int) : St := puM (puM (puM (puM v (byt y 24)) (byt y 16)) (byt y 8)) (byt y 0)
theorem puC_14 (u : St) (b : Int) : sI (puC u b) 14 = sI u 14 + nz b := by
  unfold puC nz
  by_cases c : b = 0
  · rw [if_pos c, if_pos c, Int.add_zero]
  · rw [if_neg c, if_neg c]
    rfl
theorem puM_6 (u : St) (b : Int) : sI (puM u b) 6 = sI u 6 + nz b := by
  unfold puM nz
  by_cases c : b = 0
  · rw [if_pos c, if_pos c, Int.add_zero]
  · rw [if_neg c, if_neg c]
    rfl
theorem tkC_14 (u : St) (y : Int) : sI (tkC u y) 14 = sI u 14 + cnt4 y := by
  unfold tkC cnt4
  rw [puC_14, puC_14, puC_14, puC_14]
  omega
theorem tkM_6 (u : St) (y : Int) : sI (tkM u y) 6 = sI u 6 + cnt4 y := by
  unfold tkM cnt4
  rw [puM_6, puM_6, puM_6, puM_6]
  omega
theorem x8t_step {post : St → Prop} {u : St} {y k : Int} {n : Nat} (hk : k = 0 ∨ k = 8 ∨ k = 16 ∨ k = 24) (h0 : 0 ≤ sI u 14) (h3 : sI u 14 + nz (byt y k) ≤ 300) (h : Lp (B_X8_take_3 post y) n (puC u (byt y k), k + -8)) : Lp (B_X8_take_3 post y) (n + 1) (u, k) := by
  have hb := byt_b y k
  have hn := nz_b (byt y k)
  refine ⟨⟨by show -2147483648 ≤ k; omega, by show k ≤ 2147483647; omega⟩, fun c => absurd hk (by have c : k < 0 := c; omega), fun _ => ⟨by show 0 ≤ k; omega, by show k < 32; omega, ?_, fun c => ?_, fun c => ⟨⟨by show -2147483648 ≤ sI u 14; omega, by show sI u 14 ≤ 2147483647; omega⟩, fun d => ?_, fun d => ⟨h0, ?_, ?_⟩⟩⟩⟩
  · show InR (((y % 4294967296) / ((2 ^ k.toNat : Nat) : Int)) % 256)
    rw [byt_eq hk]
    exact ⟨by omega, by omega⟩
  · have c : ((y % 4294967296) / ((2 ^ k.toNat : Nat) : Int)) % 256 = 0 := c
    rw [byt_eq hk] at c
    unfold puC at h
    rw [if_pos c] at h
    exact h
  · have c : ¬ ((y % 4294967296) / ((2 ^ k.toNat : Nat) : Int)) % 256 = 0 := c
    have d : 300 ≤ sI u 14 := d
    rw [byt_eq hk] at c
    rw [nz_1 c] at h3
    omega
  · have d : ¬ 300 ≤ sI u 14 := d
    show sI u 14 < 300
    omega
  · have c : ¬ ((y % 4294967296) / ((2 ^ k.toNat : Nat) : Int)) % 256 = 0 := c
    show Lp (B_X8_take_3 post y) n (pI (pA u 6 (sI u 14) (((y % 4294967296) / ((2 ^ k.toNat : Nat) : Int)) % 256)) 14 (sI u 14 + 1), k + -8)
    rw [byt_eq hk] at c ⊢
    unfold puC at h
    rw [if_neg c] at h
    exact h
theorem x8_take {post : St → Prop} {u : St} {y : Int} (h0 : 0 ≤ sI u 14) (h3 : sI u 14 + cnt4 y ≤ 300) (h : post (tkC u y)) : w_X8_take post u y := by
  have n0 := nz_b (byt y 0)
  have n1 := nz_b (byt y 8)
  have n2 := nz_b (byt y 16)
  have n3 := nz_b (byt y 24)
  unfold cnt4 at h3
  refine ⟨5, x8t_step (by decide) h0 (by omega) (x8t_step (by decide) ?_ ?_ (x8t_step (by decide) ?_ ?_ (x8t_step (by decide) ?_ ?_ ⟨(by show InR ((24 : Int) + -8 + -8 + -8 + -8); decide), fun _ => h, fun c => absurd (show (24 : Int) + -8 + -8 + -8 + -8 < 0 by decide) c⟩)))⟩
  all_goals (repeat rw [puC_14])
  all_goals
    have e1 : nz (byt y (24 + -8)) = nz (byt y 16) := rfl
    have e2 : nz (byt y (24 + -8 + -8)) = nz (byt y 8) := rfl
    have e3 : nz (byt y (24 + -8 + -8 + -8)) = nz (byt y 0) := rfl
    omega
theorem x10t_step {post : St → Prop} {u : St} {y k : Int} {n : Nat} (hy : InR y) (h00 : 0 ≤ k) (h01 : k < 32) (h0 : 0 ≤ sI u 6) (h3 : sI u 6 + nz (byt y k) ≤ 300) (h : Lp (B_X10_takesBytes_3 post y) n (puM u (byt y k), k + -8)) : Lp (B_X10_takesBytes_3 post y) (n + 1) (u, k) := by
  have hb := byt_b y k
  refine ⟨⟨by show -2147483648 ≤ k; omega, by show k ≤ 2147483647; omega⟩, fun c => absurd h00 (by have c : k < 0 := c; omega), fun _ => ⟨hy, h00, h01, ?_, fun c => ⟨h0, ?_, ?_⟩, fun c => ?_⟩⟩
  · show InR (byt y k)
    exact ⟨by omega, by omega⟩
  · have c : ¬ byt y k = 0 := c
    rw [nz_1 c] at h3
    show sI u 6 < 300
    omega
  · have c : ¬ byt y k = 0 := c
    unfold puM at h
    rw [if_neg c] at h
    exact h
  · have c : byt y k = 0 := c
    unfold puM at h
    rw [if_pos c] at h
    exact h
theorem x10_takes {post : St → Prop} {u : St} {y : Int} (hy : InR y) (h0 : 0 ≤ sI u 6) (h3 : sI u 6 + cnt4 y ≤ 300) (h : post (tkM u y)) : w_X10_takesBytes post u y := by
  have n0 := nz_b (byt y 0)
  have n1 := nz_b (byt y 8)
  have n2 := nz_b (byt y 16)
  have n3 := nz_b (byt y 24)
  unfold cnt4 at h3
  refine ⟨5, x10t_step hy (by decide) (by decide) h0 (by omega) (x10t_step hy (by decide) (by decide) ?_ ?_ (x10t_step hy (by decide) (by decide) ?_ ?_ (x10t_step hy (by decide) (by decide) ?_ ?_ ⟨(by show InR ((24 : Int) + -8 + -8 + -8 + -8); decide), fun _ => h, fun c => absurd (show (24 : Int) + -8 + -8 + -8 + -8 < 0 by decide) c⟩)))⟩
  all_goals (repeat rw [puM_6])
  all_goals
    have e1 : nz (byt y (24 + -8)) = nz (byt y 16) := rfl
    have e2 : nz (byt y (24 + -8 + -8)) = nz (byt y 8) := rfl
    have e3 : nz (byt y (24 + -8 + -8 + -8)) = nz (byt y 0) := rfl
    omega
/-- the tapes alike, all else as it was -/
def Tp (u v : St) : Prop := sI v 6 = sI u 14 ∧ 0 ≤ sI u 14 ∧ ∀ j, 0 ≤ j → j < sI u 14 → sA v 6 j = sA u 6 j ∧ 1 ≤ sA u 6 j ∧ sA u 6 j ≤ 255
def FtC (u u' : St) : Prop := (∀ k, k ≠ 14 → sI u' k = sI u k) ∧ (∀ k, k ≠ 6 → sA u' k = sA u k) ∧ (∀ k, sR u' k = sR u k) ∧ sL u' = sL u ∧ sF u' = sF u
def FtM (v v' : St) : Prop := (∀ k, k ≠ 6 → sI v' k = sI v k) ∧ (∀ k, k ≠ 6 → sA v' k = sA v k)
theorem FtC.rf {u : St} : FtC u u := ⟨fun _ _ => rfl, fun _ _ => rfl, fun _ => rfl, rfl, rfl⟩
theorem FtC.tr {u v w : St} (h : FtC u v) (h' : FtC v w) : FtC u w := ⟨fun k a => (h'.1 k a).trans (h.1 k a), fun k a => (h'.2.1 k a).trans (h.2.1 k a), fun k => (h'.2.2.1 k).trans (h.2.2.1 k), h'.2.2.2.1.trans h.2.2.2.1, h'.2.2.2.2.trans h.2.2.2.2⟩
theorem FtM.tr {u v w : St} (h : FtM u v) (h' : FtM v w) : FtM u w := ⟨fun k a => (h'.1 k a).trans (h.1 k a), fun k a => (h'.2 k a).trans (h.2 k a)⟩
theorem puC_f (u : St) (b : Int) : FtC u (puC u b) := by
  unfold puC
  by_cases c : b = 0
  · rw [if_pos c]
    exact FtC.rf
  · rw [if_neg c]
    exact ⟨fun k a => by rw [sI_pI, if_neg a, sI_pA], fun k a => by rw [sA_pI, sA_pA, if_neg a], fun _ => rfl, rfl, rfl⟩
theorem puM_f (u : St) (b : Int) : FtM u (puM u b) := by
  unfold puM
  by_cases c : b = 0
  · rw [if_pos c]
    exact ⟨fun _ _ => rfl, fun _ _ => rfl⟩
  · rw [if_neg c]
    exact ⟨fun k a => by rw [sI_pI, if_neg a, sI_pA], fun k a => by rw [sA_pI, sA_pA, if_neg a]⟩
theorem tp_pu {u v : St} {b : Int} (h : Tp u v) (hb : 0 ≤ b ∧ b ≤ 255) : Tp (puC u b) (puM v b) := by
  by_cases c : b = 0
  · unfold puC puM
    rw [if_pos c, if_pos c]
    exact h
  · unfold puC puM
    rw [if_neg c, if_neg c]
    obtain ⟨h1, h2, h3⟩ := h
    refine ⟨?_, ?_, fun j a d => ?_⟩
    · show sI v 6 + 1 = sI u 14 + 1
      rw [h1]
    · show 0 ≤ sI u 14 + 1
      omega
    · have d : j < sI u 14 + 1 := d
      show zset (sA v 6) (sI v 6) b j = zset (sA u 6) (sI u 14) b j ∧ 1 ≤ zset (sA u 6) (sI u 14) b j ∧ zset (sA u 6) (sI u 14) b j ≤ 255
      rw [h1, zset_at, zset_at]
      by_cases e : j = sI u 14
      · rw [if_pos e, if_pos e]
        omega
      · rw [if_neg e, if_neg e]
        exact h3 j a (by omega)
theorem tp_tk {u v : St} {y : Int} (h : Tp u v) : Tp (tkC u y) (tkM v y) := tp_pu (tp_pu (tp_pu (tp_pu h (byt_b _ _)) (byt_b _ _)) (byt_b _ _)) (byt_b _ _)
theorem tkC_f (u : St) (y : Int) : FtC u (tkC u y) := (((puC_f _ _).tr (puC_f _ _)).tr (puC_f _ _)).tr (puC_f _ _)
theorem tkM_f (u : St) (y : Int) : FtM u (tkM u y) := (((puM_f _ _).tr (puM_f _ _)).tr (puM_f _ _)).tr (puM_f _ _)
theorem aj_t {G : Gr} {u u' : St} {g : Sg} (h : AJ G u g) (hF : FtC u u') : AJ G u' g := by
  obtain ⟨f1, f2, f3, f4, f5⟩ := hF
  refine ⟨txt_keep h.1 (fun k a b => f1 k (by omega)) (fun k a b => f2 k (by omega)) f3 f4 f5, ?_⟩
  obtain ⟨h1, h2, h3, h4, h5, h6, h7, h8⟩ := h.2
  unfold EJ
  rw [f1 5 (by decide), f1 4 (by decide), f1 7 (by decide), f1 6 (by decide), f1 8 (by decide), f2 0 (by decide), f2 1 (by decide), f2 2 (by decide)]
  exact ⟨h1, h2, h3, h4, h5, h6, h7, h8⟩
theorem mj_x {v v' : St} {g : Sg} (h : MJ v g) (fI : ∀ k, 0 < k → k < 6 → sI v' k = sI v k) (fA : ∀ k, k < 6 → sA v' k = sA v k) : MJ v' g := by
  unfold MJ MT Snap at *
  rw [fI 1 (by decide) (by decide), fI 2 (by decide) (by decide), fI 3 (by decide) (by decide), fI 4 (by decide) (by decide), fI 5 (by decide) (by decide), fA 0 (by decide), fA 1 (by decide), fA 2 (by decide), fA 3 (by decide), fA 4 (by decide), fA 5 (by decide)]
  exact h
theorem st_10 (G : Gr) : St_10 G (Inv G) := by
  intro k c sl u v y1 y2 y3 y4 y5 hk hI r1 r2 r3 r4 r5
  have hm := inv_m hI hk
  obtain ⟨g, hV, hA, hu, hv, hO⟩ := hI.2.2
  obtain ⟨h1, h2, h3, h4, h5, h6, h7, h8, h9, h10⟩ := hO
  have hb : ∀ y, 0 ≤ cnt4 y ∧ cnt4 y ≤ 4 := fun y => by
    have n0 := nz_b (byt y 0)
    have n1 := nz_b (byt y 8)
    have n2 := nz_b (byt y 16)
    have n3 := nz_b (byt y 24)
    unfold cnt4
    omega
  have b1 := hb y1
  have b2 := hb y2
  have b3 := hb y3
  have b4 := hb y4
  have b5 := hb y5
  refine ⟨500, 1000, hm.1, hm.2, x8_bytesIn (x8_bytesIn (x8_bytesIn (x8_bytesIn (x8_bytesIn ⟨⟨by omega, by omega⟩, fun h => ?_, fun h => ⟨by decide, by decide, ?_⟩⟩))))⟩
  · refine x8_take h2 (by omega) (x8_take ?_ ?_ (x8_take ?_ ?_ (x8_take ?_ ?_ (x8_take ?_ ?_ ?_))))
    any_goals (repeat rw [tkC_14]); omega
    have f6 : sI (pI v 0 0) 6 = sI v 6 := rfl
    refine x10_bytesIn r1 (x10_bytesIn r2 (x10_bytesIn r3 (x10_bytesIn r4 (x10_bytesIn r5 ⟨⟨by omega, by omega⟩, fun d => absurd d (by omega), fun _ => fails_ok rfl (Or.inr rfl) (fun _ => ⟨by decide, fun _ => ?_, fun d => absurd rfl d⟩) (fun d => absurd d (by decide))⟩))))
    refine x10_takes r1 (by rw [f6]; omega) (by rw [f6]; omega) (x10_takes r2 ?_ ?_ (x10_takes r3 ?_ ?_ (x10_takes r4 ?_ ?_ (x10_takes r5 ?_ ?_ ?_))))
    any_goals (repeat rw [tkM_6]); rw [f6]; omega
    have ht : Tp (tkC (tkC (tkC (tkC (tkC u y1) y2) y3) y4) y5) (tkM (tkM (tkM (tkM (tkM (pI v 0 0) y1) y2) y3) y4) y5) := tp_tk (tp_tk (tp_tk (tp_tk (tp_tk ⟨h1, h2, h4⟩))))
    have hC : FtC u (tkC (tkC (tkC (tkC (tkC u y1) y2) y3) y4) y5) := ((((tkC_f _ _).tr (tkC_f _ _)).tr (tkC_f _ _)).tr (tkC_f _ _)).tr (tkC_f _ _)
    have hM : FtM (pI v 0 0) (tkM (tkM (tkM (tkM (tkM (pI v 0 0) y1) y2) y3) y4) y5) := ((((tkM_f _ _).tr (tkM_f _ _)).tr (tkM_f _ _)).tr (tkM_f _ _)).tr (tkM_f _ _)
    have hL : sI (tkC (tkC (tkC (tkC (tkC u y1) y2) y3) y4) y5) 14 ≤ 300 := by
      rw [tkC_14, tkC_14, tkC_14, tkC_14, tkC_14]
      omega
    generalize tkC (tkC (tkC (tkC (tkC u y1) y2) y3) y4) y5 = u' at ht hC hL
    generalize tkM (tkM (tkM (tkM (tkM (pI v 0 0) y1) y2) y3) y4) y5 = v' at ht hM
    refine ⟨hM.1 0 (by decide), ht.1, inv_c hI ⟨g, hV, by omega, aj_t hu hC, mj_x (v := pI v 0 0) hv (fun j a b => hM.1 j (by omega)) (fun j a => hM.2 j (by omega)), ht.1, ht.2.1, hL, ht.2.2, ?_⟩⟩
    rw [hC.1 1 (by decide), hC.1 2 (by decide), hC.1 3 (by decide), hC.2.1 12 (by decide), hM.1 11 (by decide), hM.1 12 (by decide), hM.1 14 (by decide), hM.2 14 (by decide)]
    exact ⟨h5, h6, h7, h8, h9, h10⟩
  · refine x10_bytesIn r1 (x10_bytesIn r2 (x10_bytesIn r3 (x10_bytesIn r4 (x10_bytesIn r5 ⟨⟨by omega, by omega⟩, fun _ => fails_ok rfl (Or.inl rfl) (fun d => absurd d (by decide)) (fun _ => ⟨by decide, fun d => absurd d (by decide), fun _ => ⟨rfl, inv_rcc hI⟩⟩), fun d => absurd d (by omega)⟩))))
