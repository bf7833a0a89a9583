/-! a round of both parsers -/
theorem pi_c {B : Int → Int} {L c : Int} {A Kd Nm Pl : Int → Int} {u w : St} {t : Int} {o : Nat} (h : PI B L c A Kd Nm Pl u w t o) : sI u 16 = c ∧ sA u 7 = Kd ∧ sA u 8 = Nm ∧ sA u 9 = Pl ∧ o ≤ 4 ∧ sI u 15 = o ∧ 0 ≤ t ∧ t ≤ c := by
  obtain ⟨⟨h1, h2, h3, h4⟩, h5, h6, h7, h8, -⟩ := h
  exact ⟨h1, h2, h3, h4, h5, h6, h7, h8⟩
/-- the class stops at token t -/
theorem cl_stop {post : Int → St → Prop} {L t wd r : Int} {f : Nat} {u : St} (h0 : 0 ≤ t) (h1 : t < sI u 16) (h3 : sI u 16 ≤ 300) (hr : sA u 9 t = r) (hp : post r u) (h : ∀ p : Int → St → Prop, p 4 u → w_X7_wantedBehind p u t wd) : Lp (B_X7_misfitOfScript_9 post L) (f + 1) (u, wd, t) :=
  cl_tok h0 h1 h3 (h _ ⟨by decide, fun c => absurd rfl c, fun _ => ⟨h0, by omega, by rw [hr]; exact hp⟩⟩)
theorem ra_no {Q : Int → St → Prop} {K : St × Int → Prop} {o : Int} {w : St} (h : Q 0 w) : raC Q K o 0 w := ⟨by decide, fun c => absurd rfl c, fun _ => h⟩
theorem kind_inr {B : Int → Int} {L c t : Int} {A Kd Nm Pl : Int → Int} (h : Row B L c A Kd Nm Pl) (h0 : 0 ≤ t) (h1 : t < c) : InR (Kd t) := by
  obtain ⟨tk, x, -, q⟩ := h.2.2.1 t h0 h1
  exact km_inr q
theorem round_stop {B : Int → Int} {L c : Int} {A Kd Nm Pl : Int → Int} {u w : St} {t : Int} {o : Nat} (hR : Row B L c A Kd Nm Pl) (h : PI B L c A Kd Nm Pl u w t o) (htc : t < c) (hc : c ≤ 300) (h125 : Kd t ≠ 125 ∨ o = 0) (hcl : Kd t ≠ 125 → ∀ p : Int → St → Prop, p 4 u → w_X7_beginAct p u t (Kd t)) (hm : ∀ p : Int → St → Prop, p 0 w → w_X10_readsItem p w o) : Round B L c A Kd Nm Pl u w t o := by
  have hP := h
  obtain ⟨⟨h1, h2, h3, h4⟩, h5, h6, h7, h8, h9, h10, h11, h12, h13, h14, m, h15⟩ := h
  obtain ⟨k1, k2, k3⟩ := att_k h9 htc
  have hpl := hR.place h7 htc
  have hki := kind_inr hR h7 htc
  have h71 : sI w 7 ≠ 0 ∧ InR (sI w 7) ∧ (sI w 7 = 1 → sI w 9 = Kd t) := by
    rcases k3 with ⟨a, b, d⟩ | ⟨a, b, d⟩ | ⟨a, b⟩ | ⟨a, b, d⟩
    · exact ⟨by omega, by omega, fun f => by omega⟩
    · exact ⟨by omega, by omega, fun f => by omega⟩
    · exact ⟨by omega, by omega, fun f => by omega⟩
    · exact ⟨by omega, by omega, fun f => d⟩
  refine Or.inr ⟨Pl t, u, w, hpl.1, by omega, k2, fun post f hp => ?_, fun Q n hq => ?_, FrP.rf, FrPM.rf⟩
  · refine cl_stop (f := f + 1) h7 (by omega) (by omega) (by rw [h4]) hp (fun p hp4 => wb_0 h7 (by omega) (by omega) (by rw [h2]; exact hki) (fun d => ?_) (fun d => ?_))
    · rw [h2] at d ⊢
      exact hcl d p hp4
    · rw [h2] at d
      exact close_ok (by omega) (fun _ => hp4) (fun f => by omega)
  · refine ra_item h71.2.1 h71.1 (by omega) (fun d => by rw [h71.2.2 d]; exact hki) ?_ (hm _ (ra_no hq))
    rcases h125 with d | d
    · exact Or.inr (fun f => d (by rw [← h71.2.2 f.1]; exact f.2))
    · exact Or.inl (by omega)
/-- the header of a block: what follows decides -/
theorem round_block {B : Int → Int} {L c : Int} {A Kd Nm Pl : Int → Int} {u w : St} {t val : Int} {o : Nat} (hR : Row B L c A Kd Nm Pl) (h : PI B L c A Kd Nm Pl u w t o) (htc : t < c) (hc : c ≤ 300) (hv : (Kd t = 42 ∧ val = 0) ∨ (Kd t = 2 ∧ val = Nm t ∧ 1 ≤ Nm t ∧ Nm t ≤ 20)) (hcl : ∀ p : Int → St → Prop, p 3 u → w_X7_beginAct p u t (Kd t)) (hm : ∀ (w1 : St), (∀ p : St → Prop, p w1 → w_X10_reads p w) → ∀ p : Int → St → Prop, w_X10_opens (fun (z43 : Int) (u44 : St) => (z43 = 0 ∨ z43 = 1) ∧ p z43 u44) w1 o val → w_X10_readsItem p w o) : Round B L c A Kd Nm Pl u w t o := by
  have hP := h
  obtain ⟨⟨h1, h2, h3, h4⟩, h5, h6, h7, h8, h9, h10, h11, h12, h13, h14, m, h15⟩ := h
  obtain ⟨k1, k2, k3⟩ := att_k h9 htc
  have hki := kind_inr hR h7 htc
  have hL := h10.2.1
  obtain ⟨w1, a1, f1, r1⟩ := next_det h10 hR (i := t + 1) (by omega) (by omega) k1
  have e13 : sI w1 13 = sI w 13 := f1.1 13 (by omega)
  have hT1 := h10.fr f1
  have h71 : sI w 7 ≠ 0 ∧ InR (sI w 7) ∧ (sI w 7 = 1 → sI w 9 = Kd t) := by
    rcases k3 with ⟨a, b, d⟩ | ⟨a, b, d⟩ | ⟨a, b⟩ | ⟨a, b, d⟩
    · exact ⟨by omega, by omega, fun f => by omega⟩
    · exact ⟨by omega, by omega, fun f => by omega⟩
    · exact ⟨by omega, by omega, fun f => by omega⟩
    · exact ⟨by omega, by omega, fun f => d⟩
  have n125 : Kd t ≠ 125 := by rcases hv with ⟨q, -⟩ | ⟨q, -⟩ <;> omega
  have hra : ∀ (Q : Int → St → Prop) (n : Nat), w_X10_opens (fun (z43 : Int) (u44 : St) => (z43 = 0 ∨ z43 = 1) ∧ raC Q (Lp (B_X10_readsAll_16 Q) n) o z43 u44) w1 o val → Lp (B_X10_readsAll_16 Q) (n + 1) (w, (o : Int)) := fun Q n hh => ra_item h71.2.1 h71.1 (by omega) (fun d => by rw [h71.2.2 d]; exact hki) (Or.inr (fun f => n125 (by rw [← h71.2.2 f.1]; exact f.2))) (hm w1 r1 _ hh)
  have hcs : ∀ (post : Int → St → Prop) (f : Nat), Lp (B_X7_misfitOfScript_9 post L) (f + 1) (u, 3, t + 1) → Lp (B_X7_misfitOfScript_9 post L) (f + 2) (u, 0, t) := fun post f hh => cl_tok (f := f + 1) h7 (by omega) (by omega) (wb_0 h7 (by omega) (by omega) (by rw [h2]; exact hki) (fun _ => by rw [h2]; exact hcl _ ⟨by decide, fun _ => hh, fun d => absurd d (by decide)⟩) (fun d => absurd (by rw [← h2]; exact d) n125))
  have stop : ∀ r : Int, 0 ≤ r → r ≤ L → sI w1 8 = r → InR (sI w1 7) → (sI w1 7 = 1 → InR (sI w1 9)) → ¬ (sI w1 7 = 1 ∧ sI w1 9 = 123 ∧ (o : Int) < 4) → (∀ (post : Int → St → Prop) (f : Nat), post r u → Lp (B_X7_misfitOfScript_9 post L) (f + 1) (u, 3, t + 1)) → Round B L c A Kd Nm Pl u w t o := fun r r0 rL e8 i7 i9 hn hc2 => Or.inr ⟨r, u, w1, r0, rL, e8, fun post f hp => hcs post f (hc2 post f hp), fun Q n hq => hra Q n (opens_ok i7 i9 (by omega) (by omega) (by omega) (fun _ => ⟨Or.inl rfl, ra_no hq⟩) (fun d1 d2 d3 => absurd ⟨d1, d2, d3⟩ hn)), FrP.rf, f1.pm⟩
  have hL0 : 0 ≤ L := by
    have := hR.place h7 htc
    omega
  by_cases d : t + 1 = c
  · obtain ⟨q1, q2⟩ := a1.2 d
    exact stop L hL0 (Int.le_refl L) q2 (by omega) (fun f => by omega) (fun f => by omega) (fun post f hp => cl_end (by omega) (by omega) (by omega) (by decide) ⟨by omega, by omega⟩ (fun _ => hp) (fun f => absurd f (by decide)))
  · have htc1 : t + 1 < c := by omega
    obtain ⟨j1, j2, j3⟩ := att_k a1 htc1
    have hpl1 := hR.place (t := t + 1) (by omega) htc1
    have hki1 := kind_inr hR (t := t + 1) (by omega) htc1
    have h72 : InR (sI w1 7) ∧ (sI w1 7 = 1 → sI w1 9 = Kd (t + 1)) ∧ (Kd (t + 1) = 123 → sI w1 7 = 1) := by
      rcases j3 with ⟨a, b, d⟩ | ⟨a, b, d⟩ | ⟨a, b⟩ | ⟨a, b, d⟩
      · exact ⟨by omega, fun f => by omega, fun f => by omega⟩
      · exact ⟨by omega, fun f => by omega, fun f => by omega⟩
      · exact ⟨by omega, fun f => by omega, fun f => by omega⟩
      · exact ⟨by omega, fun f => d, fun f => b⟩
    by_cases g : Kd (t + 1) = 123 ∧ o < 4
    · obtain ⟨g1, g2⟩ := g
      have b7 := h72.2.2 g1
      have b9 := h72.2.1 b7
      have hT2 : TpM (kIt w1 123 val) B L := hT1.kit
      obtain ⟨w2, a2, f2, r2⟩ := next_det hT2 hR (i := t + 2) (by omega) (by omega) (by show sI w1 10 = _; rw [j1]; congr 1; omega)
      have hT3 : TpM w2 B L := hT2.fr f2
      have e132 : sI w2 13 = sI w 13 + 1 := by rw [f2.1 13 (by omega), kit_13, e13]
      have e82 : ∀ j, sA w2 8 j = if j = sI w 13 then 123 else sA w 8 j := fun j => by rw [f2.a, kit_8, e13, f1.a]
      have e92 : ∀ j, sA w2 9 j = if j = sI w 13 then val else sA w 9 j := fun j => by rw [f2.a, kit_9, e13, f1.a]
      have e102 : sA w2 10 = sA w 10 := by rw [f2.a, kit_10, f1.a]
      have e112 : sA w2 11 = sA w 11 := by rw [f2.a, kit_11, f1.a]
      refine Or.inl ⟨pI (pA u 11 (sI u 15) t) 15 (sI u 15 + 1), pA w2 11 o (sI w2 13 - 1), t + 2, o + 1, 2, by omega, by omega, by omega, fun post f hh => hcs post f ?_, fun Q n hh => hra Q n (opens_ok h72.1 (fun f => by rw [b9]; exact hki1) (by omega) (by omega) (by omega) (fun f => absurd ⟨b7, by rw [b9]; exact g1, by omega⟩ f) (fun _ _ _ => r2 _ ⟨Or.inr rfl, by decide, fun _ => ⟨by omega, by omega, ?_, fun _ => ⟨by omega, by omega, hh⟩, fun f => absurd ?_ f⟩, fun f => absurd f (by decide)⟩)), ?_, FrP.a11.tr FrP.i15, (f1.pm.tr FrPM.kit).tr (f2.pm.tr (FrPM.a (Or.inr rfl)))⟩
      · refine cl_tok (t := t + 1) (by omega) (by omega) (by omega) (wb_3 (by omega) (by omega) (by omega) (by rw [h2]; exact hki1) (by omega) (fun f => absurd (by rw [h2]; exact g1) f) (fun f => absurd f (by omega)) (fun _ _ => ⟨by decide, fun _ => ?_, fun f => absurd f (by decide)⟩))
        rw [show t + 1 - 1 = t by omega, show t + 1 + 1 = t + 2 by omega]
        exact hh
      · rw [e82, e132, if_pos (by omega)]
        decide
      · rw [e82, e132, if_pos (by omega)]
      · refine pi_open hP g2 (by omega) a2 hT3 e132 (fun j hj => ?_) ?_ (fun j hj => ⟨?_, ?_, ?_⟩) ⟨g1, ?_, ?_⟩
        · show zset (sA w2 11) o (sI w2 13 - 1) j = _
          rw [zset_at, if_neg hj, e112]
        · show zset (sA w2 11) o (sI w2 13 - 1) o = _
          rw [zset_at, if_pos rfl, e132]
          omega
        · show sA w2 8 j = _
          rw [e82, if_neg (by omega)]
        · show sA w2 9 j = _
          rw [e92, if_neg (by omega)]
        · show sA w2 10 j = _
          rw [e102]
        · show sA w2 8 (sI w 13) = 123
          rw [e82, if_pos rfl]
        · show (Kd t = 42 ∧ sA w2 9 (sI w 13) = 0) ∨ (Kd t = 2 ∧ sA w2 9 (sI w 13) = Nm t ∧ 1 ≤ Nm t ∧ Nm t ≤ 20)
          rw [e92, if_pos rfl]
          exact hv
    · refine stop (Pl (t + 1)) hpl1.1 (by omega) j2 h72.1 (fun f => by rw [h72.2.1 f]; exact hki1) (fun f => g ⟨by rw [← h72.2.1 f.1]; exact f.2.1, by omega⟩) (fun post f hp => cl_stop (by omega) (by omega) (by omega) (by rw [h4]) hp (fun p hp4 => wb_3 (by omega) (by omega) (by omega) (by rw [h2]; exact hki1) (by omega) (fun _ => hp4) (fun _ => hp4) (fun f1 f2 => absurd ⟨by rw [← h2]; exact f1, by omega⟩ g)))
/-- a sign that wants an operand -/
theorem round_operand {B : Int → Int} {L c : Int} {A Kd Nm Pl : Int → Int} {u w : St} {t kd tk : Int} {o : Nat} (hR : Row B L c A Kd Nm Pl) (h : PI B L c A Kd Nm Pl u w t o) (htc : t < c) (hc : c ≤ 300) (hs : sgn (Kd t)) (n125 : Kd t ≠ 125) (n123 : Kd t ≠ 123) (hkt : (kd = 1 ∧ tk = 3 ∧ wsgn (Kd t)) ∨ (kd = 2 ∧ tk = 2 ∧ Kd t = 64)) (hcl : ∀ p : Int → St → Prop, p kd (pA u 10 t (t + 2)) → w_X7_beginAct p u t (Kd t)) (hcw : ∀ (u1 : St) (p : Int → St → Prop), sI u1 16 = c → sA u1 7 = Kd → (Kd (t + 1) = kd → p 0 u1) → (¬ Kd (t + 1) = kd → p 4 u1) → t + 1 < c → w_X7_wantedBehind p u1 (t + 1) kd)
    (hm : ∀ (w1 : St), (∀ p : St → Prop, p w1 → w_X10_reads p w) → InR (sI w1 7) → 0 ≤ sI w1 13 → sI w1 13 < 300 → ∀ p : Int → St → Prop, (¬ sI w1 7 = tk → p 0 w1) → (sI w1 7 = tk → w_X10_reads (fun u => p 1 u) (kIt w1 (Kd t) (sI w1 9))) → w_X10_readsItem p w o) : Round B L c A Kd Nm Pl u w t o := by
  have hP := h
  obtain ⟨⟨h1, h2, h3, h4⟩, h5, h6, h7, h8, h9, h10, h11, h12, h13, h14, m, h15⟩ := h
  obtain ⟨k1, k2, k3⟩ := att_k h9 htc
  have hki := kind_inr hR h7 htc
  have hL := h10.2.1
  obtain ⟨w1, a1, f1, r1⟩ := next_det h10 hR (i := t + 1) (by omega) (by omega) k1
  have e13 : sI w1 13 = sI w 13 := f1.1 13 (by omega)
  have hT1 := h10.fr f1
  have h71 : sI w 7 = 1 ∧ sI w 9 = Kd t := by
    rcases k3 with ⟨a, b, d⟩ | ⟨a, b, d⟩ | ⟨a, b⟩ | ⟨a, b, d⟩
    · omega
    · omega
    · omega
    · exact ⟨b, d⟩
  have hkd : kd = 1 ∨ kd = 2 := by rcases hkt with ⟨q, -⟩ | ⟨q, -⟩ <;> omega
  have hra : ∀ (Q : Int → St → Prop) (n : Nat), InR (sI w1 7) → (¬ sI w1 7 = tk → Q 0 w1) → (sI w1 7 = tk → w_X10_reads (fun u => raC Q (Lp (B_X10_readsAll_16 Q) n) o 1 u) (kIt w1 (Kd t) (sI w1 9))) → Lp (B_X10_readsAll_16 Q) (n + 1) (w, (o : Int)) := fun Q n i7 hn hy => ra_item (by omega) (by omega) (by omega) (fun d => by rw [h71.2]; exact hki) (Or.inr (fun f => n125 (by rw [← h71.2]; exact f.2))) (hm w1 r1 i7 (by omega) (by omega) _ (fun f => ra_no (hn f)) hy)
  have hcs : ∀ (post : Int → St → Prop) (f : Nat), Lp (B_X7_misfitOfScript_9 post L) (f + 1) (pA u 10 t (t + 2), kd, t + 1) → Lp (B_X7_misfitOfScript_9 post L) (f + 2) (u, 0, t) := fun post f hh => cl_tok (f := f + 1) h7 (by omega) (by omega) (wb_0 h7 (by omega) (by omega) (by rw [h2]; exact hki) (fun _ => by rw [h2]; exact hcl _ ⟨by omega, fun _ => hh, fun d => absurd d (by omega)⟩) (fun d => absurd (by rw [← h2]; exact d) n125))
  have hL0 : 0 ≤ L := by
    have := hR.place h7 htc
    omega
  by_cases d : t + 1 = c
  · obtain ⟨q1, q2⟩ := a1.2 d
    have htk : ¬ sI w1 7 = tk := by rcases hkt with ⟨-, q, -⟩ | ⟨-, q, -⟩ <;> omega
    exact Or.inr ⟨L, pA u 10 t (t + 2), w1, hL0, Int.le_refl L, q2, fun post f hp => hcs post f (cl_end (by show t + 1 = sI u 16; omega) (by omega) (by show sI u 16 ≤ 300; omega) (by omega) (by show InR (sI u 15); omega) (fun _ => hp) (fun f => absurd f (by omega))), fun Q n hq => hra Q n (by omega) (fun _ => hq) (fun f => absurd f htk), FrP.a10, f1.pm⟩
  · have htc1 : t + 1 < c := by omega
    obtain ⟨j1, j2, j3⟩ := att_k a1 htc1
    have hpl1 := hR.place (t := t + 1) (by omega) htc1
    have h72 : InR (sI w1 7) ∧ (Kd (t + 1) = kd → sI w1 7 = tk ∧ sI w1 9 = Nm (t + 1)) ∧ (sI w1 7 = tk → Kd (t + 1) = kd) := by
      rcases hkt with ⟨q1, q2, -⟩ | ⟨q1, q2, -⟩ <;> rcases j3 with ⟨a, b, d⟩ | ⟨a, b, d⟩ | ⟨a, b⟩ | ⟨a, b, d⟩
      · exact ⟨by omega, fun f => ⟨by omega, d⟩, fun f => by omega⟩
      · exact ⟨by omega, fun f => by omega, fun f => by omega⟩
      · exact ⟨by omega, fun f => by omega, fun f => by omega⟩
      · exact ⟨by omega, fun f => by omega, fun f => by omega⟩
      · exact ⟨by omega, fun f => by omega, fun f => by omega⟩
      · exact ⟨by omega, fun f => ⟨by omega, d⟩, fun f => by omega⟩
      · exact ⟨by omega, fun f => by omega, fun f => by omega⟩
      · exact ⟨by omega, fun f => by omega, fun f => by omega⟩
    by_cases g : Kd (t + 1) = kd
    · obtain ⟨b7, b9⟩ := h72.2.1 g
      have hT2 : TpM (kIt w1 (Kd t) (sI w1 9)) B L := hT1.kit
      obtain ⟨w2, a2, f2, r2⟩ := next_det hT2 hR (i := t + 2) (by omega) (by omega) (by show sI w1 10 = _; rw [j1]; congr 1; omega)
      have e132 : sI w2 13 = sI w 13 + 1 := by rw [f2.1 13 (by omega), kit_13, e13]
      have e82 : ∀ j, sA w2 8 j = if j = sI w 13 then Kd t else sA w 8 j := fun j => by rw [f2.a, kit_8, e13, f1.a]
      have e92 : ∀ j, sA w2 9 j = if j = sI w 13 then Nm (t + 1) else sA w 9 j := fun j => by rw [f2.a, kit_9, e13, f1.a, b9]
      have e102 : sA w2 10 = sA w 10 := by rw [f2.a, kit_10, f1.a]
      have e112 : sA w2 11 = sA w 11 := by rw [f2.a, kit_11, f1.a]
      have eE : ∀ j, sA (pA u 10 t (t + 2)) 10 j = if j = t then t + 2 else sA u 10 j := fun j => rfl
      refine Or.inl ⟨pA u 10 t (t + 2), w2, t + 2, o, 2, by omega, by omega, by omega, fun post f hh => hcs post f ?_, fun Q n hh => hra Q n h72.1 (fun f => absurd b7 f) (fun _ => r2 _ ⟨by decide, fun _ => ⟨by omega, by omega, ?_, fun f => absurd f ?_, fun _ => hh⟩, fun f => absurd f (by decide)⟩), ?_, FrP.a10, (f1.pm.tr FrPM.kit).tr f2.pm⟩
      · refine cl_tok (u := pA u 10 t (t + 2)) (by omega) (by show t + 1 < sI u 16; omega) (by show sI u 16 ≤ 300; omega) (hcw (pA u 10 t (t + 2)) _ h1 h2 (fun _ => ⟨by decide, fun _ => ?_, fun f => absurd f (by decide)⟩) (fun f => absurd g f) htc1)
        rw [show t + 1 + 1 = t + 2 by omega]
        exact hh
      · rw [e82, e132, if_pos (by omega)]
        exact hki
      · rw [e82, e132, if_pos (by omega)]
        exact n123
      · refine pi_ext hP FrP.a10 rfl rfl e112 (by omega) (by omega) a2 (hT2.fr f2) e132 (by omega) (fun j hj => by rw [eE, if_neg (by omega)]) (fun j hj => ⟨by rw [e82, if_neg (by omega)], by rw [e92, if_neg (by omega)], by rw [e102]⟩) (Ac.sml ⟨?_, ?_, e132, ?_⟩)
        · show sA (pA u 10 t (t + 2)) 10 t = t + 2
          rw [eE, if_pos rfl]
        · show sA w2 8 (sI w 13) = Kd t
          rw [e82, if_pos rfl]
        · rcases hkt with ⟨q1, q2, q3⟩ | ⟨q1, q2, q3⟩
          · exact Or.inr (Or.inl ⟨q3, rfl, by show Kd (t + 1) = 1; omega, by show sA w2 9 (sI w 13) = Nm (t + 1); rw [e92, if_pos rfl]⟩)
          · exact Or.inr (Or.inr ⟨q3, rfl, by show Kd (t + 1) = 2; omega, by show sA w2 9 (sI w 13) = Nm (t + 1); rw [e92, if_pos rfl]⟩)
    · exact Or.inr ⟨Pl (t + 1), pA u 10 t (t + 2), w1, hpl1.1, by omega, j2, fun post f hp => hcs post f (cl_stop (u := pA u 10 t (t + 2)) (by omega) (by show t + 1 < sI u 16; omega) (by show sI u 16 ≤ 300; omega) (by show sA u 9 (t + 1) = _; rw [h4]) hp (fun p hp4 => hcw (pA u 10 t (t + 2)) p h1 h2 (fun f => absurd f g) (fun _ => hp4) htc1)), fun Q n hq => hra Q n h72.1 (fun _ => hq) (fun f => absurd (h72.2.2 f) g), FrP.a10, f1.pm⟩
theorem round_alone {B : Int → Int} {L c : Int} {A Kd Nm Pl : Int → Int} {u w : St} {t : Int} {o : Nat} (hR : Row B L c A Kd Nm Pl) (h : PI B L c A Kd Nm Pl u w t o) (htc : t < c) (hc : c ≤ 300) (hs : alone (Kd t)) : Round B L c A Kd Nm Pl u w t o := by
  have hP := h
  obtain ⟨⟨h1, h2, h3, h4⟩, h5, h6, h7, h8, h9, h10, h11, h12, h13, h14, m, h15⟩ := h
  obtain ⟨k1, k2, k3⟩ := att_k h9 htc
  have hki := kind_inr hR h7 htc
  have hL := h10.2.1
  obtain ⟨w1, a1, f1, r1⟩ := next_det h10 hR (i := t + 1) (by omega) (by omega) k1
  have e13 : sI w1 13 = sI w 13 := f1.1 13 (by omega)
  have hT1 := h10.fr f1
  have h71 : sI w 7 = 1 ∧ sI w 9 = Kd t := by
    rcases k3 with ⟨a, b, d⟩ | ⟨a, b, d⟩ | ⟨a, b⟩ | ⟨a, b, d⟩
    · omega
    · omega
    · omega
    · exact ⟨b, d⟩
  have e132 : sI (kIt w1 (Kd t) 0) 13 = sI w 13 + 1 := by rw [kit_13, e13]
  have e82 : ∀ j, sA (kIt w1 (Kd t) 0) 8 j = if j = sI w 13 then Kd t else sA w 8 j := fun j => by rw [kit_8, e13, f1.a]
  have e92 : ∀ j, sA (kIt w1 (Kd t) 0) 9 j = if j = sI w 13 then 0 else sA w 9 j := fun j => by rw [kit_9, e13, f1.a]
  have e102 : sA (kIt w1 (Kd t) 0) 10 = sA w 10 := by rw [kit_10, f1.a]
  have e112 : sA (kIt w1 (Kd t) 0) 11 = sA w 11 := by rw [kit_11, f1.a]
  have eE : ∀ j, sA (pA u 10 t (t + 1)) 10 j = if j = t then t + 1 else sA u 10 j := fun j => rfl
  have a2 : AtT (kIt w1 (Kd t) 0) L c (t + 1) A Kd Nm Pl := a1
  refine Or.inl ⟨pA u 10 t (t + 1), kIt w1 (Kd t) 0, t + 1, o, 1, by omega, by omega, by omega, fun post f hh => cl_tok h7 (by omega) (by omega) (wb_0 h7 (by omega) (by omega) (by rw [h2]; exact hki) (fun _ => by rw [h2]; exact ba_alone hs h7 (by omega) ⟨by decide, fun _ => hh, fun d => absurd d (by decide)⟩) (fun d => absurd hs (by rw [h2] at d; omega))), fun Q n hh => ra_item (by omega) (by omega) (by omega) (fun d => by rw [h71.2]; exact hki) (Or.inr (fun f => by have := h71.2; omega)) (ri_alone h71.1 h71.2 hs r1 (by omega) (by omega) ⟨by decide, fun _ => ⟨by omega, by omega, ?_, fun f => absurd f ?_, fun _ => hh⟩, fun f => absurd f (by decide)⟩), ?_, FrP.a10, f1.pm.tr FrPM.kit⟩
  · rw [e82, e132, if_pos (by omega)]
    exact hki
  · rw [e82, e132, if_pos (by omega)]
    omega
  · refine pi_ext hP FrP.a10 rfl rfl e112 (by omega) (by omega) a2 hT1.kit e132 (by omega) (fun j hj => by rw [eE, if_neg (by omega)]) (fun j hj => ⟨by rw [e82, if_neg (by omega)], by rw [e92, if_neg (by omega)], by rw [e102]⟩) (Ac.sml ⟨?_, ?_, e132, Or.inl ⟨hs, rfl⟩⟩)
    · show sA (pA u 10 t (t + 1)) 10 t = t + 1
      rw [eE, if_pos rfl]
    · show sA (kIt w1 (Kd t) 0) 8 (sI w 13) = Kd t
      rw [e82, if_pos rfl]
theorem round_close {B : Int → Int} {L c : Int} {A Kd Nm Pl : Int → Int} {u w : St} {t : Int} {o : Nat} (hR : Row B L c A Kd Nm Pl) (h : PI B L c A Kd Nm Pl u w t (o + 1)) (htc : t < c) (hc : c ≤ 300) (hs : Kd t = 125) : Round B L c A Kd Nm Pl u w t (o + 1) := by
  have hP := h
  obtain ⟨⟨h1, h2, h3, h4⟩, h5, h6, h7, h8, h9, h10, h11, h12, h13, h14, m, h15⟩ := h
  obtain ⟨k1, k2, k3⟩ := att_k h9 htc
  have h71 : sI w 7 = 1 ∧ sI w 9 = 125 := by
    rcases k3 with ⟨a, b, d⟩ | ⟨a, b, d⟩ | ⟨a, b⟩ | ⟨a, b, d⟩
    · omega
    · omega
    · omega
    · exact ⟨b, by omega⟩
  obtain ⟨p1, p2, p3, p4, p5, mo, p6⟩ := h13 o (by omega)
  have hT2 : TpM (kIt (pA w 10 (sA w 11 o) (sI w 13)) 125 0) B L := h10
  obtain ⟨w2, a2, f2, r2⟩ := next_det hT2 hR (i := t + 1) (by omega) (by omega) k1
  have e132 : sI w2 13 = sI w 13 + 1 := by rw [f2.1 13 (by omega), kit_13]; rfl
  have e82 : ∀ j, sA w2 8 j = if j = sI w 13 then 125 else sA w 8 j := fun j => by rw [f2.a, kit_8]; rfl
  have e92 : ∀ j, sA w2 9 j = if j = sI w 13 then 0 else sA w 9 j := fun j => by rw [f2.a, kit_9]; rfl
  have e102 : ∀ j, sA w2 10 j = if j = sA w 11 o then sI w 13 else sA w 10 j := fun j => by rw [f2.a, kit_10]; rfl
  have e112 : sA w2 11 = sA w 11 := by rw [f2.a, kit_11]; rfl
  have eo : (((o + 1 : Nat) : Int)) + -1 = o := by omega
  refine Or.inl ⟨pA (pI u 15 (sI u 15 - 1)) 10 (sA u 11 o) (t + 1), w2, t + 1, o, 1, by omega, by omega, by omega, fun post f hh => cl_tok h7 (by omega) (by omega) (wb_0 h7 (by omega) (by omega) (by rw [h2, hs]; decide) (fun d => absurd (by rw [h2]; exact hs) d) (fun _ => close_ok (by omega) (fun d => by omega) (fun _ => ?_))), fun Q n hh => ?_, pi_close hP htc hs a2 (hT2.fr f2) e132 e112 (fun j hj => ⟨by rw [e82, if_neg (by omega)], by rw [e92, if_neg (by omega)]⟩) (by rw [e82, if_pos rfl]) (fun j hj => by rw [e102, if_neg hj]) (by rw [e102, if_pos rfl]), FrP.i15.tr FrP.a10, ((FrPM.a (Or.inl rfl)).tr FrPM.kit).tr f2.pm⟩
  · rw [show sI u 15 - 1 = o by omega]
    refine ⟨p1, by omega, ⟨by decide, fun _ => ?_, fun d => absurd d (by decide)⟩⟩
    rw [show sI u 15 - 1 = o by omega] at hh
    exact hh
  · refine ⟨by show InR (sI w 7); omega, fun d => absurd d (by show ¬ sI w 7 = 0; omega), fun _ => ⟨⟨by show -2147483648 ≤ ((o + 1 : Nat) : Int); omega, by show ((o + 1 : Nat) : Int) ≤ 2147483647; omega⟩, fun d => absurd d (by show ¬ ((o + 1 : Nat) : Int) ≤ 0; omega), fun _ => ⟨by show InR (sI w 7); omega, fun d => absurd h71.1 d, fun _ => ⟨by show InR (sI w 9); omega, by decide, fun d => absurd h71.2 d, fun _ => ⟨by decide, fun d => absurd d (by decide), fun _ => ?_⟩⟩⟩⟩⟩
    show (0 ≤ (((o + 1 : Nat) : Int)) + -1) ∧ ((((o + 1 : Nat) : Int)) + -1 < 4) ∧ (0 ≤ sA w 11 ((((o + 1 : Nat) : Int)) + -1)) ∧ (sA w 11 ((((o + 1 : Nat) : Int)) + -1) < 300) ∧ (w_X10_keepsItem (fun (u37 : St) => (w_X10_reads (fun (u38 : St) => Lp (B_X10_readsAll_16 Q) n (u38, (((o + 1 : Nat) : Int)) + -1)) u37)) (pA w 10 (sA w 11 ((((o + 1 : Nat) : Int)) + -1)) (sI w 13)) 125 0)
    rw [eo]
    refine ⟨by omega, by omega, p3, by omega, h11, by show sI w 13 < 300; omega, r2 _ hh⟩
theorem parse_round {B : Int → Int} {L c : Int} {A Kd Nm Pl : Int → Int} {u w : St} {t : Int} {o : Nat} (hR : Row B L c A Kd Nm Pl) (h : PI B L c A Kd Nm Pl u w t o) (htc : t < c) (hc : c ≤ 300) : Round B L c A Kd Nm Pl u w t o := by
  have hP := h
  obtain ⟨⟨h1, h2, h3, h4⟩, h5, h6, h7, h8, h9, -⟩ := h
  obtain ⟨k1, k2, k3⟩ := att_k h9 htc
  have hki := kind_inr hR h7 htc
  rcases k3 with ⟨a, b, d⟩ | ⟨a, b, d⟩ | ⟨a, b⟩ | ⟨a, b, d⟩
  · exact round_stop hR hP htc hc (Or.inl (by omega)) (fun _ p hp => ba_no hki (by omega) hp) (fun p hp => ri_no (Or.inl b) hp)
  · have hn := hR.number h7 htc a
    by_cases g : 1 ≤ Nm t ∧ Nm t ≤ 20
    · exact round_block (val := Nm t) hR hP htc hc (Or.inr ⟨a, rfl, g⟩) (fun p hp => by rw [a]; exact ba_num h7 (by omega) (by rw [h3]; omega) (fun _ _ => hp) (fun f => absurd (by rw [h3]; exact g) f)) (fun w1 r p hp => ri_times b (by rw [d]; exact g) r (by rw [d]; exact hp))
    · exact round_stop hR hP htc hc (Or.inl (by omega)) (fun _ p hp => by rw [a]; exact ba_num h7 (by omega) (by rw [h3]; omega) (fun f1 f2 => absurd (by rw [h3] at f1 f2; exact ⟨f1, f2⟩) g) (fun _ => hp)) (fun p hp => ri_range b (by rw [d]; omega) (by rw [d]; exact g) hp)
  · exact round_stop hR hP htc hc (Or.inl (by omega)) (fun _ p hp => ba_no hki (by omega) hp) (fun p hp => ri_no (Or.inr b) hp)
  · by_cases c1 : alone (Kd t)
    · exact round_alone hR hP htc hc c1
    by_cases c2 : wsgn (Kd t)
    · exact round_operand (kd := 1) (tk := 3) hR hP htc hc a (by omega) (by omega) (Or.inl ⟨rfl, rfl, c2⟩) (fun p hp => ba_word c2 h7 (by omega) hp) (fun u1 p e16 e7 hy hn ht => wb_1 (by omega) (by omega) (by omega) (by rw [e7]; exact kind_inr hR (by omega) ht) (fun f => hn (by rw [← e7]; exact f)) (fun f => hy (by rw [← e7]; exact f))) (fun w1 r i7 i13 i13' p hn hy => ri_word b d c2 r i7 i13 i13' hn hy)
    by_cases c3 : Kd t = 64
    · exact round_operand (kd := 2) (tk := 2) hR hP htc hc a (by omega) (by omega) (Or.inr ⟨rfl, rfl, c3⟩) (fun p hp => by rw [c3]; exact ba_at h7 (by omega) hp) (fun u1 p e16 e7 hy hn ht => wb_2 (by omega) (by omega) (by omega) (by rw [e7]; exact kind_inr hR (by omega) ht) (fun f => hn (by rw [← e7]; exact f)) (fun f => hy (by rw [← e7]; exact f))) (fun w1 r i7 i13 i13' p hn hy => ri_at b (by rw [d]; exact c3) r i7 i13 i13' hn (fun f => by have q := hy f; rw [c3] at q; exact q))
    by_cases c4 : Kd t = 42
    · exact round_block (val := 0) hR hP htc hc (Or.inl ⟨c4, rfl⟩) (fun p hp => by rw [c4]; exact ba_star hp) (fun w1 r p hp => ri_star b (by rw [d]; exact c4) r hp)
    by_cases c5 : Kd t = 125
    · cases o with
      | zero => exact round_stop hR hP htc hc (Or.inr rfl) (fun f => absurd c5 f) (fun p hp => ri_brace b (Or.inr (by omega)) hp)
      | succ o => exact round_close hR hP htc hc c5
    · exact round_stop hR hP htc hc (Or.inl c5) (fun _ p hp => ba_no hki (by omega) hp) (fun p hp => ri_brace b (Or.inl (by omega)) hp)
/-- both parsers whole -/
theorem parse_ex {B : Int → Int} {L c : Int} {A Kd Nm Pl : Int → Int} (hR : Row B L c A Kd Nm Pl) (hc : c ≤ 300) (hL : 0 ≤ L) : ∀ (f : Nat) (u w : St) (t : Int) (o : Nat), PI B L c A Kd Nm Pl u w t o → c - t < f → ∃ (N M : Nat) (r z : Int) (u' w' : St), (∀ post : Int → St → Prop, post r u' → Lp (B_X7_misfitOfScript_9 post L) N (u, 0, t)) ∧ (∀ Q : Int → St → Prop, Q z w' → Lp (B_X10_readsAll_16 Q) M (w, (o : Int))) ∧ FrP u u' ∧ FrPM w w' ∧ ((z = 0 ∧ 0 ≤ r ∧ r ≤ L ∧ sI w' 8 = r) ∨ (z = 1 ∧ r = -1 ∧ PI B L c A Kd Nm Pl u' w' c 0))
  | 0, u, w, t, o, h, hf => by
    have := (pi_c h).2.2.2.2.2.2.2
    omega
  | f + 1, u, w, t, o, h, hf => by
    have hP := h
    obtain ⟨⟨h1, h2, h3, h4⟩, h5, h6, h7, h8, h9, -⟩ := h
    by_cases d : t = c
    · obtain ⟨q1, q2⟩ := h9.2 d
      by_cases g : o = 0
      · subst g
        subst d
        exact ⟨1, 1, -1, 1, u, w, fun post hp => cl_end (by omega) h7 (by omega) (by decide) (by omega) (fun f => absurd f (by omega)) (fun _ _ => hp), fun Q hq => ⟨by show InR (sI w 7); omega, fun _ => ⟨(by show InR ((0 : Nat) : Int); decide), fun f => absurd rfl f, fun _ => hq⟩, fun f => absurd q1 f⟩, FrP.rf, FrPM.rf, Or.inr ⟨rfl, rfl, hP⟩⟩
      · exact ⟨1, 1, L, 0, u, w, fun post hp => cl_end (by omega) h7 (by omega) (by decide) (by omega) (fun _ => hp) (fun _ f => by omega), fun Q hq => ⟨by show InR (sI w 7); omega, fun _ => ⟨⟨by show -2147483648 ≤ (o : Int); omega, by show (o : Int) ≤ 2147483647; omega⟩, fun _ => hq, fun f => absurd f (by show ¬ (o : Int) = 0; omega)⟩, fun f => absurd q1 f⟩, FrP.rf, FrPM.rf, Or.inl ⟨rfl, hL, Int.le_refl L, q2⟩⟩
    · rcases parse_round hR hP (by omega) hc with ⟨u', w', t', o', k, g1, g2, g3, g4, g5, g6, g7, g8⟩ | ⟨r, u', w', g1, g2, g3, g4, g5, g6, g7⟩
      · obtain ⟨N, M, r, z, u2, w2, e1, e2, e3, e4, e5⟩ := parse_ex hR hc hL f u' w' t' o' g6 (by omega)
        exact ⟨N + k, M + 1, r, z, u2, w2, fun post hp => g4 post N (e1 post hp), fun Q hq => g5 Q M (e2 Q hq), g7.tr e3, g8.tr e4, e5⟩
      · exact ⟨0 + 2, 0 + 1, r, 0, u', w', fun post hp => g4 post 0 hp, fun Q hq => g5 Q 0 hq, g6, g7, Or.inl ⟨rfl, g1, g2, g3⟩⟩
