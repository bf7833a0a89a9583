/-! the law's loop whole -/
def Steps (G : Gr) (Inv : Nat → Nat → Nat → St → St → Prop) : Prop := (∀ k c sl u v, Inv k c sl u v → Inv (k + 1) c sl u v) ∧ St_0 G Inv ∧ St_1 G Inv ∧ St_2 G Inv ∧ St_3 G Inv ∧ St_4 G Inv ∧ St_5 G Inv ∧ St_6 G Inv ∧ St_7 G Inv ∧ St_8 G Inv ∧ St_9 G Inv ∧ St_10 G Inv ∧ St_11 G Inv ∧ St_12 G Inv ∧ St_13 G Inv ∧ St_14 G Inv ∧ St_15 G Inv ∧ St_16 G Inv ∧ St_17 G Inv ∧ St_18 G Inv ∧ St_19 G Inv ∧ St_20 G Inv ∧ St_21 G Inv ∧ St_22 G Inv ∧ St_23 G Inv ∧ St_24 G Inv ∧ St_25 G Inv ∧ St_26 G Inv ∧ St_27 G Inv ∧ St_28 G Inv ∧ St_29 G Inv ∧ St_30 G Inv ∧ St_31 G Inv ∧ St_32 G Inv ∧ St_33 G Inv ∧ St_34 G Inv ∧ St_35 G Inv ∧ St_36 G Inv ∧ St_37 G Inv ∧ St_38 G Inv ∧ St_39 G Inv
theorem ofNat_zI (n : Nat) : Value.int (Int32.ofNat n) = zI (n : Int) := congrArg Value.int (by simp [Int32.ofInt_eq_ofNat])
theorem law_loop {p : Program} {l : Launch} {e : Env} {R : Room} {s : State} {m : MethodId} {args : Array Value} {below : List Frame} {meth : Method} {c : Code} {Q : State → Prop} {G : Gr} {A : Nat → Prop} {a a' : Nat → Nat} {o b L : Nat} {xs : Nat → Int32} {Inv : Nat → Nat → Nat → St → St → Prop} (hst : l.stackTraces = false) (hR : 40 ≤ R.frames ∧ 1300 ≤ R.locals) (hRc : R.cells = 601024 ∧ R.slots = 7293034) (X : CallFix p m c cL_law 9 s args lw_all RL) (K : KK G s) (g : Gd G A s s.heap) (hX : va_X b L xs s s.heap) (hbl : b < s.heap.size) (hbA : ¬ A b) (hL : L ≤ 3072) (hS : Steps G Inv)
    (kend : ∀ (d : Drawn) (c' sl' : Nat) (H1 : Heap) (locs1 : List Loc) (ls1 : Array Slot), s.drawn.sameBut d lw_cs → c' ≤ 601024 ∧ sl' ≤ 7293034 → va_S A s.heap H1 locs1 → W p l e R (s.setDrawn d) m args below meth c H1 locs1 c' sl' Q (F0 m 1404 ls1 [])) :
    ∀ (n k kn : Nat) (u v : St) (f : Nat → Int64) (d0 : Drawn) (cells slots : Nat) (H : Heap) (locs : List Loc) (ls : Array Slot), L ≤ kn + n → kn ≤ L + 6 → kn = 6 * k → s.drawn.sameBut d0 lw_cs → Inv k cells slots u v → cells ≤ 601024 ∧ slots ≤ 7293034 → lv_has ls 9 [(4, zI (kn : Int)), (0, .ref b), (1, .ref (a 0)), (2, .ref (a' 0)), (3, .ref o)] → HW G A s.heap (LWd G a a' o u v f) H locs → W p l e R (s.setDrawn d0) m args below meth c H locs cells slots Q (F0 m 23 ls []) := by
  have hhead : ∀ (kn : Nat) (u v : St) (f : Nat → Int64) (d0 : Drawn) (cells slots : Nat) (H : Heap) (locs : List Loc) (ls : Array Slot), kn ≤ L + 6 → s.drawn.sameBut d0 lw_cs → cells ≤ 601024 ∧ slots ≤ 7293034 → lv_has ls 9 [(4, zI (kn : Int)), (0, .ref b), (1, .ref (a 0)), (2, .ref (a' 0)), (3, .ref o)] → HW G A s.heap (LWd G a a' o u v f) H locs → (kn + 6 ≤ L → W p l e R (s.setDrawn d0) m args below meth c H locs cells slots Q (F0 m 33 ls [])) → W p l e R (s.setDrawn d0) m args below meth c H locs cells slots Q (F0 m 23 ls []) := by
    intro kn u v f d0 cells slots H locs ls hkL hd0 hcs hl h kin
    refine z_iload (fixD X d0) hl 0 rfl dL_law_23 ?_
    refine z_aload_n (fixD X d0) hl 1 rfl rfl dL_law_25 ?_
    refine va_slen (s := s.setDrawn d0) X.1 X.2.1 (va_X.moved (u := s) (U := s.setDrawn d0) (Vm.Alike.refl s.vm) hX) hbl hbA h.2.2.1 dL_law_26 ?_
    rw [ofNat_zI]
    refine z_bipush (v := 6) (fixD X d0) dL_law_27 (by decide) ?_
    refine z_isub (fixD X d0) dL_law_29 ?_
    refine z_icmp_gt (tgt := 1404) (fixD X d0) ⟨by omega, by omega⟩ ⟨by omega, by omega⟩ dL_law_30 (by decide) (fun c1 => ?_) (fun c1 => ?_)
    · exact kend d0 cells slots H locs ls hd0 hcs h.2.2.1
    · exact kin (by omega)
  obtain ⟨h40, S0, S1, S2, S3, S4, S5, S6, S7, S8, S9, S10, S11, S12, S13, S14, S15, S16, S17, S18, S19, S20, S21, S22, S23, S24, S25, S26, S27, S28, S29, S30, S31, S32, S33, S34, S35, S36, S37, S38, S39⟩ := hS
  intro n
  induction n with
  | zero =>
    intro k kn u v f d0 cells slots H locs ls hn hkL hk hd0 hI hcs hl h
    exact hhead kn u v f d0 cells slots H locs ls hkL hd0 hcs hl h (fun h9 => absurd h9 (by omega))
  | succ n ih =>
    intro k kn u v f d0 cells slots H locs ls hn hkL hk hd0 hI hcs hl h
    refine hhead kn u v f d0 cells slots H locs ls hkL hd0 hcs hl h (fun hkn => ?_)
    refine law_step hd0 hst hR hRc X K g hX hbl hbA hL hk hkn hI hcs h hl h40 S0 S1 S2 S3 S4 S5 S6 S7 S8 S9 S10 S11 S12 S13 S14 S15 S16 S17 S18 S19 S20 S21 S22 S23 S24 S25 S26 S27 S28 S29 S30 S31 S32 S33 S34 S35 S36 S37 S38 S39 (fun d u' v' f' c' sl' H1 locs1 ls1 hd hI1 hcs1 hl1 h1 => ?_)
    refine z_iinc (i := 4) (lv' := [(4, zI ((kn : Int) + 6)), (0, .ref b), (1, .ref (a 0)), (2, .ref (a' 0)), (3, .ref o)]) (fixD X d) hl1 0 rfl (by decide) dL_law_1398 rfl (fun ls hl => ?_)
    refine z_goto (tgt := 23) (fixD X d) dL_law_1401 (by decide) ?_
    have hl : lv_has ls 9 [(4, zI ((kn + 6 : Nat) : Int)), (0, .ref b), (1, .ref (a 0)), (2, .ref (a' 0)), (3, .ref o)] := hl
    exact ih (k + 1) (kn + 6) u' v' f' d c' sl' H1 locs1 ls (by omega) (by omega) (by omega) hd hI1 hcs1 hl h1
