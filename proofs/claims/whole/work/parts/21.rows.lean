/-! rows over integers -/
theorem zr_lo : Int32.minValue.toInt = -2147483648 := by decide
theorem zr_hi : Int32.maxValue.toInt = 2147483647 := by decide
theorem zr_lt {x y : Int} (hx : InR x) (hy : InR y) : Int32.ofInt x < Int32.ofInt y ↔ x < y := Int32.ofInt_lt_iff_lt (by rw [zr_lo]; exact hx.1) (by rw [zr_hi]; exact hx.2) (by rw [zr_lo]; exact hy.1) (by rw [zr_hi]; exact hy.2)
theorem zr_le {x y : Int} (hx : InR x) (hy : InR y) : Int32.ofInt x ≤ Int32.ofInt y ↔ x ≤ y := Int32.ofInt_le_iff_le (by rw [zr_lo]; exact hx.1) (by rw [zr_hi]; exact hx.2) (by rw [zr_lo]; exact hy.1) (by rw [zr_hi]; exact hy.2)
theorem zr_toInt {x : Int} (hx : InR x) : (Int32.ofInt x).toInt = x := Int32.toInt_ofInt_of_le (by have := hx.1; omega) (by have := hx.2; omega)
theorem zr_eq {x y : Int} (hx : InR x) (hy : InR y) : Int32.ofInt x = Int32.ofInt y ↔ x = y := ⟨fun h => by rw [← zr_toInt hx, ← zr_toInt hy, h], fun h => by rw [h]⟩
theorem zr_0 : InR 0 := by decide
theorem zr_in (x : Int32) : InR x.toInt := ⟨by have := x.le_toInt; omega, by have := x.toInt_lt; omega⟩
theorem zr_of (x : Int32) : Int32.ofInt x.toInt = x := Int32.ofInt_toInt x
theorem zr_vp {i : Int} {n : Nat} (h0 : 0 ≤ i) (h : i < n) (hn : n < 2 ^ 31) : vp_in (Int32.ofInt i) n := vp_in_iff.mpr (by rw [zr_toInt ⟨by omega, by omega⟩]; exact ⟨h0, h⟩)
theorem zr_cl {i : Int} (h0 : 0 ≤ i) (h : i < 2147483648) : (Int32.ofInt i).toNatClampNeg = i.toNat := by
  show (Int32.ofInt i).toInt.toNat = _
  rw [zr_toInt ⟨by omega, by omega⟩]
theorem zr_div {x y : Int} (hx : InR x) (hy : InR y) (h0 : 0 ≤ x) : Int32.ofInt x / Int32.ofInt y = Int32.ofInt (x / y) := by
  rw [← Int.tdiv_eq_ediv_of_nonneg h0]
  exact (Int32.ofInt_tdiv (by rw [zr_lo]; exact hx.1) (by rw [zr_hi]; exact hx.2) (by rw [zr_lo]; exact hy.1) (by rw [zr_hi]; exact hy.2)).symm
theorem zr_rem {x y : Int} (hx : InR x) (hy : InR y) (h0 : 0 ≤ x) : Int32.ofInt x - Int32.ofInt x / Int32.ofInt y * Int32.ofInt y = Int32.ofInt (x % y) := by
  rw [zr_div hx hy h0, ← Int32.ofInt_mul, ← Int32.ofInt_sub, Int.emod_def, Int.mul_comm]
theorem zr_bv (x : Int) : (Int32.ofInt x).toBitVec.toNat = (x % 4294967296).toNat := by
  show (BitVec.ofInt 32 x).toNat = _
  rw [BitVec.toNat_ofInt]
  rfl
theorem zr_and (x : Int) (k : Nat) (hk : k ≤ 31) {mm : Int32} (hm : mm.toBitVec.toNat = 2 ^ k - 1) : Int32.ofInt x &&& mm = Int32.ofInt (x % (2 ^ k : Nat)) := by
  rw [pk_and _ k hm, zr_bv]
  have h2 : ((2 ^ k : Nat) : Int) ∣ 4294967296 := by
    have : (2 : Nat) ^ k ∣ 2 ^ 32 := Nat.pow_dvd_pow 2 (by omega)
    exact Int.natCast_dvd_natCast.mpr this
  have e : ((x % 4294967296).toNat % 2 ^ k : Nat) = (x % (2 ^ k : Nat)).toNat := by
    have hp : (0 : Int) < (2 ^ k : Nat) := Int.natCast_pos.mpr (Nat.two_pow_pos k)
    apply Int.ofNat.inj
    show ((((x % 4294967296).toNat % 2 ^ k : Nat)) : Int) = ((x % (2 ^ k : Nat)).toNat : Int)
    rw [Int.natCast_emod, Int.toNat_of_nonneg (Int.emod_nonneg _ (by decide)), Int.toNat_of_nonneg (Int.emod_nonneg _ (by omega)), Int.emod_emod_of_dvd _ h2]
  rw [e]
  have hp : (0 : Int) < (2 ^ k : Nat) := Int.natCast_pos.mpr (Nat.two_pow_pos k)
  show Int32.ofNat _ = _
  rw [← Int32.ofInt_eq_ofNat, Int.toNat_of_nonneg (Int.emod_nonneg _ (by omega))]
theorem zr_255 (x : Int) : Int32.ofInt x &&& Int32.ofInt 255 = Int32.ofInt (x % 256) := zr_and x 8 (by decide) (by decide)
theorem zr_63 (x : Int) : Int32.ofInt x &&& Int32.ofInt 63 = Int32.ofInt (x % 64) := zr_and x 6 (by decide) (by decide)
theorem zr_and01 {x y : Int} (hx : x = 0 ∨ x = 1) (hy : y = 0 ∨ y = 1) : Int32.ofInt x &&& Int32.ofInt y = Int32.ofInt (x * y) := by
  rcases hx with rfl | rfl <;> rcases hy with rfl | rfl <;> decide
theorem zr_shr {x : Int} (hx : InR x) (k : Nat) (hk : k < 32) : Int32.ofInt x >>> (Int32.ofInt k &&& 31) = Int32.ofInt (x / (2 ^ k : Nat)) := by
  have h : ∀ k : Fin 32, ((Int32.ofInt (k.val : Int) &&& 31).toBitVec.smod 32).toNat = k.val := by decide
  have h1 := pk_shr (Int32.ofInt x) (Int32.ofInt k &&& 31) k (h ⟨k, hk⟩)
  rw [zr_toInt hx, Int.shiftRight_eq_div_pow] at h1
  rw [← zr_of (Int32.ofInt x >>> (Int32.ofInt k &&& 31)), h1]
theorem zr_ushr (x : Int) (k : Nat) (hk : k < 32) : ((Int32.ofInt x).toUInt32 >>> ((Int32.ofInt k).toUInt32 &&& Int32.toUInt32 31)).toInt32 = Int32.ofInt ((x % 4294967296) / (2 ^ k : Nat)) := by
  have h : ∀ k : Fin 32, (((Int32.ofInt (k.val : Int)).toUInt32 &&& Int32.toUInt32 31).toBitVec % 32).toNat = k.val := by decide
  have h1 := pk_ushr (Int32.ofInt x) (Int32.ofInt k) k (h ⟨k, hk⟩)
  rw [zr_bv] at h1
  apply Int32.toBitVec.inj
  apply BitVec.eq_of_toNat_eq
  rw [h1, zr_bv]
  have a1 : 0 ≤ x % 4294967296 := Int.emod_nonneg _ (by decide)
  have a2 : x % 4294967296 < 4294967296 := Int.emod_lt_of_pos _ (by decide)
  have a3 : (0 : Int) ≤ (x % 4294967296) / (2 ^ k : Nat) := Int.ediv_nonneg a1 (Int.natCast_nonneg _)
  have a4 : (x % 4294967296) / (2 ^ k : Nat) ≤ x % 4294967296 := Int.ediv_le_self _ a1
  rw [Int.emod_eq_of_lt a3 (by omega)]
  apply Int.ofNat.inj
  show (((x % 4294967296).toNat / 2 ^ k : Nat) : Int) = (((x % 4294967296) / (2 ^ k : Nat)).toNat : Int)
  rw [Int.natCast_ediv, Int.toNat_of_nonneg a1, Int.toNat_of_nonneg a3]
theorem zr_i2c {x : Int} (h0 : 0 ≤ x) (h : x < 65536) : ((Int32.ofInt x).toUInt32 % 65536).toInt32 = Int32.ofInt x := by
  apply Int32.toBitVec.inj
  apply BitVec.eq_of_toNat_eq
  show ((Int32.ofInt x).toUInt32 % 65536).toNat = _
  rw [UInt32.toNat_mod]
  show (Int32.ofInt x).toBitVec.toNat % _ = _
  rw [zr_bv]
  rw [Int.emod_eq_of_lt h0 (by omega)]
  show x.toNat % 65536 = _
  omega
theorem zr_u16 {x : Int} (h0 : 0 ≤ x) (h : x < 65536) : (Int32.ofInt x).toUInt32.toUInt16.toUInt32.toInt32 = Int32.ofInt x := by
  apply Int32.toBitVec.inj
  apply BitVec.eq_of_toNat_eq
  show (Int32.ofInt x).toUInt32.toUInt16.toUInt32.toNat = _
  rw [UInt16.toNat_toUInt32, UInt32.toNat_toUInt16]
  show (Int32.ofInt x).toBitVec.toNat % _ = _
  rw [zr_bv, Int.emod_eq_of_lt h0 (by omega)]
  omega
/-- arrays: contents as integers, by integers -/
def aI (f : Int → Int) : Nat → Int32 := fun j => Int32.ofInt (f (j : Int))
def zset (f : Int → Int) (i v : Int) : Int → Int := fun j => if j = i then v else f j
theorem zset_same (f : Int → Int) (i v : Int) : zset f i v i = v := if_pos rfl
theorem zset_ne {f : Int → Int} {i v j : Int} (h : j ≠ i) : zset f i v j = f j := if_neg h
theorem aI_upd {f : Int → Int} {i x : Int} (h0 : 0 ≤ i) (h : i < 2147483648) : upd (aI f) (Int32.ofInt i).toNatClampNeg (Int32.ofInt x) = aI (zset f i x) := by
  rw [zr_cl h0 h]
  funext j
  show (if j = i.toNat then _ else _) = Int32.ofInt (if (j : Int) = i then x else f j)
  by_cases hj : j = i.toNat
  · rw [if_pos hj, if_pos (by omega)]
  · rw [if_neg hj, if_neg (by omega)]
    rfl
theorem aI_at {f : Int → Int} {i : Int} (h0 : 0 ≤ i) (h : i < 2147483648) : aI f (Int32.ofInt i).toNatClampNeg = Int32.ofInt (f i) := by
  rw [zr_cl h0 h]
  show Int32.ofInt (f (i.toNat : Int)) = _
  rw [Int.toNat_of_nonneg h0]
theorem rf_cat (r : Option Nat) : (va_rf r).category = 1 := by cases r <;> rfl
theorem lv_size {ls : Array Slot} {n : Nat} {lv : List (Nat × Value)} (h : lv_has ls n lv) : ls.size = n := h.1

section
variable {p : Program} {l : Launch} {e : Env} {R : Room} {s : State} {m : MethodId} {args : Array Value} {below : List Frame} {meth : Method} {c : Code} {H : Heap} {locs : List Loc} {cells slots : Nat} {Q : State → Prop}
variable {cc : ByteArray} {own : String} {nL pc : Nat} {ls : Array Slot} {rest : List Value} {G : Gr} {A : Nat → Prop} {w : va_W} {lv lv' : List (Nat × Value)}
theorem z_iconst (X : CallFix p m c cc nL s args lw_all own) {n : Int} (hdg : decode cc pc = .ok (.iconst n, 1)) (kk : W p l e R s m args below meth c H locs cells slots Q (F0 m (pc + 1) ls (zI n :: rest))) : W p l e R s m args below meth c H locs cells slots Q (F0 m pc ls rest) := lv_iconst X.1 X.2.1 hdg rfl kk
theorem z_bipush (X : CallFix p m c cc nL s args lw_all own) {n v : Int} (hdg : decode cc pc = .ok (.bipush n, 2)) (hv : (Int8.ofInt n).toInt32 = Int32.ofInt v) (kk : W p l e R s m args below meth c H locs cells slots Q (F0 m (pc + 2) ls (zI v :: rest))) : W p l e R s m args below meth c H locs cells slots Q (F0 m pc ls rest) := lv_bipush X.1 X.2.1 hdg hv kk
theorem z_sipush (X : CallFix p m c cc nL s args lw_all own) {n v : Int} (hdg : decode cc pc = .ok (.sipush n, 3)) (hv : (Int16.ofInt n).toInt32 = Int32.ofInt v) (kk : W p l e R s m args below meth c H locs cells slots Q (F0 m (pc + 3) ls (zI v :: rest))) : W p l e R s m args below meth c H locs cells slots Q (F0 m pc ls rest) := lv_sipush X.1 X.2.1 hdg hv kk
theorem z_ldc (X : CallFix p m c cc nL s args lw_all own) {idx : Nat} {v : Int32} {z : Int} (hdg : decode cc pc = .ok (.ldc idx, 2)) (hw : Cond.constant own idx v ∈ lw_all) (hz : v = Int32.ofInt z) (kk : W p l e R s m args below meth c H locs cells slots Q (F0 m (pc + 2) ls (zI z :: rest))) : W p l e R s m args below meth c H locs cells slots Q (F0 m pc ls rest) := lv_ldc X.1 X.2.1 X.2.2.2.1 (X.2.2.2.2 _ hw) hdg (by rw [hz]; exact kk)
theorem z_iload_n (X : CallFix p m c cc nL s args lw_all own) (h : lv_has ls nL lv) (j : Nat) {i : Nat} {k : Fin 4} {x : Int} (hj : lv[j]? = some (i, zI x)) (hi : (k : Nat) = i) (hdg : decode cc pc = .ok (.iload_n k, 1)) (kk : W p l e R s m args below meth c H locs cells slots Q (F0 m (pc + 1) ls (zI x :: rest))) : W p l e R s m args below meth c H locs cells slots Q (F0 m pc ls rest) := lv_iload_n X.1 X.2.1 hdg hi (lv_at h j hj) kk
theorem z_iload (X : CallFix p m c cc nL s args lw_all own) (h : lv_has ls nL lv) (j : Nat) {i : Nat} {x : Int} (hj : lv[j]? = some (i, zI x)) (hdg : decode cc pc = .ok (.iload i, 2)) (kk : W p l e R s m args below meth c H locs cells slots Q (F0 m (pc + 2) ls (zI x :: rest))) : W p l e R s m args below meth c H locs cells slots Q (F0 m pc ls rest) := lv_iload X.1 X.2.1 hdg (lv_at h j hj) kk
theorem z_aload_n (X : CallFix p m c cc nL s args lw_all own) (h : lv_has ls nL lv) (j : Nat) {i : Nat} {k : Fin 4} {x : Nat} (hj : lv[j]? = some (i, .ref x)) (hi : (k : Nat) = i) (hdg : decode cc pc = .ok (.aload_n k, 1)) (kk : W p l e R s m args below meth c H locs cells slots Q (F0 m (pc + 1) ls (.ref x :: rest))) : W p l e R s m args below meth c H locs cells slots Q (F0 m pc ls rest) := lv_aload_n X.1 X.2.1 hdg hi (lv_at h j hj) kk
theorem z_aload (X : CallFix p m c cc nL s args lw_all own) (h : lv_has ls nL lv) (j : Nat) {i : Nat} {x : Nat} (hj : lv[j]? = some (i, .ref x)) (hdg : decode cc pc = .ok (.aload i, 2)) (kk : W p l e R s m args below meth c H locs cells slots Q (F0 m (pc + 2) ls (.ref x :: rest))) : W p l e R s m args below meth c H locs cells slots Q (F0 m pc ls rest) := lv_aload X.1 X.2.1 hdg (lv_at h j hj) kk
theorem z_aloadR_n (X : CallFix p m c cc nL s args lw_all own) (h : lv_has ls nL lv) (j : Nat) {i : Nat} {k : Fin 4} {r : Option Nat} (hj : lv[j]? = some (i, va_rf r)) (hi : (k : Nat) = i) (hdg : decode cc pc = .ok (.aload_n k, 1)) (kk : W p l e R s m args below meth c H locs cells slots Q (F0 m (pc + 1) ls (va_rf r :: rest))) : W p l e R s m args below meth c H locs cells slots Q (F0 m pc ls rest) := by
  cases r with
  | none => exact lv_aload_nN X.1 X.2.1 hdg hi (lv_at h j hj) kk
  | some q => exact lv_aload_n X.1 X.2.1 hdg hi (lv_at h j hj) kk
theorem z_aloadR (X : CallFix p m c cc nL s args lw_all own) (h : lv_has ls nL lv) (j : Nat) {i : Nat} {r : Option Nat} (hj : lv[j]? = some (i, va_rf r)) (hdg : decode cc pc = .ok (.aload i, 2)) (kk : W p l e R s m args below meth c H locs cells slots Q (F0 m (pc + 2) ls (va_rf r :: rest))) : W p l e R s m args below meth c H locs cells slots Q (F0 m pc ls rest) := by
  cases r with
  | none => exact lv_aloadN X.1 X.2.1 hdg (lv_at h j hj) kk
  | some q => exact lv_aload X.1 X.2.1 hdg (lv_at h j hj) kk
theorem z_istore_n (X : CallFix p m c cc nL s args lw_all own) (h : lv_has ls nL lv) {i : Nat} {k : Fin 4} {x : Int} (hi : (k : Nat) = i) (hn : i < nL) (hdg : decode cc pc = .ok (.istore_n k, 1)) (hl : (i, zI x) :: lv.filter (fun q => !(q.1 == i) && !(q.1 + 1 == i && q.2.category == 2)) = lv') (kk : ∀ ls' : Array Slot, lv_has ls' nL lv' → W p l e R s m args below meth c H locs cells slots Q (F0 m (pc + 1) ls' rest)) : W p l e R s m args below meth c H locs cells slots Q (F0 m pc ls (zI x :: rest)) := lv_istore_n X.1 X.2.1 hdg hi h hn hl kk
theorem z_istore (X : CallFix p m c cc nL s args lw_all own) (h : lv_has ls nL lv) {i : Nat} {x : Int} (hn : i < nL) (hdg : decode cc pc = .ok (.istore i, 2)) (hl : (i, zI x) :: lv.filter (fun q => !(q.1 == i) && !(q.1 + 1 == i && q.2.category == 2)) = lv') (kk : ∀ ls' : Array Slot, lv_has ls' nL lv' → W p l e R s m args below meth c H locs cells slots Q (F0 m (pc + 2) ls' rest)) : W p l e R s m args below meth c H locs cells slots Q (F0 m pc ls (zI x :: rest)) := lv_istore X.1 X.2.1 hdg h hn hl kk
theorem z_astore_n (X : CallFix p m c cc nL s args lw_all own) (h : lv_has ls nL lv) {i : Nat} {k : Fin 4} {x : Nat} (hi : (k : Nat) = i) (hn : i < nL) (hdg : decode cc pc = .ok (.astore_n k, 1)) (hl : (i, .ref x) :: lv.filter (fun q => !(q.1 == i) && !(q.1 + 1 == i && q.2.category == 2)) = lv') (kk : ∀ ls' : Array Slot, lv_has ls' nL lv' → W p l e R s m args below meth c H locs cells slots Q (F0 m (pc + 1) ls' rest)) : W p l e R s m args below meth c H locs cells slots Q (F0 m pc ls (.ref x :: rest)) := lv_astore_n X.1 X.2.1 hdg hi h hn hl kk
theorem z_astore (X : CallFix p m c cc nL s args lw_all own) (h : lv_has ls nL lv) {i : Nat} {x : Nat} (hn : i < nL) (hdg : decode cc pc = .ok (.astore i, 2)) (hl : (i, .ref x) :: lv.filter (fun q => !(q.1 == i) && !(q.1 + 1 == i && q.2.category == 2)) = lv') (kk : ∀ ls' : Array Slot, lv_has ls' nL lv' → W p l e R s m args below meth c H locs cells slots Q (F0 m (pc + 2) ls' rest)) : W p l e R s m args below meth c H locs cells slots Q (F0 m pc ls (.ref x :: rest)) := lv_astore X.1 X.2.1 hdg h hn hl kk
theorem z_astoreR_n (X : CallFix p m c cc nL s args lw_all own) (h : lv_has ls nL lv) {i : Nat} {k : Fin 4} {r : Option Nat} (hi : (k : Nat) = i) (hn : i < nL) (hdg : decode cc pc = .ok (.astore_n k, 1)) (hl : (i, va_rf r) :: lv.filter (fun q => !(q.1 == i) && !(q.1 + 1 == i && q.2.category == 2)) = lv') (kk : ∀ ls' : Array Slot, lv_has ls' nL lv' → W p l e R s m args below meth c H locs cells slots Q (F0 m (pc + 1) ls' rest)) : W p l e R s m args below meth c H locs cells slots Q (F0 m pc ls (va_rf r :: rest)) := by
  cases r with
  | none => exact lv_astore_nN X.1 X.2.1 hdg hi h hn hl kk
  | some q => exact lv_astore_n X.1 X.2.1 hdg hi h hn hl kk
theorem z_astoreR (X : CallFix p m c cc nL s args lw_all own) (h : lv_has ls nL lv) {i : Nat} {r : Option Nat} (hn : i < nL) (hdg : decode cc pc = .ok (.astore i, 2)) (hl : (i, va_rf r) :: lv.filter (fun q => !(q.1 == i) && !(q.1 + 1 == i && q.2.category == 2)) = lv') (kk : ∀ ls' : Array Slot, lv_has ls' nL lv' → W p l e R s m args below meth c H locs cells slots Q (F0 m (pc + 2) ls' rest)) : W p l e R s m args below meth c H locs cells slots Q (F0 m pc ls (va_rf r :: rest)) := by
  cases r with
  | none => exact lv_astoreN X.1 X.2.1 hdg h hn hl kk
  | some q => exact lv_astore X.1 X.2.1 hdg h hn hl kk
theorem z_iinc (X : CallFix p m c cc nL s args lw_all own) (h : lv_has ls nL lv) (j : Nat) {i : Nat} {n x : Int} (hj : lv[j]? = some (i, zI x)) (hn : i < nL) (hdg : decode cc pc = .ok (.iinc i n, 3)) (hl : (i, zI (x + n)) :: lv.filter (fun q => !(q.1 == i) && !(q.1 + 1 == i && q.2.category == 2)) = lv') (kk : ∀ ls' : Array Slot, lv_has ls' nL lv' → W p l e R s m args below meth c H locs cells slots Q (F0 m (pc + 3) ls' rest)) : W p l e R s m args below meth c H locs cells slots Q (F0 m pc ls rest) := lv_iinc (v := Int32.ofInt (x + n)) X.1 X.2.1 hdg h hj (Int32.ofInt_add x n).symm hn hl kk
theorem z_iadd (X : CallFix p m c cc nL s args lw_all own) {x y : Int} (hdg : decode cc pc = .ok (.iadd, 1)) (kk : W p l e R s m args below meth c H locs cells slots Q (F0 m (pc + 1) ls (zI (x + y) :: rest))) : W p l e R s m args below meth c H locs cells slots Q (F0 m pc ls (zI y :: zI x :: rest)) := lv_iadd X.1 X.2.1 hdg (by rw [← Int32.ofInt_add]; exact kk)
theorem z_isub (X : CallFix p m c cc nL s args lw_all own) {x y : Int} (hdg : decode cc pc = .ok (.isub, 1)) (kk : W p l e R s m args below meth c H locs cells slots Q (F0 m (pc + 1) ls (zI (x - y) :: rest))) : W p l e R s m args below meth c H locs cells slots Q (F0 m pc ls (zI y :: zI x :: rest)) := lv_isub X.1 X.2.1 hdg (by rw [← Int32.ofInt_sub]; exact kk)
theorem z_imul (X : CallFix p m c cc nL s args lw_all own) {x y : Int} (hdg : decode cc pc = .ok (.imul, 1)) (kk : W p l e R s m args below meth c H locs cells slots Q (F0 m (pc + 1) ls (zI (x * y) :: rest))) : W p l e R s m args below meth c H locs cells slots Q (F0 m pc ls (zI y :: zI x :: rest)) := lv_imul X.1 X.2.1 hdg (by rw [← Int32.ofInt_mul]; exact kk)
theorem z_idiv (X : CallFix p m c cc nL s args lw_all own) {x y : Int} (hx : InR x) (hy : InR y) (h0 : 0 ≤ x) (h1 : 0 < y) (hdg : decode cc pc = .ok (.idiv, 1)) (kk : W p l e R s m args below meth c H locs cells slots Q (F0 m (pc + 1) ls (zI (x / y) :: rest))) : W p l e R s m args below meth c H locs cells slots Q (F0 m pc ls (zI y :: zI x :: rest)) := lv_idiv X.1 X.2.1 hdg (fun q => by rw [show (0 : Int32) = Int32.ofInt 0 from rfl, zr_eq hy zr_0] at q; omega) (by rw [zr_div hx hy h0]; exact kk)
theorem z_irem (X : CallFix p m c cc nL s args lw_all own) {x y : Int} (hx : InR x) (hy : InR y) (h0 : 0 ≤ x) (h1 : 0 < y) (hdg : decode cc pc = .ok (.irem, 1)) (kk : W p l e R s m args below meth c H locs cells slots Q (F0 m (pc + 1) ls (zI (x % y) :: rest))) : W p l e R s m args below meth c H locs cells slots Q (F0 m pc ls (zI y :: zI x :: rest)) := lv_irem X.1 X.2.1 hdg (fun q => by rw [show (0 : Int32) = Int32.ofInt 0 from rfl, zr_eq hy zr_0] at q; omega) (by rw [zr_rem hx hy h0]; exact kk)
theorem z_iand01 (X : CallFix p m c cc nL s args lw_all own) {x y : Int} (hx : x = 0 ∨ x = 1) (hy : y = 0 ∨ y = 1) (hdg : decode cc pc = .ok (.iand, 1)) (kk : W p l e R s m args below meth c H locs cells slots Q (F0 m (pc + 1) ls (zI (x * y) :: rest))) : W p l e R s m args below meth c H locs cells slots Q (F0 m pc ls (zI y :: zI x :: rest)) := lv_iand X.1 X.2.1 hdg (by rw [zr_and01 hx hy]; exact kk)
theorem z_iand255 (X : CallFix p m c cc nL s args lw_all own) {x : Int} (hdg : decode cc pc = .ok (.iand, 1)) (kk : W p l e R s m args below meth c H locs cells slots Q (F0 m (pc + 1) ls (zI (x % 256) :: rest))) : W p l e R s m args below meth c H locs cells slots Q (F0 m pc ls (zI 255 :: zI x :: rest)) := lv_iand X.1 X.2.1 hdg (by rw [zr_255]; exact kk)
theorem z_iand63 (X : CallFix p m c cc nL s args lw_all own) {x : Int} (hdg : decode cc pc = .ok (.iand, 1)) (kk : W p l e R s m args below meth c H locs cells slots Q (F0 m (pc + 1) ls (zI (x % 64) :: rest))) : W p l e R s m args below meth c H locs cells slots Q (F0 m pc ls (zI 63 :: zI x :: rest)) := lv_iand X.1 X.2.1 hdg (by rw [zr_63]; exact kk)
theorem z_ishr (X : CallFix p m c cc nL s args lw_all own) {x y : Int} (hx : InR x) (h0 : 0 ≤ y) (h1 : y < 32) (hdg : decode cc pc = .ok (.ishr, 1)) (kk : W p l e R s m args below meth c H locs cells slots Q (F0 m (pc + 1) ls (zI (x / (2 ^ y.toNat : Nat)) :: rest))) : W p l e R s m args below meth c H locs cells slots Q (F0 m pc ls (zI y :: zI x :: rest)) := by
  obtain ⟨k, rfl⟩ : ∃ k : Nat, y = k := ⟨y.toNat, (Int.toNat_of_nonneg h0).symm⟩
  exact lv_ishr X.1 X.2.1 hdg (by rw [zr_shr hx k (by omega)]; exact kk)
theorem z_iushr (X : CallFix p m c cc nL s args lw_all own) {x y : Int} (h0 : 0 ≤ y) (h1 : y < 32) (hdg : decode cc pc = .ok (.iushr, 1)) (kk : W p l e R s m args below meth c H locs cells slots Q (F0 m (pc + 1) ls (zI ((x % 4294967296) / (2 ^ y.toNat : Nat)) :: rest))) : W p l e R s m args below meth c H locs cells slots Q (F0 m pc ls (zI y :: zI x :: rest)) := by
  obtain ⟨k, rfl⟩ : ∃ k : Nat, y = k := ⟨y.toNat, (Int.toNat_of_nonneg h0).symm⟩
  exact lv_iushr X.1 X.2.1 hdg (zr_ushr x k (by omega)) kk
theorem z_i2c (X : CallFix p m c cc nL s args lw_all own) {x : Int} (h0 : 0 ≤ x) (h1 : x < 65536) (hdg : decode cc pc = .ok (.i2c, 1)) (kk : W p l e R s m args below meth c H locs cells slots Q (F0 m (pc + 1) ls (zI x :: rest))) : W p l e R s m args below meth c H locs cells slots Q (F0 m pc ls (zI x :: rest)) := lv_i2c X.1 X.2.1 hdg (zr_i2c h0 h1) kk
theorem z_dup (X : CallFix p m c cc nL s args lw_all own) {v : Value} (hv : v.category = 1) (hdg : decode cc pc = .ok (.dup, 1)) (kk : W p l e R s m args below meth c H locs cells slots Q (F0 m (pc + 1) ls (v :: v :: rest))) : W p l e R s m args below meth c H locs cells slots Q (F0 m pc ls (v :: rest)) := lv_dup X.1 X.2.1 hdg hv kk
theorem z_pop (X : CallFix p m c cc nL s args lw_all own) {v : Value} (hv : v.category = 1) (hdg : decode cc pc = .ok (.pop, 1)) (kk : W p l e R s m args below meth c H locs cells slots Q (F0 m (pc + 1) ls rest)) : W p l e R s m args below meth c H locs cells slots Q (F0 m pc ls (v :: rest)) := lv_pop X.1 X.2.1 hdg hv kk
theorem z_dup2 (X : CallFix p m c cc nL s args lw_all own) {v v2 : Value} (hv : v.category = 1) (hv2 : v2.category = 1) (hdg : decode cc pc = .ok (.dup2, 1)) (kk : W p l e R s m args below meth c H locs cells slots Q (F0 m (pc + 1) ls (v :: v2 :: v :: v2 :: rest))) : W p l e R s m args below meth c H locs cells slots Q (F0 m pc ls (v :: v2 :: rest)) := lv_dup2_11 X.1 X.2.1 hdg hv hv2 kk
theorem z_null (X : CallFix p m c cc nL s args lw_all own) (hdg : decode cc pc = .ok (.aconst_null, 1)) (kk : W p l e R s m args below meth c H locs cells slots Q (F0 m (pc + 1) ls (va_rf none :: rest))) : W p l e R s m args below meth c H locs cells slots Q (F0 m pc ls rest) := lv_null X.1 X.2.1 hdg kk
theorem z_goto (X : CallFix p m c cc nL s args lw_all own) {off : Int} {tgt : Nat} (hdg : decode cc pc = .ok (.goto off, 3)) (ht : (pc : Int) + off = (tgt : Int)) (kk : W p l e R s m args below meth c H locs cells slots Q (F0 m tgt ls rest)) : W p l e R s m args below meth c H locs cells slots Q (F0 m pc ls rest) := lv_goto X.1 X.2.1 hdg ht kk
theorem z_ifnull (X : CallFix p m c cc nL s args lw_all own) {r : Option Nat} {off : Int} {tgt : Nat} (hdg : decode cc pc = .ok (.ifnull off, 3)) (ht : (pc : Int) + off = (tgt : Int)) (k0 : r = none → W p l e R s m args below meth c H locs cells slots Q (F0 m tgt ls rest)) (k1 : ∀ q, r = some q → W p l e R s m args below meth c H locs cells slots Q (F0 m (pc + 3) ls rest)) : W p l e R s m args below meth c H locs cells slots Q (F0 m pc ls (va_rf r :: rest)) := by
  cases r with
  | none => exact lv_ifnullN X.1 X.2.1 hdg ht (k0 rfl)
  | some q => exact lv_ifnull X.1 X.2.1 hdg (k1 q rfl)
theorem z_ifnonnull (X : CallFix p m c cc nL s args lw_all own) {r : Option Nat} {off : Int} {tgt : Nat} (hdg : decode cc pc = .ok (.ifnonnull off, 3)) (ht : (pc : Int) + off = (tgt : Int)) (k0 : r = none → W p l e R s m args below meth c H locs cells slots Q (F0 m (pc + 3) ls rest)) (k1 : ∀ q, r = some q → W p l e R s m args below meth c H locs cells slots Q (F0 m tgt ls rest)) : W p l e R s m args below meth c H locs cells slots Q (F0 m pc ls (va_rf r :: rest)) := by
  cases r with
  | none => exact lv_ifnonnullN X.1 X.2.1 hdg (k0 rfl)
  | some q => exact lv_ifnonnull X.1 X.2.1 hdg ht (k1 q rfl)
theorem z_icmp_lt (X : CallFix p m c cc nL s args lw_all own) {x y : Int} {off : Int} {tgt : Nat} (hx : InR x) (hy : InR y) (hdg : decode cc pc = .ok (.if_icmp .lt off, 3)) (ht : (pc : Int) + off = (tgt : Int)) (kt : x < y → W p l e R s m args below meth c H locs cells slots Q (F0 m tgt ls rest)) (kf : ¬ x < y → W p l e R s m args below meth c H locs cells slots Q (F0 m (pc + 3) ls rest)) : W p l e R s m args below meth c H locs cells slots Q (F0 m pc ls (zI y :: zI x :: rest)) := lv_icmp_lt X.1 X.2.1 hdg ht (fun q => kt ((zr_lt hx hy).mp q)) (fun q => kf (fun z => q ((zr_lt hx hy).mpr z)))
theorem z_icmp_ge (X : CallFix p m c cc nL s args lw_all own) {x y : Int} {off : Int} {tgt : Nat} (hx : InR x) (hy : InR y) (hdg : decode cc pc = .ok (.if_icmp .ge off, 3)) (ht : (pc : Int) + off = (tgt : Int)) (kt : y ≤ x → W p l e R s m args below meth c H locs cells slots Q (F0 m tgt ls rest)) (kf : ¬ y ≤ x → W p l e R s m args below meth c H locs cells slots Q (F0 m (pc + 3) ls rest)) : W p l e R s m args below meth c H locs cells slots Q (F0 m pc ls (zI y :: zI x :: rest)) := lv_icmp_ge X.1 X.2.1 hdg ht (fun q => kt ((zr_le hy hx).mp q)) (fun q => kf (fun z => q ((zr_le hy hx).mpr z)))
theorem z_icmp_gt (X : CallFix p m c cc nL s args lw_all own) {x y : Int} {off : Int} {tgt : Nat} (hx : InR x) (hy : InR y) (hdg : decode cc pc = .ok (.if_icmp .gt off, 3)) (ht : (pc : Int) + off = (tgt : Int)) (kt : y < x → W p l e R s m args below meth c H locs cells slots Q (F0 m tgt ls rest)) (kf : ¬ y < x → W p l e R s m args below meth c H locs cells slots Q (F0 m (pc + 3) ls rest)) : W p l e R s m args below meth c H locs cells slots Q (F0 m pc ls (zI y :: zI x :: rest)) := lv_icmp_gt X.1 X.2.1 hdg ht (fun q => kt ((zr_lt hy hx).mp q)) (fun q => kf (fun z => q ((zr_lt hy hx).mpr z)))
theorem z_icmp_le (X : CallFix p m c cc nL s args lw_all own) {x y : Int} {off : Int} {tgt : Nat} (hx : InR x) (hy : InR y) (hdg : decode cc pc = .ok (.if_icmp .le off, 3)) (ht : (pc : Int) + off = (tgt : Int)) (kt : x ≤ y → W p l e R s m args below meth c H locs cells slots Q (F0 m tgt ls rest)) (kf : ¬ x ≤ y → W p l e R s m args below meth c H locs cells slots Q (F0 m (pc + 3) ls rest)) : W p l e R s m args below meth c H locs cells slots Q (F0 m pc ls (zI y :: zI x :: rest)) := lv_icmp_le X.1 X.2.1 hdg ht (fun q => kt ((zr_le hx hy).mp q)) (fun q => kf (fun z => q ((zr_le hx hy).mpr z)))
theorem z_icmp_eq (X : CallFix p m c cc nL s args lw_all own) {x y : Int} {off : Int} {tgt : Nat} (hx : InR x) (hy : InR y) (hdg : decode cc pc = .ok (.if_icmp .eq off, 3)) (ht : (pc : Int) + off = (tgt : Int)) (kt : x = y → W p l e R s m args below meth c H locs cells slots Q (F0 m tgt ls rest)) (kf : ¬ x = y → W p l e R s m args below meth c H locs cells slots Q (F0 m (pc + 3) ls rest)) : W p l e R s m args below meth c H locs cells slots Q (F0 m pc ls (zI y :: zI x :: rest)) := lv_icmp_eq X.1 X.2.1 hdg ht (fun q => kt ((zr_eq hx hy).mp q)) (fun q => kf (fun z => q ((zr_eq hx hy).mpr z)))
theorem z_icmp_ne (X : CallFix p m c cc nL s args lw_all own) {x y : Int} {off : Int} {tgt : Nat} (hx : InR x) (hy : InR y) (hdg : decode cc pc = .ok (.if_icmp .ne off, 3)) (ht : (pc : Int) + off = (tgt : Int)) (kt : ¬ x = y → W p l e R s m args below meth c H locs cells slots Q (F0 m tgt ls rest)) (kf : x = y → W p l e R s m args below meth c H locs cells slots Q (F0 m (pc + 3) ls rest)) : W p l e R s m args below meth c H locs cells slots Q (F0 m pc ls (zI y :: zI x :: rest)) := lv_icmp_ne X.1 X.2.1 hdg ht (fun q => kt (fun z => q ((zr_eq hx hy).mpr z))) (fun q => kf ((zr_eq hx hy).mp q))
theorem z_if_lt (X : CallFix p m c cc nL s args lw_all own) {x : Int} {off : Int} {tgt : Nat} (hx : InR x) (hdg : decode cc pc = .ok (.ifCond .lt off, 3)) (ht : (pc : Int) + off = (tgt : Int)) (kt : x < 0 → W p l e R s m args below meth c H locs cells slots Q (F0 m tgt ls rest)) (kf : ¬ x < 0 → W p l e R s m args below meth c H locs cells slots Q (F0 m (pc + 3) ls rest)) : W p l e R s m args below meth c H locs cells slots Q (F0 m pc ls (zI x :: rest)) := lv_if_lt X.1 X.2.1 hdg ht (fun q => kt ((zr_lt hx zr_0).mp q)) (fun q => kf (fun z => q ((zr_lt hx zr_0).mpr z)))
theorem z_if_ge (X : CallFix p m c cc nL s args lw_all own) {x : Int} {off : Int} {tgt : Nat} (hx : InR x) (hdg : decode cc pc = .ok (.ifCond .ge off, 3)) (ht : (pc : Int) + off = (tgt : Int)) (kt : 0 ≤ x → W p l e R s m args below meth c H locs cells slots Q (F0 m tgt ls rest)) (kf : ¬ 0 ≤ x → W p l e R s m args below meth c H locs cells slots Q (F0 m (pc + 3) ls rest)) : W p l e R s m args below meth c H locs cells slots Q (F0 m pc ls (zI x :: rest)) := lv_if_ge X.1 X.2.1 hdg ht (fun q => kt ((zr_le zr_0 hx).mp q)) (fun q => kf (fun z => q ((zr_le zr_0 hx).mpr z)))
theorem z_if_gt (X : CallFix p m c cc nL s args lw_all own) {x : Int} {off : Int} {tgt : Nat} (hx : InR x) (hdg : decode cc pc = .ok (.ifCond .gt off, 3)) (ht : (pc : Int) + off = (tgt : Int)) (kt : 0 < x → W p l e R s m args below meth c H locs cells slots Q (F0 m tgt ls rest)) (kf : ¬ 0 < x → W p l e R s m args below meth c H locs cells slots Q (F0 m (pc + 3) ls rest)) : W p l e R s m args below meth c H locs cells slots Q (F0 m pc ls (zI x :: rest)) := lv_if_gt X.1 X.2.1 hdg ht (fun q => kt ((zr_lt zr_0 hx).mp q)) (fun q => kf (fun z => q ((zr_lt zr_0 hx).mpr z)))
theorem z_if_le (X : CallFix p m c cc nL s args lw_all own) {x : Int} {off : Int} {tgt : Nat} (hx : InR x) (hdg : decode cc pc = .ok (.ifCond .le off, 3)) (ht : (pc : Int) + off = (tgt : Int)) (kt : x ≤ 0 → W p l e R s m args below meth c H locs cells slots Q (F0 m tgt ls rest)) (kf : ¬ x ≤ 0 → W p l e R s m args below meth c H locs cells slots Q (F0 m (pc + 3) ls rest)) : W p l e R s m args below meth c H locs cells slots Q (F0 m pc ls (zI x :: rest)) := lv_if_le X.1 X.2.1 hdg ht (fun q => kt ((zr_le hx zr_0).mp q)) (fun q => kf (fun z => q ((zr_le hx zr_0).mpr z)))
theorem z_if_eq (X : CallFix p m c cc nL s args lw_all own) {x : Int} {off : Int} {tgt : Nat} (hx : InR x) (hdg : decode cc pc = .ok (.ifCond .eq off, 3)) (ht : (pc : Int) + off = (tgt : Int)) (kt : x = 0 → W p l e R s m args below meth c H locs cells slots Q (F0 m tgt ls rest)) (kf : ¬ x = 0 → W p l e R s m args below meth c H locs cells slots Q (F0 m (pc + 3) ls rest)) : W p l e R s m args below meth c H locs cells slots Q (F0 m pc ls (zI x :: rest)) := lv_if_eq X.1 X.2.1 hdg ht (fun q => kt ((zr_eq hx zr_0).mp q)) (fun q => kf (fun z => q ((zr_eq hx zr_0).mpr z)))
theorem z_if_ne (X : CallFix p m c cc nL s args lw_all own) {x : Int} {off : Int} {tgt : Nat} (hx : InR x) (hdg : decode cc pc = .ok (.ifCond .ne off, 3)) (ht : (pc : Int) + off = (tgt : Int)) (kt : ¬ x = 0 → W p l e R s m args below meth c H locs cells slots Q (F0 m tgt ls rest)) (kf : x = 0 → W p l e R s m args below meth c H locs cells slots Q (F0 m (pc + 3) ls rest)) : W p l e R s m args below meth c H locs cells slots Q (F0 m pc ls (zI x :: rest)) := lv_if_ne X.1 X.2.1 hdg ht (fun q => kt (fun z => q ((zr_eq hx zr_0).mpr z))) (fun q => kf ((zr_eq hx zr_0).mp q))
/-- a field, read and written; an array's place, read and written -/
theorem r_get (X : CallFix p m c cc nL s args lw_all own) (K : KK G s) (h : HW G A s.heap w H locs) {C : String} {T : u_T} {N ci idx a : Nat} {fs : List Value} {v : Value} (hin : ∀ x ∈ u_ws C T N, x ∈ lw_all) (q0 : Nat) (he : w[q0]? = some (a, .inr (ci, fs))) (hc : cls_[ci]? = some (C, T, N)) (k : Nat) (hk : k < N) (hl : Cond.fieldLink own idx (T k).1 (T k).2.1 (T k).2.2.1 ∈ lw_all) (hv : fs[k]? = some v) (hdg : decode cc pc = .ok (.getfield idx, 3)) (kk : W p l e R s m args below meth c H locs cells slots Q (F0 m (pc + 3) ls (v :: rest))) : W p l e R s m args below meth c H locs cells slots Q (F0 m pc ls (.ref a :: rest)) :=
  va_get X.1 X.2.1 X.2.2.2.2 hin X.2.2.2.1 K h.1 q0 he hc k hk (X.2.2.2.2 _ hl) (fun _ h9 => h9) hv hdg kk
theorem r_put (X : CallFix p m c cc nL s args lw_all own) (K : KK G s) (h : HW G A s.heap w H locs) {C : String} {T : u_T} {N ci idx a : Nat} {fs : List Value} {v : Value} (hin : ∀ x ∈ u_ws C T N, x ∈ lw_all) {ty0 : Nat → FieldType} (hty : ∀ k, k < N → parseFieldDescriptor (T k).2.2.1 = some (ty0 k)) (hnm : ∀ a, a < N → ∀ b, b < N → a ≠ b → (T a).2.1 ≠ (T b).2.1) (q0 : Nat) (he : w[q0]? = some (a, .inr (ci, fs))) (hc : cls_[ci]? = some (C, T, N)) (k : Nat) (hk : k < N) (hl : Cond.fieldLink own idx (T k).1 (T k).2.1 (T k).2.2.1 ∈ lw_all) (hfin : (T k).2.2.2 = false) (hn : narrow (ty0 k) v = v) (hfit : fits (ty0 k) v = true) (hlen : k < fs.length) (hdg : decode cc pc = .ok (.putfield idx, 3))
    (kk : ∀ (H1 : Heap) (locs1 : List Loc), HW G A s.heap (w.set q0 (a, .inr (ci, fs.set k v))) H1 locs1 → W p l e R s m args below meth c H1 locs1 cells slots Q (F0 m (pc + 3) ls rest)) : W p l e R s m args below meth c H locs cells slots Q (F0 m pc ls (v :: .ref a :: rest)) :=
  va_put X.1 X.2.1 X.2.2.2.2 hin ty0 hty hnm X.2.2.2.1 K h.1 h.2.1 h.2.2.1 q0 he hc k hk (X.2.2.2.2 _ hl) (fun _ h9 => h9) hfin (hty k hk) hn hfit hlen hdg (fun H1 locs1 a1 a2 a3 => kk H1 locs1 ⟨a1, a2, a3, h.2.2.2⟩)
theorem r_iald (X : CallFix p m c cc nL s args lw_all own) (K : KK G s) (h : HW G A s.heap w H locs) {n a : Nat} {f : Int → Int} {i : Int} (q0 : Nat) (he : w[q0]? = some (a, .inl (G.2.1 0, n, .inl (aI f)))) (h0 : 0 ≤ i) (h1 : i < n) (hn : n < 2 ^ 31) (hdg : decode cc pc = .ok (.iaload, 1)) (kk : W p l e R s m args below meth c H locs cells slots Q (F0 m (pc + 1) ls (zI (f i) :: rest))) : W p l e R s m args below meth c H locs cells slots Q (F0 m pc ls (zI i :: .ref a :: rest)) :=
  va_iald X.1 X.2.1 K h.1 q0 0 he rfl (zr_vp h0 h1 hn) hdg (by rw [aI_at h0 (by omega)]; exact kk)
theorem r_iast (X : CallFix p m c cc nL s args lw_all own) (K : KK G s) (h : HW G A s.heap w H locs) {n a : Nat} {f : Int → Int} {i x : Int} (q0 : Nat) (he : w[q0]? = some (a, .inl (G.2.1 0, n, .inl (aI f)))) (h0 : 0 ≤ i) (h1 : i < n) (hn : n < 2 ^ 31) (hdg : decode cc pc = .ok (.iastore, 1)) (kk : ∀ (H1 : Heap) (locs1 : List Loc), HW G A s.heap (w.set q0 (a, .inl (G.2.1 0, n, .inl (aI (zset f i x))))) H1 locs1 → W p l e R s m args below meth c H1 locs1 cells slots Q (F0 m (pc + 1) ls rest)) : W p l e R s m args below meth c H locs cells slots Q (F0 m pc ls (zI x :: zI i :: .ref a :: rest)) :=
  va_iast X.1 X.2.1 K h.1 h.2.1 h.2.2.1 q0 0 he rfl (zr_vp h0 h1 hn) hdg (fun H1 locs1 a1 a2 a3 => by rw [aI_upd h0 (by omega)] at a1 a2; exact kk H1 locs1 ⟨a1, a2, a3, h.2.2.2⟩)
theorem r_cald (X : CallFix p m c cc nL s args lw_all own) (K : KK G s) (h : HW G A s.heap w H locs) {n a : Nat} {f : Int → Int} {i : Int} (q0 : Nat) (he : w[q0]? = some (a, .inl (G.2.1 1, n, .inl (aI f)))) (h0 : 0 ≤ i) (h1 : i < n) (hn : n < 2 ^ 31) (hdg : decode cc pc = .ok (.caload, 1)) (kk : W p l e R s m args below meth c H locs cells slots Q (F0 m (pc + 1) ls (zI (f i) :: rest))) : W p l e R s m args below meth c H locs cells slots Q (F0 m pc ls (zI i :: .ref a :: rest)) :=
  va_cald X.1 X.2.1 K h.1 q0 1 he rfl (zr_vp h0 h1 hn) hdg (by rw [aI_at h0 (by omega)]; exact kk)
theorem r_cast (X : CallFix p m c cc nL s args lw_all own) (K : KK G s) (h : HW G A s.heap w H locs) {n a : Nat} {f : Int → Int} {i x : Int} (q0 : Nat) (he : w[q0]? = some (a, .inl (G.2.1 1, n, .inl (aI f)))) (h0 : 0 ≤ i) (h1 : i < n) (hn : n < 2 ^ 31) (hx0 : 0 ≤ x) (hx1 : x < 65536) (hdg : decode cc pc = .ok (.castore, 1)) (kk : ∀ (H1 : Heap) (locs1 : List Loc), HW G A s.heap (w.set q0 (a, .inl (G.2.1 1, n, .inl (aI (zset f i x))))) H1 locs1 → W p l e R s m args below meth c H1 locs1 cells slots Q (F0 m (pc + 1) ls rest)) : W p l e R s m args below meth c H locs cells slots Q (F0 m pc ls (zI x :: zI i :: .ref a :: rest)) :=
  va_cast X.1 X.2.1 K h.1 h.2.1 h.2.2.1 q0 1 he rfl (zr_vp h0 h1 hn) hdg (fun H1 locs1 a1 a2 a3 => by rw [vp_nar_char, show ((Int32.ofInt x).toUInt32.toUInt16.toUInt32.toInt32) = Int32.ofInt x from zr_u16 hx0 hx1, aI_upd h0 (by omega)] at a1 a2; exact kk H1 locs1 ⟨a1, a2, a3, h.2.2.2⟩)
theorem r_alen (X : CallFix p m c cc nL s args lw_all own) (K : KK G s) (h : HW G A s.heap w H locs) {n a j : Nat} {f : vp_A} {ty : FieldType} (q0 : Nat) (he : w[q0]? = some (a, .inl (G.2.1 j, f))) (ht : (tys_ G.2.1)[j]? = some (G.2.1 j, ty)) (hf : f.1 = n) (hdg : decode cc pc = .ok (.arraylength, 1)) (kk : W p l e R s m args below meth c H locs cells slots Q (F0 m (pc + 1) ls (zI n :: rest))) : W p l e R s m args below meth c H locs cells slots Q (F0 m pc ls (.ref a :: rest)) :=
  va_alen X.1 X.2.1 K h.1 q0 j he ht (v := Int32.ofInt n) (by rw [hf, Int32.ofInt_eq_ofNat]) hdg kk
/-- a row of rows of ints, read -/
theorem r_aaldI (X : CallFix p m c cc nL s args lw_all own) (K : KK G s) (h : HW G A s.heap w H locs) {n a : Nat} {f : Nat → Option Nat} {i : Int} (q0 : Nat) (he : w[q0]? = some (a, .inl (G.2.1 3, n, .inr (.inr (.inr (.inr f)))))) (h0 : 0 ≤ i) (h1 : i < n) (hn : n < 2 ^ 31) (hdg : decode cc pc = .ok (.aaload, 1)) (kk : W p l e R s m args below meth c H locs cells slots Q (F0 m (pc + 1) ls (va_rf (f i.toNat) :: rest))) : W p l e R s m args below meth c H locs cells slots Q (F0 m pc ls (zI i :: .ref a :: rest)) := by
  have hin := zr_vp h0 h1 hn
  have hlt : (Int32.ofInt i).toNatClampNeg < n := Nat.not_le.mp fun q => hin (Or.inr q)
  refine W.aald (v := va_rf (f (Int32.ofInt i).toNatClampNeg)) (ty := .array .int) X.1 X.2.1 (h.1 q0 _ he) ((K.2 3 _ rfl).1 n (fun j => va_rf (f j))) rfl (fun q => by cases q) (by show ¬ (Int32.ofInt i < 0 ∨ (arrV _ _ _).slots.size ≤ _); rw [arrV_size]; exact hin) (by show (arrV _ _ _).slots[_]? = _; rw [arrV_read _ _ hlt]) rfl rfl hdg ?_
  rw [zr_cl h0 (by omega)]
  exact kk
end
