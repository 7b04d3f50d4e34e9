/-! ===== bits ===== -/
def tb (x : Int) (i : Nat) : Bool := (Int32.ofInt x).toBitVec.getLsbD i
theorem tb_and {a b : Int} {i : Nat} : tb (zand a b) i = (tb a i && tb b i) := by
  unfold tb zand
  rw [zof_toInt, Int32.toBitVec_and, BitVec.getLsbD_and]
theorem tb_or {a b : Int} {i : Nat} : tb (zor a b) i = (tb a i || tb b i) := by
  unfold tb zor
  rw [zof_toInt, Int32.toBitVec_or, BitVec.getLsbD_or]
theorem tb_not {a : Int} {i : Nat} (h : i < 32) : tb (zxor a (-1)) i = !tb a i := by
  unfold tb zxor
  rw [zof_toInt, Int32.toBitVec_xor, BitVec.getLsbD_xor]
  have e : (Int32.ofInt (-1)).toBitVec = BitVec.allOnes 32 := by decide
  rw [e, BitVec.getLsbD_allOnes]
  simp [h]
theorem tb_zero {i : Nat} : tb 0 i = false := by
  unfold tb
  have e : (Int32.ofInt 0).toBitVec = 0#32 := by decide
  rw [e]
  simp
theorem tb_shl_all : (List.range 32).all (fun k => (List.range 32).all (fun i => tb (zshl 1 (k : Int)) i == decide (i = k))) = true := by decide +kernel
theorem tb_shl {k i : Nat} (hk : k < 32) (hi : i < 32) : tb (zshl 1 (k : Int)) i = decide (i = k) := by
  have h := List.all_eq_true.mp (List.all_eq_true.mp tb_shl_all k (List.mem_range.mpr hk)) i (List.mem_range.mpr hi)
  exact eq_of_beq h
theorem smod_all : (List.range 32).all (fun k => ((Int32.ofInt (k : Int) &&& 31).toBitVec.smod 32).toNat == k) = true := by decide +kernel
theorem tb_shr {v : Int} {k : Nat} (hk : k < 32) : zand (zshr v (k : Int)) 1 = 1 ↔ tb v k = true := by
  have h := eq_of_beq (List.all_eq_true.mp smod_all k (List.mem_range.mpr hk))
  have e : (Int32.ofInt v >>> (Int32.ofInt (k : Int) &&& 31)).toBitVec.getLsbD 0 = tb v k := by
    rw [Int32.toBitVec_shiftRight, BitVec.sshiftRight_eq', h, BitVec.getLsbD_sshiftRight]
    unfold tb
    simp [hk]
  unfold zand zshr
  rw [zof_toInt]
  generalize (Int32.ofInt v >>> (Int32.ofInt (k : Int) &&& 31)) = x at e
  have e2 : (x &&& Int32.ofInt 1).toInt = (x.toBitVec &&& 1#32).toInt := rfl
  rw [e2, BitVec.and_one_eq_setWidth_ofBool_getLsbD, e]
  cases tb v k <;> decide
/-- bits that are a set of places below n -/
def BT (x : Int) (n : Nat) (p : Nat → Bool) : Prop := ∀ i, i < n → tb x i = p i
