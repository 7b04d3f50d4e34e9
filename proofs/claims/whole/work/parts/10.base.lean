/-! ===== THE ABSTRACT MACHINE: ints are Int, cells have numbers (0, 1, .. in the order in which they are made), a class's final references are a table ===== -/
/-- a value: an int, an object or null, a raw address (the law's script) -/
abbrev zV : Type := Int ⊕ (Option Nat ⊕ Nat)
abbrev zI (x : Int) : zV := Sum.inl x
abbrev zO (o : Option Nat) : zV := Sum.inr (Sum.inl o)
abbrev zN : zV := Sum.inr (Sum.inl none)
abbrev zR (k : Nat) : zV := Sum.inr (Sum.inl (some k))
abbrev zX (a : Nat) : zV := Sum.inr (Sum.inr a)
/-- the memory: the ints by cell and slot, the moving references by cell and slot, how many cells there are -/
abbrev zM : Type := (Nat → Nat → Int) × (Nat → Nat → Option Nat) × Nat
def gi (M : zM) (k : Nat) : Nat → Int := M.1 k
def gr (M : zM) (k : Nat) : Nat → Option Nat := M.2.1 k
def gn (M : zM) : Nat := M.2.2
def si (M : zM) (k j : Nat) (v : Int) : zM := (fun a => if a = k then (fun b => if b = j then v else M.1 a b) else M.1 a, M.2.1, M.2.2)
def sr (M : zM) (k j : Nat) (v : Option Nat) : zM := (M.1, fun a => if a = k then (fun b => if b = j then v else M.2.1 a b) else M.2.1 a, M.2.2)
/-- one more cell, blank -/
def nw (M : zM) : zM := (fun a => if a = M.2.2 then (fun _ => 0) else M.1 a, fun a => if a = M.2.2 then (fun _ => none) else M.2.1 a, M.2.2 + 1)
theorem gi_si (M : zM) (k j : Nat) (v : Int) (a b : Nat) : gi (si M k j v) a b = if a = k ∧ b = j then v else gi M a b := by
  unfold gi si
  by_cases h : a = k
  · by_cases h2 : b = j
    · simp [h, h2]
    · simp [h, h2]
  · simp [h]
theorem gi_si_ne {M : zM} {k j : Nat} {v : Int} {a : Nat} (h : a ≠ k) : gi (si M k j v) a = gi M a := by
  unfold gi si
  simp [h]
theorem gi_si_eq {M : zM} {k j : Nat} {v : Int} {b : Nat} : gi (si M k j v) k b = if b = j then v else gi M k b := by
  rw [gi_si]
  simp
theorem gr_si {M : zM} {k j : Nat} {v : Int} : gr (si M k j v) = gr M := rfl
theorem gn_si {M : zM} {k j : Nat} {v : Int} : gn (si M k j v) = gn M := rfl
theorem gi_sr {M : zM} {k j : Nat} {v : Option Nat} : gi (sr M k j v) = gi M := rfl
theorem gn_sr {M : zM} {k j : Nat} {v : Option Nat} : gn (sr M k j v) = gn M := rfl
theorem gr_sr (M : zM) (k j : Nat) (v : Option Nat) (a b : Nat) : gr (sr M k j v) a b = if a = k ∧ b = j then v else gr M a b := by
  unfold gr sr
  by_cases h : a = k
  · by_cases h2 : b = j
    · simp [h, h2]
    · simp [h, h2]
  · simp [h]
theorem gr_sr_ne {M : zM} {k j : Nat} {v : Option Nat} {a : Nat} (h : a ≠ k) : gr (sr M k j v) a = gr M a := by
  unfold gr sr
  simp [h]
theorem gn_nw {M : zM} : gn (nw M) = gn M + 1 := rfl
theorem gi_nw_ne {M : zM} {a : Nat} (h : a ≠ gn M) : gi (nw M) a = gi M a := by
  unfold gi nw
  have h : a ≠ M.2.2 := h
  simp [h]
theorem gi_nw_eq {M : zM} {b : Nat} : gi (nw M) (gn M) b = 0 := by
  unfold gi nw gn
  simp
theorem gr_nw_ne {M : zM} {a : Nat} (h : a ≠ gn M) : gr (nw M) a = gr M a := by
  unfold gr nw
  have h : a ≠ M.2.2 := h
  simp [h]
theorem gr_nw_eq {M : zM} {b : Nat} : gr (nw M) (gn M) b = none := by
  unfold gr nw gn
  simp
/-- within an int's range -/
abbrev zin (x : Int) : Prop := -2147483648 ≤ x ∧ x ≤ 2147483647
theorem zin_toInt {x : Int} (h : zin x) : (Int32.ofInt x).toInt = x := Int32.toInt_ofInt_of_le (by omega) (by omega)
theorem zin_of (x : Int32) : zin x.toInt := by
  have a := x.toInt_lt
  have b := x.le_toInt
  constructor <;> omega
theorem zof_toInt (x : Int32) : Int32.ofInt x.toInt = x := Int32.toInt_inj.mp (zin_toInt (zin_of x))
theorem zeq {x y : Int} (hx : zin x) (hy : zin y) : Int32.ofInt x = Int32.ofInt y ↔ x = y :=
  ⟨fun h => by rw [← zin_toInt hx, ← zin_toInt hy, h], fun h => by rw [h]⟩
theorem zlt {x y : Int} (hx : zin x) (hy : zin y) : Int32.ofInt x < Int32.ofInt y ↔ x < y := by
  rw [Int32.lt_iff_toInt_lt, zin_toInt hx, zin_toInt hy]
theorem zle {x y : Int} (hx : zin x) (hy : zin y) : Int32.ofInt x ≤ Int32.ofInt y ↔ x ≤ y := by
  rw [Int32.le_iff_toInt_le, zin_toInt hx, zin_toInt hy]
theorem zeq0 {x : Int} (hx : zin x) : Int32.ofInt x = 0 ↔ x = 0 := zeq (y := 0) hx (by decide)
theorem zlt0 {x : Int} (hx : zin x) : Int32.ofInt x < 0 ↔ x < 0 := zlt (y := 0) hx (by decide)
theorem zle0 {x : Int} (hx : zin x) : Int32.ofInt x ≤ 0 ↔ x ≤ 0 := zle (y := 0) hx (by decide)
theorem zcl {x : Int} (hx : zin x) : (Int32.ofInt x).toNatClampNeg = x.toNat := by
  unfold Int32.toNatClampNeg
  rw [zin_toInt hx]
theorem zvp {x : Int} {n : Nat} (hx : zin x) (h : 0 ≤ x ∧ x < n) : ¬ (Int32.ofInt x < 0 ∨ n ≤ (Int32.ofInt x).toNatClampNeg) := by
  rw [zlt0 hx, zcl hx]
  omega
theorem zch {x : Int} : ((Int32.ofInt x).toUInt32 % 65536).toInt32 = Int32.ofInt (x % 65536) := by
  rw [pk_char]
  have e : (Int32.ofInt x).toBitVec.toNat = (x % 4294967296).toNat := by
    rw [Int32.toBitVec_ofInt, BitVec.toNat_ofInt]
    rfl
  rw [e]
  unfold nI
  rw [← Int32.ofInt_eq_ofNat]
  congr 1
  omega
theorem zn_char {x : Int} (h : 0 ≤ x ∧ x < 65536) : narrow .char (.int (Int32.ofInt x)) = .int (Int32.ofInt x) ∧ fits .char (.int (Int32.ofInt x)) = true := by
  have e : Int32.ofInt x = ((Int32.ofInt x).toUInt32 % 65536).toInt32 := by
    rw [zch]
    congr 1
    omega
  rw [e]
  exact ⟨pk_nc _, pk_fc _⟩
theorem zn_bool {x : Int} (h : x = 0 ∨ x = 1) : narrow .boolean (.int (Int32.ofInt x)) = .int (Int32.ofInt x) ∧ fits .boolean (.int (Int32.ofInt x)) = true := by
  rcases h with rfl | rfl <;> exact ⟨by decide, by decide⟩
theorem zn_int {x : Int} : narrow .int (.int (Int32.ofInt x)) = .int (Int32.ofInt x) ∧ fits .int (.int (Int32.ofInt x)) = true := ⟨rfl, rfl⟩
/-! bits -/
def zand (x y : Int) : Int := (Int32.ofInt x &&& Int32.ofInt y).toInt
def zor (x y : Int) : Int := (Int32.ofInt x ||| Int32.ofInt y).toInt
def zxor (x y : Int) : Int := (Int32.ofInt x ^^^ Int32.ofInt y).toInt
def zshl (x y : Int) : Int := (Int32.ofInt x <<< (Int32.ofInt y &&& 31)).toInt
def zshr (x y : Int) : Int := (Int32.ofInt x >>> (Int32.ofInt y &&& 31)).toInt
/-- what an int may be kept as in a slot of a type -/
def zfit (ty : FieldType) (x : Int) : Prop := match ty with
  | .boolean => x = 0 ∨ x = 1
  | .char => 0 ≤ x ∧ x < 65536
  | .int => True
  | _ => False
theorem zfit_ok {ty : FieldType} {x : Int} (h : zfit ty x) : narrow ty (.int (Int32.ofInt x)) = .int (Int32.ofInt x) ∧ fits ty (.int (Int32.ofInt x)) = true := by
  cases ty <;> first | exact h.elim | exact zn_bool h | exact zn_char h | exact zn_int
/-! values -/
def ztr (base : Nat) : zV → Value
  | .inl x => .int (Int32.ofInt x)
  | .inr (.inl none) => .null
  | .inr (.inl (some k)) => .ref (base + k)
  | .inr (.inr a) => .ref a
def zokV (n : Nat) : zV → Prop
  | .inl x => zin x
  | .inr (.inl (some k)) => k < n
  | _ => True
theorem zokV.mono {n n' : Nat} (h : n ≤ n') {v : zV} (hv : zokV n v) : zokV n' v := by
  match v, hv with
  | .inl x, hv => exact hv
  | .inr (.inl none), _ => trivial
  | .inr (.inl (some k)), hv => exact Nat.lt_of_lt_of_le hv h
  | .inr (.inr a), _ => trivial
theorem ztr_cat (base : Nat) (v : zV) : (ztr base v).category = 1 := by
  match v with
  | .inl x => rfl
  | .inr (.inl none) => rfl
  | .inr (.inl (some k)) => rfl
  | .inr (.inr a) => rfl
theorem ztr_sum (base : Nat) (st : List zV) : ((st.map (ztr base)).map fun v => v.category).sum = st.length := by
  induction st with
  | nil => rfl
  | cons v t ih =>
    simp only [List.map_cons, List.sum_cons, List.length_cons, ztr_cat, ih]
    omega
/-- the locals -/
def zlh (base : Nat) (lsr : Array Slot) (nL : Nat) (ls : List (Option zV)) : Prop := lsr.size = nL ∧ lv_wf lsr ∧ ls.length ≤ nL ∧ ∀ (i : Nat) (v : zV), ls[i]? = some (some v) → lsr[i]? = some (.val (ztr base v))
theorem zlh.has {base : Nat} {lsr : Array Slot} {nL : Nat} {ls : List (Option zV)} (h : zlh base lsr nL ls) {i : Nat} {v : zV} (hi : ls[i]? = some (some v)) : lv_has lsr nL [(i, ztr base v)] :=
  ⟨h.1, h.2.1, fun q hq => by
    rw [List.mem_singleton] at hq
    subst hq
    exact h.2.2.2 i v hi⟩
/-- all locals that are listed, as the kit lists them -/
def zlv (base : Nat) : Nat → List (Option zV) → List (Nat × Value)
  | _, [] => []
  | i, none :: t => zlv base (i + 1) t
  | i, some v :: t => (i, ztr base v) :: zlv base (i + 1) t
theorem zlv_mem {base : Nat} {ls : List (Option zV)} {k i : Nat} {v : zV} (h : ls[i]? = some (some v)) : (k + i, ztr base v) ∈ zlv base k ls := by
  induction ls generalizing k i with
  | nil => simp at h
  | cons a t ih =>
    cases i with
    | zero =>
      simp only [List.getElem?_cons_zero, Option.some.injEq] at h
      subst h
      exact List.mem_cons_self
    | succ i =>
      simp only [List.getElem?_cons_succ] at h
      have h2 := ih (k := k + 1) h
      have e : k + 1 + i = k + (i + 1) := by omega
      rw [e] at h2
      cases a with
      | none => exact h2
      | some w => exact List.mem_cons_of_mem _ h2
theorem zlv_of {base : Nat} {ls : List (Option zV)} {k : Nat} {q : Nat × Value} (h : q ∈ zlv base k ls) : ∃ (i : Nat) (v : zV), ls[i]? = some (some v) ∧ q = (k + i, ztr base v) := by
  induction ls generalizing k with
  | nil => simp [zlv] at h
  | cons a t ih =>
    cases a with
    | none =>
      obtain ⟨i, v, h1, h2⟩ := ih (k := k + 1) h
      exact ⟨i + 1, v, by simpa using h1, by rw [h2]; congr 1; omega⟩
    | some w =>
      rcases List.mem_cons.mp h with h | h
      · exact ⟨0, w, rfl, h⟩
      · obtain ⟨i, v, h1, h2⟩ := ih (k := k + 1) h
        exact ⟨i + 1, v, by simpa using h1, by rw [h2]; congr 1; omega⟩
theorem zlh.all {base : Nat} {lsr : Array Slot} {nL : Nat} {ls : List (Option zV)} (h : zlh base lsr nL ls) : lv_has lsr nL (zlv base 0 ls) :=
  ⟨h.1, h.2.1, fun q hq => by
    obtain ⟨i, v, h1, rfl⟩ := zlv_of hq
    simpa using h.2.2.2 i v h1⟩
/-- after a store -/
theorem zlh.store {base : Nat} {lsr ls' : Array Slot} {nL : Nat} {ls : List (Option zV)} (h : zlh base lsr nL ls) {i : Nat} {w : zV} (hi : i < ls.length)
    (h' : lv_has ls' nL ((i, ztr base w) :: (zlv base 0 ls).filter (fun q => !(q.1 == i) && !(q.1 + 1 == i && q.2.category == 2)))) : zlh base ls' nL (ls.set i (some w)) := by
  refine ⟨h'.1, h'.2.1, by rw [List.length_set]; exact h.2.2.1, fun j v hj => ?_⟩
  by_cases e : j = i
  · subst e
    rw [List.getElem?_set_self hi] at hj
    have hw : w = v := by simpa using hj
    subst hw
    exact h'.2.2 _ List.mem_cons_self
  · rw [List.getElem?_set_ne (Ne.symm e)] at hj
    have hm := zlv_mem (base := base) (k := 0) hj
    rw [Nat.zero_add] at hm
    refine h'.2.2 (j, ztr base v) (List.mem_cons_of_mem _ (List.mem_filter.mpr ⟨hm, ?_⟩))
    simp [e, ztr_cat]
