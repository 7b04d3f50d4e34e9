/-! ===== characters and grammars ===== -/
def isTx (c : Int) : Bool := (decide (97 ≤ c) && decide (c ≤ 122)) || (decide (48 ≤ c) && decide (c ≤ 57)) || decide (c = 32) || decide (c = 44) || decide (c = 45) || decide (c = 40) || decide (c = 41)
def isNm (c : Int) : Bool := decide (65 ≤ c) && decide (c ≤ 70)
def isTl (c : Int) : Bool := decide (c = 63) || decide (c = 42) || decide (c = 43)
def isGs (c : Int) : Bool := isTx c || isNm c || isTl c || decide (c = 61) || decide (c = 47) || decide (c = 59)
/-- the rule that an item names, 6 for a character -/
def nm (c : Int) : Int := if isNm c = true then c - 65 else 6
theorem isTx_iff {c : Int} : isTx c = true ↔ (97 ≤ c ∧ c ≤ 122) ∨ (48 ≤ c ∧ c ≤ 57) ∨ c = 32 ∨ c = 44 ∨ c = 45 ∨ c = 40 ∨ c = 41 := by
  unfold isTx
  simp only [Bool.or_eq_true, Bool.and_eq_true, decide_eq_true_eq]
  omega
theorem isNm_iff {c : Int} : isNm c = true ↔ 65 ≤ c ∧ c ≤ 70 := by
  unfold isNm
  simp only [Bool.and_eq_true, decide_eq_true_eq]
theorem isTl_iff {c : Int} : isTl c = true ↔ c = 63 ∨ c = 42 ∨ c = 43 := by
  unfold isTl
  simp only [Bool.or_eq_true, decide_eq_true_eq]
  omega
theorem isGs_iff {c : Int} : isGs c = true ↔ isTx c = true ∨ isNm c = true ∨ isTl c = true ∨ c = 61 ∨ c = 47 ∨ c = 59 := by
  unfold isGs
  simp only [Bool.or_eq_true, decide_eq_true_eq]
  constructor
  · rintro (((((h | h) | h) | h) | h) | h) <;> simp [h]
  · rintro (h | h | h | h | h | h) <;> simp [h]
theorem nm_bd (c : Int) : 0 ≤ nm c ∧ nm c ≤ 6 := by
  unfold nm
  split
  · next h => rw [isNm_iff] at h; omega
  · omega
theorem nm_lt {c : Int} : nm c < 6 ↔ isNm c = true := by
  unfold nm
  split
  · next h => exact ⟨fun _ => h, fun _ => by rw [isNm_iff] at h; omega⟩
  · next h => simp [h]
theorem nm_eq {c : Int} (h : isNm c = true) : nm c = c - 65 := by
  unfold nm
  rw [if_pos h]
theorem zifc {P Q : Prop} [Decidable P] [Decidable Q] (h : P ↔ Q) : (if P then (1 : Int) else 0) = if Q then 1 else 0 := by
  by_cases p : P
  · rw [if_pos p, if_pos (h.mp p)]
  · rw [if_neg p, if_neg (fun q => p (h.mpr q))]
/-- a grammar: how many items; the items' characters; their tails (0: none); how many alternatives; where each begins (and, behind the last, how many items); where the alternatives of a rule begin (-1: no such rule), and end -/
abbrev zG : Type := Int × (Nat → Int) × (Nat → Int) × Int × (Nat → Int) × (Nat → Int) × (Nat → Int)
def gN (g : zG) : Int := g.1
def gI (g : zG) : Nat → Int := g.2.1
def gS (g : zG) : Nat → Int := g.2.2.1
def gA (g : zG) : Int := g.2.2.2.1
def gF (g : zG) : Nat → Int := g.2.2.2.2.1
def gR (g : zG) : Nat → Int := g.2.2.2.2.2.1
def gE (g : zG) : Nat → Int := g.2.2.2.2.2.2
/-- the class's cells hold the grammar -/
def RX (M : zM) (g : zG) : Prop := gi M 8 8 = gN g ∧ gi M 8 10 = gA g ∧ (∀ j : Nat, (j : Int) < gN g → gi M 10 j = gI g j ∧ gi M 11 j = (if gS g j = 0 then 32 else gS g j) ∧ gi M 12 j = nm (gI g j)) ∧ (∀ j : Nat, (j : Int) ≤ gA g → gi M 13 j = gF g j) ∧
  ∀ r : Nat, r < 6 → gi M 16 r = (if gR g r < 0 then 0 else 1) ∧ (0 ≤ gR g r → gi M 14 r = gR g r ∧ gi M 15 r = gE g r)
/-- the model's cells hold the grammar -/
def RM (M : zM) (g : zG) : Prop := gi M 45 14 = gN g ∧ gi M 45 15 = gA g ∧ (∀ j : Nat, (j : Int) < gN g → gi M 54 j = gI g j ∧ gi M 55 j = gS g j) ∧ (∀ j : Nat, (j : Int) ≤ gA g → gi M 56 j = gF g j) ∧
  ∀ r : Nat, r < 6 → gi M 57 r = gR g r ∧ (0 ≤ gR g r → gi M 58 r = gE g r)
def WG (g : zG) : Prop := (0 ≤ gN g ∧ gN g ≤ 60) ∧ (0 ≤ gA g ∧ gA g ≤ 60) ∧ (∀ j : Nat, (j : Int) < gN g → (isTx (gI g j) = true ∨ isNm (gI g j) = true) ∧ (gS g j = 0 ∨ gS g j = 63 ∨ gS g j = 42 ∨ gS g j = 43)) ∧
  (∀ j : Nat, (j : Int) < gA g → 0 ≤ gF g j ∧ gF g j ≤ gF g (j + 1)) ∧ (∀ j : Nat, (j : Int) ≤ gA g → 0 ≤ gF g j ∧ gF g j ≤ gN g) ∧
  ∀ r : Nat, r < 6 → -1 ≤ gR g r ∧ (0 ≤ gR g r → gR g r ≤ gE g r ∧ gE g r ≤ gA g)
/-- every name that is used has a rule -/
def NG (g : zG) : Prop := ∀ j : Nat, (j : Int) < gN g → isNm (gI g j) = true → 0 ≤ gR g (gI g j - 65).toNat
theorem RX.same {M M' : zM} {g : zG} (h : RX M g) (e : ∀ a, a = 8 ∨ a = 10 ∨ a = 11 ∨ a = 12 ∨ a = 13 ∨ a = 14 ∨ a = 15 ∨ a = 16 → gi M' a = gi M a) : RX M' g := by
  unfold RX at *
  rw [e 8 (by simp), e 10 (by simp), e 11 (by simp), e 12 (by simp), e 13 (by simp), e 14 (by simp), e 15 (by simp), e 16 (by simp)]
  exact h
theorem RX.fr {S : List Nat} {M M' : zM} {g : zG} (h : RX M g) (hs : zSm S M M') (hd : ∀ a ∈ S, a < 8 ∨ a = 9 ∨ 16 < a) : RX M' g := by
  refine h.same (fun a ha => hs.ge (fun q => ?_))
  have := hd a q
  omega
theorem RM.same {M M' : zM} {g : zG} (h : RM M g) (e : ∀ a, a = 54 ∨ a = 55 ∨ a = 56 ∨ a = 57 ∨ a = 58 → gi M' a = gi M a) (e1 : gi M' 45 14 = gi M 45 14) (e2 : gi M' 45 15 = gi M 45 15) : RM M' g := by
  unfold RM at *
  rw [e1, e2, e 54 (by simp), e 55 (by simp), e 56 (by simp), e 57 (by simp), e 58 (by simp)]
  exact h
/-- whether an item may match nothing, by what is known of the rules -/
def gV (g : zG) (e : Nat → Bool) (j : Nat) : Bool := decide (gS g j = 63) || decide (gS g j = 42) || (isNm (gI g j) && e (nm (gI g j)).toNat)
/-! ===== the leaves ===== -/
