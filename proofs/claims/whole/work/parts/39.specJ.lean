/-! ===== terms, remembered texts ===== -/
def tvl (M : zM) : Nat → Option Nat → List Int → Bool
  | 0, _, _ => false
  | _ + 1, none, _ => false
  | d + 1, some k, s => if gi M k 0 = 0 then decide (gi M k 3 ≤ cntL (gi M k 1) s) else if gi M k 0 = 1 then prL (gi M k 1) (gi M k 2) false s else if gi M k 0 = 2 then prL (gi M k 1) (gi M k 2) true s
    else if gi M k 0 = 3 then decide (gi M k 3 ≤ (s.length : Int)) else if gi M k 0 = 4 then decide ((s.length : Int) % 2 = 0) else if gi M k 0 = 5 then !(tvl M d (gr M k 4) s)
    else if gi M k 0 = 6 then tvl M d (gr M k 4) s && tvl M d (gr M k 5) s else tvl M d (gr M k 4) s || tvl M d (gr M k 5) s
def okR (M : zM) : Prop := ∀ k j r, gr M k j = some r → 88 ≤ r
def ocX (M : zM) (s : List Int) : Int := if tvl M 6 (gr M 5 0) s = true then 1 else if tvl M 6 (gr M 5 1) s = true then 2 else 0
theorem okR.same {M M' : zM} (h : okR M) (e : gr M' = gr M) : okR M' := by
  unfold okR
  rw [e]
  exact h
theorem tvl_cg {M M' : zM} (h : okR M) (e1 : ∀ k, 88 ≤ k → gi M' k = gi M k) (e2 : gr M' = gr M) (s : List Int) (d : Nat) : ∀ o : Option Nat, (∀ r, o = some r → 88 ≤ r) → tvl M' d o s = tvl M d o s := by
  induction d with
  | zero => intro o _; cases o <;> rfl
  | succ d ih =>
    intro o ho
    cases o with
    | none => rfl
    | some k =>
      have hk := e1 k (ho k rfl)
      have h4 := ih (gr M k 4) (fun r hr => h k 4 r hr)
      have h5 := ih (gr M k 5) (fun r hr => h k 5 r hr)
      unfold tvl
      rw [hk, e2, h4, h5]
theorem ocX_cg {M M' : zM} (h : okR M) (e1 : ∀ k, 88 ≤ k → gi M' k = gi M k) (e2 : gr M' = gr M) (s : List Int) : ocX M' s = ocX M s := by
  unfold ocX
  rw [e2, tvl_cg h e1 e2 s 6 _ (fun r hr => h 5 0 r hr), tvl_cg h e1 e2 s 6 _ (fun r hr => h 5 1 r hr)]
theorem ocX_fr {S : List Nat} {M M' : zM} (h : okR M) (hs : zSm S M M') (hd : ∀ a ∈ S, a < 88) : ocX M' = ocX M := by
  funext s
  exact ocX_cg h (fun k hk => hs.ge (fun q => by have := hd k q; omega)) hs.2.1 s
theorem ocX_bd {M : zM} {s : List Int} : 0 ≤ ocX M s ∧ ocX M s ≤ 2 := by
  unfold ocX
  split
  · omega
  · split <;> omega
/-- slot i's text, if it has n characters -/
def slT (M : zM) (i n : Nat) : List Int := sg (fun j => gi M 6 (i * 32 + j)) n
def slL (M : zM) : List (List Int) := (List.range (gi M 5 6).toNat).map (fun i => slT M i (gi M 7 i).toNat)
def slB (M : zM) : Prop := ∀ i, 0 ≤ gi M 7 i ∧ gi M 7 i ≤ 32
theorem slT_len {M : zM} {i n : Nat} : (slT M i n).length = n := sg_len _ _
theorem slL_mem {M : zM} {s : List Int} (hB : slB M) : s ∈ slL M ↔ ∃ i : Nat, (i : Int) < gi M 5 6 ∧ gi M 7 i = s.length ∧ slT M i s.length = s := by
  unfold slL
  constructor
  · intro h
    obtain ⟨i, hi, rfl⟩ := List.mem_map.mp h
    have h1 := List.mem_range.mp hi
    have h2 := hB i
    refine ⟨i, by omega, ?_, ?_⟩
    · rw [slT_len]; omega
    · rw [slT_len]
  · rintro ⟨i, h1, h2, h3⟩
    refine List.mem_map.mpr ⟨i, List.mem_range.mpr (by omega), ?_⟩
    rw [h2]
    exact h3
/-- the remembered texts, the oldest first -/
def HX (M : zM) (R : List (List Int)) : Prop := slB M ∧ (0 ≤ gi M 5 6 ∧ gi M 5 6 ≤ 24) ∧ ∃ o : Nat, gi M 5 8 = o ∧ o < 24 ∧ (gi M 5 6 < 24 → o = 0) ∧ R = (slL M).drop o ++ (slL M).take o
def holdS (R : List (List Int)) (s : List Int) : List (List Int) := if R.length < 24 then R ++ [s] else R.drop 1 ++ [s]
theorem slL_len {M : zM} (h : 0 ≤ gi M 5 6) : ((slL M).length : Int) = gi M 5 6 := by
  unfold slL
  simp
  omega
theorem HX.len {M : zM} {R : List (List Int)} (h : HX M R) : (R.length : Int) = gi M 5 6 := by
  obtain ⟨h1, h2, o, h3, h4, h5, rfl⟩ := h
  have := slL_len h2.1
  simp
  omega
theorem HX.mem {M : zM} {R : List (List Int)} (h : HX M R) {s : List Int} : s ∈ R ↔ s ∈ slL M := by
  obtain ⟨h1, h2, o, h3, h4, h5, rfl⟩ := h
  rw [List.mem_append]
  constructor
  · rintro (h | h)
    · exact List.mem_of_mem_drop h
    · exact List.mem_of_mem_take h
  · intro h
    rw [← List.take_append_drop o (slL M)] at h
    rcases List.mem_append.mp h with h | h
    · exact Or.inr h
    · exact Or.inl h
theorem HX.same {M M' : zM} {R : List (List Int)} (h : HX M R) (e6 : gi M' 5 6 = gi M 5 6) (e8 : gi M' 5 8 = gi M 5 8) (e1 : gi M' 6 = gi M 6) (e2 : gi M' 7 = gi M 7) : HX M' R := by
  unfold HX slL slB slT at *
  rw [e6, e8, e1, e2]
  exact h
/-- what asking goes by: the remembered texts, how many probes are left, probes, hits, whether it ended -/
abbrev JS : Type := List (List Int) × Int × Int × Int × Int
def JX (M : zM) (on : Int) (j : JS) : Prop := HX M j.1 ∧ gi M 5 7 = j.2.1 ∧ gi M 5 3 = j.2.2.1 ∧ gi M 5 4 = j.2.2.2.1 ∧ gi M 5 5 = j.2.2.2.2 ∧ gi M 5 2 = on ∧ (0 ≤ j.2.1 ∧ j.2.1 ≤ 400)
/-- asking for a text -/
def askS (on : Int) (oc : List Int → Int) (j : JS) (s : List Int) : Int × JS :=
  if ¬ j.2.2.2.2 = 0 then (0, j)
  else if s ∈ j.1 then (oc s, (j.1, j.2.1, j.2.2.1, zw (j.2.2.2.1 + 1), j.2.2.2.2))
  else if j.2.1 ≤ 0 then (0, (j.1, j.2.1, j.2.2.1, j.2.2.2.1, 1))
  else (oc s, (if on = 0 then j.1 else holdS j.1 s, j.2.1 - 1, zw (j.2.2.1 + 1), j.2.2.2.1, j.2.2.2.2))
