/-! ===== cutting what was typed into rules, alternatives, items ===== -/
/-- what may come next (0 a name, 1 =, 2 an item, 3 an item or a tail, -1 nothing), the grammar so far, how many rules, the start, the rule at hand -/
abbrev CS : Type := Int × zG × Int × Int × Int
def updF (f : Nat → Int) (k : Nat) (v : Int) : Nat → Int := fun j => if j = k then v else f j
theorem updF_eq {f : Nat → Int} {k : Nat} {v : Int} : updF f k v k = v := if_pos rfl
theorem updF_ne {f : Nat → Int} {k j : Nat} {v : Int} (h : j ≠ k) : updF f k v j = f j := if_neg h
def addA (g : zG) : zG := (gN g, gI g, gS g, gA g + 1, updF (gF g) (gA g).toNat (gN g), gR g, gE g)
def addI (g : zG) (c : Int) : zG := (gN g + 1, updF (gI g) (gN g).toNat c, updF (gS g) (gN g).toNat 0, gA g, gF g, gR g, gE g)
def setR (g : zG) (r : Nat) : zG := (gN g, gI g, gS g, gA g, gF g, updF (gR g) r (gA g), gE g)
def setE (g : zG) (r : Nat) : zG := (gN g, gI g, gS g, gA g, gF g, gR g, updF (gE g) r (gA g))
def setS (g : zG) (c : Int) : zG := (gN g, gI g, updF (gS g) (gN g - 1).toNat c, gA g, gF g, gR g, gE g)
def finG (g : zG) : zG := (gN g, gI g, gS g, gA g, updF (gF g) (gA g).toNat (gN g), gR g, gE g)
def stpS (C : CS) (c : Int) : CS :=
  if C.1 = -1 then C
  else if C.1 = 0 then (if isNm c = true ∧ gR C.2.1 (c - 65).toNat < 0 then (1, addA (setR C.2.1 (c - 65).toNat), C.2.2.1 + 1, (if C.2.2.1 = 0 then c - 65 else C.2.2.2.1), c - 65) else (-1, C.2))
  else if C.1 = 1 then (if c = 61 then 2 else -1, C.2)
  else if c = 59 then (0, setE C.2.1 C.2.2.2.2.toNat, C.2.2)
  else if c = 47 then (2, addA C.2.1, C.2.2)
  else if isTl c = true then (if C.1 = 3 ∧ 1 ≤ gN C.2.1 then (2, setS C.2.1 c, C.2.2) else (-1, C.2))
  else if c = 61 then (-1, C.2) else (3, addI C.2.1 c, C.2.2)
def iniC : CS := (0, (0, fun _ => 0, fun _ => 0, 0, fun _ => 0, fun _ => -1, fun _ => 0), 0, 0, 0)
def cutS (wr : List Int) : CS := wr.foldl stpS iniC
def dfd (g : zG) (r : Nat) : Int := if gR g r < 0 then 0 else 1
def cntD (g : zG) : Int := dfd g 0 + dfd g 1 + dfd g 2 + dfd g 3 + dfd g 4 + dfd g 5
/-- a rule that is not at hand -/
def clo (C : CS) (r : Nat) : Prop := ¬ (1 ≤ C.1 ∧ (r : Int) = C.2.2.2.2)
def WC (C : CS) (i : Int) : Prop := (0 ≤ gN C.2.1 ∧ 0 ≤ gA C.2.1 ∧ gN C.2.1 + gA C.2.1 ≤ i) ∧ (∀ j : Nat, (j : Int) < gN C.2.1 → (isTx (gI C.2.1 j) = true ∨ isNm (gI C.2.1 j) = true) ∧ (gS C.2.1 j = 0 ∨ gS C.2.1 j = 63 ∨ gS C.2.1 j = 42 ∨ gS C.2.1 j = 43)) ∧
  (∀ j : Nat, (j : Int) < gA C.2.1 → (0 ≤ gF C.2.1 j ∧ gF C.2.1 j ≤ gN C.2.1) ∧ ((j : Int) + 1 < gA C.2.1 → gF C.2.1 j ≤ gF C.2.1 (j + 1))) ∧
  (∀ r : Nat, r < 6 → -1 ≤ gR C.2.1 r ∧ (0 ≤ gR C.2.1 r → gR C.2.1 r ≤ gA C.2.1 ∧ (clo C r → gR C.2.1 r ≤ gE C.2.1 r ∧ gE C.2.1 r ≤ gA C.2.1))) ∧ (1 ≤ C.1 → 0 ≤ C.2.2.2.2 ∧ C.2.2.2.2 < 6 ∧ 0 ≤ gR C.2.1 C.2.2.2.2.toNat) ∧ (-1 ≤ C.1 ∧ C.1 ≤ 3) ∧ C.2.2.1 = cntD C.2.1 ∧ (0 < C.2.2.1 → 0 ≤ C.2.2.2.1 ∧ C.2.2.2.1 < 6 ∧ 0 ≤ gR C.2.1 C.2.2.2.1.toNat)
theorem dfd_bd {g : zG} {r : Nat} : 0 ≤ dfd g r ∧ dfd g r ≤ 1 := by unfold dfd; split <;> omega
theorem cntD_bd {g : zG} : 0 ≤ cntD g ∧ cntD g ≤ 6 := by
  unfold cntD
  have a0 := dfd_bd (g := g) (r := 0)
  have a1 := dfd_bd (g := g) (r := 1)
  have a2 := dfd_bd (g := g) (r := 2)
  have a3 := dfd_bd (g := g) (r := 3)
  have a4 := dfd_bd (g := g) (r := 4)
  have a5 := dfd_bd (g := g) (r := 5)
  omega
theorem cntD_set {g : zG} {r : Nat} (hr : r < 6) (h : gR g r < 0) (hA : 0 ≤ gA g) : cntD (addA (setR g r)) = cntD g + 1 := by
  have e : ∀ q, dfd (addA (setR g r)) q = if q = r then 1 else dfd g q := fun q => by
    by_cases hq : q = r
    · rw [if_pos hq, hq]
      show (if updF (gR g) r (gA g) r < 0 then (0 : Int) else 1) = 1
      rw [updF_eq, if_neg (by omega)]
    · rw [if_neg hq]
      show (if updF (gR g) r (gA g) q < 0 then (0 : Int) else 1) = dfd g q
      rw [updF_ne hq]
      rfl
  have h0 : dfd g r = 0 := if_pos h
  unfold cntD
  rw [e, e, e, e, e, e]
  have : r = 0 ∨ r = 1 ∨ r = 2 ∨ r = 3 ∨ r = 4 ∨ r = 5 := by omega
  rcases this with rfl | rfl | rfl | rfl | rfl | rfl <;> simp <;> omega
theorem isTl_cases {c : Int} (h : isTl c = true) : c = 63 ∨ c = 42 ∨ c = 43 := isTl_iff.mp h
theorem WC.step {C : CS} {i c : Int} (h : WC C i) (hc : isGs c = true) (h1 : C.1 ≠ -1) : (stpS C c).1 = -1 ∨ WC (stpS C c) (i + 1) := by
  obtain ⟨nx, g, ru, st, op⟩ := C
  obtain ⟨⟨a1, a2, a3⟩, a4, a5, a6, a7, a8, a9, a10⟩ := h
  dsimp only at a1 a2 a3 a4 a5 a6 a7 a8 a9 a10 h1
  unfold stpS
  dsimp only
  rw [if_neg h1]
  have addAok : ∀ {g' : zG}, gF g' = gF g → gA g' = gA g → gN g' = gN g → ∀ j : Nat, (j : Int) < gA (addA g') → (0 ≤ gF (addA g') j ∧ gF (addA g') j ≤ gN (addA g')) ∧ ((j : Int) + 1 < gA (addA g') → gF (addA g') j ≤ gF (addA g') (j + 1)) := by
    intro g' e1 e2 e3 j hj
    show (0 ≤ updF (gF g') (gA g').toNat (gN g') j ∧ updF (gF g') (gA g').toNat (gN g') j ≤ gN g') ∧ (_ → updF (gF g') (gA g').toNat (gN g') j ≤ updF (gF g') (gA g').toNat (gN g') (j + 1))
    have hj' : (j : Int) < gA g + 1 := by rw [← e2]; exact hj
    rw [e1, e2, e3]
    by_cases hq : j = (gA g).toNat
    · rw [hq, updF_eq]
      exact ⟨⟨by omega, by omega⟩, fun q => by exfalso; have : ((gA g).toNat : Int) + 1 < gA g' + 1 := (hq ▸ q); rw [e2] at this; omega⟩
    · rw [updF_ne hq]
      have hj2 : (j : Int) < gA g := by omega
      refine ⟨(a5 j hj2).1, fun _ => ?_⟩
      by_cases hq2 : j + 1 = (gA g).toNat
      · rw [hq2, updF_eq]; exact (a5 j hj2).1.2
      · rw [updF_ne hq2]; exact (a5 j hj2).2 (by omega)
  by_cases n0 : nx = 0
  · rw [if_pos n0]
    by_cases hn : isNm c = true ∧ gR g (c - 65).toNat < 0
    · rw [if_pos hn]
      right
      have nm := isNm_iff.mp hn.1
      have hlt : (c - 65).toNat < 6 := by omega
      refine ⟨⟨a1, by show 0 ≤ gA g + 1; omega, by show gN g + (gA g + 1) ≤ i + 1; omega⟩, a4, addAok rfl rfl rfl, fun r hr => ?_, fun _ => ⟨by show 0 ≤ c - 65; omega, by show c - 65 < 6; omega, ?_⟩, ⟨by dsimp only; omega, by dsimp only; omega⟩, ?_, fun _ => ?_⟩
      · show -1 ≤ updF (gR g) _ (gA g) r ∧ (0 ≤ updF (gR g) _ (gA g) r → updF (gR g) _ (gA g) r ≤ gA g + 1 ∧ (_ → updF (gR g) _ (gA g) r ≤ gE g r ∧ gE g r ≤ gA g + 1))
        by_cases hq : r = (c - 65).toNat
        · rw [hq, updF_eq]
          exact ⟨by omega, fun _ => ⟨by omega, fun q => absurd (⟨Int.le_refl 1, by show (((c - 65).toNat : Nat) : Int) = c - 65; omega⟩ : (1 : Int) ≤ 1 ∧ (((c - 65).toNat : Nat) : Int) = c - 65) q⟩⟩
        · rw [updF_ne hq]
          refine ⟨(a6 r hr).1, fun q => ⟨by have := ((a6 r hr).2 q).1; omega, fun _ => ?_⟩⟩
          have := ((a6 r hr).2 q).2 (fun q => by have := q.1; dsimp only at this; omega)
          exact ⟨this.1, by omega⟩
      · show 0 ≤ updF (gR g) _ (gA g) (c - 65).toNat
        rw [updF_eq]; exact a2
      · show ru + 1 = cntD (addA (setR g _))
        rw [cntD_set hlt hn.2 a2, a9]
      · show 0 ≤ (if ru = 0 then c - 65 else st) ∧ (if ru = 0 then c - 65 else st) < 6 ∧ 0 ≤ updF (gR g) _ (gA g) (if ru = 0 then c - 65 else st).toNat
        by_cases hr0 : ru = 0
        · rw [if_pos hr0, updF_eq]; omega
        · rw [if_neg hr0]
          have := a10 (by have := (cntD_bd (g := g)).1; omega)
          refine ⟨this.1, this.2.1, ?_⟩
          by_cases hq : st.toNat = (c - 65).toNat
          · rw [hq, updF_eq]; exact a2
          · rw [updF_ne hq]; exact this.2.2
    · rw [if_neg hn]; left; rfl
  · rw [if_neg n0]
    have h7 := a7 (by omega)
    by_cases n1 : nx = 1
    · rw [if_pos n1]
      by_cases h61 : c = 61
      · right
        rw [if_pos h61]
        exact ⟨⟨a1, a2, by dsimp only; omega⟩, a4, a5, fun r hr => ⟨(a6 r hr).1, fun q => ⟨((a6 r hr).2 q).1, fun q2 => ((a6 r hr).2 q).2 (fun q3 => q2 ⟨by dsimp only; omega, q3.2⟩)⟩⟩, fun _ => h7, ⟨by dsimp only; omega, by dsimp only; omega⟩, a9, a10⟩
      · left; rw [if_neg h61]
    · rw [if_neg n1]
      by_cases h59 : c = 59
      · rw [if_pos h59]
        right
        refine ⟨⟨a1, a2, by show gN g + gA g ≤ i + 1; omega⟩, a4, a5, fun r hr => ⟨(a6 r hr).1, fun q => ⟨((a6 r hr).2 q).1, fun _ => ?_⟩⟩, fun q => by have q2 : (1 : Int) ≤ 0 := q; omega, ⟨by dsimp only; omega, by dsimp only; omega⟩, a9, a10⟩
        show gR g r ≤ updF (gE g) op.toNat (gA g) r ∧ updF (gE g) op.toNat (gA g) r ≤ gA g
        by_cases hq : r = op.toNat
        · rw [hq, updF_eq]
          exact ⟨(hq ▸ ((a6 r hr).2 q).1), by omega⟩
        · rw [updF_ne hq]
          exact ((a6 r hr).2 q).2 (fun q3 => hq (by have := q3.2; dsimp only at this; omega))
      · rw [if_neg h59]
        have rules : ∀ {g' : zG} {nx' : Int}, 1 ≤ nx' → gR g' = gR g → gE g' = gE g → gA g ≤ gA g' → ∀ r : Nat, r < 6 → -1 ≤ gR g' r ∧ (0 ≤ gR g' r → gR g' r ≤ gA g' ∧ (clo (nx', g', ru, st, op) r → gR g' r ≤ gE g' r ∧ gE g' r ≤ gA g')) := by
          intro g' nx' hn e1 e2 e3 r hr
          rw [e1, e2]
          refine ⟨(a6 r hr).1, fun q => ⟨by have := ((a6 r hr).2 q).1; omega, fun q2 => ?_⟩⟩
          have := ((a6 r hr).2 q).2 (fun q3 => q2 ⟨hn, q3.2⟩)
          exact ⟨this.1, by omega⟩
        by_cases h47 : c = 47
        · rw [if_pos h47]
          right
          exact ⟨⟨a1, by show 0 ≤ gA g + 1; omega, by show gN g + (gA g + 1) ≤ i + 1; omega⟩, a4, addAok rfl rfl rfl, rules (by omega) rfl rfl (by show gA g ≤ gA g + 1; omega), fun _ => h7, ⟨by dsimp only; omega, by dsimp only; omega⟩, a9, a10⟩
        · rw [if_neg h47]
          by_cases ht : isTl c = true
          · rw [if_pos ht]
            by_cases h3 : nx = 3 ∧ 1 ≤ gN g
            · right
              rw [if_pos h3]
              refine ⟨⟨a1, a2, by show gN g + gA g ≤ i + 1; omega⟩, fun j hj => ?_, a5, rules (by omega) rfl rfl (Int.le_refl _), fun _ => h7, ⟨by dsimp only; omega, by dsimp only; omega⟩, a9, a10⟩
              refine ⟨(a4 j hj).1, ?_⟩
              show updF (gS g) _ c j = 0 ∨ updF (gS g) _ c j = 63 ∨ updF (gS g) _ c j = 42 ∨ updF (gS g) _ c j = 43
              by_cases hq : j = (gN g - 1).toNat
              · rw [hq, updF_eq]; exact Or.inr (isTl_cases ht)
              · rw [updF_ne hq]; exact (a4 j hj).2
            · left; rw [if_neg h3]
          · rw [if_neg ht]
            by_cases h61 : c = 61
            · left; rw [if_pos h61]
            · rw [if_neg h61]
              right
              refine ⟨⟨by show 0 ≤ gN g + 1; omega, a2, by show gN g + 1 + gA g ≤ i + 1; omega⟩, fun j hj => ?_, fun j hj => ?_, rules (by omega) rfl rfl (Int.le_refl _), fun _ => h7, ⟨by dsimp only; omega, by dsimp only; omega⟩, a9, a10⟩
              · show (isTx (updF (gI g) _ c j) = true ∨ isNm (updF (gI g) _ c j) = true) ∧ (updF (gS g) _ 0 j = 0 ∨ updF (gS g) _ 0 j = 63 ∨ updF (gS g) _ 0 j = 42 ∨ updF (gS g) _ 0 j = 43)
                by_cases hq : j = (gN g).toNat
                · rw [hq, updF_eq, updF_eq]
                  refine ⟨?_, Or.inl rfl⟩
                  rcases isGs_iff.mp hc with q | q | q | q | q | q
                  · exact Or.inl q
                  · exact Or.inr q
                  · exact absurd q ht
                  · exact absurd q h61
                  · exact absurd q h47
                  · exact absurd q h59
                · rw [updF_ne hq, updF_ne hq]
                  have hj' : (j : Int) < gN g + 1 := hj
                  exact a4 j (by omega)
              · have hj' : (j : Int) < gA g := hj
                have := a5 j hj'
                exact ⟨⟨this.1.1, by show gF g j ≤ gN g + 1; omega⟩, this.2⟩
