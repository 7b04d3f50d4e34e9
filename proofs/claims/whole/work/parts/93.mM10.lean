/-! ===== cutting: the model ===== -/
/-- the model's cells while it cuts -/
def RMc (M : zM) (C : CS) : Prop := (gi M 45 14 = gN C.2.1 ∧ gi M 45 15 = gA C.2.1 ∧ gi M 45 12 = C.2.2.1 ∧ (0 < C.2.2.1 → gi M 45 13 = C.2.2.2.1)) ∧
  (∀ j : Nat, (j : Int) < gN C.2.1 → gi M 54 j = gI C.2.1 j ∧ gi M 55 j = gS C.2.1 j) ∧ (∀ j : Nat, (j : Int) < gA C.2.1 → gi M 56 j = gF C.2.1 j) ∧
  ∀ r : Nat, r < 6 → gi M 57 r = gR C.2.1 r ∧ (0 ≤ gR C.2.1 r → clo C r → gi M 58 r = gE C.2.1 r)
section NM10
variable {B : zB} {K : Int → zM → Prop} {Kv : zM → Prop} {M : zM}
theorem m_X9_beginAlternative (h : 0 ≤ gi M 45 15 ∧ gi M 45 15 < 60) (k : Kv (si (si M 56 (gi M 45 15).toNat (gi M 45 14)) 45 15 ((gi M 45 15) + 1))) : zCv B zy_X9_beginAlternative 1 0 0 [zR 45] M Kv := by
  refine e_X9_beginAlternative (fun n0 => ?_)
  apply b_X9_beginAlternative_0
  case k1 => exact k
  all_goals (intros; omega)
abbrev NFr : List Nat := [45, 54, 55, 56, 57, 58]
theorem finG_RM {C : CS} {M : zM} (h : RMc M C) (h0 : C.1 = 0) (hA : 0 ≤ gA C.2.1) : RM (si M 56 (gA C.2.1).toNat (gN C.2.1)) (finG C.2.1) := by
  obtain ⟨⟨r1, r2, r3, r4⟩, r6, r7, r8⟩ := h
  refine ⟨by simp [gi_si]; exact r1, by simp [gi_si]; exact r2, fun j hj => ?_, fun j hj => ?_, fun r hr => ?_⟩
  · rw [gi_si_ne (by decide), gi_si_ne (by decide)]
    exact r6 j hj
  · have hj' : (j : Int) ≤ gA C.2.1 := hj
    rw [gi_si_eq]
    show _ = updF (gF C.2.1) (gA C.2.1).toNat (gN C.2.1) j
    unfold updF
    by_cases z : j = (gA C.2.1).toNat
    · rw [if_pos z, if_pos z]
    · rw [if_neg z, if_neg z]; exact r7 j (by omega)
  · rw [gi_si_ne (by decide), gi_si_ne (by decide)]
    exact ⟨(r8 r hr).1, fun q => (r8 r hr).2 q (fun z => by have := z.1; omega)⟩
/-- an alternative begins -/
theorem RMc.alt {g : zG} {ru st op nx nx' : Int} (h : RMc M (nx, g, ru, st, op)) (hn : 1 ≤ nx) (hn' : 1 ≤ nx') : RMc (si (si M 56 (gA g).toNat (gN g)) 45 15 (gA g + 1)) (nx', addA g, ru, st, op) := by
  obtain ⟨⟨r1, r2, r3, r4⟩, r6, r7, r8⟩ := h
  refine ⟨⟨by simp [gi_si]; exact r1, by simp [gi_si]; rfl, by simp [gi_si]; exact r3, fun z => by simp [gi_si]; exact r4 z⟩, fun j hj => ?_, fun j hj => ?_, fun r hr => ?_⟩
  · rw [gi_si_ne (by decide), gi_si_ne (by decide), gi_si_ne (by decide), gi_si_ne (by decide)]
    exact r6 j hj
  · have hj' : (j : Int) < gA g + 1 := hj
    rw [gi_si_ne (by decide), gi_si_eq]
    show _ = updF (gF g) (gA g).toNat (gN g) j
    unfold updF
    by_cases z : j = (gA g).toNat
    · rw [if_pos z, if_pos z]
    · rw [if_neg z, if_neg z]; exact r7 j (by show (j : Int) < gA g; omega)
  · rw [gi_si_ne (by decide), gi_si_ne (by decide), gi_si_ne (by decide), gi_si_ne (by decide)]
    exact ⟨(r8 r hr).1, fun q q2 => (r8 r hr).2 q (fun z => q2 ⟨hn', z.2⟩)⟩
/-- a rule begins -/
theorem RMc.rule {g : zG} {ru st op c : Int} (h : RMc M (0, g, ru, st, op)) (hc : 65 ≤ c ∧ c ≤ 70) (hr0 : 0 ≤ ru) :
    RMc (si (si (si M 45 13 (if gi M 45 12 = 0 then c - 65 else gi M 45 13)) 45 12 ((gi M 45 12) + 1)) 57 (c - 65).toNat (gi M 45 15)) (1, setR g (c - 65).toNat, ru + 1, (if ru = 0 then c - 65 else st), c - 65) := by
  obtain ⟨⟨r1, r2, r3, r4⟩, r6, r7, r8⟩ := h
  dsimp only at r1 r2 r3 r4
  refine ⟨⟨by simp [gi_si]; exact r1, by simp [gi_si]; exact r2, by simp [gi_si]; exact r3, fun _ => ?_⟩, fun j hj => ?_, fun j hj => ?_, fun r hr => ?_⟩
  · have e : gi (si (si (si M 45 13 (if gi M 45 12 = 0 then c - 65 else gi M 45 13)) 45 12 ((gi M 45 12) + 1)) 57 (c - 65).toNat (gi M 45 15)) 45 13 = (if gi M 45 12 = 0 then c - 65 else gi M 45 13) := by simp [gi_si]
    rw [e, r3]
    show _ = if ru = 0 then c - 65 else st
    by_cases z : ru = 0
    · rw [if_pos z, if_pos z]
    · rw [if_neg z, if_neg z]; exact r4 (by omega)
  · rw [gi_si_ne (by decide), gi_si_ne (by decide), gi_si_ne (by decide), gi_si_ne (by decide), gi_si_ne (by decide), gi_si_ne (by decide)]
    exact r6 j hj
  · rw [gi_si_ne (by decide), gi_si_ne (by decide), gi_si_ne (by decide)]
    exact r7 j hj
  · rw [gi_si_eq, gi_si_ne (by decide), gi_si_ne (by decide), gi_si_ne (by decide), gi_si_ne (by decide), gi_si_ne (by decide), r2]
    show _ = updF (gR g) (c - 65).toNat (gA g) r ∧ (0 ≤ updF (gR g) (c - 65).toNat (gA g) r → _)
    unfold updF
    by_cases z : r = (c - 65).toNat
    · rw [if_pos z, if_pos z]
      refine ⟨rfl, fun _ q => absurd (⟨Int.le_refl 1, ?_⟩ : (1 : Int) ≤ 1 ∧ (r : Int) = c - 65) q⟩
      omega
    · rw [if_neg z, if_neg z]
      refine ⟨(r8 r hr).1, fun q _ => (r8 r hr).2 q (fun w => ?_)⟩
      have := w.1
      dsimp only at this
      omega
/-- a rule ends -/
theorem RMc.fin {g : zG} {ru st op nx : Int} (h : RMc M (nx, g, ru, st, op)) (ho : 0 ≤ op) : RMc (si M 58 op.toNat (gA g)) (0, setE g op.toNat, ru, st, op) := by
  obtain ⟨⟨r1, r2, r3, r4⟩, r6, r7, r8⟩ := h
  refine ⟨⟨by simp [gi_si]; exact r1, by simp [gi_si]; exact r2, by simp [gi_si]; exact r3, fun z => by simp [gi_si]; exact r4 z⟩, fun j hj => ?_, fun j hj => ?_, fun r hr => ?_⟩
  · rw [gi_si_ne (by decide), gi_si_ne (by decide)]
    exact r6 j hj
  · rw [gi_si_ne (by decide)]
    exact r7 j hj
  · rw [gi_si_ne (by decide), gi_si_eq]
    refine ⟨(r8 r hr).1, fun q _ => ?_⟩
    show _ = updF (gE g) op.toNat (gA g) r
    unfold updF
    by_cases z : r = op.toNat
    · rw [if_pos z, if_pos z]
    · rw [if_neg z, if_neg z]
      exact (r8 r hr).2 q (fun w => z (by have := w.2; dsimp only at this; omega))
/-- an item, and its tail -/
theorem RMc.item {g : zG} {ru st op nx nx' c t : Int} (h : RMc M (nx, g, ru, st, op)) (hn : 1 ≤ nx) (hn' : 1 ≤ nx') (h0 : 0 ≤ gN g) (g' : zG) (hg' : g' = setS (addI g c) t) :
    RMc (si (si (si M 54 (gN g).toNat c) 55 (gN g).toNat t) 45 14 (gN g + 1)) (nx', g', ru, st, op) := by
  subst hg'
  obtain ⟨⟨r1, r2, r3, r4⟩, r6, r7, r8⟩ := h
  have eN : (gN (addI g c) - 1).toNat = (gN g).toNat := by show (gN g + 1 - 1).toNat = _; omega
  refine ⟨⟨by simp [gi_si]; rfl, by simp [gi_si]; exact r2, by simp [gi_si]; exact r3, fun z => by simp [gi_si]; exact r4 z⟩, fun j hj => ?_, fun j hj => ?_, fun r hr => ?_⟩
  · have hj' : (j : Int) < gN g + 1 := hj
    have e54 : gi (si (si (si M 54 (gN g).toNat c) 55 (gN g).toNat t) 45 14 (gN g + 1)) 54 j = if j = (gN g).toNat then c else gi M 54 j := by simp [gi_si]
    have e55 : gi (si (si (si M 54 (gN g).toNat c) 55 (gN g).toNat t) 45 14 (gN g + 1)) 55 j = if j = (gN g).toNat then t else gi M 55 j := by simp [gi_si]
    rw [e54, e55]
    show _ = updF (gI g) (gN g).toNat c j ∧ _ = updF (updF (gS g) (gN g).toNat 0) (gN (addI g c) - 1).toNat t j
    rw [eN]
    unfold updF
    by_cases z : j = (gN g).toNat
    · rw [if_pos z, if_pos z, if_pos z, if_pos z]; exact ⟨rfl, rfl⟩
    · rw [if_neg z, if_neg z, if_neg z, if_neg z, if_neg z]; exact r6 j (by show (j : Int) < gN g; omega)
  · rw [gi_si_ne (by decide), gi_si_ne (by decide), gi_si_ne (by decide)]
    exact r7 j hj
  · rw [gi_si_ne (by decide), gi_si_ne (by decide), gi_si_ne (by decide), gi_si_ne (by decide), gi_si_ne (by decide), gi_si_ne (by decide)]
    exact ⟨(r8 r hr).1, fun q q2 => (r8 r hr).2 q (fun z => q2 ⟨hn', z.2⟩)⟩
end NM10
