/-! ===== all is made: both sides at their start ===== -/
theorem zsf_lt (k j : Nat) : zsf k j < 88 := by
  unfold zsf
  have h : (zsfL.all (fun r => r.all (fun x => decide (x < 88)))) = true := by decide +kernel
  have h2 := List.all_eq_true.mp h
  by_cases hk : k < zsfL.length
  · have e : zsfL.getD k [] ∈ zsfL := by
      rw [List.getD_eq_getElem?_getD, List.getElem?_eq_getElem hk]
      exact List.getElem_mem _
    generalize zsfL.getD k [] = r at *
    have h3 := List.all_eq_true.mp (h2 r e)
    by_cases hj : j < r.length
    · have e2 : r.getD j 0 ∈ r := by
        rw [List.getD_eq_getElem?_getD, List.getElem?_eq_getElem hj]
        exact List.getElem_mem _
      exact of_decide_eq_true (h3 _ e2)
    · have : r[j]? = none := List.getElem?_eq_none (by omega)
      rw [List.getD_eq_getElem?_getD, this]
      decide
  · have e : zsfL.getD k [] = [] := by
      rw [List.getD_eq_getElem?_getD, List.getElem?_eq_none (by omega)]
      rfl
    rw [e]
    simp
def fullI (ini : zIni) : Prop := ∀ k, k < 88 → ∀ j, j < 64 → zsk (match zkd k with
  | .inl _ => 99
  | .inr c => c) j = 1 → ini k j = true
theorem zat_full {B : zB} {ini : zIni} {M : zM} {k : Nat} {H : Heap} (hf : fullI ini) (hk : k < 88) (h : zat B ini M k H) : zat B zA1 M k H := by
  unfold zat at *
  have e : zcell B zA1 M k = zcell B ini M k := by
    unfold zcell
    have hfk := hf k hk
    cases hq : zkd k with
    | inl q => rfl
    | inr c =>
      rw [hq] at hfk
      dsimp only at hfk ⊢
      congr 2
      apply List.map_congr_left
      intro j hj
      have hz : znf c ≤ 64 := by
        unfold znf
        by_cases hc : c < 10
        · have : c = 0 ∨ c = 1 ∨ c = 2 ∨ c = 3 ∨ c = 4 ∨ c = 5 ∨ c = 6 ∨ c = 7 ∨ c = 8 ∨ c = 9 := by omega
          rcases this with rfl | rfl | rfl | rfl | rfl | rfl | rfl | rfl | rfl | rfl <;> decide
        · rw [List.getD_eq_getElem?_getD, List.getElem?_eq_none (by show 10 ≤ c; omega)]
          decide
      have hj' : j < 64 := by have := List.mem_range.mp hj; omega
      have := hfk j hj'
      unfold zfv
      split
      · rfl
      · next h1 => rw [if_pos (this h1)]; rfl
      · rfl
  rw [e]
  exact h
theorem zW.full {B : zB} {E : zE} {pc : Nat} {ls : List (Option zV)} {st : List zV} {ini : zIni} {M : zM} {ce sl : Nat} (hf : fullI ini) (hn : gn M = 88) (k : zW B E pc ls st zA1 M ce sl) : zW B E pc ls st ini M ce sl := by
  intro p e s m args below meth c H locs lsr hF hE hK hR hS hbs hn' hl hlo hst
  exact k p e s m args below meth c H locs lsr hF hE hK ⟨hR.1, fun q hq => zat_full hf (by omega) (hR.2.1 q hq), hR.2.2.1, hR.2.2.2.1, fun q j _ => by rw [hn]; exact zsf_lt q j⟩ hS hbs hn' hl hlo hst
theorem full_end : fullI iA95 := by
  unfold fullI
  decide +kernel
/-- memory when both sides are made -/
def mZ0 : zM := mZ fA2 88
theorem fA2_at (a b : Nat) : fA2 a b = if (a = 5 ∧ b = 2) ∨ (a = 45 ∧ b = 39) then 1 else 0 := by
  show gi (si (mZ fA1 0) 45 39 1) a b = _
  rw [gi_si]
  by_cases z : a = 45 ∧ b = 39
  · rw [if_pos z, if_pos (Or.inr z)]
  · rw [if_neg z]
    show gi (si (mZ fA0 0) 5 2 1) a b = _
    rw [gi_si]
    by_cases z2 : a = 5 ∧ b = 2
    · rw [if_pos z2, if_pos (Or.inl z2)]
    · rw [if_neg z2, if_neg (fun q => q.elim z2 z)]
      rfl
theorem mZ0_at {a b : Nat} (h : ¬ ((a = 5 ∧ b = 2) ∨ (a = 45 ∧ b = 39))) : gi mZ0 a b = 0 := by
  show fA2 a b = 0
  rw [fA2_at, if_neg h]
theorem XS.zero : XS mZ0 [] [] [] [] [] none ([], 0, 0, 0, 0) 1 0 := by
  have z : ∀ {a b}, a ≠ 5 → a ≠ 45 → gi mZ0 a b = 0 := fun h1 h2 => mZ0_at (fun q => by omega)
  have z5 : ∀ {b}, b ≠ 2 → gi mZ0 5 b = 0 := fun h1 => mZ0_at (fun q => by omega)
  refine ⟨⟨⟨z (by decide) (by decide), zA.nil⟩, by decide, fun x hx => by cases hx⟩, ⟨z (by decide) (by decide), by decide, zA.nil, fun x hx => by cases hx⟩, ⟨z (by decide) (by decide), by decide, fun i t hi => by cases hi⟩, ⟨rfl, rfl⟩, ⟨?_, z5 (by decide), z5 (by decide), z5 (by decide), z5 (by decide), by show fA2 5 2 = 1; rw [fA2_at]; rfl, by decide⟩, z (by decide) (by decide), ⟨⟨fun j => ?_, fun j => ?_⟩, z (by decide) (by decide)⟩, fun k j r hr => ?_, fun k h1 h2 => ?_, Nat.le_refl _, Or.inr rfl, Or.inl rfl⟩
  · refine ⟨fun i => ?_, ?_, 0, z5 (by decide), by decide, fun _ => rfl, ?_⟩
    · rw [z (by decide) (by decide)]; omega
    · rw [z5 (by decide)]; omega
    · unfold slL
      rw [z5 (by decide)]
      rfl
  · rw [z (by decide) (by decide)]; omega
  · rw [z (by decide) (by decide)]; omega
  · cases hr
  · exfalso
    have : gn mZ0 = 88 := rfl
    omega
