/-! ===== whether an item may match nothing: the model ===== -/
theorem p_X9_isVoid {B : zB} {K : Int → zM → Prop} {M : zM} {p1 : Int} {g : zG} (hx : RM M g) (hw : WG g) (hp : 0 ≤ p1 ∧ p1 < gN g) (k : K (if gV g (eM M) p1.toNat = true then 1 else 0) M) : zCi B zy_X9_isVoid 2 0 0 [zR 45, zI p1] M K := by
  obtain ⟨x1, x2, x3, x4, x5⟩ := hx
  have hn := hw.1
  obtain ⟨e1, e2⟩ := x3 p1.toNat (by omega)
  refine e_X9_isVoid (fun n0 => ?_)
  apply b_X9_isVoid_0
  case k1 =>
    rw [e1, e2]
    rw [zifc (Q := gV g (eM M) p1.toNat = true) (by
      unfold gV eM
      simp only [Bool.or_eq_true, Bool.and_eq_true, decide_eq_true_eq]
      by_cases z : isNm (gI g p1.toNat) = true
      · rw [nm_eq z]
        constructor
        · rintro (h | h | h)
          · exact Or.inl (Or.inl h)
          · exact Or.inl (Or.inr h)
          · exact Or.inr h
        · rintro ((h | h) | h)
          · exact Or.inl h
          · exact Or.inr (Or.inl h)
          · exact Or.inr (Or.inr h)
      · simp [z])]
    exact k
  case c1 => omega
  all_goals (intro _ _ q; rw [e1, isNm_iff] at q; rw [e1]; omega)
