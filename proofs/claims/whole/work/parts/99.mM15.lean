/-! ===== taking again is taking as often as it goes ===== -/
theorem tks_agn {E : tE} {g : zG} {ch : Nat → Int} (hT : TB E) (h0 : ch 0 < 0) (hw : WG g) {k : Nat} (hk : (k : Int) < gN g) (hr : gS g k = 42 ∨ gS g k = 43) : ∀ (f : Nat) (t l : Int), 0 ≤ l → (0 < t ∨ gS g k = 42) → enL l (tks E g ch k f t l) = agn E g ch k f l := by
  intro f
  induction f with
  | zero => intro t l _ _; rfl
  | succ f ih =>
    intro t l hl ht
    have ob := onc_bd hT h0 hw hk hl
    have em : mor E g ch k t l = if onc E g ch k l = l then -1 else onc E g ch k l := by
      unfold mor
      rw [if_neg (fun z => z.2 hr)]
      by_cases z : onc E g ch k l = l
      · rw [if_pos ⟨ht, z⟩, if_pos z]
      · rw [if_neg (fun w => z w.2), if_neg z]
    unfold tks agn
    by_cases z : 0 ≤ onc E g ch k l ∧ onc E g ch k l < l
    · rw [if_neg (by omega : ¬ onc E g ch k l = l)] at em
      rw [if_pos z, em, if_neg (by omega), enL_cons]
      by_cases y : 0 < t
      · exact ih (t + 1) _ z.1 (Or.inl (by omega))
      · exact ih (t + 1) _ z.1 (ht.imp (fun q => absurd q y) id)
    · have : mor E g ch k t l < 0 := by
        rw [em]
        split <;> omega
      rw [if_neg z, if_pos this]
      rfl
