/-! ===== Tree: leaves ===== -/
theorem p_X7_isLoose {B : zB} {K : Int → zM → Prop} {M : zM} {p1 p2 p3 : Int} {g : zG} {E : tE} {s : List Int} (hx : RX M g) (hw : WG g) (hE : eT M = E) (hs : mS M s) (ho : okS s) (hp : 0 ≤ p1 ∧ p1 < gN g) (hl : 0 ≤ p3 ∧ p3 ≤ 32) (k : K (if (gS g p1.toNat = 42 ∨ gS g p1.toNat = 63) ∨ ((gS g p1.toNat = 42 ∨ gS g p1.toNat = 43) ∧ (1 < p2 ∨ 0 ≤ mor E g (chS s) p1.toNat p2 p3)) then 1 else 0) M) : zCi B zy_X7_isLoose 3 0 0 [zR 24, zI p1, zI p2, zI p3] M K := by
  refine e_X7_isLoose (fun n0 => ?_)
  apply b_X7_isLoose_0 (g := g) (E := E) (s := s)
  case k1 =>
    intro h
    rw [zifc (Q := (gS g p1.toNat = 42 ∨ gS g p1.toNat = 63) ∨ ((gS g p1.toNat = 42 ∨ gS g p1.toNat = 43) ∧ (1 < p2 ∨ 0 ≤ mor E g (chS s) p1.toNat p2 p3))) ⟨fun q => Or.inr q, fun q => q.elim (fun z => absurd z h) id⟩]
    exact k
  case k2 => intro h; rw [if_pos (Or.inl h)] at k; exact k
  all_goals first | assumption | (intros; omega)
def ndX (M : zM) (j : Nat) : nd := (gi M 25 j, gi M 26 j, gi M 27 j, gi M 28 j, gi M 29 j, gi M 30 j)
/-- nodes have been put behind those that there were -/
def GF (M M' : zM) (i : Nat) (L : List nd) : Prop := zSm [24, 25, 26, 27, 28, 29, 30] M M' ∧ (∀ j, j ≠ 2 → gi M' 24 j = gi M 24 j) ∧ gi M' 24 2 = ((i + L.length : Nat) : Int) ∧ (∀ j, j < i → ndX M' j = ndX M j) ∧ ∀ j, j < L.length → some (ndX M' (i + j)) = L[j]?
theorem GF.nil {M : zM} {i : Nat} (h : gi M 24 2 = i) : GF M M i [] := ⟨zSm.rf, fun _ _ => rfl, h, fun _ _ => rfl, fun j hj => by simp at hj⟩
theorem GF.app {M M1 M2 : zM} {i : Nat} {L1 L2 : List nd} (h : GF M M1 i L1) (h2 : GF M1 M2 (i + L1.length) L2) : GF M M2 i (L1 ++ L2) := by
  obtain ⟨a1, a2, a3, a4, a5⟩ := h
  obtain ⟨b1, b2, b3, b4, b5⟩ := h2
  refine ⟨a1.tr b1, fun j hj => (b2 j hj).trans (a2 j hj), ?_, fun j hj => (b4 j (by omega)).trans (a4 j hj), fun j hj => ?_⟩
  · rw [b3, List.length_append, Nat.add_assoc]
  · rw [List.length_append] at hj
    by_cases hlt : j < L1.length
    · rw [b4 _ (by omega), List.getElem?_append_left hlt]
      exact a5 j hlt
    · rw [List.getElem?_append_right (by omega)]
      have := b5 (j - L1.length) (by omega)
      rw [show i + L1.length + (j - L1.length) = i + j from by omega] at this
      exact this
/-- put: one node more, but for looseness -/
theorem m_X7_put {B : zB} {K : Int → zM → Prop} {M : zM} {k par : Nat} {p3 p4 : Int} {g : zG} {i : Nat} (hx : RX M g) (hw : WG g) (hp : (k : Int) < gN g) (ht : gi M 24 2 = i) (hi : i ≤ 60) (hpar : par < i) (hpar2 : par < 60) (hn : 0 ≤ gi M 24 9 ∧ gi M 24 9 ≤ 32) (h3 : 0 ≤ p3 ∧ p3 ≤ 32) (h4 : 0 ≤ p4 ∧ p4 ≤ 32) (hd : 0 ≤ gi M 29 par ∧ gi M 29 par ≤ 60)
    (k1 : nm (gI g k) = 6 → gS g k = 0 → K (-1) M)
    (k2 : ¬ (nm (gI g k) = 6 ∧ gS g k = 0) → i < 60 → ∀ M', zSm [24, 25, 27, 28, 29, 30] M M' → (∀ j, j ≠ 2 → gi M' 24 j = gi M 24 j) → gi M' 24 2 = ((i + 1 : Nat) : Int) → (∀ j, j < i → ndX M' j = ndX M j) → gi M' 25 i = nm (gI g k) → gi M' 27 i = gi M 24 9 - p3 → gi M' 28 i = p3 - p4 → gi M' 29 i = gi M 29 par + 1 → gi M' 30 i = par → K i M')
    (k3 : ¬ (nm (gI g k) = 6 ∧ gS g k = 0) → 60 ≤ i → K (-1) M) : zCi B zy_X7_put 2 0 0 [zR 24, zI k, zI par, zI p3, zI p4] M K := by
  have hb := nm_bd (gI g k)
  have main : ¬ (nm (gI g k) = 6 ∧ gS g k = 0) → i < 60 → K (gi M 24 2) (si (si (si (si (si (si M 25 (gi M 24 2).toNat (nm (gI g k))) 27 (gi M 24 2).toNat ((gi M 24 9) - p3)) 28 (gi M 24 2).toNat (p3 - p4)) 29 (gi M 24 2).toNat ((gi M 29 par) + 1)) 30 (gi M 24 2).toNat par) 24 2 ((gi M 24 2) + 1)) := by
    intro h1 h2
    rw [ht, show ((i : Int)).toNat = i from rfl]
    refine k2 h1 h2 _ ((((((zSm.rf.st (by simp)).st (by simp)).st (by simp)).st (by simp)).st (by simp)).st (by simp)) ?_ ?_ ?_ ?_ ?_ ?_ ?_ ?_
    · intro j hj
      rw [gi_si_eq, if_neg hj]
      simp [gi_si]
    · rw [gi_si_eq, if_pos rfl]; omega
    · intro j hj
      unfold ndX
      simp [gi_si, Nat.ne_of_lt hj]
    all_goals simp [gi_si]
  refine e_X7_put (fun n0 => ?_)
  apply b_X7_put_0 (g := g)
  case k1 => intro h1 h2; exact main (fun q => h1 q.1) (by omega)
  case k2 => intro h1 h2; exact k3 (fun q => h1 q.1) (by omega)
  case k3 => intro h1 h2; exact k1 h1 (Decidable.byContradiction h2)
  case k4 => intro h1 h2 h3; exact main (fun q => h2 q.2) (by omega)
  case k5 => intro h1 h2 h3; exact k3 (fun q => h2 q.2) (by omega)
  all_goals first | assumption | (intros; omega) | (intros; rw [show (par : Int).toNat = par from rfl]; omega)
/-- the greatest depth of the nodes -/
def dpF (f : Nat → Int) : Nat → Int
  | 0 => 0
  | n + 1 => if dpF f n < f n then f n else dpF f n
theorem l_X7_deepest {B : zB} {n0 : Nat} {K : Int → zM → Prop} {M : zM} {n : Nat} (ht : gi M 24 2 = n) (hn : n ≤ 60) (k : K (dpF (gi M 29) n) M) : ∀ (m j : Nat), j + m = n → zGi B zy_X7_deepest 1 0 0 n0 K 4 [some (zR 24), some (zI (dpF (gi M 29) j)), some (zI j)] [] M 0 0 := by
  intro m
  induction m with
  | zero =>
    intro j hj
    have : j = n := by omega
    subst this
    apply b_X7_deepest_4
    case k1 => intro _; exact k
    all_goals (intros; omega)
  | succ m ih =>
    intro j hj
    apply b_X7_deepest_4
    case k1 => intro _; omega
    case k2 => intro _; exact ih (j + 1) (by omega)
    all_goals (intros; omega)
theorem p_X7_deepest {B : zB} {K : Int → zM → Prop} {M : zM} {n : Nat} (ht : gi M 24 2 = n) (hn : n ≤ 60) (k : K (dpF (gi M 29) n) M) : zCi B zy_X7_deepest 1 0 0 [zR 24] M K :=
  e_X7_deepest (fun _ => b_X7_deepest_0 (l_X7_deepest ht hn k n 0 (by omega)))
