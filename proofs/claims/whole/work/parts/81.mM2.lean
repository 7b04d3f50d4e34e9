/-! ===== the model's face: terms ===== -/
section NT2
variable {B : zB} {K : Int → zM → Prop} {Kv : zM → Prop} {M : zM} {ty wr : List Int} {sk : List (List st3 × Int)} {w u : List st3} {G : Option GC} {j : JS} {on rd : Int}
theorem MS.upS {M' : zM} {S : List Nat} {sk' : List (List st3 × Int)} {w' u' : List st3} {j' : JS} (h : MS M ty wr sk w u G j on rd) (hs : zSm S M M') (hd : ∀ a ∈ S, a = 45 ∨ (48 ≤ a ∧ a ≤ 52)) (e : ∀ q, q ≠ 4 → q ≠ 40 → gi M' 45 q = gi M 45 q) (ht : skM M' sk') (hw : rowM M' 6 w' ∧ okMk w') (hu : rowM M' 7 u' ∧ okMk u') (hj : jM M' on j') (hen : j'.2.2.2.2 = 0 ∨ j'.2.2.2.2 = 1) : MS M' ty wr sk' w' u' G j' on rd := by
  have g : ∀ a, a ≠ 45 → (a < 48 ∨ 52 < a) → gi M' a = gi M a := fun a h1 h2 => hs.ge (fun q => by have := hd a q; omega)
  obtain ⟨h1, h2, h3, h4, h6, h7, h8, h9⟩ := h
  exact ⟨h1.same (e 1 (by decide) (by decide)) (g 46 (by decide) (by decide)), h2.same (e 3 (by decide) (by decide)) (g 47 (by decide) (by decide)), ht, ⟨hw, hu⟩, hj, (e 45 (by decide) (by decide)).trans h7, h8.same (fun q hq => e q (by omega) (by omega)) (fun a ha => g a (by omega) (by omega)), h9.1, hen⟩
theorem rowM.keep {M M' : zM} {i : Nat} {P : List st3} (h : rowM M i P) (e0 : gi M' 48 i = gi M 48 i) (e : ∀ k, k < P.length → gi M' 50 (64 * i + k) = gi M 50 (64 * i + k) ∧ gi M' 51 (64 * i + k) = gi M 51 (64 * i + k) ∧ gi M' 52 (64 * i + k) = gi M 52 (64 * i + k)) : rowM M' i P := by
  refine ⟨e0.trans h.1, fun k p hp => ?_⟩
  have hk : k < P.length := (List.getElem?_eq_some_iff.mp hp).1
  obtain ⟨e1, e2, e3⟩ := e k hk
  rw [e1, e2, e3]
  exact h.2 k p hp
theorem okMk.len {P : List st3} (h : okMk P) : P.length ≤ 63 := by
  rcases h with z | z
  · rw [z]; decide
  · exact z.2
theorem m_X9_push {p1 p2 p3 : Int} (h : MS M ty wr sk w u G j on rd) (hl : sk.length < 6) (hp : 0 ≤ p1 ∧ p1 < 5) (k : ∀ M', FM M M' → MS M' ty wr (sk ++ [([(p1, p2, p3)], 1)]) w u G j on rd → Kv M') : zCv B zy_X9_push 1 0 0 [zR 45, zI p1, zI p2, zI p3] M Kv := by
  obtain ⟨h1, h2, ⟨s1, s2, s3⟩, ⟨⟨h4, h4'⟩, h5, h5'⟩, h6, h7, h8, h9⟩ := id h
  refine e_X9_push (fun n0 => ?_)
  apply b_X9_push_0
  case k1 =>
    rw [s1]
    have e1 : ((sk.length : Int)).toNat = sk.length := rfl
    have e2 : (64 * (sk.length : Int)).toNat = 64 * sk.length := by omega
    rw [e1, e2]
    generalize hM : si (si (si (si (si (si M 50 (64 * sk.length) p1) 51 (64 * sk.length) p2) 52 (64 * sk.length) p3) 48 sk.length 1) 49 sk.length 1) 45 4 ((sk.length : Int) + 1) = M'
    have f : zSm [45, 48, 49, 50, 51, 52] M M' := by
      rw [← hM]
      exact (((((zSm.rf.st (by decide)).st (by decide)).st (by decide)).st (by decide)).st (by decide)).st (by decide)
    have c48 : ∀ q, gi M' 48 q = if q = sk.length then 1 else gi M 48 q := fun q => by rw [← hM]; simp [gi_si]
    have c49 : ∀ q, gi M' 49 q = if q = sk.length then 1 else gi M 49 q := fun q => by rw [← hM]; simp [gi_si]
    have c50 : ∀ q, gi M' 50 q = if q = 64 * sk.length then p1 else gi M 50 q := fun q => by rw [← hM]; simp [gi_si]
    have c51 : ∀ q, gi M' 51 q = if q = 64 * sk.length then p2 else gi M 51 q := fun q => by rw [← hM]; simp [gi_si]
    have c52 : ∀ q, gi M' 52 q = if q = 64 * sk.length then p3 else gi M 52 q := fun q => by rw [← hM]; simp [gi_si]
    have c45 : ∀ q, q ≠ 4 → gi M' 45 q = gi M 45 q := fun q hq => by rw [← hM]; simp [gi_si, hq]
    have c454 : gi M' 45 4 = (sk.length : Int) + 1 := by rw [← hM]; simp [gi_si]
    have keep : ∀ {i P}, rowM M i P → i ≠ sk.length → P.length ≤ 63 → rowM M' i P := fun {i P} r hi hP => r.keep (by rw [c48, if_neg hi]) (fun k hk => by rw [c50, c51, c52, if_neg (by omega), if_neg (by omega), if_neg (by omega)]; exact ⟨rfl, rfl, rfl⟩)
    refine k M' (f.fm (by decide)) (h.upS f (by decide) (fun q hq _ => c45 q hq) ⟨?_, ?_, ?_⟩ ⟨keep h4 (by omega) h4'.len, h4'⟩ ⟨keep h5 (by omega) h5'.len, h5'⟩ (h6.same (fun q hq => c45 q (by omega)) (f.ge (by decide)) (f.ge (by decide))) h9.2)
    · rw [c454, List.length_append]; rfl
    · rw [List.length_append, List.length_singleton]; omega
    · intro i t hi
      by_cases z : i = sk.length
      · have : t = ([(p1, p2, p3)], 1) := by
          rw [z, List.getElem?_append_right (Nat.le_refl _), Nat.sub_self] at hi
          exact (Option.some.inj hi).symm
        rw [this, z]
        refine ⟨⟨by rw [c48, if_pos rfl]; rfl, fun q p hp => ?_⟩, by rw [c49, if_pos rfl], TPf.leaf hp.1 hp.2, ⟨Int.le_refl 1, (by decide : (1 : Int) ≤ 6)⟩, Nat.le_refl 2⟩
        have hq : q = 0 := by
          have := (List.getElem?_eq_some_iff.mp hp).1
          have : q < 1 := this
          omega
        rw [hq] at hp ⊢
        have : p = (p1, p2, p3) := (Option.some.inj hp).symm
        rw [this, c50, c51, c52, Nat.add_zero, if_pos rfl, if_pos rfl, if_pos rfl]
        exact ⟨rfl, fun _ => ⟨rfl, rfl⟩⟩
      · have hi' : i < sk.length := by
          have := (List.getElem?_eq_some_iff.mp hi).1
          rw [List.length_append, List.length_singleton] at this
          omega
        rw [List.getElem?_append_left hi'] at hi
        obtain ⟨r1, r2, r3⟩ := s3 i t hi
        exact ⟨keep r1 z r3.len, by rw [c49, if_neg z]; exact r2, r3⟩
  all_goals (intros; omega)
theorem m_X9_has {p1 p2 : Int} (h : MS M ty wr sk w u G j on rd) (k0 : ¬ (isTx p1 = true ∧ 1 ≤ p2 ∧ p2 ≤ 9 ∧ sk.length < 6) → K 0 M)
    (k1 : (isTx p1 = true ∧ 1 ≤ p2 ∧ p2 ≤ 9 ∧ sk.length < 6) → ∀ M', FM M M' → MS M' ty wr (sk ++ [([(0, p1, p2)], 1)]) w u G j on rd → K 1 M') : zCi B zy_X9_has 2 0 0 [zR 45, zI p1, zI p2] M K := by
  have e4 := h.2.2.1.1
  have e6 := h.2.2.1.2.1
  refine e_X9_has (fun n0 => ?_)
  apply b_X9_has_0
  case k1 => intro q; exact k0 (fun z => q z.1)
  case k2 => intro _ q; exact k0 (fun z => by omega)
  case k3 => intro _ _ q; exact k0 (fun z => by omega)
  case k4 =>
    intro q1 q2 q3 q4
    exact m_X9_push h (by omega) (by decide) (fun M1 f hn => b_X9_has_36 (k1 ⟨q1, q2, q3, by omega⟩ M1 f hn))
  case k5 => intro _ _ _ q; exact k0 (fun z => by omega)
theorem m_X9_pair {p1 p2 p3 : Int} (h : MS M ty wr sk w u G j on rd) (k0 : ¬ (isTx p1 = true ∧ isTx p2 = true ∧ sk.length < 6) → K 0 M)
    (k1 : (isTx p1 = true ∧ isTx p2 = true ∧ sk.length < 6) → ∀ M', FM M M' → MS M' ty wr (sk ++ [([(if p3 = 0 then 1 else 2, p1, p2)], 1)]) w u G j on rd → K 1 M') : zCi B zy_X9_pair 2 0 0 [zR 45, zI p1, zI p2, zI p3] M K := by
  have e4 := h.2.2.1.1
  have e6 := h.2.2.1.2.1
  refine e_X9_pair (fun n0 => ?_)
  apply b_X9_pair_0
  case k1 => intro q; exact k0 (fun z => q z.1)
  case k2 => intro _ q; exact k0 (fun z => q z.2.1)
  case k3 =>
    intro q1 q2 q4
    exact m_X9_push h (by omega) (by split <;> omega) (fun M1 f hn => b_X9_pair_40 (k1 ⟨q1, q2, by omega⟩ M1 f hn))
  case k4 => intro _ _ q; exact k0 (fun z => by omega)
theorem m_X9_size {p1 : Int} (h : MS M ty wr sk w u G j on rd) (k0 : ¬ (-1 ≤ p1 ∧ p1 ≤ 32 ∧ sk.length < 6) → K 0 M)
    (k1 : (-1 ≤ p1 ∧ p1 ≤ 32 ∧ sk.length < 6) → ∀ M', FM M M' → MS M' ty wr (sk ++ [([(if p1 = -1 then 4 else 3, p1, 0)], 1)]) w u G j on rd → K 1 M') : zCi B zy_X9_size 2 0 0 [zR 45, zI p1] M K := by
  have e4 := h.2.2.1.1
  have e6 := h.2.2.1.2.1
  refine e_X9_size (fun n0 => ?_)
  apply b_X9_size_0
  case k1 => intro q; exact k0 (fun z => by omega)
  case k2 => intro _ q; exact k0 (fun z => by omega)
  case k3 =>
    intro q1 q2 q4
    have e : (if 0 ≤ p1 then (3 : Int) else 4) = if p1 = -1 then 4 else 3 := by
      by_cases z : p1 = -1
      · rw [if_pos z, if_neg (by omega)]
      · rw [if_neg z, if_pos (by omega)]
    rw [e]
    exact m_X9_push h (by omega) (by split <;> omega) (fun M1 f hn => b_X9_size_37 (k1 ⟨q1, q2, by omega⟩ M1 f hn))
  case k4 => intro _ _ q; exact k0 (fun z => by omega)
end NT2
