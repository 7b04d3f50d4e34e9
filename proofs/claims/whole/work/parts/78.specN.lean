/-! ===== the model's cells hold the same state ===== -/
/-- a well-made row of steps -/
def TPf (P : List st3) : Prop := ∀ C : List st3 → Prop, (∀ p : st3, 0 ≤ p.1 → p.1 < 5 → C [p]) → (∀ P, C P → C (P ++ [(5, 0, 0)])) → (∀ P Q (k : Int), (k = 6 ∨ k = 7) → C P → C Q → C (P ++ Q ++ [(k, 0, 0)])) → C P
theorem TPf.leaf {p : st3} (h1 : 0 ≤ p.1) (h2 : p.1 < 5) : TPf [p] := fun _ a _ _ => a p h1 h2
theorem TPf.no {P : List st3} (h : TPf P) : TPf (P ++ [(5, 0, 0)]) := fun C a b c => b P (h C a b c)
theorem TPf.jn {P Q : List st3} {k : Int} (hk : k = 6 ∨ k = 7) (h : TPf P) (h' : TPf Q) : TPf (P ++ Q ++ [(k, 0, 0)]) := fun C a b c => c P Q k hk (h C a b c) (h' C a b c)
theorem TPf.pos {P : List st3} (h : TPf P) : 0 < P.length := h (fun P => 0 < P.length) (fun _ _ _ => by simp) (fun _ _ => by simp) (fun _ _ _ _ _ _ => by simp only [List.length_append, List.length_singleton]; omega)
def okT (t : List st3 × Int) : Prop := TPf t.1 ∧ (1 ≤ t.2 ∧ t.2 ≤ 6) ∧ t.1.length + 1 ≤ 2 ^ t.2.toNat
def okMk (P : List st3) : Prop := P = [] ∨ (TPf P ∧ P.length ≤ 63)
theorem okT.len {t : List st3 × Int} (h : okT t) : t.1.length ≤ 63 := by
  have h2 := h.2.2
  have : 2 ^ t.2.toNat ≤ 2 ^ 6 := Nat.pow_le_pow_right (by decide) (by have := h.2.1; omega)
  omega
/-- a row of steps in the model's tables -/
def rowM (M : zM) (i : Nat) (P : List st3) : Prop := gi M 48 i = (P.length : Int) ∧ ∀ (k : Nat) (p : st3), P[k]? = some p → gi M 50 (64 * i + k) = p.1 ∧ (p.1 < 5 → gi M 51 (64 * i + k) = p.2.1 ∧ gi M 52 (64 * i + k) = p.2.2)
def tyM (M : zM) (ty : List Int) : Prop := gi M 45 1 = (ty.length : Int) ∧ zA M 46 ty ∧ okS ty
def wrM (M : zM) (wr : List Int) : Prop := gi M 45 3 = (wr.length : Int) ∧ wr.length ≤ 60 ∧ zA M 47 wr ∧ ∀ x ∈ wr, isGs x = true
def skM (M : zM) (sk : List (List st3 × Int)) : Prop := gi M 45 4 = (sk.length : Int) ∧ sk.length ≤ 6 ∧ ∀ (i : Nat) (t : List st3 × Int), sk[i]? = some t → rowM M i t.1 ∧ gi M 49 i = t.2 ∧ okT t
def knM (M : zM) (R : List (List Int)) : Prop := gi M 45 40 = (R.length : Int) ∧ R.length ≤ 24 ∧ ∀ (i : Nat) (s : List Int), R[i]? = some s → gi M 75 i = (s.length : Int) ∧ s.length ≤ 32 ∧ ∀ k, k < s.length → gi M 76 (32 * i + k) = s.getD k 0
def GM (M : zM) (G : Option GC) : Prop := match G with
  | none => gi M 45 11 = 0
  | some c => gi M 45 11 = 1 ∧ GG c.1 c.2.1 c.2.2.1 c.2.2.2.1 c.2.2.2.2 ∧ RM M c.1 ∧ gi M 45 12 = (c.2.2.1 : Int) ∧ gi M 45 13 = (c.2.2.2.1 : Int) ∧ ∀ i, i < c.2.2.1 → gi M 61 i = (c.2.1 i : Int)
def jM (M : zM) (on : Int) (j : JS) : Prop := knM M j.1 ∧ gi M 45 46 = j.2.1 ∧ gi M 45 43 = j.2.2.1 ∧ gi M 45 44 = j.2.2.2.1 ∧ gi M 45 47 = j.2.2.2.2 ∧ gi M 45 39 = on ∧ (0 ≤ j.2.1 ∧ j.2.1 ≤ 400)
def MS (M : zM) (ty wr : List Int) (sk : List (List st3 × Int)) (w u : List st3) (G : Option GC) (j : JS) (on rd : Int) : Prop :=
  tyM M ty ∧ wrM M wr ∧ skM M sk ∧ ((rowM M 6 w ∧ okMk w) ∧ rowM M 7 u ∧ okMk u) ∧ jM M on j ∧ gi M 45 45 = rd ∧ GM M G ∧ (on = 0 ∨ on = 1) ∧ (j.2.2.2.2 = 0 ∨ j.2.2.2.2 = 1)
theorem rowM.same {M M' : zM} {i : Nat} {P : List st3} (h : rowM M i P) (e1 : gi M' 48 = gi M 48) (e2 : gi M' 50 = gi M 50) (e3 : gi M' 51 = gi M 51) (e4 : gi M' 52 = gi M 52) : rowM M' i P := by
  unfold rowM at *
  rw [e1, e2, e3, e4]
  exact h
theorem tyM.same {M M' : zM} {ty : List Int} (h : tyM M ty) (e1 : gi M' 45 1 = gi M 45 1) (e2 : gi M' 46 = gi M 46) : tyM M' ty := ⟨e1.trans h.1, h.2.1.same e2, h.2.2⟩
theorem wrM.same {M M' : zM} {wr : List Int} (h : wrM M wr) (e1 : gi M' 45 3 = gi M 45 3) (e2 : gi M' 47 = gi M 47) : wrM M' wr := ⟨e1.trans h.1, h.2.1, h.2.2.1.same e2, h.2.2.2⟩
theorem skM.same {M M' : zM} {sk : List (List st3 × Int)} (h : skM M sk) (e0 : gi M' 45 4 = gi M 45 4) (e1 : gi M' 48 = gi M 48) (e2 : gi M' 50 = gi M 50) (e3 : gi M' 51 = gi M 51) (e4 : gi M' 52 = gi M 52) (e5 : gi M' 49 = gi M 49) : skM M' sk :=
  ⟨e0.trans h.1, h.2.1, fun i t hi => ⟨(h.2.2 i t hi).1.same e1 e2 e3 e4, by rw [e5]; exact (h.2.2 i t hi).2.1, (h.2.2 i t hi).2.2⟩⟩
theorem knM.same {M M' : zM} {R : List (List Int)} (h : knM M R) (e0 : gi M' 45 40 = gi M 45 40) (e1 : gi M' 75 = gi M 75) (e2 : gi M' 76 = gi M 76) : knM M' R := by
  unfold knM at *
  rw [e0, e1, e2]
  exact h
theorem jM.same {M M' : zM} {on : Int} {j : JS} (h : jM M on j) (e0 : ∀ q, q = 40 ∨ q = 46 ∨ q = 43 ∨ q = 44 ∨ q = 47 ∨ q = 39 → gi M' 45 q = gi M 45 q) (e1 : gi M' 75 = gi M 75) (e2 : gi M' 76 = gi M 76) : jM M' on j :=
  ⟨h.1.same (e0 40 (by simp)) e1 e2, (e0 46 (by simp)).trans h.2.1, (e0 43 (by simp)).trans h.2.2.1, (e0 44 (by simp)).trans h.2.2.2.1, (e0 47 (by simp)).trans h.2.2.2.2.1, (e0 39 (by simp)).trans h.2.2.2.2.2.1, h.2.2.2.2.2.2⟩
theorem GM.same {M M' : zM} {G : Option GC} (h : GM M G) (e0 : ∀ q, q = 11 ∨ q = 12 ∨ q = 13 ∨ q = 14 ∨ q = 15 → gi M' 45 q = gi M 45 q) (e1 : ∀ a, a = 54 ∨ a = 55 ∨ a = 56 ∨ a = 57 ∨ a = 58 ∨ a = 61 → gi M' a = gi M a) : GM M' G := by
  unfold GM at *
  cases G with
  | none => exact (e0 11 (by simp)).trans h
  | some c =>
    dsimp only at *
    obtain ⟨h1, h2, h3, h4, h5, h6⟩ := h
    refine ⟨(e0 11 (by simp)).trans h1, h2, h3.same (fun a ha => e1 a (by omega)) (e0 14 (by simp)) (e0 15 (by simp)), (e0 12 (by simp)).trans h4, (e0 13 (by simp)).trans h5, ?_⟩
    rw [e1 61 (by simp)]
    exact h6
theorem MS.fx {M M' : zM} {ty wr : List Int} {sk : List (List st3 × Int)} {w u : List st3} {G : Option GC} {j : JS} {on rd : Int} (h : MS M ty wr sk w u G j on rd) (f : FX M M') : MS M' ty wr sk w u G j on rd := by
  have e := fun a (h1 : 45 ≤ a) (h2 : a < 88) => f a h1 h2
  obtain ⟨h1, h2, h3, ⟨⟨h4, h4'⟩, h5, h5'⟩, h6, h7, h8, h9⟩ := h
  have e45 := e 45 (by decide) (by decide)
  have e48 := e 48 (by decide) (by decide)
  have e50 := e 50 (by decide) (by decide)
  have e51 := e 51 (by decide) (by decide)
  have e52 := e 52 (by decide) (by decide)
  exact ⟨h1.same (by rw [e45]) (e 46 (by decide) (by decide)), h2.same (by rw [e45]) (e 47 (by decide) (by decide)), h3.same (by rw [e45]) e48 e50 e51 e52 (e 49 (by decide) (by decide)), ⟨⟨h4.same e48 e50 e51 e52, h4'⟩, h5.same e48 e50 e51 e52, h5'⟩, h6.same (fun q _ => by rw [e45]) (e 75 (by decide) (by decide)) (e 76 (by decide) (by decide)), by rw [e45]; exact h7, h8.same (fun q _ => by rw [e45]) (fun a ha => e a (by omega) (by omega)), h9⟩
/-- cells of the class's side stay -/
def FM (M M' : zM) : Prop := (∀ a, a < 45 ∨ 88 ≤ a → gi M' a = gi M a) ∧ gr M' = gr M ∧ gn M' = gn M
theorem FM.rf {M : zM} : FM M M := ⟨fun _ _ => rfl, rfl, rfl⟩
theorem FM.tr {M M' M2 : zM} (h : FM M M') (h' : FM M' M2) : FM M M2 := ⟨fun a q => (h'.1 a q).trans (h.1 a q), h'.2.1.trans h.2.1, h'.2.2.trans h.2.2⟩
theorem zSm.fm {S : List Nat} {M M' : zM} (h : zSm S M M') (hd : ∀ a ∈ S, 45 ≤ a ∧ a < 88) : FM M M' := ⟨fun a q => h.ge (fun z => by have := hd a z; omega), h.2.1, h.2.2⟩
abbrev MCl : List Nat := (List.range 43).map (· + 45)
theorem FM.sm {M M' : zM} (h : FM M M') : zSm MCl M M' := ⟨fun a ha => h.1 a (by
  by_cases z : a < 45 ∨ 88 ≤ a
  · exact z
  · exact absurd (List.mem_map.mpr ⟨a - 45, List.mem_range.mpr (by omega), by omega⟩) ha), h.2⟩
theorem XS.fm {M M' : zM} {ty wr : List Int} {sk : List (List st3 × Int)} {w u : List st3} {G : Option GC} {j : JS} {on rd : Int} (h : XS M ty wr sk w u G j on rd) (f : FM M M') : XS M' ty wr sk w u G j on rd := by
  have hs := f.sm
  have hd8 : ∀ a ∈ MCl, a < 88 := by decide
  have e0 : gi M' 0 = gi M 0 := f.1 0 (by decide)
  obtain ⟨⟨h1, h1'⟩, ⟨a1, a2, a3, a4⟩, ⟨b1, b2, b3⟩, ⟨c1, c2⟩, h5, h6, ⟨h7, h7'⟩, hR, hT, h9, h10, h11⟩ := h
  refine ⟨⟨h1.fr hs (by decide) (by decide), h1'⟩, ⟨by rw [e0]; exact a1, a2, a3.same (f.1 3 (by decide)), a4⟩, ⟨by rw [e0]; exact b1, b2, fun i t hi => ?_⟩, ⟨c1.fr hR hT hs hd8, c2.fr hR hT hs hd8⟩, h5.fr hs (by decide) (by decide) (by decide), by rw [e0]; exact h6, ⟨h7.same (f.1 21 (by decide)) (f.1 22 (by decide)), h7'.fr hs (by decide)⟩, hR.same hs.2.1, hT.fr hR hs hd8, by rw [hs.2.2]; exact h9, h10, h11⟩
  obtain ⟨k, k1, k2⟩ := b3 i t hi
  exact ⟨k, by rw [hs.2.1]; exact k1, k2.fr hR hT hs hd8⟩
theorem MS.zero : MS mZ0 [] [] [] [] [] none ([], 0, 0, 0, 0) 1 0 := by
  have z : ∀ {a b}, a ≠ 5 → a ≠ 45 → gi mZ0 a b = 0 := fun h1 h2 => mZ0_at (fun q => by omega)
  have z45 : ∀ {b}, b ≠ 39 → gi mZ0 45 b = 0 := fun h1 => mZ0_at (fun q => by omega)
  have r : ∀ i, rowM mZ0 i [] := fun i => ⟨z (by decide) (by decide), fun k p hp => by cases hp⟩
  exact ⟨⟨z45 (by decide), zA.nil, by decide, fun x hx => by cases hx⟩, ⟨z45 (by decide), by decide, zA.nil, fun x hx => by cases hx⟩, ⟨z45 (by decide), by decide, fun i t hi => by cases hi⟩, ⟨⟨r 6, Or.inl rfl⟩, r 7, Or.inl rfl⟩,
    ⟨⟨z45 (by decide), by decide, fun i s hi => by cases hi⟩, z45 (by decide), z45 (by decide), z45 (by decide), z45 (by decide), by show fA2 45 39 = 1; rw [fA2_at]; rfl, by decide⟩, z45 (by decide), z45 (by decide), Or.inr rfl, Or.inl rfl⟩
