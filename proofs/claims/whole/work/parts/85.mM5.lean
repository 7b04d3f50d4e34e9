/-! ===== the model's scratch; outcome ===== -/
section NO
variable {B : zB} {K : Int → zM → Prop} {Kv : zM → Prop} {M : zM} {ty wr : List Int} {sk : List (List st3 × Int)} {w u : List st3} {G : Option GC} {j : JS} {on rd : Int}
/-- slots of the model's object that hold nothing that lasts -/
def scrQ (q : Nat) : Prop := q = 25 ∨ q = 27 ∨ q = 49 ∨ q = 51 ∨ q = 52 ∨ q = 55 ∨ q = 63
theorem MS.scr {S : List Nat} {M' : zM} (h : MS M ty wr sk w u G j on rd) (hs : zSm S M M') (hd : ∀ a ∈ S, a = 45 ∨ a = 53 ∨ a = 59 ∨ a = 60 ∨ (62 ≤ a ∧ a ≤ 74) ∨ 77 ≤ a) (e : ∀ q, ¬ scrQ q → gi M' 45 q = gi M 45 q) : MS M' ty wr sk w u G j on rd := by
  have g : ∀ a, ¬ (a = 45 ∨ a = 53 ∨ a = 59 ∨ a = 60 ∨ (62 ≤ a ∧ a ≤ 74) ∨ 77 ≤ a) → gi M' a = gi M a := fun a h1 => hs.ge (fun q => h1 (hd a q))
  have e' : ∀ q, q = 1 ∨ q = 3 ∨ q = 4 ∨ q = 11 ∨ q = 12 ∨ q = 13 ∨ q = 14 ∨ q = 15 ∨ q = 39 ∨ q = 40 ∨ q = 43 ∨ q = 44 ∨ q = 45 ∨ q = 46 ∨ q = 47 → gi M' 45 q = gi M 45 q := fun q hq => e q (by unfold scrQ; omega)
  obtain ⟨h1, h2, h3, ⟨⟨h4, h4'⟩, h5, h5'⟩, h6, h7, h8, h9⟩ := h
  exact ⟨h1.same (e' 1 (by simp)) (g 46 (by omega)), h2.same (e' 3 (by simp)) (g 47 (by omega)), h3.same (e' 4 (by simp)) (g 48 (by omega)) (g 50 (by omega)) (g 51 (by omega)) (g 52 (by omega)) (g 49 (by omega)),
    ⟨⟨h4.same (g 48 (by omega)) (g 50 (by omega)) (g 51 (by omega)) (g 52 (by omega)), h4'⟩, h5.same (g 48 (by omega)) (g 50 (by omega)) (g 51 (by omega)) (g 52 (by omega)), h5'⟩,
    h6.same (fun q hq => e' q (by omega)) (g 75 (by omega)) (g 76 (by omega)), (e' 45 (by simp)).trans h7, h8.same (fun q hq => e' q (by omega)) (fun a ha => g a (by omega)), h9⟩
theorem m_X9_outcome (h : MS M ty wr sk w u G j on rd) (k : ∀ M', FM M M' → MS M' ty wr sk w u G j on rd → K (ocA w u ty) M') : zCi B zy_X9_outcome 4 0 0 [zR 45] M K := by
  refine e_X9_outcome (fun n0 => ?_)
  apply b_X9_outcome_0
  rw [h.1.1]
  refine m_X9_outcomeOf (a := 46) rfl (by decide) h.1.2.1 h.1.2.2.1 h.2.2.2.1.1 h.2.2.2.1.2 (fun M1 f1 => ?_)
  apply b_X9_outcome_12
  exact k M1 (f1.fm (by decide)) (h.scr f1 (by decide) (fun q _ => by rw [f1.ge (by decide)]))
end NO
