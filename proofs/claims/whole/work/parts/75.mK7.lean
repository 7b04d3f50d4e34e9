/-! ===== a grammar is read ===== -/
section K7
variable {B : zB} {K : Int → zM → Prop} {Kv : zM → Prop} {M : zM} {ty wr : List Int} {sk : List (List st3 × Int)} {w u : List st3} {G : Option GC} {j : JS} {on rd : Int}
/-- what reading answers -/
def rdA : Option GC → Int
  | none => -1
  | some c => (c.2.2.1 : Int)
theorem gcR_GG {wr : List Int} (hl : wr.length ≤ 60) (hg : ∀ c ∈ wr, isGs c = true) : ∀ c, gcR wr = some c → GG c.1 c.2.1 c.2.2.1 c.2.2.2.1 c.2.2.2.2 := by
  intro c hc
  unfold gcR at hc
  by_cases z : okC (cutS wr)
  · rw [if_pos z] at hc
    cases hc
    exact gcC_GG hl hg z
  · rw [if_neg z] at hc
    cases hc
theorem m_X8_read (h : XS M ty wr sk w u G j on rd) (k : ∀ M', FX M M' → XS M' ty [] sk w u (gcR wr) j on rd → K (rdA (gcR wr)) M') : zCi B zy_X8_read 6 0 0 [zR 0] M K := by
  obtain ⟨h1, ⟨a1, a2, a3, a4⟩, h3, h4, h5, h6, h7, h8⟩ := id h
  have gg := gcR_GG a2 a4
  refine e_X8_read (fun n0 => ?_)
  apply b_X8_read_0
  rw [a1]
  refine m_X0_become a3 a2 a4 (fun M1 f1 hX => ?_)
  apply b_X8_read_15
  refine m_X3_forget ?_
  apply b_X8_read_22
  have f2 : zSm (19 :: AFr) M (si M1 19 3 0) := (f1.mono (by decide)).st (by decide)
  have f3 : zSm (0 :: 19 :: AFr) M (si (si M1 19 3 0) 0 2 0) := (f2.mono (by decide)).st (by decide)
  have hG2 : IBm (si M1 19 3 0) ∧ GX (si M1 19 3 0) (gcR wr) := by
    have hI : IBm (si M1 19 3 0) := h7.1.same (f2.ge (by decide)) (f2.ge (by decide))
    refine ⟨hI, ?_⟩
    cases hq : gcR wr with
    | none => rw [hq] at hX; show gi _ 8 0 = 0; rw [gi_si_ne (by decide)]; exact hX
    | some c =>
      rw [hq] at hX
      have f4 : zSm [19] M1 (si M1 19 3 0) := zSm.rf.st (by decide)
      exact ⟨by rw [gi_si_ne (by decide)]; exact hX.1, gg c hq, hX.2.fr f4 (by decide), hI, fun z => absurd (by rw [gi_si_eq, if_pos rfl]) z⟩
  generalize hM2 : si M1 19 3 0 = M2 at *
  have f4 : zSm [0] M2 (si M2 0 2 0) := zSm.rf.st (by decide)
  have hG3 : IBm (si M2 0 2 0) ∧ GX (si M2 0 2 0) (gcR wr) := ⟨hG2.1.same (f4.ge (by decide)) (f4.ge (by decide)), hG2.2.fr f4 (by decide)⟩
  have hd8 : ∀ a ∈ (0 :: 19 :: AFr), a < 88 := by decide
  obtain ⟨b1, b2, b3⟩ := h3
  obtain ⟨hR, hT, h9, h10, h11⟩ := h8
  have ans : (if gi M2 8 0 = 0 then -1 else gi M2 8 2) = rdA (gcR wr) := by
    have hg2 := hG2.2
    cases hq : gcR wr with
    | none => rw [hq] at hg2; exact if_pos hg2
    | some c => rw [hq] at hg2; exact (if_neg hg2.1).trans hg2.2.2.1.2.1
  rw [ans]
  have e0 : ∀ q, q ≠ 2 → gi (si M2 0 2 0) 0 q = gi M 0 q := fun q hq => by rw [gi_si_eq, if_neg hq, f2.ge (by decide)]
  refine k _ (f3.fx (by decide)) ⟨⟨h1.1.fr f3 (by decide) (by decide), h1.2⟩, ⟨by rw [gi_si_eq, if_pos rfl]; rfl, by simp, zA.nil, by simp⟩, ⟨by rw [e0 4 (by decide)]; exact b1, b2, fun i t hi => ?_⟩, ⟨h4.1.fr hR hT f3 hd8, h4.2.fr hR hT f3 hd8⟩, h5.fr f3 (by decide) (by decide) (by decide), by rw [e0 10 (by decide)]; exact h6, hG3, hR.same f3.2.1, hT.fr hR f3 hd8, by rw [f3.2.2]; exact h9, h10, h11⟩
  obtain ⟨q, h1, h2⟩ := b3 i t hi
  exact ⟨q, by rw [f3.2.1]; exact h1, h2.fr hR hT f3 hd8⟩
end K7
