/-! ===== the class's face: what needs no new term ===== -/
section FC
variable {B : zB} {K : Int → zM → Prop} {Kv : zM → Prop} {M : zM} {ty wr : List Int} {sk : List (List st3 × Int)} {w u : List st3} {G : Option GC} {j : JS} {on rd : Int}
theorem XS.up {S : List Nat} {M' : zM} {ty' : List Int} {j' : JS} {rd' : Int} (h : XS M ty wr sk w u G j on rd) (hs : zSm S M M') (hd : ∀ a ∈ S, a ≠ 3 ∧ a < 45) (e2 : gi M' 0 2 = gi M 0 2) (e4 : gi M' 0 4 = gi M 0 4) (e10 : gi M' 0 10 = rd') (ht : tT M' 1 ty') (ho : okS ty') (hj : JX M' on j') (hen : j'.2.2.2.2 = 0 ∨ j'.2.2.2.2 = 1) (hG : IBm M' ∧ GX M' G) : XS M' ty' wr sk w u G j' on rd' := by
  obtain ⟨h1, ⟨a1, a2, a3, a4⟩, ⟨b1, b2, b3⟩, ⟨c1, c2⟩, h5, h6, h7, hR, hT, h9, h10, h11⟩ := h
  have hd8 : ∀ a ∈ S, a < 88 := fun a ha => by have := hd a ha; omega
  refine ⟨⟨ht, ho⟩, ⟨by rw [e2]; exact a1, a2, a3.same (hs.ge (fun q => (hd 3 q).1 rfl)), a4⟩, ⟨by rw [e4]; exact b1, b2, fun i t hi => ?_⟩, ⟨c1.fr hR hT hs hd8, c2.fr hR hT hs hd8⟩, hj, e10, hG, hR.same hs.2.1, hT.fr hR hs hd8, by rw [hs.2.2]; exact h9, h10, hen⟩
  obtain ⟨k, k1, k2⟩ := b3 i t hi
  exact ⟨k, by rw [hs.2.1]; exact k1, k2.fr hR hT hs hd8⟩
theorem XS.up1 {S : List Nat} {M' : zM} {ty' : List Int} {j' : JS} (h : XS M ty wr sk w u G j on rd) (hs : zSm S M M') (hd : ∀ a ∈ S, a ≠ 3 ∧ a ≠ 0 ∧ a < 45) (ht : tT M' 1 ty') (ho : okS ty') (hj : JX M' on j') (hen : j'.2.2.2.2 = 0 ∨ j'.2.2.2.2 = 1) (hG : IBm M' ∧ GX M' G) : XS M' ty' wr sk w u G j' on rd := by
  have e : gi M' 0 = gi M 0 := hs.ge (fun q => (hd 0 q).2.1 rfl)
  exact h.up hs (fun a ha => by have := hd a ha; omega) (by rw [e]) (by rw [e]) (by rw [e]; exact h.2.2.2.2.2.1) ht ho hj hen hG
theorem XS.gx {S : List Nat} {M' : zM} (h : XS M ty wr sk w u G j on rd) (hs : zSm S M M') (hd : ∀ a ∈ S, a < 8 ∨ 23 < a) : IBm M' ∧ GX M' G := by
  have e : ∀ a, 8 ≤ a → a ≤ 23 → gi M' a = gi M a := fun a h1 h2 => hs.ge (fun q => by have := hd a q; omega)
  exact ⟨h.2.2.2.2.2.2.1.1.same (e 21 (by decide) (by decide)) (e 22 (by decide) (by decide)), h.2.2.2.2.2.2.1.2.fr hs hd⟩
theorem isTx_ch {c : Int} (h : isTx c = true) : 0 ≤ c ∧ c < 65536 := by rw [isTx_iff] at h; omega
theorem m_X8_type {p1 : Int} (h : XS M ty wr sk w u G j on rd) (k0 : ¬ (isTx p1 = true ∧ ty.length < 32) → K 0 M) (k1 : isTx p1 = true → ty.length < 32 → ∀ M', FX M M' → XS M' (ty ++ [p1]) wr sk w u G j on rd → K 1 M') : zCi B zy_X8_type 2 0 0 [zR 0, zI p1] M K := by
  obtain ⟨h1, h2⟩ := h.1
  refine e_X8_type (fun n0 => ?_)
  apply b_X8_type_0
  case k1 => intro q; exact k0 (fun z => q z.1)
  case k2 =>
    intro q
    have hc := isTx_ch q
    refine m_X6_put zTx_1 h1 h2.1 hc (fun hl M' f g => b_X8_type_15 ?_) (fun hl => b_X8_type_15 (k0 (fun z => by omega)))
    refine k1 q hl M' (f.fx (by decide)) (h.up1 f (by decide) g ⟨by simp; omega, fun x hx => ?_⟩ (h.2.2.2.2.1.fr f (by decide) (by decide) (by decide)) h.2.2.2.2.2.2.2.2.2.2.2 (h.gx f (by decide)))
    rcases List.mem_append.mp hx with hx | hx
    · exact h2.2 x hx
    · rw [List.mem_singleton] at hx; rw [hx]; exact hc
theorem m_X8_clear (h : XS M ty wr sk w u G j on rd) (k : ∀ M', FX M M' → XS M' [] wr sk w u G j on rd → Kv M') : zCv B zy_X8_clear 1 0 0 [zR 0] M Kv := by
  have f : zSm [1] M (si M 1 1 0) := zSm.rf.st (by simp)
  exact e_X8_clear (fun _ => b_X8_clear_0 (k _ (f.fx (by decide)) (h.up1 f (by decide) ⟨by rw [gi_si_eq, if_pos rfl]; rfl, rfl⟩ ⟨by simp, fun x hx => by cases hx⟩ (h.2.2.2.2.1.fr f (by decide) (by decide) (by decide)) h.2.2.2.2.2.2.2.2.2.2.2 (h.gx f (by decide)))))
theorem isGs_ch {c : Int} (h : isGs c = true) : 0 ≤ c ∧ c < 65536 := by
  rw [isGs_iff, isTx_iff, isNm_iff, isTl_iff] at h
  omega
theorem m_X8_write {p1 : Int} (h : XS M ty wr sk w u G j on rd) (k0 : ¬ (isGs p1 = true ∧ wr.length < 60) → K 0 M) (k1 : isGs p1 = true → wr.length < 60 → ∀ M', FX M M' → XS M' ty (wr ++ [p1]) sk w u G j on rd → K 1 M') : zCi B zy_X8_write 3 0 0 [zR 0, zI p1] M K := by
  obtain ⟨h1, ⟨a1, a2, a3, a4⟩, h3, h4, h5, h6, h7, h8⟩ := id h
  refine e_X8_write (fun n0 => ?_)
  apply b_X8_write_0
  case k1 => intro q; exact k0 (fun z => q z.1)
  case k3 => intro q q2; exact k0 (fun z => by omega)
  case k2 =>
    intro q q2
    have f : zSm [0, 3] M (si (si M 3 (gi M 0 2).toNat p1) 0 2 ((gi M 0 2) + 1)) := (zSm.rf.st (by simp)).st (by simp)
    have f2 : zSm [0] M (si M 0 2 ((gi M 0 2) + 1)) := zSm.rf.st (by simp)
    have e : (gi M 0 2).toNat = wr.length := by omega
    refine k1 q (by omega) _ (f.fx (by decide)) ?_
    obtain ⟨b1, b2, b3⟩ := h3
    have hR := h8.1
    have hT := h8.2.1
    have hd8 : ∀ a ∈ [0, 3], a < 88 := by decide
    refine ⟨⟨h1.1.fr f (by decide) (by decide), h1.2⟩, ⟨?_, by simp; omega, ?_, fun x hx => ?_⟩, ⟨by simp [gi_si]; exact b1, b2, fun i t hi => ?_⟩, ⟨h4.1.fr hR hT f hd8, h4.2.fr hR hT f hd8⟩, h5.fr f (by decide) (by decide) (by decide), by simp [gi_si]; exact h6, h.gx f (by decide), hR.same f.2.1, hT.fr hR f hd8, h8.2.2.1, h8.2.2.2⟩
    · rw [gi_si_eq, if_pos rfl, a1]; simp
    · rw [e]; exact (a3.app1 (x := p1)).same (gi_si_ne (by decide))
    · rcases List.mem_append.mp hx with hx | hx
      · exact a4 x hx
      · rw [List.mem_singleton] at hx; rw [hx]; exact q
    · obtain ⟨k, q1, q2⟩ := b3 i t hi
      exact ⟨k, by rw [f.2.1]; exact q1, q2.fr hR hT f hd8⟩
  all_goals first | (intros; omega) | (intro q; have := isGs_ch q; intros; omega)
theorem m_X8_remember {p1 : Int} (hp : p1 = 0 ∨ p1 = 1) (h : XS M ty wr sk w u G j on rd) (k : ∀ M', FX M M' → XS M' ty wr sk w u G ([], j.2) p1 rd → Kv M') : zCv B zy_X8_remember 2 0 0 [zR 0, zI p1] M Kv := by
  refine e_X8_remember (fun n0 => ?_)
  have f : zSm [5] M (si (si (si M 5 2 p1) 5 6 0) 5 8 0) := ((zSm.rf.st (by simp)).st (by simp)).st (by simp)
  apply b_X8_remember_0
  case k1 =>
    refine m_X1_forget (b_X8_remember_15 (k _ (f.fx (by decide)) ?_))
    obtain ⟨h1, h2, h3, h4, ⟨g1, g2, g3, g4, g5, g6, g7⟩, h6, h7, hR, hT, h9, h10, h11⟩ := id h
    have hd8 : ∀ a ∈ [5], a < 88 := by decide
    obtain ⟨b1, b2, b3⟩ := h3
    refine ⟨⟨h1.1.fr f (by decide) (by decide), h1.2⟩, ⟨by rw [f.ge (by decide)]; exact h2.1, h2.2.1, h2.2.2.1.same (f.ge (by decide)), h2.2.2.2⟩, ⟨by rw [f.ge (by decide)]; exact b1, b2, fun i t hi => ?_⟩, ⟨h4.1.fr hR hT f hd8, h4.2.fr hR hT f hd8⟩, ⟨⟨fun i => by rw [f.ge (by decide)]; exact g1.1 i, by simp [gi_si], 0, by simp [gi_si], by decide, fun _ => rfl, by unfold slL; simp [gi_si]⟩, by simp [gi_si]; exact g2, by simp [gi_si]; exact g3, by simp [gi_si]; exact g4, by simp [gi_si]; exact g5, by simp [gi_si], g7⟩, by rw [f.ge (by decide)]; exact h6, h.gx f (by decide), hR.same f.2.1, hT.fr hR f hd8, by rw [f.2.2]; exact h9, hp, h11⟩
    obtain ⟨q, q1, q2⟩ := b3 i t hi
    exact ⟨q, by rw [f.2.1]; exact q1, q2.fr hR hT f hd8⟩
  all_goals exact hp
theorem m_X8_outcome (h : XS M ty wr sk w u G j on rd) (k : K (ocA w u ty) M) : zCi B zy_X8_outcome 11 0 0 [zR 0] M K := by
  refine e_X8_outcome (fun n0 => ?_)
  apply b_X8_outcome_0 (s := ty)
  case k1 => rw [h.oc]; exact k
  case c1 => exact h.2.2.2.2.2.2.2.1
  case c2 => exact h.1.1
  case c3 => exact h.1.2.1
theorem m_X8_length (h : XS M ty wr sk w u G j on rd) (k : K ty.length M) : zCi B zy_X8_length 1 0 0 [zR 0] M K := by
  refine e_X8_length (fun n0 => b_X8_length_0 ?_)
  rw [h.1.1.1]; exact k
def atS (ty : List Int) (i : Int) : Int := if 0 ≤ i ∧ i < ty.length then ty.getD i.toNat 0 else 0
theorem m_X8_at {p1 : Int} (h : XS M ty wr sk w u G j on rd) (k : K (atS ty p1) M) : zCi B zy_X8_at 1 0 0 [zR 0, zI p1] M K := by
  have e : (if p1 < 0 then 0 else (if p1 < (gi M 1 1) then gi M 2 p1.toNat else 0)) = atS ty p1 := by
    unfold atS
    rw [h.1.1.1]
    by_cases h0 : p1 < 0
    · rw [if_pos h0, if_neg (by omega)]
    · rw [if_neg h0]
      by_cases h1 : p1 < ty.length
      · rw [if_pos h1, if_pos (by omega)]
        exact h.1.1.2.get (by omega)
      · rw [if_neg h1, if_neg (by omega)]
  have hb : 0 ≤ atS ty p1 ∧ atS ty p1 < 65536 := by
    unfold atS
    split
    · next q => exact h.1.2.get (by omega)
    · omega
  have h32 := h.1.2.1
  have el := h.1.1.1
  refine e_X8_at (fun n0 => ?_)
  apply b_X8_at_0
  case k1 => rw [e]; exact k
  case c2 => rw [e]; exact hb
  all_goals (intros; omega)
def ctS (j : JS) (rd : Int) (i : Int) : Int := if i = 0 then j.2.2.1 else if i = 1 then j.2.2.2.1 else if i = 2 then rd else if i = 3 then j.2.2.2.2 else if i = 4 then (j.1.length : Int) else -1
theorem m_X8_count {p1 : Int} (h : XS M ty wr sk w u G j on rd) (k : K (ctS j rd p1) M) : zCi B zy_X8_count 1 0 0 [zR 0, zI p1] M K := by
  obtain ⟨h1, h2, h3, h4, ⟨g1, g2, g3, g4, g5, g6, g7⟩, h6, h7, hR, hT, h9, h10, h11⟩ := id h
  unfold ctS at k
  refine e_X8_count (fun n0 => ?_)
  apply b_X8_count_0
  case k1 => intro q; rw [if_neg (by omega), if_neg (by omega), if_neg (by omega), if_neg (by omega), if_neg (by omega)] at k; exact k
  case k2 => intro q; rw [if_pos q] at k; rw [g3]; exact k
  case k3 => intro q; rw [if_neg (by omega), if_pos q] at k; rw [g4]; exact k
  case k4 => intro q; rw [if_neg (by omega), if_neg (by omega), if_pos q] at k; rw [h6]; exact k
  case k5 =>
    intro q
    rw [if_neg (by omega), if_neg (by omega), if_neg (by omega), if_pos q] at k
    rw [g5]
    rcases h11 with e | e <;> rw [e] at k ⊢ <;> exact k
  case k6 => intro q; rw [if_neg (by omega), if_neg (by omega), if_neg (by omega), if_neg (by omega), if_pos q] at k; rw [← g1.len]; exact k
end FC
