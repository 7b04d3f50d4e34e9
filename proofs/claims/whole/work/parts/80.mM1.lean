/-! ===== the model's face: typing, writing, terms ===== -/
section NF
variable {B : zB} {K : Int → zM → Prop} {Kv : zM → Prop} {M : zM} {ty wr : List Int} {sk : List (List st3 × Int)} {w u : List st3} {G : Option GC} {j : JS} {on rd : Int}
theorem MS.upT {M' : zM} {S : List Nat} {ty' : List Int} (h : MS M ty wr sk w u G j on rd) (hs : zSm S M M') (hd : ∀ a ∈ S, a = 45 ∨ a = 46) (e : ∀ q, q ≠ 1 → gi M' 45 q = gi M 45 q) (ht : tyM M' ty') : MS M' ty' wr sk w u G j on rd := by
  have g : ∀ a, a ≠ 45 → a ≠ 46 → gi M' a = gi M a := fun a h1 h2 => hs.ge (fun q => by have := hd a q; omega)
  obtain ⟨h1, h2, h3, ⟨⟨h4, h4'⟩, h5, h5'⟩, h6, h7, h8, h9⟩ := h
  exact ⟨ht, h2.same (e 3 (by decide)) (g 47 (by decide) (by decide)), h3.same (e 4 (by decide)) (g 48 (by decide) (by decide)) (g 50 (by decide) (by decide)) (g 51 (by decide) (by decide)) (g 52 (by decide) (by decide)) (g 49 (by decide) (by decide)),
    ⟨⟨h4.same (g 48 (by decide) (by decide)) (g 50 (by decide) (by decide)) (g 51 (by decide) (by decide)) (g 52 (by decide) (by decide)), h4'⟩, h5.same (g 48 (by decide) (by decide)) (g 50 (by decide) (by decide)) (g 51 (by decide) (by decide)) (g 52 (by decide) (by decide)), h5'⟩,
    h6.same (fun q hq => e q (by omega)) (g 75 (by decide) (by decide)) (g 76 (by decide) (by decide)), (e 45 (by decide)).trans h7, h8.same (fun q hq => e q (by omega)) (fun a ha => g a (by omega) (by omega)), h9⟩
theorem m_X9_type {p1 : Int} (h : MS M ty wr sk w u G j on rd) (k0 : ¬ (isTx p1 = true ∧ ty.length < 32) → K 0 M) (k1 : isTx p1 = true → ty.length < 32 → ∀ M', FM M M' → MS M' (ty ++ [p1]) wr sk w u G j on rd → K 1 M') : zCi B zy_X9_type 2 0 0 [zR 45, zI p1] M K := by
  obtain ⟨t1, t2, t3⟩ := id h.1
  have hl := t3.1
  refine e_X9_type (fun n0 => ?_)
  apply b_X9_type_0
  case k1 => intro q; exact k0 (fun z => q z.1)
  case k3 => intro _ q; exact k0 (fun z => by omega)
  case k2 =>
    intro q q2
    have f : zSm [45, 46] M (si (si M 46 (gi M 45 1).toNat p1) 45 1 ((gi M 45 1) + 1)) := (zSm.rf.st (by decide)).st (by decide)
    have hc := isTx_ch q
    refine k1 q (by omega) _ (f.fm (by decide)) (h.upT f (by decide) (fun q hq => by simp [gi_si, hq]) ⟨?_, ?_, ?_, ?_⟩)
    · rw [gi_si_eq, if_pos rfl, t1, List.length_append]; rfl
    · rw [t1, show ((ty.length : Int)).toNat = ty.length from rfl]
      exact (zA.app1 t2).same (gi_si_ne (by decide))
    · rw [List.length_append, List.length_singleton]; omega
    · intro x hx
      rcases List.mem_append.mp hx with z | z
      · exact t3.2 x z
      · rw [List.mem_singleton] at z; rw [z]; exact hc
  all_goals (intros; omega)
theorem m_X9_clear (h : MS M ty wr sk w u G j on rd) (k : ∀ M', FM M M' → MS M' [] wr sk w u G j on rd → Kv M') : zCv B zy_X9_clear 1 0 0 [zR 45] M Kv := by
  have f : zSm [45] M (si M 45 1 0) := zSm.rf.st (by decide)
  exact e_X9_clear (fun _ => b_X9_clear_0 (k _ (f.fm (by decide)) (h.upT f (by decide) (fun q hq => by simp [gi_si, hq]) ⟨by rw [gi_si_eq, if_pos rfl]; rfl, zA.nil, by decide, fun x hx => by cases hx⟩)))
theorem MS.upW {M' : zM} {S : List Nat} {wr' : List Int} (h : MS M ty wr sk w u G j on rd) (hs : zSm S M M') (hd : ∀ a ∈ S, a = 45 ∨ a = 47) (e : ∀ q, q ≠ 3 → gi M' 45 q = gi M 45 q) (ht : wrM M' wr') : MS M' ty wr' sk w u G j on rd := by
  have g : ∀ a, a ≠ 45 → a ≠ 47 → gi M' a = gi M a := fun a h1 h2 => hs.ge (fun q => by have := hd a q; omega)
  obtain ⟨h1, h2, h3, ⟨⟨h4, h4'⟩, h5, h5'⟩, h6, h7, h8, h9⟩ := h
  exact ⟨h1.same (e 1 (by decide)) (g 46 (by decide) (by decide)), ht, h3.same (e 4 (by decide)) (g 48 (by decide) (by decide)) (g 50 (by decide) (by decide)) (g 51 (by decide) (by decide)) (g 52 (by decide) (by decide)) (g 49 (by decide) (by decide)),
    ⟨⟨h4.same (g 48 (by decide) (by decide)) (g 50 (by decide) (by decide)) (g 51 (by decide) (by decide)) (g 52 (by decide) (by decide)), h4'⟩, h5.same (g 48 (by decide) (by decide)) (g 50 (by decide) (by decide)) (g 51 (by decide) (by decide)) (g 52 (by decide) (by decide)), h5'⟩,
    h6.same (fun q hq => e q (by omega)) (g 75 (by decide) (by decide)) (g 76 (by decide) (by decide)), (e 45 (by decide)).trans h7, h8.same (fun q hq => e q (by omega)) (fun a ha => g a (by omega) (by omega)), h9⟩
theorem m_X9_write {p1 : Int} (h : MS M ty wr sk w u G j on rd) (k0 : ¬ (isGs p1 = true ∧ wr.length < 60) → K 0 M) (k1 : isGs p1 = true → wr.length < 60 → ∀ M', FM M M' → MS M' ty (wr ++ [p1]) sk w u G j on rd → K 1 M') : zCi B zy_X9_write 2 0 0 [zR 45, zI p1] M K := by
  obtain ⟨t1, t2, t3, t4⟩ := id h.2.1
  have hg : (if isTx p1 = true ∨ (isNm p1 = true ∨ (p1 = 61 ∨ (p1 = 47 ∨ (p1 = 59 ∨ (p1 = 63 ∨ (p1 = 42 ∨ p1 = 43)))))) then (1 : Int) else 0) = if isGs p1 = true then 1 else 0 := by
    apply zifc
    rw [isGs_iff, isTl_iff]
    constructor
    · rintro (q | q | q | q | q | q | q | q) <;> simp [q]
    · rintro (q | q | (q | q | q) | q | q | q) <;> simp [q]
  refine e_X9_write (fun n0 => ?_)
  apply b_X9_write_0
  case k1 =>
    intro y hy hy0
    rw [hg] at hy
    refine k0 (fun z => ?_)
    rw [if_pos z.1] at hy
    omega
  case k3 =>
    intro y hy hy0 q
    exact k0 (fun z => by omega)
  case k2 =>
    intro y hy hy0 q
    rw [hg] at hy
    have hq : isGs p1 = true := by
      by_cases z : isGs p1 = true
      · exact z
      · rw [if_neg z] at hy; omega
    have f : zSm [45, 47] M (si (si M 47 (gi M 45 3).toNat p1) 45 3 ((gi M 45 3) + 1)) := (zSm.rf.st (by decide)).st (by decide)
    refine k1 hq (by omega) _ (f.fm (by decide)) (h.upW f (by decide) (fun q hq => by simp [gi_si, hq]) ⟨?_, ?_, ?_, ?_⟩)
    · rw [gi_si_eq, if_pos rfl, t1, List.length_append]; rfl
    · rw [List.length_append, List.length_singleton]; omega
    · rw [t1, show ((wr.length : Int)).toNat = wr.length from rfl]
      exact (zA.app1 t3).same (gi_si_ne (by decide))
    · intro x hx
      rcases List.mem_append.mp hx with z | z
      · exact t4 x z
      · rw [List.mem_singleton] at z; rw [z]; exact hq
  all_goals (intros; omega)
theorem m_X9_length (h : MS M ty wr sk w u G j on rd) (k : K ty.length M) : zCi B zy_X9_length 1 0 0 [zR 45] M K :=
  e_X9_length (fun _ => b_X9_length_0 (by rw [h.1.1]; exact k))
theorem m_X9_at {p1 : Int} (h : MS M ty wr sk w u G j on rd) (k : K (atS ty p1) M) : zCi B zy_X9_at 1 0 0 [zR 45, zI p1] M K := by
  obtain ⟨t1, t2, t3⟩ := id h.1
  have hl := t3.1
  have e : (if p1 < 0 then 0 else (if (gi M 45 1) ≤ p1 then 0 else (gi M 46 p1.toNat) % 65536)) = atS ty p1 := by
    unfold atS
    rw [t1]
    by_cases z : 0 ≤ p1 ∧ p1 < ty.length
    · rw [if_pos z, if_neg (by omega), if_neg (by omega), t2.get (by omega)]
      have := t3.2 _ (getD_mem (s := ty) (i := p1.toNat) (by omega))
      omega
    · rw [if_neg z]
      by_cases z2 : p1 < 0
      · rw [if_pos z2]
      · rw [if_neg z2, if_pos (by omega)]
  have hb : 0 ≤ atS ty p1 ∧ atS ty p1 < 65536 := by
    unfold atS
    split
    · exact t3.2 _ (getD_mem (by omega))
    · omega
  refine e_X9_at (fun n0 => ?_)
  apply b_X9_at_0
  case k1 => rw [e]; exact k
  case c2 => rw [e]; exact hb
  all_goals (intros; omega)
theorem m_X9_count {p1 : Int} (h : MS M ty wr sk w u G j on rd) (k : K (ctS j rd p1) M) : zCi B zy_X9_count 1 0 0 [zR 45, zI p1] M K := by
  obtain ⟨h1, h2, h3, h4, ⟨g1, g2, g3, g4, g5, g6, g7⟩, h6, h7, h8, h9⟩ := id h
  unfold ctS at k
  refine e_X9_count (fun n0 => ?_)
  apply b_X9_count_0
  case k1 => intro q; rw [if_neg (by omega), if_neg (by omega), if_neg (by omega), if_neg (by omega), if_neg (by omega)] at k; exact k
  case k2 => intro q; rw [if_pos q] at k; rw [g3]; exact k
  case k3 => intro q; rw [if_neg (by omega), if_pos q] at k; rw [g4]; exact k
  case k4 => intro q; rw [if_neg (by omega), if_neg (by omega), if_pos q] at k; rw [h6]; exact k
  case k5 =>
    intro q
    rw [if_neg (by omega), if_neg (by omega), if_neg (by omega), if_pos q] at k
    rw [g5]
    have : (if ¬ j.2.2.2.2 = 0 then (1 : Int) else 0) = j.2.2.2.2 := by
      rcases h9 with z | z <;> rw [z] <;> rfl
    rw [this]
    exact k
  case k6 => intro q; rw [if_neg (by omega), if_neg (by omega), if_neg (by omega), if_neg (by omega), if_pos q] at k; rw [g1.1]; exact k
theorem m_X9_remember {p1 : Int} (hp : p1 = 0 ∨ p1 = 1) (h : MS M ty wr sk w u G j on rd) (k : ∀ M', FM M M' → MS M' ty wr sk w u G ([], j.2) p1 rd → Kv M') : zCv B zy_X9_remember 1 0 0 [zR 45, zI p1] M Kv := by
  have f : zSm [45] M (si (si M 45 39 p1) 45 40 0) := (zSm.rf.st (by decide)).st (by decide)
  refine e_X9_remember (fun n0 => ?_)
  apply b_X9_remember_0 hp
  have e : ∀ q, q ≠ 39 → q ≠ 40 → gi (si (si M 45 39 p1) 45 40 0) 45 q = gi M 45 q := fun q h1 h2 => by simp [gi_si, h1, h2]
  have g : ∀ a, a ≠ 45 → gi (si (si M 45 39 p1) 45 40 0) a = gi M a := fun a h1 => f.ge (by simp [h1])
  obtain ⟨h1, h2, h3, ⟨⟨h4, h4'⟩, h5, h5'⟩, ⟨g1, g2, g3, g4, g5, g6, g7⟩, h7, h8, h9⟩ := h
  exact k _ (f.fm (by decide)) ⟨h1.same (e 1 (by decide) (by decide)) (g 46 (by decide)), h2.same (e 3 (by decide) (by decide)) (g 47 (by decide)), h3.same (e 4 (by decide) (by decide)) (g 48 (by decide)) (g 50 (by decide)) (g 51 (by decide)) (g 52 (by decide)) (g 49 (by decide)),
    ⟨⟨h4.same (g 48 (by decide)) (g 50 (by decide)) (g 51 (by decide)) (g 52 (by decide)), h4'⟩, h5.same (g 48 (by decide)) (g 50 (by decide)) (g 51 (by decide)) (g 52 (by decide)), h5'⟩,
    ⟨⟨by simp [gi_si], Nat.zero_le _, fun i s hi => by cases hi⟩, (e 46 (by decide) (by decide)).trans g2, (e 43 (by decide) (by decide)).trans g3, (e 44 (by decide) (by decide)).trans g4, (e 47 (by decide) (by decide)).trans g5, by simp [gi_si], g7⟩, (e 45 (by decide) (by decide)).trans h7, h8.same (fun q hq => e q (by omega) (by omega)) (fun a ha => g a (by omega)), hp, h9.2⟩
end NF
