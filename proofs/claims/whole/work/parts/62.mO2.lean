/-! ===== the class's face: terms ===== -/
/-- one new term -/
def NT (M M1 : zM) (ki c d n lv : Int) (x y : Option Nat) : Prop := gn M1 = gn M + 1 ∧ (∀ a, a ≠ gn M → gi M1 a = gi M a) ∧ (∀ a, a ≠ gn M → gr M1 a = gr M a) ∧ gi M1 (gn M) 0 = ki ∧ gi M1 (gn M) 1 = c ∧ gi M1 (gn M) 2 = d ∧ gi M1 (gn M) 3 = n ∧ gi M1 (gn M) 6 = lv ∧ gr M1 (gn M) 4 = x ∧ gr M1 (gn M) 5 = y ∧ ∀ j, j ≠ 4 → j ≠ 5 → gr M1 (gn M) j = none
theorem NT.mk {M : zM} {ki c d n lv : Int} {x y : Option Nat} : NT M (si (sr (sr (si (si (si (si (nw M) (gn M) 0 ki) (gn M) 1 c) (gn M) 2 d) (gn M) 3 n) (gn M) 4 x) (gn M) 5 y) (gn M) 6 lv) ki c d n lv x y := by
  refine ⟨by simp only [gn_si, gn_sr, gn_nw], fun a ha => ?_, fun a ha => ?_, ?_, ?_, ?_, ?_, ?_, ?_, ?_, fun j h4 h5 => ?_⟩
  · rw [gi_si_ne ha, gi_sr, gi_sr, gi_si_ne ha, gi_si_ne ha, gi_si_ne ha, gi_si_ne ha, gi_nw_ne ha]
  · rw [gr_si, gr_sr_ne ha, gr_sr_ne ha, gr_si, gr_si, gr_si, gr_si, gr_nw_ne ha]
  · simp [gi_si, gi_sr]
  · simp [gi_si, gi_sr]
  · simp [gi_si, gi_sr]
  · simp [gi_si, gi_sr]
  · simp [gi_si, gi_sr]
  · simp [gr_si, gr_sr]
  · simp [gr_si, gr_sr]
  · rw [gr_si, gr_sr, if_neg (fun q => h5 q.2), gr_sr, if_neg (fun q => h4 q.2), gr_si, gr_si, gr_si, gr_si, gr_nw_eq]
theorem m_X5_init {B : zB} {K : zM → Prop} {M : zM} {ki c d n : Int} (hg : 88 ≤ gn M) (hc : 0 ≤ c ∧ c < 65536) (hd : 0 ≤ d ∧ d < 65536) (k : ∀ M1, NT M M1 ki c d n 1 none none → K M1) : zCv B zy_X5_init 1 0 0 [zR (gn M), zI ki, zI c, zI d, zI n] (nw M) K := by
  refine e_X5_init (fun n0 => ?_)
  apply b_X5_init_0 (zkd_term hg)
  case k1 => exact k _ NT.mk
  case c1 => exact hc
  case c2 => exact hd
theorem m_X5_init_ {B : zB} {K : zM → Prop} {M : zM} {ki lv : Int} {x y : Option Nat} (hg : 88 ≤ gn M) (k : ∀ M1, NT M M1 ki 32 32 0 lv x y → K M1) : zCv B zy_X5_init_ 1 0 0 [zR (gn M), zI ki, zO x, zO y, zI lv] (nw M) K :=
  e_X5_init_ (fun _ => b_X5_init__0 (zkd_term hg) (k _ NT.mk))
section NTs
variable {M M1 : zM} {ki c d n lv : Int} {x y : Option Nat}
theorem NT.okr (h : NT M M1 ki c d n lv x y) (hR : okR M) (hx : ∀ r, x = some r → 88 ≤ r) (hy : ∀ r, y = some r → 88 ≤ r) : okR M1 := by
  obtain ⟨h1, h2, h3, h4, h5, h6, h7, h8, h9, h10, h11⟩ := h
  intro k j r hr
  by_cases e : k = gn M
  · rw [e] at hr
    by_cases e4 : j = 4
    · rw [e4, h9] at hr; exact hx r hr
    · by_cases e5 : j = 5
      · rw [e5, h10] at hr; exact hy r hr
      · rw [h11 j e4 e5] at hr; cases hr
  · rw [h3 k e] at hr
    exact hR k j r hr
theorem NT.tmx (h : NT M M1 ki c d n lv x y) (hR : okR M) (hT : okTm M) {k : Nat} {t : List st3 × Int} (ht : TMX M k t) : TMX M1 k t := by
  obtain ⟨h1, h2, h3, -⟩ := h
  obtain ⟨a, b, e, f⟩ := ht
  refine ⟨a, by omega, ?_, by rw [h2 k (by omega)]; exact f⟩
  rw [pst_cg hR (fun k hk hk2 => h2 k (by omega)) (fun k hk hk2 => h3 k (by omega)) hT 6 k a b]
  exact e
theorem NT.oktm (h : NT M M1 ki c d n lv x y) (hR : okR M) (hT : okTm M) (h0 : 0 ≤ ki ∧ ki ≤ 7) (hl : 1 ≤ lv ∧ lv ≤ 6) (hx : 5 ≤ ki → ∃ a, x = some a ∧ a < gn M ∧ gi M a 6 < lv) (hy : 6 ≤ ki → ∃ a, y = some a ∧ a < gn M ∧ gi M a 6 < lv) : okTm M1 := by
  obtain ⟨h1, h2, h3, h4, h5, h6, h7, h8, h9, h10, h11⟩ := h
  intro k k1 k2
  by_cases e : k = gn M
  · rw [e, h4, h8, h9, h10, h1]
    refine ⟨h0, hl, fun q => ?_, fun q => ?_⟩
    · obtain ⟨a, a1, a2, a3⟩ := hx q
      exact ⟨a, a1, by omega, by rw [h2 a (by omega)]; exact a3⟩
    · obtain ⟨a, a1, a2, a3⟩ := hy q
      exact ⟨a, a1, by omega, by rw [h2 a (by omega)]; exact a3⟩
  · obtain ⟨a1, a2, a3, a4⟩ := hT k k1 (by omega)
    rw [h2 k e, h3 k e, h1]
    refine ⟨a1, a2, fun q => ?_, fun q => ?_⟩
    · obtain ⟨a, b1, b2, b3⟩ := a3 q
      exact ⟨a, b1, by omega, by rw [h2 a (by omega)]; exact b3⟩
    · obtain ⟨a, b1, b2, b3⟩ := a4 q
      exact ⟨a, b1, by omega, by rw [h2 a (by omega)]; exact b3⟩
end NTs
/-- the steps of a new term -/
def ntP (M : zM) (ki c d n : Int) (x y : Option Nat) : List st3 := if ki = 0 then [(0, c, n)] else if ki < 3 then [(ki, c, d)] else if ki < 5 then [(ki, n, 0)]
    else if ki = 5 then (match x with
      | none => []
      | some a => pst M 5 a ++ [(5, 0, 0)])
    else (match x, y with
      | some a, some b => pst M 5 a ++ pst M 5 b ++ [(ki, 0, 0)]
      | _, _ => [])
theorem NT.new {M M1 : zM} {ki c d n lv : Int} {x y : Option Nat} (h : NT M M1 ki c d n lv x y) (hg : 88 ≤ gn M) (hR : okR M) (hT : okTm M) (hx : ∀ r, x = some r → 88 ≤ r ∧ r < gn M) (hy : ∀ r, y = some r → 88 ≤ r ∧ r < gn M) : TMX M1 (gn M) (ntP M ki c d n x y, lv) := by
  obtain ⟨h1, h2, h3, h4, h5, h6, h7, h8, h9, h10, h11⟩ := h
  have hp : ∀ a, 88 ≤ a → a < gn M → pst M1 5 a = pst M 5 a := fun a a1 a2 => pst_cg hR (fun k hk hk2 => h2 k (by omega)) (fun k hk hk2 => h3 k (by omega)) hT 5 a a1 a2
  refine ⟨hg, by omega, ?_, h8⟩
  show pst M1 (5 + 1) (gn M) = ntP M ki c d n x y
  unfold pst ntP
  rw [h4, h5, h6, h7, h9, h10]
  cases x with
  | none => rfl
  | some a =>
    have ea := hp a (hx a rfl).1 (hx a rfl).2
    cases y with
    | none => dsimp only; simp only [ea]
    | some b =>
      have eb := hp b (hy b rfl).1 (hy b rfl).2
      dsimp only
      simp only [ea, eb]
/-- less fuel is enough for a term that isn't so deep -/
theorem pst_fuel {M : zM} (hR : okR M) (hT : okTm M) : ∀ (d k : Nat), 88 ≤ k → k < gn M → gi M k 6 ≤ d → ∀ e : Nat, pst M (d + e) k = pst M d k := by
  intro d
  induction d with
  | zero => intro k h1 h2 h3; have := (hT k h1 h2).2.1; omega
  | succ d ih =>
    intro k h1 h2 h3 e
    obtain ⟨⟨a0, a7⟩, hl, h5, h6⟩ := hT k h1 h2
    rw [show d + 1 + e = (d + e) + 1 from by omega]
    unfold pst
    by_cases c5 : gi M k 0 < 5
    · by_cases c0 : gi M k 0 = 0
      · rw [if_pos c0, if_pos c0]
      · rw [if_neg c0, if_neg c0]
        by_cases c3 : gi M k 0 < 3
        · rw [if_pos c3, if_pos c3]
        · rw [if_neg c3, if_neg c3, if_pos c5, if_pos c5]
    · obtain ⟨x, x1, x2, x3⟩ := h5 (by omega)
      have hx := ih x (hR k 4 x x1) x2 (by omega) e
      rw [x1]
      dsimp only
      by_cases e5 : gi M k 0 = 5
      · simp only [hx]
        simp [e5]
      · obtain ⟨y, y1, y2, y3⟩ := h6 (by omega)
        have hy := ih y (hR k 5 y y1) y2 (by omega) e
        rw [y1]
        dsimp only
        simp only [hx, hy]
section FT
variable {B : zB} {K : Int → zM → Prop} {M : zM} {ty wr : List Int} {sk : List (List st3 × Int)} {w u : List st3} {G : Option GC} {j : JS} {on rd : Int}
/-- the class's cells when terms, stack and marks change, the rest stays -/
theorem XS.re {M' : zM} {sk' : List (List st3 × Int)} {w' u' : List st3} {j' : JS} (h : XS M ty wr sk w u G j on rd) (e : ∀ a, a < 45 → a ≠ 0 → a ≠ 5 → gi M' a = gi M a) (e02 : gi M' 0 2 = gi M 0 2) (e010 : gi M' 0 10 = gi M 0 10) (hsk : gi M' 0 4 = (sk'.length : Int) ∧ sk'.length ≤ 6 ∧ ∀ (i : Nat) (t : List st3 × Int), sk'[i]? = some t → ∃ k, gr M' 4 i = some k ∧ TMX M' k t) (hw : mkX M' 0 w') (hu : mkX M' 1 u') (hj : JX M' on j') (hR : okR M') (hT : okTm M') (hgn : 88 ≤ gn M') (hen : j'.2.2.2.2 = 0 ∨ j'.2.2.2.2 = 1) : XS M' ty wr sk' w' u' G j' on rd := by
  obtain ⟨h1, ⟨a1, a2, a3, a4⟩, h3, h4, h5, h6, ⟨h7, h7b⟩, h8, h9, h10, h11, h12⟩ := h
  refine ⟨⟨h1.1.same (e 1 (by decide) (by decide) (by decide)) (e 2 (by decide) (by decide) (by decide)), h1.2⟩, ⟨by rw [e02]; exact a1, a2, a3.same (e 3 (by decide) (by decide) (by decide)), a4⟩, hsk, ⟨hw, hu⟩, hj, by rw [e010]; exact h6, ⟨h7.same (e 21 (by decide) (by decide) (by decide)) (e 22 (by decide) (by decide) (by decide)), ?_⟩, hR, hT, hgn, h11, hen⟩
  unfold GX at *
  cases G with
  | none => dsimp only at *; rw [e 8 (by decide) (by decide) (by decide)]; exact h7b
  | some c =>
    dsimp only at *
    obtain ⟨b1, b2, b3, b4⟩ := h7b
    refine ⟨by rw [e 8 (by decide) (by decide) (by decide)]; exact b1, b2, ⟨b3.1.same (fun a ha => e a (by omega) (by omega) (by omega)), ?_⟩, b4.same (fun a q1 q2 => e a (by omega) (by omega) (by omega))⟩
    unfold OX
    rw [e 8 (by decide) (by decide) (by decide), e 9 (by decide) (by decide) (by decide)]
    exact b3.2
theorem mkX.nt {M1 : zM} {ki c d n lv : Int} {x y : Option Nat} {q : Nat} {P : List st3} (hn : NT M M1 ki c d n lv x y) (hg : 88 ≤ gn M) (hR : okR M) (hT : okTm M) (h : mkX M q P) : mkX M1 q P := by
  have e : gr M1 5 = gr M 5 := hn.2.2.1 5 (by omega)
  unfold mkX at *
  rw [e]
  cases hq : gr M 5 q with
  | none => rw [hq] at h; exact h
  | some k =>
    rw [hq] at h
    obtain ⟨d, h⟩ := h
    exact ⟨d, hn.tmx hR hT h⟩
/-- a stack's cell written -/
theorem srT {M1 : zM} {i : Nat} {v : Option Nat} {k : Nat} {t : List st3 × Int} (hR : okR M1) (hT : okTm M1) (h : TMX M1 k t) : TMX (sr M1 4 i v) k t := by
  obtain ⟨a, b, e, f⟩ := h
  refine ⟨a, b, ?_, f⟩
  rw [pst_cg (M := M1) (M' := sr M1 4 i v) hR (fun _ _ _ => rfl) (fun k hk _ => gr_sr_ne (by omega)) hT 6 k a b]
  exact e
theorem srM {M1 : zM} {i : Nat} {v : Option Nat} {q : Nat} {P : List st3} (hR : okR M1) (hT : okTm M1) (h : mkX M1 q P) : mkX (sr M1 4 i v) q P := by
  unfold mkX at *
  rw [gr_sr_ne (by decide : (5 : Nat) ≠ 4)]
  cases hq : gr M1 5 q with
  | none => rw [hq] at h; exact h
  | some k =>
    rw [hq] at h
    obtain ⟨d, h⟩ := h
    exact ⟨d, srT hR hT h⟩
theorem srR {M1 : zM} {i : Nat} {v : Option Nat} (hR : okR M1) (hv : ∀ r, v = some r → 88 ≤ r) : okR (sr M1 4 i v) := by
  intro k j r hr
  rw [gr_sr] at hr
  split at hr
  · exact hv r hr
  · exact hR k j r hr
theorem srK {M1 : zM} {i : Nat} {v : Option Nat} (hR : okR M1) (hT : okTm M1) : okTm (sr M1 4 i v) := by
  intro k k1 k2
  have e : gr (sr M1 4 i v) k = gr M1 k := gr_sr_ne (by omega)
  rw [e]
  exact hT k k1 k2
/-- a new term on the stack -/
theorem XS.push {M1 : zM} {ki c d n lv : Int} {x y : Option Nat} {sk0 : List (List st3 × Int)} {pop : Nat} {M2 : zM} (h : XS M ty wr sk w u G j on rd) (hn : NT M M1 ki c d n lv x y) (h0 : 0 ≤ ki ∧ ki ≤ 7) (hl : 1 ≤ lv ∧ lv ≤ 6) (hx : ∀ r, x = some r → 88 ≤ r ∧ r < gn M) (hy : ∀ r, y = some r → 88 ≤ r ∧ r < gn M) (hx5 : 5 ≤ ki → ∃ a, x = some a ∧ a < gn M ∧ gi M a 6 < lv) (hy5 : 6 ≤ ki → ∃ a, y = some a ∧ a < gn M ∧ gi M a 6 < lv)
    (hsk0 : sk0 = sk.take pop) (hpop : pop ≤ sk.length) (hpop6 : pop < 6) (e2 : M2 = si (sr M1 4 pop (some (gn M))) 0 4 ((pop : Int) + 1) ∨ (M2 = sr M1 4 pop (some (gn M)) ∧ sk.length = pop + 1)) : FX M M2 ∧ XS M2 ty wr (sk0 ++ [(ntP M ki c d n x y, lv)]) w u G j on rd := by
  obtain ⟨h1, h2, h3, h4, h5, h6, h7, hR, hT, hgn, h11, h12⟩ := id h
  obtain ⟨b1, b2, b3⟩ := h3
  have hR1 := hn.okr hR (fun r hr => (hx r hr).1) (fun r hr => (hy r hr).1)
  have hT1 := hn.oktm hR hT h0 hl hx5 hy5
  have hR2 : okR (sr M1 4 pop (some (gn M))) := srR hR1 (fun r hr => by cases hr; exact hgn)
  have hT2 := srK (i := pop) (v := some (gn M)) hR1 hT1
  have hsi : ∀ a, a ≠ 0 → gi M2 a = gi M1 a := fun a ha => by
    rcases e2 with e2 | ⟨e2, -⟩
    · rw [e2, gi_si_ne ha, gi_sr]
    · rw [e2, gi_sr]
  have hgr : gr M2 = gr (sr M1 4 pop (some (gn M))) := by rcases e2 with e2 | ⟨e2, -⟩ <;> rw [e2] <;> rfl
  have hgn2 : gn M2 = gn M1 := by rcases e2 with e2 | ⟨e2, -⟩ <;> rw [e2] <;> rfl
  have h04 : gi M2 0 4 = (pop : Int) + 1 := by
    rcases e2 with e2 | ⟨e2, e3⟩
    · rw [e2, gi_si_eq, if_pos rfl]
    · rw [e2, gi_sr, hn.2.1 0 (by omega), b1, e3]; omega
  have h0o : ∀ q, q ≠ 4 → gi M2 0 q = gi M 0 q := fun q hq => by
    rcases e2 with e2 | ⟨e2, e3⟩
    · rw [e2, gi_si_eq, if_neg hq, gi_sr, hn.2.1 0 (by omega)]
    · rw [e2, gi_sr, hn.2.1 0 (by omega)]
  have hM : ∀ a, a ≠ 0 → a ≠ gn M → gi M2 a = gi M a := fun a ha hb => by rw [hsi a ha, hn.2.1 a hb]
  have tm : ∀ {k t}, TMX M1 k t → TMX M2 k t := fun {k t} q => by
    have q2 := srT (i := pop) (v := some (gn M)) hR1 hT1 q
    obtain ⟨a, b, e, f⟩ := q2
    have hk : gi M2 k = gi (sr M1 4 pop (some (gn M))) k := by rw [hsi k (by omega)]; rfl
    refine ⟨a, by rw [hgn2]; exact b, ?_, by rw [hk]; exact f⟩
    rw [pst_cg (M := sr M1 4 pop (some (gn M))) hR2 (fun k hk _ => by rw [hsi k (by omega)]; rfl) (fun k _ _ => by rw [hgr]) hT2 6 k a b]
    exact e
  have mk : ∀ {q P}, mkX M q P → mkX M2 q P := fun {q P} z => by
    have z2 := srM (i := pop) (v := some (gn M)) hR1 hT1 (z.nt hn hgn hR hT)
    unfold mkX at z2 ⊢
    rw [hgr]
    cases hq : gr (sr M1 4 pop (some (gn M))) 5 q with
    | none => rw [hq] at z2; exact z2
    | some k =>
      rw [hq] at z2
      obtain ⟨d, a, b, e, f⟩ := z2
      refine ⟨d, a, by rw [hgn2]; exact b, ?_, by rw [hsi k (by omega)]; exact f⟩
      rw [pst_cg (M := sr M1 4 pop (some (gn M))) hR2 (fun k hk _ => by rw [hsi k (by omega)]; rfl) (fun k _ _ => by rw [hgr]) hT2 6 k a b]
      exact e
  refine ⟨fun a q1 q2 => hM a (by omega) (by omega), h.re (fun a q1 q2 q3 => hM a q2 (by omega)) (h0o 2 (by decide)) (h0o 10 (by decide)) ⟨?_, ?_, fun i t hi => ?_⟩ (mk h4.1) (mk h4.2) ?_ (hR2.same hgr) ?_ (by rw [hgn2, hn.1]; omega) h12⟩
  · rw [h04, hsk0]; simp; omega
  · rw [hsk0]; simp; omega
  · rw [hsk0] at hi
    by_cases hi2 : i < pop
    · rw [List.getElem?_append_left (by simp; omega), List.getElem?_take, if_pos hi2] at hi
      obtain ⟨k, k1, k2⟩ := b3 i t hi
      refine ⟨k, ?_, tm (hn.tmx hR hT k2)⟩
      rw [hgr, gr_sr, if_neg (by omega), hn.2.2.1 4 (by omega)]
      exact k1
    · rw [List.getElem?_append_right (by simp; omega)] at hi
      have hi3 : i = pop := by
        have := (List.getElem?_eq_some_iff.mp hi).1
        simp at this
        omega
      rw [hi3, show pop - (sk.take pop).length = 0 from by simp; omega, List.getElem?_cons_zero] at hi
      cases hi
      refine ⟨gn M, ?_, tm (hn.new hgn hR hT hx hy)⟩
      rw [hgr, gr_sr, hi3, if_pos ⟨rfl, rfl⟩]
  · obtain ⟨g1, g2, g3, g4, g5, g6, g7⟩ := h5
    have e5 := hM 5 (by decide) (by omega)
    exact ⟨g1.same (by rw [e5]) (by rw [e5]) (hM 6 (by decide) (by omega)) (hM 7 (by decide) (by omega)), by rw [e5]; exact g2, by rw [e5]; exact g3, by rw [e5]; exact g4, by rw [e5]; exact g5, by rw [e5]; exact g6, g7⟩
  · intro k k1 k2
    rw [hgn2] at k2 ⊢
    rw [hsi k (by omega), hgr]
    obtain ⟨z1, z2, z3, z4⟩ := hT2 k k1 k2
    refine ⟨z1, z2, fun q => ?_, fun q => ?_⟩
    · obtain ⟨a, a1, a2, a3⟩ := z3 q
      exact ⟨a, a1, a2, by rw [hsi a (by have := hR2 k 4 a a1; omega)]; exact a3⟩
    · obtain ⟨a, a1, a2, a3⟩ := z4 q
      exact ⟨a, a1, a2, by rw [hsi a (by have := hR2 k 5 a a1; omega)]; exact a3⟩
theorem m_X8_push {M1 : zM} {q0 : Nat} (hq : 88 ≤ q0) (hb : 0 ≤ gi M1 0 4 ∧ gi M1 0 4 < 6) (k : K 1 (si (sr M1 4 (gi M1 0 4).toNat (some q0)) 0 4 ((gi M1 0 4) + 1))) : zCi B zy_X8_push 1 0 0 [zR 0, zR q0] M1 K := by
  refine e_X8_push (fun n0 => ?_)
  apply b_X8_push_0 (zkd_term hq)
  case k1 => intro _; exact k
  case k2 => intro _; omega
  all_goals (intros; omega)
end FT
