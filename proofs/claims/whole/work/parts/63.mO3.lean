/-! ===== the class's face: has, pair, size, not, join, mark ===== -/
section FH
variable {B : zB} {K : Int → zM → Prop} {M : zM} {ty wr : List Int} {sk : List (List st3 × Int)} {w u : List st3} {G : Option GC} {j : JS} {on rd : Int}
theorem m_X8_has {p1 p2 : Int} (h : XS M ty wr sk w u G j on rd) (k0 : ¬ (isTx p1 = true ∧ 1 ≤ p2 ∧ p2 ≤ 9 ∧ sk.length < 6) → K 0 M)
    (k1 : (isTx p1 = true ∧ 1 ≤ p2 ∧ p2 ≤ 9 ∧ sk.length < 6) → ∀ M', FX M M' → XS M' ty wr (sk ++ [([(0, p1, p2)], 1)]) w u G j on rd → K 1 M') : zCi B zy_X8_has 2 1 7 [zR 0, zI p1, zI p2] M K := by
  have hgn := h.2.2.2.2.2.2.2.2.2.1
  have e4 := h.2.2.1.1
  refine e_X8_has (fun n0 => ?_)
  apply b_X8_has_0 hgn
  case k1 => intro q; exact k0 (fun z => q z.1)
  case k2 => intro _ q; exact k0 (fun z => by omega)
  case k3 => intro _ _ _ q; exact k0 (fun z => by omega)
  case k4 =>
    intro q1 q2 q3 q4
    have hc := isTx_ch q1
    refine m_X5_init hgn hc hc (fun M1 hn => b_X8_has_41 (zkd_term hgn) ?_)
    have e04 : gi M1 0 4 = sk.length := by rw [hn.2.1 0 (by omega)]; exact e4
    refine m_X8_push hgn (by omega) (b_X8_has_44 ?_)
    rw [e04, show ((sk.length : Int)).toNat = sk.length from rfl]
    have hp := h.push hn (by omega) (by omega) (fun r hr => by cases hr) (fun r hr => by cases hr) (by omega) (by omega) (pop := sk.length) rfl (Nat.le_refl _) (by omega) (Or.inl rfl)
    rw [List.take_length] at hp
    exact k1 ⟨q1, q2, q3, by omega⟩ _ hp.1 hp.2
  case k5 => intro _ _ q; exact k0 (fun z => by omega)
theorem m_X8_pair {p1 p2 p3 : Int} (h : XS M ty wr sk w u G j on rd) (k0 : ¬ (isTx p1 = true ∧ isTx p2 = true ∧ sk.length < 6) → K 0 M)
    (k1 : (isTx p1 = true ∧ isTx p2 = true ∧ sk.length < 6) → ∀ M', FX M M' → XS M' ty wr (sk ++ [([(if p3 = 0 then 1 else 2, p1, p2)], 1)]) w u G j on rd → K 1 M') : zCi B zy_X8_pair 2 1 7 [zR 0, zI p1, zI p2, zI p3] M K := by
  have hgn := h.2.2.2.2.2.2.2.2.2.1
  have e4 := h.2.2.1.1
  refine e_X8_pair (fun n0 => ?_)
  apply b_X8_pair_0 hgn
  case k1 => intro q; exact k0 (fun z => q z.1)
  case k2 => intro _ _ q; exact k0 (fun z => by omega)
  case k3 =>
    intro q1 q2 q4
    have hc := isTx_ch q1
    have hd := isTx_ch q2
    refine m_X5_init hgn hc hd (fun M1 hn => b_X8_pair_45 (zkd_term hgn) ?_)
    have e04 : gi M1 0 4 = sk.length := by rw [hn.2.1 0 (by omega)]; exact e4
    refine m_X8_push hgn (by omega) (b_X8_pair_48 ?_)
    rw [e04, show ((sk.length : Int)).toNat = sk.length from rfl]
    have hki : (0 : Int) ≤ (if p3 = 0 then 1 else 2) ∧ (if p3 = 0 then (1 : Int) else 2) ≤ 7 := by split <;> omega
    have hp := h.push hn hki (by omega) (fun r hr => by cases hr) (fun r hr => by cases hr) (by split <;> omega) (by split <;> omega) (pop := sk.length) rfl (Nat.le_refl _) (by omega) (Or.inl rfl)
    rw [List.take_length] at hp
    have en : ntP M (if p3 = 0 then 1 else 2) p1 p2 0 none none = [(if p3 = 0 then 1 else 2, p1, p2)] := by
      unfold ntP
      by_cases h3 : p3 = 0
      · simp [h3]
      · simp [h3]
    rw [en] at hp
    exact k1 ⟨q1, q2, by omega⟩ _ hp.1 hp.2
  case k4 => intro _ q; exact k0 (fun z => q z.2.1)
theorem m_X8_size {p1 : Int} (h : XS M ty wr sk w u G j on rd) (k0 : ¬ (-1 ≤ p1 ∧ p1 ≤ 32 ∧ sk.length < 6) → K 0 M)
    (k1 : (-1 ≤ p1 ∧ p1 ≤ 32 ∧ sk.length < 6) → ∀ M', FX M M' → XS M' ty wr (sk ++ [([(if p1 = -1 then 4 else 3, p1, 0)], 1)]) w u G j on rd → K 1 M') : zCi B zy_X8_size 2 1 7 [zR 0, zI p1] M K := by
  have hgn := h.2.2.2.2.2.2.2.2.2.1
  have e4 := h.2.2.1.1
  refine e_X8_size (fun n0 => ?_)
  apply b_X8_size_0 hgn
  case k1 => intro q; exact k0 (fun z => by omega)
  case k2 => intro _ _ q; exact k0 (fun z => by omega)
  case k3 =>
    intro q1 q2 q4
    refine m_X5_init hgn (by decide) (by decide) (fun M1 hn => b_X8_size_45 (zkd_term hgn) ?_)
    have e04 : gi M1 0 4 = sk.length := by rw [hn.2.1 0 (by omega)]; exact e4
    refine m_X8_push hgn (by omega) (b_X8_size_48 ?_)
    rw [e04, show ((sk.length : Int)).toNat = sk.length from rfl]
    have hki : (0 : Int) ≤ (if p1 = -1 then 4 else 3) ∧ (if p1 = -1 then (4 : Int) else 3) ≤ 7 := by split <;> omega
    have hp := h.push hn hki (by omega) (fun r hr => by cases hr) (fun r hr => by cases hr) (by split <;> omega) (by split <;> omega) (pop := sk.length) rfl (Nat.le_refl _) (by omega) (Or.inl rfl)
    rw [List.take_length] at hp
    have en : ntP M (if p1 = -1 then 4 else 3) 32 32 p1 none none = [(if p1 = -1 then 4 else 3, p1, 0)] := by
      unfold ntP
      by_cases h3 : p1 = -1
      · simp [h3]
      · simp [h3]
    rw [en] at hp
    exact k1 ⟨by omega, by omega, by omega⟩ _ hp.1 hp.2
  case k4 => intro _ q; exact k0 (fun z => by omega)
/-- the uppermost term is taken off -/
theorem XS.pop {n : Nat} (h : XS M ty wr sk w u G j on rd) (hn : sk.length = n + 1) : XS (sr (si M 0 4 (n : Int)) 4 n none) ty wr (sk.take n) w u G j on rd ∧ FX M (sr (si M 0 4 (n : Int)) 4 n none) := by
  obtain ⟨h1, h2, ⟨b1, b2, b3⟩, h4, h5, h6, h7, hR, hT, hgn, h11, h12⟩ := id h
  have hf : zSm [0] M (si M 0 4 (n : Int)) := zSm.rf.st (by simp)
  have hR1 := hR.same hf.2.1
  have hT1 := hT.fr hR hf (by decide)
  refine ⟨h.re (fun a q1 q2 q3 => by rw [gi_sr, gi_si_ne q2]) (by rw [gi_sr, gi_si_eq, if_neg (by decide)]) (by rw [gi_sr, gi_si_eq, if_neg (by decide)]) ⟨?_, by simp; omega, fun i t hi => ?_⟩ (srM hR1 hT1 (h4.1.fr hR hT hf (by decide))) (srM hR1 hT1 (h4.2.fr hR hT hf (by decide))) ?_ (srR hR1 (fun r hr => by cases hr)) (srK hR1 hT1) hgn h12, fun a q1 q2 => by rw [gi_sr, gi_si_ne (by omega)]⟩
  · rw [gi_sr, gi_si_eq, if_pos rfl]; simp; omega
  · have hin : i < n := by
      have := (List.getElem?_eq_some_iff.mp hi).1
      simp at this
      omega
    rw [List.getElem?_take, if_pos hin] at hi
    obtain ⟨k, k1, k2⟩ := b3 i t hi
    refine ⟨k, ?_, srT hR1 hT1 (k2.fr hR hT hf (by decide))⟩
    rw [gr_sr, if_neg (by omega), gr_si]
    exact k1
  · have h5' := h5.fr hf (by decide) (by decide) (by decide)
    obtain ⟨g1, g2, g3, g4, g5, g6, g7⟩ := h5'
    exact ⟨g1.same rfl rfl rfl rfl, g2, g3, g4, g5, g6, g7⟩
theorem XS.top {n : Nat} (h : XS M ty wr sk w u G j on rd) (hn : n < sk.length) : ∃ k, gr M 4 n = some k ∧ TMX M k sk[n] := h.2.2.1.2.2 n sk[n] (List.getElem?_eq_getElem hn)
theorem m_X8_not (h : XS M ty wr sk w u G j on rd) (k0 : (∀ n t, sk.length = n + 1 → sk[n]? = some t → ¬ t.2 < 6) → K 0 M)
    (k1 : ∀ n t, sk.length = n + 1 → sk[n]? = some t → t.2 < 6 → ∀ M', FX M M' → XS M' ty wr (sk.take n ++ [(t.1 ++ [(5, 0, 0)], t.2 + 1)]) w u G j on rd → K 1 M') : zCi B zy_X8_not 2 1 7 [zR 0] M K := by
  obtain ⟨-, -, ⟨b1, b2, b3⟩, -, -, -, -, hR, hT, hgn, -, -⟩ := id h
  refine e_X8_not (fun n0 => ?_)
  cases hn : sk.length with
  | zero =>
    apply b_X8_not_0 hgn
    case k4 => intro _; exact k0 (fun n t q => by omega)
    all_goals (intro q; omega)
  | succ n =>
    obtain ⟨q0, q1, q2⟩ := h.top (show n < sk.length by omega)
    have hsk : sk[n]? = some sk[n] := List.getElem?_eq_getElem (by omega)
    obtain ⟨t1, t2, t3, t4⟩ := q2
    have hlv := (hT q0 t1 t2).2.1
    have e : ((gi M 0 4) - 1).toNat = n := by omega
    have ei : (gi M 0 4) - 1 = (n : Int) := by omega
    apply b_X8_not_0 hgn
    case k1 => intro _ q; rw [e, q1] at q; cases q
    case k4 => intro _; omega
    case k3 =>
      intro _ r hr h6
      rw [e, q1] at hr
      cases hr
      exact k0 (fun n' t hn' ht => by
        have : n' = n := by omega
        subst this
        rw [hsk] at ht
        cases ht
        omega)
    case k2 =>
      intro _ r hr h6
      rw [e, q1] at hr
      cases hr
      rw [e, q1, ei]
      refine m_X5_init_ hgn (fun M1 hnt => ?_)
      have hp := h.push hnt (by omega) (by omega) (fun r hr => by cases hr; exact ⟨t1, t2⟩) (fun r hr => by cases hr) (fun _ => ⟨q0, rfl, t2, by omega⟩) (fun q => by omega) (pop := n) rfl (by omega) (by omega) (Or.inr ⟨rfl, hn⟩)
      have en : ntP M 5 32 32 0 (some q0) none = sk[n].1 ++ [(5, 0, 0)] := by
        rw [← t3, pst_fuel hR hT 5 q0 t1 t2 (by omega) 1]
        rfl
      rw [en] at hp
      apply b_X8_not_63 (zkd_term hgn)
      · omega
      · rw [show ((n : Int)).toNat = n from rfl]
        have h7 := k1 n sk[n] hn hsk (by omega) _ hp.1
        rw [← t4] at h7
        exact h7 hp.2
    all_goals first | (intros; omega) | (intro _ r hr; rw [e, q1] at hr; cases hr; first | exact zkd_term t1 | (intros; omega))
theorem m_X8_join {p1 : Int} (h : XS M ty wr sk w u G j on rd) (k0 : (∀ n x y, sk.length = n + 2 → sk[n]? = some x → sk[n + 1]? = some y → ¬ 1 + max x.2 y.2 ≤ 6) → K 0 M)
    (k1 : ∀ n x y, sk.length = n + 2 → sk[n]? = some x → sk[n + 1]? = some y → 1 + max x.2 y.2 ≤ 6 → ∀ M', FX M M' → XS M' ty wr (sk.take n ++ [(x.1 ++ y.1 ++ [(if p1 = 0 then 6 else 7, 0, 0)], 1 + max x.2 y.2)]) w u G j on rd → K 1 M') : zCi B zy_X8_join 2 1 7 [zR 0, zI p1] M K := by
  obtain ⟨-, -, ⟨b1, b2, b3⟩, -, -, -, -, hR, hT, hgn, -, -⟩ := id h
  refine e_X8_join (fun n0 => ?_)
  by_cases hn2 : sk.length < 2
  · apply b_X8_join_0 hgn
    case k5 => intro _; exact k0 (fun n x y q => by omega)
    all_goals (intro q; omega)
  · obtain ⟨n, hn⟩ : ∃ n, sk.length = n + 2 := ⟨sk.length - 2, by omega⟩
    obtain ⟨qx, x1, x2⟩ := h.top (show n < sk.length by omega)
    obtain ⟨qy, y1, y2⟩ := h.top (show n + 1 < sk.length by omega)
    have hskx : sk[n]? = some sk[n] := List.getElem?_eq_getElem (by omega)
    have hsky : sk[n + 1]? = some sk[n + 1] := List.getElem?_eq_getElem (by omega)
    obtain ⟨tx1, tx2, tx3, tx4⟩ := x2
    obtain ⟨ty1, ty2, ty3, ty4⟩ := y2
    have hlx := (hT qx tx1 tx2).2.1
    have hly := (hT qy ty1 ty2).2.1
    have e2 : ((gi M 0 4) - 2).toNat = n := by omega
    have e1 : ((gi M 0 4) - 1).toNat = n + 1 := by omega
    have ei : (gi M 0 4) - 1 = ((n + 1 : Nat) : Int) := by omega
    have ei2 : ((n + 1 : Nat) : Int) - 1 = (n : Int) := by omega
    apply b_X8_join_0 hgn
    case k1 => intro _ q; rw [e2, x1] at q; cases q
    case k2 => intro _ _ _ q; rw [e1, y1] at q; cases q
    case k5 => intro _; omega
    case k4 =>
      intro _ r hr r2 hr2 h6
      rw [e2, x1] at hr
      rw [e1, y1] at hr2
      cases hr
      cases hr2
      rw [maxI] at h6
      exact k0 (fun n' x y hn' hx hy => by
        have : n' = n := by omega
        subst this
        rw [hskx] at hx
        rw [hsky] at hy
        cases hx
        cases hy
        omega)
    case k3 =>
      intro _ r hr r2 hr2 h6
      rw [e2, x1] at hr
      rw [e1, y1] at hr2
      cases hr
      cases hr2
      rw [e2, e1, x1, y1, ei, ei2]
      rw [maxI] at h6 ⊢
      obtain ⟨hpop, hfx⟩ := h.pop (n := n + 1) hn
      have hgnp : gn (sr (si M 0 4 ((n + 1 : Nat) : Int)) 4 (n + 1) none) = gn M := rfl
      refine m_X5_init_ (M := sr (si M 0 4 ((n + 1 : Nat) : Int)) 4 (n + 1) none) hgn (fun M1 hnt => ?_)
      have hki : (0 : Int) ≤ (if p1 = 0 then 6 else 7) ∧ (if p1 = 0 then (6 : Int) else 7) ≤ 7 := by split <;> omega
      have hgx : gi (sr (si M 0 4 ((n + 1 : Nat) : Int)) 4 (n + 1) none) qx 6 = gi M qx 6 := by rw [gi_sr, gi_si_ne (by omega)]
      have hgy : gi (sr (si M 0 4 ((n + 1 : Nat) : Int)) 4 (n + 1) none) qy 6 = gi M qy 6 := by rw [gi_sr, gi_si_ne (by omega)]
      have hp := hpop.push hnt hki (by omega) (fun r hr => by cases hr; exact ⟨tx1, tx2⟩) (fun r hr => by cases hr; exact ⟨ty1, ty2⟩) (fun _ => ⟨qx, rfl, tx2, by rw [hgx]; omega⟩) (fun _ => ⟨qy, rfl, ty2, by rw [hgy]; omega⟩) (pop := n) rfl (by simp; omega) (by omega) (Or.inr ⟨rfl, by simp; omega⟩)
      have hRp := hpop.2.2.2.2.2.2.2.1
      have hTp := hpop.2.2.2.2.2.2.2.2.1
      have px : pst (sr (si M 0 4 ((n + 1 : Nat) : Int)) 4 (n + 1) none) 5 qx = sk[n].1 := by
        rw [← tx3, ← pst_fuel hRp hTp 5 qx tx1 tx2 (by rw [hgx]; omega) 1]
        exact pst_cg hR (fun k hk _ => by rw [gi_sr, gi_si_ne (by omega)]) (fun k hk _ => by rw [gr_sr_ne (by omega), gr_si]) hT 6 qx tx1 tx2
      have py : pst (sr (si M 0 4 ((n + 1 : Nat) : Int)) 4 (n + 1) none) 5 qy = sk[n + 1].1 := by
        rw [← ty3, ← pst_fuel hRp hTp 5 qy ty1 ty2 (by rw [hgy]; omega) 1]
        exact pst_cg hR (fun k hk _ => by rw [gi_sr, gi_si_ne (by omega)]) (fun k hk _ => by rw [gr_sr_ne (by omega), gr_si]) hT 6 qy ty1 ty2
      have en : ntP (sr (si M 0 4 ((n + 1 : Nat) : Int)) 4 (n + 1) none) (if p1 = 0 then 6 else 7) 32 32 0 (some qx) (some qy) = sk[n].1 ++ sk[n + 1].1 ++ [(if p1 = 0 then 6 else 7, 0, 0)] := by
        unfold ntP
        rw [if_neg (by split <;> omega), if_neg (by split <;> omega), if_neg (by split <;> omega), if_neg (by split <;> omega)]
        dsimp only
        rw [px, py]
      rw [en, List.take_take, show min n (n + 1) = n from by omega] at hp
      apply b_X8_join_120 (zkd_term hgn)
      · omega
      · rw [show ((n : Int)).toNat = n from rfl]
        have h7 := k1 n sk[n] sk[n + 1] hn hskx hsky (by rw [← tx4, ← ty4]; omega) _ (hfx.tr hp.1)
        rw [← tx4, ← ty4] at h7
        exact h7 hp.2
    all_goals first | (intros; omega) | (intro _ r hr; rw [e2, x1] at hr; cases hr; first | exact zkd_term tx1 | (intro r2 hr2; rw [e1, y1] at hr2; cases hr2; first | exact zkd_term ty1 | (intros; rw [maxI] at *; omega) | (intros; omega) | (rw [maxI]; omega)))
theorem m_X8_mark {p1 : Int} (h : XS M ty wr sk w u G j on rd) (k0 : sk = [] → K 0 M)
    (k1 : ∀ n t, sk.length = n + 1 → sk[n]? = some t → ∀ M', FX M M' → XS M' ty wr (sk.take n) (if p1 = 0 then t.1 else w) (if p1 = 0 then u else t.1) G ([], j.2) on rd → K 1 M') : zCi B zy_X8_mark 2 0 0 [zR 0, zI p1] M K := by
  obtain ⟨h1, h2, ⟨b1, b2, b3⟩, h4, h5, h6, h7, hR, hT, hgn, h11, h12⟩ := id h
  refine e_X8_mark (fun n0 => ?_)
  cases hn : sk.length with
  | zero =>
    apply b_X8_mark_0
    case k3 => intro _; exact k0 (List.eq_nil_of_length_eq_zero hn)
    all_goals (intro q; omega)
  | succ n =>
    obtain ⟨q0, q1, q2⟩ := h.top (show n < sk.length by omega)
    have hsk : sk[n]? = some sk[n] := List.getElem?_eq_getElem (by omega)
    have e : ((gi M 0 4) - 1).toNat = n := by omega
    have ei : (gi M 0 4) - 1 = (n : Int) := by omega
    obtain ⟨hpop, hfx⟩ := h.pop hn
    have go : ∀ (q : Nat) (M2 : zM), q < 2 → M2 = si (si (sr (sr (si M 0 4 (n : Int)) 5 q (some q0)) 4 n none) 5 6 0) 5 8 0 → FX M M2 ∧ XS M2 ty wr (sk.take n) (if q = 0 then sk[n].1 else w) (if q = 0 then u else sk[n].1) G ([], j.2) on rd := fun q M2 hq hM2 => by
      have hgr : ∀ a, a ≠ 5 → gr M2 a = gr (sr (si M 0 4 (n : Int)) 4 n none) a := fun a ha => by
        rw [hM2, gr_si, gr_si]
        funext b
        rw [gr_sr, gr_sr_ne ha, gr_sr]
      have hgr5 : ∀ b, gr M2 5 b = if b = q then some q0 else gr M 5 b := fun b => by
        rw [hM2, gr_si, gr_si, gr_sr_ne (by decide), gr_sr_eq, gr_si]
      have hgi : ∀ a, a ≠ 0 → a ≠ 5 → gi M2 a = gi M a := fun a ha hb => by
        rw [hM2, gi_si_ne hb, gi_si_ne hb, gi_sr, gi_sr, gi_si_ne ha]
      have hgi0 : ∀ b, gi M2 0 b = gi (sr (si M 0 4 (n : Int)) 4 n none) 0 b := fun b => by
        rw [hM2, gi_si_ne (by decide), gi_si_ne (by decide), gi_sr, gi_sr, gi_sr]
      have hgi5 : ∀ b, b ≠ 6 → b ≠ 8 → gi M2 5 b = gi M 5 b := fun b h1 h2 => by
        rw [hM2, gi_si_eq, if_neg h2, gi_si_eq, if_neg h1, gi_sr, gi_sr, gi_si_ne (by decide)]
      have hgn2 : gn M2 = gn M := by rw [hM2]; rfl
      have tm : ∀ {k t}, TMX M k t → TMX M2 k t := fun {k t} z => by
        obtain ⟨z1, z2, z3, z4⟩ := z
        refine ⟨z1, by rw [hgn2]; exact z2, ?_, by rw [hgi k (by omega) (by omega)]; exact z4⟩
        rw [pst_cg hR (fun k hk _ => hgi k (by omega) (by omega)) (fun k hk _ => by rw [hgr k (by omega), gr_sr_ne (by omega), gr_si]) hT 6 k z1 z2]
        exact z3
      have mk1 : ∀ b P, b ≠ q → mkX M b P → mkX M2 b P := fun b P hb z => by
        unfold mkX at z ⊢
        rw [hgr5, if_neg hb]
        cases hz : gr M 5 b with
        | none => rw [hz] at z; exact z
        | some k =>
          rw [hz] at z
          obtain ⟨d, z⟩ := z
          exact ⟨d, tm z⟩
      have mk2 : mkX M2 q sk[n].1 := by
        unfold mkX
        rw [hgr5, if_pos rfl]
        exact ⟨sk[n].2, tm q2⟩
      refine ⟨fun a h1 h2 => hgi a (by omega) (by omega), h.re (fun a z1 z2 z3 => hgi a z2 z3) ?_ ?_ ⟨?_, by simp; omega, fun i t hi => ?_⟩ ?_ ?_ ⟨⟨fun i => by rw [hgi 7 (by decide) (by decide)]; exact h5.1.1 i, ?_, 0, ?_, by decide, fun _ => rfl, ?_⟩, ?_, ?_, ?_, ?_, ?_, h5.2.2.2.2.2.2⟩ ?_ ?_ (by rw [hgn2]; exact hgn) h12⟩
      · rw [hgi0, gi_sr, gi_si_eq, if_neg (by decide)]
      · rw [hgi0, gi_sr, gi_si_eq, if_neg (by decide)]
      · rw [hgi0, gi_sr, gi_si_eq, if_pos rfl]; simp; omega
      · have hin : i < n := by
          have := (List.getElem?_eq_some_iff.mp hi).1
          simp at this
          omega
        rw [List.getElem?_take, if_pos hin] at hi
        obtain ⟨k, k1, k2⟩ := b3 i t hi
        refine ⟨k, ?_, tm k2⟩
        rw [hgr 4 (by decide), gr_sr, if_neg (by omega), gr_si]
        exact k1
      · by_cases hq0 : q = 0
        · rw [if_pos hq0]; rw [hq0] at mk2; exact mk2
        · rw [if_neg hq0]; exact mk1 0 w (fun z => hq0 z.symm) h4.1
      · by_cases hq0 : q = 0
        · rw [if_pos hq0]; exact mk1 1 u (by omega) h4.2
        · rw [if_neg hq0]; have : q = 1 := by omega
          rw [this] at mk2; exact mk2
      · rw [hM2, gi_si_eq, if_neg (by decide), gi_si_eq, if_pos rfl]; omega
      · rw [hM2, gi_si_eq, if_pos rfl]; rfl
      · unfold slL
        rw [hM2, gi_si_eq, if_neg (by decide), gi_si_eq, if_pos rfl]
        rfl
      · rw [hgi5 7 (by decide) (by decide)]; exact h5.2.1
      · rw [hgi5 3 (by decide) (by decide)]; exact h5.2.2.1
      · rw [hgi5 4 (by decide) (by decide)]; exact h5.2.2.2.1
      · rw [hgi5 5 (by decide) (by decide)]; exact h5.2.2.2.2.1
      · rw [hgi5 2 (by decide) (by decide)]; exact h5.2.2.2.2.2.1
      · intro k b r hr
        by_cases hk5 : k = 5
        · rw [hk5, hgr5] at hr
          split at hr
          · cases hr; exact q2.1
          · exact hR 5 b r hr
        · rw [hgr k hk5] at hr
          exact srR (hR.same (rfl : gr (si M 0 4 (n : Int)) = gr M)) (fun r hr => by cases hr) k b r hr
      · intro k z1 z2
        rw [hgn2] at z2 ⊢
        rw [hgi k (by omega) (by omega), hgr k (by omega), gr_sr_ne (by omega), gr_si]
        obtain ⟨c1, c2, c3, c4⟩ := hT k z1 z2
        refine ⟨c1, c2, fun z => ?_, fun z => ?_⟩
        · obtain ⟨a, a1, a2, a3⟩ := c3 z
          exact ⟨a, a1, a2, by have := hR k 4 a a1; rw [hgi a (by omega) (by omega)]; exact a3⟩
        · obtain ⟨a, a1, a2, a3⟩ := c4 z
          exact ⟨a, a1, a2, by have := hR k 5 a a1; rw [hgi a (by omega) (by omega)]; exact a3⟩
    apply b_X8_mark_0
    case k1 =>
      intro _ hp
      rw [e, ei, q1]
      refine m_X1_forget (b_X8_mark_76 ?_)
      obtain ⟨f1, f2⟩ := go 0 _ (by decide) rfl
      have h8 := k1 n sk[n] hn hsk _ f1
      rw [if_pos hp, if_pos hp] at h8
      exact h8 f2
    case k2 =>
      intro _ hp
      rw [e, ei, q1]
      refine m_X1_forget (b_X8_mark_76 ?_)
      obtain ⟨f1, f2⟩ := go 1 _ (by decide) rfl
      have h8 := k1 n sk[n] hn hsk _ f1
      rw [if_neg hp, if_neg hp] at h8
      exact h8 f2
    case k3 => intro _; omega
    all_goals (intros; omega)
end FH
