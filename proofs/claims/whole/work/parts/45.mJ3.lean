/-! ===== Judge: ask ===== -/
theorem JX.fr {S : List Nat} {M M' : zM} {on : Int} {j : JS} (h : JX M on j) (hs : zSm S M M') (h5 : 5 ∉ S) (h6 : 6 ∉ S) (h7 : 7 ∉ S) : JX M' on j := by
  obtain ⟨a1, a2, a3, a4, a5, a6, a7⟩ := h
  have e := hs.ge h5
  exact ⟨a1.same (by rw [e]) (by rw [e]) (hs.ge h6) (hs.ge h7), by rw [e]; exact a2, by rw [e]; exact a3, by rw [e]; exact a4, by rw [e]; exact a5, by rw [e]; exact a6, a7⟩
theorem m_X1_ask {B : zB} {K : Int → zM → Prop} {M : zM} {t : Nat} (ht : zTx t) (ht6 : t + 1 < 5 ∨ 7 < t) {s : List Int} {on : Int} {j : JS} {oc : List Int → Int} (hR : okR M) (hoc : ocX M = oc) (hs : tT M t s) (ho : okS s) (hj : JX M on j)
    (k : ∀ M', zSm [5, 6, 7] M M' → JX M' on (askS on oc j s).2 → K (askS on oc j s).1 M') : zCi B zy_X1_ask 11 0 0 [zR 5, zR t] M K := by
  obtain ⟨R, al, pr, hi, en⟩ := j
  obtain ⟨a1, a2, a3, a4, a5, a6, a7⟩ := id hj
  dsimp only at a1 a2 a3 a4 a5 a6 a7
  have hol := ho.1
  have hB := a1.1
  have h6 := a1.2.1
  have verd : ∀ (M1 : zM) (s2 : JS), zSm [5, 6, 7] M M1 → JX M1 on s2 → askS on oc (R, al, pr, hi, en) s = (oc s, s2) → K (ocX M1 s) M1 := fun M1 s2 h1 h2 h3 => by
    rw [h3] at k
    have h4 := k M1 h1 h2
    rw [ocX_fr hR h1 (by simp), hoc]
    exact h4
  have okR1 : ∀ M1, zSm [5, 6, 7] M M1 → okR M1 := fun M1 h1 => hR.same h1.2.1
  have hs1 : ∀ M1, zSm [5, 6, 7] M M1 → tT M1 t s := fun M1 h1 => hs.fr h1 (by simp; omega) (by simp; omega)
  refine e_X1_ask (fun n0 => ?_)
  apply b_X1_ask_0 ht (s := s)
  case k1 =>
    intro h0 h1 h2 hon
    have hm : ¬ s ∈ R := fun q => h1 (a1.mem.mp q)
    have hf : zSm [5, 6, 7] M (si (si M 5 7 ((gi M 5 7) - 1)) 5 3 (zw ((gi M 5 3) + 1))) := (zSm.rf.st (by simp)).st (by simp)
    refine verd _ (R, al - 1, zw (pr + 1), hi, en) hf ?_ ?_
    · refine ⟨a1.same (by simp [gi_si]) (by simp [gi_si]) (by rw [gi_si_ne (by decide), gi_si_ne (by decide)]) (by rw [gi_si_ne (by decide), gi_si_ne (by decide)]), ?_, ?_, ?_, ?_, ?_, ?_⟩
      · simp [gi_si, a2]
      · simp [gi_si, a3]
      · simp [gi_si, a4]
      · simp [gi_si, a5]
      · simp [gi_si, a6]
      · dsimp only; omega
    · unfold askS
      dsimp only
      rw [if_neg (by omega), if_neg hm, if_neg (by omega), if_pos (by rw [← a6]; exact hon)]
  case k2 =>
    intro h0 h1 h2 h3
    have hm : ¬ s ∈ R := fun q => h1 (a1.mem.mp q)
    have hf : zSm [5, 6, 7] M (si (si M 5 7 ((gi M 5 7) - 1)) 5 3 (zw ((gi M 5 3) + 1))) := (zSm.rf.st (by simp)).st (by simp)
    refine m_X1_hold ht ht6 (R := R) (hs1 _ hf) ho (a1.same (by simp [gi_si]) (by simp [gi_si]) (by rw [gi_si_ne (by decide), gi_si_ne (by decide)]) (by rw [gi_si_ne (by decide), gi_si_ne (by decide)])) (fun M1 g1 g2 g3 => ?_)
    have hf1 := hf.tr g1
    apply b_X1_ask_79 ht (s := s)
    case k1 =>
      refine verd _ (holdS R s, al - 1, zw (pr + 1), hi, en) hf1 ?_ ?_
      · refine ⟨g3, ?_, ?_, ?_, ?_, ?_, ?_⟩
        · rw [g2 7 (by decide) (by decide)]; simp [gi_si, a2]
        · rw [g2 3 (by decide) (by decide)]; simp [gi_si, a3]
        · rw [g2 4 (by decide) (by decide)]; simp [gi_si, a4]
        · rw [g2 5 (by decide) (by decide)]; simp [gi_si, a5]
        · rw [g2 2 (by decide) (by decide)]; simp [gi_si, a6]
        · dsimp only; omega
      · unfold askS
        dsimp only
        rw [if_neg (by omega), if_neg hm, if_neg (by omega), if_neg (by rw [← a6]; exact h3)]
    all_goals first | exact okR1 _ hf1 | exact hs1 _ hf1 | omega
  case k3 =>
    intro h0 h1 h2
    have hm : ¬ s ∈ R := fun q => h1 (a1.mem.mp q)
    have e : askS on oc (R, al, pr, hi, en) s = (0, (R, al, pr, hi, 1)) := by
      unfold askS
      dsimp only
      rw [if_neg (by omega), if_neg hm, if_pos (by omega)]
    rw [e] at k
    refine k _ (zSm.rf.st (by simp)) ⟨a1.same (by simp [gi_si]) (by simp [gi_si]) (gi_si_ne (by decide)) (gi_si_ne (by decide)), ?_, ?_, ?_, ?_, ?_, a7⟩
    · simp [gi_si, a2]
    · simp [gi_si, a3]
    · simp [gi_si, a4]
    · simp [gi_si]
    · simp [gi_si, a6]
  case k4 =>
    intro h0 h1
    have hf : zSm [5, 6, 7] M (si M 5 4 (zw ((gi M 5 4) + 1))) := zSm.rf.st (by simp)
    refine verd _ (R, al, pr, zw (hi + 1), en) hf ?_ ?_
    · refine ⟨a1.same (by simp [gi_si]) (by simp [gi_si]) (gi_si_ne (by decide)) (gi_si_ne (by decide)), ?_, ?_, ?_, ?_, ?_, a7⟩
      · simp [gi_si, a2]
      · simp [gi_si, a3]
      · simp [gi_si, a4]
      · simp [gi_si, a5]
      · simp [gi_si, a6]
    · unfold askS
      dsimp only
      rw [if_neg (by omega), if_pos (a1.mem.mpr h1)]
  case k5 =>
    intro h0
    have e : askS on oc (R, al, pr, hi, en) s = (0, (R, al, pr, hi, en)) := by
      unfold askS
      dsimp only
      rw [if_pos (by omega)]
    rw [e] at k
    exact k M zSm.rf hj
  all_goals first | assumption | exact okR1 _ ((zSm.rf.st (by simp)).st (by simp)) | exact okR1 _ (zSm.rf.st (by simp)) | exact hs1 _ ((zSm.rf.st (by simp)).st (by simp)) | exact hs1 _ (zSm.rf.st (by simp)) | (intros; omega)
