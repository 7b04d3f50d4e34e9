theorem tmS_len {on : Int} {oc : List Int → Int} {ps : List Int → Option (List nd)} {ty : List Int} {L : List nd} (hw : WT ty.length L) {i : Nat} (hi : i < L.length) (hz : 0 < nZ (ndG L i)) : ∀ (m x : Nat) (j : JS), x + m = L.length → (tmS on oc ps ty L i m x j).1 = true → (tmS on oc ps ty L i m x j).2.1.length < ty.length ∧ (ps (tmS on oc ps ty L i m x j).2.1).isSome = true := by
  intro m
  induction m with
  | zero => intro x j _ h; cases h
  | succ m ih =>
    intro x j hx h
    unfold tmS at h ⊢
    split at h
    · cases h
    · next h1 =>
      rw [if_neg h1]
      split at h
      · next h2 =>
        rw [if_pos h2]
        split at h
        · next h3 =>
          rw [if_pos h3]
          exact ⟨(mvT_len hw hi (by omega) h2.1).2 hz, h2.2⟩
        · next h3 =>
          rw [if_neg h3]
          exact ih _ _ (by omega) h
      · next h2 =>
        rw [if_neg h2]
        exact ih _ _ (by omega) h
theorem tmS_stay {on : Int} {oc : List Int → Int} {ps : List Int → Option (List nd)} {ty : List Int} {L : List nd} {i : Nat} : ∀ (m x : Nat) (j : JS), ¬ (tmS on oc ps ty L i m x j).1 = true → (tmS on oc ps ty L i m x j).2.1 = ty := by
  intro m
  induction m with
  | zero => intro x j _; rfl
  | succ m ih =>
    intro x j h
    unfold tmS at h ⊢
    split at h
    · next h1 => rw [if_pos h1]
    · next h1 =>
      rw [if_neg h1]
      split at h
      · next h2 =>
        rw [if_pos h2]
        split at h
        · exact absurd rfl h
        · next h3 =>
          rw [if_neg h3]
          exact ih _ _ h
      · next h2 =>
        rw [if_neg h2]
        exact ih _ _ h
section BM
variable {B : zB} {n0 : Nat} {K : zM → Prop} {g : zG} {ord : Nat → Nat} {n st : Nat} {em : Nat → Bool} {oc : List Int → Int} {on : Int}
theorem l_X4_byMoves (hg : GG g ord n st em) : ∀ (f : Nat) (v1 : Int) (i : Nat) (v3 : Int) (M : zM) (L : List nd) (ty : List Int) (j : JS), 0 ≤ v3 → v3 + f ≤ 100000 → v1 ≤ 32 → (ty.length : Int) * 2100 + v1 * 62 + (62 - i) ≤ f + 62 → prs g ord em st ty = some L → i ≤ L.length → XR M g ord n st em oc → TR M L → tT M 1 ty → okS ty → JX M on j →
    (∀ M', zSm RFr M M' → XR M' g ord n st em oc → tT M' 1 (bmS on oc (prs g ord em st) f L v1 i ty j).1 → okS (bmS on oc (prs g ord em st) f L v1 i ty j).1 → JX M' on (bmS on oc (prs g ord em st) f L v1 i ty j).2 → K M') →
    zGv B zy_X4_byMoves 67 0 0 n0 K 24 [some (zR 31), some (zI v1), some (zI i), some (zI v3)] [] M 0 0 := by
  intro f
  induction f with
  | zero =>
    intro v1 i v3 M L ty j h0 hf hv hmu hL hi hX ht hty hoty hj k
    have hwt := prs_wt hg hoty.1 hL
    apply b_X4_byMoves_24
    case k1 => intro _; exact k M zSm.rf hX hty hoty hj
    all_goals (intros; omega)
  | succ f ih =>
    intro v1 i v3 M L ty j h0 hf hv hmu hL hi hX ht hty hoty hj k
    obtain ⟨hw, h60⟩ := prs_wt hg hoty.1 hL
    have e := ht.1
    have en : gi M 5 5 = j.2.2.2.2 := hj.2.2.2.2.1
    have hoty32 := hoty.1
    by_cases hst : v1 ≤ 0 ∨ ¬ j.2.2.2.2 = 0
    · unfold bmS at k
      rw [if_pos hst] at k
      have kk := k M zSm.rf hX hty hoty hj
      apply b_X4_byMoves_24
      case k1 => intro _; exact kk
      case k2 => intro _ _; exact kk
      all_goals (intros; omega)
    · unfold bmS at k
      rw [if_neg hst] at k
      by_cases hiL : L.length ≤ i
      · rw [if_pos hiL] at k
        apply b_X4_byMoves_24
        case k6 =>
          intro _ _ _ _
          rw [show v1 + (-1) = v1 - 1 from by omega]
          exact ih (v1 - 1) 0 (v3 + 1) M L ty j (by omega) (by omega) (by omega) (by omega) hL (by omega) hX ht hty hoty hj k
        all_goals (intros; omega)
      · rw [if_neg hiL] at k
        have hat := ht.at (show i < L.length by omega)
        by_cases hz : nZ (ndG L i) = v1
        · rw [if_pos hz] at k
          apply b_X4_byMoves_24
          case k4 => intro _ _ _ _ h; exact absurd (hat.2.2.2.1.trans hz) h
          case k5 =>
            intro _ _ _ _ _
            refine m_X4_takesMove (L := L) (ty := ty) (i := i) (j := j) (oc := oc) (on := on) hg hoty hw (by omega) hX ht hty hj (fun M1 f1 hX1 q1 q2 q3 => ?_)
            have tl := tmS_len (on := on) (oc := oc) (ps := prs g ord em st) hw (show i < L.length by omega) (by omega) (L.length - i) i j (by omega)
            have ts := tmS_stay (on := on) (oc := oc) (ps := prs g ord em st) (ty := ty) (L := L) (i := i) (L.length - i) i j
            generalize hr : tmS on oc (prs g ord em st) ty L i (L.length - i) i j = r at q1 q2 q3 k tl ts
            have ht1 : TR M1 L := ht.same (fun a p1 p2 => f1.ge (by simp [TFr]; omega))
            have hf1 : zSm RFr M M1 := f1.mono (by decide)
            by_cases hb : r.1 = true
            · rw [if_pos hb] at k ⊢
              obtain ⟨t1, t2⟩ := tl hb
              apply b_X4_byMoves_81
              case k1 => intro h; exact absurd h (by decide)
              case k2 =>
                intro _
                refine m_X7_build (s := r.2.1) zTx_1 (by omega) hX1.1 hg hX1.2.1 hX1.2.2.1 q1 q2 (fun hp _ _ _ _ => by rw [hp] at t2; cases t2) (fun L' hp M2 f2 hm ht2 => ?_)
                have hX2 := hX1.fr f2 (by decide) (hm.imx q2)
                rw [hp] at k
                apply b_X4_byMoves_95
                · omega
                · have q12 := q1.fr f2 (by decide) (by decide)
                  rw [q12.1]
                  exact ih (r.2.1.length) 0 (v3 + 1) M2 L' r.2.1 r.2.2 (by omega) (by omega) (by have := q2.1; omega) (by have := q2.1; omega) hp (by omega) hX2 ht2 q12 q2 (q3.fr f2 (by decide) (by decide) (by decide)) (fun M' a1 a2 a3 a4 a5 => k M' ((hf1.tr (f2.mono (by decide))).tr a1) a2 a3 a4 a5)
              all_goals (intros; omega)
            · rw [if_neg hb] at k ⊢
              have ets := ts hb
              rw [ets] at q1
              apply b_X4_byMoves_81
              case k1 =>
                intro _
                exact ih v1 (i + 1) (v3 + 1) M1 L ty r.2.2 (by omega) (by omega) hv (by omega) hL (by omega) hX1 ht1 q1 hoty q3 (fun M' a1 a2 a3 a4 a5 => k M' (hf1.tr a1) a2 a3 a4 a5)
              case k2 => intro h; exact absurd rfl h
              all_goals (intros; omega)
          all_goals (intros; omega)
        · rw [if_neg hz] at k
          apply b_X4_byMoves_24
          case k4 =>
            intro _ _ _ _ _
            exact ih v1 (i + 1) (v3 + 1) M L ty j (by omega) (by omega) hv (by omega) hL (by omega) hX ht hty hoty hj k
          case k5 => intro _ _ _ _ h; exact absurd (hat.2.2.2.1.symm.trans h) hz
          all_goals (intros; omega)
theorem m_X4_byMoves (hg : GG g ord n st em) {M : zM} {ty : List Int} {j : JS} {L : List nd} (hL : prs g ord em st ty = some L) (hX : XR M g ord n st em oc) (hty : tT M 1 ty) (hoty : okS ty) (hj : JX M on j)
    (k : ∀ M', zSm RFr M M' → XR M' g ord n st em oc → tT M' 1 (bmS on oc (prs g ord em st) 100000 L ty.length 0 ty j).1 → okS (bmS on oc (prs g ord em st) 100000 L ty.length 0 ty j).1 → JX M' on (bmS on oc (prs g ord em st) 100000 L ty.length 0 ty j).2 → K M') : zCv B zy_X4_byMoves 67 0 0 [zR 31] M K := by
  have h32 := hoty.1
  refine e_X4_byMoves (fun n0 => b_X4_byMoves_0 ?_)
  refine m_X7_build (s := ty) zTx_1 (by omega) hX.1 hg hX.2.1 hX.2.2.1 hty hoty (fun hp _ _ _ _ => by rw [hp] at hL; cases hL) (fun L' hp M2 f2 hm ht2 => ?_)
  rw [hp] at hL
  cases hL
  have hX2 := hX.fr f2 (by decide) (hm.imx hoty)
  have q12 := hty.fr f2 (by decide) (by decide)
  refine b_X4_byMoves_11 ?_
  rw [q12.1]
  exact l_X4_byMoves hg 100000 ty.length 0 0 M2 L ty j (by omega) (by omega) (by omega) (by omega) hp (by omega) hX2 ht2 q12 hoty (hj.fr f2 (by decide) (by decide) (by decide)) (fun M' a1 a2 a3 a4 a5 => k M' ((f2.mono (by decide)).tr a1) a2 a3 a4 a5)
end BM
