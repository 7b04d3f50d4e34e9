/-! ===== Reducer: byLevels, byMoves ===== -/
theorem tkS_sub {on : Int} {oc : List Int → Int} {b : List Int} {n : Int} {al : Bool} : ∀ (m : Nat) (p : Int) (z : LSt), ∀ u ∈ (tkS on oc b n al m p z).2.1, u ∈ z.1 := by
  intro m
  induction m with
  | zero => intro p z u hu; exact hu
  | succ m ih =>
    intro p z u hu
    unfold tkS at hu
    split at hu
    · exact hu
    · split at hu
      · exact kpI_mem _ _ u hu
      · exact ih (p + 1) (z.1, z.2.1, z.2.2.1, (askS on oc z.2.2.2 (mskT b (thS z.1 z.2.1 (parF n z.1.length p) (parF n z.1.length (p + 1)) al))).2) u hu
theorem trS_sub {on : Int} {oc : List Int → Int} {b : List Int} {n : Int} {al go : Bool} {z : LSt} : ∀ u ∈ (trS on oc b n al go z).2.1, u ∈ z.1 := by
  intro u hu
  unfold trS at hu
  split at hu
  · exact tkS_sub _ _ _ u hu
  · exact hu
theorem leS_sub {on : Int} {oc : List Int → Int} {b : List Int} : ∀ (f : Nat) (n : Int) (z : LSt), ∀ u ∈ (leS on oc b f n z).1, u ∈ z.1 := by
  intro f
  induction f with
  | zero => intro n z u hu; exact hu
  | succ f ih =>
    intro n z u hu
    unfold leS at hu
    split at hu
    · exact hu
    · split at hu
      · exact trS_sub u (ih _ _ u hu)
      · split at hu
        · exact trS_sub u (trS_sub u (ih _ _ u hu))
        · split at hu
          · exact trS_sub u (trS_sub u hu)
          · exact trS_sub u (trS_sub u (ih _ _ u hu))
theorem WT.dep {wl : Int} {L : List nd} (hw : WT wl L) : ∀ k, k < L.length → 0 ≤ nD (ndG L k) ∧ nD (ndG L k) ≤ k := by
  intro k
  induction k using Nat.strongRecOn with
  | _ k ih =>
    intro hk
    by_cases h0 : k = 0
    · rw [h0, hw.2.2.1]; simp
    · obtain ⟨a, b, c, d⟩ := hw.2.2.2.2 k (by omega) hk
      have := ih (nP (ndG L k)).toNat (by omega) (by omega)
      omega
theorem dpF_bd {f : Nat → Int} {c : Int} (hc : 0 ≤ c) : ∀ n, (∀ i, i < n → f i ≤ c) → 0 ≤ dpF f n ∧ dpF f n ≤ c := by
  intro n
  induction n with
  | zero => intro _; exact ⟨Int.le_refl _, hc⟩
  | succ n ih =>
    intro h
    have h1 := ih (fun i hi => h i (by omega))
    have h2 := h n (by omega)
    unfold dpF
    split <;> omega
theorem dpL_bd {wl : Int} {L : List nd} (hw : WT wl L) (h60 : L.length ≤ 60) : 0 ≤ dpL L ∧ dpL L ≤ 60 := by
  unfold dpL
  refine dpF_bd (by decide) _ (fun i hi => ?_)
  have := hw.dep i hi
  omega
def RFr : List Nat := [1, 2, 5, 6, 7, 19, 20, 21, 22, 23, 24, 25, 26, 27, 28, 29, 30, 32, 33, 34, 35, 36, 37, 38, 39, 40, 41, 42, 43, 44]
section BL
variable {B : zB} {n0 : Nat} {K : zM → Prop} {g : zG} {ord : Nat → Nat} {n st : Nat} {em : Nat → Bool} {oc : List Int → Int} {on : Int}
theorem XR.im {S : List Nat} {M M' : zM} (h : XR M g ord n st em oc) (hs : zSm S M M') (hd : ∀ a ∈ S, (a < 8 ∨ 16 < a) ∧ a < 88 ∧ (a < 19 ∨ 23 < a)) : XR M' g ord n st em oc :=
  h.fr hs (fun a ha => ⟨(hd a ha).1, (hd a ha).2.1⟩) (h.2.2.1.same (fun a q1 q2 => hs.ge (fun q => by have := (hd a q).2.2; omega)))
/-- the levels of one tree -/
theorem l_X4_levels (v1 v2 v3 v4 : Int) (hv3 : 0 ≤ v3 ∧ v3 ≤ 32) {b : List Int} (hob : okS b) {L : List nd} (hw : WT b.length L) (h60 : L.length ≤ 60) : ∀ (m : Nat) (d : Int) (M : zM) (av : Nat → Bool) (w : (Nat → Bool) × List Int × JS), d + m = dpL L + 1 → 1 ≤ d → XR M g ord n st em oc → TR M L → tT M 36 b → thX M 40 w.1 → tT M 1 w.2.1 → okS w.2.1 → JX M on w.2.2 → ((d = 1 ∧ av = fun i => decide (i = 0)) ∨ (2 ≤ d ∧ AX M L (d - 1) av)) →
    (∀ M' d', zSm RFr M M' → XR M' g ord n st em oc → TR M' L → tT M' 1 (lvS on oc b L m d av w).2.1 → okS (lvS on oc b L m d av w).2.1 → JX M' on (lvS on oc b L m d av w).2.2 → (dpL L < d' ∨ (d' ≤ dpL L ∧ ¬ (lvS on oc b L m d av w).2.2.2.2.2.2 = 0)) → zGv B zy_X4_byLevels 67 0 0 n0 K 52 [some (zR 31), some (zI v1), some (zI v2), some (zI v3), some (zI v4), some (zI (dpL L)), some (zI d')] [] M' 0 0) →
    zGv B zy_X4_byLevels 67 0 0 n0 K 52 [some (zR 31), some (zI v1), some (zI v2), some (zI v3), some (zI v4), some (zI (dpL L)), some (zI d)] [] M 0 0 := by
  have hob32 := hob.1
  have hdp := dpL_bd hw h60
  intro m
  induction m with
  | zero =>
    intro d M av w hd h1 hX ht hb hth hty hoty hj ha k
    exact k M d zSm.rf hX ht hty hoty hj (Or.inl (by omega))
  | succ m ih =>
    intro d M av w hd h1 hX ht hb hth hty hoty hj ha k
    have en : gi M 5 5 = w.2.2.2.2.2.2 := hj.2.2.2.2.1
    by_cases hend : ¬ w.2.2.2.2.2.2 = 0
    · unfold lvS at k
      rw [if_pos hend] at k
      exact k M d zSm.rf hX ht hty hoty hj (Or.inr ⟨by omega, hend⟩)
    · have e0 : gi M 5 5 = 0 := by rw [en]; omega
      unfold lvS at k
      rw [if_neg hend] at k
      apply b_X4_byLevels_52
      case k9 =>
        intro _ _
        refine m_X4_chooseUnits (av := av) hw (by omega) h1 ht ha (fun M1 f1 g1 g2 => b_X4_byLevels_75 ?_)
        have hX1 := hX.im f1 (by decide)
        obtain ⟨u1, u2, u3⟩ := lvU_ok (d := d) (av := av) hw (by omega) (L.length - 1) 1 (by have := hw.1; omega) (by omega)
        refine m_X2_lessen (b := b) (z := (lvU L av d (L.length - 1) 1, w)) hob hX1.2.2.2.1 hX1.2.2.2.2 (hb.fr f1 (by decide) (by decide)) ⟨g1, hth.fr f1 (by decide), hty.fr f1 (by decide) (by decide), hoty, hj.fr f1 (by decide) (by decide) (by decide), u1⟩ (fun M2 f2 g3 => b_X4_byLevels_82 ?_)
        have hf2 : zSm RFr M M2 := (f1.mono (by decide)).tr (f2.mono (by decide))
        generalize hz : lesS on oc b (lvU L av d (L.length - 1) 1, w) = z at g3 k
        have hsub : ∀ u ∈ z.1, ∃ x : Nat, x < L.length ∧ u.2.2 = (x : Int) ∧ nD (ndG L x) = d := fun u hu => u3 u (by
          rw [← hz] at hu
          exact leS_sub _ _ _ u hu)
        refine m_X4_keepUnits (L := L) (d := d) (U := z.1) h60 g3.1 (fun u hu => by obtain ⟨x, q1, q2, q3⟩ := hsub u hu; exact ⟨x, q1, q2⟩) (fun x hx hdx => by rw [f2.ge (by decide)]; exact g2 x hx hdx) (fun M3 f3 g4 => ?_)
        have hf3 := hf2.tr (f3.mono (by decide))
        have hX3 : XR M3 g ord n st em oc := (hX1.im f2 (by decide)).im f3 (by decide)
        apply b_X4_byLevels_86
        · omega
        · refine ih (d + 1) M3 (fun i => z.1.any (fun u => decide (u.2.2 = (i : Int)))) z.2 (by omega) (by omega) hX3 (ht.same (fun a q1 q2 => by rw [f3.ge (by simp; omega), f2.ge (by simp [LFr]; omega), f1.ge (by simp; omega)])) (((hb.fr f1 (by decide) (by decide)).fr f2 (by decide) (by decide)).fr f3 (by decide) (by decide)) (g3.2.1.fr f3 (by decide)) (g3.2.2.1.fr f3 (by decide) (by decide)) g3.2.2.2.1 (g3.2.2.2.2.1.fr f3 (by decide) (by decide) (by decide)) (Or.inr ⟨by omega, by rw [show d + 1 - 1 = d from by omega]; exact g4⟩) (fun M' d' a1 a2 a3 a4 a5 a6 a7 => k M' d' (hf3.tr a1) a2 a3 a4 a5 a6 a7)
      all_goals (intros; omega)
theorem l_X4_byLevels (hg : GG g ord n st em) {again : Bool} {v1 : Int} (hv1 : v1 = if again = true then 1 else 0) : ∀ (f : Nat) (v3 : Int) (M : zM) (ty : List Int) (j : JS) (v2 : Int), v3 + f = 33 → 0 ≤ v3 → XR M g ord n st em oc → tT M 1 ty → okS ty → JX M on j → (v2 = 0 ∨ v2 = 1) → (v2 = 0 → prs g ord em st ty = none ∨ f = 0) → (v2 = 1 → ∃ L, prs g ord em st ty = some L ∧ TR M L) →
    (∀ M', zSm RFr M M' → XR M' g ord n st em oc → tT M' 1 (blS on oc (prs g ord em st) again f ty j).1 → okS (blS on oc (prs g ord em st) again f ty j).1 → JX M' on (blS on oc (prs g ord em st) again f ty j).2 → K M') →
    zGv B zy_X4_byLevels 67 0 0 n0 K 14 [some (zR 31), some (zI v1), some (zI v2), some (zI v3), none, none, none] [] M 0 0 := by
  intro f
  induction f with
  | zero =>
    intro v3 M ty j v2 hf h0 hX hty hoty hj hv2 hn hs k
    have kk := k M zSm.rf hX hty hoty hj
    apply b_X4_byLevels_14
    case k1 => intro _; exact kk
    case k2 => intro _ _; exact kk
    all_goals (intros; omega)
  | succ f ih =>
    intro v3 M ty j v2 hf h0 hX hty hoty hj hv2 hn hs k
    by_cases h2 : v2 = 0
    · have hnone : prs g ord em st ty = none := by
        rcases hn h2 with h | h
        · exact h
        · omega
      have kk := k M zSm.rf hX (by unfold blS; rw [hnone]; exact hty) (by unfold blS; rw [hnone]; exact hoty) (by unfold blS; rw [hnone]; exact hj)
      apply b_X4_byLevels_14
      case k1 => intro _; exact kk
      all_goals (intros; omega)
    · obtain ⟨L, hL, ht⟩ := hs (by omega)
      have hwt := prs_wt hg hoty.1 hL
      have hdp := dpL_bd hwt.1 hwt.2
      unfold blS at k
      rw [hL] at k
      dsimp only at k
      apply b_X4_byLevels_14
      case k1 => intro q; exact absurd q h2
      case k2 => intro _ _; omega
      case k3 =>
        intro _ _
        have ety := hty.1
        rw [ety]
        refine m_X2_begin hty hoty (fun M1 f1 g1 g2 g3 => ?_)
        have hX1 := hX.im f1 (by decide)
        have ht1 : TR M1 L := ht.same (fun a q1 q2 => f1.ge (by simp; omega))
        apply b_X4_byLevels_40 (L := L) (wl := ty.length)
        case k1 =>
          refine l_X4_levels v1 v2 v3 ty.length (by omega) hoty hwt.1 hwt.2 (dpL L).toNat 1 M1 (fun i => decide (i = 0)) (fun _ => true, ty, j) (by omega) (by omega) hX1 ht1 g1 g2 (hty.fr f1 (by decide) (by decide)) hoty (hj.fr f1 (by decide) (by decide) (by decide)) (Or.inl ⟨rfl, rfl⟩) (fun M2 d' f2 hX2 ht2 q1 q2 q3 q4 => ?_)
          have hf2 : zSm RFr M M2 := (f1.mono (by decide)).tr f2
          have el : (lvS on oc ty L (dpL L).toNat 1 (fun i => decide (i = 0)) (fun _ => true, ty, j)).2 = l1S on oc L ty j := rfl
          rw [el] at q1 q2 q3 q4
          generalize hr : l1S on oc L ty j = r at q1 q2 q3 q4 k
          have e55 : gi M2 5 5 = r.2.2.2.2.2 := q3.2.2.2.2.1
          have e11 : gi M2 1 1 = r.1.length := q1.1
          -- the pass was the last
          have last : ¬ (again = true ∧ r.2.2.2.2.2 = 0 ∧ r.1.length < ty.length) → zGv B zy_X4_byLevels 67 0 0 n0 K 14 [some (zR 31), some (zI v1), some (zI 0), some (zI (v3 + 1)), none, none, none] [] M2 0 0 := fun hl => by
            rw [if_neg hl] at k
            have kk := k M2 hf2 hX2 q1 q2 q3
            apply b_X4_byLevels_14
            case k1 => intro _; exact kk
            all_goals (intros; omega)
          have more : (again = true ∧ r.2.2.2.2.2 = 0 ∧ r.1.length < ty.length) → zCi B zy_X7_build 66 0 0 [zR 24, zR 1] M2 (fun x M' => zGv B zy_X4_byLevels 67 0 0 n0 K 129 [some (zR 31), some (zI v1), some (zI v2), some (zI v3), some (zI ty.length), some (zI (dpL L)), some (zI d')] [zI x] M' 0 0) := fun hl => by
            rw [if_pos hl] at k
            have him := hX2.2.2.1
            have fin : ∀ (x : Int) (M3 : zM), zSm [19, 20, 21, 22, 23, 24, 25, 26, 27, 28, 29, 30] M2 M3 → MT M3 g ord em r.1 → (x = 0 ∨ x = 1) → (x = 0 → prs g ord em st r.1 = none) → (x = 1 → ∃ L, prs g ord em st r.1 = some L ∧ TR M3 L) → zGv B zy_X4_byLevels 67 0 0 n0 K 129 [some (zR 31), some (zI v1), some (zI v2), some (zI v3), some (zI ty.length), some (zI (dpL L)), some (zI d')] [zI x] M3 0 0 := fun x M3 f3 hm hx hx0 hx1 => by
              have hX3 := hX2.fr f3 (by decide) (hm.imx q2)
              apply b_X4_byLevels_129
              · omega
              · have ex : (if ¬ x = 0 then (1 : Int) else 0) = x := by rcases hx with h | h <;> rw [h] <;> rfl
                rw [ex]
                exact ih (v3 + 1) M3 r.1 r.2 x (by omega) (by omega) hX3 (q1.fr f3 (by decide) (by decide)) q2 (q3.fr f3 (by decide) (by decide) (by decide)) hx (fun h => Or.inl (hx0 h)) hx1 (fun M' a1 a2 a3 a4 a5 => k M' ((hf2.tr (f3.mono (by decide))).tr a1) a2 a3 a4 a5)
            refine m_X7_build (s := r.1) zTx_1 (by omega) hX2.1 hg hX2.2.1 him q1 q2 (fun hp M3 f3 hm h24 => fin 0 M3 f3 hm (Or.inl rfl) (fun _ => hp) (fun h => absurd h (by decide))) (fun L' hp M3 f3 hm ht3 => fin 1 M3 f3 hm (Or.inr rfl) (fun h => absurd h (by decide)) (fun _ => ⟨L', hp, ht3⟩))
          have hag : v1 = 0 → again = false := fun h => by
            rw [hv1] at h
            cases ha : again with
            | false => rfl
            | true => rw [ha] at h; exact absurd h (by decide)
          have hag1 : ¬ v1 = 0 → again = true := fun h => by
            rw [hv1] at h
            cases ha : again with
            | true => rfl
            | false => rw [ha] at h; exact absurd rfl h
          apply b_X4_byLevels_52
          case k1 => intro _ h; exact last (fun q => by rw [hag h] at q; exact absurd q.1 (by decide))
          case k2 => intro _ _ h; exact last (fun q => by rw [e55] at h; exact h q.2.1)
          case k3 => intro _ _ _ h; exact last (fun q => by omega)
          case k4 => intro _ h1 h2 h3; exact more ⟨hag1 h1, by rw [← e55]; exact h2, by omega⟩
          case k5 => intro _ _ h; exact last (fun q => by rw [hag h] at q; exact absurd q.1 (by decide))
          case k6 => intro _ _ _ h; exact last (fun q => by rw [e55] at h; exact h q.2.1)
          case k7 => intro _ _ _ _ h; exact last (fun q => by omega)
          case k8 => intro _ h _ h2; exact absurd h2 h
          case k9 => intro h h2; rcases q4 with q4 | q4 <;> omega
          all_goals (intros; omega)
        all_goals first | exact ht1 | exact hwt.1
theorem m_X4_byLevels (hg : GG g ord n st em) {again : Bool} {p1 : Int} (hv1 : p1 = if again = true then 1 else 0) {M : zM} {ty : List Int} {j : JS} (hX : XR M g ord n st em oc) (hty : tT M 1 ty) (hoty : okS ty) (hj : JX M on j)
    (k : ∀ M', zSm RFr M M' → XR M' g ord n st em oc → tT M' 1 (blS on oc (prs g ord em st) again 33 ty j).1 → okS (blS on oc (prs g ord em st) again 33 ty j).1 → JX M' on (blS on oc (prs g ord em st) again 33 ty j).2 → K M') : zCv B zy_X4_byLevels 67 0 0 [zR 31, zI p1] M K := by
  refine e_X4_byLevels (fun n0 => b_X4_byLevels_0 ?_)
  have fin : ∀ (x : Int) (M3 : zM), zSm [19, 20, 21, 22, 23, 24, 25, 26, 27, 28, 29, 30] M M3 → MT M3 g ord em ty → (x = 0 ∨ x = 1) → (x = 0 → prs g ord em st ty = none) → (x = 1 → ∃ L, prs g ord em st ty = some L ∧ TR M3 L) → zGv B zy_X4_byLevels 67 0 0 n0 K 11 [some (zR 31), some (zI p1), none, none, none, none, none] [zI x] M3 0 0 := fun x M3 f3 hm hx hx0 hx1 => by
    have hX3 := hX.fr f3 (by decide) (hm.imx hoty)
    refine b_X4_byLevels_11 ?_
    exact l_X4_byLevels hg hv1 33 0 M3 ty j x (by omega) (by omega) hX3 (hty.fr f3 (by decide) (by decide)) hoty (hj.fr f3 (by decide) (by decide) (by decide)) hx (fun h => Or.inl (hx0 h)) hx1 (fun M' a1 a2 a3 a4 a5 => k M' ((f3.mono (by decide)).tr a1) a2 a3 a4 a5)
  exact m_X7_build (s := ty) zTx_1 (by omega) hX.1 hg hX.2.1 hX.2.2.1 hty hoty (fun hp M3 f3 hm h24 => fin 0 M3 f3 hm (Or.inl rfl) (fun _ => hp) (fun h => absurd h (by decide))) (fun L' hp M3 f3 hm ht3 => fin 1 M3 f3 hm (Or.inr rfl) (fun h => absurd h (by decide)) (fun _ => ⟨L', hp, ht3⟩))
end BL
