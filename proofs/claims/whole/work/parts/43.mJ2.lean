theorem slL_get {M : zM} {i : Nat} (h : i < (slL M).length) : (slL M)[i] = slT M i (gi M 7 i).toNat := by simp [slL]
theorem l_X1_isHeld {B : zB} {n0 : Nat} {K : Int → zM → Prop} {M : zM} {t : Nat} (ht : zTx t) {s : List Int} (hB : slB M) (h6 : 0 ≤ gi M 5 6 ∧ gi M 5 6 ≤ 24) (hs : tT M t s) (ho : s.length ≤ 32) (k : K (if s ∈ slL M then 1 else 0) M) : ∀ (m j : Nat), ((j + m : Nat) : Int) = gi M 5 6 → (∀ x, x < j → ¬ (gi M 7 x = s.length ∧ slT M x s.length = s)) →
    zGi B zy_X1_isHeld 2 0 0 n0 K 2 [some (zR 5), some (zR t), some (zI j)] [] M 0 0 := by
  have e := hs.1
  intro m
  induction m with
  | zero =>
    intro j hj h
    apply b_X1_isHeld_2 ht (s := s)
    case k1 =>
      intro _
      rw [if_neg (fun q => by
        obtain ⟨i, h1, h2, h3⟩ := (slL_mem hB).mp q
        exact h i (by omega) ⟨h2, h3⟩)] at k
      exact k
    all_goals first | assumption | (intros; omega)
  | succ m ih =>
    intro j hj h
    have go : ¬ (gi M 7 j = s.length ∧ slT M j s.length = s) → zGi B zy_X1_isHeld 2 0 0 n0 K 2 [some (zR 5), some (zR t), some (zI ((j : Int) + 1))] [] M 0 0 := fun h3 => ih (j + 1) (by omega) (fun x hx => by
      by_cases hxj : x < j
      · exact h x hxj
      · rw [show x = j from by omega]; exact h3)
    apply b_X1_isHeld_2 ht (s := s)
    case k1 => intro _; omega
    case k2 => intro _ h2; exact go (fun q => h2 (by rw [e]; exact q.1))
    case k3 => intro _ h2 h3; exact go (fun q => h3 q.2)
    case k4 =>
      intro _ h2 h3
      rw [if_pos ((slL_mem hB).mpr ⟨j, by omega, by rw [e] at h2; exact h2, h3⟩)] at k
      exact k
    all_goals first | assumption | (intros; omega)
theorem p_X1_isHeld {B : zB} {K : Int → zM → Prop} {M : zM} {t : Nat} (ht : zTx t) {s : List Int} (hB : slB M) (h6 : 0 ≤ gi M 5 6 ∧ gi M 5 6 ≤ 24) (hs : tT M t s) (ho : s.length ≤ 32) (k : K (if s ∈ slL M then 1 else 0) M) : zCi B zy_X1_isHeld 2 0 0 [zR 5, zR t] M K :=
  e_X1_isHeld (fun _ => b_X1_isHeld_0 ht (l_X1_isHeld ht hB h6 hs ho k (gi M 5 6).toNat 0 (by omega) (fun x hx => by omega)))
theorem p_X1_verdict {B : zB} {K : Int → zM → Prop} {M : zM} {t : Nat} (ht : zTx t) {s : List Int} (hR : okR M) (hs : tT M t s) (ho : s.length ≤ 32) (k : K (ocX M s) M) : zCi B zy_X1_verdict 10 0 0 [zR 5, zR t] M K := by
  refine e_X1_verdict (fun n0 => ?_)
  apply b_X1_verdict_0 ht (s := s)
  case k1 =>
    intro h
    unfold ocX at k
    rw [if_neg h] at k
    have e : (if ¬ (tvl M 6 (gr M 5 1) s = true) then 0 else 2) = (if tvl M 6 (gr M 5 1) s = true then (2 : Int) else 0) := by
      by_cases q : tvl M 6 (gr M 5 1) s = true
      · rw [if_neg (fun z => z q), if_pos q]
      · rw [if_pos q, if_neg q]
    first | exact k | (rw [e]; exact k)
  case k2 => intro h; unfold ocX at k; rw [if_pos h] at k; exact k
  all_goals first | assumption | (intros; exact hR _ _ _ (by assumption))
theorem m_X1_allow {B : zB} {K : zM → Prop} {M : zM} {p1 : Int} (k : K (si (si M 5 7 p1) 5 5 0)) : zCv B zy_X1_allow 1 0 0 [zR 5, zI p1] M K := e_X1_allow (fun _ => b_X1_allow_0 k)
theorem m_X1_forget {B : zB} {K : zM → Prop} {M : zM} (k : K (si (si M 5 6 0) 5 8 0)) : zCv B zy_X1_forget 1 0 0 [zR 5] M K := e_X1_forget (fun _ => b_X1_forget_0 k)
theorem l_X1_hold {B : zB} {n0 : Nat} {K : zM → Prop} {t : Nat} (ht : zTx t) (ht6 : t + 1 < 5 ∨ 7 < t) {s : List Int} (ho : okS s) {i : Nat} (hi : i < 24) : ∀ (m j : Nat) (M : zM), j + m = s.length → tT M t s → (∀ x, x < j → gi M 6 (i * 32 + x) = s.getD x 0) →
    (∀ M', zSm [6] M M' → (∀ x, (x < i * 32 ∨ i * 32 + 32 ≤ x) → gi M' 6 x = gi M 6 x) → slT M' i s.length = s → K M') → zGv B zy_X1_hold 1 0 0 n0 K 57 [some (zR 5), some (zR t), some (zI i), some (zI j)] [] M 0 0 := by
  have hol := ho.1
  intro m
  induction m with
  | zero =>
    intro j M hj hs h k
    have e := hs.1
    apply b_X1_hold_57 ht
    case k1 =>
      intro _
      refine k M zSm.rf (fun _ _ => rfl) ?_
      apply List.ext_getElem
      · exact slT_len
      · intro x h1 h2
        have := h x (by omega)
        simp [slT, sg, this, List.getD, h2]
    all_goals (intros; omega)
  | succ m ih =>
    intro j M hj hs h k
    have e := hs.1
    have hjs : j < s.length := by omega
    have hx := hs.2.get hjs
    have hb := ho.get hjs
    have e6 : ((i : Int) * 32 + j).toNat = i * 32 + j := by omega
    apply b_X1_hold_57 ht
    case k1 => intro _; omega
    case k2 =>
      intro _
      rw [e6, show (j : Int).toNat = j from rfl, hx]
      have hf : zSm [6] M (si M 6 (i * 32 + j) (s.getD j 0)) := zSm.rf.st (by simp)
      refine ih (j + 1) _ (by omega) (hs.fr hf (by simp; omega) (by simp; omega)) (fun x hx2 => ?_) (fun M' g1 g2 g3 => k M' (hf.tr g1) (fun x hx2 => ?_) g3)
      · rw [gi_si_eq]
        split
        · rw [show x = j from by omega]
        · exact h x (by omega)
      · rw [g2 x hx2, gi_si_eq, if_neg (by omega)]
    case c5 => intro _; rw [show (j : Int).toNat = j from rfl, hx]; exact hb
    all_goals (intros; omega)
/-- the text is remembered -/
theorem m_X1_hold {B : zB} {K : zM → Prop} {M : zM} {t : Nat} (ht : zTx t) (ht6 : t + 1 < 5 ∨ 7 < t) {s : List Int} {R : List (List Int)} (hs : tT M t s) (ho : okS s) (hH : HX M R) (k : ∀ M', zSm [5, 6, 7] M M' → (∀ j, j ≠ 6 → j ≠ 8 → gi M' 5 j = gi M 5 j) → HX M' (holdS R s) → K M') : zCv B zy_X1_hold 1 0 0 [zR 5, zR t] M K := by
  have hol := ho.1
  have e := hs.1
  obtain ⟨h1, h2, o, h3, h4, h5, h6⟩ := hH
  have hlen := slL_len h2.1
  have hRl : R.length = (slL M).length := by rw [h6]; simp; omega
  refine e_X1_hold (fun n0 => ?_)
  apply b_X1_hold_0 ht
  case k1 =>
    intro hge
    have e24 : gi M 5 6 = 24 := by omega
    rw [h3, show (o : Int).toNat = o from rfl, e]
    have hf : zSm [5, 6, 7] M (si (si M 5 8 (((o : Int) + 1) % 24)) 7 o (s.length : Int)) := (zSm.rf.st (by simp)).st (by simp)
    refine l_X1_hold ht ht6 ho h4 s.length 0 _ (by omega) (hs.fr hf (by simp; omega) (by simp; omega)) (fun x hx => by omega) (fun M' g1 g2 g3 => ?_)
    have q7 : ∀ i, gi M' 7 i = if i = o then (s.length : Int) else gi M 7 i := fun i => by
      rw [g1.ge (by decide), gi_si_eq]
      split
      · rfl
      · rw [gi_si_ne (by decide)]
    have q5 : ∀ j, j ≠ 8 → gi M' 5 j = gi M 5 j := fun j hj => by rw [g1.ge (by decide), gi_si_ne (by decide), gi_si_eq, if_neg hj]
    have q58 : gi M' 5 8 = (((o + 1) % 24 : Nat) : Int) := by rw [g1.ge (by decide), gi_si_ne (by decide), gi_si_eq, if_pos rfl]; omega
    have qT : ∀ i, i ≠ o → ∀ n : Nat, n ≤ 32 → slT M' i n = slT M i n := fun i hi n hn => by
      unfold slT
      apply sg_ext
      intro j hj
      rw [g2 _ (by omega), gi_si_ne (by decide), gi_si_ne (by decide)]
    have qL : slL M' = (slL M).set o s := by
      apply List.ext_getElem
      · unfold slL; simp [q5 6 (by decide)]
      · intro i a1 a2
        rw [List.getElem_set, slL_get, slL_get, q7 i]
        split
        · next hio =>
          subst hio
          rw [if_pos rfl, show ((s.length : Int)).toNat = s.length from rfl]
          exact g3
        · next hio =>
          rw [if_neg (fun q => hio q.symm)]
          have := h1 i
          exact qT i hio _ (by omega)
    refine k M' (hf.tr (g1.mono (by simp))) (fun j _ hj => q5 j hj) ⟨fun i => ?_, by rw [q5 6 (by decide)]; exact h2, (o + 1) % 24, q58, by omega, fun q => by rw [q5 6 (by decide)] at q; omega, ?_⟩
    · rw [q7 i]
      split
      · omega
      · exact h1 i
    · unfold holdS
      rw [if_neg (by omega), qL, h6]
      have hol2 : o < (slL M).length := by omega
      have hl24 : (slL M).length = 24 := by omega
      have hd : (slL M).drop o = (slL M)[o] :: (slL M).drop (o + 1) := List.drop_eq_getElem_cons hol2
      rw [hd, List.cons_append, List.drop_one, List.tail_cons]
      by_cases h23 : o + 1 < 24
      · rw [Nat.mod_eq_of_lt h23, List.drop_set_of_lt (by omega), List.take_set, List.append_assoc]
        congr 1
        rw [List.take_succ, List.getElem?_eq_getElem hol2]
        simp only [Option.toList_some]
        rw [List.set_append_right _ _ (by simp; omega)]
        simp [Nat.min_eq_left (Nat.le_of_lt hol2)]
      · have ho23 : o = 23 := by omega
        subst ho23
        have : (slL M).drop 24 = [] := List.drop_eq_nil_of_le (by omega)
        simp only [show (23 + 1) % 24 = 0 from rfl, List.drop_zero, List.take_zero, List.append_nil]
        rw [this, List.nil_append]
        apply List.ext_getElem
        · simp; omega
        · intro i b1 b2
          rw [List.getElem_set]
          split
          · next q => subst q; simp [List.getElem_append, hl24]
          · next q => 
            have : i < 23 := by simp at b1; omega
            rw [List.getElem_append_left (by simp; omega)]
            simp
  case k2 =>
    intro hlt
    have ho0 : o = 0 := h5 hlt
    subst ho0
    have e6 : gi M 5 6 = (((gi M 5 6).toNat : Nat) : Int) := by omega
    rw [e6, e]
    generalize hn : (gi M 5 6).toNat = n
    rw [show ((n : Int)).toNat = n from rfl]
    have hf : zSm [5, 6, 7] M (si (si M 5 6 ((n : Int) + 1)) 7 n (s.length : Int)) := (zSm.rf.st (by simp)).st (by simp)
    refine l_X1_hold ht ht6 ho (by omega) s.length 0 _ (by omega) (hs.fr hf (by simp; omega) (by simp; omega)) (fun x hx => by omega) (fun M' g1 g2 g3 => ?_)
    have q7 : ∀ i, gi M' 7 i = if i = n then (s.length : Int) else gi M 7 i := fun i => by
      rw [g1.ge (by decide), gi_si_eq]
      split
      · rfl
      · rw [gi_si_ne (by decide)]
    have q5 : ∀ j, j ≠ 6 → gi M' 5 j = gi M 5 j := fun j hj => by rw [g1.ge (by decide), gi_si_ne (by decide), gi_si_eq, if_neg hj]
    have q56 : gi M' 5 6 = (n : Int) + 1 := by rw [g1.ge (by decide), gi_si_ne (by decide), gi_si_eq, if_pos rfl]
    have qT : ∀ i, i ≠ n → ∀ x : Nat, x ≤ 32 → slT M' i x = slT M i x := fun i hi x hx => by
      unfold slT
      apply sg_ext
      intro j hj
      rw [g2 _ (by omega), gi_si_ne (by decide), gi_si_ne (by decide)]
    have qL : slL M' = slL M ++ [s] := by
      unfold slL
      rw [q56, show ((n : Int) + 1).toNat = n + 1 from by omega, hn, List.range_succ, List.map_append]
      congr 1
      · apply List.map_congr_left
        intro i hi
        have hi2 := List.mem_range.mp hi
        rw [q7 i, if_neg (by omega)]
        have := h1 i
        exact qT i (by omega) _ (by omega)
      · simp only [List.map_cons, List.map_nil]
        rw [q7 n, if_pos rfl, show ((s.length : Int)).toNat = s.length from rfl, g3]
    refine k M' (hf.tr (g1.mono (by simp))) (fun j hj _ => q5 j hj) ⟨fun i => ?_, by rw [q56]; omega, 0, by rw [q5 8 (by decide)]; exact h3, by omega, fun _ => rfl, ?_⟩
    · rw [q7 i]
      split
      · omega
      · exact h1 i
    · unfold holdS
      rw [if_pos (by omega), qL, h6]
      simp
  all_goals (intros; omega)
