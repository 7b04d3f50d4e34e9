/-! ===== Text ===== -/
theorem m_X6_put {B : zB} {K : Int → zM → Prop} {M : zM} {p1 : Int} {t : Nat} {s : List Int} (ht : zTx t) (hs : tT M t s) (ho : s.length ≤ 32) (hp : 0 ≤ p1 ∧ p1 < 65536)
    (k1 : s.length < 32 → ∀ M', zSm [t, t + 1] M M' → tT M' t (s ++ [p1]) → K 1 M') (k2 : s.length = 32 → K 0 M) : zCi B zy_X6_put 1 0 0 [zR t, zI p1] M K := by
  have e := hs.1
  refine e_X6_put (fun n0 => ?_)
  apply b_X6_put_0 ht
  case k1 =>
    intro h
    refine k1 (by omega) _ ((zSm.rf.st (by simp)).st (by simp)) ⟨?_, ?_⟩
    · rw [gi_si_eq, if_pos rfl, e]
      simp
    · have e2 : (gi M t 1).toNat = s.length := by omega
      rw [e2]
      exact (hs.2.app1).same (gi_si_ne (by omega))
  case k2 => intro h; exact k2 (by omega)
  all_goals intros; omega
theorem take32_app {s d : List Int} (h : s.length = 32) : (s ++ d).take 32 = s := by
  rw [List.take_append_of_le_length (by omega), List.take_of_length_le (by omega)]
theorem drop_cons' {r : List Int} {i : Nat} (h : i < r.length) : r.drop i = r.getD i 0 :: r.drop (i + 1) := by
  rw [List.drop_eq_getElem_cons h]
  simp [List.getD, h]
theorem getD_take {r : List Int} {i n : Nat} (h : i < n) : (r.take n).getD i 0 = r.getD i 0 := by
  simp only [List.getD, List.getElem?_take]
  rw [if_pos h]
theorem l_X6_putSome {B : zB} {n0 : Nat} {K : zM → Prop} {v2 v3 : Int} {t u : Nat} (ht : zTx t) (hu : zTx u) (hd : t ≠ u ∧ t + 1 ≠ u ∧ t ≠ u + 1) {r : List Int} (hr : okS r) : ∀ (n : Nat) (v4 : Int) (M : zM) (s : List Int), 0 ≤ v4 → r.length ≤ v4.toNat + n → tT M t s → s.length ≤ 32 → tT M u r →
    (∀ M', zSm [t, t + 1] M M' → tT M' t ((s ++ (r.take v3.toNat).drop v4.toNat).take 32) → K M') → zGv B zy_X6_putSome 2 0 0 n0 K 3 [some (zR t), some (zR u), some (zI v2), some (zI v3), some (zI v4)] [] M 0 0 := by
  intro n
  induction n with
  | zero =>
    intro v4 M s h0 hn hs hso hur k
    have e := hur.1
    have kk : r.length ≤ v4.toNat → K M := fun q => k M zSm.rf (by
      rw [List.drop_eq_nil_of_le (by rw [List.length_take]; omega), List.append_nil, List.take_of_length_le hso]; exact hs)
    apply b_X6_putSome_3 ht hu
    all_goals intros
    all_goals first | omega | (apply kk; omega)
  | succ n ih =>
    intro v4 M s h0 hn hs hso hur k
    have e := hur.1
    have hrl := hr.1
    have kk : r.length ≤ v4.toNat ∨ v3 ≤ v4 → K M := fun q => k M zSm.rf (by
      rw [List.drop_eq_nil_of_le (by rw [List.length_take]; omega), List.append_nil, List.take_of_length_le hso]; exact hs)
    apply b_X6_putSome_3 ht hu
    case k4 =>
      intro h1 h2 h3
      have hi : v4.toNat < r.length := by omega
      have ed : (r.take v3.toNat).drop v4.toNat = r.getD v4.toNat 0 :: (r.take v3.toNat).drop (v4.toNat + 1) := by
        rw [drop_cons' (by rw [List.length_take]; omega), getD_take (by omega)]
      have e2 : (v4 + 1).toNat = v4.toNat + 1 := by omega
      rw [hur.2.get hi]
      refine m_X6_put ht hs hso (hr.get hi) (fun hl M' hf hs' => b_X6_putSome_34 ht hu (by omega) ?_) (fun hl => b_X6_putSome_34 ht hu (by omega) ?_)
      · refine ih _ M' _ (by omega) (by omega) hs' (by rw [List.length_append, List.length_singleton]; omega) (hur.fr hf (by simp; omega) (by simp; omega)) (fun M2 hf2 hs2 => k M2 (hf.tr hf2) ?_)
        rw [ed]
        rw [e2, List.append_assoc] at hs2
        exact hs2
      · refine ih _ M _ (by omega) (by omega) hs hso hur (fun M2 hf2 hs2 => k M2 hf2 ?_)
        rw [take32_app hl] at hs2 ⊢
        exact hs2
    all_goals intros
    all_goals first | omega | (apply kk; omega)
/-- puts the characters of u, from one place to before another one, behind those of t -/
theorem m_X6_putSome {B : zB} {K : zM → Prop} {M : zM} {p2 p3 : Int} {t u : Nat} {s r : List Int} (ht : zTx t) (hu : zTx u) (hd : t ≠ u ∧ t + 1 ≠ u ∧ t ≠ u + 1) (hs : tT M t s) (hso : s.length ≤ 32) (hur : tT M u r) (hr : okS r) (h2 : 0 ≤ p2)
    (k : ∀ M', zSm [t, t + 1] M M' → tT M' t ((s ++ (r.take p3.toNat).drop p2.toNat).take 32) → K M') : zCv B zy_X6_putSome 2 0 0 [zR t, zR u, zI p2, zI p3] M K :=
  e_X6_putSome (fun _ => b_X6_putSome_0 ht hu (l_X6_putSome ht hu hd hr r.length p2 M s h2 (by omega) hs hso hur k))
theorem m_X6_become {B : zB} {K : zM → Prop} {M : zM} {t u : Nat} {r : List Int} (ht : zTx t) (hu : zTx u) (hd : t ≠ u ∧ t + 1 ≠ u ∧ t ≠ u + 1) (hur : tT M u r) (hr : okS r)
    (k : ∀ M', zSm [t, t + 1] M M' → tT M' t r → K M') : zCv B zy_X6_become 3 0 0 [zR t, zR u] M K := by
  refine e_X6_become (fun _ => b_X6_become_0 ht hu ?_)
  have hf : zSm [t, t + 1] M (si M t 1 0) := zSm.rf.st (by simp)
  have e : gi (si M t 1 0) u 1 = (r.length : Int) := by rw [gi_si_ne (fun q => hd.1 q.symm)]; exact hur.1
  have hrl := hr.1
  rw [e]
  refine m_X6_putSome (s := []) ht hu hd ⟨by rw [gi_si_eq, if_pos rfl]; rfl, zA.nil⟩ (by simp) (hur.fr hf (by simp; omega) (by simp; omega)) hr (by omega) (fun M' hf' hs' => b_X6_become_15 ht hu (k M' (hf.tr hf') ?_))
  simpa [List.take_of_length_le hrl] using hs'
theorem l_X6_holdsSign {B : zB} {n0 : Nat} {K : Int → zM → Prop} {M : zM} {v1 v2 : Int} {t : Nat} (ht : zTx t) {s : List Int} (hs : tT M t s) (hso : s.length ≤ 32) (k : K (if v2 ≤ cntL v1 s then 1 else 0) M) : ∀ (n : Nat) (v4 : Int), 0 ≤ v4 → v4 ≤ s.length → s.length ≤ v4.toNat + n →
    zGi B zy_X6_holdsSign 1 0 0 n0 K 5 [some (zR t), some (zI v1), some (zI v2), some (zI (cntL v1 (s.take v4.toNat))), some (zI v4)] [] M 0 0 := by
  intro n
  have e := hs.1
  induction n with
  | zero =>
    intro v4 h0 h1 hn
    apply b_X6_holdsSign_5 ht
    case k1 => intro h; rw [List.take_of_length_le (by omega)]; exact k
    all_goals intros; omega
  | succ n ih =>
    intro v4 h0 h1 hn
    have hb := cntL_bd (c := v1) (s := s) v4.toNat (by omega)
    apply b_X6_holdsSign_5 ht
    case k1 => intro h; rw [List.take_of_length_le (by omega)]; exact k
    case k2 =>
      intro h
      have h2 := ih (v4 + 1) (by omega) (by omega) (by omega)
      rw [toNat_succ h0, cntL_take (by omega), ← hs.2.get (by omega)] at h2
      exact h2
    all_goals intros; omega
theorem p_X6_holdsSign {B : zB} {K : Int → zM → Prop} {M : zM} {p1 p2 : Int} {t : Nat} (ht : zTx t) {s : List Int} (hs : tT M t s) (hso : s.length ≤ 32) (k : K (if p2 ≤ cntL p1 s then 1 else 0) M) : zCi B zy_X6_holdsSign 1 0 0 [zR t, zI p1, zI p2] M K :=
  e_X6_holdsSign (fun _ => b_X6_holdsSign_0 ht (l_X6_holdsSign ht hs hso k s.length 0 (by omega) (by omega) (by simp)))
theorem l_X6_holdsPair {B : zB} {n0 : Nat} {K : Int → zM → Prop} {M : zM} {v1 v2 v3 : Int} {t : Nat} (ht : zTx t) {s : List Int} (hs : tT M t s) (hso : s.length ≤ 32) (k : K (if prL v1 v2 (decide (v3 ≠ 0)) s = true then 1 else 0) M) : ∀ (n : Nat) (v4 v5 : Int), 0 ≤ v5 → v5 ≤ s.length → s.length ≤ v5.toNat + n →
    (prF v1 v2 (decide (v3 ≠ 0)) (s.take v5.toNat)).1 = false → ((prF v1 v2 (decide (v3 ≠ 0)) (s.take v5.toNat)).2 = true ↔ ¬ v4 = 0) →
    zGi B zy_X6_holdsPair 1 0 0 n0 K 6 [some (zR t), some (zI v1), some (zI v2), some (zI v3), some (zI v4), some (zI v5)] [] M 0 0 := by
  intro n
  have e := hs.1
  have kend : ∀ v5 : Int, s.length ≤ v5.toNat → (prF v1 v2 (decide (v3 ≠ 0)) (s.take v5.toNat)).1 = false → K 0 M := fun v5 h h2 => by
    rw [List.take_of_length_le h] at h2
    have : ¬ prL v1 v2 (decide (v3 ≠ 0)) s = true := by
      unfold prL; rw [h2]; decide
    rw [if_neg this] at k
    exact k
  induction n with
  | zero =>
    intro v4 v5 h0 h1 hn hp1 hp2
    apply b_X6_holdsPair_6 ht
    case k1 => intro h; exact kend v5 (by omega) hp1
    all_goals intros; omega
  | succ n ih =>
    intro v4 v5 h0 h1 hn hp1 hp2
    have step : v5 < (gi M t 1) → prF v1 v2 (decide (v3 ≠ 0)) (s.take (v5 + 1).toNat) = prS v1 v2 (decide (v3 ≠ 0)) (prF v1 v2 (decide (v3 ≠ 0)) (s.take v5.toNat)) (gi M (t + 1) v5.toNat) := fun h => by
      rw [toNat_succ h0, prF_take (by omega), hs.2.get (by omega)]
    have p2 : v5 < (gi M t 1) → (v4 = 0 ∨ ¬ gi M (t + 1) v5.toNat = v2) → zGi B zy_X6_holdsPair 1 0 0 n0 K 6 [some (zR t), some (zI v1), some (zI v2), some (zI v3), some (zI (if (gi M (t + 1) v5.toNat) = v1 ∨ ((¬ v4 = 0) ∧ v3 = 0) then 1 else 0)), some (zI (v5 + 1))] [] M 0 0 := fun h h3 => by
      refine ih _ (v5 + 1) (by omega) (by omega) (by omega) ?_ ?_
      · rw [step h]
        unfold prS
        rw [hp1]
        rcases h3 with h3 | h3
        · have : (prF v1 v2 (decide (v3 ≠ 0)) (s.take v5.toNat)).2 = false := by
            cases hq : (prF v1 v2 (decide (v3 ≠ 0)) (s.take v5.toNat)).2 with
            | false => rfl
            | true => exact absurd h3 (hp2.mp hq)
          rw [this]; simp
        · simp [h3]
      · rw [step h]
        unfold prS
        simp only [Bool.or_eq_true, Bool.and_eq_true, decide_eq_true_eq, hp2, Bool.not_eq_true', decide_eq_false_iff_not, Decidable.not_not, ne_eq]
        split <;> simp_all
    apply b_X6_holdsPair_6 ht
    case k1 => intro h; exact kend v5 (by omega) hp1
    case k2 => intro h h3; exact p2 h (Or.inl h3)
    case k3 => intro h h3 h4; exact p2 h (Or.inr h4)
    case k4 =>
      intro h h3 h4
      have h5 : prL v1 v2 (decide (v3 ≠ 0)) s = true := by
        refine prL_all (i := (v5 + 1).toNat) ?_ (by omega)
        rw [step h]
        unfold prS
        rw [hp1, hp2.mpr h3, h4]
        simp
      rw [if_pos h5] at k
      exact k
    all_goals intros; omega
theorem p_X6_holdsPair {B : zB} {K : Int → zM → Prop} {M : zM} {p1 p2 p3 : Int} {t : Nat} (ht : zTx t) {s : List Int} (hs : tT M t s) (hso : s.length ≤ 32) (k : K (if prL p1 p2 (decide (p3 ≠ 0)) s = true then 1 else 0) M) : zCi B zy_X6_holdsPair 1 0 0 [zR t, zI p1, zI p2, zI p3] M K :=
  e_X6_holdsPair (fun _ => b_X6_holdsPair_0 ht (l_X6_holdsPair ht hs hso k s.length 0 0 (by omega) (by omega) (by simp) rfl (by simp [prF])))
