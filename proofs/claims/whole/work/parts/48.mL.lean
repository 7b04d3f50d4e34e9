/-! ===== Lessening: units, trial ===== -/
def unX (M : zM) (i : Nat) : un := (gi M 42 i, gi M 43 i, gi M 44 i)
def UX (M : zM) (U : List un) : Prop := gi M 35 6 = (U.length : Int) ∧ U.length ≤ 60 ∧ ∀ i, i < U.length → some (unX M i) = U[i]?
def thX (M : zM) (a : Nat) (th : Nat → Bool) : Prop := ∀ i, i < 32 → gi M a i = if th i = true then 0 else 1
theorem UX.same {M M' : zM} {U : List un} (h : UX M U) (e : gi M' 35 6 = gi M 35 6) (e2 : gi M' 42 = gi M 42) (e3 : gi M' 43 = gi M 43) (e4 : gi M' 44 = gi M 44) : UX M' U := by
  unfold UX unX at *
  rw [e, e2, e3, e4]
  exact h
theorem UX.fr {S : List Nat} {M M' : zM} {U : List un} (h : UX M U) (hs : zSm S M M') (a : 35 ∉ S) (b : 42 ∉ S) (c : 43 ∉ S) (d : 44 ∉ S) : UX M' U := h.same (by rw [hs.ge a]) (hs.ge b) (hs.ge c) (hs.ge d)
theorem thX.fr {S : List Nat} {M M' : zM} {a : Nat} {th : Nat → Bool} (h : thX M a th) (hs : zSm S M M') (ha : a ∉ S) : thX M' a th := by
  unfold thX
  rw [hs.ge ha]
  exact h
theorem UX.get {M : zM} {U : List un} (h : UX M U) {i : Nat} (hi : i < U.length) : U[i] = unX M i := by
  have := h.2.2 i hi
  rw [List.getElem?_eq_getElem hi] at this
  exact (Option.some.inj this).symm
/-- one more unit -/
theorem m_X2_addUnit {B : zB} {K : zM → Prop} {M : zM} {p1 p2 p3 : Int} {U : List un} (hU : UX M U) (hl : U.length < 60) (k : ∀ M', zSm [35, 42, 43, 44] M M' → (∀ j, j ≠ 6 → gi M' 35 j = gi M 35 j) → (∀ i, i ≠ U.length → unX M' i = unX M i) → UX M' (U ++ [(p1, p2, p3)]) → K M') : zCv B zy_X2_addUnit 1 0 0 [zR 35, zI p1, zI p2, zI p3] M K := by
  have e := hU.1
  refine e_X2_addUnit (fun n0 => ?_)
  apply b_X2_addUnit_0
  case k1 => intro h; omega
  case k2 =>
    intro _
    rw [e, show ((U.length : Int)).toNat = U.length from rfl]
    have hu : ∀ i, unX (si (si (si (si M 42 U.length p1) 43 U.length p2) 44 U.length p3) 35 6 ((U.length : Int) + 1)) i = if i = U.length then (p1, p2, p3) else unX M i := fun i => by
      unfold unX
      by_cases hi : i = U.length <;> simp [gi_si, hi]
    refine k _ ((((zSm.rf.st (by simp)).st (by simp)).st (by simp)).st (by simp)) (fun j hj => ?_) (fun i hi => by rw [hu i, if_neg hi]) ⟨?_, ?_, fun i hi => ?_⟩
    · simp [gi_si, hj]
    · rw [gi_si_eq, if_pos rfl]; simp
    · simp; omega
    · rw [hu i]
      rw [List.length_append, List.length_singleton] at hi
      by_cases hi2 : i = U.length
      · rw [if_pos hi2, hi2, List.getElem?_append_right (Nat.le_refl _)]
        simp
      · rw [if_neg hi2, List.getElem?_append_left (by omega)]
        exact hU.2.2 i (by omega)
  all_goals (intros; omega)
theorem l_X2_begin {B : zB} {n0 : Nat} {K : zM → Prop} : ∀ (m i : Nat) (M : zM), i + m = 32 → (∀ x, x < i → gi M 40 x = 0) → (∀ M', zSm [40] M M' → (∀ x, x < 32 → gi M' 40 x = 0) → K (si M' 35 6 0)) → zGv B zy_X2_begin 4 0 0 n0 K 13 [some (zR 35), some (zI i)] [] M 0 0 := by
  intro m
  induction m with
  | zero =>
    intro i M hi h k
    apply b_X2_begin_13
    case k1 => intro _; exact k M zSm.rf (fun x hx => h x (by omega))
    all_goals (intros; omega)
  | succ m ih =>
    intro i M hi h k
    apply b_X2_begin_13
    case k1 => intro _; omega
    case k2 =>
      intro _
      have hf : zSm [40] M (si M 40 i 0) := zSm.rf.st (by simp)
      refine ih (i + 1) _ (by omega) (fun x hx => ?_) (fun M' g1 g2 => k M' (hf.tr g1) g2)
      rw [gi_si_eq]
      split
      · rfl
      · exact h x (by omega)
    all_goals (intros; omega)
/-- the base is the typed text, all of it there; no units -/
theorem m_X2_begin {B : zB} {K : zM → Prop} {M : zM} {s : List Int} (hs : tT M 1 s) (ho : okS s) (k : ∀ M', zSm [35, 36, 37, 40] M M' → tT M' 36 s → thX M' 40 (fun _ => true) → UX M' [] → K M') : zCv B zy_X2_begin 4 0 0 [zR 35] M K := by
  refine e_X2_begin (fun n0 => b_X2_begin_0 ?_)
  refine m_X6_become zTx_36 zTx_1 (by omega) hs ho (fun M1 f1 g1 => b_X2_begin_11 ?_)
  refine l_X2_begin 32 0 M1 (by omega) (fun x hx => by omega) (fun M2 f2 g2 => ?_)
  have hf : zSm [35, 36, 37, 40] M (si M2 35 6 0) := ((f1.mono (by simp)).tr (f2.mono (by simp))).st (by simp)
  refine k _ hf ?_ ?_ ⟨?_, by simp, fun i hi => by simp at hi⟩
  · exact (g1.fr f2 (by decide) (by decide)).same (gi_si_ne (by decide)) (gi_si_ne (by decide))
  · intro i hi
    rw [gi_si_ne (by decide), g2 i hi]
    rfl
  · rw [gi_si_eq, if_pos rfl]; rfl
/-! makeTrial -/
theorem l_X2_mT3 {B : zB} {n0 : Nat} {K : zM → Prop} {v1 v2 v3 : Int} {th : Nat → Bool} : ∀ (m i : Nat) (M : zM), i + m = 32 → thX M 40 th → (∀ x, x < i → gi M 41 x = gi M 40 x) → (∀ M', zSm [41] M M' → thX M' 41 th → zGv B zy_X2_makeTrial 2 0 0 n0 K 33 [some (zR 35), some (zI v1), some (zI v2), some (zI v3), some (zI 0), none, none] [] M' 0 0) →
    zGv B zy_X2_makeTrial 2 0 0 n0 K 3 [some (zR 35), some (zI v1), some (zI v2), some (zI v3), some (zI i), none, none] [] M 0 0 := by
  intro m
  induction m with
  | zero =>
    intro i M hi ht h k
    apply b_X2_makeTrial_3
    case k1 => intro _; exact k M zSm.rf (fun x hx => by rw [h x (by omega)]; exact ht x hx)
    all_goals (intros; omega)
  | succ m ih =>
    intro i M hi ht h k
    apply b_X2_makeTrial_3
    case k1 => intro _; omega
    case k2 =>
      intro _
      have hf : zSm [41] M (si M 41 i (gi M 40 i)) := zSm.rf.st (by simp)
      refine ih (i + 1) _ (by omega) (ht.fr hf (by decide)) (fun x hx => ?_) (fun M' g1 g2 => k M' (hf.tr g1) g2)
      rw [gi_si_eq, gi_si_ne (by decide : (40 : Nat) ≠ 41)]
      split
      · next q => rw [q]
      · exact h x (by omega)
    case c2 => intro _; rw [show (i : Int).toNat = i from rfl, ht i (by omega)]; split <;> simp
    all_goals (intros; omega)
/-- what stands in the trial's row when the units before u are through -/
def thU (th : Nat → Bool) (U : List un) (rm : Nat → Bool) (u : Nat) : Nat → Bool := fun x => th x && !(cvL (kpI rm (U.take u) 0) x)
theorem cvL_app {L L2 : List un} {x : Nat} : cvL (L ++ L2) x = (cvL L x || cvL L2 x) := by simp [cvL]
theorem thU_succ {th : Nat → Bool} {U : List un} {rm : Nat → Bool} {u : Nat} (hu : u < U.length) (x : Nat) : thU th U rm (u + 1) x = (thU th U rm u x && !(rm u && (decide (U[u].1 ≤ (x : Int)) && decide ((x : Int) < U[u].2.1)))) := by
  unfold thU
  rw [kpI_take hu, cvL_app]
  by_cases h : rm u = true
  · rw [if_pos h, h]
    simp [cvL, Bool.and_assoc]
  · rw [if_neg h]
    have : rm u = false := by simpa using h
    rw [this]
    simp [cvL]
theorem l_X2_mT70 {B : zB} {n0 : Nat} {K : zM → Prop} {v1 v2 v3 v5 : Int} {u : Nat} (hne : ¬ v5 = v3) (hu60 : u < 60) {lo hi : Nat} (hhi : hi ≤ 32) : ∀ (m x : Nat) (M : zM), x + m = hi ∨ (m = 0 ∧ hi ≤ x) → gi M 43 u = hi → (∀ M', zSm [41] M M' → (∀ y, gi M' 41 y = if x ≤ y ∧ y < hi then 1 else gi M 41 y) → zGv B zy_X2_makeTrial 2 0 0 n0 K 33 [some (zR 35), some (zI v1), some (zI v2), some (zI v3), some (zI ((u : Int) + 1)), none, none] [] M' 0 0) →
    zGv B zy_X2_makeTrial 2 0 0 n0 K 70 [some (zR 35), some (zI v1), some (zI v2), some (zI v3), some (zI u), some (zI v5), some (zI x)] [] M 0 0 := by
  intro m
  induction m with
  | zero =>
    intro x M hx e k
    have e' : gi M 43 (u : Int).toNat = hi := e
    apply b_X2_makeTrial_70
    case k1 => intro q; exact absurd q hne
    case k2 => intro _ _; exact k M zSm.rf (fun y => by rw [if_neg (by omega)])
    all_goals (intros; omega)
  | succ m ih =>
    intro x M hx e k
    have e' : gi M 43 (u : Int).toNat = hi := e
    apply b_X2_makeTrial_70
    case k1 => intro q; exact absurd q hne
    case k2 => intro _ _; omega
    case k3 =>
      intro _ _
      have hf : zSm [41] M (si M 41 x 1) := zSm.rf.st (by simp)
      refine ih (x + 1) _ (by omega) (by rw [gi_si_ne (by decide)]; exact e) (fun M' g1 g2 => k M' (hf.tr g1) (fun y => ?_))
      rw [g2 y]
      by_cases h1 : x + 1 ≤ y ∧ y < hi
      · rw [if_pos h1, if_pos (by omega)]
      · rw [if_neg h1, gi_si_eq, show ((x : Int)).toNat = x from rfl]
        by_cases h2 : y = x
        · rw [if_pos h2, if_pos (by omega)]
        · rw [if_neg h2, if_neg (by omega)]
    all_goals (intros; omega)
theorem l_X2_mT33 {B : zB} {n0 : Nat} {K : zM → Prop} {v1 v2 v3 : Int} {th : Nat → Bool} {U : List un} {al : Bool} (hal : v3 = if al = true then 1 else 0) (hok : okU U) : ∀ (m u : Nat) (M : zM), u + m = U.length → UX M U → thX M 41 (thU th U (fun u => inP v1 v2 u != al) u) →
    (∀ M', zSm [41] M M' → thX M' 41 (thS U th v1 v2 al) → zGv B zy_X2_makeTrial 2 0 0 n0 K 119 [some (zR 35), some (zI v1), some (zI v2), some (zI v3), some (zI 0), none, none] [] (si M' 38 1 0) 0 0) →
    zGv B zy_X2_makeTrial 2 0 0 n0 K 33 [some (zR 35), some (zI v1), some (zI v2), some (zI v3), some (zI u), none, none] [] M 0 0 := by
  intro m
  induction m with
  | zero =>
    intro u M hu hU ht k
    have e := hU.1
    apply b_X2_makeTrial_33
    case k1 =>
      intro _
      refine k M zSm.rf ?_
      unfold thU at ht
      rw [List.take_of_length_le (by omega)] at ht
      exact ht
    all_goals (intros; omega)
  | succ m ih =>
    intro u M hu hU ht k
    have e := hU.1
    have h60 := hU.2.1
    have hul : u < U.length := by omega
    have hg := hU.get hul
    have hok2 := hok U[u] (List.getElem_mem hul)
    have e42 : gi M 42 u = U[u].1 := by rw [hg]; rfl
    have e43 : gi M 43 u = U[u].2.1 := by rw [hg]; rfl
    apply b_X2_makeTrial_33
    case k1 => intro _; omega
    case k2 =>
      intro _
      rw [show (u : Int).toNat = u from rfl, e42]
      have hin : (if v1 ≤ (u : Int) ∧ (u : Int) < v2 then (1 : Int) else 0) = if inP v1 v2 u = true then 1 else 0 := by
        unfold inP
        exact zifc (by simp)
      rw [hin]
      by_cases hrm : (inP v1 v2 u != al) = true
      · have hne : ¬ (if inP v1 v2 u = true then (1 : Int) else 0) = v3 := by
          rw [hal]
          cases h1 : inP v1 v2 u <;> cases h2 : al <;> simp [h1, h2] at hrm ⊢
        have e1 : U[u].1 = ((U[u].1.toNat : Nat) : Int) := by omega
        rw [e1]
        refine l_X2_mT70 hne (by omega) (lo := 0) (hi := U[u].2.1.toNat) (by omega) (U[u].2.1.toNat - U[u].1.toNat) U[u].1.toNat M (by omega) (by omega) (fun M' g1 g2 => ?_)
        refine ih (u + 1) M' (by omega) (hU.fr g1 (by decide) (by decide) (by decide) (by decide)) (fun x hx => ?_) (fun M2 f1 f2 => k M2 (g1.tr f1) f2)
        rw [g2 x, thU_succ hul, hrm, ht x hx]
        by_cases hc : U[u].1.toNat ≤ x ∧ x < U[u].2.1.toNat
        · have h1 : decide (U[u].1 ≤ (x : Int)) = true := by simp; omega
          have h2 : decide ((x : Int) < U[u].2.1) = true := by simp; omega
          rw [if_pos hc, h1, h2]
          simp
        · have h1 : (decide (U[u].1 ≤ (x : Int)) && decide ((x : Int) < U[u].2.1)) = false := by simp; omega
          rw [if_neg hc, h1]
          simp
      · have hrm2 : (inP v1 v2 u != al) = false := by simpa using hrm
        have heq : (if inP v1 v2 u = true then (1 : Int) else 0) = v3 := by
          rw [hal]
          cases h1 : inP v1 v2 u <;> cases h2 : al <;> simp [h1, h2] at hrm2 ⊢
        apply b_X2_makeTrial_70
        case k1 =>
          intro _
          refine ih (u + 1) M (by omega) hU (fun x hx => ?_) k
          rw [thU_succ hul, hrm2, ht x hx]
          simp
        all_goals first | (intro q; exact absurd heq q) | (intro q; intros; exact absurd heq q) | (intros; omega)
    all_goals (intros; omega)
theorem mskT_take {b : List Int} {th : Nat → Bool} (i : Nat) (hi : i < b.length) : ((List.range (i + 1)).filter th).map (fun i => b.getD i 0) = ((List.range i).filter th).map (fun i => b.getD i 0) ++ (if th i = true then [b.getD i 0] else []) := by
  rw [List.range_succ, List.filter_append, List.map_append]
  congr 1
  by_cases h : th i = true <;> simp [h]
theorem mskT_len {b : List Int} {th : Nat → Bool} (i : Nat) : (((List.range i).filter th).map (fun i => b.getD i 0)).length ≤ i := by
  rw [List.length_map]
  have := List.length_filter_le th (List.range i)
  simpa using this
theorem mskT_ok {b : List Int} {th : Nat → Bool} (h : okS b) : okS (mskT b th) := by
  refine ⟨Nat.le_trans (mskT_len _) h.1, fun x hx => ?_⟩
  unfold mskT at hx
  obtain ⟨i, hi, rfl⟩ := List.mem_map.mp hx
  exact h.get (List.mem_range.mp (List.mem_filter.mp hi).1)
theorem l_X2_mT119 {B : zB} {n0 : Nat} {K : zM → Prop} {v1 v2 v3 : Int} {th : Nat → Bool} {b : List Int} (ho : okS b) : ∀ (m i : Nat) (M : zM), i + m = b.length → tT M 36 b → thX M 41 th → tT M 38 (((List.range i).filter th).map (fun i => b.getD i 0)) → (∀ M', zSm [38, 39] M M' → tT M' 38 (mskT b th) → K M') →
    zGv B zy_X2_makeTrial 2 0 0 n0 K 119 [some (zR 35), some (zI v1), some (zI v2), some (zI v3), some (zI i), none, none] [] M 0 0 := by
  have hol := ho.1
  intro m
  induction m with
  | zero =>
    intro i M hi hb ht hs k
    have e := hb.1
    have : i = b.length := by omega
    subst this
    apply b_X2_makeTrial_119
    case k1 => intro _; exact k M zSm.rf hs
    all_goals (intros; omega)
  | succ m ih =>
    intro i M hi hb ht hs k
    have e := hb.1
    have hil : i < b.length := by omega
    have hti := ht i (by omega)
    have hml := mskT_len (b := b) (th := th) i
    apply b_X2_makeTrial_119
    case k1 => intro _; omega
    case k2 =>
      intro _ q
      have hf : th i = false := by
        rw [show (i : Int).toNat = i from rfl, hti] at q
        cases h : th i with
        | false => rfl
        | true => rw [h] at q; exact absurd rfl q
      refine ih (i + 1) M (by omega) hb ht ?_ k
      rw [mskT_take i hil, hf]
      simpa using hs
    case k3 =>
      intro _ q
      have hf : th i = true := by
        rw [show (i : Int).toNat = i from rfl, hti] at q
        cases h : th i with
        | true => rfl
        | false => rw [h] at q; exact absurd q (by decide)
      rw [show (i : Int).toNat = i from rfl, show gi M 37 i = b.getD i 0 from hb.2.get hil]
      refine m_X6_put zTx_38 hs (by omega) (ho.get hil) (fun _ M1 f1 g1 => ?_) (fun q2 => by omega)
      apply b_X2_makeTrial_158
      · omega
      · refine ih (i + 1) M1 (by omega) (hb.fr f1 (by decide) (by decide)) (ht.fr f1 (by decide)) ?_ (fun M' g2 g3 => k M' (f1.tr g2) g3)
        rw [mskT_take i hil, hf]
        exact g1
    all_goals (intros; omega)
theorem m_X2_makeTrial {B : zB} {K : zM → Prop} {M : zM} {p1 p2 p3 : Int} {th : Nat → Bool} {U : List un} {b : List Int} {al : Bool} (hal : p3 = if al = true then 1 else 0) (hok : okU U) (hU : UX M U) (hth : thX M 40 th) (hb : tT M 36 b) (ho : okS b) (k : ∀ M', zSm [38, 39, 41] M M' → thX M' 41 (thS U th p1 p2 al) → tT M' 38 (mskT b (thS U th p1 p2 al)) → K M') : zCv B zy_X2_makeTrial 2 0 0 [zR 35, zI p1, zI p2, zI p3] M K := by
  refine e_X2_makeTrial (fun n0 => b_X2_makeTrial_0 ?_)
  refine l_X2_mT3 (th := th) 32 0 M (by omega) hth (fun x hx => by omega) (fun M1 f1 g1 => ?_)
  refine l_X2_mT33 (th := th) hal hok U.length 0 M1 (by omega) (hU.fr f1 (by decide) (by decide) (by decide) (by decide)) (by
    have : thU th U (fun u => inP p1 p2 u != al) 0 = th := by
      funext x
      simp [thU, kpI, cvL]
    rw [this]
    exact g1) (fun M2 f2 g2 => ?_)
  have hf2 := f1.tr f2
  have hf3 : zSm [38, 39, 41] M (si M2 38 1 0) := (hf2.mono (by simp)).st (by simp)
  have g3 : thX (si M2 38 1 0) 41 (thS U th p1 p2 al) := fun x hx => by rw [gi_si_ne (by decide)]; exact g2 x hx
  refine l_X2_mT119 ho b.length 0 _ (by omega) (hb.fr hf3 (by decide) (by decide)) g3 ⟨by rw [gi_si_eq, if_pos rfl]; rfl, rfl⟩ (fun M' f4 g4 => k M' (hf3.tr (f4.mono (by simp))) (g3.fr f4 (by decide)) g4)
