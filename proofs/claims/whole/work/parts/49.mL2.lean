/-! ===== Lessening: keepTrial, takes, lessen ===== -/
theorem l_X2_kT3 {B : zB} {n0 : Nat} {K : zM → Prop} {v1 v2 v3 : Int} {th : Nat → Bool} : ∀ (m i : Nat) (M : zM), i + m = 32 → thX M 41 th → (∀ x, x < i → gi M 40 x = gi M 41 x) → (∀ M', zSm [40] M M' → thX M' 40 th → zGv B zy_X2_keepTrial 2 0 0 n0 K 44 [some (zR 35), some (zI v1), some (zI v2), some (zI v3), some (zI (gi M' 35 6)), some (zI 0), none] [] (si M' 35 6 0) 0 0) →
    zGv B zy_X2_keepTrial 2 0 0 n0 K 3 [some (zR 35), some (zI v1), some (zI v2), some (zI v3), some (zI i), none, none] [] M 0 0 := by
  intro m
  induction m with
  | zero =>
    intro i M hi ht h k
    apply b_X2_keepTrial_3
    case k1 => intro _; exact k M zSm.rf (fun x hx => by rw [h x (by omega)]; exact ht x hx)
    all_goals (intros; omega)
  | succ m ih =>
    intro i M hi ht h k
    apply b_X2_keepTrial_3
    case k1 => intro _; omega
    case k2 =>
      intro _
      have hf : zSm [40] M (si M 40 i (gi M 41 i)) := zSm.rf.st (by simp)
      refine ih (i + 1) _ (by omega) (ht.fr hf (by decide)) (fun x hx => ?_) (fun M' g1 g2 => k M' (hf.tr g1) g2)
      rw [gi_si_eq, gi_si_ne (by decide : (41 : Nat) ≠ 40), show ((i : Int)).toNat = i from rfl]
      split
      · next q => rw [q]
      · exact h x (by omega)
    case c2 => intro _; rw [show (i : Int).toNat = i from rfl, ht i (by omega)]; split <;> simp
    all_goals (intros; omega)
theorem l_X2_kT44 {B : zB} {n0 : Nat} {K : zM → Prop} {v1 v2 v3 : Int} {U : List un} {al : Bool} (hal : v3 = if al = true then 1 else 0) (hl60 : U.length ≤ 60) : ∀ (m u : Nat) (M : zM), u + m = U.length → UX M (kpI (fun u => inP v1 v2 u == al) (U.take u) 0) → (∀ i, u ≤ i → i < U.length → some (unX M i) = U[i]?) →
    (∀ M', zSm [35, 42, 43, 44] M M' → (∀ j, j ≠ 6 → gi M' 35 j = gi M 35 j) → UX M' (kpS U v1 v2 al) → K M') →
    zGv B zy_X2_keepTrial 2 0 0 n0 K 44 [some (zR 35), some (zI v1), some (zI v2), some (zI v3), some (zI U.length), some (zI u), none] [] M 0 0 := by
  intro m
  induction m with
  | zero =>
    intro u M hu hU hr k
    apply b_X2_keepTrial_44
    case k1 =>
      intro _
      rw [List.take_of_length_le (by omega)] at hU
      exact k M zSm.rf (fun _ _ => rfl) hU
    all_goals (intros; omega)
  | succ m ih =>
    intro u M hu hU hr k
    have hul : u < U.length := by omega
    have hg := hr u (Nat.le_refl _) hul
    rw [List.getElem?_eq_getElem hul] at hg
    have hg2 := Option.some.inj hg
    have hkl := kpI_len (p := fun u => inP v1 v2 u == al) (U.take u) 0
    rw [List.length_take, Nat.min_eq_left (Nat.le_of_lt hul)] at hkl
    have hin : (if v1 ≤ (u : Int) ∧ (u : Int) < v2 then (1 : Int) else 0) = if inP v1 v2 u = true then 1 else 0 := by
      unfold inP
      exact zifc (by simp)
    have hiff : ((if v1 ≤ (u : Int) ∧ (u : Int) < v2 then (1 : Int) else 0) = v3) ↔ (inP v1 v2 u == al) = true := by
      rw [hin, hal]
      cases h1 : inP v1 v2 u <;> cases h2 : al <;> simp
    apply b_X2_keepTrial_44
    case k1 => intro _; omega
    case k2 =>
      intro _ q
      refine ih (u + 1) M (by omega) ?_ (fun i h1 h2 => hr i (by omega) h2) k
      rw [kpI_take hul, if_neg (fun z => q (hiff.mpr z)), List.append_nil]
      exact hU
    case k3 =>
      intro _ q
      have e1 : gi M 42 (u : Int).toNat = U[u].1 := by rw [← hg2]; rfl
      have e2 : gi M 43 (u : Int).toNat = U[u].2.1 := by rw [← hg2]; rfl
      have e3 : gi M 44 (u : Int).toNat = U[u].2.2 := by rw [← hg2]; rfl
      rw [e1, e2, e3]
      refine m_X2_addUnit hU (by omega) (fun M1 f1 g1 g2 g3 => ?_)
      apply b_X2_keepTrial_101
      · omega
      · refine ih (u + 1) M1 (by omega) ?_ (fun i h1 h2 => ?_) (fun M' a1 a2 a3 => k M' (f1.tr a1) (fun j hj => (a2 j hj).trans (g1 j hj)) a3)
        · rw [kpI_take hul, if_pos (hiff.mp q)]
          exact g3
        · rw [g2 i (by omega)]
          exact hr i (by omega) h2
    all_goals (intros; omega)
theorem m_X2_keepTrial {B : zB} {K : zM → Prop} {M : zM} {p1 p2 p3 : Int} {th : Nat → Bool} {U : List un} {al : Bool} (hal : p3 = if al = true then 1 else 0) (hU : UX M U) (hth : thX M 41 th) (k : ∀ M', zSm [35, 40, 42, 43, 44] M M' → (∀ j, j ≠ 6 → gi M' 35 j = gi M 35 j) → UX M' (kpS U p1 p2 al) → thX M' 40 th → K M') : zCv B zy_X2_keepTrial 2 0 0 [zR 35, zI p1, zI p2, zI p3] M K := by
  refine e_X2_keepTrial (fun n0 => b_X2_keepTrial_0 ?_)
  refine l_X2_kT3 (th := th) 32 0 M (by omega) hth (fun x hx => by omega) (fun M1 f1 g1 => ?_)
  have hU1 := hU.fr f1 (by decide) (by decide) (by decide) (by decide)
  rw [hU1.1]
  have hf2 : zSm [35, 40, 42, 43, 44] M (si M1 35 6 0) := (f1.mono (by simp)).st (by simp)
  refine l_X2_kT44 hal hU1.2.1 U.length 0 _ (by omega) ⟨by rw [gi_si_eq, if_pos rfl]; simp [kpI], by simp [kpI], fun i hi => by simp [kpI] at hi⟩ (fun i _ hi => ?_) (fun M' f3 g3 g4 => k M' (hf2.tr (f3.mono (by simp))) (fun j hj => ?_) g4 (fun x hx => ?_))
  · have := hU1.2.2 i hi
    unfold unX at this ⊢
    rw [gi_si_ne (by decide), gi_si_ne (by decide), gi_si_ne (by decide)]
    exact this
  · rw [g3 j hj, gi_si_eq, if_neg hj, f1.ge (by decide)]
  · rw [f3.ge (by decide), gi_si_ne (by decide)]
    exact g1 x hx
/-- the lessening's cells -/
def LX (M : zM) (on : Int) (z : LSt) : Prop := UX M z.1 ∧ thX M 40 z.2.1 ∧ tT M 1 z.2.2.1 ∧ okS z.2.2.1 ∧ JX M on z.2.2.2 ∧ okU z.1
/-- what lessening may change -/
def LFr : List Nat := [1, 2, 5, 6, 7, 35, 38, 39, 40, 41, 42, 43, 44]
section TK
variable {B : zB} {n0 : Nat} {K : Int → zM → Prop} {on : Int} {oc : List Int → Int} {b : List Int} {n v2 : Int} {al : Bool}
theorem l_X2_takes (hal : v2 = if al = true then 1 else 0) (ho : okS b) (hn : 1 ≤ n) : ∀ (m : Nat) (p : Int) (M : zM) (z : LSt), p + m = n → 0 ≤ p → n ≤ z.1.length → okR M → ocX M = oc → tT M 36 b → LX M on z →
    (∀ M', zSm LFr M M' → LX M' on (tkS on oc b n al m p z).2 → K (if (tkS on oc b n al m p z).1 = true then 1 else 0) M') →
    zGi B zy_X2_takes 12 0 0 n0 K 2 [some (zR 35), some (zI n), some (zI v2), some (zI p), none, none] [] M 0 0 := by
  intro m
  induction m with
  | zero =>
    intro p M z hp h0 hnl hR hoc hb hz k
    apply b_X2_takes_2
    case k1 => intro _; exact k M zSm.rf hz
    all_goals (intros; omega)
  | succ m ih =>
    intro p M z hp h0 hnl hR hoc hb hz k
    obtain ⟨hU, hth, hty, hoty, hj, hok⟩ := id hz
    have e := hU.1
    have h60 := hU.2.1
    have en : gi M 5 5 = z.2.2.2.2.2.2.2 := hj.2.2.2.2.1
    have hpm : 0 ≤ p * (z.1.length : Int) ∧ p * (z.1.length : Int) ≤ 60 * 60 := ⟨Int.mul_nonneg h0 (by omega), by
      have : p * (z.1.length : Int) ≤ 60 * (z.1.length : Int) := Int.mul_le_mul_of_nonneg_right (by omega) (by omega)
      omega⟩
    have hpm1 : 0 ≤ (p + 1) * (z.1.length : Int) ∧ (p + 1) * (z.1.length : Int) ≤ 60 * 60 := ⟨Int.mul_nonneg (by omega) (by omega), by
      have : (p + 1) * (z.1.length : Int) ≤ 60 * (z.1.length : Int) := Int.mul_le_mul_of_nonneg_right (by omega) (by omega)
      omega⟩
    apply b_X2_takes_2
    case k1 => intro _; omega
    case k2 =>
      intro _ q
      unfold tkS at k
      rw [if_pos (by rw [← en]; exact q)] at k
      exact k M zSm.rf hz
    case k3 =>
      intro _ q
      rw [e]
      have hend : ¬ ¬ z.2.2.2.2.2.2.2 = 0 := by rw [← en]; omega
      generalize hth' : thS z.1 z.2.1 (parF n z.1.length p) (parF n z.1.length (p + 1)) al = th'
      unfold tkS at k
      rw [if_neg hend, hth'] at k
      refine m_X2_makeTrial (th := z.2.1) (U := z.1) (b := b) hal hok hU hth hb ho (fun M1 f1 g1 g2 => ?_)
      have g1' : thX M1 41 th' := by rw [← hth']; exact g1
      have g2' : tT M1 38 (mskT b th') := by rw [← hth']; exact g2
      have hok1 := mskT_ok (th := th') ho
      refine b_X2_takes_48 (m_X1_ask zTx_38 (by omega) (j := z.2.2.2) (oc := oc) (on := on) (hR.same f1.2.1) (by rw [ocX_fr hR f1 (by simp), hoc]) g2' hok1 (hj.fr f1 (by decide) (by decide) (by decide)) (fun M2 f2 g3 => ?_))
      have hf6 : zSm [5, 6, 7, 38, 39, 41] M M2 := (f1.mono (by simp)).tr (f2.mono (by simp))
      have hf2 : zSm LFr M M2 := hf6.mono (by simp [LFr])
      have hR2 := hR.same hf2.2.1
      have hoc2 : ocX M2 = oc := by rw [ocX_fr hR hf6 (by decide), hoc]
      have hb2 := hb.fr hf6 (by decide) (by decide)
      have hU2 := hU.fr hf6 (by decide) (by decide) (by decide) (by decide)
      apply b_X2_takes_59
      case k1 =>
        intro q1
        rw [if_neg q1] at k
        exact ih (p + 1) M2 (z.1, z.2.1, z.2.2.1, (askS on oc z.2.2.2 (mskT b th')).2) (by omega) (by omega) hnl hR2 hoc2 hb2 ⟨hU2, hth.fr hf6 (by decide), hty.fr hf6 (by decide) (by decide), hoty, g3, hok⟩ (fun M' a1 a2 => k M' (hf2.tr a1) a2)
      case k2 =>
        intro q1
        rw [if_pos q1] at k
        refine m_X6_become zTx_1 zTx_38 (by omega) (g2'.fr f2 (by decide) (by decide)) hok1 (fun M3 f3 g4 => b_X2_takes_74 ?_)
        refine m_X2_keepTrial (th := th') (U := z.1) hal (hU2.fr f3 (by decide) (by decide) (by decide) (by decide)) ((g1'.fr f2 (by decide)).fr f3 (by decide)) (fun M4 f4 a1 a2 a3 => b_X2_takes_83 ?_)
        have hf4 : zSm LFr M M4 := (hf2.tr (f3.mono (by simp [LFr]))).tr (f4.mono (by simp [LFr]))
        exact k M4 hf4 ⟨a2, a3, g4.fr f4 (by decide) (by decide), hok1, (g3.fr f3 (by decide) (by decide) (by decide)).fr f4 (by decide) (by decide) (by decide), kpS_ok hok⟩
      all_goals (intros; omega)
    all_goals (intros; first | omega | (rw [e]; omega))
theorem m_X2_takes {p1 p2 : Int} {M : zM} {z : LSt} (hal : p2 = if al = true then 1 else 0) (ho : okS b) (hn : 1 ≤ p1) (hnl : p1 ≤ z.1.length) (hR : okR M) (hoc : ocX M = oc) (hb : tT M 36 b) (hz : LX M on z)
    (k : ∀ M', zSm LFr M M' → LX M' on (tkS on oc b p1 al p1.toNat 0 z).2 → K (if (tkS on oc b p1 al p1.toNat 0 z).1 = true then 1 else 0) M') : zCi B zy_X2_takes 12 0 0 [zR 35, zI p1, zI p2] M K :=
  e_X2_takes (fun _ => b_X2_takes_0 (l_X2_takes hal ho hn p1.toNat 0 M z (by omega) (by omega) hnl hR hoc hb hz k))
/-- what a try leaves of the units -/
theorem tkS_len (hn : 1 ≤ n) (hal : al = true → 2 ≤ n) : ∀ (m : Nat) (p : Int) (z : LSt), p + m = n → 0 ≤ p → n ≤ z.1.length → ((tkS on oc b n al m p z).1 = true → (tkS on oc b n al m p z).2.1.length + 1 ≤ z.1.length ∧ (al = true → 1 ≤ (tkS on oc b n al m p z).2.1.length)) ∧ ((tkS on oc b n al m p z).1 = false → (tkS on oc b n al m p z).2.1 = z.1) := by
  intro m
  induction m with
  | zero => intro p z _ _ _; exact ⟨(fun h => by cases h), fun _ => rfl⟩
  | succ m ih =>
    intro p z hp h0 hnl
    unfold tkS
    split
    · exact ⟨(fun h => by cases h), fun _ => rfl⟩
    · split
      · exact ⟨fun _ => kpS_len hn hnl h0 (by omega) hal, fun h => by cases h⟩
      · exact ih (p + 1) _ (by omega) (by omega) hnl
theorem trS_len {go : Bool} {z : LSt} (hn : 1 ≤ n) (hnl : n ≤ z.1.length) (hal : al = true → go = true → 2 ≤ n) : ((trS on oc b n al go z).1 = true → (trS on oc b n al go z).2.1.length + 1 ≤ z.1.length) ∧ ((trS on oc b n al go z).1 = false → (trS on oc b n al go z).2.1 = z.1) := by
  unfold trS
  split
  · next h =>
    have h2 := tkS_len (on := on) (oc := oc) (b := b) hn (fun q => hal q h) n.toNat 0 z (by omega) (by omega) hnl
    exact ⟨fun q => (h2.1 q).1, h2.2⟩
  · exact ⟨(fun h => by cases h), fun _ => rfl⟩
end TK
section LE
variable {B : zB} {n0 : Nat} {K : zM → Prop} {on : Int} {oc : List Int → Int} {b : List Int}
theorem minI {a b : Int} : (if b < a then b else a) = min a b := by
  rw [Int.min_def]
  split <;> split <;> omega
theorem maxI {a b : Int} : (if a < b then b else a) = max a b := by
  rw [Int.max_def]
  split <;> split <;> omega
theorem l_X2_lessen (ho : okS b) : ∀ (f : Nat) (n v2 : Int) (M : zM) (z : LSt), 0 ≤ v2 → v2 + f ≤ 5000 → (z.1.length : Int) * 64 + (64 - n) ≤ f + 64 → (1 ≤ n ∨ z.1.length = 0) → n ≤ z.1.length → okR M → ocX M = oc → tT M 36 b → LX M on z →
    (∀ M', zSm LFr M M' → LX M' on (leS on oc b f n z) → K M') →
    zGv B zy_X2_lessen 13 0 0 n0 K 11 [some (zR 35), some (zI n), some (zI v2)] [] M 0 0 := by
  intro f
  induction f with
  | zero =>
    intro n v2 M z h0 hv hmu hn hnl hR hoc hb hz k
    have e := hz.1.1
    have h60 := hz.1.2.1
    apply b_X2_lessen_11
    case k1 => intro _; exact k M zSm.rf hz
    all_goals (intros; omega)
  | succ f ih =>
    intro n v2 M z h0 hv hmu hn hnl hR hoc hb hz k
    have e := hz.1.1
    have h60 := hz.1.2.1
    have en : gi M 5 5 = z.2.2.2.2.2.2.2 := hz.2.2.2.2.1.2.2.2.2.1
    have stop : (z.1.length = 0 ∨ ¬ z.2.2.2.2.2.2.2 = 0) → K M := fun q => by
      unfold leS at k
      rw [if_pos q] at k
      exact k M zSm.rf hz
    by_cases hst : z.1.length = 0 ∨ ¬ z.2.2.2.2.2.2.2 = 0
    · have kk := stop hst
      apply b_X2_lessen_11
      case k1 => intro _; exact kk
      case k2 => intro _ _; exact kk
      all_goals (intros; omega)
    · have hn1 : 1 ≤ n := by omega
      unfold leS at k
      rw [if_neg hst] at k
      have t1 := trS_len (on := on) (oc := oc) (b := b) (al := true) (go := decide (2 ≤ n)) (z := z) hn1 hnl (fun _ h => by simpa using h)
      generalize hz1 : trS on oc b n true (decide (2 ≤ n)) z = r1 at k t1
      have t2 : r1.1 = false → _ := fun h => trS_len (on := on) (oc := oc) (b := b) (al := false) (go := decide (¬ n = 2)) (z := r1.2) hn1 (by rw [t1.2 h]; exact hnl) (fun h _ => by cases h)
      generalize hz2 : trS on oc b n false (decide (¬ n = 2)) r1.2 = r2 at k t2
      -- behind both tries
      have third : ∀ M2, zSm LFr M M2 → LX M2 on r2.2 → r1.1 = false → r2.1 = false → ((z.1.length : Int) ≤ n → K M2) ∧ (n < z.1.length → ∀ v : Int, 0 ≤ v → v + f ≤ 5000 → zGv B zy_X2_lessen 13 0 0 n0 K 11 [some (zR 35), some (zI (min (2 * n) (z.1.length : Int))), some (zI v)] [] M2 0 0) := fun M2 hf2 hl2 q1 q2 => by
        have hlen : r2.2.1 = z.1 := by rw [(t2 q1).2 q2, t1.2 q1]
        rw [if_neg (by rw [q1]; decide), if_neg (by rw [q2]; decide)] at k
        constructor
        · intro h
          rw [if_pos h] at k
          exact k M2 hf2 hl2
        · intro h v hv0 hv1
          rw [if_neg (by omega)] at k
          have hR2 := hR.same hf2.2.1
          refine ih (min (2 * n) (z.1.length : Int)) v M2 r2.2 hv0 hv1 (by rw [hlen]; omega) (by rw [hlen]; omega) (by rw [hlen]; omega) hR2 (by rw [ocX_fr hR hf2 (by decide), hoc]) (hb.fr hf2 (by decide) (by decide)) hl2 (fun M' a1 a2 => k M' (hf2.tr a1) a2)
      have second : ∀ (M1 : zM), zSm LFr M M1 → LX M1 on r1.2 → r1.1 = false → ¬ n = 2 → zCi B zy_X2_takes 12 0 0 [zR 35, zI n, zI 0] M1 (fun x M' => zGv B zy_X2_lessen 13 0 0 n0 K 71 [some (zR 35), some (zI n), some (zI v2)] [zI x] M' 0 0) := fun M1 hf1 hl1 q1 q2 => by
        have hlen1 : r1.2.1 = z.1 := t1.2 q1
        have hR1 := hR.same hf1.2.1
        have hz2' : tkS on oc b n false n.toNat 0 r1.2 = r2 := by
          rw [← hz2]
          unfold trS
          rw [if_pos (by simpa using q2)]
        refine m_X2_takes (on := on) (oc := oc) (b := b) (al := false) (z := r1.2) rfl ho hn1 (by rw [hlen1]; exact hnl) hR1 (by rw [ocX_fr hR hf1 (by decide), hoc]) (hb.fr hf1 (by decide) (by decide)) hl1 (fun M2 f2 g2 => ?_)
        rw [hz2'] at g2 ⊢
        have hf2 := hf1.tr f2
        have e2 := g2.1.1
        have h602 := g2.1.2.1
        by_cases q3 : r2.1 = true
        · rw [if_pos q3]
          have hlt := (t2 q1).1 q3
          rw [hlen1] at hlt
          have hR2 := hR.same hf2.2.1
          rw [if_neg (by rw [q1]; decide), if_pos q3] at k
          apply b_X2_lessen_71
          case k1 => intro h; exact absurd h (by decide)
          case k2 => intro h; exact absurd h (by decide)
          case k3 =>
            intro _
            rw [e2, maxI, minI]
            refine ih _ (v2 + 1) M2 r2.2 (by omega) (by omega) ?_ ?_ (Int.min_le_right _ _) hR2 (by rw [ocX_fr hR hf2 (by decide), hoc]) (hb.fr hf2 (by decide) (by decide)) g2 (fun M' a1 a2 => k M' (hf2.tr a1) a2)
            · omega
            · omega
          all_goals (intros; omega)
        · have q3' : r2.1 = false := by simpa using q3
          rw [if_neg q3]
          obtain ⟨th1, th2⟩ := third M2 hf2 g2 q1 q3'
          have e3 : gi M2 35 6 = z.1.length := by rw [e2, (t2 q1).2 q3', hlen1]
          apply b_X2_lessen_71
          case k1 => intro _ h; rw [e3, minI]; exact th2 (by omega) (v2 + 1) (by omega) (by omega)
          case k2 => intro _ h; exact th1 (by omega)
          case k3 => intro h; exact absurd rfl h
          all_goals (intros; omega)
      apply b_X2_lessen_11
      case k6 =>
        intro _ _ _ h1 h2
        have hz1' : (false, z) = r1 := by rw [← hz1]; unfold trS; rw [if_neg (by simp; omega)]
        exact second M zSm.rf (by rw [← hz1']; exact hz) (by rw [← hz1']) h2
      case k7 =>
        intro _ _ _ h1
        have hz1' : tkS on oc b n true n.toNat 0 z = r1 := by rw [← hz1]; unfold trS; rw [if_pos (by simpa using h1)]
        refine m_X2_takes (on := on) (oc := oc) (b := b) (al := true) (z := z) rfl ho hn1 hnl hR hoc hb hz (fun M1 f1 g1 => ?_)
        rw [hz1'] at g1 ⊢
        have e1 := g1.1.1
        have h601 := g1.1.2.1
        by_cases q3 : r1.1 = true
        · rw [if_pos q3]
          have hlt := t1.1 q3
          have hR1 := hR.same f1.2.1
          rw [if_pos q3] at k
          apply b_X2_lessen_45
          case k1 => intro h; exact absurd h (by decide)
          case k2 => intro h; exact absurd h (by decide)
          case k3 => intro h; exact absurd h (by decide)
          case k4 =>
            intro _
            rw [e1, minI]
            have hal1 : 1 ≤ r1.2.1.length := by
              rw [← hz1']
              exact ((tkS_len (on := on) (oc := oc) (b := b) (al := true) hn1 (fun _ => h1) n.toNat 0 z (by omega) (by omega) hnl).1 (by rw [hz1']; exact q3)).2 rfl
            refine ih _ (v2 + 1) M1 r1.2 (by omega) (by omega) ?_ ?_ (Int.min_le_right _ _) hR1 (by rw [ocX_fr hR f1 (by decide), hoc]) (hb.fr f1 (by decide) (by decide)) g1 (fun M' a1 a2 => k M' (f1.tr a1) a2)
            · omega
            · omega
          all_goals (intros; omega)
        · have q3' : r1.1 = false := by simpa using q3
          rw [if_neg q3]
          have hlen1 := t1.2 q3'
          have e3 : gi M1 35 6 = z.1.length := by rw [e1, hlen1]
          have hz2n : n = 2 → (false, r1.2) = r2 := fun h => by rw [← hz2]; unfold trS; rw [if_neg (by simp; omega)]
          apply b_X2_lessen_45
          case k1 =>
            intro _ h2 h3
            rw [e3, minI]
            exact (third M1 f1 (by rw [← hz2n h2]; exact g1) q3' (by rw [← hz2n h2])).2 (by omega) (v2 + 1) (by omega) (by omega)
          case k2 =>
            intro _ h2 h3
            exact (third M1 f1 (by rw [← hz2n h2]; exact g1) q3' (by rw [← hz2n h2])).1 (by omega)
          case k3 => intro _ h2; exact second M1 f1 g1 q3' h2
          case k4 => intro h; exact absurd rfl h
          all_goals (intros; omega)
      all_goals (intros; omega)
theorem m_X2_lessen {M : zM} {z : LSt} (ho : okS b) (hR : okR M) (hoc : ocX M = oc) (hb : tT M 36 b) (hz : LX M on z) (k : ∀ M', zSm LFr M M' → LX M' on (lesS on oc b z) → K M') : zCv B zy_X2_lessen 13 0 0 [zR 35] M K := by
  have h60 := hz.1.2.1
  refine e_X2_lessen (fun n0 => b_X2_lessen_0 ?_)
  rw [hz.1.1, minI]
  exact l_X2_lessen ho 5000 _ 0 M z (by omega) (by omega) (by omega) (by omega) (Int.min_le_right _ _) hR hoc hb hz k
end LE
