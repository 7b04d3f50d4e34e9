/-! ===== Matcher: behind, settle, fits ===== -/
theorem RX_7 {M : zM} {g : zG} {v : Int} (h : RX M g) : RX (si M 19 7 v) g := RX_si h (by omega)
theorem l_X3_behind_62 {B : zB} {n0 : Nat} {K : Int → zM → Prop} {v1 v2 : Int} {g : zG} {E b : tE} {s : List Int} (hw : WG g) (hT : TB E) (ho : okS s) (hB : BB b) {k : Nat} (hk : (k : Int) < gN g) : ∀ (f : Nat) (t l c : Int) (M : zM), RX M g → eT M = E → mS M s → bT M = b → gi M 19 7 = c → 0 ≤ c → c ≤ 60 → 1 ≤ t → t + f = 34 → 0 ≤ l → l ≤ 32 →
    (zGi B zy_X3_behind 3 0 0 n0 K 17 [some (zR 19), some (zI v1), some (zI v2), some (zI (enL l (tks E g (chS s) k f (t - 1) l))), some (zI (k + 1 : Nat)), none, none] [] (si M 19 7 (cnt b g c (tks E g (chS s) k f (t - 1) l))) 0 0) →
    zGi B zy_X3_behind 3 0 0 n0 K 62 [some (zR 19), some (zI v1), some (zI v2), some (zI l), some (zI k), some (zI (mor E g (chS s) k (t - 1) l)), some (zI t)] [] M 0 0 := by
  intro f
  have hgN := hw.1
  induction f with
  | zero =>
    intro t l c M hx hE hs hb hc hc0 hc1 ht htf hl0 hl1 kk
    have kk2 : zGi B zy_X3_behind 3 0 0 n0 K 17 [some (zR 19), some (zI v1), some (zI v2), some (zI l), some (zI (k + 1 : Nat)), none, none] [] M 0 0 := by
      have e : si M 19 7 c = M := si_gi hc
      have kk3 : zGi B zy_X3_behind 3 0 0 n0 K 17 [some (zR 19), some (zI v1), some (zI v2), some (zI l), some (zI (k + 1 : Nat)), none, none] [] (si M 19 7 c) 0 0 := kk
      rw [e] at kk3
      exact kk3
    apply b_X3_behind_62 (g := g) (E := E) (s := s) (b := b)
    case k1 => intro _; exact kk2
    case k2 => intro _ _; exact kk2
    all_goals first | assumption | (exact RX_7 hx) | (exact mS_7 hs) | (rw [eT_si (by decide)]; exact hE) | (intros; omega)
  | succ f ih =>
    intro t l c M hx hE hs hb hc hc0 hc1 ht htf hl0 hl1 kk
    have hm := mor_bd (t := t - 1) hT chS_neg hw hk hl0 (E := E) (ch := chS s)
    have hnb := nofk_bd (g := g) hB (k := k) (l := l)
    have hcb := cap_bd (x := c + nofk b g k l) (by omega)
    have kend : mor E g (chS s) k (t - 1) l < 0 → zGi B zy_X3_behind 3 0 0 n0 K 17 [some (zR 19), some (zI v1), some (zI v2), some (zI l), some (zI (k + 1 : Nat)), none, none] [] M 0 0 := fun hneg => by
      have e : si M 19 7 c = M := si_gi hc
      unfold tks at kk
      rw [if_pos hneg] at kk
      have kk3 : zGi B zy_X3_behind 3 0 0 n0 K 17 [some (zR 19), some (zI v1), some (zI v2), some (zI l), some (zI (k + 1 : Nat)), none, none] [] (si M 19 7 c) 0 0 := kk
      rw [e] at kk3
      exact kk3
    apply b_X3_behind_62 (g := g) (E := E) (s := s) (b := b)
    case k1 => intro h; exact kend h
    case k3 =>
      intro h1 h2
      have em : (if ((gi M 19 7) + (nofk b g (k : Int).toNat l)) < 60 then (gi M 19 7) + (nofk b g (k : Int).toNat l) else 60) = cap (c + nofk b g k l) := by rw [hc]; rfl
      rw [em]
      have h3 := ih (t + 1) (mor E g (chS s) k (t - 1) l) (cap (c + nofk b g k l)) (si M 19 7 (cap (c + nofk b g k l))) (RX_7 hx) (by rw [eT_si (by decide)]; exact hE) (mS_7 hs) (by rw [bT_si (by decide)]; exact hb) (by rw [gi_si_eq, if_pos rfl]) hcb.1 hcb.2 (by omega) (by omega) (by omega) (by omega) (by
        rw [si_si]
        unfold tks at kk
        rw [if_neg (by omega)] at kk
        rw [show t + 1 - 1 = t - 1 + 1 from by omega]
        exact kk)
      rw [show t + 1 - 1 = t from by omega] at h3
      exact h3
    all_goals first | assumption | (exact RX_7 hx) | (exact mS_7 hs) | (rw [eT_si (by decide)]; exact hE) | (intros; omega) | (intros; rw [hc]; constructor <;> (rw [show (k : Int).toNat = k from rfl]; omega))
theorem l_X3_behind_17 {B : zB} {n0 : Nat} {K : Int → zM → Prop} {v1 v2 : Int} {g : zG} {E b : tE} {s : List Int} (hw : WG g) (hT : TB E) (ho : okS s) (hB : BB b) (ha : 0 ≤ v1 ∧ v1 < gA g) : ∀ (m : Nat) (k : Nat) (l c : Int) (M : zM), RX M g → eT M = E → mS M s → bT M = b → gi M 19 7 = c → 0 ≤ c → c ≤ 60 → ((k + m : Nat) : Int) = gF g (v1.toNat + 1) → 0 ≤ l → l ≤ 32 →
    (alt E g (chS s) m k l = none → ∀ c', 0 ≤ c' → c' ≤ 60 → K (-1) (si M 19 7 c')) → (∀ e L, alt E g (chS s) m k l = some (e, L) → K e (si M 19 7 (cnt b g c L))) →
    zGi B zy_X3_behind 3 0 0 n0 K 17 [some (zR 19), some (zI v1), some (zI v2), some (zI l), some (zI k), none, none] [] M 0 0 := by
  intro m
  have hgN := hw.1
  have hgF := hw.2.2.2.2.1 (v1.toNat + 1) (by omega)
  induction m with
  | zero =>
    intro k l c M hx hE hs hb hc hc0 hc1 hkm hl0 hl1 k1 k2
    apply b_X3_behind_17 (g := g) (E := E) (s := s)
    case k1 =>
      intro _
      have := k2 l [] rfl
      have e : si M 19 7 c = M := si_gi hc
      have h3 : K l (si M 19 7 c) := this
      rw [e] at h3
      exact h3
    all_goals first | assumption | (intros; omega)
  | succ m ih =>
    intro k l c M hx hE hs hb hc hc0 hc1 hkm hl0 hl1 k1 k2
    have hk : (k : Int) < gN g := by omega
    have hen := tks_en hT chS_neg hw hk 33 0 l hl0 (E := E) (ch := chS s)
    have hcb := cnt_bd (g := g) hB (tks E g (chS s) k 33 0 l) hc0 hc1
    have go : (¬ (mor E g (chS s) k 0 l < 0 ∧ lof g k = false)) → zGi B zy_X3_behind 3 0 0 n0 K 62 [some (zR 19), some (zI v1), some (zI v2), some (zI l), some (zI k), some (zI (mor E g (chS s) k 0 l)), some (zI 1)] [] M 0 0 := fun hcond => by
      refine l_X3_behind_62 hw hT ho hB hk 33 1 l c M hx hE hs hb hc hc0 hc1 (by omega) (by omega) hl0 hl1 ?_
      refine ih (k + 1) _ (cnt b g c (tks E g (chS s) k 33 0 l)) _ (RX_7 hx) (by rw [eT_si (by decide)]; exact hE) (mS_7 hs) (by rw [bT_si (by decide)]; exact hb) (by rw [gi_si_eq, if_pos rfl]; rfl) hcb.1 hcb.2 (by omega) hen.1 (by have := hen.2; show enL l (tks E g (chS s) k 33 0 l) ≤ 32; omega) (fun hn c' q1 q2 => ?_) (fun e L he => ?_)
      · rw [si_si]
        refine k1 ?_ c' q1 q2
        unfold alt
        rw [if_neg hcond]
        show Option.map _ (alt E g (chS s) m (k + 1) (enL l (tks E g (chS s) k 33 0 l))) = none
        have hn2 : alt E g (chS s) m (k + 1) (enL l (tks E g (chS s) k 33 0 l)) = none := hn
        rw [hn2]
        rfl
      · rw [si_si]
        have h3 := k2 e (tks E g (chS s) k 33 0 l ++ L) (by
          unfold alt
          rw [if_neg hcond]
          have he2 : alt E g (chS s) m (k + 1) (enL l (tks E g (chS s) k 33 0 l)) = some (e, L) := he
          rw [he2]
          rfl)
        have e3 : cnt b g c (tks E g (chS s) k 33 0 l ++ L) = cnt b g (cnt b g c (tks E g (chS s) k 33 0 l)) L := by
          unfold cnt
          rw [List.foldl_append]
        rw [e3] at h3
        exact h3
    apply b_X3_behind_17 (g := g) (E := E) (s := s)
    case k1 => intro h; omega
    case k2 => intro h1 h2; exact go (fun q => by have h3 : 0 ≤ mor E g (chS s) k 0 l := h2; omega)
    case k3 => intro h1 h2 h3; exact go (fun q => by
      have h4 : lof g k = true := by
        unfold lof
        simp only [Bool.or_eq_true, decide_eq_true_eq]
        exact h3
      rw [h4] at q
      cases q.2)
    case k4 =>
      intro h1 h2 h3
      have h4 : alt E g (chS s) (m + 1) k l = none := by
        unfold alt
        rw [if_pos ⟨h2, by
          unfold lof
          simp only [Bool.or_eq_false_iff, decide_eq_false_iff_not]
          have h3' : ¬ (gS g k = 42 ∨ gS g k = 63) := h3
          exact ⟨fun q => h3' (Or.inl q), fun q => h3' (Or.inr q)⟩⟩]
      have h5 := k1 h4 c hc0 hc1
      rw [si_gi hc] at h5
      exact h5
    all_goals first | assumption | (intros; omega)
theorem m_X3_behind {B : zB} {K : Int → zM → Prop} {M : zM} {p1 p2 : Int} {g : zG} {E b : tE} {s : List Int} (hx : RX M g) (hw : WG g) (hE : eT M = E) (hT : TB E) (hs : mS M s) (ho : okS s) (hb : bT M = b) (hB : BB b) (ha : 0 ≤ p1 ∧ p1 < gA g) (hl : 0 ≤ p2 ∧ p2 ≤ 32)
    (k1 : alt E g (chS s) (gF g (p1.toNat + 1) - gF g p1.toNat).toNat (gF g p1.toNat).toNat p2 = none → ∀ c, 0 ≤ c → c ≤ 60 → K (-1) (si M 19 7 c))
    (k2 : ∀ e L, alt E g (chS s) (gF g (p1.toNat + 1) - gF g p1.toNat).toNat (gF g p1.toNat).toNat p2 = some (e, L) → K e (si M 19 7 (cnt b g 0 L))) : zCi B zy_X3_behind 3 0 0 [zR 19, zI p1, zI p2] M K := by
  have h1 := hw.2.2.2.1 p1.toNat (by omega)
  refine e_X3_behind (fun n0 => ?_)
  apply b_X3_behind_0 (g := g)
  case k1 =>
    have e : ((gF g p1.toNat).toNat : Int) = gF g p1.toNat := by omega
    rw [← e]
    refine l_X3_behind_17 hw hT ho hB ha (gF g (p1.toNat + 1) - gF g p1.toNat).toNat (gF g p1.toNat).toNat p2 0 _ (RX_7 hx) (by rw [eT_si (by decide)]; exact hE) (mS_7 hs) (by rw [bT_si (by decide)]; exact hb) (by rw [gi_si_eq, if_pos rfl]) (by omega) (by omega) (by omega) hl.1 hl.2 (fun hn c q1 q2 => ?_) (fun e L he => ?_)
    · rw [si_si]; exact k1 hn c q1 q2
    · rw [si_si]; exact k2 e L he
  all_goals first | assumption | (exact RX_7 hx) | omega
