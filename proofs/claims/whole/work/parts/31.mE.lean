/-! ===== Matcher: fits ===== -/
def OX (M : zM) (ord : Nat → Nat) (n st : Nat) : Prop := gi M 8 2 = n ∧ (∀ i, i < n → gi M 9 i = ord i) ∧ gi M 8 1 = st
def IMx (M : zM) (g : zG) (ord : Nat → Nat) (em : Nat → Bool) : Prop := IBm M ∧ (¬ gi M 19 3 = 0 → ∃ s0, okS s0 ∧ mS M s0 ∧ SAT (eT M) (bT M) (aT M) g (chS s0) ord em (s0.length + 1) 0)
/-- the matcher is right for the text s -/
def MT (M : zM) (g : zG) (ord : Nat → Nat) (em : Nat → Bool) (s : List Int) : Prop := IBm M ∧ mS M s ∧ SAT (eT M) (bT M) (aT M) g (chS s) ord em (s.length + 1) 0
theorem OX.fr {S : List Nat} {M M' : zM} {ord : Nat → Nat} {n st : Nat} (h : OX M ord n st) (hs : zSm S M M') (h8 : 8 ∉ S) (h9 : 9 ∉ S) : OX M' ord n st := by
  unfold OX
  rw [hs.ge h8, hs.ge h9]
  exact h
theorem MT.same {M M' : zM} {g : zG} {ord : Nat → Nat} {em : Nat → Bool} {s : List Int} (h : MT M g ord em s) (e : ∀ a, 19 ≤ a → a ≤ 23 → gi M' a = gi M a) : MT M' g ord em s := by
  obtain ⟨h1, h2, h3⟩ := h
  refine ⟨h1.same (e 21 (by decide) (by decide)) (e 22 (by decide) (by decide)), ⟨by rw [e 19 (by decide) (by decide)]; exact h2.1, h2.2.same (e 20 (by decide) (by decide))⟩, ?_⟩
  unfold eT bT aT
  rw [e 21 (by decide) (by decide), e 22 (by decide) (by decide), e 23 (by decide) (by decide)]
  exact h3
theorem MT.imx {M : zM} {g : zG} {ord : Nat → Nat} {em : Nat → Bool} {s : List Int} (h : MT M g ord em s) (ho : okS s) : IMx M g ord em := ⟨h.1, fun _ => ⟨s, ho, h.2⟩⟩
theorem IMx.same {M M' : zM} {g : zG} {ord : Nat → Nat} {em : Nat → Bool} (h : IMx M g ord em) (e : ∀ a, 19 ≤ a → a ≤ 23 → gi M' a = gi M a) : IMx M' g ord em := by
  refine ⟨h.1.same (e 21 (by decide) (by decide)) (e 22 (by decide) (by decide)), fun hf => ?_⟩
  rw [e 19 (by decide) (by decide)] at hf
  obtain ⟨s0, h1, h2, h3⟩ := h.2 hf
  have := MT.same (M' := M') (⟨h.1, h2, h3⟩ : MT M g ord em s0) e
  exact ⟨s0, h1, this.2⟩
/-- one more cell is settled -/
theorem SR.step {M M' : zM} {c l k n : Nat} {g : zG} {s : List Int} {ord : Nat → Nat} {em : Nat → Bool} (hw : WG g) (hog : OG g ord n em) (hi : IBm M) (hf : SF M M' c) (hT0 : TB (eT (si M 21 c (-1)))) (hk : k < n) (hl : l ≤ 32) (hc : c = ord k * 33 + l) (hr : SR M M' c g (rmt (eT (si M 21 c (-1))) g (chS s) (ord k) l)) (hs : SAT (eT M) (bT M) (aT M) g (chS s) ord em l k) : SAT (eT M') (bT M') (aT M') g (chS s) ord em l (k + 1) := by
  have hne : ∀ r x, x ≤ l → ¬ (r = ord k ∧ x = l) → r * 33 + x ≠ c := fun r x h1 h2 h3 => h2 (by omega)
  have hE0 : ∀ r x, x ≤ l → ¬ (r = ord k ∧ x = l) → eT (si M 21 c (-1)) r x = eT M r x := fun r x h1 h2 => by
    show gi (si M 21 c (-1)) 21 (r * 33 + x) = gi M 21 (r * 33 + x)
    rw [gi_si_eq, if_neg (hne r x h1 h2)]
  have hA : ∀ a, (a = 21 ∨ a = 22 ∨ a = 23) → ∀ r x, x ≤ l → ¬ (r = ord k ∧ x = l) → gi M' a (r * 33 + x) = gi M a (r * 33 + x) := fun a ha r x h1 h2 => hf.2.2.2 a ha _ (hne r x h1 h2)
  cases ho : rmt (eT (si M 21 c (-1))) g (chS s) (ord k) l with
  | none =>
    refine SAT.step (b1 := bT M) (E0 := eT (si M 21 c (-1))) hi.tb hT0 hf.2.2.1.tb chS_neg hw hog hk hs (hA 21 (by simp)) hE0 (hA 22 (by simp)) (fun _ _ _ _ => rfl) (hA 23 (by simp)) ?_ (fun a e L h => by rw [ho] at h; cases h)
    show gi M' 21 (ord k * 33 + l) = _
    rw [← hc]
    exact hr.1
  | some p =>
    obtain ⟨a, e, L⟩ := p
    obtain ⟨h23, b1, hb1, h22⟩ := hr.2 a e L ho
    refine SAT.step (b1 := b1) (E0 := eT (si M 21 c (-1))) hi.tb hT0 hf.2.2.1.tb chS_neg hw hog hk hs (hA 21 (by simp)) hE0 (hA 22 (by simp)) (fun r x h1 h2 => hb1 r x (hne r x h1 h2)) (hA 23 (by simp)) ?_ (fun a' e' L' h => ?_)
    · show gi M' 21 (ord k * 33 + l) = _
      rw [← hc]
      exact hr.1
    · rw [ho] at h
      simp only [Option.some.injEq, Prod.mk.injEq] at h
      obtain ⟨rfl, rfl, rfl⟩ := h
      show gi M' 23 (ord k * 33 + l) = _ ∧ gi M' 22 (ord k * 33 + l) = _
      rw [← hc]
      exact ⟨h23, h22⟩
section FI
variable {B : zB} {n0 : Nat} {K : Int → zM → Prop} {t : Nat} {g : zG} {s : List Int} {ord : Nat → Nat} {n st : Nat} {em : Nat → Bool}
theorem l_X3_fits_80 (ht : zTx t) (hw : WG g) (hog : OG g ord n em) (hn6 : n ≤ 6) (ho : okS s) {v2 : Int} {l : Nat} (hl : l ≤ s.length) : ∀ (m k : Nat) (M : zM), k + m = n → RX M g → OX M ord n st → mS M s → IBm M → SAT (eT M) (bT M) (aT M) g (chS s) ord em l k →
    (∀ M', zSm [19, 21, 22, 23] M M' → (∀ j, j ≠ 7 → gi M' 19 j = gi M 19 j) → IBm M' → SAT (eT M') (bT M') (aT M') g (chS s) ord em (l + 1) 0 → zGi B zy_X3_fits 5 0 0 n0 K 69 [some (zR 19), some (zR t), some (zI v2), some (zI ((l : Int) + 1)), none] [] M' 0 0) →
    zGi B zy_X3_fits 5 0 0 n0 K 80 [some (zR 19), some (zR t), some (zI v2), some (zI l), some (zI k)] [] M 0 0 := by
  intro m
  have hol := ho.1
  induction m with
  | zero =>
    intro k M hk hx hox hs hi hsat kk
    have e2 := hox.1
    have : k = n := by omega
    subst this
    apply b_X3_fits_80 ht
    case k1 => intro _; exact kk M zSm.rf (fun _ _ => rfl) hi (hsat.row hog)
    all_goals (intros; omega)
  | succ m ih =>
    intro k M hk hx hox hs hi hsat kk
    have e2 := hox.1
    have e9 := hox.2.1 k (by omega)
    have hok := hog.1 k (by omega)
    apply b_X3_fits_80 ht
    case k1 => intro _; omega
    case k2 =>
      intro _
      rw [show gi M 9 (k : Int).toNat = (ord k : Int) from e9]
      refine m_X3_settle (c := ord k * 33 + l) hx hw hs ho hi (by omega) (by omega) (by omega) (by have := hok.2; simpa using this) (fun hT0 M' hf hr => ?_)
      have hr2 : SR M M' (ord k * 33 + l) g (rmt (eT (si M 21 (ord k * 33 + l) (-1))) g (chS s) (ord k) l) := hr
      have hs2 := hr2.step hw hog hi hf hT0 (by omega) (by omega) rfl hsat
      refine b_X3_fits_107 ht (by omega) ?_
      have h3 := ih (k + 1) M' (by omega) (hf.rx hx) (hox.fr hf.1 (by decide) (by decide)) (hf.ms hs) hf.2.2.1 hs2 (fun M2 g1 g2 g3 g4 => kk M2 (hf.1.tr g1) (fun j hj => (g2 j hj).trans (hf.2.1 j hj)) g3 g4)
      exact h3
    all_goals (intros; omega)
theorem l_X3_fits_69 (ht : zTx t) (hw : WG g) (hog : OG g ord n em) (hn6 : n ≤ 6) (hst : st < 6) (ho : okS s) {v2 : Int} : ∀ (m l : Nat) (M : zM), l + m = s.length + 1 → RX M g → OX M ord n st → mS M s → IBm M → SAT (eT M) (bT M) (aT M) g (chS s) ord em l 0 →
    (∀ M', zSm [19, 21, 22, 23] M M' → MT M' g ord em s → gi M' 19 3 = 1 → K (if eT M' st s.length = 0 ∧ bT M' st s.length < 60 then 1 else 0) M') →
    zGi B zy_X3_fits 5 0 0 n0 K 69 [some (zR 19), some (zR t), some (zI v2), some (zI l), none] [] M 0 0 := by
  intro m
  have hol := ho.1
  induction m with
  | zero =>
    intro l M hl hx hox hs hi hsat kk
    have e1 := hox.2.2
    have e19 := hs.1
    have hl2 : l = s.length + 1 := by omega
    subst hl2
    have ecell : ((st : Int) * 33 + (s.length : Int)).toNat = st * 33 + s.length := by omega
    apply b_X3_fits_69 ht
    case k1 =>
      intro _
      rw [e1, e19, ecell]
      have hf : zSm [19, 21, 22, 23] M (si M 19 3 1) := zSm.rf.st (by simp)
      have h4 := kk (si M 19 3 1) hf ⟨hi.same (gi_si_ne (by decide)) (gi_si_ne (by decide)), ⟨by rw [gi_si_eq, if_neg (by decide)]; exact hs.1, hs.2.same (gi_si_ne (by decide))⟩, by
        rw [eT_si (by decide), bT_si (by decide), aT_si (by decide)]; exact hsat⟩ (by rw [gi_si_eq, if_pos rfl])
      rw [eT_si (by decide), bT_si (by decide)] at h4
      exact h4
    all_goals (intros; first | omega | (rw [e1, e19]; omega))
  | succ m ih =>
    intro l M hl hx hox hs hi hsat kk
    have e1 := hox.2.2
    have e19 := hs.1
    apply b_X3_fits_69 ht
    case k1 => intro _; omega
    case k2 =>
      intro _
      refine l_X3_fits_80 ht hw hog hn6 ho (by omega) n 0 M (by omega) hx hox hs hi hsat (fun M' g1 g2 g3 g4 => ?_)
      refine ih (l + 1) M' (by omega) (hx.fr g1 (by simp)) (hox.fr g1 (by decide) (by decide)) ⟨by rw [g2 2 (by decide)]; exact hs.1, hs.2.same (g1.ge (by decide))⟩ g3 g4 (fun M2 f1 f2 f3 => kk M2 (g1.tr f1) f2 f3)
    all_goals (intros; omega)
theorem l_X3_fits_41 (ht : zTx t) (ht19 : t < 19 ∨ 23 < t) (ht20 : t + 1 < 19 ∨ 23 < t + 1) (ho : okS s) {v2 : Int} : ∀ (m i : Nat) (M : zM), i + m = s.length → tT M t s → gi M 19 2 = s.length → zA M 20 (s.take i) →
    (∀ M', zSm [20] M M' → zA M' 20 s → zGi B zy_X3_fits 5 0 0 n0 K 69 [some (zR 19), some (zR t), some (zI v2), some (zI v2), none] [] M' 0 0) →
    zGi B zy_X3_fits 5 0 0 n0 K 41 [some (zR 19), some (zR t), some (zI v2), some (zI i), none] [] M 0 0 := by
  intro m
  have hol := ho.1
  induction m with
  | zero =>
    intro i M hi hs e hA kk
    apply b_X3_fits_41 ht
    case k1 => intro _; exact kk M zSm.rf (by rw [List.take_of_length_le (by omega)] at hA; exact hA)
    all_goals (intros; omega)
  | succ m ih =>
    intro i M hi hs e hA kk
    have hlt : i < s.length := by omega
    apply b_X3_fits_41 ht
    case k1 => intro _; omega
    case k2 =>
      intro _
      have hf : zSm [20] M (si M 20 i (gi M (t + 1) i)) := zSm.rf.st (by simp)
      refine ih (i + 1) _ (by omega) (hs.fr hf (by simp; omega) (by simp; omega)) (by rw [gi_si_ne (by decide)]; exact e) ?_ (fun M' g1 g2 => kk M' (hf.tr g1) g2)
      show zA (si M 20 i (gi M (t + 1) i)) 20 (s.take (i + 1))
      rw [take_succ' hlt, hs.2.get hlt]
      have h5 := hA.app1 (x := s.getD i 0)
      rw [List.length_take, show min i s.length = i from by omega] at h5
      exact h5
    case c2 => intro _; rw [show gi M (t + 1) (i : Int).toNat = s.getD i 0 from hs.2.get hlt]; exact ho.get hlt
    all_goals (intros; omega)
end FI
theorem m_X3_fits {B : zB} {K : Int → zM → Prop} {M : zM} {t : Nat} {g : zG} {s : List Int} {ord : Nat → Nat} {n st : Nat} {em : Nat → Bool} (ht : zTx t) (ht19 : t < 19 ∨ 23 < t) (ht20 : t + 1 < 19 ∨ 23 < t + 1) (hv : ¬ gi M 8 0 = 0) (hx : RX M g) (hw : WG g) (hog : OG g ord n em) (hn6 : n ≤ 6) (hst : st < 6) (hox : OX M ord n st) (him : IMx M g ord em) (hs : tT M t s) (ho : okS s)
    (k : ∀ M', zSm [19, 20, 21, 22, 23] M M' → MT M' g ord em s → gi M' 19 3 = 1 → K (if eT M' st s.length = 0 ∧ bT M' st s.length < 60 then 1 else 0) M') : zCi B zy_X3_fits 5 0 0 [zR 19, zR t] M K := by
  have hol := ho.1
  have main : ∀ (n0 : Nat) (l : Nat), l ≤ s.length + 1 → SAT (eT M) (bT M) (aT M) g (chS s) ord em l 0 → zGi B zy_X3_fits 5 0 0 n0 K 41 [some (zR 19), some (zR t), some (zI l), some (zI 0), none] [] (si M 19 2 (gi M t 1)) 0 0 := by
    intro n0 l hl hsat
    have hf : zSm [19, 20, 21, 22, 23] M (si M 19 2 (gi M t 1)) := zSm.rf.st (by simp)
    refine l_X3_fits_41 ht ht19 ht20 ho s.length 0 _ (by omega) (hs.fr hf (by simp; omega) (by simp; omega)) (by rw [gi_si_eq, if_pos rfl]; exact hs.1) zA.nil (fun M' g1 g2 => ?_)
    have e21 : ∀ a, a = 21 ∨ a = 22 ∨ a = 23 → gi M' a = gi M a := fun a ha => (g1.ge (by simp; omega)).trans (gi_si_ne (by omega))
    have hf' : zSm [19, 20, 21, 22, 23] M M' := hf.tr (g1.mono (by simp))
    refine l_X3_fits_69 ht hw hog hn6 hst ho (s.length + 1 - l) l M' (by omega) (hx.fr hf' (by simp)) (hox.fr hf' (by decide) (by decide)) ⟨by rw [g1.ge (by decide), gi_si_eq, if_pos rfl]; exact hs.1, g2⟩ (him.1.same (e21 21 (by simp)) (e21 22 (by simp))) (by
      unfold eT bT aT
      rw [e21 21 (by simp), e21 22 (by simp), e21 23 (by simp)]
      exact hsat) (fun M2 f1 f2 f3 => k M2 (hf'.tr (f1.mono (by simp))) f2 f3)
  refine e_X3_fits (fun n0 => ?_)
  apply b_X3_fits_0 ht
  case k1 => intro _ _; exact main n0 0 (by omega) (fun r l hd => by
    rcases hd with ⟨h, _⟩ | ⟨_, j, hj, _⟩ <;> omega)
  case k2 =>
    intro _ hfil
    obtain ⟨s0, h1, h2, h3⟩ := him.2 hfil
    refine m_X3_sameAtEnd ht h2 h1 hs ho (fun v q1 q2 q3 q4 => ?_)
    have hl0 := h1.1
    have h4 := main n0 (v.toNat + 1) (by omega) (h3.text him.1.tb chS_neg hw hog (by omega) (fun x hx2 => q4 x (by omega)))
    apply b_X3_fits_24 ht
    case k1 =>
      rw [show ((v.toNat + 1 : Nat) : Int) = v + 1 from by omega] at h4
      exact h4
    all_goals omega
  case k3 => intro h; exact absurd h hv
theorem m_X3_fits0 {B : zB} {K : Int → zM → Prop} {M : zM} {t : Nat} (ht : zTx t) (hv : gi M 8 0 = 0) (k : K 0 M) : zCi B zy_X3_fits 5 0 0 [zR 19, zR t] M K := by
  refine e_X3_fits (fun n0 => ?_)
  apply b_X3_fits_0 ht
  case k3 => intro _; exact k
  all_goals (intro h; exact absurd hv h)
