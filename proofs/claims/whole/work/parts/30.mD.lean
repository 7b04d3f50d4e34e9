/-! ===== Matcher: settle ===== -/
def IBm (M : zM) : Prop := (∀ j, -1 ≤ gi M 21 j ∧ gi M 21 j ≤ ((j % 33 : Nat) : Int)) ∧ ∀ j, 0 ≤ gi M 22 j ∧ gi M 22 j ≤ 60
theorem IBm.tb {M : zM} (h : IBm M) : TB (eT M) := fun r l => by
  have := h.1 (r * 33 + l)
  show -1 ≤ gi M 21 (r * 33 + l) ∧ gi M 21 (r * 33 + l) ≤ l
  omega
theorem IBm.bb {M : zM} (h : IBm M) : BB (bT M) := fun r l => h.2 (r * 33 + l)
theorem IBm.same {M M' : zM} (h : IBm M) (e1 : gi M' 21 = gi M 21) (e2 : gi M' 22 = gi M 22) : IBm M' := by
  unfold IBm
  rw [e1, e2]
  exact h
def SF (M M1 : zM) (c : Nat) : Prop := zSm [19, 21, 22, 23] M M1 ∧ (∀ j, j ≠ 7 → gi M1 19 j = gi M 19 j) ∧ IBm M1 ∧ ∀ a, (a = 21 ∨ a = 22 ∨ a = 23) → ∀ j, j ≠ c → gi M1 a j = gi M a j
theorem SF.rx {M M1 : zM} {c : Nat} {g : zG} (h : SF M M1 c) (hx : RX M g) : RX M1 g := hx.fr h.1 (by simp)
theorem SF.ms {M M1 : zM} {c : Nat} {s : List Int} (h : SF M M1 c) (hs : mS M s) : mS M1 s := ⟨by rw [h.2.1 2 (by decide)]; exact hs.1, hs.2.same (h.1.ge (by decide))⟩
theorem SF.et {M M1 : zM} {c : Nat} (h : SF M M1 c) (e : gi M1 21 c = -1) : eT M1 = eT (si M 21 c (-1)) := by
  funext r l
  show gi M1 21 (r * 33 + l) = gi (si M 21 c (-1)) 21 (r * 33 + l)
  rw [gi_si_eq]
  split
  · next q => rw [q, e]
  · next q => exact h.2.2.2 21 (Or.inl rfl) _ q
theorem SF.up {M M1 : zM} {c : Nat} {x v w a : Int} (h : SF M M1 c) (hv : -1 ≤ v ∧ v ≤ ((c % 33 : Nat) : Int)) (hw : 0 ≤ w ∧ w ≤ 60) : SF M (si (si (si (si M1 19 7 x) 21 c v) 22 c w) 23 c a) c := by
  refine ⟨(((h.1.st (by simp)).st (by simp)).st (by simp)).st (by simp), fun j hj => ?_, ⟨fun j => ?_, fun j => ?_⟩, fun b hb j hj => ?_⟩
  · rw [gi_si_ne (by decide), gi_si_ne (by decide), gi_si_ne (by decide), gi_si_eq, if_neg hj]
    exact h.2.1 j hj
  · rw [gi_si_ne (by decide), gi_si_ne (by decide), gi_si_eq]
    split
    · next q => rw [q]; exact hv
    · rw [gi_si_ne (by decide)]; exact h.2.2.1.1 j
  · rw [gi_si_ne (by decide), gi_si_eq]
    split
    · exact hw
    · rw [gi_si_ne (by decide), gi_si_ne (by decide)]; exact h.2.2.1.2 j
  · rcases hb with rfl | rfl | rfl
    · rw [gi_si_ne (by decide), gi_si_ne (by decide), gi_si_eq, if_neg hj, gi_si_ne (by decide)]; exact h.2.2.2 21 (by simp) j hj
    · rw [gi_si_ne (by decide), gi_si_eq, if_neg hj, gi_si_ne (by decide), gi_si_ne (by decide)]; exact h.2.2.2 22 (by simp) j hj
    · rw [gi_si_eq, if_neg hj, gi_si_ne (by decide), gi_si_ne (by decide), gi_si_ne (by decide)]; exact h.2.2.2 23 (by simp) j hj
/-- what settle leaves behind at its cell -/
def SR (M M1 : zM) (c : Nat) (g : zG) (o : Option (Nat × Int × List tk)) : Prop := gi M1 21 c = rva o ∧ ∀ a e L, o = some (a, e, L) → gi M1 23 c = a ∧ ∃ b1 : tE, (∀ r x, r * 33 + x ≠ c → b1 r x = bT M r x) ∧ gi M1 22 c = cnt b1 g 0 L
theorem l_X3_settle {B : zB} {n0 : Nat} {K : zM → Prop} {M : zM} {v1 v2 : Int} {c : Nat} {g : zG} {s : List Int} (hx : RX M g) (hw : WG g) (hs : mS M s) (ho : okS s) (h1 : 0 ≤ v1 ∧ v1 < 6) (h2 : 0 ≤ v2 ∧ v2 ≤ 32) (hc : c = v1.toNat * 33 + v2.toNat) (hR : 0 ≤ gR g v1.toNat) (hT0 : TB (eT (si M 21 c (-1)))) : ∀ (m a : Nat) (M1 : zM), SF M M1 c → gi M1 21 c = -1 → ((a + m : Nat) : Int) = gE g v1.toNat →
    (∀ M', SF M M' c → SR M M' c g (rms (eT (si M 21 c (-1))) g (chS s) v2 m a) → K M') →
    zGv B zy_X3_settle 4 0 0 n0 K 23 [some (zR 19), some (zI v1), some (zI v2), some (zI c), some (zI a)] [] M1 0 0 := by
  intro m
  have hgE := (hw.2.2.2.2.2 v1.toNat (by omega)).2 hR
  have hw2 := hw.2.1
  induction m with
  | zero =>
    intro a M1 hf hm ha k
    have kk : K M1 := k M1 hf ⟨hm, fun a e L he => by cases he⟩
    apply b_X3_settle_23 (g := g)
    case k1 => intro _; exact kk
    case k2 => intro _ _; exact kk
    case k3 => intro _ q; rw [if_neg (by omega)] at q; omega
    all_goals first | exact hf.rx hx | (intros; omega)
  | succ m ih =>
    intro a M1 hf hm ha k
    have hmod : (c % 33 : Nat) = v2.toNat := by omega
    have ha2 : 0 ≤ (a : Int) ∧ (a : Int) < gA g := by omega
    apply b_X3_settle_23 (g := g)
    case k1 => intro q; have : gi M1 21 (c : Int).toNat = -1 := hm; omega
    case k2 => intro _ q; rw [if_neg (by omega)] at q; omega
    case k3 =>
      intro _ _
      have hE := hf.et hm
      have hfa := hw.2.2.2.1 a (by omega)
      have hld := alt_cg (E := eT (si M 21 c (-1))) (E' := eT (si M 21 c (-1))) (ch := chS s) (ch' := chS s) (g := g) (bf := fun _ => True) (em := fun _ => true) (l := v2) hT0 chS_neg hw (fun _ _ _ => rfl) (fun _ _ => rfl) (fun _ _ _ => rfl) h2.1 (gF g (a + 1) - gF g a).toNat (gF g a).toNat v2 (by have := hw.2.2.2.2.1 (a + 1) (by omega); omega) h2.1 (Int.le_refl _) (Or.inr (fun _ _ _ _ => trivial))
      refine m_X3_behind (hf.rx hx) hw hE hT0 (hf.ms hs) ho rfl hf.2.2.1.bb ha2 h2 (fun hn c0 q1 q2 => ?_) (fun e L he => ?_)
      · have hn2 : alt (eT (si M 21 c (-1))) g (chS s) (gF g (a + 1) - gF g a).toNat (gF g a).toNat v2 = none := hn
        have hf2 : SF M (si (si (si (si M1 19 7 c0) 21 c (-1)) 22 c c0) 23 c a) c := hf.up (by omega) ⟨q1, q2⟩
        apply b_X3_settle_57
        case k1 =>
          have h3 := ih (a + 1) _ hf2 (by rw [gi_si_ne (by decide), gi_si_ne (by decide), gi_si_eq, if_pos rfl]) (by omega) (fun M' hf3 hr => k M' hf3 (by
            unfold rms
            rw [hn2]
            exact hr))
          have e7 : gi (si M1 19 7 c0) 19 7 = c0 := by rw [gi_si_eq, if_pos rfl]
          rw [e7]
          exact h3
        all_goals omega
      · have he2 : alt (eT (si M 21 c (-1))) g (chS s) (gF g (a + 1) - gF g a).toNat (gF g a).toNat v2 = some (e, L) := he
        have heb := (hld.2 e L he2).1
        have hcb := cnt_bd (g := g) hf.2.2.1.bb L (c := 0) (by decide) (by decide)
        have hf2 : SF M (si (si (si (si M1 19 7 (cnt (bT M1) g 0 L)) 21 c e) 22 c (cnt (bT M1) g 0 L)) 23 c a) c := hf.up (by omega) hcb
        have kk := k _ hf2 ⟨by
          rw [gi_si_ne (by decide), gi_si_ne (by decide), gi_si_eq, if_pos rfl]
          unfold rms
          rw [he2]
          rfl, fun a' e' L' h => by
          unfold rms at h
          rw [he2] at h
          simp only [Option.some.injEq, Prod.mk.injEq] at h
          obtain ⟨rfl, rfl, rfl⟩ := h
          refine ⟨by rw [gi_si_eq, if_pos rfl], bT M1, fun r x hne => hf.2.2.2 22 (by simp) _ hne, ?_⟩
          rw [gi_si_ne (by decide), gi_si_eq, if_pos rfl]⟩
        have e7 : gi (si M1 19 7 (cnt (bT M1) g 0 L)) 19 7 = cnt (bT M1) g 0 L := by rw [gi_si_eq, if_pos rfl]
        have e21 : gi (si (si (si (si M1 19 7 (cnt (bT M1) g 0 L)) 21 c e) 22 c (cnt (bT M1) g 0 L)) 23 c a) 21 (c : Int).toNat = e := by
          show gi _ 21 c = e
          rw [gi_si_ne (by decide), gi_si_ne (by decide), gi_si_eq, if_pos rfl]
        apply b_X3_settle_57
        case k1 =>
          rw [e7]
          apply b_X3_settle_23 (g := g)
          case k1 => intro _; exact kk
          case k2 => intro q; exact absurd q (by rw [show gi (si (si (si (si M1 19 7 (cnt (bT M1) g 0 L)) 21 (c : Int).toNat e) 22 (c : Int).toNat (cnt (bT M1) g 0 L)) 23 (c : Int).toNat a) 21 (c : Int).toNat = e from e21]; omega)
          case k3 => intro q; exact absurd q (by rw [show gi (si (si (si (si M1 19 7 (cnt (bT M1) g 0 L)) 21 (c : Int).toNat e) 22 (c : Int).toNat (cnt (bT M1) g 0 L)) 23 (c : Int).toNat a) 21 (c : Int).toNat = e from e21]; omega)
          all_goals first | exact hf2.rx hx | (intros; omega)
        all_goals omega
    all_goals first | exact hf.rx hx | (intros; omega)
theorem m_X3_settle {B : zB} {K : zM → Prop} {M : zM} {p1 p2 : Int} {c : Nat} {g : zG} {s : List Int} (hx : RX M g) (hw : WG g) (hs : mS M s) (ho : okS s) (hi : IBm M) (h1 : 0 ≤ p1 ∧ p1 < 6) (h2 : 0 ≤ p2 ∧ p2 ≤ 32) (hc : c = p1.toNat * 33 + p2.toNat) (hR : 0 ≤ gR g p1.toNat)
    (k : TB (eT (si M 21 c (-1))) → ∀ M', SF M M' c → SR M M' c g (rmt (eT (si M 21 c (-1))) g (chS s) p1.toNat p2) → K M') : zCv B zy_X3_settle 4 0 0 [zR 19, zI p1, zI p2] M K := by
  have ec : (p1 * 33 + p2).toNat = c := by omega
  have eci : p1 * 33 + p2 = (c : Int) := by omega
  have hgE := (hw.2.2.2.2.2 p1.toNat (by omega)).2 hR
  have hf : SF M (si M 21 c (-1)) c := by
    refine ⟨zSm.rf.st (by simp), fun j hj => by rw [gi_si_ne (by decide)], ⟨fun j => ?_, fun j => ?_⟩, fun b hb j hj => ?_⟩
    · rw [gi_si_eq]
      split
      · omega
      · exact hi.1 j
    · rw [gi_si_ne (by decide)]; exact hi.2 j
    · rcases hb with rfl | rfl | rfl
      · rw [gi_si_eq, if_neg hj]
      · rw [gi_si_ne (by decide)]
      · rw [gi_si_ne (by decide)]
  refine e_X3_settle (fun n0 => ?_)
  apply b_X3_settle_0 (g := g)
  case k1 =>
    rw [if_neg (by omega), ec, eci]
    have e : gR g p1.toNat = ((gR g p1.toNat).toNat : Int) := by omega
    rw [e]
    refine l_X3_settle hx hw hs ho h1 h2 hc hR hf.2.2.1.tb (gE g p1.toNat - gR g p1.toNat).toNat (gR g p1.toNat).toNat _ hf (by rw [gi_si_eq, if_pos rfl]) (by omega) (fun M' hf' hr => k hf.2.2.1.tb M' hf' ?_)
    unfold rmt
    rw [if_neg (by omega)]
    exact hr
  all_goals first | (rw [ec]; exact hf.rx hx) | omega
