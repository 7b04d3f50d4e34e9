/-! ===== all ends: the model ===== -/
theorem rms_alt {E : tE} {g : zG} {ch : Nat → Int} {l : Int} : ∀ (m a b : Nat) (e : Int) (L : List tk), rms E g ch l m a = some (b, e, L) → alt E g ch (gF g (b + 1) - gF g b).toNat (gF g b).toNat l = some (e, L) := by
  intro m
  induction m with
  | zero => intro a b e L h; cases h
  | succ m ih =>
    intro a b e L h
    unfold rms at h
    cases hq : alt E g ch (gF g (a + 1) - gF g a).toNat (gF g a).toNat l with
    | none => rw [hq] at h; exact ih _ _ _ _ h
    | some q =>
      rw [hq] at h
      simp only [Option.some.injEq, Prod.mk.injEq] at h
      obtain ⟨rfl, rfl⟩ := h
      exact hq
theorem rmt_alt {E : tE} {g : zG} {ch : Nat → Int} {l : Int} {r b : Nat} {e : Int} {L : List tk} (h : rmt E g ch r l = some (b, e, L)) : alt E g ch (gF g (b + 1) - gF g b).toNat (gF g b).toNat l = some (e, L) := by
  unfold rmt at h
  split at h
  · cases h
  · exact rms_alt _ _ _ _ _ h
/-- the model's ends are right for all that is done -/
def FQ (M : zM) (g : zG) (ord : Nat → Nat) (em : Nat → Bool) (s : List Int) (E b al : tE) (l k : Nat) : Prop := TB E ∧ SAT E b al g (chS s) ord em l k ∧ ∀ r x, Dn g ord l k r x → eQ M s.length E r x
section FQs
variable {M : zM} {g : zG} {ord : Nat → Nat} {em : Nat → Bool} {s : List Int} {E b al : tE} {n l k : Nat}
theorem FQ.same {M' : zM} (h : FQ M g ord em s E b al l k) (e : gi M' 63 = gi M 63) : FQ M' g ord em s E b al l k := ⟨h.1, h.2.1, fun r x hd => by unfold eQ; rw [e]; exact h.2.2 r x hd⟩
theorem FQ.hal (hn : NG g) (h : FQ M g ord em s E b al l k) : ∀ r l', Al g (FR ord k) l r l' → eQ M s.length E r l'.toNat := by
  rintro r l' ⟨⟨j, hj, h6, rfl⟩, ⟨h1, h2⟩ | ⟨h1, h2⟩⟩
  · have hnm := nm_bd (gI g j)
    refine h.2.2 _ _ (Or.inl ⟨by omega, by omega, ?_⟩)
    have := hn j hj (nm_lt.mp h6)
    rw [nm_eq (nm_lt.mp h6)]
    exact this
  · exact h.2.2 _ _ (Or.inr ⟨by omega, h2⟩)
theorem FQ.hem (h : FQ M g ord em s E b al l k) : ∀ r, FR ord k r → E r l = l → em r = true := fun r hr he => (h.2.1 r l (Or.inr ⟨rfl, hr⟩)).2 he
theorem FQ.step (hw : WG g) (hog : OG g ord n em) (hk : k < n) (hl : l ≤ s.length) (ho : s.length ≤ 32) (h : FQ M g ord em s E b al l k) :
    ∃ E' b' al' : tE, FQ (si M 63 (33 * ord k + (s.length - l)) (cvN s.length (rva (rmt E g (chS s) (ord k) l)))) g ord em s E' b' al' l (k + 1) := by
  have hq := rmt_cg (E := E) (E' := E) (ch := chS s) (ch' := chS s) h.1 chS_neg hw hog hk (l := l) (fun _ _ _ => rfl) (fun _ _ => rfl) h.hem
  have hT' : TB (fun r x => if r = ord k ∧ x = l then rva (rmt E g (chS s) (ord k) l) else E r x) := by
    intro r x
    dsimp only
    split
    · next z =>
      cases hr : rmt E g (chS s) (ord k) l with
      | none => show (-1 : Int) ≤ -1 ∧ (-1 : Int) ≤ x; omega
      | some p =>
        obtain ⟨a, e, L⟩ := p
        have := (hq.2 a e L hr).2.1
        show (-1 : Int) ≤ e ∧ e ≤ x
        omega
    · exact h.1 r x
  refine ⟨fun r x => if r = ord k ∧ x = l then rva (rmt E g (chS s) (ord k) l) else E r x, fun r x => if r = ord k ∧ x = l then cnt b g 0 (lst (rmt E g (chS s) (ord k) l)) else b r x, fun r x => if r = ord k ∧ x = l then aA (rmt E g (chS s) (ord k) l) else al r x, hT', ?_, ?_⟩
  · refine SAT.step (E0 := E) (b1 := b) h.1 h.1 hT' chS_neg hw hog hk h.2.1 (fun r x _ z => if_neg z) (fun _ _ _ _ => rfl) (fun r x _ z => if_neg z) (fun _ _ _ _ => rfl) (fun r x _ z => if_neg z) (if_pos ⟨rfl, rfl⟩) (fun a e L he => ⟨?_, ?_⟩)
    · skip
      rw [if_pos ⟨rfl, rfl⟩, he]
      rfl
    · skip
      rw [if_pos ⟨rfl, rfl⟩, he]
      rfl
  · intro r x hd
    unfold eQ
    dsimp only
    by_cases z : r = ord k ∧ x = l
    · rw [if_pos z, z.1, z.2, gi_si_eq, if_pos rfl]
    · have hd0 : Dn g ord l k r x ∧ x ≤ l := by
        rcases hd with h1 | ⟨h1, j, hj, h2⟩
        · exact ⟨Or.inl h1, by omega⟩
        · refine ⟨Or.inr ⟨h1, j, ?_, h2⟩, by omega⟩
          by_cases e : j = k
          · exact absurd ⟨by rw [← h2, e], h1⟩ z
          · omega
      rw [if_neg z, gi_si_eq, if_neg]
      · exact h.2.2 r x hd0.1
      · intro q
        apply z
        have := hd0.2
        omega
theorem FQ.row (hog : OG g ord n em) (h : FQ M g ord em s E b al l n) : FQ M g ord em s E b al (l + 1) 0 := by
  refine ⟨h.1, h.2.1.row hog, fun r x hd => h.2.2 r x ?_⟩
  rcases hd with ⟨h1, h2, h3⟩ | ⟨_, j, hj, _⟩
  · by_cases e : x = l
    · obtain ⟨i, hi, hr⟩ := hog.2.2.1 r h2 h3
      exact Or.inr ⟨e, i, hi, hr⟩
    · exact Or.inl ⟨by omega, h2, h3⟩
  · omega
theorem FQ.zero : FQ M g ord em s (fun _ _ => -1) (fun _ _ => 0) (fun _ _ => 0) 0 0 := by
  refine ⟨fun r x => by dsimp only; omega, fun r x hd => ?_, fun r x hd => ?_⟩
  · rcases hd with ⟨h, _⟩ | ⟨_, j, hj, _⟩ <;> omega
  · rcases hd with ⟨h, _⟩ | ⟨_, j, hj, _⟩ <;> omega
end FQs
section MFE
variable {B : zB} {Kv : zM → Prop} {M : zM} {g : zG} {s : List Int} {ord : Nat → Nat} {em : Nat → Bool} {n n0 : Nat}
theorem zSm.fe {S : List Nat} {M M' : zM} (h : zSm [63] M M') (hx : RM M g) (hs : mN M s) : RM M' g ∧ mN M' s ∧ gi M' 45 = gi M 45 ∧ gi M' 61 = gi M 61 := by
  have e45 : gi M' 45 = gi M 45 := h.ge (by decide)
  exact ⟨hx.same (fun a ha => h.ge (by simp; omega)) (by rw [e45]) (by rw [e45]), ⟨by rw [e45]; exact hs.1, hs.2.same (h.ge (by decide))⟩, e45, h.ge (by decide)⟩
theorem l_X9_fe_11 (hx : RM M g) (hw : WG g) (hn : NG g) (hog : OG g ord n em) (hn6 : n ≤ 6) (h12 : gi M 45 12 = (n : Int)) (h61 : ∀ i, i < n → gi M 61 i = (ord i : Int)) (hs : mN M s) (ho : okS s) {l : Nat} (hl : l ≤ s.length)
    (kn : ∀ M2 E b al, zSm [63] M M2 → FQ M2 g ord em s E b al l n → zGv B zy_X9_findEnds 6 0 0 n0 Kv 5 [some (zR 45), some (zI ((s.length : Int) - l + (-1))), none, none] [] M2 0 0) :
    ∀ (m k : Nat) (M1 : zM) (E b al : tE), k + m = n → zSm [63] M M1 → FQ M1 g ord em s E b al l k → zGv B zy_X9_findEnds 6 0 0 n0 Kv 11 [some (zR 45), some (zI ((s.length : Int) - l)), some (zI (k : Int)), none] [] M1 0 0 := by
  have h32 := ho.1
  intro m
  induction m with
  | zero =>
    intro k M1 E b al hk f h
    obtain ⟨f1, f2, f3, f4⟩ := f.fe (S := []) hx hs
    apply b_X9_findEnds_11
    case k1 =>
      intro _
      have e : k = n := by omega
      rw [e] at h
      exact kn M1 E b al f h
    case k2 => intro q; rw [f3, h12] at q; omega
    case c2 => intro q; rw [f3, h12] at q; omega
    case c1 => intro _; omega
  | succ m ih =>
    intro k M1 E b al hk f h
    obtain ⟨f1, f2, f3, f4⟩ := f.fe (S := []) hx hs
    have hkn : k < n := by omega
    have hord := hog.1 k hkn
    have ek : ((k : Int)).toNat = k := rfl
    have e61 : gi M1 61 k = (ord k : Int) := by rw [f4]; exact h61 k hkn
    obtain ⟨E', b', al', hst⟩ := h.step hw hog hkn hl h32
    have hq := rmt_cg (E := E) (E' := E) (ch := chS s) (ch' := chS s) h.1 chS_neg hw hog hkn (l := l) (fun _ _ _ => rfl) (fun _ _ => rfl) h.hem
    have hem : ∀ r, FR ord k r → E r ((l : Nat) : Int).toNat = ((l : Nat) : Int) → em r = true := h.hem
    have ei : (33 * (ord k : Int) + ((s.length : Int) - l)).toNat = 33 * ord k + (s.length - l) := by omega
    apply b_X9_findEnds_11
    case k1 => intro q; rw [f3, h12] at q; omega
    case c1 => intro _; omega
    case c2 => intro _; omega
    case k2 =>
      intro _
      rw [ek, e61]
      refine m_X9_alternativeOf (l := (l : Int)) h.1 f1 hw f2 ho hord.1 hord.2 ⟨by omega, by omega⟩ (h.hal hn) hem (fun c h1 h2 => hog.2.2.2.1 k hkn c h1 h2) ?_
      cases hr : rmt E g (chS s) (ord k) (l : Int) with
      | none =>
        rw [hr] at hst
        apply b_X9_findEnds_30
        case k1 => intro q; have q2 : (0 : Int) ≤ -1 := q; omega
        case k2 =>
          intro _
          rw [ek, e61, ei]
          have e1 : cvN s.length (rva none) = -1 := cvN_neg (by decide)
          rw [e1] at hst
          exact ih (k + 1) _ E' b' al' (by omega) (f.st (by decide)) hst
        all_goals (intros; first | omega | (rw [ek, e61]; omega))
      | some p =>
        obtain ⟨a, e, L⟩ := p
        rw [hr] at hst
        obtain ⟨q1, q2, -, -⟩ := hq.2 a e L hr
        have hwr := hw.2.2.2.2.2 (ord k) hord.1
        apply b_X9_findEnds_30
        case k2 => intro q; have q2 : (a : Int) < 0 := q; omega
        case k1 =>
          intro _
          refine m_X9_endOf (a := a) (l := (l : Int)) h.1 f1 hw f2 ho (by omega) ⟨by omega, by omega⟩ (h.hal hn) hem (hog.2.2.2.1 k hkn a q1.1 q1.2) ?_
          rw [rmt_alt hr]
          rw [ek, e61]
          apply b_X9_findEnds_60
          case k1 =>
            rw [ei]
            exact ih (k + 1) _ E' b' al' (by omega) (f.st (by decide)) hst
          all_goals omega
        case c4 => intro q; have q2 : (a : Int) < 0 := q; omega
        case c5 => intro q; have q2 : (a : Int) < 0 := q; omega
        all_goals (intros; first | omega | (rw [ek, e61]; omega))
theorem m_X9_findEnds (hx : RM M g) (hw : WG g) (hn : NG g) (hog : OG g ord n em) (hn6 : n ≤ 6) (h12 : gi M 45 12 = (n : Int)) (h61 : ∀ i, i < n → gi M 61 i = (ord i : Int)) (hs : mN M s) (ho : okS s)
    (kk : ∀ M2 E b al, zSm [63] M M2 → FQ M2 g ord em s E b al (s.length + 1) 0 → Kv M2) : zCv B zy_X9_findEnds 6 0 0 [zR 45] M Kv := by
  have L : ∀ (d l n0 : Nat) (M1 : zM) (E b al : tE), l + d = s.length + 1 → zSm [63] M M1 → FQ M1 g ord em s E b al l 0 → zGv B zy_X9_findEnds 6 0 0 n0 Kv 5 [some (zR 45), some (zI ((s.length : Int) - l)), none, none] [] M1 0 0 := by
    intro d
    induction d with
    | zero =>
      intro l n0 M1 E b al hl f h
      apply b_X9_findEnds_5
      case k1 =>
        intro _
        rw [(by omega : l = s.length + 1)] at h
        exact kk M1 E b al f h
      case k2 => intro q; omega
    | succ d ih =>
      intro l n0 M1 E b al hl f h
      obtain ⟨f1, f2, f3, f4⟩ := f.fe (S := []) hx hs
      apply b_X9_findEnds_5
      case k1 => intro q; omega
      case k2 =>
        intro _
        refine l_X9_fe_11 f1 hw hn hog hn6 (by rw [f3]; exact h12) (by rw [f4]; exact h61) f2 ho (by omega) (fun M2 E2 b2 al2 g1 g2 => ?_) n 0 M1 E b al (by omega) zSm.rf h
        have h2 := ih (l + 1) n0 M2 E2 b2 al2 (by omega) (f.tr g1) (g2.row hog)
        rw [(by omega : (s.length : Int) - l + (-1) = (s.length : Int) - ((l + 1 : Nat) : Int))]
        exact h2
  refine e_X9_findEnds (fun n0 => ?_)
  apply b_X9_findEnds_0
  rw [hs.1]
  have h0 := L (s.length + 1) 0 n0 M (fun _ _ => -1) (fun _ _ => 0) (fun _ _ => 0) (by omega) zSm.rf FQ.zero
  rw [(by omega : (s.length : Int) - ((0 : Nat) : Int) = (s.length : Int))] at h0
  exact h0
end MFE
theorem zCv_mono {B : zB} {y : zY} {d mc ms : Nat} {as : List zV} {M : zM} {K K' : zM → Prop} (h : zCv B y d mc ms as M K) (hq : ∀ M', K M' → K' M') : zCv B y d mc ms as M K' := zMet.mono h (fun _ _ _ ⟨a, b, c⟩ => ⟨a, b, hq _ c⟩)
theorem zCi_mono {B : zB} {y : zY} {d mc ms : Nat} {as : List zV} {M : zM} {K K' : Int → zM → Prop} (h : zCi B y d mc ms as M K) (hq : ∀ x M', K x M' → K' x M') : zCi B y d mc ms as M K' := zMet.mono h (fun _ _ _ ⟨a, x, b, c⟩ => ⟨a, x, b, hq _ _ c⟩)
