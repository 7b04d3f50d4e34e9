section ME
variable {B : zB} {K : Int → zM → Prop} {Kv : zM → Prop} {M : zM} {g : zG} {s : List Int} {E : tE} {bf : Nat → Prop} {em : Nat → Bool} {l : Int}
theorem l_X9_endOf {a : Nat} {p2 : Int} (hT : TB E) (hx : RM M g) (hw : WG g) (hs : mN M s) (ho : okS s) (ha : (a : Int) < gA g) (hl : 0 ≤ l ∧ l ≤ s.length) (hE : ∀ r l', Al g bf l r l' → eQ M s.length E r l'.toNat) (hem : ∀ r, bf r → E r l.toNat = l → em r = true) : ∀ (m k n0 : Nat) (x : Int), ((k + m : Nat) : Int) = gF g (a + 1) → 0 ≤ x → x ≤ l → (x < l ∨ LD g em bf m k) →
    K (cvN s.length (aE (alt E g (chS s) m k x))) M → zGi B zy_X9_endOf 4 0 0 n0 K 10 [some (zR 45), some (zI (a : Int)), some (zI p2), some (zI ((s.length : Int) - x)), some (zI (k : Int)), none] [] M 0 0 := by
  have h32 := ho.1
  have ga := hw.2.1
  have gnb := hw.1
  have fb := hw.2.2.2.2.1 (a + 1) (by omega)
  have x4 := hx.2.2.2.1 (a + 1) (by omega)
  have ea : ((a : Int) + 1).toNat = a + 1 := by omega
  intro m
  induction m with
  | zero =>
    intro k n0 x hk hx0 hx1 _ hK
    apply b_X9_endOf_10
    case k1 =>
      intro _
      have : cvN s.length (aE (alt E g (chS s) 0 k x)) = (s.length : Int) - x := cvN_pos hx0
      rw [this] at hK
      exact hK
    case k2 => intro q; rw [ea, x4] at q; omega
    case k3 => intro q; rw [ea, x4] at q; omega
    all_goals (intros; first | omega | (rw [ea, x4] at *; omega))
  | succ m ih =>
    intro k n0 x hk hx0 hx1 hld hK
    have hkg : (k : Int) < gN g := by omega
    have ek : ((k : Int)).toNat = k := rfl
    have x3 := (hx.2.2.1 k hkg).2
    have hS := (hw.2.2.1 k hkg).2
    have ob := onc_bd (E := E) (ch := chS s) (l := x) hT chS_neg hw hkg hx0
    have hnb : x < l ∨ (nm (gI g k) < 6 → bf (nm (gI g k)).toNat) := by
      rcases hld with h | h
      · exact Or.inl h
      · exact Or.inr (fun q => h 0 (by omega) (fun i hi => by omega) (nm_lt.mp q))
    have hal : isNm (gI g k) = true → ∀ q : Int, 0 ≤ q → q ≤ x → Al g bf l (nm (gI g k)).toNat q := fun hn q h0 h1 => by
      have q6 := nm_lt.mpr hn
      refine ⟨⟨k, hkg, q6, rfl⟩, ?_⟩
      by_cases e : q < l
      · exact Or.inl ⟨h0, e⟩
      · rcases hnb with h | h
        · omega
        · exact Or.inr ⟨by omega, h q6⟩
    have hq : isNm (gI g k) = true → ∀ q : Nat, (q : Int) ≤ x → eQ M s.length E (nm (gI g k)).toNat q := fun hn q h1 => hE _ _ (hal hn q (by omega) h1)
    have hq1 : isNm (gI g k) = true → eQ M s.length E (nm (gI g k)).toNat x.toNat := fun hn => hq hn _ (by omega)
    -- the way on
    have go : ∀ (n0 : Nat) (y : Int), ¬ (onc E g (chS s) k x < 0 ∧ ¬ gS g k = 42 ∧ ¬ gS g k = 63) → y = itN E g (chS s) k x → zGi B zy_X9_endOf 4 0 0 n0 K 10 [some (zR 45), some (zI (a : Int)), some (zI p2), some (zI ((s.length : Int) - y)), some (zI ((k : Int) + 1)), none] [] M 0 0 := fun n0 y hc hy => by
      have hc2 : ¬ (mor E g (chS s) k 0 x < 0 ∧ lof g k = false) := fun z => hc (mor_it.mp z)
      have et := tks_it (E := E) (ch := chS s) (l := x) hT chS_neg hw hkg ⟨hx0, by omega⟩
      have hen := tks_en (E := E) (ch := chS s) hT chS_neg hw hkg 33 0 x hx0
      rw [et] at hen
      unfold alt at hK
      rw [if_neg hc2, aE_map, et, ← hy] at hK
      rw [← hy] at hen
      refine ih (k + 1) n0 y (by omega) hen.1 (by omega) ?_ hK
      by_cases he : y < l
      · exact Or.inl he
      · refine Or.inr ?_
        have exl : x = l := by omega
        have h := hld.resolve_left (by omega)
        subst exl
        exact h.tail (item_void hT chS_neg hw hem hx0 hkg (fun q => h 0 (by omega) (fun i hi => by omega) (nm_lt.mp q)) hc2 (by rw [et]; omega))
    apply b_X9_endOf_10
    case k1 => intro q; rw [ea, x4] at q; omega
    case c1 => omega
    case c2 => omega
    case c3 => intro _; omega
    case k3 =>
      intro _ q
      rw [ek, x3] at q
      refine m_X9_againE hT hx hw hs ho hkg ⟨hx0, by omega⟩ hq ?_
      have ab := agn_bd (E := E) (g := g) (ch := chS s) (k := k) 33 x hx0
      apply b_X9_endOf_42
      case k1 =>
        intro y hy _ _
        rw [ek, x3, if_neg (by omega)] at hy
        rw [hy]
        exact go n0 _ (fun z => z.2.1 q) (by unfold itN; rw [if_pos q])
      case k2 => intro y hy _ z; rw [ek, x3] at z; omega
      case k3 => intro y hy z; rw [ek, x3, if_neg (by omega)] at hy; omega
      all_goals (intros; omega)
    case k2 =>
      intro _ q
      rw [ek, x3] at q
      refine p_X9_onceE hT hx hw hs ho hkg ⟨hx0, by omega⟩ hq1 ?_
      have cs := cvN_sg (n := s.length) (x := onc E g (chS s) k x) (by omega)
      apply b_X9_endOf_52
      case k3 =>
        intro y hy z
        rw [ek, x3] at hy
        by_cases c63 : gS g k = 63
        · rw [if_pos c63] at hy
          by_cases c0 : 0 ≤ cvN s.length (onc E g (chS s) k x)
          · rw [if_pos c0] at hy; omega
          · rw [if_neg c0] at hy; omega
        · rw [if_neg c63] at hy
          have : mor E g (chS s) k 0 x < 0 ∧ lof g k = false := mor_it.mpr ⟨by omega, q, c63⟩
          unfold alt at hK
          rw [if_pos this] at hK
          exact hK
      case k1 =>
        intro y hy z z43
        rw [ek, x3] at hy z43
        by_cases c0 : onc E g (chS s) k x < 0
        · have c63 : gS g k = 63 := Decidable.byContradiction (fun w => by rw [if_neg w, cvN_neg c0] at hy; omega)
          rw [if_pos c63, cvN_neg c0, if_neg (by decide)] at hy
          rw [hy]
          exact go n0 _ (fun z => z.2.2 c63) (by unfold itN; rw [if_neg q, if_pos c0])
        · have : y = (s.length : Int) - onc E g (chS s) k x := by
            rw [cvN_pos (by omega)] at hy
            rw [hy]
            split
            · rw [if_pos (by omega)]
            · rfl
          rw [this]
          exact go n0 _ (fun z => c0 z.1) (by unfold itN; rw [if_neg q, if_neg c0, if_neg z43])
      case k2 =>
        intro y hy z z43
        rw [ek, x3] at hy z43
        rw [if_neg (by omega)] at hy
        have c0 : ¬ onc E g (chS s) k x < 0 := by omega
        rw [cvN_pos (by omega)] at hy
        rw [hy]
        refine m_X9_againE hT hx hw hs ho hkg ⟨by omega, by omega⟩ (fun hn q hq2 => hq hn q (by omega)) ?_
        apply b_X9_endOf_106
        case k1 => exact go n0 _ (fun z => c0 z.1) (by unfold itN; rw [if_neg q, if_neg c0, if_pos z43])
        case c1 => omega
      all_goals (intros; omega)
theorem m_X9_endOf {a : Nat} (hT : TB E) (hx : RM M g) (hw : WG g) (hs : mN M s) (ho : okS s) (ha : (a : Int) < gA g) (hl : 0 ≤ l ∧ l ≤ s.length) (hE : ∀ r l', Al g bf l r l' → eQ M s.length E r l'.toNat) (hem : ∀ r, bf r → E r l.toNat = l → em r = true) (hld : LD g em bf (gF g (a + 1) - gF g a).toNat (gF g a).toNat)
    (kk : K (cvN s.length (aE (alt E g (chS s) (gF g (a + 1) - gF g a).toNat (gF g a).toNat l))) M) : zCi B zy_X9_endOf 4 0 0 [zR 45, zI (a : Int), zI ((s.length : Int) - l)] M K := by
  have ga := hw.2.1
  have fb := hw.2.2.2.1 a ha
  have x4 := hx.2.2.2.1 a (by omega)
  have ea : ((a : Int)).toNat = a := rfl
  refine e_X9_endOf (fun n0 => ?_)
  apply b_X9_endOf_0
  case c1 => omega
  case k1 =>
    rw [ea, x4, (by omega : gF g a = (((gF g a).toNat : Nat) : Int))]
    refine l_X9_endOf hT hx hw hs ho ha hl hE hem (gF g (a + 1) - gF g a).toNat (gF g a).toNat n0 l (by omega) hl.1 (Int.le_refl _) (Or.inr ?_) ?_
    · exact hld
    · exact kk
def aA (o : Option (Nat × Int × List tk)) : Int := match o with
  | none => -1
  | some p => (p.1 : Int)
theorem m_X9_alternativeOf {r : Nat} (hT : TB E) (hx : RM M g) (hw : WG g) (hs : mN M s) (ho : okS s) (hr : r < 6) (hr0 : 0 ≤ gR g r) (hl : 0 ≤ l ∧ l ≤ s.length) (hE : ∀ r l', Al g bf l r l' → eQ M s.length E r l'.toNat) (hem : ∀ r, bf r → E r l.toNat = l → em r = true) (hld : ∀ b : Nat, gR g r ≤ b → (b : Int) < gE g r → LD g em bf (gF g (b + 1) - gF g b).toNat (gF g b).toNat)
    (kk : K (aA (rmt E g (chS s) r l)) M) : zCi B zy_X9_alternativeOf 5 0 0 [zR 45, zI (r : Int), zI ((s.length : Int) - l)] M K := by
  have h32 := ho.1
  have er : ((r : Int)).toNat = r := rfl
  have ga := hw.2.1
  have hwr := hw.2.2.2.2.2 r hr
  have x5 := hx.2.2.2.2 r hr
  have L : ∀ (m a n0 : Nat), gR g r ≤ a → ((a + m : Nat) : Int) = gE g r → K (aA (rms E g (chS s) l m a)) M → zGi B zy_X9_alternativeOf 5 0 0 n0 K 7 [some (zR 45), some (zI (r : Int)), some (zI ((s.length : Int) - l)), some (zI (a : Int))] [] M 0 0 := by
    intro m
    induction m with
    | zero =>
      intro a n0 h1 h2 hK
      apply b_X9_alternativeOf_7
      case k1 => intro _; exact hK
      case k2 => intro q; rw [er, x5.2 hr0] at q; omega
      case c1 => omega
    | succ m ih =>
      intro a n0 h1 h2 hK
      unfold rms at hK
      apply b_X9_alternativeOf_7
      case c1 => omega
      case k1 => intro q; rw [er, x5.2 hr0] at q; omega
      case k2 =>
        intro q
        have fb := hw.2.2.2.1 a (by omega)
        have fb2 := hw.2.2.2.2.1 (a + 1) (by omega)
        have hac := (alt_cg (E := E) (E' := E) (ch := chS s) (ch' := chS s) hT chS_neg hw (fun _ _ _ => rfl) (fun _ _ => rfl) hem hl.1 (gF g (a + 1) - gF g a).toNat (gF g a).toNat l (by omega) hl.1 (Int.le_refl _) (Or.inr (hld a h1 (by omega)))).2
        refine m_X9_endOf hT hx hw hs ho (by omega) hl hE hem (hld a h1 (by omega)) ?_
        cases ho : alt E g (chS s) (gF g (a + 1) - gF g a).toNat (gF g a).toNat l with
        | none =>
          rw [ho] at hK
          apply b_X9_alternativeOf_23
          case k1 => intro _; exact ih (a + 1) n0 (by omega) (by omega) hK
          case k2 => intro z; have z2 : (0 : Int) ≤ cvN s.length (-1) := z; rw [cvN_neg (by decide)] at z2; omega
          case c1 => intro _; omega
        | some p =>
          rw [ho] at hK
          have hp := (hac p.1 p.2 ho).1
          apply b_X9_alternativeOf_23
          case k1 => intro z; have z2 : cvN s.length p.1 < 0 := z; rw [cvN_pos hp.1] at z2; omega
          case k2 => intro _; exact hK
          case c1 => intro _; omega
  refine e_X9_alternativeOf (fun n0 => ?_)
  apply b_X9_alternativeOf_0
  case c1 => omega
  case k1 =>
    rw [er, x5.1, (by omega : gR g r = (((gR g r).toNat : Nat) : Int))]
    unfold rmt at kk
    rw [if_neg (by omega)] at kk
    exact L _ _ n0 (by omega) (by omega) kk
end ME
