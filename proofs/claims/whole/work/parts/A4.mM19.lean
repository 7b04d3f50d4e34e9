/-! ===== the tree's small methods: the model ===== -/
def ndM (M : zM) (j : Nat) : nd := (gi M 64 j, gi M 65 j, gi M 66 j, gi M 67 j, gi M 68 j, gi M 69 j)
def PM (M : zM) (P : List nd) : Prop := gi M 45 27 = (P.length : Int) ∧ ∀ (j : Nat) (p : nd), P[j]? = some p → ndM M j = p
/-- what building changes -/
def BF (M M' : zM) : Prop := zSm [45, 64, 65, 66, 67, 68, 69, 70, 71, 72, 73, 74] M M' ∧ ∀ q, q ≠ 27 → gi M' 45 q = gi M 45 q
theorem BF.rf {M : zM} : BF M M := ⟨zSm.rf, fun _ _ => rfl⟩
theorem BF.tr {M M' M2 : zM} (h : BF M M') (h' : BF M' M2) : BF M M2 := ⟨h.1.tr h'.1, fun q hq => (h'.2 q hq).trans (h.2 q hq)⟩
/-- the lower frames stay -/
def LF (f : Nat) (M M' : zM) : Prop := ∀ a, 70 ≤ a → a ≤ 74 → ∀ j, j < f → gi M' a j = gi M a j
theorem LF.rf {f : Nat} {M : zM} : LF f M M := fun _ _ _ _ _ => rfl
theorem LF.tr {f : Nat} {M M' M2 : zM} (h : LF f M M') (h' : LF f M' M2) : LF f M M2 := fun a h1 h2 j hj => (h' a h1 h2 j hj).trans (h a h1 h2 j hj)
theorem LF.up {f : Nat} {M M' : zM} (h : LF (f + 1) M M') : LF f M M' := fun a h1 h2 j hj => h a h1 h2 j (by omega)
/-- a frame: its node, item, the items' end, what is left, how often -/
def F5 (M : zM) (n f par : Nat) (k ke l t : Int) : Prop := gi M 70 f = (par : Int) ∧ gi M 71 f = k ∧ gi M 72 f = ke ∧ gi M 73 f = (n : Int) - l ∧ gi M 74 f = t
theorem F5.lf {M M' : zM} {n f g par : Nat} {k ke l t : Int} (h : F5 M n f par k ke l t) (hl : LF g M M') (hf : f < g) : F5 M' n f par k ke l t :=
  ⟨(hl 70 (by decide) (by decide) f hf).trans h.1, (hl 71 (by decide) (by decide) f hf).trans h.2.1, (hl 72 (by decide) (by decide) f hf).trans h.2.2.1, (hl 73 (by decide) (by decide) f hf).trans h.2.2.2.1, (hl 74 (by decide) (by decide) f hf).trans h.2.2.2.2⟩
/-- what building reads -/
def BC (M : zM) (g : zG) (s : List Int) (E : tE) : Prop := RM M g ∧ mN M s ∧ ∀ r x, r < 6 → 0 ≤ gR g r → x ≤ s.length → eQ M s.length E r x
theorem BC.bf {M M' : zM} {g : zG} {s : List Int} {E : tE} (h : BC M g s E) (f : BF M M') : BC M' g s E :=
  ⟨h.1.same (fun a ha => f.1.ge (by simp; omega)) (f.2 14 (by decide)) (f.2 15 (by decide)), ⟨(f.2 25 (by decide)).trans h.2.1.1, h.2.1.2.same (f.1.ge (by decide))⟩, fun r x h1 h2 h3 => by
    unfold eQ
    rw [f.1.ge (by decide)]
    exact h.2.2 r x h1 h2 h3⟩
theorem BC.nm {M : zM} {g : zG} {s : List Int} {E : tE} (h : BC M g s E) (hn : NG g) {k : Nat} (hk : (k : Int) < gN g) {x : Nat} (hx : x ≤ s.length) : isNm (gI g k) = true → eQ M s.length E (nm (gI g k)).toNat x := fun q => by
  have hb := isNm_iff.mp q
  have h1 := hn k hk q
  refine h.2.2 _ _ ?_ ?_ hx
  · rw [nm_eq q]; omega
  · rw [nm_eq q]; exact h1
theorem BC.al {M : zM} {g : zG} {s : List Int} {E : tE} {bf : Nat → Prop} {l : Int} (h : BC M g s E) (hn : NG g) (hl : l ≤ s.length) : ∀ r l', Al g bf l r l' → eQ M s.length E r l'.toNat := by
  rintro r l' ⟨⟨j, hj, h6, rfl⟩, h2⟩
  exact h.nm hn hj (by omega) (nm_lt.mp h6)
section MN19
variable {B : zB} {K : Int → zM → Prop} {Kv : zM → Prop} {M : zM} {g : zG} {s : List Int} {E : tE}
theorem m_X9_addNode {P : List nd} {p1 p2 p3 p4 p5 p6 : Int} (h : PM M P) (hl : P.length ≤ 60) (k0 : P.length = 60 → K 0 M) (k1 : P.length < 60 → ∀ M', BF M M' → (∀ a, 70 ≤ a → gi M' a = gi M a) → PM M' (P ++ [(p1, p2, p3, p4, p5, p6)]) → K 1 M') : zCi B zy_X9_addNode 1 0 0 [zR 45, zI p1, zI p2, zI p3, zI p4, zI p5, zI p6] M K := by
  have h27 := h.1
  refine e_X9_addNode (fun n0 => ?_)
  apply b_X9_addNode_0
  case k2 => intro q; exact k0 (by omega)
  case k1 =>
    intro q
    rw [h27, show ((P.length : Int)).toNat = P.length from rfl]
    have hlt : P.length < 60 := by omega
    refine k1 hlt _ ⟨(((((((zSm.rf.st (by decide)).st (by decide)).st (by decide)).st (by decide)).st (by decide)).st (by decide)).st (by decide)), fun q hq => by simp [gi_si, hq]⟩ (fun a ha => ?_) ⟨?_, fun j p hj => ?_⟩
    · rw [gi_si_ne (by omega), gi_si_ne (by omega), gi_si_ne (by omega), gi_si_ne (by omega), gi_si_ne (by omega), gi_si_ne (by omega), gi_si_ne (by omega)]
    · rw [gi_si_eq, if_pos rfl, List.length_append]; rfl
    · by_cases z : j = P.length
      · rw [z, List.getElem?_append_right (Nat.le_refl _), Nat.sub_self] at hj
        have e := (Option.some.inj hj).symm
        rw [e, z]
        unfold ndM
        simp [gi_si]
      · have hjl : j < P.length := by
          have := (List.getElem?_eq_some_iff.mp hj).1
          rw [List.length_append, List.length_singleton] at this
          omega
        rw [List.getElem?_append_left hjl] at hj
        rw [← h.2 j p hj]
        unfold ndM
        simp [gi_si, z]
  all_goals (intros; omega)
theorem m_X9_taking {k : Nat} {x t : Int} (hT : TB E) (hc : BC M g s E) (hw : WG g) (hn : NG g) (ho : okS s) (hk : (k : Int) < gN g) (hl : 0 ≤ x ∧ x ≤ s.length) (ht : 0 ≤ t) (kk : K (cvN s.length (mor E g (chS s) k t x)) M) : zCi B zy_X9_taking 3 0 0 [zR 45, zI (k : Int), zI ((s.length : Int) - x), zI t] M K := by
  have x3 := (hc.1.2.2.1 k hk).2
  have hS := (hw.2.2.1 k hk).2
  have ek : ((k : Int)).toNat = k := rfl
  have gnb := hw.1
  have h32 := ho.1
  have ob := onc_bd (E := E) (ch := chS s) (l := x) hT chS_neg hw hk hl.1
  refine e_X9_taking (fun n0 => ?_)
  apply b_X9_taking_0
  refine p_X9_onceE hT hc.1 hw hc.2.1 ho hk hl (hc.nm hn hk (by omega)) ?_
  apply b_X9_taking_6
  case c1 => omega
  case k1 =>
    intro y hy
    rw [ek, x3] at hy
    have h1 := @cvN_neg s.length (onc E g (chS s) k x)
    have h2 := @cvN_pos s.length (onc E g (chS s) k x)
    have h3 := @cvN_neg s.length (mor E g (chS s) k t x)
    have h4 := @cvN_pos s.length (mor E g (chS s) k t x)
    have hm : mor E g (chS s) k t x = if 0 < t ∧ ¬ (gS g k = 42 ∨ gS g k = 43) then -1 else if (0 < t ∨ gS g k = 42) ∧ onc E g (chS s) k x = x then -1 else onc E g (chS s) k x := rfl
    have key : (if y = 0 then -1 else cvN s.length (onc E g (chS s) k x)) = cvN s.length (mor E g (chS s) k t x) := by
      generalize cvN s.length (onc E g (chS s) k x) = co at *
      generalize cvN s.length (mor E g (chS s) k t x) = cm at *
      generalize mor E g (chS s) k t x = m at *
      generalize onc E g (chS s) k x = o at *
      generalize gS g k = S at *
      split at hm
      · split at hy <;> split <;> omega
      · split at hm
        · split at hy <;> split <;> omega
        · split at hy <;> split <;> omega
    rw [key]
    exact kk
theorem m_X9_isLoose {k : Nat} {x y t : Int} (hT : TB E) (hc : BC M g s E) (hw : WG g) (hn : NG g) (ho : okS s) (hk : (k : Int) < gN g) (hl : 0 ≤ y ∧ y ≤ s.length) (ht : 0 ≤ t) (kk : K (loo E g (chS s) (k, t, x, y)) M) : zCi B zy_X9_isLoose 3 0 0 [zR 45, zI (k : Int), zI ((s.length : Int) - y), zI t] M K := by
  have x3 := (hc.1.2.2.1 k hk).2
  have hS := (hw.2.2.1 k hk).2
  have ek : ((k : Int)).toNat = k := rfl
  have gnb := hw.1
  have h32 := ho.1
  have ob := onc_bd (E := E) (ch := chS s) (l := y) hT chS_neg hw hk hl.1
  unfold loo at kk
  dsimp only at kk
  refine e_X9_isLoose (fun n0 => ?_)
  apply b_X9_isLoose_0
  case c1 => omega
  case k1 =>
    intro q
    rw [ek, x3] at q ⊢
    rw [zifc (Q := (gS g k = 42 ∨ gS g k = 63) ∨ ((gS g k = 42 ∨ gS g k = 43) ∧ (1 < t + 1 ∨ 0 ≤ mor E g (chS s) k (t + 1) y))) (by constructor <;> intro z <;> omega)]
    exact kk
  case k2 =>
    intro q q2
    rw [ek, x3] at q ⊢
    rw [zifc (Q := (gS g k = 42 ∨ gS g k = 63) ∨ ((gS g k = 42 ∨ gS g k = 43) ∧ (1 < t + 1 ∨ 0 ≤ mor E g (chS s) k (t + 1) y))) (by constructor <;> intro z <;> omega)]
    exact kk
  case k3 =>
    intro q q2
    rw [ek, x3] at q
    refine p_X9_onceE hT hc.1 hw hc.2.1 ho hk hl (hc.nm hn hk (by omega)) ?_
    apply b_X9_isLoose_21
    case c1 => omega
    case k1 =>
      rw [ek, x3]
      have h1 := @cvN_neg s.length (onc E g (chS s) k y)
      have h2 := @cvN_pos s.length (onc E g (chS s) k y)
      have hm : mor E g (chS s) k (t + 1) y = if 0 < t + 1 ∧ ¬ (gS g k = 42 ∨ gS g k = 43) then -1 else if (0 < t + 1 ∨ gS g k = 42) ∧ onc E g (chS s) k y = y then -1 else onc E g (chS s) k y := rfl
      rw [if_neg (by omega)] at hm
      rw [zifc (Q := (gS g k = 42 ∨ gS g k = 63) ∨ ((gS g k = 42 ∨ gS g k = 43) ∧ (1 < t + 1 ∨ 0 ≤ mor E g (chS s) k (t + 1) y))) (by
        generalize cvN s.length (onc E g (chS s) k y) = co at *
        generalize mor E g (chS s) k (t + 1) y = m at *
        generalize onc E g (chS s) k y = o at *
        generalize gS g k = S at *
        split at hm <;> constructor <;> intro z <;> omega)]
      exact kk
theorem m_X9_openFrame {ord : Nat → Nat} {em : Nat → Bool} {n q f j l a : Nat} {e : Int} {L : List tk} (hT : TB E) (hc : BC M g s E) (hw : WG g) (hn : NG g) (hog : OG g ord n em) (hem : ∀ r, FR ord j r → E r l = l → em r = true) (ho : okS s) (hj : j < n) (hl : l ≤ s.length) (hq : q < 61) (hf : f < 62) (h64 : gi M 64 q = (ord j : Int)) (h66 : gi M 66 q = (s.length : Int) - l) (hr : rmt E g (chS s) (ord j) l = some (a, e, L))
    (k : ∀ M', BF M M' → (∀ a, a < 70 → gi M' a = gi M a) → LF f M M' → F5 M' s.length f q (gF g a) (gF g (a + 1)) l 0 → Kv M') : zCv B zy_X9_openFrame 6 0 0 [zR 45, zI (f : Int), zI (q : Int)] M Kv := by
  have hord := hog.1 j hj
  have hwr := hw.2.2.2.2.2 (ord j) hord.1
  have ga := hw.2.1
  have eq : ((q : Int)).toNat = q := rfl
  have ef : ((f : Int)).toNat = f := rfl
  have ea : ((a : Int)).toNat = a := rfl
  have ea1 : ((a : Int) + 1).toNat = a + 1 := by omega
  have hq2 := rmt_cg (E := E) (E' := E) (ch := chS s) (ch' := chS s) hT chS_neg hw hog hj (l := l) (fun _ _ _ => rfl) (fun _ _ => rfl) hem
  obtain ⟨q1, -⟩ := hq2.2 a e L hr
  have x4 := hc.1.2.2.2.1 a (by omega)
  have x5 := hc.1.2.2.2.1 (a + 1) (by omega)
  refine e_X9_openFrame (fun n0 => ?_)
  apply b_X9_openFrame_0
  case c1 => omega
  case k1 =>
    rw [eq, h64, h66]
    refine m_X9_alternativeOf (l := (l : Int)) hT hc.1 hw hc.2.1 ho hord.1 hord.2 ⟨by omega, by omega⟩ (hc.al hn (by omega)) hem (fun c h1 h2 => hog.2.2.2.1 j hj c h1 h2) ?_
    rw [hr]
    apply b_X9_openFrame_16
    case k1 =>
      rw [eq, ef, h66]
      show Kv (si (si (si (si (si M 70 f q) 71 f (gi M 56 ((a : Int)).toNat)) 72 f (gi M 56 ((a : Int) + 1).toNat)) 73 f ((s.length : Int) - l)) 74 f 0)
      rw [ea, ea1, x4, x5]
      refine k _ ⟨(((((zSm.rf.st (by decide)).st (by decide)).st (by decide)).st (by decide)).st (by decide)), fun q _ => by simp [gi_si]⟩ (fun c hc => ?_) (fun c h1 h2 i hi => ?_) ⟨?_, ?_, ?_, ?_, ?_⟩
      · rw [gi_si_ne (by omega), gi_si_ne (by omega), gi_si_ne (by omega), gi_si_ne (by omega), gi_si_ne (by omega)]
      · have : i ≠ f := by omega
        simp [gi_si, this]
      all_goals simp [gi_si]
    case c2 => show 0 ≤ (a : Int) ∧ (a : Int) < 64; omega
    case c3 => show zin ((a : Int) + 1); omega
    case c4 => show 0 ≤ (a : Int) + 1 ∧ (a : Int) + 1 < 64; omega
    all_goals omega
end MN19
