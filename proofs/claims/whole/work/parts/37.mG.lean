/-! ===== Tree: grow, build ===== -/
theorem tkl_cons (sub : Nat → Int → Int → Int → List nd) {E : tE} {g : zG} {ch : Nat → Int} {n d par : Int} (p : tk) (L : List tk) (i : Int) : tkl sub E g ch n d par (p :: L) i = if nm (gI g p.1) < 6 then tkn E g ch n d par p :: (sub (nm (gI g p.1)).toNat p.2.2.1 i (i + 1) ++ tkl sub E g ch n d par L (i + 1 + (sub (nm (gI g p.1)).toNat p.2.2.1 i (i + 1)).length))
      else if gS g p.1 = 0 then tkl sub E g ch n d par L i else tkn E g ch n d par p :: tkl sub E g ch n d par L (i + 1) := rfl
theorem tkl_app (sub : Nat → Int → Int → Int → List nd) {E : tE} {g : zG} {ch : Nat → Int} {n d par : Int} (L1 L2 : List tk) : ∀ i : Int, tkl sub E g ch n d par (L1 ++ L2) i = tkl sub E g ch n d par L1 i ++ tkl sub E g ch n d par L2 (i + ((tkl sub E g ch n d par L1 i).length : Nat)) := by
  induction L1 with
  | nil => intro i; simp [tkl]
  | cons p L ih =>
    intro i
    rw [List.cons_append, tkl_cons, tkl_cons]
    split
    · rw [ih, List.cons_append, List.append_assoc]
      congr 4
      simp only [List.length_cons, List.length_append]
      omega
    · split
      · exact ih i
      · rw [ih, List.cons_append]
        congr 3
        simp only [List.length_cons]
        omega
def EL (g : zG) (ord : Nat → Nat) (n sl f : Nat) (p : tk) : Prop := (p.1 : Int) < gN g ∧ 0 ≤ p.2.2.2 ∧ p.2.2.2 ≤ p.2.2.1 ∧ p.2.2.1 ≤ sl ∧ (nm (gI g p.1) < 6 → ∃ j, j < n ∧ ord j = (nm (gI g p.1)).toNat ∧ 7 * p.2.2.1.toNat + j < f)
/-- what grow is for: the nodes below one -/
def GrowOK (B : zB) (g : zG) (E al : tE) (s : List Int) (ord : Nat → Nat) (n : Nat) (d : Nat) : Prop := ∀ (K : zM → Prop) (M : zM) (par i p2 u l f : Nat), RX M g → eT M = E → aT M = al → mS M s → gi M 24 9 = s.length → gi M 24 2 = i → par < i → p2 + d = 62 → 1 ≤ p2 → p2 ≤ i → u < n → l ≤ s.length → gi M 25 par = ord u → gi M 27 par = (s.length : Int) - l → gi M 29 par = (p2 : Int) - 1 → 7 * l + u < f → 0 ≤ rva (rmt E g (chS s) (ord u) l) →
    i + (tn E g (chS s) s.length f (ord u) l p2 par i).length ≤ 60 → (∀ M', GF M M' i (tn E g (chS s) s.length f (ord u) l p2 par i) → K M') → zCv B zy_X7_grow (d + 4) 0 0 [zR 24, zI par, zI p2] M K
section GR
variable {B : zB} {g : zG} {E al b : tE} {s : List Int} {ord : Nat → Nat} {n : Nat} {em : Nat → Bool}
theorem zS30 {M M' : zM} (h : zSm [24, 25, 26, 27, 28, 29, 30] M M') (hx : RX M g) (hE : eT M = E) (hal : aT M = al) (hs : mS M s) : RX M' g ∧ eT M' = E ∧ aT M' = al ∧ mS M' s := by
  refine ⟨hx.fr h (by simp), ?_, ?_, ⟨by rw [h.ge (by decide)]; exact hs.1, hs.2.same (h.ge (by decide))⟩⟩
  · rw [← hE]; unfold eT; rw [h.ge (by decide)]
  · rw [← hal]; unfold aT; rw [h.ge (by decide)]
theorem l_X7_grow_76 (hw : WG g) (hT : TB E) (ho : okS s) (hgd : ∀ j l, j < n → l ≤ s.length → E (ord j) l = rva (rmt E g (chS s) (ord j) l)) (hord : ∀ j, j < n → ord j < 6) {d n0 : Nat} {K : zM → Prop} (ih : GrowOK B g E al s ord n d) {par p2 : Nat} {v4 : Int} {k f : Nat} (hk : (k : Int) < gN g) (hp2 : p2 + d = 61) (hp1 : 1 ≤ p2) (hpar6 : par < 60) : ∀ (f1 : Nat) (t l : Int) (M : zM) (i : Nat), RX M g → eT M = E → aT M = al → mS M s → gi M 24 9 = s.length → gi M 24 2 = i → par < i → p2 ≤ i → gi M 29 par = (p2 : Int) - 1 → 1 ≤ t → t + f1 = 34 → 0 ≤ l → l ≤ s.length →
    (∀ p ∈ tks E g (chS s) k f1 (t - 1) l, EL g ord n s.length f p ∧ p.1 = k ∧ (nm (gI g k) < 6 → p.2.2.2 = E (nm (gI g k)).toNat p.2.2.1.toNat)) → i + (tkl (fun r' l' par' i' => tn E g (chS s) s.length f r' l' ((p2 : Int) + 1) par' i') E g (chS s) s.length p2 par (tks E g (chS s) k f1 (t - 1) l) i).length ≤ 60 →
    (∀ M', GF M M' i (tkl (fun r' l' par' i' => tn E g (chS s) s.length f r' l' ((p2 : Int) + 1) par' i') E g (chS s) s.length p2 par (tks E g (chS s) k f1 (t - 1) l) i) → zGv B zy_X7_grow (d + 1 + 4) 0 0 n0 K 54 [some (zR 24), some (zI par), some (zI p2), some (zR 8), some (zR 19), some (zI (enL l (tks E g (chS s) k f1 (t - 1) l))), some (zI v4), some (zI ((k : Int) + 1)), none, none, none] [] M' 0 0) →
    zGv B zy_X7_grow (d + 1 + 4) 0 0 n0 K 80 [some (zR 24), some (zI par), some (zI p2), some (zR 8), some (zR 19), some (zI l), some (zI v4), some (zI k), some (zI (mor E g (chS s) k (t - 1) l)), some (zI t), none] [] M 0 0 := by
  have hgN := hw.1
  have hol := ho.1
  intro f1
  induction f1 with
  | zero =>
    intro t l M i hx hE hal hs hM9 hM2 hpi hp2i hM29 ht htf hl0 hl1 hel hlen kk
    have kk2 := kk M (GF.nil hM2)
    apply b_X7_grow_80
    case k1 => intro _; exact kk2
    case k2 => intro _ _; exact kk2
    all_goals (intros; omega)
  | succ f1 ih1 =>
    intro t l M i hx hE hal hs hM9 hM2 hpi hp2i hM29 ht htf hl0 hl1 hel hlen kk
    have hm := mor_bd (t := t - 1) hT chS_neg hw hk hl0 (E := E) (ch := chS s)
    apply b_X7_grow_80
    case k1 =>
      intro h
      unfold tks at kk
      rw [if_pos h] at kk
      exact kk M (GF.nil hM2)
    case k2 => intro _ _; omega
    case k3 =>
      intro h1 h2
      unfold tks at kk hel hlen
      rw [if_neg (by omega)] at kk hel hlen
      generalize hxd : mor E g (chS s) k (t - 1) l = x at *
      have e1 : t - 1 + 1 = t + 1 - 1 := by omega
      have hel0 := hel _ List.mem_cons_self
      have next : ∀ (M2 : zM) (i2 : Nat), RX M2 g → eT M2 = E → aT M2 = al → mS M2 s → gi M2 24 9 = s.length → gi M2 24 2 = i2 → par < i2 → p2 ≤ i2 → gi M2 29 par = (p2 : Int) - 1 → i2 + (tkl (fun r' l' par' i' => tn E g (chS s) s.length f r' l' ((p2 : Int) + 1) par' i') E g (chS s) s.length p2 par (tks E g (chS s) k f1 (t - 1 + 1) x) i2).length ≤ 60 → (∀ M', GF M2 M' i2 (tkl (fun r' l' par' i' => tn E g (chS s) s.length f r' l' ((p2 : Int) + 1) par' i') E g (chS s) s.length p2 par (tks E g (chS s) k f1 (t - 1 + 1) x) i2) → zGv B zy_X7_grow (d + 1 + 4) 0 0 n0 K 54 [some (zR 24), some (zI par), some (zI p2), some (zR 8), some (zR 19), some (zI (enL x (tks E g (chS s) k f1 (t - 1 + 1) x))), some (zI v4), some (zI ((k : Int) + 1)), none, none, none] [] M' 0 0) →
          zGv B zy_X7_grow (d + 1 + 4) 0 0 n0 K 80 [some (zR 24), some (zI par), some (zI p2), some (zR 8), some (zR 19), some (zI x), some (zI v4), some (zI k), some (zI (mor E g (chS s) k t x)), some (zI (t + 1)), none] [] M2 0 0 := by
        intro M2 i2 a1 a2 a3 a4 a5 a6 a7 a8 a9 a10 a11
        have h := ih1 (t + 1) x M2 i2 a1 a2 a3 a4 a5 a6 a7 a8 a9 (by omega) (by omega) h1 (by omega) (by rw [← e1]; exact fun p hp => hel p (List.mem_cons_of_mem _ hp)) (by rw [← e1]; exact a10) (by rw [← e1]; exact a11)
        rw [show t + 1 - 1 = t from by omega] at h
        exact h
      refine m_X7_put (i := i) hx hw hk hM2 (by omega) hpi hpar6 (by omega) (by omega) (by omega) (by rw [hM29]; omega) (fun q1 q2 => ?_) (fun q1 q2 M1 c1 c2 c3 c4 c5 c6 c7 c8 c9 => ?_) (fun q1 q2 => ?_)
      · have eL : tkl (fun r' l' par' i' => tn E g (chS s) s.length f r' l' ((p2 : Int) + 1) par' i') E g (chS s) s.length p2 par ((k, t - 1, l, x) :: tks E g (chS s) k f1 (t - 1 + 1) x) i = tkl (fun r' l' par' i' => tn E g (chS s) s.length f r' l' ((p2 : Int) + 1) par' i') E g (chS s) s.length p2 par (tks E g (chS s) k f1 (t - 1 + 1) x) i := by
          rw [tkl, if_neg (by show ¬ nm (gI g k) < 6; omega), if_pos q2]
        rw [eL] at hlen kk
        have hnx := next M i hx hE hal hs hM9 hM2 hpi hp2i hM29 hlen kk
        apply b_X7_grow_103 (g := g) (E := E) (s := s)
        case k1 => intro _ _; exact hnx
        all_goals first | assumption | (exact (hx.fr (zSm.rf.st (by simp) : zSm [26] M _) (by simp))) | (rw [eT_si (by decide)]; exact hE) | (exact ⟨by rw [gi_si_ne (by decide)]; exact hs.1, hs.2.same (gi_si_ne (by decide))⟩) | (intros; omega)
      · have h9 : gi M1 24 9 = s.length := by rw [c2 9 (by decide)]; exact hM9
        obtain ⟨w, hw2⟩ : ∃ w, w = loo E g (chS s) (k, t - 1, l, x) := ⟨_, rfl⟩
        have ew : (if (gS g k = 42 ∨ gS g k = 63) ∨ ((gS g k = 42 ∨ gS g k = 43) ∧ (1 < t ∨ 0 ≤ mor E g (chS s) k t x)) then 1 else 0) = w := by
          rw [hw2]
          unfold loo
          dsimp only
          rw [show t - 1 + 1 = t from by omega]
        have hf1 : zSm [24, 25, 26, 27, 28, 29, 30] M (si M1 26 i w) := (c1.mono (by simp)).st (by simp)
        have hgf : GF M (si M1 26 i w) i [tkn E g (chS s) s.length p2 par (k, t - 1, l, x)] := by
          refine ⟨hf1, fun j hj => by rw [gi_si_ne (by decide)]; exact c2 j hj, by rw [gi_si_ne (by decide)]; exact c3, fun j hj => ?_, fun j hj => ?_⟩
          · rw [← c4 j hj]
            unfold ndX
            simp [gi_si, Nat.ne_of_lt hj]
          · have : j = 0 := by simpa using hj
            subst this
            unfold ndX tkn
            simp only [Nat.add_zero, List.getElem?_cons_zero]
            rw [gi_si_ne (by decide : (25 : Nat) ≠ 26), gi_si_ne (by decide : (27 : Nat) ≠ 26), gi_si_ne (by decide : (28 : Nat) ≠ 26), gi_si_ne (by decide : (29 : Nat) ≠ 26), gi_si_ne (by decide : (30 : Nat) ≠ 26), gi_si_eq, if_pos rfl, c5, c6, c7, c8, c9, hM9, hM29, hw2]
            congr 6
            omega
        obtain ⟨d1, d2, d3, d4⟩ := zS30 hf1 hx hE hal hs
        have hpar29 : gi (si M1 26 i w) 29 par = (p2 : Int) - 1 := by
          have h5 := hgf.2.2.2.1 par hpi
          unfold ndX at h5
          simp only [Prod.mk.injEq] at h5
          rw [h5.2.2.2.2.1]
          exact hM29
        apply b_X7_grow_103 (g := g) (E := E) (s := s)
        case k5 =>
          intro _ _ h6
          have h6' : 6 ≤ nm (gI g k) := by rw [← c5]; exact h6
          have eL : tkl (fun r' l' par' i' => tn E g (chS s) s.length f r' l' ((p2 : Int) + 1) par' i') E g (chS s) s.length p2 par ((k, t - 1, l, x) :: tks E g (chS s) k f1 (t - 1 + 1) x) i = tkn E g (chS s) s.length p2 par (k, t - 1, l, x) :: tkl (fun r' l' par' i' => tn E g (chS s) s.length f r' l' ((p2 : Int) + 1) par' i') E g (chS s) s.length p2 par (tks E g (chS s) k f1 (t - 1 + 1) x) ((i + 1 : Nat) : Int) := by
            rw [tkl, if_neg (by show ¬ nm (gI g k) < 6; omega), if_neg (by have := nm_bd (gI g k); intro q; exact q1 ⟨by omega, q⟩)]
            rfl
          rw [eL] at hlen kk
          rw [List.length_cons] at hlen
          have hnx := next (si M1 26 i w) (i + 1) d1 d2 d3 d4 (by rw [gi_si_ne (by decide)]; exact h9) (by rw [gi_si_ne (by decide)]; exact c3) (by omega) (by omega) hpar29 (by omega) (fun M' hM' => kk M' (hgf.app hM'))
          rw [← ew] at hnx
          exact hnx
        case k6 =>
          intro _ _ h6
          have h6' : nm (gI g k) < 6 := by rw [← c5]; exact h6
          obtain ⟨⟨e2, e3, e4, e5, e6⟩, -, e8⟩ := hel0
          obtain ⟨u, hu, hu2, hu3⟩ := e6 h6'
          dsimp only at hu2 hu3 e3 e4 e5
          have hnmb := nm_bd (gI g k)
          have eL : tkl (fun r' l' par' i' => tn E g (chS s) s.length f r' l' ((p2 : Int) + 1) par' i') E g (chS s) s.length p2 par ((k, t - 1, l, x) :: tks E g (chS s) k f1 (t - 1 + 1) x) i = tkn E g (chS s) s.length p2 par (k, t - 1, l, x) :: (tn E g (chS s) s.length f (ord u) (l.toNat : Nat) ((p2 + 1 : Nat) : Int) i ((i + 1 : Nat) : Int) ++ tkl (fun r' l' par' i' => tn E g (chS s) s.length f r' l' ((p2 : Int) + 1) par' i') E g (chS s) s.length p2 par (tks E g (chS s) k f1 (t - 1 + 1) x) ((i + 1 + (tn E g (chS s) s.length f (ord u) (l.toNat : Nat) ((p2 + 1 : Nat) : Int) i ((i + 1 : Nat) : Int)).length : Nat) : Int)) := by
            rw [tkl, if_pos (by exact h6'), hu2, show ((l.toNat : Nat) : Int) = l from by omega]
            rfl
          rw [eL] at hlen kk
          rw [List.length_cons, List.length_append] at hlen
          have hci := ih (fun M' => zGv B zy_X7_grow (d + 1 + 4) 0 0 n0 K 153 [some (zR 24), some (zI par), some (zI p2), some (zR 8), some (zR 19), some (zI l), some (zI v4), some (zI k), some (zI x), some (zI t), some (zI i)] [] M' 0 0) (si M1 26 i w) i (i + 1) (p2 + 1) u l.toNat f d1 d2 d3 d4 (by rw [gi_si_ne (by decide)]; exact h9) (by rw [gi_si_ne (by decide)]; exact c3) (by omega) (by omega) (by omega) (by omega) hu (by omega) (by rw [gi_si_ne (by decide), c5]; omega) (by rw [gi_si_ne (by decide), c6, hM9]; omega) (by rw [gi_si_ne (by decide), c8, hM29]; omega) hu3 (by
              rw [← hgd u l.toNat hu (by omega), hu2]
              have e9 := e8 h6'
              dsimp only at e9
              rw [← e9]
              exact h1) (by omega) (fun M3 hM3 => by
              have hf3 := hf1.tr hM3.1
              obtain ⟨g1, g2, g3, g4⟩ := zS30 hf3 hx hE hal hs
              have h5 := hM3.2.2.2.1 par (by omega)
              have hp3 : gi M3 29 par = (p2 : Int) - 1 := by
                unfold ndX at h5
                simp only [Prod.mk.injEq] at h5
                rw [h5.2.2.2.2.1]
                exact hpar29
              have hnx := next M3 (i + 1 + (tn E g (chS s) s.length f (ord u) (l.toNat : Nat) ((p2 + 1 : Nat) : Int) i ((i + 1 : Nat) : Int)).length) g1 g2 g3 g4 (by rw [hM3.2.1 9 (by decide), gi_si_ne (by decide)]; exact h9) hM3.2.2.1 (by omega) (by omega) hp3 (by omega) (fun M' hM' => kk M' (hgf.app (hM3.app hM')))
              apply b_X7_grow_153 (g := g) (E := E) (s := s)
              case k1 => exact hnx
              all_goals first | assumption | (intros; omega))
          rw [← ew] at hci
          exact hci
        all_goals first | assumption | (exact (hx.fr (c1.mono (by simp) : zSm [24, 25, 26, 27, 28, 29, 30] M M1) (by simp))) | (exact (hx.fr ((c1.mono (by simp) : zSm [24, 25, 26, 27, 28, 29, 30] M M1).st (by simp)) (by simp))) | (exact (zS30 (c1.mono (by simp) : zSm [24, 25, 26, 27, 28, 29, 30] M M1) hx hE hal hs).2.1) | (exact (zS30 ((c1.mono (by simp) : zSm [24, 25, 26, 27, 28, 29, 30] M M1).st (by simp)) hx hE hal hs).2.1) | (exact (zS30 (c1.mono (by simp) : zSm [24, 25, 26, 27, 28, 29, 30] M M1) hx hE hal hs).2.2.2) | (exact (zS30 ((c1.mono (by simp) : zSm [24, 25, 26, 27, 28, 29, 30] M M1).st (by simp)) hx hE hal hs).2.2.2) | (intros; omega)
      · exfalso
        have hpos : 1 ≤ (tkl (fun r' l' par' i' => tn E g (chS s) s.length f r' l' ((p2 : Int) + 1) par' i') E g (chS s) s.length p2 par ((k, t - 1, l, x) :: tks E g (chS s) k f1 (t - 1 + 1) x) i).length := by
          unfold tkl
          split
          · simp
          · next h6 =>
            rw [if_neg (by have := nm_bd (gI g k); intro q; exact q1 ⟨by have h7 : ¬ nm (gI g k) < 6 := h6; omega, q⟩)]
            simp
        omega
    all_goals (intros; omega)
theorem GrowOK.all (hw : WG g) (hn : NG g) (hT : TB E) (ho : okS s) (hog : OG g ord n em) (hn6 : n ≤ 6) (hs0 : SAT E b al g (chS s) ord em (s.length + 1) 0) : ∀ d, GrowOK B g E al s ord n d := by
  have hgd : ∀ j l, j < n → l ≤ s.length → E (ord j) l = rva (rmt E g (chS s) (ord j) l) := fun j l hj hl => by
    have hr := hog.1 j hj
    exact (hs0 _ _ (Or.inl ⟨by omega, hr.1, hr.2⟩)).1.1
  have hord : ∀ j, j < n → ord j < 6 := fun j hj => (hog.1 j hj).1
  have hol := ho.1
  have hgN := hw.1
  have h60 : ∀ (K : zM → Prop) (M : zM) (par i p2 u l f d : Nat), 60 ≤ p2 → gi M 24 2 = i → p2 ≤ i → i + (tn E g (chS s) s.length f (ord u) l p2 par i).length ≤ 60 → (∀ M', GF M M' i (tn E g (chS s) s.length f (ord u) l p2 par i) → K M') → K M := by
    intro K M par i p2 u l f d h1 h2 h3 h4 k
    have : tn E g (chS s) s.length f (ord u) l p2 par i = [] := List.eq_nil_of_length_eq_zero (by omega)
    rw [this] at k
    exact k M (GF.nil h2)
  intro d
  induction d with
  | zero =>
    intro K M par i p2 u l f hx hE hal hs hM9 hM2 hpi hp2 hp1 hp2i hu hl h25 h27 h29 hf hr hlen k
    refine e_X7_grow (fun n0 => ?_)
    apply b_X7_grow_0 (g := g)
    case k1 => intro q; omega
    case k2 => intro _; exact h60 K M par i p2 u l f 0 (by omega) hM2 hp2i hlen k
    all_goals first | assumption | (intros; omega)
  | succ d ih =>
    intro K M par i p2 u l f hx hE hal hs hM9 hM2 hpi hp2 hp1 hp2i hu hl h25 h27 h29 hf hr hlen k
    have hru := hog.1 u hu
    cases f with
    | zero => omega
    | succ f =>
      have hq := rmt_cg (E := E) (E' := E) (ch := chS s) (ch' := chS s) hT chS_neg hw hog hu (l := l) (fun _ _ _ => rfl) (fun _ _ => rfl) (fun q hq he => by
        obtain ⟨j, hj, rfl⟩ := hq
        have hrj := hog.1 j (by omega)
        exact (hs0 (ord j) l (Or.inl ⟨by omega, hrj.1, hrj.2⟩)).2 he)
      have hlo := lst_ok hT chS_neg hw hn hog hn6 hs0 hu (show l < s.length + 1 by omega)
      cases hro : rmt E g (chS s) (ord u) l with
      | none => rw [hro] at hr; simp [rva] at hr
      | some q =>
        obtain ⟨a, e, L⟩ := q
        have hal2 : al (ord u) l = a := ((hs0 _ _ (Or.inl ⟨by omega, hru.1, hru.2⟩)).1.2 a e L hro).2
        obtain ⟨q1, q2, q3, -⟩ := hq.2 a e L hro
        have hwr := hw.2.2.2.2.2 (ord u) hru.1
        have hfa := hw.2.2.2.1 a (by omega)
        have hfb := hw.2.2.2.2.1 (a + 1) (by omega)
        have haL : alt E g (chS s) (gF g (a + 1) - gF g a).toNat (gF g a).toNat l = some (e, L) := by
          unfold rmt at hro
          rw [if_neg (by omega)] at hro
          have : ∀ (m a0 : Nat), rms E g (chS s) l m a0 = some (a, e, L) → alt E g (chS s) (gF g (a + 1) - gF g a).toNat (gF g a).toNat l = some (e, L) := by
            intro m
            induction m with
            | zero => intro a0 h; cases h
            | succ m ih3 =>
              intro a0 h
              unfold rms at h
              cases hz : alt E g (chS s) (gF g (a0 + 1) - gF g a0).toNat (gF g a0).toNat l with
              | none => rw [hz] at h; exact ih3 _ h
              | some z =>
                rw [hz] at h
                simp only [Option.some.injEq, Prod.mk.injEq] at h
                obtain ⟨rfl, rfl⟩ := h
                exact hz
          exact this _ _ hro
        have hel : ∀ p ∈ L, EL g ord n s.length f p ∧ (nm (gI g p.1) < 6 → p.2.2.2 = E (nm (gI g p.1)).toNat p.2.2.1.toNat) := fun p hp => by
          obtain ⟨a1, a2, a3, a4, a5⟩ := hlo p (by rw [hro]; exact hp)
          refine ⟨⟨a1, a2, a3, by omega, fun h6 => ?_⟩, fun h6 => (a5 h6).2.1⟩
          obtain ⟨-, -, j, hj, hj2, hj3⟩ := a5 h6
          exact ⟨j, hj, hj2, hj3 f hf⟩
        unfold tn at hlen k
        rw [hro] at hlen k
        have hlst : lst (some (a, e, L)) = L := rfl
        rw [hlst] at hlen k
        have loop : ∀ (n0 m k0 : Nat) (l0 : Int) (M1 : zM) (i1 : Nat) (L1 : List tk) (e1 : Int), RX M1 g → eT M1 = E → aT M1 = al → mS M1 s → gi M1 24 9 = s.length → gi M1 24 2 = i1 → par < i1 → p2 ≤ i1 → gi M1 29 par = (p2 : Int) - 1 → ((k0 + m : Nat) : Int) = gF g (a + 1) → 0 ≤ l0 → l0 ≤ s.length → alt E g (chS s) m k0 l0 = some (e1, L1) → (∀ p ∈ L1, EL g ord n s.length f p ∧ (nm (gI g p.1) < 6 → p.2.2.2 = E (nm (gI g p.1)).toNat p.2.2.1.toNat)) → i1 + (tkl (fun r' l' par' i' => tn E g (chS s) s.length f r' l' ((p2 : Int) + 1) par' i') E g (chS s) s.length p2 par L1 i1).length ≤ 60 →
            (∀ M', GF M1 M' i1 (tkl (fun r' l' par' i' => tn E g (chS s) s.length f r' l' ((p2 : Int) + 1) par' i') E g (chS s) s.length p2 par L1 i1) → K M') → zGv B zy_X7_grow (d + 1 + 4) 0 0 n0 K 54 [some (zR 24), some (zI par), some (zI p2), some (zR 8), some (zR 19), some (zI l0), some (zI a), some (zI k0), none, none, none] [] M1 0 0 := by
          intro n0 m
          induction m with
          | zero =>
            intro k0 l0 M1 i1 L1 e1 c1 c2 c3 c4 c5 c6 c7 c8 c9 c10 c11 c12 c13 c14 c15 c16
            simp only [alt, Option.some.injEq, Prod.mk.injEq] at c13
            rw [← c13.2] at c16
            have kk := c16 M1 (GF.nil c6)
            apply b_X7_grow_54 (g := g) (E := E) (s := s)
            case k1 => intro _; exact kk
            case k2 => intro q; have q2 : (k0 : Int) < gF g (a + 1) := q; omega
            all_goals first | assumption | (intros; omega) | (intro q; have q2 : (k0 : Int) < gF g (a + 1) := q; omega)
          | succ m ihm =>
            intro k0 l0 M1 i1 L1 e1 c1 c2 c3 c4 c5 c6 c7 c8 c9 c10 c11 c12 c13 c14 c15 c16
            have hk0 : (k0 : Int) < gN g := by omega
            have hen := tks_en hT chS_neg hw hk0 33 0 l0 c11 (E := E) (ch := chS s)
            unfold alt at c13
            split at c13
            · cases c13
            · next hcond =>
              cases hz : alt E g (chS s) m (k0 + 1) (enL l0 (tks E g (chS s) k0 33 0 l0)) with
              | none => rw [hz] at c13; cases c13
              | some z =>
                obtain ⟨e2, L2⟩ := z
                rw [hz] at c13
                simp only [Option.map_some, Option.some.injEq, Prod.mk.injEq] at c13
                obtain ⟨rfl, rfl⟩ := c13
                rw [tkl_app] at c15 c16
                rw [List.length_append] at c15
                have h76 := l_X7_grow_76 (B := B) (n0 := n0) (K := K) hw hT ho hgd hord ih (par := par) (p2 := p2) (v4 := (a : Int)) (k := k0) (f := f) hk0 (by omega) hp1 (by omega) 33 1 l0 M1 i1 c1 c2 c3 c4 c5 c6 c7 c8 c9 (by omega) (by omega) c11 c12 (fun p hp => by
                  have hp' : p ∈ tks E g (chS s) k0 33 0 l0 := hp
                  have h := c14 p (List.mem_append_left _ hp')
                  have h2 := (tks_cg (E := E) (E' := E) (ch := chS s) (ch' := chS s) (bf := fun _ => True) (l := s.length) hT chS_neg hw (fun _ _ _ => rfl) (fun _ _ => rfl) hk0 33 0 l0 c11 c12 (Or.inr (fun _ => trivial))).2 p hp'
                  refine ⟨h.1, h2.1.1, fun h6 => ?_⟩
                  have h3 := h.2 (by rw [h2.1.1]; exact h6)
                  rw [h2.1.1] at h3
                  exact h3) (by show i1 + (tkl _ E g (chS s) s.length p2 par (tks E g (chS s) k0 33 0 l0) i1).length ≤ 60; omega) (fun M' hM' => by
                  obtain ⟨g1, g2, g3, g4⟩ := zS30 hM'.1 c1 c2 c3 c4
                  have h5 := hM'.2.2.2.1 par c7
                  have hp3 : gi M' 29 par = (p2 : Int) - 1 := by
                    unfold ndX at h5
                    simp only [Prod.mk.injEq] at h5
                    rw [h5.2.2.2.2.1]
                    exact c9
                  refine ihm (k0 + 1) _ M' _ L2 e2 g1 g2 g3 g4 (by rw [hM'.2.1 9 (by decide)]; exact c5) hM'.2.2.1 (by omega) (by omega) hp3 (by omega) hen.1 (by have := hen.2; show enL l0 (tks E g (chS s) k0 33 0 l0) ≤ _; omega) hz (fun p hp => c14 p (List.mem_append_right _ hp)) ?_ (fun M2 hM2' => c16 M2 (hM'.app hM2'))
                  have : (tks E g (chS s) k0 33 (1 - 1) l0) = tks E g (chS s) k0 33 0 l0 := rfl
                  rw [this]
                  have e9 : (((i1 + (tkl (fun r' l' par' i' => tn E g (chS s) s.length f r' l' ((p2 : Int) + 1) par' i') E g (chS s) s.length p2 par (tks E g (chS s) k0 33 0 l0) i1).length : Nat)) : Int) = (i1 : Int) + ((tkl (fun r' l' par' i' => tn E g (chS s) s.length f r' l' ((p2 : Int) + 1) par' i') E g (chS s) s.length p2 par (tks E g (chS s) k0 33 0 l0) i1).length : Nat) := by omega
                  rw [e9]
                  omega)
                apply b_X7_grow_54 (g := g) (E := E) (s := s)
                case k1 => intro q; have q2 : gF g (a + 1) ≤ (k0 : Int) := q; omega
                case k2 => intro _; exact h76
                all_goals first | assumption | (intros; omega) | (intro q; have q2 : (k0 : Int) < gF g (a + 1) := q; omega)
        refine e_X7_grow (fun n0 => ?_)
        have e1 : (s.length : Int) - ((s.length : Int) - l) = l := by omega
        have e2 : aT M (gi M 25 (par : Int).toNat).toNat ((gi M 24 9) - (gi M 27 (par : Int).toNat)).toNat = a := by
          rw [show (par : Int).toNat = par from rfl, h25, hM9, h27, e1, hal]
          exact hal2
        apply b_X7_grow_0 (g := g)
        case k1 =>
          intro _
          rw [e2, show (par : Int).toNat = par from rfl, hM9, h27, e1]
          have e3 : gF g (a : Int).toNat = ((gF g a).toNat : Int) := by rw [show (a : Int).toNat = a from rfl]; omega
          rw [e3]
          exact loop n0 (gF g (a + 1) - gF g a).toNat (gF g a).toNat l M i L e hx hE hal hs hM9 hM2 hpi hp2i h29 (by omega) (by omega) (by omega) haL hel hlen k
        case k2 => intro q; exact h60 K M par i p2 u l (f + 1) 0 (by omega) hM2 hp2i (by unfold tn; rw [hro]; exact hlen) (by unfold tn; rw [hro]; exact k)
        all_goals first | assumption | (intros; omega) | (intros; rw [show (par : Int).toNat = par from rfl, hM9, h27]; omega) | (intros; rw [show (par : Int).toNat = par from rfl, h25]; omega) | (intros; rw [e2]; omega)
end GR
