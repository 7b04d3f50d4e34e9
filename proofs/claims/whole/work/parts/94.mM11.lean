/-! ===== cutting: all that was typed, the model ===== -/
section NM11
variable {B : zB} {K : Int → zM → Prop} {Kv : zM → Prop} {M : zM}
theorem setS_zero {g : zG} {c : Int} (h : 0 ≤ gN g) : setS (addI g c) 0 = addI g c := by
  have e : (gN (addI g c) - 1).toNat = (gN g).toNat := by show (gN g + 1 - 1).toNat = _; omega
  unfold setS
  rw [e]
  show (gN (addI g c), gI (addI g c), updF (updF (gS g) (gN g).toNat 0) (gN g).toNat 0, gA (addI g c), gF (addI g c), gR (addI g c), gE (addI g c)) = addI g c
  have : updF (updF (gS g) (gN g).toNat 0) (gN g).toNat 0 = updF (gS g) (gN g).toNat 0 := by
    funext j
    unfold updF
    by_cases z : j = (gN g).toNat
    · rw [if_pos z, if_pos z]
    · rw [if_neg z]
  rw [this]
  rfl
theorem cut_fin {s : List Int} : cutS (s.take s.length) = cutS s := by rw [List.take_of_length_le (Nat.le_refl _)]
theorem stp_0 {g : zG} {ru st op c : Int} : stpS (0, g, ru, st, op) c = if isNm c = true ∧ gR g (c - 65).toNat < 0 then (1, addA (setR g (c - 65).toNat), ru + 1, (if ru = 0 then c - 65 else st), c - 65) else (-1, g, ru, st, op) := by
  unfold stpS
  dsimp only
  rw [if_neg (by decide : ¬ (0 : Int) = -1), if_pos rfl]
theorem stp_1 {g : zG} {ru st op c : Int} : stpS (1, g, ru, st, op) c = (if c = 61 then 2 else -1, g, ru, st, op) := by
  unfold stpS
  dsimp only
  rw [if_neg (by decide : ¬ (1 : Int) = -1), if_neg (by decide : ¬ (1 : Int) = 0), if_pos rfl]
theorem stp_i {nx : Int} {g : zG} {ru st op c : Int} (hn : nx = 2 ∨ nx = 3) : stpS (nx, g, ru, st, op) c = if c = 59 then (0, setE g op.toNat, ru, st, op) else if c = 47 then (2, addA g, ru, st, op) else if isTl c = true then (if nx = 3 ∧ 1 ≤ gN g then (2, setS g c, ru, st, op) else (-1, g, ru, st, op)) else if c = 61 then (-1, g, ru, st, op) else (3, addI g c, ru, st, op) := by
  unfold stpS
  dsimp only
  rw [if_neg (by omega : ¬ nx = -1), if_neg (by omega : ¬ nx = 0), if_neg (by omega : ¬ nx = 1)]
/-- what cutting a bad sign makes of the rest -/
theorem cut_stop {s : List Int} {i : Nat} (h : i < s.length) (hb : (stpS (cutS (s.take i)) (s.getD i 0)).1 = -1) : ¬ goodC (cutS s) := by
  rw [← cut_succ h] at hb
  rw [cut_end hb]
  intro z
  have := z.1
  omega
theorem m_X9_readRules {wr : List Int} (h3 : gi M 45 3 = (wr.length : Int)) (hz : zA M 47 wr) (hl : wr.length ≤ 60) (hg : ∀ c ∈ wr, isGs c = true)
    (k0 : ¬ goodC (cutS wr) → ∀ M', zSm NFr M M' → (∀ q, q ≠ 12 → q ≠ 13 → q ≠ 14 → q ≠ 15 → gi M' 45 q = gi M 45 q) → K 0 M')
    (k1 : goodC (cutS wr) → ∀ M', zSm NFr M M' → (∀ q, q ≠ 12 → q ≠ 13 → q ≠ 14 → q ≠ 15 → gi M' 45 q = gi M 45 q) → RM M' (finG (cutS wr).2.1) → gi M' 45 12 = (cutS wr).2.2.1 → gi M' 45 13 = (cutS wr).2.2.2.1 → K 1 M') : zCi B zy_X9_readRules 2 0 0 [zR 45] M K := by
  have W := fun {i : Nat} (h : i ≤ wr.length) => cut_WC (s := wr) hg h
  have gin : ∀ {i}, i < wr.length → isGs (wr.getD i 0) = true := fun h => hg _ (getD_mem h)
  let S : zM → Prop := fun M' => zSm NFr M M' ∧ ∀ q, q ≠ 12 → q ≠ 13 → q ≠ 14 → q ≠ 15 → gi M' 45 q = gi M 45 q
  have S3 : ∀ {M'}, S M' → gi M' 45 3 = (wr.length : Int) := fun h => (h.2 3 (by decide) (by decide) (by decide) (by decide)).trans h3
  have S47 : ∀ M', S M' → ∀ i, i < wr.length → gi M' 47 i = wr.getD i 0 := fun M' h i hi => by rw [h.1.ge (by decide)]; exact hz.get hi
  have bad : ∀ M1, S M1 → ¬ goodC (cutS wr) → K 0 M1 := fun M1 hS hb => k0 hb M1 hS.1 hS.2
  -- both heads at the end
  have endO : ∀ (n0 : Nat) (M1 : zM), S M1 → (cutS wr).1 = 0 → RMc M1 (cutS wr) → zGi B zy_X9_readRules 2 0 0 n0 K 38 [some (zR 45), some (zI (wr.length : Int)), none, none, none, none] [] M1 0 0 := by
    intro n0 M1 hS h0 hR
    have e3 := S3 hS
    have hW : WC (cutS wr) wr.length := by
      have := W (i := wr.length) (Nat.le_refl _)
      rw [cut_fin] at this
      exact this.resolve_left (by omega)
    obtain ⟨⟨r1, r2, r3, r4⟩, -⟩ := id hR
    have a := hW.1
    apply b_X9_readRules_38
    case k1 =>
      intro _
      rw [r1, r2, r3]
      have fs : zSm NFr M (si M1 56 (gA (cutS wr).2.1).toNat (gN (cutS wr).2.1)) := hS.1.st (by decide)
      have e45 : gi (si M1 56 (gA (cutS wr).2.1).toNat (gN (cutS wr).2.1)) 45 = gi M1 45 := gi_si_ne (by decide)
      by_cases z : 0 < (cutS wr).2.2.1
      · rw [if_pos z]
        exact k1 ⟨h0, z⟩ _ fs (fun q a b c d => by rw [e45]; exact hS.2 q a b c d) (finG_RM hR h0 a.2.1) (by rw [e45]; exact r3) (by rw [e45]; exact r4 z)
      · rw [if_neg z]
        exact k0 (fun w => z w.2) _ fs (fun q a b c d => by rw [e45]; exact hS.2 q a b c d)
    case c1 => intro _; rw [r2]; omega
    all_goals (intros; omega)
  have endI : ∀ (n0 : Nat) (v2 : Int) (M1 : zM), S M1 → (cutS wr).1 ≠ 0 → zGi B zy_X9_readRules 2 0 0 n0 K 148 [some (zR 45), some (zI (wr.length : Int)), some (zI v2), none, none, none] [] M1 0 0 := by
    intro n0 v2 M1 hS h0
    have e3 := S3 hS
    apply b_X9_readRules_148
    case k2 => exact fun _ _ => bad M1 hS (fun z => h0 z.1)
    all_goals (intros; omega)
  -- both heads at once: how many signs are left
  have L : ∀ (d : Nat), (∀ (i n0 : Nat) (M1 : zM), wr.length - i ≤ d → i ≤ wr.length → S M1 → (cutS (wr.take i)).1 = 0 → RMc M1 (cutS (wr.take i)) → zGi B zy_X9_readRules 2 0 0 n0 K 38 [some (zR 45), some (zI (i : Int)), none, none, none, none] [] M1 0 0) ∧
      (∀ (i n0 : Nat) (M1 : zM), wr.length - i ≤ d → i ≤ wr.length → S M1 → ((cutS (wr.take i)).1 = 2 ∨ ((cutS (wr.take i)).1 = 3 ∧ (i < wr.length → ¬ isTl (wr.getD i 0) = true))) → RMc M1 (cutS (wr.take i)) → zGi B zy_X9_readRules 2 0 0 n0 K 148 [some (zR 45), some (zI (i : Int)), some (zI (cutS (wr.take i)).2.2.2.2), none, none, none] [] M1 0 0) := by
    intro d
    induction d with
    | zero =>
      refine ⟨fun i n0 M1 h1 h2 hS h0 hR => ?_, fun i n0 M1 h1 h2 hS h0 hR => ?_⟩
      · rw [(by omega : i = wr.length)] at h0 hR ⊢
        rw [cut_fin] at h0 hR
        exact endO n0 M1 hS h0 hR
      · rw [(by omega : i = wr.length)] at h0 ⊢
        rw [cut_fin] at h0 ⊢
        exact endI n0 _ M1 hS (by omega)
    | succ d ih =>
      obtain ⟨ihO, ihI⟩ := ih
      refine ⟨fun i n0 M1 h1 h2 hS h0 hR => ?_, fun i n0 M1 h1 h2 hS h0 hR => ?_⟩
      · by_cases he : i = wr.length
        · rw [he] at h0 hR ⊢
          rw [cut_fin] at h0 hR
          exact endO n0 M1 hS h0 hR
        have hi : i < wr.length := by omega
        have e3 := S3 hS
        have ei : ((i : Int)).toNat = i := rfl
        have e47 := S47 M1 hS i hi
        have hW : WC (cutS (wr.take i)) i := (W h2).resolve_left (by omega)
        have stp : ∀ x, cutS (wr.take i) = x → stpS (cutS (wr.take i)) (wr.getD i 0) = stpS x (wr.getD i 0) := fun x h => by rw [h]
        have hcs := cut_succ hi
        have stopi := cut_stop hi
        generalize hC : cutS (wr.take i) = C at *
        obtain ⟨nx, g, ru, st, op⟩ := C
        have h0' : nx = 0 := h0
        subst h0'
        obtain ⟨⟨a1, a2, a3⟩, a4, a5, a6, a7, a8, a9, a10⟩ := id hW
        obtain ⟨⟨r1, r2, r3, r4⟩, r6, r7, r8⟩ := id hR
        dsimp only at a1 a2 a3 a6 a9 r1 r2 r3 r4 r8
        have cb := cntD_bd (g := g)
        apply b_X9_readRules_38
        case k1 => intro q; omega
        case c1 => intro q; omega
        case k2 =>
          intro _ q
          rw [ei, e47] at q
          refine bad M1 hS (stopi ?_)
          rw [stp_0, if_neg (fun z => q z.1)]
        case k3 =>
          intro _ q q2
          rw [ei, e47] at q q2
          have nmc := isNm_iff.mp q
          rw [(r8 _ (by omega)).1] at q2
          refine bad M1 hS (stopi ?_)
          rw [stp_0, if_neg (fun z => by have := z.2; omega)]
        case k4 =>
          intro _ q q2 q3
          rw [ei, e47] at q q2
          have nmc := isNm_iff.mp q
          rw [(r8 _ (by omega)).1] at q2
          refine bad M1 hS (fun z => ?_)
          have e : cutS wr = cutS (wr.take (i + 1)) := by rw [List.take_of_length_le (by omega)]
          rw [e, hcs] at z
          have z1 := z.1
          rw [stp_0, if_pos ⟨q, q2⟩] at z1
          have : (1 : Int) = 0 := z1
          omega
        case k6 =>
          intro _ q q2 q3 q4
          rw [ei, e47] at q q2
          have nmc := isNm_iff.mp q
          rw [(r8 _ (by omega)).1] at q2
          have hi1 : i + 1 < wr.length := by omega
          rw [(by omega : ((i : Int) + 1).toNat = i + 1), S47 M1 hS (i + 1) hi1] at q4
          refine bad M1 hS (cut_stop hi1 ?_)
          rw [hcs]
          rw [stp_0, if_pos ⟨q, q2⟩, stp_1, if_neg q4]
        case k5 =>
          intro _ q q2 q3 q4
          rw [ei, e47] at q q2
          have nmc := isNm_iff.mp q
          rw [(r8 _ (by omega)).1] at q2
          have hi1 : i + 1 < wr.length := by omega
          rw [(by omega : ((i : Int) + 1).toNat = i + 1), S47 M1 hS (i + 1) hi1] at q4
          have hcs2 := cut_succ hi1
          have e2 : cutS (wr.take (i + 2)) = (2, addA (setR g (wr.getD i 0 - 65).toNat), ru + 1, (if ru = 0 then wr.getD i 0 - 65 else st), wr.getD i 0 - 65) := by
            rw [(by omega : i + 2 = i + 1 + 1), hcs2, hcs]
            rw [stp_0, if_pos ⟨q, q2⟩, stp_1, if_pos q4]
          have hru := hR.rule (c := wr.getD i 0) nmc (by omega)
          rw [ei, e47]
          have fs : zSm NFr M1 (si (si (si M1 45 13 (if gi M1 45 12 = 0 then wr.getD i 0 - 65 else gi M1 45 13)) 45 12 ((gi M1 45 12) + 1)) 57 (wr.getD i 0 - 65).toNat (gi M1 45 15)) := ((zSm.rf.st (by decide)).st (by decide)).st (by decide)
          have e45 : ∀ q, q ≠ 12 → q ≠ 13 → gi (si (si (si M1 45 13 (if gi M1 45 12 = 0 then wr.getD i 0 - 65 else gi M1 45 13)) 45 12 ((gi M1 45 12) + 1)) 57 (wr.getD i 0 - 65).toNat (gi M1 45 15)) 45 q = gi M1 45 q := fun q h1 h2 => by simp [gi_si, h1, h2]
          generalize si (si (si M1 45 13 (if gi M1 45 12 = 0 then wr.getD i 0 - 65 else gi M1 45 13)) 45 12 ((gi M1 45 12) + 1)) 57 (wr.getD i 0 - 65).toNat (gi M1 45 15) = M2 at *
          have g15 : gi M2 45 15 = gA g := hru.1.2.1
          have g14 : gi M2 45 14 = gN g := hru.1.1
          refine m_X9_beginAlternative (by rw [g15]; omega) ?_
          rw [g15, g14]
          have hal := hru.alt (nx' := 2) (Int.le_refl 1) (by decide)
          have e3i : (i : Int) + 2 = ((i + 2 : Nat) : Int) := by omega
          have := ihI (i + 2) n0 (si (si M2 56 (gA g).toNat (gN g)) 45 15 (gA g + 1)) (by omega) (by omega) ⟨((hS.1.tr fs).st (by decide)).st (by decide), fun q a b c d => by
            have : gi (si (si M2 56 (gA g).toNat (gN g)) 45 15 (gA g + 1)) 45 q = gi M2 45 q := by simp [gi_si, d]
            rw [this, e45 q a b]
            exact hS.2 q a b c d⟩
          rw [e2] at this
          rw [e3i]
          exact this (Or.inl rfl) hal
        case c3 => intro _; rw [ei, e47]; have := isGs_ch (gin hi); omega
        case c4 => intro _ q; rw [ei, e47] at q ⊢; have := isNm_iff.mp q; omega
        case c7 => intros; omega
        all_goals (intros; omega)
      · by_cases he : i = wr.length
        · rw [he] at h0 ⊢
          rw [cut_fin] at h0 ⊢
          exact endI n0 _ M1 hS (by omega)
        have hi : i < wr.length := by omega
        have e3 := S3 hS
        have ei : ((i : Int)).toNat = i := rfl
        have e47 := S47 M1 hS i hi
        have hW : WC (cutS (wr.take i)) i := (W h2).resolve_left (by omega)
        have hcs := cut_succ hi
        have stopi := cut_stop hi
        generalize hC : cutS (wr.take i) = C at *
        obtain ⟨nx, g, ru, st, op⟩ := C
        have h0' : nx = 2 ∨ (nx = 3 ∧ (i < wr.length → ¬ isTl (wr.getD i 0) = true)) := h0
        have hn : nx = 2 ∨ nx = 3 := h0'.imp id (fun z => z.1)
        rw [stp_i hn] at hcs stopi
        obtain ⟨⟨a1, a2, a3⟩, a4, a5, a6, a7, a8, a9, a10⟩ := id hW
        obtain ⟨⟨r1, r2, r3, r4⟩, r6, r7, r8⟩ := id hR
        dsimp only at a1 a2 a3 a6 a7 a9 r1 r2 r3 r4 r8
        have hop := a7 (by omega)
        have eop : ((op : Int)).toNat = op.toNat := rfl
        have frm : ∀ {M2 : zM}, zSm NFr M1 M2 → (∀ q, q ≠ 14 → q ≠ 15 → gi M2 45 q = gi M1 45 q) → S M2 := fun f e => ⟨hS.1.tr f, fun q a b c d => (e q c d).trans (hS.2 q a b c d)⟩
        have itm : ∀ (t : Int) (n : Nat), (isTx (wr.getD i 0) = true ∨ isNm (wr.getD i 0) = true) → ¬ wr.getD i 0 = 59 → ¬ wr.getD i 0 = 47 →
            ((n = i + 2 ∧ i + 1 < wr.length ∧ isTl (wr.getD (i + 1) 0) = true ∧ t = wr.getD (i + 1) 0) ∨ (n = i + 1 ∧ t = 0 ∧ (i + 1 < wr.length → ¬ isTl (wr.getD (i + 1) 0) = true))) →
            zGi B zy_X9_readRules 2 0 0 n0 K 148 [some (zR 45), some (zI (n : Int)), some (zI op), none, none, none] [] (si (si (si M1 54 (gN g).toNat (wr.getD i 0)) 55 (gN g).toNat t) 45 14 (gN g + 1)) 0 0 := by
          intro t n hc q1 q2 ht
          have hnt : ¬ isTl (wr.getD i 0) = true := fun z => by
            have := isTl_cases z
            rcases hc with hc | hc
            · have := isTx_iff.mp hc; omega
            · have := isNm_iff.mp hc; omega
          have hn61 : ¬ wr.getD i 0 = 61 := fun z => by
            rcases hc with hc | hc
            · have := isTx_iff.mp hc; omega
            · have := isNm_iff.mp hc; omega
          rw [if_neg q1, if_neg q2, if_neg hnt, if_neg hn61] at hcs
          have fs : zSm NFr M1 (si (si (si M1 54 (gN g).toNat (wr.getD i 0)) 55 (gN g).toNat t) 45 14 (gN g + 1)) := ((zSm.rf.st (by decide)).st (by decide)).st (by decide)
          have hS' := frm fs (fun q c d => by simp [gi_si, c])
          rcases ht with ⟨t1, t2, t3, t4⟩ | ⟨t1, t2, t3⟩
          · have e2 : cutS (wr.take (i + 2)) = (2, setS (addI g (wr.getD i 0)) t, ru, st, op) := by
              have tc := isTl_cases t3
              rw [(by omega : i + 2 = i + 1 + 1), cut_succ t2, hcs, stp_i (Or.inr rfl), if_neg (by omega), if_neg (by omega), if_pos t3, if_pos ⟨rfl, by show 1 ≤ gN g + 1; omega⟩, t4]
            have := ihI (i + 2) n0 (si (si (si M1 54 (gN g).toNat (wr.getD i 0)) 55 (gN g).toNat t) 45 14 (gN g + 1)) (by omega) (by omega) hS'
            rw [e2] at this
            rw [t1]
            exact this (Or.inl rfl) (hR.item (by omega) (by decide) a1 _ rfl)
          · have := ihI (i + 1) n0 (si (si (si M1 54 (gN g).toNat (wr.getD i 0)) 55 (gN g).toNat t) 45 14 (gN g + 1)) (by omega) (by omega) hS'
            rw [hcs] at this
            rw [t1]
            exact this (Or.inr ⟨rfl, t3⟩) (hR.item (by omega) (by decide) a1 _ (by rw [t2, setS_zero a1]))
        have sgn : ∀ y2 y3 : Int, y2 = (if (if gi M1 45 3 ≤ ((i : Int) + 1) then 0 else gi M1 47 ((i : Int) + 1).toNat) = 63 then 1 else (if (if gi M1 45 3 ≤ ((i : Int) + 1) then 0 else gi M1 47 ((i : Int) + 1).toNat) = 42 then 1 else (if (if gi M1 45 3 ≤ ((i : Int) + 1) then 0 else gi M1 47 ((i : Int) + 1).toNat) = 43 then 1 else 0))) → y3 = (if y2 = 0 then 0 else (if gi M1 45 3 ≤ ((i : Int) + 1) then 0 else gi M1 47 ((i : Int) + 1).toNat)) →
            ∃ n : Nat, (i : Int) + 1 + (if ¬ y2 = 0 then 1 else 0) = n ∧ ((n = i + 2 ∧ i + 1 < wr.length ∧ isTl (wr.getD (i + 1) 0) = true ∧ y3 = wr.getD (i + 1) 0) ∨ (n = i + 1 ∧ y3 = 0 ∧ (i + 1 < wr.length → ¬ isTl (wr.getD (i + 1) 0) = true))) := by
          intro y2 y3 hy2 hy3
          generalize hs : (if gi M1 45 3 ≤ ((i : Int) + 1) then 0 else gi M1 47 ((i : Int) + 1).toNat) = sg at hy2 hy3
          by_cases z : i + 1 < wr.length
          · have hs' : sg = wr.getD (i + 1) 0 := by
              rw [← hs, if_neg (by omega : ¬ gi M1 45 3 ≤ ((i : Int) + 1)), (by omega : ((i : Int) + 1).toNat = i + 1), S47 M1 hS (i + 1) z]
            by_cases tl : isTl (wr.getD (i + 1) 0) = true
            · have tc := isTl_cases tl
              rw [← hs'] at tc
              have e1 : y2 = 1 := by
                rw [hy2]
                rcases tc with w | w | w <;> rw [w] <;> decide
              rw [e1, if_neg (by decide : ¬ (1 : Int) = 0)] at hy3
              exact ⟨i + 2, by rw [e1, if_pos (by decide : ¬ (1 : Int) = 0)]; omega, Or.inl ⟨rfl, z, tl, hy3.trans hs'⟩⟩
            · have ntl : ¬ (sg = 63 ∨ sg = 42 ∨ sg = 43) := fun w => tl (isTl_iff.mpr (hs' ▸ w))
              have e1 : y2 = 0 := by
                rw [hy2, if_neg (fun w => ntl (Or.inl w)), if_neg (fun w => ntl (Or.inr (Or.inl w))), if_neg (fun w => ntl (Or.inr (Or.inr w)))]
              rw [e1, if_pos rfl] at hy3
              exact ⟨i + 1, by rw [e1, if_neg (by decide : ¬ ¬ (0 : Int) = 0)]; omega, Or.inr ⟨rfl, hy3, fun _ => tl⟩⟩
          · have hs' : sg = 0 := by rw [← hs, if_pos (by omega : gi M1 45 3 ≤ ((i : Int) + 1))]
            have e1 : y2 = 0 := by rw [hy2, hs']; decide
            rw [e1, if_pos rfl] at hy3
            exact ⟨i + 1, by rw [e1, if_neg (by decide : ¬ ¬ (0 : Int) = 0)]; omega, Or.inr ⟨rfl, hy3, fun w => absurd w z⟩⟩
        apply b_X9_readRules_148
        case k1 => intro q; omega
        case k2 => intro q; omega
        case k4 => intro _ _ q; omega
        case k3 =>
          intro _ q _
          rw [ei, e47] at q
          rw [if_pos q] at hcs
          rw [r2]
          have fs : zSm NFr M1 (si M1 58 op.toNat (gA g)) := zSm.rf.st (by decide)
          have := ihO (i + 1) n0 (si M1 58 op.toNat (gA g)) (by omega) (by omega) (frm fs (fun q c d => by rw [gi_si_ne (by decide)]))
          rw [hcs] at this
          exact this rfl (hR.fin hop.1)
        case k5 =>
          intro _ q1 q2 q3 y2 hy2 y3 hy3
          rw [ei, e47] at q1 q2 q3
          rw [ei, e47, r1]
          obtain ⟨n, hn1, hn2⟩ := sgn y2 y3 hy2 hy3
          dsimp only
          rw [hn1]
          exact itm y3 n (Or.inl q3) q1 q2 hn2
        case k7 =>
          intro _ q1 q2 _ q3 y2 hy2 y3 hy3
          rw [ei, e47] at q1 q2 q3
          rw [ei, e47, r1]
          obtain ⟨n, hn1, hn2⟩ := sgn y2 y3 hy2 hy3
          dsimp only
          rw [hn1]
          exact itm y3 n (Or.inr q3) q1 q2 hn2
        case k6 =>
          intro _ q1 q2 q3 q4
          rw [ei, e47] at q1 q2 q3 q4
          refine bad M1 hS (stopi ?_)
          rw [if_neg q1, if_neg q2]
          by_cases tl : isTl (wr.getD i 0) = true
          · rw [if_pos tl]
            rcases h0' with z | z
            · rw [if_neg (fun w => by omega)]
            · exact absurd tl (z.2 hi)
          · rw [if_neg tl]
            rcases isGs_iff.mp (gin hi) with z | z | z | z | z | z
            · exact absurd z q3
            · exact absurd z q4
            · exact absurd z tl
            · rw [if_pos z]
            · exact absurd z q2
            · exact absurd z q1
        case k8 =>
          intro _ q1 q2
          rw [ei, e47] at q1 q2
          rw [if_neg q1, if_pos q2] at hcs
          refine m_X9_beginAlternative (by rw [r2]; omega) (b_X9_readRules_187 ?_)
          rw [r2, r1]
          have fs : zSm NFr M1 (si (si M1 56 (gA g).toNat (gN g)) 45 15 (gA g + 1)) := (zSm.rf.st (by decide)).st (by decide)
          have := ihI (i + 1) n0 (si (si M1 56 (gA g).toNat (gN g)) 45 15 (gA g + 1)) (by omega) (by omega) (frm fs (fun q c d => by simp [gi_si, d]))
          rw [hcs] at this
          exact this (Or.inl rfl) (hR.alt (by omega) (by decide))
        all_goals (intros; first | omega | (dsimp only; omega) | (split <;> omega))
  refine e_X9_readRules (fun n0 => ?_)
  apply b_X9_readRules_0
  have L0 : ∀ (d i n0 : Nat) (M1 : zM), i + d = 6 → zSm NFr M M1 → gi M1 45 = gi M 45 → (∀ q, q < i → gi M1 57 q = -1) → zGi B zy_X9_readRules 2 0 0 n0 K 2 [some (zR 45), some (zI (i : Int)), none, none, none, none] [] M1 0 0 := by
    intro d
    induction d with
    | zero =>
      intro i n0 M1 hi f e h
      apply b_X9_readRules_2
      case k1 =>
        intro _
        refine (L wr.length).1 0 n0 _ (by omega) (by omega) ⟨((f.st (by decide)).st (by decide)).st (by decide), fun q a b c d => by simp [gi_si, a, c, d]; rw [e]⟩ rfl ?_
        refine ⟨⟨by simp [gi_si]; rfl, by simp [gi_si]; rfl, by simp [gi_si]; rfl, fun q => ?_⟩, fun j hj => ?_, fun j hj => ?_, fun r hr => ⟨?_, fun q => ?_⟩⟩
        · have : (0 : Int) < 0 := q; omega
        · have : (j : Int) < 0 := hj; omega
        · have : (j : Int) < 0 := hj; omega
        · rw [gi_si_ne (by decide), gi_si_ne (by decide), gi_si_ne (by decide), h r (by omega)]; rfl
        · have : (0 : Int) ≤ -1 := q; omega
      all_goals (intros; omega)
    | succ d ih =>
      intro i n0 M1 hi f e h
      apply b_X9_readRules_2
      case k2 =>
        intro _
        refine ih (i + 1) n0 _ (by omega) (f.st (by decide)) (by rw [gi_si_ne (by decide)]; exact e) (fun q hq => ?_)
        rw [show ((i : Int)).toNat = i from rfl, gi_si_eq]
        by_cases z : q = i
        · rw [if_pos z]
        · rw [if_neg z]; exact h q (by omega)
      all_goals (intros; omega)
  exact L0 6 0 n0 M rfl zSm.rf rfl (fun q hq => by omega)
end NM11
