/-! ===== cutting: a character ===== -/
section K2
variable {B : zB} {K : Int → zM → Prop} {Kv : zM → Prop} {M : zM}
abbrev KFr : List Nat := [8, 10, 11, 12, 13, 14, 15, 16]
theorem m_X0_step {C : CS} {c i : Int} (h : RC M C) (hw : WC C i) (hi : i < 60) (hc : isGs c = true) (h1 : C.1 ≠ -1)
    (k : ∀ M', zSm KFr M M' → gi M' 8 4 = gi M 8 4 → gi M' 8 0 = gi M 8 0 → ((stpS C c).1 ≠ -1 → RC M' (stpS C c)) → K (stpS C c).1 M') : zCi B zy_X0_step 3 0 0 [zR 8, zI C.1, zI c] M K := by
  obtain ⟨nx, g, ru, st, op⟩ := C
  have hsh := isGs_ch hc
  obtain ⟨⟨a1, a2, a3⟩, a4, a5, a6, a7, a8, a9, a10⟩ := id hw
  obtain ⟨⟨r1, r2, r3, r4, r5⟩, r6, r7, r8⟩ := id h
  dsimp only at a1 a2 a3 a4 a5 a6 a7 a8 a9 a10 h1 r1 r2 r3 r4 r5 r6 r7 r8
  have cb := cntD_bd (g := g)
  unfold stpS at k
  dsimp only at k
  rw [if_neg h1] at k
  have bad : ∀ {X : CS}, X.1 = -1 → (X.1 ≠ -1 → RC M X) := fun e z => absurd e z
  refine e_X0_step (fun n0 => ?_)
  apply b_X0_step_0
  case k9 =>
    intro n0'
    dsimp only at n0'
    rw [if_pos n0'] at k
    refine m_X0_opens (by rw [r2]; omega) (by rw [r3]; omega) ?_ ?_
    · intro q
      refine b_X0_step_9 ?_
      rw [if_pos rfl]
      rw [if_neg] at k
      · exact k M zSm.rf rfl rfl (fun z => absurd rfl z)
      · intro z
        refine q ⟨z.1, ?_⟩
        have nmc := isNm_iff.mp z.1
        rw [(r8 _ (by omega)).1, if_pos z.2]
    · intro q q2 M' f e8 e10 e2 e1 e13 e4 e0 e13' e14' e16'
      have nmc := isNm_iff.mp q
      have hlt : (c - 65).toNat < 6 := by omega
      have hg : gR g (c - 65).toNat < 0 := by
        by_cases z : gR g (c - 65).toNat < 0
        · exact z
        · have := (r8 _ hlt).1
          rw [if_neg z, q2] at this
          omega
      rw [if_pos ⟨q, hg⟩] at k
      refine b_X0_step_9 ?_
      rw [if_neg (by decide)]
      refine k M' (f.mono (by decide)) e4 e0 (fun _ => ⟨⟨e8.trans r1, by rw [e10, r2]; rfl, by rw [e2, r3], fun _ => ?_, fun _ => e13⟩, ?_, ?_, ?_⟩)
      · rw [e1, r3]
        show _ = if ru = 0 then c - 65 else st
        by_cases z : ru = 0
        · rw [if_pos z, if_pos z]
        · rw [if_neg z, if_neg z]; exact r4 (by omega)
      · intro j hj
        rw [f.ge (a := 10) (by decide), f.ge (a := 11) (by decide), f.ge (a := 12) (by decide)]
        exact r6 j hj
      · intro j hj
        have hj' : (j : Int) < gA g + 1 := hj
        rw [e13', r1, r2]
        show _ = updF (gF g) (gA g).toNat (gN g) j
        unfold updF
        by_cases z : j = (gA g).toNat
        · rw [if_pos z, if_pos z]
        · rw [if_neg z, if_neg z]; exact r7 j (by omega)
      · intro r hr
        rw [e16', e14', f.ge (a := 15) (by decide), r2]
        show _ = (if updF (gR g) (c - 65).toNat (gA g) r < 0 then _ else _) ∧ (0 ≤ updF (gR g) (c - 65).toNat (gA g) r → _ = updF (gR g) (c - 65).toNat (gA g) r ∧ (_ → _))
        unfold updF
        by_cases z : r = (c - 65).toNat
        · rw [if_pos z, if_pos z, if_neg (by omega), if_pos z]
          refine ⟨rfl, fun _ => ⟨rfl, fun q => absurd (⟨Int.le_refl 1, ?_⟩ : (1 : Int) ≤ 1 ∧ (r : Int) = c - 65) q⟩⟩
          omega
        · rw [if_neg z, if_neg z, if_neg z]
          refine ⟨(r8 r hr).1, fun q2 => ⟨((r8 r hr).2 q2).1, fun _ => ((r8 r hr).2 q2).2 (fun z => ?_)⟩⟩
          have := z.1
          dsimp only at this
          omega
  case k8 =>
    intro q0 q1
    dsimp only at q0 q1
    rw [if_neg q0, if_pos q1] at k
    by_cases z : c = 61
    · rw [if_pos z] at k ⊢
      exact k M zSm.rf rfl rfl (fun _ => ⟨⟨r1, r2, r3, r4, fun _ => r5 (by omega)⟩, r6, r7, fun r hr => ⟨(r8 r hr).1, fun q => ⟨((r8 r hr).2 q).1, fun q2 => ((r8 r hr).2 q).2 (fun z => q2 ⟨by dsimp only; omega, z.2⟩)⟩⟩⟩)
    · rw [if_neg z] at k ⊢
      exact k M zSm.rf rfl rfl (fun z => absurd rfl z)
  case k7 =>
    intro q0 q1 q2
    dsimp only at q0 q1
    rw [if_neg q0, if_neg q1, if_pos q2] at k
    have h7 := a7 (by omega)
    have e5 := r5 (by omega)
    refine k _ (zSm.rf.st (by decide)) (by simp [gi_si]) (by simp [gi_si]) (fun _ => ⟨⟨by simp [gi_si]; exact r1, by simp [gi_si]; exact r2, by simp [gi_si]; exact r3, fun z => by simp [gi_si]; exact r4 z, fun z => by have z' : (1 : Int) ≤ 0 := z; omega⟩, ?_, ?_, ?_⟩)
    · intro j hj
      simp only [gi_si_ne (by decide : (10 : Nat) ≠ 15), gi_si_ne (by decide : (11 : Nat) ≠ 15), gi_si_ne (by decide : (12 : Nat) ≠ 15)]
      exact r6 j hj
    · intro j hj
      simp only [gi_si_ne (by decide : (13 : Nat) ≠ 15)]
      exact r7 j hj
    · intro r hr
      rw [gi_si_ne (by decide : (16 : Nat) ≠ 15), gi_si_ne (by decide : (14 : Nat) ≠ 15), gi_si_eq, e5, r2]
      refine ⟨(r8 r hr).1, fun q => ⟨((r8 r hr).2 q).1, fun _ => ?_⟩⟩
      show _ = updF (gE g) op.toNat (gA g) r
      unfold updF
      by_cases z : r = op.toNat
      · rw [if_pos z, if_pos z]
      · rw [if_neg z, if_neg z]
        exact ((r8 r hr).2 q).2 (fun z2 => z (by have := z2.2; dsimp only at this; omega))
  case k6 =>
    intro q0 q1 q2 q3
    dsimp only at q0 q1
    rw [if_neg q0, if_neg q1, if_neg q2, if_pos q3] at k
    refine m_X0_addAlternative (by rw [r2]; omega) (b_X0_step_66 ?_)
    refine k _ ((zSm.rf.st (by decide)).st (by decide)) (by simp [gi_si]) (by simp [gi_si]) (fun _ => ⟨⟨by simp [gi_si]; exact r1, by simp [gi_si]; rw [r2]; rfl, by simp [gi_si]; exact r3, fun z => by simp [gi_si]; exact r4 z, fun _ => by simp [gi_si]; exact r5 (by omega)⟩, ?_, ?_, ?_⟩)
    · intro j hj
      rw [gi_si_ne (by decide), gi_si_ne (by decide), gi_si_ne (by decide), gi_si_ne (by decide), gi_si_ne (by decide), gi_si_ne (by decide)]
      exact r6 j hj
    · intro j hj
      have hj' : (j : Int) < gA g + 1 := hj
      rw [gi_si_ne (by decide), gi_si_eq, r1, r2]
      show _ = updF (gF g) (gA g).toNat (gN g) j
      unfold updF
      by_cases z : j = (gA g).toNat
      · rw [if_pos z, if_pos z]
      · rw [if_neg z, if_neg z]; exact r7 j (by omega)
    · intro r hr
      rw [gi_si_ne (by decide), gi_si_ne (by decide), gi_si_ne (by decide), gi_si_ne (by decide), gi_si_ne (by decide), gi_si_ne (by decide)]
      exact ⟨(r8 r hr).1, fun q => ⟨((r8 r hr).2 q).1, fun q2 => ((r8 r hr).2 q).2 (fun z => q2 ⟨by dsimp only; omega, z.2⟩)⟩⟩
  case k3 =>
    intro q0 q1 q2 q3 q4 q5
    dsimp only at q0 q1 q5
    rw [if_neg q0, if_neg q1, if_neg q2, if_neg q3, if_pos q4, if_neg (fun z => q5 z.1)] at k
    exact k M zSm.rf rfl rfl (fun z => absurd rfl z)
  case k5 =>
    intro q0 q1 q2 q3 q4 q5 q6
    dsimp only at q0 q1 q5
    rw [if_neg q0, if_neg q1, if_neg q2, if_neg q3, if_pos q4, if_neg (fun z => by omega)] at k
    exact k M zSm.rf rfl rfl (fun z => absurd rfl z)
  case k4 =>
    intro q0 q1 q2 q3 q4 q5 q6
    dsimp only at q0 q1 q5
    rw [if_neg q0, if_neg q1, if_neg q2, if_neg q3, if_pos q4, if_pos (by omega)] at k
    have tl := isTl_cases q4
    refine k _ (zSm.rf.st (by decide)) (by simp [gi_si]) (by simp [gi_si]) (fun _ => ⟨⟨by simp [gi_si]; exact r1, by simp [gi_si]; exact r2, by simp [gi_si]; exact r3, fun z => by simp [gi_si]; exact r4 z, fun _ => by simp [gi_si]; exact r5 (by omega)⟩, ?_, ?_, ?_⟩)
    · intro j hj
      rw [gi_si_ne (by decide), gi_si_eq, gi_si_ne (by decide), r1]
      refine ⟨(r6 j hj).1, ?_, (r6 j hj).2.2⟩
      show _ = (if updF (gS g) (gN g - 1).toNat c j = 0 then 32 else updF (gS g) (gN g - 1).toNat c j)
      unfold updF
      by_cases z : j = (gN g - 1).toNat
      · rw [if_pos z, if_pos z, if_neg (by omega)]
      · rw [if_neg z, if_neg z]; exact (r6 j hj).2.1
    · intro j hj
      rw [gi_si_ne (by decide)]
      exact r7 j hj
    · intro r hr
      rw [gi_si_ne (by decide), gi_si_ne (by decide), gi_si_ne (by decide)]
      exact ⟨(r8 r hr).1, fun q => ⟨((r8 r hr).2 q).1, fun q2 => ((r8 r hr).2 q).2 (fun z => q2 ⟨by dsimp only; omega, z.2⟩)⟩⟩
  case k1 =>
    intro q0 q1 q2 q3 q4 q5
    dsimp only at q0 q1
    rw [if_neg q0, if_neg q1, if_neg q2, if_neg q3, if_neg q4, if_pos q5] at k
    exact k M zSm.rf rfl rfl (fun z => absurd rfl z)
  case k2 =>
    intro q0 q1 q2 q3 q4 q5
    dsimp only at q0 q1
    rw [if_neg q0, if_neg q1, if_neg q2, if_neg q3, if_neg q4, if_neg q5] at k
    refine m_X0_addsItem (by rw [r1]; omega) hsh (b_X0_step_115 ?_)
    rw [if_neg (by decide)]
    refine k _ ((((zSm.rf.st (by decide)).st (by decide)).st (by decide)).st (by decide)) (by simp [gi_si]) (by simp [gi_si]) (fun _ => ⟨⟨by simp [gi_si]; rw [r1]; rfl, by simp [gi_si]; exact r2, by simp [gi_si]; exact r3, fun z => by simp [gi_si]; exact r4 z, fun _ => by simp [gi_si]; exact r5 (by omega)⟩, ?_, ?_, ?_⟩)
    · intro j hj
      have hj' : (j : Int) < gN g + 1 := hj
      show _ = updF (gI g) (gN g).toNat c j ∧ _ = (if updF (gS g) (gN g).toNat 0 j = 0 then 32 else updF (gS g) (gN g).toNat 0 j) ∧ _ = nm (updF (gI g) (gN g).toNat c j)
      have e10 : ∀ (P : Int) , gi (si (si (si (si M 10 (gi M 8 8).toNat c) 11 (gi M 8 8).toNat 32) 12 (gi M 8 8).toNat (nm c)) 8 8 P) 10 j = if j = (gi M 8 8).toNat then c else gi M 10 j := fun P => by simp [gi_si]
      have e11 : ∀ (P : Int) , gi (si (si (si (si M 10 (gi M 8 8).toNat c) 11 (gi M 8 8).toNat 32) 12 (gi M 8 8).toNat (nm c)) 8 8 P) 11 j = if j = (gi M 8 8).toNat then 32 else gi M 11 j := fun P => by simp [gi_si]
      have e12 : ∀ (P : Int) , gi (si (si (si (si M 10 (gi M 8 8).toNat c) 11 (gi M 8 8).toNat 32) 12 (gi M 8 8).toNat (nm c)) 8 8 P) 12 j = if j = (gi M 8 8).toNat then nm c else gi M 12 j := fun P => by simp [gi_si]
      rw [e10, e11, e12, r1]
      unfold updF
      by_cases z : j = (gN g).toNat
      · rw [if_pos z, if_pos z, if_pos z, if_pos z, if_pos z]
        exact ⟨rfl, by rw [if_pos rfl], rfl⟩
      · rw [if_neg z, if_neg z, if_neg z, if_neg z, if_neg z]
        exact r6 j (by omega)
    · intro j hj
      rw [gi_si_ne (by decide), gi_si_ne (by decide), gi_si_ne (by decide), gi_si_ne (by decide)]
      exact r7 j hj
    · intro r hr
      rw [gi_si_ne (by decide), gi_si_ne (by decide), gi_si_ne (by decide), gi_si_ne (by decide), gi_si_ne (by decide), gi_si_ne (by decide), gi_si_ne (by decide), gi_si_ne (by decide), gi_si_ne (by decide), gi_si_ne (by decide), gi_si_ne (by decide), gi_si_ne (by decide)]
      exact ⟨(r8 r hr).1, fun q => ⟨((r8 r hr).2 q).1, fun q2 => ((r8 r hr).2 q).2 (fun z => q2 ⟨by dsimp only; omega, z.2⟩)⟩⟩
  all_goals (intros; dsimp only at *; have t7 := a7 (by omega); have t5 := r5 (by omega); omega)
end K2
