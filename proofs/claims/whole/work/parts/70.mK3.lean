/-! ===== cutting: all that was typed ===== -/
section K3
variable {B : zB} {K : Int → zM → Prop} {Kv : zM → Prop} {M : zM}
theorem stp_bad {C : CS} (h : C.1 = -1) (c : Int) : stpS C c = C := by unfold stpS; rw [if_pos h]
theorem cut_bad {s : List Int} : ∀ {C : CS}, C.1 = -1 → s.foldl stpS C = C := by
  induction s with
  | nil => intro C _; rfl
  | cons c s ih => intro C h; rw [List.foldl_cons, stp_bad h]; exact ih h
theorem cut_succ {s : List Int} {i : Nat} (h : i < s.length) : cutS (s.take (i + 1)) = stpS (cutS (s.take i)) (s.getD i 0) := by
  unfold cutS
  rw [take_succ' h, List.foldl_append]
  rfl
theorem cut_end {s : List Int} {i : Nat} (h : (cutS (s.take i)).1 = -1) : cutS s = cutS (s.take i) := by
  have : s = s.take i ++ s.drop i := (List.take_append_drop i s).symm
  unfold cutS at *
  rw [this, List.foldl_append, ← this, cut_bad h]
theorem WC.ini : WC iniC 0 := by
  refine ⟨⟨by decide, by decide, by decide⟩, fun j hj => ?_, fun j hj => ?_, fun r _ => ⟨Int.le_refl _, fun q => ?_⟩, fun q => ?_, ⟨by decide, by decide⟩, by decide, fun q => ?_⟩
  · have : (j : Int) < 0 := hj; omega
  · have : (j : Int) < 0 := hj; omega
  · have : (0 : Int) ≤ -1 := q; omega
  · have : (1 : Int) ≤ 0 := q; omega
  · have : (0 : Int) < 0 := q; omega
theorem cut_WC {s : List Int} (hg : ∀ c ∈ s, isGs c = true) : ∀ {i : Nat}, i ≤ s.length → (cutS (s.take i)).1 = -1 ∨ WC (cutS (s.take i)) i := by
  intro i
  induction i with
  | zero => intro _; exact Or.inr WC.ini
  | succ i ih =>
    intro h
    rw [cut_succ (by omega)]
    rcases ih (by omega) with q | q
    · left; rw [stp_bad q]; exact q
    · by_cases z : (cutS (s.take i)).1 = -1
      · left; rw [stp_bad z]; exact z
      · have hc : s.getD i 0 ∈ s := by
          rw [List.getD_eq_getElem?_getD, List.getElem?_eq_getElem (by omega)]
          exact List.getElem_mem _
        exact q.step (hg _ hc) z
theorem finG_WG {C : CS} {i : Int} (h : WC C i) (hi : i ≤ 60) (h0 : C.1 = 0) : WG (finG C.2.1) := by
  obtain ⟨⟨a1, a2, a3⟩, a4, a5, a6, -, -, -, -⟩ := h
  have fb : ∀ j : Nat, (j : Int) ≤ gA C.2.1 → (0 ≤ gF (finG C.2.1) j ∧ gF (finG C.2.1) j ≤ gN C.2.1) := fun j hj => by
    show 0 ≤ updF (gF C.2.1) (gA C.2.1).toNat (gN C.2.1) j ∧ updF (gF C.2.1) (gA C.2.1).toNat (gN C.2.1) j ≤ gN C.2.1
    unfold updF
    by_cases z : j = (gA C.2.1).toNat
    · rw [if_pos z]; omega
    · rw [if_neg z]; exact (a5 j (by omega)).1
  refine ⟨⟨a1, by show gN C.2.1 ≤ 60; omega⟩, ⟨a2, by show gA C.2.1 ≤ 60; omega⟩, a4, fun j hj => ?_, fb, fun r hr => ⟨(a6 r hr).1, fun q => ((a6 r hr).2 q).2 (fun z => by have := z.1; omega)⟩⟩
  have hj' : (j : Int) < gA C.2.1 := hj
  refine ⟨(fb j (by omega)).1, ?_⟩
  show updF (gF C.2.1) (gA C.2.1).toNat (gN C.2.1) j ≤ updF (gF C.2.1) (gA C.2.1).toNat (gN C.2.1) (j + 1)
  unfold updF
  rw [if_neg (by omega : ¬ j = (gA C.2.1).toNat)]
  by_cases z : j + 1 = (gA C.2.1).toNat
  · rw [if_pos z]; exact (a5 j hj').1.2
  · rw [if_neg z]; exact (a5 j hj').2 (by omega)
theorem finG_RX {C : CS} {M : zM} (h : RC M C) (h0 : C.1 = 0) (hA : 0 ≤ gA C.2.1) : RX (si M 13 (gA C.2.1).toNat (gN C.2.1)) (finG C.2.1) := by
  obtain ⟨⟨r1, r2, r3, r4, r5⟩, r6, r7, r8⟩ := h
  refine ⟨by simp [gi_si]; exact r1, by simp [gi_si]; exact r2, fun j hj => ?_, fun j hj => ?_, fun r hr => ?_⟩
  · rw [gi_si_ne (by decide), gi_si_ne (by decide), gi_si_ne (by decide)]
    exact r6 j hj
  · have hj' : (j : Int) ≤ gA C.2.1 := hj
    rw [gi_si_eq]
    show _ = updF (gF C.2.1) (gA C.2.1).toNat (gN C.2.1) j
    unfold updF
    by_cases z : j = (gA C.2.1).toNat
    · rw [if_pos z, if_pos z]
    · rw [if_neg z, if_neg z]; exact r7 j (by omega)
  · rw [gi_si_ne (by decide), gi_si_ne (by decide), gi_si_ne (by decide)]
    exact ⟨(r8 r hr).1, fun q => ⟨((r8 r hr).2 q).1, ((r8 r hr).2 q).2 (fun z => by have := z.1; omega)⟩⟩
def goodC (C : CS) : Prop := C.1 = 0 ∧ 0 < C.2.2.1
theorem m_X0_isCut {wr : List Int} (hr : RC M iniC) (hz : zA M 3 wr) (hl : wr.length ≤ 60) (hg : ∀ c ∈ wr, isGs c = true)
    (k0 : ¬ goodC (cutS wr) → ∀ M', zSm KFr M M' → gi M' 8 4 = gi M 8 4 → gi M' 8 0 = gi M 8 0 → K 0 M')
    (k1 : goodC (cutS wr) → ∀ M', zSm KFr M M' → gi M' 8 4 = gi M 8 4 → gi M' 8 0 = gi M 8 0 → RX M' (finG (cutS wr).2.1) → gi M' 8 2 = (cutS wr).2.2.1 → gi M' 8 1 = (cutS wr).2.2.2.1 → K 1 M') : zCi B zy_X0_isCut 4 0 0 [zR 8, zR 3, zI (wr.length : Int)] M K := by
  have W := fun {i : Nat} (h : i ≤ wr.length) => cut_WC (s := wr) hg h
  have L : ∀ (d i : Nat) (n0 : Nat) (M1 : zM), i + d = wr.length → zSm KFr M M1 → gi M1 8 4 = gi M 8 4 → gi M1 8 0 = gi M 8 0 → (cutS (wr.take i)).1 ≠ -1 → RC M1 (cutS (wr.take i)) → zGi B zy_X0_isCut 4 0 0 n0 K 5 [some (zR 8), some (zR 3), some (zI (wr.length : Int)), some (zI (cutS (wr.take i)).1), some (zI (i : Int))] [] M1 0 0 := by
    intro d
    induction d with
    | zero =>
      intro i n0 M1 hi f e4 e0 hn hR
      have e : wr.take i = wr := List.take_of_length_le (by omega)
      rw [e] at hn hR ⊢
      have hW : WC (cutS wr) i := by
        have := W (i := i) (by omega)
        rw [e] at this
        exact this.resolve_left hn
      obtain ⟨⟨r1, r2, r3, r4, r5⟩, r6, r7, r8⟩ := id hR
      have hA : 0 ≤ gA (cutS wr).2.1 ∧ gA (cutS wr).2.1 ≤ 60 := ⟨hW.1.2.1, by have := hW.1; omega⟩
      have dn : ∀ x : Int, x = (if (cutS wr).1 = 0 ∧ 0 < gi M1 8 2 then 1 else 0) → K x (si M1 13 (gi M1 8 10).toNat (gi M1 8 8)) := fun x hx => by
        have f' : zSm KFr M (si M1 13 (gi M1 8 10).toNat (gi M1 8 8)) := f.st (by decide)
        rw [r3] at hx
        by_cases z : (cutS wr).1 = 0 ∧ 0 < (cutS wr).2.2.1
        · rw [if_pos z] at hx
          rw [hx]
          refine k1 z _ f' (by simp [gi_si]; exact e4) (by simp [gi_si]; exact e0) ?_ (by simp [gi_si]; exact r3) (by simp [gi_si]; exact r4 z.2)
          rw [r1, r2]
          exact finG_RX hR z.1 hA.1
        · rw [if_neg z] at hx
          rw [hx]
          exact k0 z _ f' (by simp [gi_si]; exact e4) (by simp [gi_si]; exact e0)
      apply b_X0_isCut_5
      case k1 => intro _; exact dn _ rfl
      case k2 => intros; exact dn _ rfl
      case c1 => intro _; rw [r2]; omega
      all_goals (intros; omega)
    | succ d ih =>
      intro i n0 M1 hi f e4 e0 hn hR
      have hW := (W (i := i) (by omega)).resolve_left hn
      have hc : isGs (wr.getD i 0) = true := by
        refine hg _ ?_
        rw [List.getD_eq_getElem?_getD, List.getElem?_eq_getElem (by omega)]
        exact List.getElem_mem _
      apply b_X0_isCut_5
      case k3 =>
        intro q q2
        have e : gi M1 3 i = wr.getD i 0 := by rw [f.ge (by decide)]; exact hz.get (by omega)
        show zCi B zy_X0_step 3 0 0 [zR 8, zI (cutS (wr.take i)).1, zI (gi M1 3 i)] M1 _
        rw [e]
        refine m_X0_step hR hW (by omega) hc hn (fun M2 f2 g4 g0 hR2 => ?_)
        rw [← cut_succ (by omega)] at hR2 ⊢
        apply b_X0_isCut_27
        case k1 =>
          intro q3
          exact ih (i + 1) n0 M2 (by omega) (f.tr f2) (g4.trans e4) (g0.trans e0) q3 (hR2 q3)
        case k2 =>
          intro q3
          have := cut_end q3
          exact k0 (fun z => by rw [this] at z; have := z.1; omega) M2 (f.tr f2) (g4.trans e4) (g0.trans e0)
        all_goals (intros; omega)
      case c1 => intro q; exfalso; omega
      case k1 => intro q; exfalso; omega
      case c2 => intro _ q; exfalso; omega
      case k2 => intro _ q; exfalso; omega
      all_goals (intros; omega)
  refine e_X0_isCut (fun n0 => ?_)
  apply b_X0_isCut_0
  exact L wr.length 0 n0 M (by omega) zSm.rf rfl rfl (fun z => by have z2 : (0 : Int) = -1 := z; omega) hr
end K3
