/-! ===== moves: the model ===== -/
theorem tdI {s : List Int} {f i : Nat} (h : f ≤ i) (hi : i < s.length) : (s.take (i + 1)).drop f = (s.take i).drop f ++ [s.getD i 0] := by
  rw [take_succ' hi, List.drop_append_of_le_length (by rw [List.length_take]; omega)]
theorem tdI_nil {s : List Int} {f : Nat} : (s.take f).drop f = [] := by
  apply List.drop_of_length_le
  rw [List.length_take]
  omega
theorem akM.add {M : zM} {p : List Int} {x : Int} (h : akM M p) : akM (si (si M 77 p.length x) 45 49 ((p.length : Int) + 1)) (p ++ [x]) :=
  ⟨by rw [gi_si_eq, if_pos rfl, List.length_append]; rfl, (h.2.app1 (x := x)).same (gi_si_ne (by decide))⟩
/-- what a move changes -/
def TFm (M M' : zM) : Prop := zSm [45, 46, 53, 62, 63, 64, 65, 66, 67, 68, 69, 70, 71, 72, 73, 74, 75, 76, 77] M M' ∧ gi M' 45 63 = gi M 45 63
theorem TFm.rf {M : zM} : TFm M M := ⟨zSm.rf, rfl⟩
theorem TFm.tr {M M' M2 : zM} (h : TFm M M') (h' : TFm M' M2) : TFm M M2 := ⟨h.1.tr h'.1, h'.2.trans h.2⟩
theorem TFm.fm {M M' : zM} (h : TFm M M') : FM M M' := zSm.fm h.1 (by decide)
theorem PF.tfm {M M' : zM} (h : PF M M') : TFm M M' := ⟨h.1.mono (by decide), h.2 63 (by decide) (by decide)⟩
theorem KF.tfm {M M' : zM} (h : KF M M') : TFm M M' := ⟨h.1.mono (by decide), h.2 63 (by unfold scrQ; simp)⟩
section MN31
variable {B : zB} {n0 : Nat} {K : Int → zM → Prop} {Kv : zM → Prop} {M : zM} {ty wr : List Int} {sk : List (List st3 × Int)} {w u : List st3} {G : Option GC} {j : JS} {on rd : Int} {L : List nd}
theorem m_X9_take {nb nz fr tk : Nat} (h : MS M ty wr sk w u G j on rd) (hb : nb + nz ≤ ty.length) (hf : fr + tk ≤ ty.length) (hl : nb + tk + (ty.length - (nb + nz)) ≤ 32) (hen : j.2.2.2.2 = 0) {a : List Int} (ea : a = ty.take nb ++ (ty.take (fr + tk)).drop fr ++ ty.drop (nb + nz))
    (k0 : prG G a = none → ∀ M', TFm M M' → MS M' ty wr sk w u G j on rd → K 0 M')
    (k1 : (prG G a).isSome = true → (askS on (ocA w u) j a).1 = 1 → ∀ M', TFm M M' → MS M' a wr sk w u G (askS on (ocA w u) j a).2 on rd → K 1 M')
    (k2 : (prG G a).isSome = true → ¬ (askS on (ocA w u) j a).1 = 1 → ∀ M', TFm M M' → MS M' ty wr sk w u G (askS on (ocA w u) j a).2 on rd → K 0 M') : zCi B zy_X9_take 9 0 0 [zR 45, zI (nb : Int), zI (nz : Int), zI (fr : Int), zI (tk : Int)] M K := by
  obtain ⟨t1, t2, t3⟩ := id h.1
  have h32 := t3.1
  have hoa : okS a := by
    refine t3.sub ?_ (fun x hx => ?_)
    · rw [ea, List.length_append, List.length_append, List.length_take, List.length_drop, List.length_take, List.length_drop]; omega
    · rw [ea] at hx
      rcases List.mem_append.mp hx with q | q
      · rcases List.mem_append.mp q with q | q
        · exact List.mem_of_mem_take q
        · exact List.mem_of_mem_take (List.mem_of_mem_drop q)
      · exact List.mem_of_mem_drop q
  have keep : ∀ {M1 : zM} {x : Int} {p : List Int}, zSm [45, 77] M M1 → (∀ q, q ≠ 49 → gi M1 45 q = gi M 45 q) → zSm [45, 77] M (si (si M1 77 p.length x) 45 49 ((p.length : Int) + 1)) ∧ (∀ q, q ≠ 49 → gi (si (si M1 77 p.length x) 45 49 ((p.length : Int) + 1)) 45 q = gi M 45 q) := fun f e => ⟨(f.st (by decide)).st (by decide), fun q hq => by rw [gi_si_eq, if_neg hq, gi_si_ne (by decide)]; exact e q hq⟩
  -- the end
  have L3 : ∀ (d i n0 : Nat) (M1 : zM), i + d = ty.length → nb + nz ≤ i → zSm [45, 77] M M1 → (∀ q, q ≠ 49 → gi M1 45 q = gi M 45 q) → akM M1 (ty.take nb ++ (ty.take (fr + tk)).drop fr ++ (ty.take i).drop (nb + nz)) → zGi B zy_X9_take 9 0 0 n0 K 95 [some (zR 45), some (zI (nb : Int)), some (zI (nz : Int)), some (zI (fr : Int)), some (zI (tk : Int)), some (zI (i : Int))] [] M1 0 0 := by
    intro d
    induction d with
    | zero =>
      intro i n0 M1 hi hni f e ha
      have e1 : gi M1 45 1 = (ty.length : Int) := (e 1 (by decide)).trans t1
      rw [show ty.take i = ty from List.take_of_length_le (by omega), ← ea] at ha
      have hM1 := h.scr f (by decide) (fun q hq => e q (fun y => hq (by unfold scrQ; omega)))
      have tf1 : TFm M M1 := ⟨f.mono (by decide), e 63 (by decide)⟩
      apply b_X9_take_95
      case k1 =>
        intro _
        rw [ha.1]
        refine m_X9_parse (a := 77) rfl (Or.inr rfl) hM1.gm ha.2 hoa (fun hp M2 f2 _ => ?_) (fun L hp M2 f2 _ => ?_)
        · obtain ⟨h2, _⟩ := hM1.pf f2
          apply b_X9_take_148
          case k1 => intro _; exact k0 hp M2 (tf1.tr f2.tfm) h2
          case k2 => intro y; exact absurd rfl y
        · obtain ⟨h2, _⟩ := hM1.pf f2
          have his : (prG G a).isSome = true := by rw [hp]; rfl
          have ha2 : akM M2 a := ⟨(f2.2 49 (by decide) (by decide)).trans ha.1, ha.2.same (f2.1.ge (by decide))⟩
          apply b_X9_take_148
          case k1 => intro y; exact absurd y (by decide)
          case k2 =>
            intro _
            refine m_X9_ask h2 ha2 hoa hen (fun M3 f3 h3 => ?_)
            apply b_X9_take_155
            by_cases q : (askS on (ocA w u) j a).1 = 1
            · rw [if_pos q] at h3
              rw [if_pos q, if_pos (by decide)]
              exact k1 his q M3 (tf1.tr (f2.tfm.tr f3.tfm)) h3
            · rw [if_neg q] at h3
              rw [if_neg q, if_neg (by decide)]
              exact k2 his q M3 (tf1.tr (f2.tfm.tr f3.tfm)) h3
      all_goals (intro q; rw [e1] at q; omega)
    | succ d ih =>
      intro i n0 M1 hi hni f e ha
      have e1 : gi M1 45 1 = (ty.length : Int) := (e 1 (by decide)).trans t1
      have ei : ((i : Int)).toNat = i := rfl
      have hlen : (ty.take nb ++ (ty.take (fr + tk)).drop fr ++ (ty.take i).drop (nb + nz)).length < 32 := by
        rw [List.length_append, List.length_append, List.length_take, List.length_drop, List.length_take, List.length_drop, List.length_take]; omega
      have etd := tdI (s := ty) hni (show i < ty.length by omega)
      generalize hp : ty.take nb ++ (ty.take (fr + tk)).drop fr = A at *
      apply b_X9_take_95
      case k1 => intro q; rw [e1] at q; omega
      case c1 => intro _; omega
      case c2 => intro _; rw [ha.1]; omega
      case c3 => intro _; rw [ha.1]; omega
      case c4 => intro _; omega
      case k2 =>
        intro _
        rw [ei, ha.1, show (((A ++ (ty.take i).drop (nb + nz)).length : Int)).toNat = (A ++ (ty.take i).drop (nb + nz)).length from rfl, f.ge (by decide : (46 : Nat) ∉ [45, 77]), t2.get (by omega)]
        obtain ⟨q1, q2⟩ := keep (x := ty.getD i 0) (p := A ++ (ty.take i).drop (nb + nz)) f e
        refine ih (i + 1) n0 _ (by omega) (by omega) q1 q2 ?_
        rw [etd, ← List.append_assoc]
        exact ha.add
  have L2 : ∀ (d i n0 : Nat) (M1 : zM), i + d = fr + tk → fr ≤ i → zSm [45, 77] M M1 → (∀ q, q ≠ 49 → gi M1 45 q = gi M 45 q) → akM M1 (ty.take nb ++ (ty.take i).drop fr) → zGi B zy_X9_take 9 0 0 n0 K 49 [some (zR 45), some (zI (nb : Int)), some (zI (nz : Int)), some (zI (fr : Int)), some (zI (tk : Int)), some (zI (i : Int))] [] M1 0 0 := by
    intro d
    induction d with
    | zero =>
      intro i n0 M1 hi hni f e ha
      rw [show i = fr + tk from by omega] at ha
      apply b_X9_take_49
      case k1 =>
        intro _
        rw [show (nb : Int) + (nz : Int) = ((nb + nz : Nat) : Int) from by omega]
        refine L3 (ty.length - (nb + nz)) (nb + nz) n0 M1 (by omega) (Nat.le_refl _) f e ?_
        rw [tdI_nil, List.append_nil]
        exact ha
      all_goals (intros; omega)
    | succ d ih =>
      intro i n0 M1 hi hni f e ha
      have ei : ((i : Int)).toNat = i := rfl
      have hlen : (ty.take nb ++ (ty.take i).drop fr).length < 32 := by
        rw [List.length_append, List.length_take, List.length_drop, List.length_take]; omega
      have etd := tdI (s := ty) hni (show i < ty.length by omega)
      apply b_X9_take_49
      case k1 => intro q; omega
      case c1 => omega
      case c2 => intro _; omega
      case c3 => intro _; omega
      case c4 => intro _; rw [ha.1]; omega
      case c5 => intro _; rw [ha.1]; omega
      case c6 => intro _; omega
      case k2 =>
        intro _
        rw [ei, ha.1, show (((ty.take nb ++ (ty.take i).drop fr).length : Int)).toNat = (ty.take nb ++ (ty.take i).drop fr).length from rfl, f.ge (by decide : (46 : Nat) ∉ [45, 77]), t2.get (by omega)]
        obtain ⟨q1, q2⟩ := keep (x := ty.getD i 0) (p := ty.take nb ++ (ty.take i).drop fr) f e
        refine ih (i + 1) n0 _ (by omega) (by omega) q1 q2 ?_
        rw [etd, ← List.append_assoc]
        exact ha.add
  have L1 : ∀ (d i n0 : Nat) (M1 : zM), i + d = nb → zSm [45, 77] M M1 → (∀ q, q ≠ 49 → gi M1 45 q = gi M 45 q) → akM M1 (ty.take i) → zGi B zy_X9_take 9 0 0 n0 K 8 [some (zR 45), some (zI (nb : Int)), some (zI (nz : Int)), some (zI (fr : Int)), some (zI (tk : Int)), some (zI (i : Int))] [] M1 0 0 := by
    intro d
    induction d with
    | zero =>
      intro i n0 M1 hi f e ha
      rw [show i = nb from by omega] at ha
      apply b_X9_take_8
      case k1 =>
        intro _
        refine L2 tk fr n0 M1 (by omega) (Nat.le_refl _) f e ?_
        rw [tdI_nil, List.append_nil]
        exact ha
      all_goals (intros; omega)
    | succ d ih =>
      intro i n0 M1 hi f e ha
      have ei : ((i : Int)).toNat = i := rfl
      have hlen : (ty.take i).length < 32 := by rw [List.length_take]; omega
      apply b_X9_take_8
      case k1 => intro q; omega
      case c1 => intro _; omega
      case c2 => intro _; rw [ha.1]; omega
      case c3 => intro _; rw [ha.1]; omega
      case c4 => intro _; omega
      case k2 =>
        intro _
        rw [ei, ha.1, show (((ty.take i).length : Int)).toNat = (ty.take i).length from rfl, f.ge (by decide : (46 : Nat) ∉ [45, 77]), t2.get (by omega)]
        obtain ⟨q1, q2⟩ := keep (x := ty.getD i 0) (p := ty.take i) f e
        refine ih (i + 1) n0 _ (by omega) q1 q2 ?_
        rw [take_succ' (by omega)]
        exact ha.add
  refine e_X9_take (fun n0 => ?_)
  apply b_X9_take_0
  exact L1 nb 0 n0 _ (by omega) (zSm.rf.st (by decide)) (fun q hq => by rw [gi_si_eq, if_neg hq]) ⟨by rw [gi_si_eq, if_pos rfl]; rfl, zA.nil⟩
/-- the copied nodes -/
def MVM (M : zM) (L : List nd) : Prop := gi M 45 63 = (L.length : Int) ∧ ∀ k, k < L.length → gi M 83 k = nB (ndG L k) ∧ gi M 84 k = nZ (ndG L k) ∧ gi M 85 k = nR (ndG L k) ∧ gi M 86 k = nL (ndG L k) ∧ gi M 87 k = nD (ndG L k)
theorem MVM.tfm {M' : zM} (h : MVM M L) (f : TFm M M') : MVM M' L := ⟨f.2.trans h.1, fun k hk => by
  rw [f.1.ge (by decide), f.1.ge (by decide), f.1.ge (by decide), f.1.ge (by decide), f.1.ge (by decide)]
  exact h.2 k hk⟩
theorem tmS_succ {oc : List Int → Int} {ps : List Int → Option (List nd)} {i m x : Nat} : tmS on oc ps ty L i (m + 1) x j = if ¬ x = i ∧ nD (ndG L x) ≤ nD (ndG L i) then (false, ty, j)
      else if isM L i x = true ∧ (ps (mvT ty L i x)).isSome = true then
        if (askS on oc j (mvT ty L i x)).1 = 1 then (true, mvT ty L i x, (askS on oc j (mvT ty L i x)).2) else tmS on oc ps ty L i m (x + 1) (askS on oc j (mvT ty L i x)).2
      else tmS on oc ps ty L i m (x + 1) j := rfl
theorem tmS_end {oc : List Int → Int} {ps : List Int → Option (List nd)} {i : Nat} (hen : ¬ j.2.2.2.2 = 0) : ∀ (m x : Nat), tmS on oc ps ty L i m x j = (false, ty, j) := by
  intro m
  induction m with
  | zero => intro x; rfl
  | succ m ih =>
    intro x
    have ea : ∀ a, askS on oc j a = (0, j) := fun a => by
      unfold askS
      rw [if_pos hen]
    rw [tmS_succ, ea, ih]
    split
    · rfl
    · split
      · rw [if_neg (show ¬ (0 : Int) = 1 by decide)]
      · rfl
end MN31
