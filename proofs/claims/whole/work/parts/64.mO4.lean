/-! ===== the class's face: nodes, node, depth, reduce ===== -/
section FN
variable {B : zB} {K : Int → zM → Prop} {M : zM} {ty wr : List Int} {sk : List (List st3 × Int)} {w u : List st3} {G : Option GC} {j : JS} {on rd : Int}
/-- the tree is asked for: the text parses or not, and the cells are right again -/
theorem XS.build (h : XS M ty wr sk w u G j on rd) (hv : ¬ gi M 8 0 = 0) (k0 : prG G ty = none → ∀ M', FX M M' → XS M' ty wr sk w u G j on rd → gi M' 24 2 = 0 → K 0 M') (k1 : ∀ L, prG G ty = some L → ∀ M', FX M M' → XS M' ty wr sk w u G j on rd → TR M' L → WT ty.length L → ¬ gi M' 8 0 = 0 → K 1 M') : zCi B zy_X7_build 66 0 0 [zR 24, zR 1] M K := by
  obtain ⟨h1, h2, h3, h4, h5, h6, ⟨h7, h7b⟩, h8, h9, h10, h11, h12⟩ := id h
  unfold GX at h7b
  cases hG : G with
  | none => rw [hG] at h7b; exact absurd h7b hv
  | some c =>
    rw [hG] at h7b
    dsimp only at h7b
    obtain ⟨b1, b2, b3, b4⟩ := h7b
    have up : ∀ M', zSm [19, 20, 21, 22, 23, 24, 25, 26, 27, 28, 29, 30] M M' → MT M' c.1 c.2.1 c.2.2.2.2 ty → FX M M' ∧ XS M' ty wr sk w u G j on rd ∧ ¬ gi M' 8 0 = 0 := fun M' f hm => by
      have e8 : gi M' 8 0 = gi M 8 0 := by rw [f.ge (by decide)]
      refine ⟨f.fx (by decide), h.up1 f (by decide) (h1.1.fr f (by decide) (by decide)) h1.2 (h5.fr f (by decide) (by decide) (by decide)) h12 ⟨hm.1, ?_⟩, by rw [e8]; exact b1⟩
      rw [hG]
      exact ⟨by rw [e8]; exact b1, b2, b3.fr f (by decide), hm.imx h1.2⟩
    have ep : prG G ty = prs c.1 c.2.1 c.2.2.2.2 c.2.2.2.1 ty := by rw [hG]; rfl
    refine m_X7_build (s := ty) zTx_1 (by omega) b1 b2 b3 b4 h1.1 h1.2 (fun hp M' f hm h24 => ?_) (fun L hp M' f hm ht => ?_)
    · obtain ⟨u1, u2, u3⟩ := up M' f hm
      exact k0 (ep.trans hp) M' u1 u2 h24
    · obtain ⟨u1, u2, u3⟩ := up M' f hm
      exact k1 L (ep.trans hp) M' u1 u2 ht (prs_wt b2 h1.2.1 hp).1 u3
theorem XS.g0 (h : XS M ty wr sk w u G j on rd) : gi M 8 0 = 0 ↔ G = none := by
  have h7 := h.2.2.2.2.2.2.1.2
  unfold GX at h7
  cases hG : G with
  | none => rw [hG] at h7; exact ⟨fun _ => rfl, fun _ => h7⟩
  | some c => rw [hG] at h7; exact ⟨fun q => absurd q h7.1, fun q => by cases q⟩
/-- how many nodes -/
def nsS (G : Option GC) (o : Option (List nd)) : Int := match G with
  | none => -1
  | some _ => match o with
    | none => 0
    | some L => (L.length : Int)
theorem m_X8_nodes (h : XS M ty wr sk w u G j on rd) (k : ∀ M', FX M M' → XS M' ty wr sk w u G j on rd → K (nsS G (prG G ty)) M') : zCi B zy_X8_nodes 67 0 0 [zR 0] M K := by
  refine e_X8_nodes (fun n0 => ?_)
  apply b_X8_nodes_0
  case k1 =>
    intro hv
    have hG : ∃ c, G = some c := by
      cases hG : G with
      | none => exact absurd (h.g0.mpr hG) hv
      | some c => exact ⟨c, rfl⟩
    obtain ⟨c, hc⟩ := hG
    refine h.build hv (fun hp M' f hx h24 => b_X8_nodes_23 ?_) (fun L hp M' f hx ht hw hv2 => b_X8_nodes_23 ?_)
    · have := k M' f hx
      rw [hp, hc] at this
      rw [h24]
      exact this
    · have := k M' f hx
      rw [hp, hc] at this
      rw [ht.1]
      exact this
  case k2 =>
    intro hv
    have := k M FX.rf h
    rw [h.g0.mp hv] at this
    exact this
/-- node i as it is told -/
def ndS (o : Option (List nd)) (i : Int) : Int := match o with
  | none => -1
  | some L => if 0 ≤ i ∧ i < L.length then 10000 * nR (ndG L i.toNat) + 5000 * nL (ndG L i.toNat) + 40 * nB (ndG L i.toNat) + nZ (ndG L i.toNat) else -1
def deS (o : Option (List nd)) (i : Int) : Int := match o with
  | none => -1
  | some L => if 0 ≤ i ∧ i < L.length then nD (ndG L i.toNat) else -1
theorem m_X8_hasNode {p1 : Int} (h : XS M ty wr sk w u G j on rd) (k0 : ∀ M', FX M M' → XS M' ty wr sk w u G j on rd → ndS (prG G ty) p1 = -1 ∧ deS (prG G ty) p1 = -1 → K 0 M') (k1 : ∀ L, prG G ty = some L → 0 ≤ p1 → p1 < L.length → ∀ M', FX M M' → XS M' ty wr sk w u G j on rd → TR M' L → WT ty.length L → K 1 M') : zCi B zy_X8_hasNode 67 0 0 [zR 0, zI p1] M K := by
  have none1 : prG G ty = none → ndS (prG G ty) p1 = -1 ∧ deS (prG G ty) p1 = -1 := fun q => by rw [q]; exact ⟨rfl, rfl⟩
  have out1 : ∀ L, prG G ty = some L → ¬ (0 ≤ p1 ∧ p1 < L.length) → ndS (prG G ty) p1 = -1 ∧ deS (prG G ty) p1 = -1 := fun L q q2 => by
    rw [q]
    unfold ndS deS
    dsimp only
    rw [if_neg q2, if_neg q2]
    exact ⟨rfl, rfl⟩
  have far : (p1 < 0 ∨ 60 ≤ p1) → ndS (prG G ty) p1 = -1 ∧ deS (prG G ty) p1 = -1 := fun q => by
    cases hp : prG G ty with
    | none => exact ⟨rfl, rfl⟩
    | some L =>
      have h60 : L.length ≤ 60 := by
        cases hG : G with
        | none => rw [hG] at hp; cases hp
        | some c =>
          have h7 := h.2.2.2.2.2.2.1.2
          rw [hG] at hp h7
          exact (prs_wt h7.2.1 h.1.2.1 hp).2
      rw [← hp]
      exact out1 L hp (by omega)
  refine e_X8_hasNode (fun n0 => ?_)
  apply b_X8_hasNode_0
  case k1 => intro q; exact k0 M FX.rf h (far (Or.inl q))
  case k2 => intro _ q; exact k0 M FX.rf h (far (Or.inr q))
  case k3 =>
    intro q1 q2 hv
    refine h.build hv (fun hp M' f hx h24 => b_X8_hasNode_33 ?_) (fun L hp M' f hx ht hw hv2 => b_X8_hasNode_33 ?_)
    · rw [if_neg (fun z => z.1 rfl)]
      exact k0 M' f hx (none1 hp)
    · rw [ht.1]
      by_cases hl : p1 < L.length
      · rw [if_pos ⟨by decide, hl⟩]
        exact k1 L hp q1 hl M' f hx ht hw
      · rw [if_neg (fun z => hl z.2)]
        exact k0 M' f hx (out1 L hp (fun z => hl z.2))
  case k4 =>
    intro _ _ hv
    refine k0 M FX.rf h (none1 ?_)
    rw [h.g0.mp hv]
    rfl
theorem m_X8_node {p1 : Int} (h : XS M ty wr sk w u G j on rd) (k : ∀ M', FX M M' → XS M' ty wr sk w u G j on rd → K (ndS (prG G ty) p1) M') : zCi B zy_X8_node 68 0 0 [zR 0, zI p1] M K := by
  refine e_X8_node (fun n0 => b_X8_node_0 ?_)
  refine m_X8_hasNode h (fun M' f hx he => ?_) (fun L hp q1 q2 M' f hx ht hw => ?_)
  · have := k M' f hx
    rw [he.1] at this
    apply b_X8_node_5
    case k1 => intro _; exact this
    case k2 => intro q; exact absurd rfl q
  · have h2 := k M' f hx
    rw [hp] at h2
    unfold ndS at h2
    dsimp only at h2
    rw [if_pos ⟨q1, q2⟩] at h2
    have hat := ht.at (show p1.toNat < L.length by omega)
    obtain ⟨w1, w2, w3, w4, w5⟩ := hw.2.1 p1.toNat (by omega)
    have h60 := ht.2.1
    have hty := h.1.2.1
    apply b_X8_node_5
    case k1 => intro q; exact absurd q (by decide)
    case k2 =>
      intro _
      refine e_X7_told (fun n1 => ?_)
      have el : (if nL (ndG L p1.toNat) = 0 then (0 : Int) else 5000) = 5000 * nL (ndG L p1.toNat) := by rcases w2 with e | e <;> rw [e] <;> rfl
      apply b_X7_told_0
      case k1 =>
        rw [hat.1, hat.2.1, hat.2.2.1, hat.2.2.2.1, el]
        exact b_X8_node_16 h2
      all_goals first | omega | (rw [hat.1]; omega) | (rw [hat.2.2.1]; omega) | (rw [hat.1, hat.2.1, el]; omega) | (rw [hat.1, hat.2.1, hat.2.2.1, el]; omega) | (rw [hat.1, hat.2.1, hat.2.2.1, hat.2.2.2.1, el]; omega)
theorem m_X8_depth {p1 : Int} (h : XS M ty wr sk w u G j on rd) (k : ∀ M', FX M M' → XS M' ty wr sk w u G j on rd → K (deS (prG G ty) p1) M') : zCi B zy_X8_depth 68 0 0 [zR 0, zI p1] M K := by
  refine e_X8_depth (fun n0 => b_X8_depth_0 ?_)
  refine m_X8_hasNode h (fun M' f hx he => ?_) (fun L hp q1 q2 M' f hx ht hw => ?_)
  · have := k M' f hx
    rw [he.2] at this
    apply b_X8_depth_5
    case k1 => rw [if_pos rfl]; exact this
    all_goals (intro q; exact absurd rfl q)
  · have h2 := k M' f hx
    rw [hp] at h2
    unfold deS at h2
    dsimp only at h2
    rw [if_pos ⟨q1, q2⟩] at h2
    have hat := ht.at (show p1.toNat < L.length by omega)
    have h60 := ht.2.1
    apply b_X8_depth_5
    case k1 => rw [if_neg (by decide), hat.2.2.2.2.1]; exact h2
    all_goals (intro _; omega)
/-- ended: 0 or 1 -/
theorem askS_en {oc : List Int → Int} {s : List Int} (h : j.2.2.2.2 = 0 ∨ j.2.2.2.2 = 1) : (askS on oc j s).2.2.2.2.2 = 0 ∨ (askS on oc j s).2.2.2.2.2 = 1 := by
  unfold askS
  split
  · exact h
  · split
    · exact h
    · split
      · exact Or.inr rfl
      · exact h
theorem tkS_en {oc : List Int → Int} {b : List Int} {n : Int} {al : Bool} : ∀ (m : Nat) (p : Int) (z : LSt), (z.2.2.2.2.2.2.2 = 0 ∨ z.2.2.2.2.2.2.2 = 1) → ((tkS on oc b n al m p z).2.2.2.2.2.2.2.2 = 0 ∨ (tkS on oc b n al m p z).2.2.2.2.2.2.2.2 = 1) := by
  intro m
  induction m with
  | zero => intro p z h; exact h
  | succ m ih =>
    intro p z h
    unfold tkS
    split
    · exact h
    · split
      · exact askS_en h
      · exact ih (p + 1) (z.1, z.2.1, z.2.2.1, (askS on oc z.2.2.2 (mskT b (thS z.1 z.2.1 (parF n z.1.length p) (parF n z.1.length (p + 1)) al))).2) (askS_en h)
theorem trS_en {oc : List Int → Int} {b : List Int} {n : Int} {al go : Bool} {z : LSt} (h : z.2.2.2.2.2.2.2 = 0 ∨ z.2.2.2.2.2.2.2 = 1) : (trS on oc b n al go z).2.2.2.2.2.2.2.2 = 0 ∨ (trS on oc b n al go z).2.2.2.2.2.2.2.2 = 1 := by
  unfold trS
  split
  · exact tkS_en _ _ z h
  · exact h
theorem leS_en {oc : List Int → Int} {b : List Int} : ∀ (f : Nat) (n : Int) (z : LSt), (z.2.2.2.2.2.2.2 = 0 ∨ z.2.2.2.2.2.2.2 = 1) → ((leS on oc b f n z).2.2.2.2.2.2.2 = 0 ∨ (leS on oc b f n z).2.2.2.2.2.2.2 = 1) := by
  intro f
  induction f with
  | zero => intro n z h; exact h
  | succ f ih =>
    intro n z h
    unfold leS
    split
    · exact h
    · split
      · exact ih _ _ (trS_en h)
      · split
        · exact ih _ _ (trS_en (trS_en h))
        · split
          · exact trS_en (trS_en h)
          · exact ih _ _ (trS_en (trS_en h))
theorem lvS_en {oc : List Int → Int} {b : List Int} {L : List nd} : ∀ (m : Nat) (d : Int) (av : Nat → Bool) (z : (Nat → Bool) × List Int × JS), (z.2.2.2.2.2.2 = 0 ∨ z.2.2.2.2.2.2 = 1) → ((lvS on oc b L m d av z).2.2.2.2.2.2 = 0 ∨ (lvS on oc b L m d av z).2.2.2.2.2.2 = 1) := by
  intro m
  induction m with
  | zero => intro d av z h; exact h
  | succ m ih =>
    intro d av z h
    unfold lvS
    split
    · exact h
    · exact ih _ _ _ (leS_en 5000 _ (lvU L av d (L.length - 1) 1, z) h)
theorem blS_en {oc : List Int → Int} {ps : List Int → Option (List nd)} {again : Bool} : ∀ (f : Nat) (ty : List Int) (j : JS), (j.2.2.2.2 = 0 ∨ j.2.2.2.2 = 1) → ((blS on oc ps again f ty j).2.2.2.2.2 = 0 ∨ (blS on oc ps again f ty j).2.2.2.2.2 = 1) := by
  intro f
  induction f with
  | zero => intro ty j h; exact h
  | succ f ih =>
    intro ty j h
    unfold blS
    split
    · exact h
    · next L _ =>
      have h2 : (l1S on oc L ty j).2.2.2.2.2 = 0 ∨ (l1S on oc L ty j).2.2.2.2.2 = 1 := lvS_en _ _ _ (fun _ => true, ty, j) h
      split
      · exact ih _ _ h2
      · exact h2
theorem tmS_en {oc : List Int → Int} {ps : List Int → Option (List nd)} {ty : List Int} {L : List nd} {i : Nat} : ∀ (m x : Nat) (j : JS), (j.2.2.2.2 = 0 ∨ j.2.2.2.2 = 1) → ((tmS on oc ps ty L i m x j).2.2.2.2.2.2 = 0 ∨ (tmS on oc ps ty L i m x j).2.2.2.2.2.2 = 1) := by
  intro m
  induction m with
  | zero => intro x j h; exact h
  | succ m ih =>
    intro x j h
    unfold tmS
    split
    · exact h
    · split
      · split
        · exact askS_en h
        · exact ih _ _ (askS_en h)
      · exact ih _ _ h
theorem bmS_en {oc : List Int → Int} {ps : List Int → Option (List nd)} : ∀ (f : Nat) (L : List nd) (v : Int) (i : Nat) (ty : List Int) (j : JS), (j.2.2.2.2 = 0 ∨ j.2.2.2.2 = 1) → ((bmS on oc ps f L v i ty j).2.2.2.2.2 = 0 ∨ (bmS on oc ps f L v i ty j).2.2.2.2.2 = 1) := by
  intro f
  induction f with
  | zero => intro L v i ty j h; exact h
  | succ f ih =>
    intro L v i ty j h
    unfold bmS
    split
    · exact h
    · split
      · exact ih _ _ _ _ _ h
      · split
        · split
          · exact ih _ _ _ _ _ (tmS_en _ _ _ h)
          · exact ih _ _ _ _ _ (tmS_en _ _ _ h)
        · exact ih _ _ _ _ _ h
theorem rdS_en {oc : List Int → Int} {ps : List Int → Option (List nd)} {kind most : Int} {ty : List Int} : (rdS on oc ps kind most ty j).2.2.2.2.2 = 0 ∨ (rdS on oc ps kind most ty j).2.2.2.2.2 = 1 := by
  unfold rdS
  split
  · exact leS_en 5000 _ (sgU (decide (kind = 1)) ty ty.length 1 0, fun _ => true, ty, (j.1, most, j.2.2.1, j.2.2.2.1, 0)) (Or.inl rfl)
  · split
    · exact blS_en _ _ _ (Or.inl rfl)
    · exact bmS_en _ _ _ _ _ _ (Or.inl rfl)
end FN
