theorem p_X8_isTextSign {B : zB} {K : Int → zM → Prop} {M : zM} {p1 : Int} (k : K (if isTx p1 = true then 1 else 0) M) : zCi B zy_X8_isTextSign 1 0 0 [zI p1] M K := by
  refine e_X8_isTextSign (fun n0 => b_X8_isTextSign_0 ?_)
  rw [zifc (Q := isTx p1 = true) (by rw [isTx_iff]; omega)]
  exact k
theorem p_X9_isText {B : zB} {K : Int → zM → Prop} {M : zM} {p1 : Int} (k : K (if isTx p1 = true then 1 else 0) M) : zCi B zy_X9_isText 1 0 0 [zI p1] M K := by
  refine e_X9_isText (fun n0 => b_X9_isText_0 ?_)
  rw [zifc (Q := isTx p1 = true) (by rw [isTx_iff]; omega)]
  exact k
theorem p_X8_isName {B : zB} {K : Int → zM → Prop} {M : zM} {p1 : Int} (k : K (if isNm p1 = true then 1 else 0) M) : zCi B zy_X8_isName 1 0 0 [zI p1] M K := by
  refine e_X8_isName (fun n0 => b_X8_isName_0 ?_)
  rw [zifc (Q := isNm p1 = true) (by rw [isNm_iff])]
  exact k
theorem p_X9_isName {B : zB} {K : Int → zM → Prop} {M : zM} {p1 : Int} (k : K (if isNm p1 = true then 1 else 0) M) : zCi B zy_X9_isName 1 0 0 [zI p1] M K := by
  refine e_X9_isName (fun n0 => b_X9_isName_0 ?_)
  rw [zifc (Q := isNm p1 = true) (by rw [isNm_iff])]
  exact k
theorem p_X8_isTail {B : zB} {K : Int → zM → Prop} {M : zM} {p1 : Int} (k : K (if isTl p1 = true then 1 else 0) M) : zCi B zy_X8_isTail 1 0 0 [zI p1] M K := by
  refine e_X8_isTail (fun n0 => b_X8_isTail_0 ?_)
  rw [zifc (Q := isTl p1 = true) (by rw [isTl_iff])]
  exact k
theorem RX.it {M : zM} {g : zG} (h : RX M g) {p : Int} (hp : 0 ≤ p ∧ p < gN g) : gi M 8 8 = gN g ∧ gi M 10 p.toNat = gI g p.toNat ∧ gi M 11 p.toNat = (if gS g p.toNat = 0 then 32 else gS g p.toNat) ∧ gi M 12 p.toNat = nm (gI g p.toNat) :=
  ⟨h.1, h.2.2.1 p.toNat (by omega)⟩
theorem WG.sg {g : zG} (h : WG g) {p : Int} (hp : 0 ≤ p ∧ p < gN g) : (isTx (gI g p.toNat) = true ∨ isNm (gI g p.toNat) = true) ∧ (gS g p.toNat = 0 ∨ gS g p.toNat = 63 ∨ gS g p.toNat = 42 ∨ gS g p.toNat = 43) := h.2.2.1 p.toNat (by omega)
theorem RX.ru {M : zM} {g : zG} (h : RX M g) {p : Int} (hp : 0 ≤ p ∧ p < 6) : gi M 16 p.toNat = (if gR g p.toNat < 0 then 0 else 1) ∧ (0 ≤ gR g p.toNat → gi M 14 p.toNat = gR g p.toNat ∧ gi M 15 p.toNat = gE g p.toNat) := h.2.2.2.2 p.toNat (by omega)
theorem p_X0_firstOf {B : zB} {K : Int → zM → Prop} {M : zM} {p1 : Int} {g : zG} (hx : RX M g) (hp : 0 ≤ p1 ∧ p1 < 6) (k : K (if gR g p1.toNat < 0 then 0 else gR g p1.toNat) M) : zCi B zy_X0_firstOf 1 0 0 [zR 8, zI p1] M K := by
  refine e_X0_firstOf (fun n0 => ?_)
  apply b_X0_firstOf_0
  all_goals (try (intros; omega))
  have h := hx.ru hp
  rw [if_neg (by omega), if_neg (by omega), h.1]
  by_cases e : gR g p1.toNat < 0
  · rw [if_pos e] at k ⊢; simpa using k
  · rw [if_neg e] at k ⊢
    rw [if_neg (by decide), (h.2 (by omega)).1]; exact k
theorem p_X0_endOf {B : zB} {K : Int → zM → Prop} {M : zM} {p1 : Int} {g : zG} (hx : RX M g) (hp : 0 ≤ p1 ∧ p1 < 6) (k : K (if gR g p1.toNat < 0 then 0 else gE g p1.toNat) M) : zCi B zy_X0_endOf 1 0 0 [zR 8, zI p1] M K := by
  refine e_X0_endOf (fun n0 => ?_)
  apply b_X0_endOf_0
  all_goals (try (intros; omega))
  have h := hx.ru hp
  rw [if_neg (by omega), if_neg (by omega), h.1]
  by_cases e : gR g p1.toNat < 0
  · rw [if_pos e] at k ⊢; simpa using k
  · rw [if_neg e] at k ⊢
    rw [if_neg (by decide), (h.2 (by omega)).2]; exact k
theorem p_X0_firstItemOf {B : zB} {K : Int → zM → Prop} {M : zM} {p1 : Int} {g : zG} (hx : RX M g) (hw : WG g) (hp : 0 ≤ p1 ∧ p1 < gA g) (k : K (gF g p1.toNat) M) : zCi B zy_X0_firstItemOf 1 0 0 [zR 8, zI p1] M K := by
  have h1 := hx.2.1
  have h2 := hw.2.1
  refine e_X0_firstItemOf (fun n0 => ?_)
  apply b_X0_firstItemOf_0
  all_goals (try (intros; omega))
  rw [if_neg (by omega), if_pos (by omega), hx.2.2.2.1 _ (by omega)]
  exact k
theorem p_X0_endItemOf {B : zB} {K : Int → zM → Prop} {M : zM} {p1 : Int} {g : zG} (hx : RX M g) (hw : WG g) (hp : 0 ≤ p1 ∧ p1 < gA g) (k : K (gF g (p1.toNat + 1)) M) : zCi B zy_X0_endItemOf 1 0 0 [zR 8, zI p1] M K := by
  have h1 := hx.2.1
  have h2 := hw.2.1
  refine e_X0_endItemOf (fun n0 => ?_)
  apply b_X0_endItemOf_0
  all_goals (try (intros; omega))
  rw [if_neg (by omega), if_pos (by omega), hx.2.2.2.1 _ (by omega), toNat_succ hp.1]
  exact k
theorem p_X0_whatOf {B : zB} {K : Int → zM → Prop} {M : zM} {p1 : Int} {g : zG} (hx : RX M g) (hw : WG g) (hp : 0 ≤ p1 ∧ p1 < gN g) (k : K (gI g p1.toNat) M) : zCi B zy_X0_whatOf 1 0 0 [zR 8, zI p1] M K := by
  have h1 := hx.it hp
  have h2 := hw.1
  have h3 := (hw.sg hp).1
  rw [isTx_iff, isNm_iff] at h3
  have e : (if p1 < 0 then 32 else (if p1 < (gi M 8 8) then gi M 10 p1.toNat else 32)) = gI g p1.toNat := by
    rw [if_neg (by omega), if_pos (by omega), h1.2.1]
  refine e_X0_whatOf (fun n0 => ?_)
  apply b_X0_whatOf_0
  case k1 => rw [e]; exact k
  case c2 => rw [e]; omega
  all_goals (try (intros; omega))
theorem p_X0_ruleOf {B : zB} {K : Int → zM → Prop} {M : zM} {p1 : Int} {g : zG} (hx : RX M g) (hw : WG g) (hp : 0 ≤ p1 ∧ p1 < gN g) (k : K (nm (gI g p1.toNat)) M) : zCi B zy_X0_ruleOf 1 0 0 [zR 8, zI p1] M K := by
  have h1 := hx.it hp
  have h2 := hw.1
  refine e_X0_ruleOf (fun n0 => ?_)
  apply b_X0_ruleOf_0
  all_goals (try (intros; omega))
  rw [if_neg (by omega), if_pos (by omega), h1.2.2.2]
  exact k
theorem p_X0_hasTail {B : zB} {K : Int → zM → Prop} {M : zM} {p1 : Int} {g : zG} (hx : RX M g) (hw : WG g) (hp : 0 ≤ p1 ∧ p1 < gN g) (k : K (if ¬ gS g p1.toNat = 0 then 1 else 0) M) : zCi B zy_X0_hasTail 1 0 0 [zR 8, zI p1] M K := by
  have h1 := hx.it hp
  have h2 := hw.1
  have h3 := (hw.sg hp).2
  refine e_X0_hasTail (fun n0 => ?_)
  apply b_X0_hasTail_0
  all_goals (try (intros; omega))
  rw [zifc (Q := ¬ gS g p1.toNat = 0) (by rw [h1.2.2.1]; split <;> omega)]
  exact k
theorem p_X0_hasStar {B : zB} {K : Int → zM → Prop} {M : zM} {p1 : Int} {g : zG} (hx : RX M g) (hw : WG g) (hp : 0 ≤ p1 ∧ p1 < gN g) (k : K (if gS g p1.toNat = 42 then 1 else 0) M) : zCi B zy_X0_hasStar 1 0 0 [zR 8, zI p1] M K := by
  have h1 := hx.it hp
  have h2 := hw.1
  have h3 := (hw.sg hp).2
  refine e_X0_hasStar (fun n0 => ?_)
  apply b_X0_hasStar_0
  all_goals (try (intros; omega))
  rw [zifc (Q := gS g p1.toNat = 42) (by rw [h1.2.2.1]; split <;> omega)]
  exact k
theorem p_X0_mayRepeat {B : zB} {K : Int → zM → Prop} {M : zM} {p1 : Int} {g : zG} (hx : RX M g) (hw : WG g) (hp : 0 ≤ p1 ∧ p1 < gN g) (k : K (if gS g p1.toNat = 42 ∨ gS g p1.toNat = 43 then 1 else 0) M) : zCi B zy_X0_mayRepeat 1 0 0 [zR 8, zI p1] M K := by
  have h1 := hx.it hp
  have h2 := hw.1
  have h3 := (hw.sg hp).2
  refine e_X0_mayRepeat (fun n0 => ?_)
  apply b_X0_mayRepeat_0
  all_goals (try (intros; omega))
  rw [zifc (Q := gS g p1.toNat = 42 ∨ gS g p1.toNat = 43) (by rw [h1.2.2.1]; split <;> omega)]
  exact k
theorem p_X0_mayBeLeftOut {B : zB} {K : Int → zM → Prop} {M : zM} {p1 : Int} {g : zG} (hx : RX M g) (hw : WG g) (hp : 0 ≤ p1 ∧ p1 < gN g) (k : K (if gS g p1.toNat = 42 ∨ gS g p1.toNat = 63 then 1 else 0) M) : zCi B zy_X0_mayBeLeftOut 1 0 0 [zR 8, zI p1] M K := by
  have h1 := hx.it hp
  have h2 := hw.1
  have h3 := (hw.sg hp).2
  refine e_X0_mayBeLeftOut (fun n0 => ?_)
  apply b_X0_mayBeLeftOut_0
  all_goals (try (intros; omega))
  rw [zifc (Q := gS g p1.toNat = 42 ∨ gS g p1.toNat = 63) (by rw [h1.2.2.1]; split <;> omega)]
  exact k
theorem p_X3_cellOf {B : zB} {K : Int → zM → Prop} {M : zM} {p1 p2 : Int} (hp : 0 ≤ p1 ∧ p1 < 6) (hq : 0 ≤ p2 ∧ p2 < 33) (k : K (p1 * 33 + p2) M) : zCi B zy_X3_cellOf 1 0 0 [zI p1, zI p2] M K := by
  refine e_X3_cellOf (fun n0 => ?_)
  apply b_X3_cellOf_0
  all_goals (try (intros; omega))
  rw [if_neg (by omega), if_neg (by omega), if_neg (by omega), if_pos (by omega)]
  exact k
