/-! ===== PRINTED BY wip/gen/lawgen.py: the cases of the law's switch ===== -/
section LC
variable {B : zB} {b L : Nat} {xs : Nat → Int32} {i : Int} {M : zM} {ce sl : Nat} {ty wr : List Int} {sk : List (List st3 × Int)} {w u : List st3} {G : Option GC} {j : JS} {on rd : Int}
theorem lc_type (h : XS M ty wr sk w u G j on rd) (h' : MS M ty wr sk w u G j on rd) (hi : 0 ≤ i ∧ i + 4 ≤ L) (hL : L ≤ 256) (hr : ce + 1 ≤ 600000 ∧ sl + 7 ≤ 7302250)
    (nx : ∀ M' ce' sl', LI M' → ce' ≤ ce + 1 → sl' ≤ sl + 7 → zW B (zLaw b L B.2.2.2 xs) 611 [some (zX b), some (zR 0), some (zR 45), some (zI i)] [] zA1 M' ce' sl') : zW B (zLaw b L B.2.2.2 xs) 124 [some (zX b), some (zR 0), some (zR 45), some (zI i)] [] zA1 M ce sl := by
  refine r_aload_n (i := 1) (dl dL_law_124) rfl rfl ?_
  refine r_aload_n (i := 0) (dl dL_law_125) rfl rfl ?_
  refine r_iload_n (i := 3) (dl dL_law_126) rfl rfl ?_
  refine r_iconst (dl dL_law_127) (by decide) ?_
  refine r_iadd (dl dL_law_128) (by omega) ?_
  refine r_sld (L := L) (xs := xs) rl_hX (dl dL_law_129) ⟨by omega, by omega⟩ ?_
  refine r_i2c (dl dL_law_130) ?_
  refine rl_cVi (y := zy_X8_type) (as := [zI ((xs (i + 1).toNat).toInt % 65536)]) (d := 2) (mc := 0) (ms := 0) dL_law_131 mf_X8_type mi_X8_type ml_L_13 rfl rfl rfl (by decide) rfl (Nat.le_of_ble_eq_true rfl) ⟨Nat.le_of_ble_eq_true rfl, Nat.le_of_ble_eq_true rfl⟩ ⟨by omega, by omega⟩ ?_
  refine m_X8_type h (fun q => ?_) (fun q q2 M1 f1 h1 => ?_)
  · refine r_aload_n (i := 2) (dl dL_law_134) rfl rfl ?_
    refine r_aload_n (i := 0) (dl dL_law_135) rfl rfl ?_
    refine r_iload_n (i := 3) (dl dL_law_136) rfl rfl ?_
    refine r_iconst (dl dL_law_137) (by decide) ?_
    refine r_iadd (dl dL_law_138) (by omega) ?_
    refine r_sld (L := L) (xs := xs) rl_hX (dl dL_law_139) ⟨by omega, by omega⟩ ?_
    refine r_i2c (dl dL_law_140) ?_
    refine rl_cVi (y := zy_X9_type) (as := [zI ((xs (i + 1).toNat).toInt % 65536)]) (d := 2) (mc := 0) (ms := 0) dL_law_141 mf_X9_type mi_X9_type ml_L_17 rfl rfl rfl (by decide) rfl (Nat.le_of_ble_eq_true rfl) ⟨Nat.le_of_ble_eq_true rfl, Nat.le_of_ble_eq_true rfl⟩ ⟨by omega, by omega⟩ ?_
    refine m_X9_type h' (fun _ => ?_) (fun a c => absurd ⟨a, c⟩ q)
    refine r_icmp_eq (tgt := 611) (dl dL_law_144) rfl (fun _ => ?_) (fun q => absurd rfl q)
    exact nx _ _ _ ⟨_, _, _, _, _, _, _, _, _, h, h'⟩ (by omega) (by omega)
  · have h1' := h'.fx f1
    refine r_aload_n (i := 2) (dl dL_law_134) rfl rfl ?_
    refine r_aload_n (i := 0) (dl dL_law_135) rfl rfl ?_
    refine r_iload_n (i := 3) (dl dL_law_136) rfl rfl ?_
    refine r_iconst (dl dL_law_137) (by decide) ?_
    refine r_iadd (dl dL_law_138) (by omega) ?_
    refine r_sld (L := L) (xs := xs) rl_hX (dl dL_law_139) ⟨by omega, by omega⟩ ?_
    refine r_i2c (dl dL_law_140) ?_
    refine rl_cVi (y := zy_X9_type) (as := [zI ((xs (i + 1).toNat).toInt % 65536)]) (d := 2) (mc := 0) (ms := 0) dL_law_141 mf_X9_type mi_X9_type ml_L_17 rfl rfl rfl (by decide) rfl (Nat.le_of_ble_eq_true rfl) ⟨Nat.le_of_ble_eq_true rfl, Nat.le_of_ble_eq_true rfl⟩ ⟨by omega, by omega⟩ ?_
    refine m_X9_type h1' (fun z => absurd ⟨q, q2⟩ z) (fun _ _ M2 f2 h2 => ?_)
    refine r_icmp_eq (tgt := 611) (dl dL_law_144) rfl (fun _ => ?_) (fun q => absurd rfl q)
    exact nx _ _ _ ⟨_, _, _, _, _, _, _, _, _, h1.fm f2, h2⟩ (by omega) (by omega)
theorem lc_clear (h : XS M ty wr sk w u G j on rd) (h' : MS M ty wr sk w u G j on rd) (hi : 0 ≤ i ∧ i + 4 ≤ L) (hL : L ≤ 256) (hr : ce + 1 ≤ 600000 ∧ sl + 7 ≤ 7302250)
    (nx : ∀ M' ce' sl', LI M' → ce' ≤ ce + 1 → sl' ≤ sl + 7 → zW B (zLaw b L B.2.2.2 xs) 611 [some (zX b), some (zR 0), some (zR 45), some (zI i)] [] zA1 M' ce' sl') : zW B (zLaw b L B.2.2.2 xs) 149 [some (zX b), some (zR 0), some (zR 45), some (zI i)] [] zA1 M ce sl := by
  refine r_aload_n (i := 1) (dl dL_law_149) rfl rfl ?_
  refine rl_cVv (y := zy_X8_clear) (as := []) (d := 1) (mc := 0) (ms := 0) dL_law_150 mf_X8_clear mi_X8_clear ml_L_18 rfl rfl rfl (by decide) rfl (Nat.le_of_ble_eq_true rfl) ⟨Nat.le_of_ble_eq_true rfl, Nat.le_of_ble_eq_true rfl⟩ ⟨by omega, by omega⟩ ?_
  refine m_X8_clear h (fun M1 f1 h1 => ?_)
  · have h1' := h'.fx f1
    refine r_aload_n (i := 2) (dl dL_law_153) rfl rfl ?_
    refine rl_cVv (y := zy_X9_clear) (as := []) (d := 1) (mc := 0) (ms := 0) dL_law_154 mf_X9_clear mi_X9_clear ml_L_21 rfl rfl rfl (by decide) rfl (Nat.le_of_ble_eq_true rfl) ⟨Nat.le_of_ble_eq_true rfl, Nat.le_of_ble_eq_true rfl⟩ ⟨by omega, by omega⟩ ?_
    refine m_X9_clear h1' (fun M2 f2 h2 => ?_)
    refine r_goto (tgt := 611) (dl dL_law_157) rfl ?_
    exact nx _ _ _ ⟨_, _, _, _, _, _, _, _, _, h1.fm f2, h2⟩ (by omega) (by omega)
theorem lc_write (h : XS M ty wr sk w u G j on rd) (h' : MS M ty wr sk w u G j on rd) (hi : 0 ≤ i ∧ i + 4 ≤ L) (hL : L ≤ 256) (hr : ce + 1 ≤ 600000 ∧ sl + 7 ≤ 7302250)
    (nx : ∀ M' ce' sl', LI M' → ce' ≤ ce + 1 → sl' ≤ sl + 7 → zW B (zLaw b L B.2.2.2 xs) 611 [some (zX b), some (zR 0), some (zR 45), some (zI i)] [] zA1 M' ce' sl') : zW B (zLaw b L B.2.2.2 xs) 160 [some (zX b), some (zR 0), some (zR 45), some (zI i)] [] zA1 M ce sl := by
  refine r_aload_n (i := 1) (dl dL_law_160) rfl rfl ?_
  refine r_aload_n (i := 0) (dl dL_law_161) rfl rfl ?_
  refine r_iload_n (i := 3) (dl dL_law_162) rfl rfl ?_
  refine r_iconst (dl dL_law_163) (by decide) ?_
  refine r_iadd (dl dL_law_164) (by omega) ?_
  refine r_sld (L := L) (xs := xs) rl_hX (dl dL_law_165) ⟨by omega, by omega⟩ ?_
  refine r_i2c (dl dL_law_166) ?_
  refine rl_cVi (y := zy_X8_write) (as := [zI ((xs (i + 1).toNat).toInt % 65536)]) (d := 3) (mc := 0) (ms := 0) dL_law_167 mf_X8_write mi_X8_write ml_L_22 rfl rfl rfl (by decide) rfl (Nat.le_of_ble_eq_true rfl) ⟨Nat.le_of_ble_eq_true rfl, Nat.le_of_ble_eq_true rfl⟩ ⟨by omega, by omega⟩ ?_
  refine m_X8_write h (fun q => ?_) (fun q q2 M1 f1 h1 => ?_)
  · refine r_aload_n (i := 2) (dl dL_law_170) rfl rfl ?_
    refine r_aload_n (i := 0) (dl dL_law_171) rfl rfl ?_
    refine r_iload_n (i := 3) (dl dL_law_172) rfl rfl ?_
    refine r_iconst (dl dL_law_173) (by decide) ?_
    refine r_iadd (dl dL_law_174) (by omega) ?_
    refine r_sld (L := L) (xs := xs) rl_hX (dl dL_law_175) ⟨by omega, by omega⟩ ?_
    refine r_i2c (dl dL_law_176) ?_
    refine rl_cVi (y := zy_X9_write) (as := [zI ((xs (i + 1).toNat).toInt % 65536)]) (d := 2) (mc := 0) (ms := 0) dL_law_177 mf_X9_write mi_X9_write ml_L_25 rfl rfl rfl (by decide) rfl (Nat.le_of_ble_eq_true rfl) ⟨Nat.le_of_ble_eq_true rfl, Nat.le_of_ble_eq_true rfl⟩ ⟨by omega, by omega⟩ ?_
    refine m_X9_write h' (fun _ => ?_) (fun a c => absurd ⟨a, c⟩ q)
    refine r_icmp_eq (tgt := 611) (dl dL_law_180) rfl (fun _ => ?_) (fun q => absurd rfl q)
    exact nx _ _ _ ⟨_, _, _, _, _, _, _, _, _, h, h'⟩ (by omega) (by omega)
  · have h1' := h'.fx f1
    refine r_aload_n (i := 2) (dl dL_law_170) rfl rfl ?_
    refine r_aload_n (i := 0) (dl dL_law_171) rfl rfl ?_
    refine r_iload_n (i := 3) (dl dL_law_172) rfl rfl ?_
    refine r_iconst (dl dL_law_173) (by decide) ?_
    refine r_iadd (dl dL_law_174) (by omega) ?_
    refine r_sld (L := L) (xs := xs) rl_hX (dl dL_law_175) ⟨by omega, by omega⟩ ?_
    refine r_i2c (dl dL_law_176) ?_
    refine rl_cVi (y := zy_X9_write) (as := [zI ((xs (i + 1).toNat).toInt % 65536)]) (d := 2) (mc := 0) (ms := 0) dL_law_177 mf_X9_write mi_X9_write ml_L_25 rfl rfl rfl (by decide) rfl (Nat.le_of_ble_eq_true rfl) ⟨Nat.le_of_ble_eq_true rfl, Nat.le_of_ble_eq_true rfl⟩ ⟨by omega, by omega⟩ ?_
    refine m_X9_write h1' (fun z => absurd ⟨q, q2⟩ z) (fun _ _ M2 f2 h2 => ?_)
    refine r_icmp_eq (tgt := 611) (dl dL_law_180) rfl (fun _ => ?_) (fun q => absurd rfl q)
    exact nx _ _ _ ⟨_, _, _, _, _, _, _, _, _, h1.fm f2, h2⟩ (by omega) (by omega)
theorem lc_read (h : XS M ty wr sk w u G j on rd) (h' : MS M ty wr sk w u G j on rd) (hi : 0 ≤ i ∧ i + 4 ≤ L) (hL : L ≤ 256) (hr : ce + 1 ≤ 600000 ∧ sl + 7 ≤ 7302250)
    (nx : ∀ M' ce' sl', LI M' → ce' ≤ ce + 1 → sl' ≤ sl + 7 → zW B (zLaw b L B.2.2.2 xs) 611 [some (zX b), some (zR 0), some (zR 45), some (zI i)] [] zA1 M' ce' sl') : zW B (zLaw b L B.2.2.2 xs) 185 [some (zX b), some (zR 0), some (zR 45), some (zI i)] [] zA1 M ce sl := by
  refine r_aload_n (i := 1) (dl dL_law_185) rfl rfl ?_
  refine rl_cVi (y := zy_X8_read) (as := []) (d := 6) (mc := 0) (ms := 0) dL_law_186 mf_X8_read mi_X8_read ml_L_26 rfl rfl rfl (by decide) rfl (Nat.le_of_ble_eq_true rfl) ⟨Nat.le_of_ble_eq_true rfl, Nat.le_of_ble_eq_true rfl⟩ ⟨by omega, by omega⟩ ?_
  refine m_X8_read h (fun M1 f1 h1 => ?_)
  · have h1' := h'.fx f1
    refine r_aload_n (i := 2) (dl dL_law_189) rfl rfl ?_
    refine rl_cVi (y := zy_X9_read) (as := []) (d := 4) (mc := 0) (ms := 0) dL_law_190 mf_X9_read mi_X9_read ml_L_30 rfl rfl rfl (by decide) rfl (Nat.le_of_ble_eq_true rfl) ⟨Nat.le_of_ble_eq_true rfl, Nat.le_of_ble_eq_true rfl⟩ ⟨by omega, by omega⟩ ?_
    refine m_X9_read h1' (fun M2 f2 h2 => ?_)
    refine r_icmp_eq (tgt := 611) (dl dL_law_193) rfl (fun _ => ?_) (fun q => absurd rfl q)
    exact nx _ _ _ ⟨_, _, _, _, _, _, _, _, _, h1.fm f2, h2⟩ (by omega) (by omega)
theorem lc_has (h : XS M ty wr sk w u G j on rd) (h' : MS M ty wr sk w u G j on rd) (hi : 0 ≤ i ∧ i + 4 ≤ L) (hL : L ≤ 256) (hr : ce + 1 ≤ 600000 ∧ sl + 7 ≤ 7302250)
    (nx : ∀ M' ce' sl', LI M' → ce' ≤ ce + 1 → sl' ≤ sl + 7 → zW B (zLaw b L B.2.2.2 xs) 611 [some (zX b), some (zR 0), some (zR 45), some (zI i)] [] zA1 M' ce' sl') : zW B (zLaw b L B.2.2.2 xs) 198 [some (zX b), some (zR 0), some (zR 45), some (zI i)] [] zA1 M ce sl := by
  refine r_aload_n (i := 1) (dl dL_law_198) rfl rfl ?_
  refine r_aload_n (i := 0) (dl dL_law_199) rfl rfl ?_
  refine r_iload_n (i := 3) (dl dL_law_200) rfl rfl ?_
  refine r_iconst (dl dL_law_201) (by decide) ?_
  refine r_iadd (dl dL_law_202) (by omega) ?_
  refine r_sld (L := L) (xs := xs) rl_hX (dl dL_law_203) ⟨by omega, by omega⟩ ?_
  refine r_i2c (dl dL_law_204) ?_
  refine r_aload_n (i := 0) (dl dL_law_205) rfl rfl ?_
  refine r_iload_n (i := 3) (dl dL_law_206) rfl rfl ?_
  refine r_iconst (dl dL_law_207) (by decide) ?_
  refine r_iadd (dl dL_law_208) (by omega) ?_
  refine r_sld (L := L) (xs := xs) rl_hX (dl dL_law_209) ⟨by omega, by omega⟩ ?_
  refine rl_cVi (y := zy_X8_has) (as := [zI ((xs (i + 1).toNat).toInt % 65536), zI ((xs (i + 2).toNat).toInt)]) (d := 2) (mc := 1) (ms := 7) dL_law_210 mf_X8_has mi_X8_has ml_L_31 rfl rfl rfl (by decide) rfl (Nat.le_of_ble_eq_true rfl) ⟨Nat.le_of_ble_eq_true rfl, Nat.le_of_ble_eq_true rfl⟩ ⟨by omega, by omega⟩ ?_
  refine m_X8_has h (fun q => ?_) (fun q M1 f1 h1 => ?_)
  · refine r_aload_n (i := 2) (dl dL_law_213) rfl rfl ?_
    refine r_aload_n (i := 0) (dl dL_law_214) rfl rfl ?_
    refine r_iload_n (i := 3) (dl dL_law_215) rfl rfl ?_
    refine r_iconst (dl dL_law_216) (by decide) ?_
    refine r_iadd (dl dL_law_217) (by omega) ?_
    refine r_sld (L := L) (xs := xs) rl_hX (dl dL_law_218) ⟨by omega, by omega⟩ ?_
    refine r_i2c (dl dL_law_219) ?_
    refine r_aload_n (i := 0) (dl dL_law_220) rfl rfl ?_
    refine r_iload_n (i := 3) (dl dL_law_221) rfl rfl ?_
    refine r_iconst (dl dL_law_222) (by decide) ?_
    refine r_iadd (dl dL_law_223) (by omega) ?_
    refine r_sld (L := L) (xs := xs) rl_hX (dl dL_law_224) ⟨by omega, by omega⟩ ?_
    refine rl_cVi (y := zy_X9_has) (as := [zI ((xs (i + 1).toNat).toInt % 65536), zI ((xs (i + 2).toNat).toInt)]) (d := 2) (mc := 0) (ms := 0) dL_law_225 mf_X9_has mi_X9_has ml_L_35 rfl rfl rfl (by decide) rfl (Nat.le_of_ble_eq_true rfl) ⟨Nat.le_of_ble_eq_true rfl, Nat.le_of_ble_eq_true rfl⟩ ⟨by omega, by omega⟩ ?_
    refine m_X9_has h' (fun _ => ?_) (fun a => absurd a q)
    refine r_icmp_eq (tgt := 611) (dl dL_law_228) rfl (fun _ => ?_) (fun q => absurd rfl q)
    exact nx _ _ _ ⟨_, _, _, _, _, _, _, _, _, h, h'⟩ (by omega) (by omega)
  · have h1' := h'.fx f1
    refine r_aload_n (i := 2) (dl dL_law_213) rfl rfl ?_
    refine r_aload_n (i := 0) (dl dL_law_214) rfl rfl ?_
    refine r_iload_n (i := 3) (dl dL_law_215) rfl rfl ?_
    refine r_iconst (dl dL_law_216) (by decide) ?_
    refine r_iadd (dl dL_law_217) (by omega) ?_
    refine r_sld (L := L) (xs := xs) rl_hX (dl dL_law_218) ⟨by omega, by omega⟩ ?_
    refine r_i2c (dl dL_law_219) ?_
    refine r_aload_n (i := 0) (dl dL_law_220) rfl rfl ?_
    refine r_iload_n (i := 3) (dl dL_law_221) rfl rfl ?_
    refine r_iconst (dl dL_law_222) (by decide) ?_
    refine r_iadd (dl dL_law_223) (by omega) ?_
    refine r_sld (L := L) (xs := xs) rl_hX (dl dL_law_224) ⟨by omega, by omega⟩ ?_
    refine rl_cVi (y := zy_X9_has) (as := [zI ((xs (i + 1).toNat).toInt % 65536), zI ((xs (i + 2).toNat).toInt)]) (d := 2) (mc := 0) (ms := 0) dL_law_225 mf_X9_has mi_X9_has ml_L_35 rfl rfl rfl (by decide) rfl (Nat.le_of_ble_eq_true rfl) ⟨Nat.le_of_ble_eq_true rfl, Nat.le_of_ble_eq_true rfl⟩ ⟨by omega, by omega⟩ ?_
    refine m_X9_has h1' (fun a => absurd q a) (fun _ M2 f2 h2 => ?_)
    refine r_icmp_eq (tgt := 611) (dl dL_law_228) rfl (fun _ => ?_) (fun q => absurd rfl q)
    exact nx _ _ _ ⟨_, _, _, _, _, _, _, _, _, h1.fm f2, h2⟩ (by omega) (by omega)
theorem lc_pair (h : XS M ty wr sk w u G j on rd) (h' : MS M ty wr sk w u G j on rd) (hi : 0 ≤ i ∧ i + 4 ≤ L) (hL : L ≤ 256) (hr : ce + 1 ≤ 600000 ∧ sl + 7 ≤ 7302250)
    (nx : ∀ M' ce' sl', LI M' → ce' ≤ ce + 1 → sl' ≤ sl + 7 → zW B (zLaw b L B.2.2.2 xs) 611 [some (zX b), some (zR 0), some (zR 45), some (zI i)] [] zA1 M' ce' sl') : zW B (zLaw b L B.2.2.2 xs) 233 [some (zX b), some (zR 0), some (zR 45), some (zI i)] [] zA1 M ce sl := by
  by_cases z : (xs (i + 3).toNat).toInt = 0
  · refine r_aload_n (i := 1) (dl dL_law_233) rfl rfl ?_
    refine r_aload_n (i := 0) (dl dL_law_234) rfl rfl ?_
    refine r_iload_n (i := 3) (dl dL_law_235) rfl rfl ?_
    refine r_iconst (dl dL_law_236) (by decide) ?_
    refine r_iadd (dl dL_law_237) (by omega) ?_
    refine r_sld (L := L) (xs := xs) rl_hX (dl dL_law_238) ⟨by omega, by omega⟩ ?_
    refine r_i2c (dl dL_law_239) ?_
    refine r_aload_n (i := 0) (dl dL_law_240) rfl rfl ?_
    refine r_iload_n (i := 3) (dl dL_law_241) rfl rfl ?_
    refine r_iconst (dl dL_law_242) (by decide) ?_
    refine r_iadd (dl dL_law_243) (by omega) ?_
    refine r_sld (L := L) (xs := xs) rl_hX (dl dL_law_244) ⟨by omega, by omega⟩ ?_
    refine r_i2c (dl dL_law_245) ?_
    refine r_aload_n (i := 0) (dl dL_law_246) rfl rfl ?_
    refine r_iload_n (i := 3) (dl dL_law_247) rfl rfl ?_
    refine r_iconst (dl dL_law_248) (by decide) ?_
    refine r_iadd (dl dL_law_249) (by omega) ?_
    refine r_sld (L := L) (xs := xs) rl_hX (dl dL_law_250) ⟨by omega, by omega⟩ ?_
    refine r_if_eq (tgt := 258) (dl dL_law_251) rfl (fun _ => ?_) (fun q => absurd z q)
    refine r_iconst (dl dL_law_258) (by decide) ?_
    refine rl_cVi (y := zy_X8_pair) (as := [zI ((xs (i + 1).toNat).toInt % 65536), zI ((xs (i + 2).toNat).toInt % 65536), zI 0]) (d := 2) (mc := 1) (ms := 7) dL_law_259 mf_X8_pair mi_X8_pair ml_L_36 rfl rfl rfl (by decide) rfl (Nat.le_of_ble_eq_true rfl) ⟨Nat.le_of_ble_eq_true rfl, Nat.le_of_ble_eq_true rfl⟩ ⟨by omega, by omega⟩ ?_
    refine m_X8_pair h (fun q => ?_) (fun q M1 f1 h1 => ?_)
    · refine r_aload_n (i := 2) (dl dL_law_262) rfl rfl ?_
      refine r_aload_n (i := 0) (dl dL_law_263) rfl rfl ?_
      refine r_iload_n (i := 3) (dl dL_law_264) rfl rfl ?_
      refine r_iconst (dl dL_law_265) (by decide) ?_
      refine r_iadd (dl dL_law_266) (by omega) ?_
      refine r_sld (L := L) (xs := xs) rl_hX (dl dL_law_267) ⟨by omega, by omega⟩ ?_
      refine r_i2c (dl dL_law_268) ?_
      refine r_aload_n (i := 0) (dl dL_law_269) rfl rfl ?_
      refine r_iload_n (i := 3) (dl dL_law_270) rfl rfl ?_
      refine r_iconst (dl dL_law_271) (by decide) ?_
      refine r_iadd (dl dL_law_272) (by omega) ?_
      refine r_sld (L := L) (xs := xs) rl_hX (dl dL_law_273) ⟨by omega, by omega⟩ ?_
      refine r_i2c (dl dL_law_274) ?_
      refine r_aload_n (i := 0) (dl dL_law_275) rfl rfl ?_
      refine r_iload_n (i := 3) (dl dL_law_276) rfl rfl ?_
      refine r_iconst (dl dL_law_277) (by decide) ?_
      refine r_iadd (dl dL_law_278) (by omega) ?_
      refine r_sld (L := L) (xs := xs) rl_hX (dl dL_law_279) ⟨by omega, by omega⟩ ?_
      refine r_if_eq (tgt := 287) (dl dL_law_280) rfl (fun _ => ?_) (fun q => absurd z q)
      refine r_iconst (dl dL_law_287) (by decide) ?_
      refine rl_cVi (y := zy_X9_pair) (as := [zI ((xs (i + 1).toNat).toInt % 65536), zI ((xs (i + 2).toNat).toInt % 65536), zI 0]) (d := 2) (mc := 0) (ms := 0) dL_law_288 mf_X9_pair mi_X9_pair ml_L_40 rfl rfl rfl (by decide) rfl (Nat.le_of_ble_eq_true rfl) ⟨Nat.le_of_ble_eq_true rfl, Nat.le_of_ble_eq_true rfl⟩ ⟨by omega, by omega⟩ ?_
      refine m_X9_pair h' (fun _ => ?_) (fun a => absurd a q)
      refine r_icmp_eq (tgt := 611) (dl dL_law_291) rfl (fun _ => ?_) (fun q => absurd rfl q)
      exact nx _ _ _ ⟨_, _, _, _, _, _, _, _, _, h, h'⟩ (by omega) (by omega)
    · have h1' := h'.fx f1
      refine r_aload_n (i := 2) (dl dL_law_262) rfl rfl ?_
      refine r_aload_n (i := 0) (dl dL_law_263) rfl rfl ?_
      refine r_iload_n (i := 3) (dl dL_law_264) rfl rfl ?_
      refine r_iconst (dl dL_law_265) (by decide) ?_
      refine r_iadd (dl dL_law_266) (by omega) ?_
      refine r_sld (L := L) (xs := xs) rl_hX (dl dL_law_267) ⟨by omega, by omega⟩ ?_
      refine r_i2c (dl dL_law_268) ?_
      refine r_aload_n (i := 0) (dl dL_law_269) rfl rfl ?_
      refine r_iload_n (i := 3) (dl dL_law_270) rfl rfl ?_
      refine r_iconst (dl dL_law_271) (by decide) ?_
      refine r_iadd (dl dL_law_272) (by omega) ?_
      refine r_sld (L := L) (xs := xs) rl_hX (dl dL_law_273) ⟨by omega, by omega⟩ ?_
      refine r_i2c (dl dL_law_274) ?_
      refine r_aload_n (i := 0) (dl dL_law_275) rfl rfl ?_
      refine r_iload_n (i := 3) (dl dL_law_276) rfl rfl ?_
      refine r_iconst (dl dL_law_277) (by decide) ?_
      refine r_iadd (dl dL_law_278) (by omega) ?_
      refine r_sld (L := L) (xs := xs) rl_hX (dl dL_law_279) ⟨by omega, by omega⟩ ?_
      refine r_if_eq (tgt := 287) (dl dL_law_280) rfl (fun _ => ?_) (fun q => absurd z q)
      refine r_iconst (dl dL_law_287) (by decide) ?_
      refine rl_cVi (y := zy_X9_pair) (as := [zI ((xs (i + 1).toNat).toInt % 65536), zI ((xs (i + 2).toNat).toInt % 65536), zI 0]) (d := 2) (mc := 0) (ms := 0) dL_law_288 mf_X9_pair mi_X9_pair ml_L_40 rfl rfl rfl (by decide) rfl (Nat.le_of_ble_eq_true rfl) ⟨Nat.le_of_ble_eq_true rfl, Nat.le_of_ble_eq_true rfl⟩ ⟨by omega, by omega⟩ ?_
      refine m_X9_pair h1' (fun a => absurd q a) (fun _ M2 f2 h2 => ?_)
      refine r_icmp_eq (tgt := 611) (dl dL_law_291) rfl (fun _ => ?_) (fun q => absurd rfl q)
      exact nx _ _ _ ⟨_, _, _, _, _, _, _, _, _, h1.fm f2, h2⟩ (by omega) (by omega)
  · refine r_aload_n (i := 1) (dl dL_law_233) rfl rfl ?_
    refine r_aload_n (i := 0) (dl dL_law_234) rfl rfl ?_
    refine r_iload_n (i := 3) (dl dL_law_235) rfl rfl ?_
    refine r_iconst (dl dL_law_236) (by decide) ?_
    refine r_iadd (dl dL_law_237) (by omega) ?_
    refine r_sld (L := L) (xs := xs) rl_hX (dl dL_law_238) ⟨by omega, by omega⟩ ?_
    refine r_i2c (dl dL_law_239) ?_
    refine r_aload_n (i := 0) (dl dL_law_240) rfl rfl ?_
    refine r_iload_n (i := 3) (dl dL_law_241) rfl rfl ?_
    refine r_iconst (dl dL_law_242) (by decide) ?_
    refine r_iadd (dl dL_law_243) (by omega) ?_
    refine r_sld (L := L) (xs := xs) rl_hX (dl dL_law_244) ⟨by omega, by omega⟩ ?_
    refine r_i2c (dl dL_law_245) ?_
    refine r_aload_n (i := 0) (dl dL_law_246) rfl rfl ?_
    refine r_iload_n (i := 3) (dl dL_law_247) rfl rfl ?_
    refine r_iconst (dl dL_law_248) (by decide) ?_
    refine r_iadd (dl dL_law_249) (by omega) ?_
    refine r_sld (L := L) (xs := xs) rl_hX (dl dL_law_250) ⟨by omega, by omega⟩ ?_
    refine r_if_eq (tgt := 258) (dl dL_law_251) rfl (fun q => absurd q z) (fun _ => ?_)
    refine r_iconst (dl dL_law_254) (by decide) ?_
    refine r_goto (tgt := 259) (dl dL_law_255) rfl ?_
    refine rl_cVi (y := zy_X8_pair) (as := [zI ((xs (i + 1).toNat).toInt % 65536), zI ((xs (i + 2).toNat).toInt % 65536), zI 1]) (d := 2) (mc := 1) (ms := 7) dL_law_259 mf_X8_pair mi_X8_pair ml_L_36 rfl rfl rfl (by decide) rfl (Nat.le_of_ble_eq_true rfl) ⟨Nat.le_of_ble_eq_true rfl, Nat.le_of_ble_eq_true rfl⟩ ⟨by omega, by omega⟩ ?_
    refine m_X8_pair h (fun q => ?_) (fun q M1 f1 h1 => ?_)
    · refine r_aload_n (i := 2) (dl dL_law_262) rfl rfl ?_
      refine r_aload_n (i := 0) (dl dL_law_263) rfl rfl ?_
      refine r_iload_n (i := 3) (dl dL_law_264) rfl rfl ?_
      refine r_iconst (dl dL_law_265) (by decide) ?_
      refine r_iadd (dl dL_law_266) (by omega) ?_
      refine r_sld (L := L) (xs := xs) rl_hX (dl dL_law_267) ⟨by omega, by omega⟩ ?_
      refine r_i2c (dl dL_law_268) ?_
      refine r_aload_n (i := 0) (dl dL_law_269) rfl rfl ?_
      refine r_iload_n (i := 3) (dl dL_law_270) rfl rfl ?_
      refine r_iconst (dl dL_law_271) (by decide) ?_
      refine r_iadd (dl dL_law_272) (by omega) ?_
      refine r_sld (L := L) (xs := xs) rl_hX (dl dL_law_273) ⟨by omega, by omega⟩ ?_
      refine r_i2c (dl dL_law_274) ?_
      refine r_aload_n (i := 0) (dl dL_law_275) rfl rfl ?_
      refine r_iload_n (i := 3) (dl dL_law_276) rfl rfl ?_
      refine r_iconst (dl dL_law_277) (by decide) ?_
      refine r_iadd (dl dL_law_278) (by omega) ?_
      refine r_sld (L := L) (xs := xs) rl_hX (dl dL_law_279) ⟨by omega, by omega⟩ ?_
      refine r_if_eq (tgt := 287) (dl dL_law_280) rfl (fun q => absurd q z) (fun _ => ?_)
      refine r_iconst (dl dL_law_283) (by decide) ?_
      refine r_goto (tgt := 288) (dl dL_law_284) rfl ?_
      refine rl_cVi (y := zy_X9_pair) (as := [zI ((xs (i + 1).toNat).toInt % 65536), zI ((xs (i + 2).toNat).toInt % 65536), zI 1]) (d := 2) (mc := 0) (ms := 0) dL_law_288 mf_X9_pair mi_X9_pair ml_L_40 rfl rfl rfl (by decide) rfl (Nat.le_of_ble_eq_true rfl) ⟨Nat.le_of_ble_eq_true rfl, Nat.le_of_ble_eq_true rfl⟩ ⟨by omega, by omega⟩ ?_
      refine m_X9_pair h' (fun _ => ?_) (fun a => absurd a q)
      refine r_icmp_eq (tgt := 611) (dl dL_law_291) rfl (fun _ => ?_) (fun q => absurd rfl q)
      exact nx _ _ _ ⟨_, _, _, _, _, _, _, _, _, h, h'⟩ (by omega) (by omega)
    · have h1' := h'.fx f1
      refine r_aload_n (i := 2) (dl dL_law_262) rfl rfl ?_
      refine r_aload_n (i := 0) (dl dL_law_263) rfl rfl ?_
      refine r_iload_n (i := 3) (dl dL_law_264) rfl rfl ?_
      refine r_iconst (dl dL_law_265) (by decide) ?_
      refine r_iadd (dl dL_law_266) (by omega) ?_
      refine r_sld (L := L) (xs := xs) rl_hX (dl dL_law_267) ⟨by omega, by omega⟩ ?_
      refine r_i2c (dl dL_law_268) ?_
      refine r_aload_n (i := 0) (dl dL_law_269) rfl rfl ?_
      refine r_iload_n (i := 3) (dl dL_law_270) rfl rfl ?_
      refine r_iconst (dl dL_law_271) (by decide) ?_
      refine r_iadd (dl dL_law_272) (by omega) ?_
      refine r_sld (L := L) (xs := xs) rl_hX (dl dL_law_273) ⟨by omega, by omega⟩ ?_
      refine r_i2c (dl dL_law_274) ?_
      refine r_aload_n (i := 0) (dl dL_law_275) rfl rfl ?_
      refine r_iload_n (i := 3) (dl dL_law_276) rfl rfl ?_
      refine r_iconst (dl dL_law_277) (by decide) ?_
      refine r_iadd (dl dL_law_278) (by omega) ?_
      refine r_sld (L := L) (xs := xs) rl_hX (dl dL_law_279) ⟨by omega, by omega⟩ ?_
      refine r_if_eq (tgt := 287) (dl dL_law_280) rfl (fun q => absurd q z) (fun _ => ?_)
      refine r_iconst (dl dL_law_283) (by decide) ?_
      refine r_goto (tgt := 288) (dl dL_law_284) rfl ?_
      refine rl_cVi (y := zy_X9_pair) (as := [zI ((xs (i + 1).toNat).toInt % 65536), zI ((xs (i + 2).toNat).toInt % 65536), zI 1]) (d := 2) (mc := 0) (ms := 0) dL_law_288 mf_X9_pair mi_X9_pair ml_L_40 rfl rfl rfl (by decide) rfl (Nat.le_of_ble_eq_true rfl) ⟨Nat.le_of_ble_eq_true rfl, Nat.le_of_ble_eq_true rfl⟩ ⟨by omega, by omega⟩ ?_
      refine m_X9_pair h1' (fun a => absurd q a) (fun _ M2 f2 h2 => ?_)
      refine r_icmp_eq (tgt := 611) (dl dL_law_291) rfl (fun _ => ?_) (fun q => absurd rfl q)
      exact nx _ _ _ ⟨_, _, _, _, _, _, _, _, _, h1.fm f2, h2⟩ (by omega) (by omega)
theorem lc_size (h : XS M ty wr sk w u G j on rd) (h' : MS M ty wr sk w u G j on rd) (hi : 0 ≤ i ∧ i + 4 ≤ L) (hL : L ≤ 256) (hr : ce + 1 ≤ 600000 ∧ sl + 7 ≤ 7302250)
    (nx : ∀ M' ce' sl', LI M' → ce' ≤ ce + 1 → sl' ≤ sl + 7 → zW B (zLaw b L B.2.2.2 xs) 611 [some (zX b), some (zR 0), some (zR 45), some (zI i)] [] zA1 M' ce' sl') : zW B (zLaw b L B.2.2.2 xs) 296 [some (zX b), some (zR 0), some (zR 45), some (zI i)] [] zA1 M ce sl := by
  refine r_aload_n (i := 1) (dl dL_law_296) rfl rfl ?_
  refine r_aload_n (i := 0) (dl dL_law_297) rfl rfl ?_
  refine r_iload_n (i := 3) (dl dL_law_298) rfl rfl ?_
  refine r_iconst (dl dL_law_299) (by decide) ?_
  refine r_iadd (dl dL_law_300) (by omega) ?_
  refine r_sld (L := L) (xs := xs) rl_hX (dl dL_law_301) ⟨by omega, by omega⟩ ?_
  refine rl_cVi (y := zy_X8_size) (as := [zI ((xs (i + 1).toNat).toInt)]) (d := 2) (mc := 1) (ms := 7) dL_law_302 mf_X8_size mi_X8_size ml_L_41 rfl rfl rfl (by decide) rfl (Nat.le_of_ble_eq_true rfl) ⟨Nat.le_of_ble_eq_true rfl, Nat.le_of_ble_eq_true rfl⟩ ⟨by omega, by omega⟩ ?_
  refine m_X8_size h (fun q => ?_) (fun q M1 f1 h1 => ?_)
  · refine r_aload_n (i := 2) (dl dL_law_305) rfl rfl ?_
    refine r_aload_n (i := 0) (dl dL_law_306) rfl rfl ?_
    refine r_iload_n (i := 3) (dl dL_law_307) rfl rfl ?_
    refine r_iconst (dl dL_law_308) (by decide) ?_
    refine r_iadd (dl dL_law_309) (by omega) ?_
    refine r_sld (L := L) (xs := xs) rl_hX (dl dL_law_310) ⟨by omega, by omega⟩ ?_
    refine rl_cVi (y := zy_X9_size) (as := [zI ((xs (i + 1).toNat).toInt)]) (d := 2) (mc := 0) (ms := 0) dL_law_311 mf_X9_size mi_X9_size ml_L_45 rfl rfl rfl (by decide) rfl (Nat.le_of_ble_eq_true rfl) ⟨Nat.le_of_ble_eq_true rfl, Nat.le_of_ble_eq_true rfl⟩ ⟨by omega, by omega⟩ ?_
    refine m_X9_size h' (fun _ => ?_) (fun a => absurd a q)
    refine r_icmp_eq (tgt := 611) (dl dL_law_314) rfl (fun _ => ?_) (fun q => absurd rfl q)
    exact nx _ _ _ ⟨_, _, _, _, _, _, _, _, _, h, h'⟩ (by omega) (by omega)
  · have h1' := h'.fx f1
    refine r_aload_n (i := 2) (dl dL_law_305) rfl rfl ?_
    refine r_aload_n (i := 0) (dl dL_law_306) rfl rfl ?_
    refine r_iload_n (i := 3) (dl dL_law_307) rfl rfl ?_
    refine r_iconst (dl dL_law_308) (by decide) ?_
    refine r_iadd (dl dL_law_309) (by omega) ?_
    refine r_sld (L := L) (xs := xs) rl_hX (dl dL_law_310) ⟨by omega, by omega⟩ ?_
    refine rl_cVi (y := zy_X9_size) (as := [zI ((xs (i + 1).toNat).toInt)]) (d := 2) (mc := 0) (ms := 0) dL_law_311 mf_X9_size mi_X9_size ml_L_45 rfl rfl rfl (by decide) rfl (Nat.le_of_ble_eq_true rfl) ⟨Nat.le_of_ble_eq_true rfl, Nat.le_of_ble_eq_true rfl⟩ ⟨by omega, by omega⟩ ?_
    refine m_X9_size h1' (fun a => absurd q a) (fun _ M2 f2 h2 => ?_)
    refine r_icmp_eq (tgt := 611) (dl dL_law_314) rfl (fun _ => ?_) (fun q => absurd rfl q)
    exact nx _ _ _ ⟨_, _, _, _, _, _, _, _, _, h1.fm f2, h2⟩ (by omega) (by omega)
theorem lc_not (h : XS M ty wr sk w u G j on rd) (h' : MS M ty wr sk w u G j on rd) (hi : 0 ≤ i ∧ i + 4 ≤ L) (hL : L ≤ 256) (hr : ce + 1 ≤ 600000 ∧ sl + 7 ≤ 7302250)
    (nx : ∀ M' ce' sl', LI M' → ce' ≤ ce + 1 → sl' ≤ sl + 7 → zW B (zLaw b L B.2.2.2 xs) 611 [some (zX b), some (zR 0), some (zR 45), some (zI i)] [] zA1 M' ce' sl') : zW B (zLaw b L B.2.2.2 xs) 319 [some (zX b), some (zR 0), some (zR 45), some (zI i)] [] zA1 M ce sl := by
  refine r_aload_n (i := 1) (dl dL_law_319) rfl rfl ?_
  refine rl_cVi (y := zy_X8_not) (as := []) (d := 2) (mc := 1) (ms := 7) dL_law_320 mf_X8_not mi_X8_not ml_L_46 rfl rfl rfl (by decide) rfl (Nat.le_of_ble_eq_true rfl) ⟨Nat.le_of_ble_eq_true rfl, Nat.le_of_ble_eq_true rfl⟩ ⟨by omega, by omega⟩ ?_
  refine m_X8_not h (fun q => ?_) (fun n t a c d M1 f1 h1 => ?_)
  · refine r_aload_n (i := 2) (dl dL_law_323) rfl rfl ?_
    refine rl_cVi (y := zy_X9_not) (as := []) (d := 1) (mc := 0) (ms := 0) dL_law_324 mf_X9_not mi_X9_not ml_L_50 rfl rfl rfl (by decide) rfl (Nat.le_of_ble_eq_true rfl) ⟨Nat.le_of_ble_eq_true rfl, Nat.le_of_ble_eq_true rfl⟩ ⟨by omega, by omega⟩ ?_
    refine m_X9_not h' (fun _ => ?_) (fun n t a c d => absurd d (q n t a c))
    refine r_icmp_eq (tgt := 611) (dl dL_law_327) rfl (fun _ => ?_) (fun q => absurd rfl q)
    exact nx _ _ _ ⟨_, _, _, _, _, _, _, _, _, h, h'⟩ (by omega) (by omega)
  · have h1' := h'.fx f1
    refine r_aload_n (i := 2) (dl dL_law_323) rfl rfl ?_
    refine rl_cVi (y := zy_X9_not) (as := []) (d := 1) (mc := 0) (ms := 0) dL_law_324 mf_X9_not mi_X9_not ml_L_50 rfl rfl rfl (by decide) rfl (Nat.le_of_ble_eq_true rfl) ⟨Nat.le_of_ble_eq_true rfl, Nat.le_of_ble_eq_true rfl⟩ ⟨by omega, by omega⟩ ?_
    refine m_X9_not h1' (fun z => absurd d (z n t a c)) (fun n' t' a' c' d' M2 f2 h2 => ?_)
    have en : n' = n := by omega
    subst en
    have et : t' = t := Option.some.inj (c'.symm.trans c)
    subst et
    refine r_icmp_eq (tgt := 611) (dl dL_law_327) rfl (fun _ => ?_) (fun q => absurd rfl q)
    exact nx _ _ _ ⟨_, _, _, _, _, _, _, _, _, h1.fm f2, h2⟩ (by omega) (by omega)
theorem lc_join (h : XS M ty wr sk w u G j on rd) (h' : MS M ty wr sk w u G j on rd) (hi : 0 ≤ i ∧ i + 4 ≤ L) (hL : L ≤ 256) (hr : ce + 1 ≤ 600000 ∧ sl + 7 ≤ 7302250)
    (nx : ∀ M' ce' sl', LI M' → ce' ≤ ce + 1 → sl' ≤ sl + 7 → zW B (zLaw b L B.2.2.2 xs) 611 [some (zX b), some (zR 0), some (zR 45), some (zI i)] [] zA1 M' ce' sl') : zW B (zLaw b L B.2.2.2 xs) 332 [some (zX b), some (zR 0), some (zR 45), some (zI i)] [] zA1 M ce sl := by
  by_cases z : (xs (i + 1).toNat).toInt = 0
  · refine r_aload_n (i := 1) (dl dL_law_332) rfl rfl ?_
    refine r_aload_n (i := 0) (dl dL_law_333) rfl rfl ?_
    refine r_iload_n (i := 3) (dl dL_law_334) rfl rfl ?_
    refine r_iconst (dl dL_law_335) (by decide) ?_
    refine r_iadd (dl dL_law_336) (by omega) ?_
    refine r_sld (L := L) (xs := xs) rl_hX (dl dL_law_337) ⟨by omega, by omega⟩ ?_
    refine r_if_eq (tgt := 345) (dl dL_law_338) rfl (fun _ => ?_) (fun q => absurd z q)
    refine r_iconst (dl dL_law_345) (by decide) ?_
    refine rl_cVi (y := zy_X8_join) (as := [zI 0]) (d := 2) (mc := 1) (ms := 7) dL_law_346 mf_X8_join mi_X8_join ml_L_51 rfl rfl rfl (by decide) rfl (Nat.le_of_ble_eq_true rfl) ⟨Nat.le_of_ble_eq_true rfl, Nat.le_of_ble_eq_true rfl⟩ ⟨by omega, by omega⟩ ?_
    refine m_X8_join h (fun q => ?_) (fun n x y a c c2 d M1 f1 h1 => ?_)
    · refine r_aload_n (i := 2) (dl dL_law_349) rfl rfl ?_
      refine r_aload_n (i := 0) (dl dL_law_350) rfl rfl ?_
      refine r_iload_n (i := 3) (dl dL_law_351) rfl rfl ?_
      refine r_iconst (dl dL_law_352) (by decide) ?_
      refine r_iadd (dl dL_law_353) (by omega) ?_
      refine r_sld (L := L) (xs := xs) rl_hX (dl dL_law_354) ⟨by omega, by omega⟩ ?_
      refine r_if_eq (tgt := 362) (dl dL_law_355) rfl (fun _ => ?_) (fun q => absurd z q)
      refine r_iconst (dl dL_law_362) (by decide) ?_
      refine rl_cVi (y := zy_X9_join) (as := [zI 0]) (d := 2) (mc := 0) (ms := 0) dL_law_363 mf_X9_join mi_X9_join ml_L_55 rfl rfl rfl (by decide) rfl (Nat.le_of_ble_eq_true rfl) ⟨Nat.le_of_ble_eq_true rfl, Nat.le_of_ble_eq_true rfl⟩ ⟨by omega, by omega⟩ ?_
      refine m_X9_join h' (fun _ => ?_) (fun n x y a c c2 d => absurd d (q n x y a c c2))
      refine r_icmp_eq (tgt := 611) (dl dL_law_366) rfl (fun _ => ?_) (fun q => absurd rfl q)
      exact nx _ _ _ ⟨_, _, _, _, _, _, _, _, _, h, h'⟩ (by omega) (by omega)
    · have h1' := h'.fx f1
      refine r_aload_n (i := 2) (dl dL_law_349) rfl rfl ?_
      refine r_aload_n (i := 0) (dl dL_law_350) rfl rfl ?_
      refine r_iload_n (i := 3) (dl dL_law_351) rfl rfl ?_
      refine r_iconst (dl dL_law_352) (by decide) ?_
      refine r_iadd (dl dL_law_353) (by omega) ?_
      refine r_sld (L := L) (xs := xs) rl_hX (dl dL_law_354) ⟨by omega, by omega⟩ ?_
      refine r_if_eq (tgt := 362) (dl dL_law_355) rfl (fun _ => ?_) (fun q => absurd z q)
      refine r_iconst (dl dL_law_362) (by decide) ?_
      refine rl_cVi (y := zy_X9_join) (as := [zI 0]) (d := 2) (mc := 0) (ms := 0) dL_law_363 mf_X9_join mi_X9_join ml_L_55 rfl rfl rfl (by decide) rfl (Nat.le_of_ble_eq_true rfl) ⟨Nat.le_of_ble_eq_true rfl, Nat.le_of_ble_eq_true rfl⟩ ⟨by omega, by omega⟩ ?_
      refine m_X9_join h1' (fun z => absurd d (z n x y a c c2)) (fun n' x' y' a' c' c2' d' M2 f2 h2 => ?_)
      have en : n' = n := by omega
      subst en
      have et : x' = x := Option.some.inj (c'.symm.trans c)
      subst et
      have et2 : y' = y := Option.some.inj (c2'.symm.trans c2)
      subst et2
      refine r_icmp_eq (tgt := 611) (dl dL_law_366) rfl (fun _ => ?_) (fun q => absurd rfl q)
      exact nx _ _ _ ⟨_, _, _, _, _, _, _, _, _, h1.fm f2, h2⟩ (by omega) (by omega)
  · refine r_aload_n (i := 1) (dl dL_law_332) rfl rfl ?_
    refine r_aload_n (i := 0) (dl dL_law_333) rfl rfl ?_
    refine r_iload_n (i := 3) (dl dL_law_334) rfl rfl ?_
    refine r_iconst (dl dL_law_335) (by decide) ?_
    refine r_iadd (dl dL_law_336) (by omega) ?_
    refine r_sld (L := L) (xs := xs) rl_hX (dl dL_law_337) ⟨by omega, by omega⟩ ?_
    refine r_if_eq (tgt := 345) (dl dL_law_338) rfl (fun q => absurd q z) (fun _ => ?_)
    refine r_iconst (dl dL_law_341) (by decide) ?_
    refine r_goto (tgt := 346) (dl dL_law_342) rfl ?_
    refine rl_cVi (y := zy_X8_join) (as := [zI 1]) (d := 2) (mc := 1) (ms := 7) dL_law_346 mf_X8_join mi_X8_join ml_L_51 rfl rfl rfl (by decide) rfl (Nat.le_of_ble_eq_true rfl) ⟨Nat.le_of_ble_eq_true rfl, Nat.le_of_ble_eq_true rfl⟩ ⟨by omega, by omega⟩ ?_
    refine m_X8_join h (fun q => ?_) (fun n x y a c c2 d M1 f1 h1 => ?_)
    · refine r_aload_n (i := 2) (dl dL_law_349) rfl rfl ?_
      refine r_aload_n (i := 0) (dl dL_law_350) rfl rfl ?_
      refine r_iload_n (i := 3) (dl dL_law_351) rfl rfl ?_
      refine r_iconst (dl dL_law_352) (by decide) ?_
      refine r_iadd (dl dL_law_353) (by omega) ?_
      refine r_sld (L := L) (xs := xs) rl_hX (dl dL_law_354) ⟨by omega, by omega⟩ ?_
      refine r_if_eq (tgt := 362) (dl dL_law_355) rfl (fun q => absurd q z) (fun _ => ?_)
      refine r_iconst (dl dL_law_358) (by decide) ?_
      refine r_goto (tgt := 363) (dl dL_law_359) rfl ?_
      refine rl_cVi (y := zy_X9_join) (as := [zI 1]) (d := 2) (mc := 0) (ms := 0) dL_law_363 mf_X9_join mi_X9_join ml_L_55 rfl rfl rfl (by decide) rfl (Nat.le_of_ble_eq_true rfl) ⟨Nat.le_of_ble_eq_true rfl, Nat.le_of_ble_eq_true rfl⟩ ⟨by omega, by omega⟩ ?_
      refine m_X9_join h' (fun _ => ?_) (fun n x y a c c2 d => absurd d (q n x y a c c2))
      refine r_icmp_eq (tgt := 611) (dl dL_law_366) rfl (fun _ => ?_) (fun q => absurd rfl q)
      exact nx _ _ _ ⟨_, _, _, _, _, _, _, _, _, h, h'⟩ (by omega) (by omega)
    · have h1' := h'.fx f1
      refine r_aload_n (i := 2) (dl dL_law_349) rfl rfl ?_
      refine r_aload_n (i := 0) (dl dL_law_350) rfl rfl ?_
      refine r_iload_n (i := 3) (dl dL_law_351) rfl rfl ?_
      refine r_iconst (dl dL_law_352) (by decide) ?_
      refine r_iadd (dl dL_law_353) (by omega) ?_
      refine r_sld (L := L) (xs := xs) rl_hX (dl dL_law_354) ⟨by omega, by omega⟩ ?_
      refine r_if_eq (tgt := 362) (dl dL_law_355) rfl (fun q => absurd q z) (fun _ => ?_)
      refine r_iconst (dl dL_law_358) (by decide) ?_
      refine r_goto (tgt := 363) (dl dL_law_359) rfl ?_
      refine rl_cVi (y := zy_X9_join) (as := [zI 1]) (d := 2) (mc := 0) (ms := 0) dL_law_363 mf_X9_join mi_X9_join ml_L_55 rfl rfl rfl (by decide) rfl (Nat.le_of_ble_eq_true rfl) ⟨Nat.le_of_ble_eq_true rfl, Nat.le_of_ble_eq_true rfl⟩ ⟨by omega, by omega⟩ ?_
      refine m_X9_join h1' (fun z => absurd d (z n x y a c c2)) (fun n' x' y' a' c' c2' d' M2 f2 h2 => ?_)
      have en : n' = n := by omega
      subst en
      have et : x' = x := Option.some.inj (c'.symm.trans c)
      subst et
      have et2 : y' = y := Option.some.inj (c2'.symm.trans c2)
      subst et2
      refine r_icmp_eq (tgt := 611) (dl dL_law_366) rfl (fun _ => ?_) (fun q => absurd rfl q)
      exact nx _ _ _ ⟨_, _, _, _, _, _, _, _, _, h1.fm f2, h2⟩ (by omega) (by omega)
theorem lc_mark (h : XS M ty wr sk w u G j on rd) (h' : MS M ty wr sk w u G j on rd) (hi : 0 ≤ i ∧ i + 4 ≤ L) (hL : L ≤ 256) (hr : ce + 1 ≤ 600000 ∧ sl + 7 ≤ 7302250)
    (nx : ∀ M' ce' sl', LI M' → ce' ≤ ce + 1 → sl' ≤ sl + 7 → zW B (zLaw b L B.2.2.2 xs) 611 [some (zX b), some (zR 0), some (zR 45), some (zI i)] [] zA1 M' ce' sl') : zW B (zLaw b L B.2.2.2 xs) 371 [some (zX b), some (zR 0), some (zR 45), some (zI i)] [] zA1 M ce sl := by
  by_cases z : (xs (i + 1).toNat).toInt = 0
  · refine r_aload_n (i := 1) (dl dL_law_371) rfl rfl ?_
    refine r_aload_n (i := 0) (dl dL_law_372) rfl rfl ?_
    refine r_iload_n (i := 3) (dl dL_law_373) rfl rfl ?_
    refine r_iconst (dl dL_law_374) (by decide) ?_
    refine r_iadd (dl dL_law_375) (by omega) ?_
    refine r_sld (L := L) (xs := xs) rl_hX (dl dL_law_376) ⟨by omega, by omega⟩ ?_
    refine r_if_eq (tgt := 384) (dl dL_law_377) rfl (fun _ => ?_) (fun q => absurd z q)
    refine r_iconst (dl dL_law_384) (by decide) ?_
    refine rl_cVi (y := zy_X8_mark) (as := [zI 0]) (d := 2) (mc := 0) (ms := 0) dL_law_385 mf_X8_mark mi_X8_mark ml_L_56 rfl rfl rfl (by decide) rfl (Nat.le_of_ble_eq_true rfl) ⟨Nat.le_of_ble_eq_true rfl, Nat.le_of_ble_eq_true rfl⟩ ⟨by omega, by omega⟩ ?_
    refine m_X8_mark h (fun q => ?_) (fun n t a c M1 f1 h1 => ?_)
    · refine r_aload_n (i := 2) (dl dL_law_388) rfl rfl ?_
      refine r_aload_n (i := 0) (dl dL_law_389) rfl rfl ?_
      refine r_iload_n (i := 3) (dl dL_law_390) rfl rfl ?_
      refine r_iconst (dl dL_law_391) (by decide) ?_
      refine r_iadd (dl dL_law_392) (by omega) ?_
      refine r_sld (L := L) (xs := xs) rl_hX (dl dL_law_393) ⟨by omega, by omega⟩ ?_
      refine r_if_eq (tgt := 401) (dl dL_law_394) rfl (fun _ => ?_) (fun q => absurd z q)
      refine r_iconst (dl dL_law_401) (by decide) ?_
      refine rl_cVi (y := zy_X9_mark) (as := [zI 0]) (d := 2) (mc := 0) (ms := 0) dL_law_402 mf_X9_mark mi_X9_mark ml_L_59 rfl rfl rfl (by decide) rfl (Nat.le_of_ble_eq_true rfl) ⟨Nat.le_of_ble_eq_true rfl, Nat.le_of_ble_eq_true rfl⟩ ⟨by omega, by omega⟩ ?_
      refine m_X9_mark h' (fun _ => ?_) (fun n t a _ => by rw [q] at a; cases a)
      refine r_icmp_eq (tgt := 611) (dl dL_law_405) rfl (fun _ => ?_) (fun q => absurd rfl q)
      exact nx _ _ _ ⟨_, _, _, _, _, _, _, _, _, h, h'⟩ (by omega) (by omega)
    · have h1' := h'.fx f1
      refine r_aload_n (i := 2) (dl dL_law_388) rfl rfl ?_
      refine r_aload_n (i := 0) (dl dL_law_389) rfl rfl ?_
      refine r_iload_n (i := 3) (dl dL_law_390) rfl rfl ?_
      refine r_iconst (dl dL_law_391) (by decide) ?_
      refine r_iadd (dl dL_law_392) (by omega) ?_
      refine r_sld (L := L) (xs := xs) rl_hX (dl dL_law_393) ⟨by omega, by omega⟩ ?_
      refine r_if_eq (tgt := 401) (dl dL_law_394) rfl (fun _ => ?_) (fun q => absurd z q)
      refine r_iconst (dl dL_law_401) (by decide) ?_
      refine rl_cVi (y := zy_X9_mark) (as := [zI 0]) (d := 2) (mc := 0) (ms := 0) dL_law_402 mf_X9_mark mi_X9_mark ml_L_59 rfl rfl rfl (by decide) rfl (Nat.le_of_ble_eq_true rfl) ⟨Nat.le_of_ble_eq_true rfl, Nat.le_of_ble_eq_true rfl⟩ ⟨by omega, by omega⟩ ?_
      refine m_X9_mark h1' (fun z => by rw [z] at a; cases a) (fun n' t' a' c' M2 f2 h2 => ?_)
      have en : n' = n := by omega
      subst en
      have et : t' = t := Option.some.inj (c'.symm.trans c)
      subst et
      refine r_icmp_eq (tgt := 611) (dl dL_law_405) rfl (fun _ => ?_) (fun q => absurd rfl q)
      exact nx _ _ _ ⟨_, _, _, _, _, _, _, _, _, h1.fm f2, h2⟩ (by omega) (by omega)
  · refine r_aload_n (i := 1) (dl dL_law_371) rfl rfl ?_
    refine r_aload_n (i := 0) (dl dL_law_372) rfl rfl ?_
    refine r_iload_n (i := 3) (dl dL_law_373) rfl rfl ?_
    refine r_iconst (dl dL_law_374) (by decide) ?_
    refine r_iadd (dl dL_law_375) (by omega) ?_
    refine r_sld (L := L) (xs := xs) rl_hX (dl dL_law_376) ⟨by omega, by omega⟩ ?_
    refine r_if_eq (tgt := 384) (dl dL_law_377) rfl (fun q => absurd q z) (fun _ => ?_)
    refine r_iconst (dl dL_law_380) (by decide) ?_
    refine r_goto (tgt := 385) (dl dL_law_381) rfl ?_
    refine rl_cVi (y := zy_X8_mark) (as := [zI 1]) (d := 2) (mc := 0) (ms := 0) dL_law_385 mf_X8_mark mi_X8_mark ml_L_56 rfl rfl rfl (by decide) rfl (Nat.le_of_ble_eq_true rfl) ⟨Nat.le_of_ble_eq_true rfl, Nat.le_of_ble_eq_true rfl⟩ ⟨by omega, by omega⟩ ?_
    refine m_X8_mark h (fun q => ?_) (fun n t a c M1 f1 h1 => ?_)
    · refine r_aload_n (i := 2) (dl dL_law_388) rfl rfl ?_
      refine r_aload_n (i := 0) (dl dL_law_389) rfl rfl ?_
      refine r_iload_n (i := 3) (dl dL_law_390) rfl rfl ?_
      refine r_iconst (dl dL_law_391) (by decide) ?_
      refine r_iadd (dl dL_law_392) (by omega) ?_
      refine r_sld (L := L) (xs := xs) rl_hX (dl dL_law_393) ⟨by omega, by omega⟩ ?_
      refine r_if_eq (tgt := 401) (dl dL_law_394) rfl (fun q => absurd q z) (fun _ => ?_)
      refine r_iconst (dl dL_law_397) (by decide) ?_
      refine r_goto (tgt := 402) (dl dL_law_398) rfl ?_
      refine rl_cVi (y := zy_X9_mark) (as := [zI 1]) (d := 2) (mc := 0) (ms := 0) dL_law_402 mf_X9_mark mi_X9_mark ml_L_59 rfl rfl rfl (by decide) rfl (Nat.le_of_ble_eq_true rfl) ⟨Nat.le_of_ble_eq_true rfl, Nat.le_of_ble_eq_true rfl⟩ ⟨by omega, by omega⟩ ?_
      refine m_X9_mark h' (fun _ => ?_) (fun n t a _ => by rw [q] at a; cases a)
      refine r_icmp_eq (tgt := 611) (dl dL_law_405) rfl (fun _ => ?_) (fun q => absurd rfl q)
      exact nx _ _ _ ⟨_, _, _, _, _, _, _, _, _, h, h'⟩ (by omega) (by omega)
    · have h1' := h'.fx f1
      refine r_aload_n (i := 2) (dl dL_law_388) rfl rfl ?_
      refine r_aload_n (i := 0) (dl dL_law_389) rfl rfl ?_
      refine r_iload_n (i := 3) (dl dL_law_390) rfl rfl ?_
      refine r_iconst (dl dL_law_391) (by decide) ?_
      refine r_iadd (dl dL_law_392) (by omega) ?_
      refine r_sld (L := L) (xs := xs) rl_hX (dl dL_law_393) ⟨by omega, by omega⟩ ?_
      refine r_if_eq (tgt := 401) (dl dL_law_394) rfl (fun q => absurd q z) (fun _ => ?_)
      refine r_iconst (dl dL_law_397) (by decide) ?_
      refine r_goto (tgt := 402) (dl dL_law_398) rfl ?_
      refine rl_cVi (y := zy_X9_mark) (as := [zI 1]) (d := 2) (mc := 0) (ms := 0) dL_law_402 mf_X9_mark mi_X9_mark ml_L_59 rfl rfl rfl (by decide) rfl (Nat.le_of_ble_eq_true rfl) ⟨Nat.le_of_ble_eq_true rfl, Nat.le_of_ble_eq_true rfl⟩ ⟨by omega, by omega⟩ ?_
      refine m_X9_mark h1' (fun z => by rw [z] at a; cases a) (fun n' t' a' c' M2 f2 h2 => ?_)
      have en : n' = n := by omega
      subst en
      have et : t' = t := Option.some.inj (c'.symm.trans c)
      subst et
      refine r_icmp_eq (tgt := 611) (dl dL_law_405) rfl (fun _ => ?_) (fun q => absurd rfl q)
      exact nx _ _ _ ⟨_, _, _, _, _, _, _, _, _, h1.fm f2, h2⟩ (by omega) (by omega)
theorem lc_remember (h : XS M ty wr sk w u G j on rd) (h' : MS M ty wr sk w u G j on rd) (hi : 0 ≤ i ∧ i + 4 ≤ L) (hL : L ≤ 256) (hr : ce + 1 ≤ 600000 ∧ sl + 7 ≤ 7302250)
    (nx : ∀ M' ce' sl', LI M' → ce' ≤ ce + 1 → sl' ≤ sl + 7 → zW B (zLaw b L B.2.2.2 xs) 611 [some (zX b), some (zR 0), some (zR 45), some (zI i)] [] zA1 M' ce' sl') : zW B (zLaw b L B.2.2.2 xs) 410 [some (zX b), some (zR 0), some (zR 45), some (zI i)] [] zA1 M ce sl := by
  by_cases z : (xs (i + 1).toNat).toInt = 0
  · refine r_aload_n (i := 1) (dl dL_law_410) rfl rfl ?_
    refine r_aload_n (i := 0) (dl dL_law_411) rfl rfl ?_
    refine r_iload_n (i := 3) (dl dL_law_412) rfl rfl ?_
    refine r_iconst (dl dL_law_413) (by decide) ?_
    refine r_iadd (dl dL_law_414) (by omega) ?_
    refine r_sld (L := L) (xs := xs) rl_hX (dl dL_law_415) ⟨by omega, by omega⟩ ?_
    refine r_if_eq (tgt := 423) (dl dL_law_416) rfl (fun _ => ?_) (fun q => absurd z q)
    refine r_iconst (dl dL_law_423) (by decide) ?_
    refine rl_cVv (y := zy_X8_remember) (as := [zI 0]) (d := 2) (mc := 0) (ms := 0) dL_law_424 mf_X8_remember mi_X8_remember ml_L_60 rfl rfl rfl (by decide) rfl (Nat.le_of_ble_eq_true rfl) ⟨Nat.le_of_ble_eq_true rfl, Nat.le_of_ble_eq_true rfl⟩ ⟨by omega, by omega⟩ ?_
    refine m_X8_remember (Or.inl rfl) h (fun M1 f1 h1 => ?_)
    · have h1' := h'.fx f1
      refine r_aload_n (i := 2) (dl dL_law_427) rfl rfl ?_
      refine r_aload_n (i := 0) (dl dL_law_428) rfl rfl ?_
      refine r_iload_n (i := 3) (dl dL_law_429) rfl rfl ?_
      refine r_iconst (dl dL_law_430) (by decide) ?_
      refine r_iadd (dl dL_law_431) (by omega) ?_
      refine r_sld (L := L) (xs := xs) rl_hX (dl dL_law_432) ⟨by omega, by omega⟩ ?_
      refine r_if_eq (tgt := 440) (dl dL_law_433) rfl (fun _ => ?_) (fun q => absurd z q)
      refine r_iconst (dl dL_law_440) (by decide) ?_
      refine rl_cVv (y := zy_X9_remember) (as := [zI 0]) (d := 1) (mc := 0) (ms := 0) dL_law_441 mf_X9_remember mi_X9_remember ml_L_64 rfl rfl rfl (by decide) rfl (Nat.le_of_ble_eq_true rfl) ⟨Nat.le_of_ble_eq_true rfl, Nat.le_of_ble_eq_true rfl⟩ ⟨by omega, by omega⟩ ?_
      refine m_X9_remember (Or.inl rfl) h1' (fun M2 f2 h2 => ?_)
      refine r_goto (tgt := 611) (dl dL_law_444) rfl ?_
      exact nx _ _ _ ⟨_, _, _, _, _, _, _, _, _, h1.fm f2, h2⟩ (by omega) (by omega)
  · refine r_aload_n (i := 1) (dl dL_law_410) rfl rfl ?_
    refine r_aload_n (i := 0) (dl dL_law_411) rfl rfl ?_
    refine r_iload_n (i := 3) (dl dL_law_412) rfl rfl ?_
    refine r_iconst (dl dL_law_413) (by decide) ?_
    refine r_iadd (dl dL_law_414) (by omega) ?_
    refine r_sld (L := L) (xs := xs) rl_hX (dl dL_law_415) ⟨by omega, by omega⟩ ?_
    refine r_if_eq (tgt := 423) (dl dL_law_416) rfl (fun q => absurd q z) (fun _ => ?_)
    refine r_iconst (dl dL_law_419) (by decide) ?_
    refine r_goto (tgt := 424) (dl dL_law_420) rfl ?_
    refine rl_cVv (y := zy_X8_remember) (as := [zI 1]) (d := 2) (mc := 0) (ms := 0) dL_law_424 mf_X8_remember mi_X8_remember ml_L_60 rfl rfl rfl (by decide) rfl (Nat.le_of_ble_eq_true rfl) ⟨Nat.le_of_ble_eq_true rfl, Nat.le_of_ble_eq_true rfl⟩ ⟨by omega, by omega⟩ ?_
    refine m_X8_remember (Or.inr rfl) h (fun M1 f1 h1 => ?_)
    · have h1' := h'.fx f1
      refine r_aload_n (i := 2) (dl dL_law_427) rfl rfl ?_
      refine r_aload_n (i := 0) (dl dL_law_428) rfl rfl ?_
      refine r_iload_n (i := 3) (dl dL_law_429) rfl rfl ?_
      refine r_iconst (dl dL_law_430) (by decide) ?_
      refine r_iadd (dl dL_law_431) (by omega) ?_
      refine r_sld (L := L) (xs := xs) rl_hX (dl dL_law_432) ⟨by omega, by omega⟩ ?_
      refine r_if_eq (tgt := 440) (dl dL_law_433) rfl (fun q => absurd q z) (fun _ => ?_)
      refine r_iconst (dl dL_law_436) (by decide) ?_
      refine r_goto (tgt := 441) (dl dL_law_437) rfl ?_
      refine rl_cVv (y := zy_X9_remember) (as := [zI 1]) (d := 1) (mc := 0) (ms := 0) dL_law_441 mf_X9_remember mi_X9_remember ml_L_64 rfl rfl rfl (by decide) rfl (Nat.le_of_ble_eq_true rfl) ⟨Nat.le_of_ble_eq_true rfl, Nat.le_of_ble_eq_true rfl⟩ ⟨by omega, by omega⟩ ?_
      refine m_X9_remember (Or.inr rfl) h1' (fun M2 f2 h2 => ?_)
      refine r_goto (tgt := 611) (dl dL_law_444) rfl ?_
      exact nx _ _ _ ⟨_, _, _, _, _, _, _, _, _, h1.fm f2, h2⟩ (by omega) (by omega)
theorem lc_outcome (h : XS M ty wr sk w u G j on rd) (h' : MS M ty wr sk w u G j on rd) (hi : 0 ≤ i ∧ i + 4 ≤ L) (hL : L ≤ 256) (hr : ce + 1 ≤ 600000 ∧ sl + 7 ≤ 7302250)
    (nx : ∀ M' ce' sl', LI M' → ce' ≤ ce + 1 → sl' ≤ sl + 7 → zW B (zLaw b L B.2.2.2 xs) 611 [some (zX b), some (zR 0), some (zR 45), some (zI i)] [] zA1 M' ce' sl') : zW B (zLaw b L B.2.2.2 xs) 447 [some (zX b), some (zR 0), some (zR 45), some (zI i)] [] zA1 M ce sl := by
  refine r_aload_n (i := 1) (dl dL_law_447) rfl rfl ?_
  refine rl_cVi (y := zy_X8_outcome) (as := []) (d := 11) (mc := 0) (ms := 0) dL_law_448 mf_X8_outcome mi_X8_outcome ml_L_65 rfl rfl rfl (by decide) rfl (Nat.le_of_ble_eq_true rfl) ⟨Nat.le_of_ble_eq_true rfl, Nat.le_of_ble_eq_true rfl⟩ ⟨by omega, by omega⟩ ?_
  refine m_X8_outcome h ?_
  · refine r_aload_n (i := 2) (dl dL_law_451) rfl rfl ?_
    refine rl_cVi (y := zy_X9_outcome) (as := []) (d := 4) (mc := 0) (ms := 0) dL_law_452 mf_X9_outcome mi_X9_outcome ml_L_68 rfl rfl rfl (by decide) rfl (Nat.le_of_ble_eq_true rfl) ⟨Nat.le_of_ble_eq_true rfl, Nat.le_of_ble_eq_true rfl⟩ ⟨by omega, by omega⟩ ?_
    refine m_X9_outcome h' (fun M2 f2 h2 => ?_)
    refine r_icmp_eq (tgt := 611) (dl dL_law_455) rfl (fun _ => ?_) (fun q => absurd rfl q)
    exact nx _ _ _ ⟨_, _, _, _, _, _, _, _, _, h.fm f2, h2⟩ (by omega) (by omega)
theorem lc_nodes (h : XS M ty wr sk w u G j on rd) (h' : MS M ty wr sk w u G j on rd) (hi : 0 ≤ i ∧ i + 4 ≤ L) (hL : L ≤ 256) (hr : ce + 1 ≤ 600000 ∧ sl + 7 ≤ 7302250)
    (nx : ∀ M' ce' sl', LI M' → ce' ≤ ce + 1 → sl' ≤ sl + 7 → zW B (zLaw b L B.2.2.2 xs) 611 [some (zX b), some (zR 0), some (zR 45), some (zI i)] [] zA1 M' ce' sl') : zW B (zLaw b L B.2.2.2 xs) 460 [some (zX b), some (zR 0), some (zR 45), some (zI i)] [] zA1 M ce sl := by
  refine r_aload_n (i := 1) (dl dL_law_460) rfl rfl ?_
  refine rl_cVi (y := zy_X8_nodes) (as := []) (d := 67) (mc := 0) (ms := 0) dL_law_461 mf_X8_nodes mi_X8_nodes ml_L_69 rfl rfl rfl (by decide) rfl (Nat.le_of_ble_eq_true rfl) ⟨Nat.le_of_ble_eq_true rfl, Nat.le_of_ble_eq_true rfl⟩ ⟨by omega, by omega⟩ ?_
  refine m_X8_nodes h (fun M1 f1 h1 => ?_)
  · have h1' := h'.fx f1
    refine r_aload_n (i := 2) (dl dL_law_464) rfl rfl ?_
    refine rl_cVi (y := zy_X9_nodes) (as := []) (d := 9) (mc := 0) (ms := 0) dL_law_465 mf_X9_nodes mi_X9_nodes ml_L_72 rfl rfl rfl (by decide) rfl (Nat.le_of_ble_eq_true rfl) ⟨Nat.le_of_ble_eq_true rfl, Nat.le_of_ble_eq_true rfl⟩ ⟨by omega, by omega⟩ ?_
    refine m_X9_nodes h1' (fun M2 f2 h2 => ?_)
    refine r_icmp_eq (tgt := 611) (dl dL_law_468) rfl (fun _ => ?_) (fun q => absurd rfl q)
    exact nx _ _ _ ⟨_, _, _, _, _, _, _, _, _, h1.fm f2, h2⟩ (by omega) (by omega)
theorem lc_node (h : XS M ty wr sk w u G j on rd) (h' : MS M ty wr sk w u G j on rd) (hi : 0 ≤ i ∧ i + 4 ≤ L) (hL : L ≤ 256) (hr : ce + 1 ≤ 600000 ∧ sl + 7 ≤ 7302250)
    (nx : ∀ M' ce' sl', LI M' → ce' ≤ ce + 1 → sl' ≤ sl + 7 → zW B (zLaw b L B.2.2.2 xs) 611 [some (zX b), some (zR 0), some (zR 45), some (zI i)] [] zA1 M' ce' sl') : zW B (zLaw b L B.2.2.2 xs) 473 [some (zX b), some (zR 0), some (zR 45), some (zI i)] [] zA1 M ce sl := by
  refine r_aload_n (i := 1) (dl dL_law_473) rfl rfl ?_
  refine r_aload_n (i := 0) (dl dL_law_474) rfl rfl ?_
  refine r_iload_n (i := 3) (dl dL_law_475) rfl rfl ?_
  refine r_iconst (dl dL_law_476) (by decide) ?_
  refine r_iadd (dl dL_law_477) (by omega) ?_
  refine r_sld (L := L) (xs := xs) rl_hX (dl dL_law_478) ⟨by omega, by omega⟩ ?_
  refine rl_cVi (y := zy_X8_node) (as := [zI ((xs (i + 1).toNat).toInt)]) (d := 68) (mc := 0) (ms := 0) dL_law_479 mf_X8_node mi_X8_node ml_L_73 rfl rfl rfl (by decide) rfl (Nat.le_of_ble_eq_true rfl) ⟨Nat.le_of_ble_eq_true rfl, Nat.le_of_ble_eq_true rfl⟩ ⟨by omega, by omega⟩ ?_
  refine m_X8_node h (fun M1 f1 h1 => ?_)
  · have h1' := h'.fx f1
    refine r_aload_n (i := 2) (dl dL_law_482) rfl rfl ?_
    refine r_aload_n (i := 0) (dl dL_law_483) rfl rfl ?_
    refine r_iload_n (i := 3) (dl dL_law_484) rfl rfl ?_
    refine r_iconst (dl dL_law_485) (by decide) ?_
    refine r_iadd (dl dL_law_486) (by omega) ?_
    refine r_sld (L := L) (xs := xs) rl_hX (dl dL_law_487) ⟨by omega, by omega⟩ ?_
    refine rl_cVi (y := zy_X9_node) (as := [zI ((xs (i + 1).toNat).toInt)]) (d := 9) (mc := 0) (ms := 0) dL_law_488 mf_X9_node mi_X9_node ml_L_77 rfl rfl rfl (by decide) rfl (Nat.le_of_ble_eq_true rfl) ⟨Nat.le_of_ble_eq_true rfl, Nat.le_of_ble_eq_true rfl⟩ ⟨by omega, by omega⟩ ?_
    refine m_X9_node h1' (fun M2 f2 h2 => ?_)
    refine r_icmp_eq (tgt := 611) (dl dL_law_491) rfl (fun _ => ?_) (fun q => absurd rfl q)
    exact nx _ _ _ ⟨_, _, _, _, _, _, _, _, _, h1.fm f2, h2⟩ (by omega) (by omega)
theorem lc_depth (h : XS M ty wr sk w u G j on rd) (h' : MS M ty wr sk w u G j on rd) (hi : 0 ≤ i ∧ i + 4 ≤ L) (hL : L ≤ 256) (hr : ce + 1 ≤ 600000 ∧ sl + 7 ≤ 7302250)
    (nx : ∀ M' ce' sl', LI M' → ce' ≤ ce + 1 → sl' ≤ sl + 7 → zW B (zLaw b L B.2.2.2 xs) 611 [some (zX b), some (zR 0), some (zR 45), some (zI i)] [] zA1 M' ce' sl') : zW B (zLaw b L B.2.2.2 xs) 496 [some (zX b), some (zR 0), some (zR 45), some (zI i)] [] zA1 M ce sl := by
  refine r_aload_n (i := 1) (dl dL_law_496) rfl rfl ?_
  refine r_aload_n (i := 0) (dl dL_law_497) rfl rfl ?_
  refine r_iload_n (i := 3) (dl dL_law_498) rfl rfl ?_
  refine r_iconst (dl dL_law_499) (by decide) ?_
  refine r_iadd (dl dL_law_500) (by omega) ?_
  refine r_sld (L := L) (xs := xs) rl_hX (dl dL_law_501) ⟨by omega, by omega⟩ ?_
  refine rl_cVi (y := zy_X8_depth) (as := [zI ((xs (i + 1).toNat).toInt)]) (d := 68) (mc := 0) (ms := 0) dL_law_502 mf_X8_depth mi_X8_depth ml_L_78 rfl rfl rfl (by decide) rfl (Nat.le_of_ble_eq_true rfl) ⟨Nat.le_of_ble_eq_true rfl, Nat.le_of_ble_eq_true rfl⟩ ⟨by omega, by omega⟩ ?_
  refine m_X8_depth h (fun M1 f1 h1 => ?_)
  · have h1' := h'.fx f1
    refine r_aload_n (i := 2) (dl dL_law_505) rfl rfl ?_
    refine r_aload_n (i := 0) (dl dL_law_506) rfl rfl ?_
    refine r_iload_n (i := 3) (dl dL_law_507) rfl rfl ?_
    refine r_iconst (dl dL_law_508) (by decide) ?_
    refine r_iadd (dl dL_law_509) (by omega) ?_
    refine r_sld (L := L) (xs := xs) rl_hX (dl dL_law_510) ⟨by omega, by omega⟩ ?_
    refine rl_cVi (y := zy_X9_depth) (as := [zI ((xs (i + 1).toNat).toInt)]) (d := 9) (mc := 0) (ms := 0) dL_law_511 mf_X9_depth mi_X9_depth ml_L_81 rfl rfl rfl (by decide) rfl (Nat.le_of_ble_eq_true rfl) ⟨Nat.le_of_ble_eq_true rfl, Nat.le_of_ble_eq_true rfl⟩ ⟨by omega, by omega⟩ ?_
    refine m_X9_depth h1' (fun M2 f2 h2 => ?_)
    refine r_icmp_eq (tgt := 611) (dl dL_law_514) rfl (fun _ => ?_) (fun q => absurd rfl q)
    exact nx _ _ _ ⟨_, _, _, _, _, _, _, _, _, h1.fm f2, h2⟩ (by omega) (by omega)
theorem lc_reduce (h : XS M ty wr sk w u G j on rd) (h' : MS M ty wr sk w u G j on rd) (hi : 0 ≤ i ∧ i + 4 ≤ L) (hL : L ≤ 256) (hr : ce + 1 ≤ 600000 ∧ sl + 7 ≤ 7302250)
    (nx : ∀ M' ce' sl', LI M' → ce' ≤ ce + 1 → sl' ≤ sl + 7 → zW B (zLaw b L B.2.2.2 xs) 611 [some (zX b), some (zR 0), some (zR 45), some (zI i)] [] zA1 M' ce' sl') : zW B (zLaw b L B.2.2.2 xs) 519 [some (zX b), some (zR 0), some (zR 45), some (zI i)] [] zA1 M ce sl := by
  refine r_aload_n (i := 1) (dl dL_law_519) rfl rfl ?_
  refine r_aload_n (i := 0) (dl dL_law_520) rfl rfl ?_
  refine r_iload_n (i := 3) (dl dL_law_521) rfl rfl ?_
  refine r_iconst (dl dL_law_522) (by decide) ?_
  refine r_iadd (dl dL_law_523) (by omega) ?_
  refine r_sld (L := L) (xs := xs) rl_hX (dl dL_law_524) ⟨by omega, by omega⟩ ?_
  refine r_aload_n (i := 0) (dl dL_law_525) rfl rfl ?_
  refine r_iload_n (i := 3) (dl dL_law_526) rfl rfl ?_
  refine r_iconst (dl dL_law_527) (by decide) ?_
  refine r_iadd (dl dL_law_528) (by omega) ?_
  refine r_sld (L := L) (xs := xs) rl_hX (dl dL_law_529) ⟨by omega, by omega⟩ ?_
  refine rl_cVi (y := zy_X8_reduce) (as := [zI ((xs (i + 1).toNat).toInt), zI ((xs (i + 2).toNat).toInt)]) (d := 68) (mc := 0) (ms := 0) dL_law_530 mf_X8_reduce mi_X8_reduce ml_L_82 rfl rfl rfl (by decide) rfl (Nat.le_of_ble_eq_true rfl) ⟨Nat.le_of_ble_eq_true rfl, Nat.le_of_ble_eq_true rfl⟩ ⟨by omega, by omega⟩ ?_
  refine m_X8_reduce h (fun q => ?_) (fun q q2 => ?_) (fun q q2 q3 q4 M1 f1 h1 => ?_) (fun q q2 q3 M1 f1 h1 => ?_)
  · refine r_aload_n (i := 2) (dl dL_law_533) rfl rfl ?_
    refine r_aload_n (i := 0) (dl dL_law_534) rfl rfl ?_
    refine r_iload_n (i := 3) (dl dL_law_535) rfl rfl ?_
    refine r_iconst (dl dL_law_536) (by decide) ?_
    refine r_iadd (dl dL_law_537) (by omega) ?_
    refine r_sld (L := L) (xs := xs) rl_hX (dl dL_law_538) ⟨by omega, by omega⟩ ?_
    refine r_aload_n (i := 0) (dl dL_law_539) rfl rfl ?_
    refine r_iload_n (i := 3) (dl dL_law_540) rfl rfl ?_
    refine r_iconst (dl dL_law_541) (by decide) ?_
    refine r_iadd (dl dL_law_542) (by omega) ?_
    refine r_sld (L := L) (xs := xs) rl_hX (dl dL_law_543) ⟨by omega, by omega⟩ ?_
    refine rl_cVi (y := zy_X9_reduce) (as := [zI ((xs (i + 1).toNat).toInt), zI ((xs (i + 2).toNat).toInt)]) (d := 12) (mc := 0) (ms := 0) dL_law_544 mf_X9_reduce mi_X9_reduce ml_L_86 rfl rfl rfl (by decide) rfl (Nat.le_of_ble_eq_true rfl) ⟨Nat.le_of_ble_eq_true rfl, Nat.le_of_ble_eq_true rfl⟩ ⟨by omega, by omega⟩ ?_
    refine m_X9_reduce h' (fun _ => ?_) (fun a => absurd a q) (fun a => absurd a q) (fun a => absurd a q)
    refine r_icmp_eq (tgt := 611) (dl dL_law_547) rfl (fun _ => ?_) (fun q => absurd rfl q)
    exact nx _ _ _ ⟨_, _, _, _, _, _, _, _, _, h, h'⟩ (by omega) (by omega)
  · refine r_aload_n (i := 2) (dl dL_law_533) rfl rfl ?_
    refine r_aload_n (i := 0) (dl dL_law_534) rfl rfl ?_
    refine r_iload_n (i := 3) (dl dL_law_535) rfl rfl ?_
    refine r_iconst (dl dL_law_536) (by decide) ?_
    refine r_iadd (dl dL_law_537) (by omega) ?_
    refine r_sld (L := L) (xs := xs) rl_hX (dl dL_law_538) ⟨by omega, by omega⟩ ?_
    refine r_aload_n (i := 0) (dl dL_law_539) rfl rfl ?_
    refine r_iload_n (i := 3) (dl dL_law_540) rfl rfl ?_
    refine r_iconst (dl dL_law_541) (by decide) ?_
    refine r_iadd (dl dL_law_542) (by omega) ?_
    refine r_sld (L := L) (xs := xs) rl_hX (dl dL_law_543) ⟨by omega, by omega⟩ ?_
    refine rl_cVi (y := zy_X9_reduce) (as := [zI ((xs (i + 1).toNat).toInt), zI ((xs (i + 2).toNat).toInt)]) (d := 12) (mc := 0) (ms := 0) dL_law_544 mf_X9_reduce mi_X9_reduce ml_L_86 rfl rfl rfl (by decide) rfl (Nat.le_of_ble_eq_true rfl) ⟨Nat.le_of_ble_eq_true rfl, Nat.le_of_ble_eq_true rfl⟩ ⟨by omega, by omega⟩ ?_
    refine m_X9_reduce h' (fun a => absurd q a) (fun _ _ M2 f2 h2 => ?_) (fun _ a => absurd a q2) (fun _ a => absurd a q2)
    refine r_icmp_eq (tgt := 611) (dl dL_law_547) rfl (fun _ => ?_) (fun q => absurd rfl q)
    exact nx _ _ _ ⟨_, _, _, _, _, _, _, _, _, h.fm f2, h2⟩ (by omega) (by omega)
  · have h1' := h'.fx f1
    refine r_aload_n (i := 2) (dl dL_law_533) rfl rfl ?_
    refine r_aload_n (i := 0) (dl dL_law_534) rfl rfl ?_
    refine r_iload_n (i := 3) (dl dL_law_535) rfl rfl ?_
    refine r_iconst (dl dL_law_536) (by decide) ?_
    refine r_iadd (dl dL_law_537) (by omega) ?_
    refine r_sld (L := L) (xs := xs) rl_hX (dl dL_law_538) ⟨by omega, by omega⟩ ?_
    refine r_aload_n (i := 0) (dl dL_law_539) rfl rfl ?_
    refine r_iload_n (i := 3) (dl dL_law_540) rfl rfl ?_
    refine r_iconst (dl dL_law_541) (by decide) ?_
    refine r_iadd (dl dL_law_542) (by omega) ?_
    refine r_sld (L := L) (xs := xs) rl_hX (dl dL_law_543) ⟨by omega, by omega⟩ ?_
    refine rl_cVi (y := zy_X9_reduce) (as := [zI ((xs (i + 1).toNat).toInt), zI ((xs (i + 2).toNat).toInt)]) (d := 12) (mc := 0) (ms := 0) dL_law_544 mf_X9_reduce mi_X9_reduce ml_L_86 rfl rfl rfl (by decide) rfl (Nat.le_of_ble_eq_true rfl) ⟨Nat.le_of_ble_eq_true rfl, Nat.le_of_ble_eq_true rfl⟩ ⟨by omega, by omega⟩ ?_
    refine m_X9_reduce h1' (fun a => absurd q a) (fun _ a => absurd q2 a) (fun _ _ _ _ M2 f2 h2 => ?_) (fun _ _ a => by have := a q3; rw [q4] at this; cases this)
    refine r_icmp_eq (tgt := 611) (dl dL_law_547) rfl (fun _ => ?_) (fun q => absurd rfl q)
    exact nx _ _ _ ⟨_, _, _, _, _, _, _, _, _, h1.fm f2, h2⟩ (by omega) (by omega)
  · have h1' := h'.fx f1
    refine r_aload_n (i := 2) (dl dL_law_533) rfl rfl ?_
    refine r_aload_n (i := 0) (dl dL_law_534) rfl rfl ?_
    refine r_iload_n (i := 3) (dl dL_law_535) rfl rfl ?_
    refine r_iconst (dl dL_law_536) (by decide) ?_
    refine r_iadd (dl dL_law_537) (by omega) ?_
    refine r_sld (L := L) (xs := xs) rl_hX (dl dL_law_538) ⟨by omega, by omega⟩ ?_
    refine r_aload_n (i := 0) (dl dL_law_539) rfl rfl ?_
    refine r_iload_n (i := 3) (dl dL_law_540) rfl rfl ?_
    refine r_iconst (dl dL_law_541) (by decide) ?_
    refine r_iadd (dl dL_law_542) (by omega) ?_
    refine r_sld (L := L) (xs := xs) rl_hX (dl dL_law_543) ⟨by omega, by omega⟩ ?_
    refine rl_cVi (y := zy_X9_reduce) (as := [zI ((xs (i + 1).toNat).toInt), zI ((xs (i + 2).toNat).toInt)]) (d := 12) (mc := 0) (ms := 0) dL_law_544 mf_X9_reduce mi_X9_reduce ml_L_86 rfl rfl rfl (by decide) rfl (Nat.le_of_ble_eq_true rfl) ⟨Nat.le_of_ble_eq_true rfl, Nat.le_of_ble_eq_true rfl⟩ ⟨by omega, by omega⟩ ?_
    refine m_X9_reduce h1' (fun a => absurd q a) (fun _ a => absurd q2 a) (fun _ _ a c => by have := q3 a; rw [c] at this; cases this) (fun _ _ _ M2 f2 h2 => ?_)
    refine r_icmp_eq (tgt := 611) (dl dL_law_547) rfl (fun _ => ?_) (fun q => absurd rfl q)
    exact nx _ _ _ ⟨_, _, _, _, _, _, _, _, _, h1.fm f2, h2⟩ (by omega) (by omega)
theorem lc_length (h : XS M ty wr sk w u G j on rd) (h' : MS M ty wr sk w u G j on rd) (hi : 0 ≤ i ∧ i + 4 ≤ L) (hL : L ≤ 256) (hr : ce + 1 ≤ 600000 ∧ sl + 7 ≤ 7302250)
    (nx : ∀ M' ce' sl', LI M' → ce' ≤ ce + 1 → sl' ≤ sl + 7 → zW B (zLaw b L B.2.2.2 xs) 611 [some (zX b), some (zR 0), some (zR 45), some (zI i)] [] zA1 M' ce' sl') : zW B (zLaw b L B.2.2.2 xs) 552 [some (zX b), some (zR 0), some (zR 45), some (zI i)] [] zA1 M ce sl := by
  refine r_aload_n (i := 1) (dl dL_law_552) rfl rfl ?_
  refine rl_cVi (y := zy_X8_length) (as := []) (d := 1) (mc := 0) (ms := 0) dL_law_553 mf_X8_length mi_X8_length ml_L_87 rfl rfl rfl (by decide) rfl (Nat.le_of_ble_eq_true rfl) ⟨Nat.le_of_ble_eq_true rfl, Nat.le_of_ble_eq_true rfl⟩ ⟨by omega, by omega⟩ ?_
  refine m_X8_length h ?_
  · refine r_aload_n (i := 2) (dl dL_law_556) rfl rfl ?_
    refine rl_cVi (y := zy_X9_length) (as := []) (d := 1) (mc := 0) (ms := 0) dL_law_557 mf_X9_length mi_X9_length ml_L_90 rfl rfl rfl (by decide) rfl (Nat.le_of_ble_eq_true rfl) ⟨Nat.le_of_ble_eq_true rfl, Nat.le_of_ble_eq_true rfl⟩ ⟨by omega, by omega⟩ ?_
    refine m_X9_length h' ?_
    refine r_icmp_eq (tgt := 611) (dl dL_law_560) rfl (fun _ => ?_) (fun q => absurd rfl q)
    exact nx _ _ _ ⟨_, _, _, _, _, _, _, _, _, h, h'⟩ (by omega) (by omega)
theorem lc_at (h : XS M ty wr sk w u G j on rd) (h' : MS M ty wr sk w u G j on rd) (hi : 0 ≤ i ∧ i + 4 ≤ L) (hL : L ≤ 256) (hr : ce + 1 ≤ 600000 ∧ sl + 7 ≤ 7302250)
    (nx : ∀ M' ce' sl', LI M' → ce' ≤ ce + 1 → sl' ≤ sl + 7 → zW B (zLaw b L B.2.2.2 xs) 611 [some (zX b), some (zR 0), some (zR 45), some (zI i)] [] zA1 M' ce' sl') : zW B (zLaw b L B.2.2.2 xs) 565 [some (zX b), some (zR 0), some (zR 45), some (zI i)] [] zA1 M ce sl := by
  refine r_aload_n (i := 1) (dl dL_law_565) rfl rfl ?_
  refine r_aload_n (i := 0) (dl dL_law_566) rfl rfl ?_
  refine r_iload_n (i := 3) (dl dL_law_567) rfl rfl ?_
  refine r_iconst (dl dL_law_568) (by decide) ?_
  refine r_iadd (dl dL_law_569) (by omega) ?_
  refine r_sld (L := L) (xs := xs) rl_hX (dl dL_law_570) ⟨by omega, by omega⟩ ?_
  refine rl_cVi (y := zy_X8_at) (as := [zI ((xs (i + 1).toNat).toInt)]) (d := 1) (mc := 0) (ms := 0) dL_law_571 mf_X8_at mi_X8_at ml_L_91 rfl rfl rfl (by decide) rfl (Nat.le_of_ble_eq_true rfl) ⟨Nat.le_of_ble_eq_true rfl, Nat.le_of_ble_eq_true rfl⟩ ⟨by omega, by omega⟩ ?_
  refine m_X8_at h ?_
  · refine r_aload_n (i := 2) (dl dL_law_574) rfl rfl ?_
    refine r_aload_n (i := 0) (dl dL_law_575) rfl rfl ?_
    refine r_iload_n (i := 3) (dl dL_law_576) rfl rfl ?_
    refine r_iconst (dl dL_law_577) (by decide) ?_
    refine r_iadd (dl dL_law_578) (by omega) ?_
    refine r_sld (L := L) (xs := xs) rl_hX (dl dL_law_579) ⟨by omega, by omega⟩ ?_
    refine rl_cVi (y := zy_X9_at) (as := [zI ((xs (i + 1).toNat).toInt)]) (d := 1) (mc := 0) (ms := 0) dL_law_580 mf_X9_at mi_X9_at ml_L_95 rfl rfl rfl (by decide) rfl (Nat.le_of_ble_eq_true rfl) ⟨Nat.le_of_ble_eq_true rfl, Nat.le_of_ble_eq_true rfl⟩ ⟨by omega, by omega⟩ ?_
    refine m_X9_at h' ?_
    refine r_icmp_eq (tgt := 611) (dl dL_law_583) rfl (fun _ => ?_) (fun q => absurd rfl q)
    exact nx _ _ _ ⟨_, _, _, _, _, _, _, _, _, h, h'⟩ (by omega) (by omega)
theorem lc_count (h : XS M ty wr sk w u G j on rd) (h' : MS M ty wr sk w u G j on rd) (hi : 0 ≤ i ∧ i + 4 ≤ L) (hL : L ≤ 256) (hr : ce + 1 ≤ 600000 ∧ sl + 7 ≤ 7302250)
    (nx : ∀ M' ce' sl', LI M' → ce' ≤ ce + 1 → sl' ≤ sl + 7 → zW B (zLaw b L B.2.2.2 xs) 611 [some (zX b), some (zR 0), some (zR 45), some (zI i)] [] zA1 M' ce' sl') : zW B (zLaw b L B.2.2.2 xs) 588 [some (zX b), some (zR 0), some (zR 45), some (zI i)] [] zA1 M ce sl := by
  refine r_aload_n (i := 1) (dl dL_law_588) rfl rfl ?_
  refine r_aload_n (i := 0) (dl dL_law_589) rfl rfl ?_
  refine r_iload_n (i := 3) (dl dL_law_590) rfl rfl ?_
  refine r_iconst (dl dL_law_591) (by decide) ?_
  refine r_iadd (dl dL_law_592) (by omega) ?_
  refine r_sld (L := L) (xs := xs) rl_hX (dl dL_law_593) ⟨by omega, by omega⟩ ?_
  refine rl_cVi (y := zy_X8_count) (as := [zI ((xs (i + 1).toNat).toInt)]) (d := 1) (mc := 0) (ms := 0) dL_law_594 mf_X8_count mi_X8_count ml_L_96 rfl rfl rfl (by decide) rfl (Nat.le_of_ble_eq_true rfl) ⟨Nat.le_of_ble_eq_true rfl, Nat.le_of_ble_eq_true rfl⟩ ⟨by omega, by omega⟩ ?_
  refine m_X8_count h ?_
  · refine r_aload_n (i := 2) (dl dL_law_597) rfl rfl ?_
    refine r_aload_n (i := 0) (dl dL_law_598) rfl rfl ?_
    refine r_iload_n (i := 3) (dl dL_law_599) rfl rfl ?_
    refine r_iconst (dl dL_law_600) (by decide) ?_
    refine r_iadd (dl dL_law_601) (by omega) ?_
    refine r_sld (L := L) (xs := xs) rl_hX (dl dL_law_602) ⟨by omega, by omega⟩ ?_
    refine rl_cVi (y := zy_X9_count) (as := [zI ((xs (i + 1).toNat).toInt)]) (d := 1) (mc := 0) (ms := 0) dL_law_603 mf_X9_count mi_X9_count ml_L_99 rfl rfl rfl (by decide) rfl (Nat.le_of_ble_eq_true rfl) ⟨Nat.le_of_ble_eq_true rfl, Nat.le_of_ble_eq_true rfl⟩ ⟨by omega, by omega⟩ ?_
    refine m_X9_count h' ?_
    refine r_icmp_eq (tgt := 611) (dl dL_law_606) rfl (fun _ => ?_) (fun q => absurd rfl q)
    exact nx _ _ _ ⟨_, _, _, _, _, _, _, _, _, h, h'⟩ (by omega) (by omega)
end LC
