theorem dq_X1_isHeld {B : zB} {d mc ms n0 : Nat} {Q : Option zV → zIni → zM → Prop} {pc : Nat} {r : _} (h : decode cX1_isHeld pc = r) : decode (zEm B zy_X1_isHeld d mc ms n0 Q).1.2.1 pc = r := h
theorem dr_X1_isHeld {pc : Nat} {r : _} (h : decode cX1_isHeld pc = r) : decode zy_X1_isHeld.2.1 pc = r := h
theorem e_X1_isHeld {B : zB} {K : Int → zM → Prop} {M : zM} {t : Nat} (k : ∀ n0, zGi B zy_X1_isHeld 2 0 0 n0 K 0 [some (zR 5), some (zR t), none] [] M 0 0) :
    zCi B zy_X1_isHeld 2 0 0 [zR 5, zR t] M K :=
  zMet.of mf_X1_isHeld (Nat.le_of_ble_eq_true rfl) rfl (k _)
set_option maxRecDepth 4000 in
theorem b_X1_isHeld_0 {B : zB} {n0 : Nat} {K : Int → zM → Prop} {M : zM} {t : Nat} (h_t : zTx t)
    (k1 : zGi B zy_X1_isHeld 2 0 0 n0 K 2 [some (zR 5), some (zR t), some (zI 0)] [] M 0 0) :
    zGi B zy_X1_isHeld 2 0 0 n0 K 0 [some (zR 5), some (zR t), none] [] M 0 0 :=
  (r_iconst (dq_X1_isHeld dX1_isHeld_0) (by decide) (r_istore_n (i := 2) (dq_X1_isHeld dX1_isHeld_1) rfl (Nat.le_of_ble_eq_true rfl) rfl k1))
set_option maxRecDepth 4000 in
theorem b_X1_isHeld_2 {B : zB} {n0 : Nat} {K : Int → zM → Prop} {M : zM} {v2 : Int} {t : Nat} (h_t : zTx t) {s : List Int}
    (k1 : (gi M 5 6) ≤ v2 → K 0 M)
    (c1 : v2 < (gi M 5 6) → 0 ≤ v2 ∧ v2 < 24)
    (c2 : v2 < (gi M 5 6) → ¬ (gi M 7 v2.toNat) = (gi M t 1) → zin (v2 + 1))
    (k2 : v2 < (gi M 5 6) → ¬ (gi M 7 v2.toNat) = (gi M t 1) → zGi B zy_X1_isHeld 2 0 0 n0 K 2 [some (zR 5), some (zR t), some (zI (v2 + 1))] [] M 0 0)
    (c3 : v2 < (gi M 5 6) → (gi M 7 v2.toNat) = (gi M t 1) → slB M)
    (c4 : tT M t s)
    (c5 : s.length ≤ 32)
    (c6 : v2 < (gi M 5 6) → (gi M 7 v2.toNat) = (gi M t 1) → ¬ ((slT M v2.toNat s.length) = s) → zin (v2 + 1))
    (k3 : v2 < (gi M 5 6) → (gi M 7 v2.toNat) = (gi M t 1) → ¬ ((slT M v2.toNat s.length) = s) → zGi B zy_X1_isHeld 2 0 0 n0 K 2 [some (zR 5), some (zR t), some (zI (v2 + 1))] [] M 0 0)
    (k4 : v2 < (gi M 5 6) → (gi M 7 v2.toNat) = (gi M t 1) → (slT M v2.toNat s.length) = s → K 1 M) :
    zGi B zy_X1_isHeld 2 0 0 n0 K 2 [some (zR 5), some (zR t), some (zI v2)] [] M 0 0 :=
  (r_iload_n (i := 2) (dq_X1_isHeld dX1_isHeld_2) rfl rfl (r_aload_n (i := 0) (dq_X1_isHeld dX1_isHeld_3) rfl rfl (r_gi (dq_X1_isHeld dX1_isHeld_4) fl_X1_41 rfl rfl rfl rfl (r_icmp_ge (tgt := 40) (dq_X1_isHeld dX1_isHeld_7) rfl (fun h1 => (r_iconst (dq_X1_isHeld dX1_isHeld_40) (by decide) (r_reti (dr_X1_isHeld dX1_isHeld_41) rfl (by decide) (Or.inl rfl) (k1 h1)))) (fun h2 => (r_aload_n (i := 0) (dq_X1_isHeld dX1_isHeld_10) rfl rfl (r_gs (r := 7) (dq_X1_isHeld dX1_isHeld_11) fl_X1_19 rfl rfl rfl rfl rfl (r_iload_n (i := 2) (dq_X1_isHeld dX1_isHeld_14) rfl rfl (r_ial (n := 24) (dq_X1_isHeld dX1_isHeld_15) rfl (c1 h2) rfl (r_aload_n (i := 1) (dq_X1_isHeld dX1_isHeld_16) rfl rfl (r_gi (dq_X1_isHeld dX1_isHeld_17) fl_X1_65 rfl h_t.1 rfl rfl (r_icmp_ne (tgt := 34) (dq_X1_isHeld dX1_isHeld_20) rfl (fun h3 => (r_iinc (i := 2) (dq_X1_isHeld dX1_isHeld_34) rfl (c2 h2 h3) rfl (r_goto (tgt := 2) (dq_X1_isHeld dX1_isHeld_37) rfl (k2 h2 h3)))) (fun h4 => (r_aload_n (i := 0) (dq_X1_isHeld dX1_isHeld_23) rfl rfl (r_iload_n (i := 2) (dq_X1_isHeld dX1_isHeld_24) rfl rfl (r_aload_n (i := 1) (dq_X1_isHeld dX1_isHeld_25) rfl rfl (r_cVi (as := [zI v2, zR t]) (d := 1) (dq_X1_isHeld dX1_isHeld_26) mf_X1_isHeldAt mi_X1_isHeldAt ml_X1_70 rfl rfl rfl (by decide) rfl (Nat.le_of_ble_eq_true rfl) ⟨⟨Nat.le_of_ble_eq_true rfl, Nat.le_of_ble_eq_true rfl⟩, Nat.le_of_ble_eq_true rfl, Nat.le_of_ble_eq_true rfl⟩ (p_X1_isHeldAt h_t (c3 h2 h4) (c1 h2) c4 c5 (r_ifb_eq (tgt := 34) (dq_X1_isHeld dX1_isHeld_29) rfl (fun h5 => (r_iinc (i := 2) (dq_X1_isHeld dX1_isHeld_34) rfl (c6 h2 h4 h5) rfl (r_goto (tgt := 2) (dq_X1_isHeld dX1_isHeld_37) rfl (k3 h2 h4 h5)))) (fun h6 => (r_iconst (dq_X1_isHeld dX1_isHeld_32) (by decide) (r_reti (dr_X1_isHeld dX1_isHeld_33) rfl (by decide) (Or.inr rfl) (k4 h2 h4 h6)))))))))))))))))))))))
theorem dq_X1_hold {B : zB} {d mc ms n0 : Nat} {Q : Option zV → zIni → zM → Prop} {pc : Nat} {r : _} (h : decode cX1_hold pc = r) : decode (zEm B zy_X1_hold d mc ms n0 Q).1.2.1 pc = r := h
theorem dr_X1_hold {pc : Nat} {r : _} (h : decode cX1_hold pc = r) : decode zy_X1_hold.2.1 pc = r := h
theorem e_X1_hold {B : zB} {K : zM → Prop} {M : zM} {t : Nat} (k : ∀ n0, zGv B zy_X1_hold 1 0 0 n0 K 0 [some (zR 5), some (zR t), none, none] [] M 0 0) :
    zCv B zy_X1_hold 1 0 0 [zR 5, zR t] M K :=
  zMet.of mf_X1_hold (Nat.le_of_ble_eq_true rfl) rfl (k _)
set_option maxRecDepth 4000 in
theorem b_X1_hold_0 {B : zB} {n0 : Nat} {K : zM → Prop} {M : zM} {t : Nat} (h_t : zTx t)
    (c1 : 24 ≤ (gi M 5 6) → zin ((gi M 5 8) + 1))
    (c2 : 24 ≤ (gi M 5 6) → 0 ≤ ((gi M 5 8) + 1) ∧ (0 : Int) < 24)
    (c3 : 24 ≤ (gi M 5 6) → 0 ≤ (gi M 5 8) ∧ (gi M 5 8) < 24)
    (k1 : 24 ≤ (gi M 5 6) → zGv B zy_X1_hold 1 0 0 n0 K 57 [some (zR 5), some (zR t), some (zI (gi M 5 8)), some (zI 0)] [] (si (si M 5 8 (((gi M 5 8) + 1) % 24)) 7 (gi M 5 8).toNat (gi M t 1)) 0 0)
    (c4 : (gi M 5 6) < 24 → zin ((gi M 5 6) + 1))
    (c5 : (gi M 5 6) < 24 → 0 ≤ (gi M 5 6) ∧ (gi M 5 6) < 24)
    (k2 : (gi M 5 6) < 24 → zGv B zy_X1_hold 1 0 0 n0 K 57 [some (zR 5), some (zR t), some (zI (gi M 5 6)), some (zI 0)] [] (si (si M 5 6 ((gi M 5 6) + 1)) 7 (gi M 5 6).toNat (gi M t 1)) 0 0) :
    zGv B zy_X1_hold 1 0 0 n0 K 0 [some (zR 5), some (zR t), none, none] [] M 0 0 :=
  (r_aload_n (i := 0) (dq_X1_hold dX1_hold_0) rfl rfl (r_gi (dq_X1_hold dX1_hold_1) fl_X1_41 rfl rfl rfl rfl (r_istore_n (i := 2) (dq_X1_hold dX1_hold_4) rfl (Nat.le_of_ble_eq_true rfl) rfl (r_aload_n (i := 0) (dq_X1_hold dX1_hold_5) rfl rfl (r_gi (dq_X1_hold dX1_hold_6) fl_X1_41 rfl rfl rfl rfl (r_bipush (dq_X1_hold dX1_hold_9) (by decide) rfl (r_icmp_ge (tgt := 27) (dq_X1_hold dX1_hold_11) rfl (fun h1 => (r_aload_n (i := 0) (dq_X1_hold dX1_hold_27) rfl rfl (r_gi (dq_X1_hold dX1_hold_28) fl_X1_44 rfl rfl rfl rfl (r_istore_n (i := 2) (dq_X1_hold dX1_hold_31) rfl (Nat.le_of_ble_eq_true rfl) rfl (r_aload_n (i := 0) (dq_X1_hold dX1_hold_32) rfl rfl (r_aload_n (i := 0) (dq_X1_hold dX1_hold_33) rfl rfl (r_gi (dq_X1_hold dX1_hold_34) fl_X1_44 rfl rfl rfl rfl (r_iconst (dq_X1_hold dX1_hold_37) (by decide) (r_iadd (dq_X1_hold dX1_hold_38) (c1 h1) (r_bipush (dq_X1_hold dX1_hold_39) (by decide) rfl (r_irem (dq_X1_hold dX1_hold_41) (c2 h1) (r_pi (dq_X1_hold dX1_hold_42) fl_X1_44 rfl rfl rfl trivial (r_aload_n (i := 0) (dq_X1_hold dX1_hold_45) rfl rfl (r_gs (r := 7) (dq_X1_hold dX1_hold_46) fl_X1_19 rfl rfl rfl rfl rfl (r_iload_n (i := 2) (dq_X1_hold dX1_hold_49) rfl rfl (r_aload_n (i := 1) (dq_X1_hold dX1_hold_50) rfl rfl (r_gi (dq_X1_hold dX1_hold_51) fl_X1_65 rfl h_t.1 rfl (by simp [gi_si]) (r_iastore (n := 24) (dq_X1_hold dX1_hold_54) rfl (c3 h1) (r_iconst (dq_X1_hold dX1_hold_55) (by decide) (r_istore_n (i := 3) (dq_X1_hold dX1_hold_56) rfl (Nat.le_of_ble_eq_true rfl) rfl (k1 h1))))))))))))))))))))) (fun h2 => (r_aload_n (i := 0) (dq_X1_hold dX1_hold_14) rfl rfl (r_dup (dq_X1_hold dX1_hold_15) (r_gi (dq_X1_hold dX1_hold_16) fl_X1_41 rfl rfl rfl rfl (r_iconst (dq_X1_hold dX1_hold_19) (by decide) (r_iadd (dq_X1_hold dX1_hold_20) (c4 h2) (r_pi (dq_X1_hold dX1_hold_21) fl_X1_41 rfl rfl rfl trivial (r_goto (tgt := 45) (dq_X1_hold dX1_hold_24) rfl (r_aload_n (i := 0) (dq_X1_hold dX1_hold_45) rfl rfl (r_gs (r := 7) (dq_X1_hold dX1_hold_46) fl_X1_19 rfl rfl rfl rfl rfl (r_iload_n (i := 2) (dq_X1_hold dX1_hold_49) rfl rfl (r_aload_n (i := 1) (dq_X1_hold dX1_hold_50) rfl rfl (r_gi (dq_X1_hold dX1_hold_51) fl_X1_65 rfl h_t.1 rfl (by simp [gi_si]) (r_iastore (n := 24) (dq_X1_hold dX1_hold_54) rfl (c5 h2) (r_iconst (dq_X1_hold dX1_hold_55) (by decide) (r_istore_n (i := 3) (dq_X1_hold dX1_hold_56) rfl (Nat.le_of_ble_eq_true rfl) rfl (k2 h2))))))))))))))))))))))))
set_option maxRecDepth 4000 in
theorem b_X1_hold_57 {B : zB} {n0 : Nat} {K : zM → Prop} {M : zM} {v2 v3 : Int} {t : Nat} (h_t : zTx t)
    (k1 : (gi M t 1) ≤ v3 → K M)
    (c1 : v3 < (gi M t 1) → zin (v2 * 32))
    (c2 : v3 < (gi M t 1) → zin ((v2 * 32) + v3))
    (c3 : v3 < (gi M t 1) → 0 ≤ v3 ∧ v3 < 32)
    (c4 : v3 < (gi M t 1) → 0 ≤ ((v2 * 32) + v3) ∧ ((v2 * 32) + v3) < 768)
    (c5 : v3 < (gi M t 1) → 0 ≤ (gi M (t + 1) v3.toNat) ∧ (gi M (t + 1) v3.toNat) < 65536)
    (c6 : v3 < (gi M t 1) → zin (v3 + 1))
    (k2 : v3 < (gi M t 1) → zGv B zy_X1_hold 1 0 0 n0 K 57 [some (zR 5), some (zR t), some (zI v2), some (zI (v3 + 1))] [] (si M 6 ((v2 * 32) + v3).toNat (gi M (t + 1) v3.toNat)) 0 0) :
    zGv B zy_X1_hold 1 0 0 n0 K 57 [some (zR 5), some (zR t), some (zI v2), some (zI v3)] [] M 0 0 :=
  (r_iload_n (i := 3) (dq_X1_hold dX1_hold_57) rfl rfl (r_aload_n (i := 1) (dq_X1_hold dX1_hold_58) rfl rfl (r_gi (dq_X1_hold dX1_hold_59) fl_X1_65 rfl h_t.1 rfl rfl (r_icmp_ge (tgt := 88) (dq_X1_hold dX1_hold_62) rfl (fun h1 => (r_retv (dr_X1_hold dX1_hold_88) rfl (by decide) (k1 h1))) (fun h2 => (r_aload_n (i := 0) (dq_X1_hold dX1_hold_65) rfl rfl (r_gs (r := 6) (dq_X1_hold dX1_hold_66) fl_X1_15 rfl rfl rfl rfl rfl (r_iload_n (i := 2) (dq_X1_hold dX1_hold_69) rfl rfl (r_bipush (dq_X1_hold dX1_hold_70) (by decide) rfl (r_imul (dq_X1_hold dX1_hold_72) (c1 h2) (r_iload_n (i := 3) (dq_X1_hold dX1_hold_73) rfl rfl (r_iadd (dq_X1_hold dX1_hold_74) (c2 h2) (r_aload_n (i := 1) (dq_X1_hold dX1_hold_75) rfl rfl (r_gs (r := (t + 1)) (dq_X1_hold dX1_hold_76) fl_X1_74 rfl h_t.1 rfl rfl h_t.2.1 (r_iload_n (i := 3) (dq_X1_hold dX1_hold_79) rfl rfl (r_cal (n := 32) (dq_X1_hold dX1_hold_80) h_t.2.2 (c3 h2) rfl (r_castore (n := 768) (dq_X1_hold dX1_hold_81) rfl (c4 h2) (c5 h2) (r_iinc (i := 3) (dq_X1_hold dX1_hold_82) rfl (c6 h2) rfl (r_goto (tgt := 57) (dq_X1_hold dX1_hold_85) rfl (k2 h2))))))))))))))))))))
theorem dq_X1_allow {B : zB} {d mc ms n0 : Nat} {Q : Option zV → zIni → zM → Prop} {pc : Nat} {r : _} (h : decode cX1_allow pc = r) : decode (zEm B zy_X1_allow d mc ms n0 Q).1.2.1 pc = r := h
theorem dr_X1_allow {pc : Nat} {r : _} (h : decode cX1_allow pc = r) : decode zy_X1_allow.2.1 pc = r := h
theorem e_X1_allow {B : zB} {K : zM → Prop} {M : zM} {p1 : Int} (k : ∀ n0, zGv B zy_X1_allow 1 0 0 n0 K 0 [some (zR 5), some (zI p1)] [] M 0 0) :
    zCv B zy_X1_allow 1 0 0 [zR 5, zI p1] M K :=
  zMet.of mf_X1_allow (Nat.le_of_ble_eq_true rfl) rfl (k _)
set_option maxRecDepth 4000 in
theorem b_X1_allow_0 {B : zB} {n0 : Nat} {K : zM → Prop} {M : zM} {p1 : Int}
    (k1 : K (si (si M 5 7 p1) 5 5 0)) :
    zGv B zy_X1_allow 1 0 0 n0 K 0 [some (zR 5), some (zI p1)] [] M 0 0 :=
  (r_aload_n (i := 0) (dq_X1_allow dX1_allow_0) rfl rfl (r_iload_n (i := 1) (dq_X1_allow dX1_allow_1) rfl rfl (r_pi (dq_X1_allow dX1_allow_2) fl_X1_34 rfl rfl rfl trivial (r_aload_n (i := 0) (dq_X1_allow dX1_allow_5) rfl rfl (r_iconst (dq_X1_allow dX1_allow_6) (by decide) (r_pi (dq_X1_allow dX1_allow_7) fl_X1_38 rfl rfl rfl (Or.inl rfl) (r_retv (dr_X1_allow dX1_allow_10) rfl (by decide) k1)))))))
theorem dq_X1_forget {B : zB} {d mc ms n0 : Nat} {Q : Option zV → zIni → zM → Prop} {pc : Nat} {r : _} (h : decode cX1_forget pc = r) : decode (zEm B zy_X1_forget d mc ms n0 Q).1.2.1 pc = r := h
theorem dr_X1_forget {pc : Nat} {r : _} (h : decode cX1_forget pc = r) : decode zy_X1_forget.2.1 pc = r := h
theorem e_X1_forget {B : zB} {K : zM → Prop} {M : zM} (k : ∀ n0, zGv B zy_X1_forget 1 0 0 n0 K 0 [some (zR 5)] [] M 0 0) :
    zCv B zy_X1_forget 1 0 0 [zR 5] M K :=
  zMet.of mf_X1_forget (Nat.le_of_ble_eq_true rfl) rfl (k _)
set_option maxRecDepth 4000 in
theorem b_X1_forget_0 {B : zB} {n0 : Nat} {K : zM → Prop} {M : zM}
    (k1 : K (si (si M 5 6 0) 5 8 0)) :
    zGv B zy_X1_forget 1 0 0 n0 K 0 [some (zR 5)] [] M 0 0 :=
  (r_aload_n (i := 0) (dq_X1_forget dX1_forget_0) rfl rfl (r_iconst (dq_X1_forget dX1_forget_1) (by decide) (r_pi (dq_X1_forget dX1_forget_2) fl_X1_41 rfl rfl rfl trivial (r_aload_n (i := 0) (dq_X1_forget dX1_forget_5) rfl rfl (r_iconst (dq_X1_forget dX1_forget_6) (by decide) (r_pi (dq_X1_forget dX1_forget_7) fl_X1_44 rfl rfl rfl trivial (r_retv (dr_X1_forget dX1_forget_10) rfl (by decide) k1)))))))
theorem dq_X1_verdict {B : zB} {d mc ms n0 : Nat} {Q : Option zV → zIni → zM → Prop} {pc : Nat} {r : _} (h : decode cX1_verdict pc = r) : decode (zEm B zy_X1_verdict d mc ms n0 Q).1.2.1 pc = r := h
theorem dr_X1_verdict {pc : Nat} {r : _} (h : decode cX1_verdict pc = r) : decode zy_X1_verdict.2.1 pc = r := h
theorem e_X1_verdict {B : zB} {K : Int → zM → Prop} {M : zM} {t : Nat} (k : ∀ n0, zGi B zy_X1_verdict 10 0 0 n0 K 0 [some (zR 5), some (zR t)] [] M 0 0) :
    zCi B zy_X1_verdict 10 0 0 [zR 5, zR t] M K :=
  zMet.of mf_X1_verdict (Nat.le_of_ble_eq_true rfl) rfl (k _)
set_option maxRecDepth 4000 in
theorem b_X1_verdict_0 {B : zB} {n0 : Nat} {K : Int → zM → Prop} {M : zM} {t : Nat} (h_t : zTx t) {s : List Int}
    (c1 : okR M)
    (c2 : ∀ r, (gr M 5 0) = some r → 88 ≤ r)
    (c3 : tT M t s)
    (c4 : s.length ≤ 32)
    (c5 : ¬ (tvl M 6 (gr M 5 0) s = true) → ∀ r, (gr M 5 1) = some r → 88 ≤ r)
    (k1 : ¬ (tvl M 6 (gr M 5 0) s = true) → K (if tvl M 6 (gr M 5 1) s = true then 2 else 0) M)
    (k2 : tvl M 6 (gr M 5 0) s = true → K 1 M) :
    zGi B zy_X1_verdict 10 0 0 n0 K 0 [some (zR 5), some (zR t)] [] M 0 0 :=
  (r_aload_n (i := 0) (dq_X1_verdict dX1_verdict_0) rfl rfl (r_gd (dq_X1_verdict dX1_verdict_1) fl_X1_23 rfl rfl rfl rfl (r_aload_n (i := 1) (dq_X1_verdict dX1_verdict_4) rfl rfl (r_iconst (dq_X1_verdict dX1_verdict_5) (by decide) (r_cSi (as := [zO (gr M 5 0), zR t, zI 1]) (d := 9) (dq_X1_verdict dX1_verdict_6) mf_X1_holds ms_X1_holds ml_X1_27 rfl rfl (Nat.le_of_ble_eq_true rfl) ⟨⟨Nat.le_of_ble_eq_true rfl, Nat.le_of_ble_eq_true rfl⟩, Nat.le_of_ble_eq_true rfl, Nat.le_of_ble_eq_true rfl⟩ (p_X1_holds h_t c1 c2 c3 c4 (r_ifb_eq (tgt := 14) (dq_X1_verdict dX1_verdict_9) rfl (fun h1 => (r_aload_n (i := 0) (dq_X1_verdict dX1_verdict_14) rfl rfl (r_gd (dq_X1_verdict dX1_verdict_15) fl_X1_31 rfl rfl rfl rfl (r_aload_n (i := 1) (dq_X1_verdict dX1_verdict_18) rfl rfl (r_iconst (dq_X1_verdict dX1_verdict_19) (by decide) (r_cSi (as := [zO (gr M 5 1), zR t, zI 1]) (d := 9) (dq_X1_verdict dX1_verdict_20) mf_X1_holds ms_X1_holds ml_X1_27 rfl rfl (Nat.le_of_ble_eq_true rfl) ⟨⟨Nat.le_of_ble_eq_true rfl, Nat.le_of_ble_eq_true rfl⟩, Nat.le_of_ble_eq_true rfl, Nat.le_of_ble_eq_true rfl⟩ (p_X1_holds h_t c1 (c5 h1) c3 c4 ((fun (J1 : ∀ y1_0 : Int, y1_0 = (if tvl M 6 (gr M 5 1) s = true then 2 else 0) → zGi B zy_X1_verdict 10 0 0 n0 K 31 [some (zR 5), some (zR t)] [zI y1_0] M 0 0) => (r_ifb_eq (tgt := 30) (dq_X1_verdict dX1_verdict_23) rfl (fun h2 => (r_iconst (dq_X1_verdict dX1_verdict_30) (by decide) (J1 0 ((if_neg h2).symm)))) (fun h3 => (r_iconst (dq_X1_verdict dX1_verdict_26) (by decide) (r_goto (tgt := 31) (dq_X1_verdict dX1_verdict_27) rfl (J1 2 ((if_pos h3).symm))))))) (zJ1 (P := (fun (y1_0 : Int) => zGi B zy_X1_verdict 10 0 0 n0 K 31 [some (zR 5), some (zR t)] [zI y1_0] M 0 0)) (r_reti (dr_X1_verdict dX1_verdict_31) rfl (by decide) trivial (k1 h1))))))))))) (fun h4 => (r_iconst (dq_X1_verdict dX1_verdict_12) (by decide) (r_reti (dr_X1_verdict dX1_verdict_13) rfl (by decide) trivial (k2 h4)))))))))))
