theorem e_X6_put {B : zB} {K : Int → zM → Prop} {M : zM} {p1 : Int} {t : Nat} (k : ∀ n0, zGi B zy_X6_put 1 0 0 n0 K 0 [some (zR t), some (zI p1)] [] M 0 0) :
    zCi B zy_X6_put 1 0 0 [zR t, zI p1] M K :=
  zMet.of mf_X6_put (Nat.le_of_ble_eq_true rfl) rfl (k _)
set_option maxRecDepth 4000 in
theorem b_X6_put_0 {B : zB} {n0 : Nat} {K : Int → zM → Prop} {M : zM} {p1 : Int} {t : Nat} (h_t : zTx t)
    (c1 : (gi M t 1) < 32 → 0 ≤ (gi M t 1) ∧ (gi M t 1) < 32)
    (c2 : (gi M t 1) < 32 → 0 ≤ p1 ∧ p1 < 65536)
    (c3 : (gi M t 1) < 32 → zin ((gi M t 1) + 1))
    (k1 : (gi M t 1) < 32 → K 1 (si (si M (t + 1) (gi M t 1).toNat p1) t 1 ((gi M t 1) + 1)))
    (k2 : 32 ≤ (gi M t 1) → K 0 M) :
    zGi B zy_X6_put 1 0 0 n0 K 0 [some (zR t), some (zI p1)] [] M 0 0 :=
  (r_aload_n (i := 0) dX6_put_0 rfl rfl (r_gi dX6_put_1 fl_X6_15 rfl h_t.1 rfl rfl (r_bipush dX6_put_4 (by decide) rfl (r_icmp_lt (tgt := 11) dX6_put_6 (by decide) (fun h1 => (r_aload_n (i := 0) dX6_put_11 rfl rfl (r_gs (r := (t + 1)) dX6_put_12 fl_X6_9 rfl h_t.1 rfl rfl h_t.2.1 (r_aload_n (i := 0) dX6_put_15 rfl rfl (r_gi dX6_put_16 fl_X6_15 rfl h_t.1 rfl rfl (r_iload_n (i := 1) dX6_put_19 rfl rfl (r_castore (n := 32) dX6_put_20 h_t.2.2 (c1 h1) (c2 h1) (r_aload_n (i := 0) dX6_put_21 rfl rfl (r_dup dX6_put_22 (r_gi dX6_put_23 fl_X6_15 rfl h_t.1 rfl (by simp [gi_si]) (r_iconst dX6_put_26 (by decide) (r_iadd dX6_put_27 (c3 h1) (r_pi dX6_put_28 fl_X6_15 h_t.1 rfl rfl trivial (r_iconst dX6_put_31 (by decide) (r_reti dX6_put_32 rfl (by decide) (Or.inr rfl) (k1 h1)))))))))))))))) (fun h2 => (r_iconst dX6_put_9 (by decide) (r_reti dX6_put_10 rfl (by decide) (Or.inl rfl) (k2 h2))))))))
theorem e_X6_putSome {B : zB} {K : zM → Prop} {M : zM} {p2 p3 : Int} {t : Nat} {u : Nat} (k : ∀ n0, zGv B zy_X6_putSome 2 0 0 n0 K 0 [some (zR t), some (zR u), some (zI p2), some (zI p3), none] [] M 0 0) :
    zCv B zy_X6_putSome 2 0 0 [zR t, zR u, zI p2, zI p3] M K :=
  zMet.of mf_X6_putSome (Nat.le_of_ble_eq_true rfl) rfl (k _)
set_option maxRecDepth 4000 in
theorem b_X6_putSome_0 {B : zB} {n0 : Nat} {K : zM → Prop} {M : zM} {p2 p3 : Int} {t : Nat} (h_t : zTx t) {u : Nat} (h_u : zTx u)
    (k1 : zGv B zy_X6_putSome 2 0 0 n0 K 3 [some (zR t), some (zR u), some (zI p2), some (zI p3), some (zI p2)] [] M 0 0) :
    zGv B zy_X6_putSome 2 0 0 n0 K 0 [some (zR t), some (zR u), some (zI p2), some (zI p3), none] [] M 0 0 :=
  (r_iload_n (i := 2) dX6_putSome_0 rfl rfl (r_istore (i := 4) dX6_putSome_1 (Nat.le_of_ble_eq_true rfl) rfl k1))
set_option maxRecDepth 4000 in
theorem b_X6_putSome_3 {B : zB} {n0 : Nat} {K : zM → Prop} {M : zM} {v2 v3 v4 : Int} {t : Nat} (h_t : zTx t) {u : Nat} (h_u : zTx u)
    (k1 : v4 < 0 → K M)
    (k2 : 0 ≤ v4 → v3 ≤ v4 → K M)
    (k3 : 0 ≤ v4 → v4 < v3 → (gi M u 1) ≤ v4 → K M)
    (c1 : 0 ≤ v4 → v4 < v3 → v4 < (gi M u 1) → 0 ≤ v4 ∧ v4 < 32)
    (k4 : 0 ≤ v4 → v4 < v3 → v4 < (gi M u 1) → zCi B zy_X6_put 1 0 0 [zR t, zI (gi M (u + 1) v4.toNat)] M (fun x M' => zGv B zy_X6_putSome 2 0 0 n0 K 34 [some (zR t), some (zR u), some (zI v2), some (zI v3), some (zI v4)] [zI x] M' 0 0)) :
    zGv B zy_X6_putSome 2 0 0 n0 K 3 [some (zR t), some (zR u), some (zI v2), some (zI v3), some (zI v4)] [] M 0 0 :=
  (r_iload (i := 4) dX6_putSome_3 rfl (r_if_lt (tgt := 41) dX6_putSome_5 (by decide) (fun h1 => (r_retv dX6_putSome_41 rfl (by decide) (k1 h1))) (fun h2 => (r_iload (i := 4) dX6_putSome_8 rfl (r_iload_n (i := 3) dX6_putSome_10 rfl rfl (r_icmp_ge (tgt := 41) dX6_putSome_11 (by decide) (fun h3 => (r_retv dX6_putSome_41 rfl (by decide) (k2 h2 h3))) (fun h4 => (r_iload (i := 4) dX6_putSome_14 rfl (r_aload_n (i := 1) dX6_putSome_16 rfl rfl (r_gi dX6_putSome_17 fl_X6_15 rfl h_u.1 rfl rfl (r_icmp_ge (tgt := 41) dX6_putSome_20 (by decide) (fun h5 => (r_retv dX6_putSome_41 rfl (by decide) (k3 h2 h4 h5))) (fun h6 => (r_aload_n (i := 0) dX6_putSome_23 rfl rfl (r_aload_n (i := 1) dX6_putSome_24 rfl rfl (r_gs (r := (u + 1)) dX6_putSome_25 fl_X6_9 rfl h_u.1 rfl rfl h_u.2.1 (r_iload (i := 4) dX6_putSome_28 rfl (r_cal (n := 32) dX6_putSome_30 h_u.2.2 (c1 h2 h4 h6) rfl (r_cVi (as := [zI (gi M (u + 1) v4.toNat)]) (d := 1) dX6_putSome_31 mf_X6_put mi_X6_put ml_X6_19 rfl rfl h_t.1 (by decide) rfl (Nat.le_of_ble_eq_true rfl) ⟨⟨Nat.le_of_ble_eq_true rfl, Nat.le_of_ble_eq_true rfl⟩, Nat.le_of_ble_eq_true rfl, Nat.le_of_ble_eq_true rfl⟩ (k4 h2 h4 h6)))))))))))))))))))
set_option maxRecDepth 4000 in
theorem b_X6_putSome_34 {B : zB} {n0 : Nat} {K : zM → Prop} {M : zM} {v2 v3 v4 s0 : Int} {t : Nat} (h_t : zTx t) {u : Nat} (h_u : zTx u)
    (c1 : zin (v4 + 1))
    (k1 : zGv B zy_X6_putSome 2 0 0 n0 K 3 [some (zR t), some (zR u), some (zI v2), some (zI v3), some (zI (v4 + 1))] [] M 0 0) :
    zGv B zy_X6_putSome 2 0 0 n0 K 34 [some (zR t), some (zR u), some (zI v2), some (zI v3), some (zI v4)] [zI s0] M 0 0 :=
  (r_pop dX6_putSome_34 (r_iinc (i := 4) dX6_putSome_35 rfl c1 rfl (r_goto (tgt := 3) dX6_putSome_38 (by decide) k1)))
theorem e_X6_become {B : zB} {K : zM → Prop} {M : zM} {t : Nat} {u : Nat} (k : ∀ n0, zGv B zy_X6_become 3 0 0 n0 K 0 [some (zR t), some (zR u)] [] M 0 0) :
    zCv B zy_X6_become 3 0 0 [zR t, zR u] M K :=
  zMet.of mf_X6_become (Nat.le_of_ble_eq_true rfl) rfl (k _)
set_option maxRecDepth 4000 in
theorem b_X6_become_0 {B : zB} {n0 : Nat} {K : zM → Prop} {M : zM} {t : Nat} (h_t : zTx t) {u : Nat} (h_u : zTx u)
    (k1 : zCv B zy_X6_putSome 2 0 0 [zR t, zR u, zI 0, zI (gi (si M t 1 0) u 1)] (si M t 1 0) (fun M' => zGv B zy_X6_become 3 0 0 n0 K 15 [some (zR t), some (zR u)] [] M' 0 0)) :
    zGv B zy_X6_become 3 0 0 n0 K 0 [some (zR t), some (zR u)] [] M 0 0 :=
  (r_aload_n (i := 0) dX6_become_0 rfl rfl (r_iconst dX6_become_1 (by decide) (r_pi dX6_become_2 fl_X6_15 h_t.1 rfl rfl trivial (r_aload_n (i := 0) dX6_become_5 rfl rfl (r_aload_n (i := 1) dX6_become_6 rfl rfl (r_iconst dX6_become_7 (by decide) (r_aload_n (i := 1) dX6_become_8 rfl rfl (r_gi dX6_become_9 fl_X6_15 rfl h_u.1 rfl rfl (r_cVv (as := [zR u, zI 0, zI (gi (si M t 1 0) u 1)]) (d := 2) dX6_become_12 mf_X6_putSome mi_X6_putSome ml_X6_23 rfl rfl h_t.1 (by decide) rfl (Nat.le_of_ble_eq_true rfl) ⟨⟨Nat.le_of_ble_eq_true rfl, Nat.le_of_ble_eq_true rfl⟩, Nat.le_of_ble_eq_true rfl, Nat.le_of_ble_eq_true rfl⟩ k1)))))))))
set_option maxRecDepth 4000 in
theorem b_X6_become_15 {B : zB} {n0 : Nat} {K : zM → Prop} {M : zM} {t : Nat} (h_t : zTx t) {u : Nat} (h_u : zTx u)
    (k1 : K M) :
    zGv B zy_X6_become 3 0 0 n0 K 15 [some (zR t), some (zR u)] [] M 0 0 :=
  (r_retv dX6_become_15 rfl (by decide) k1)
theorem e_X6_holdsSign {B : zB} {K : Int → zM → Prop} {M : zM} {p1 p2 : Int} {t : Nat} (k : ∀ n0, zGi B zy_X6_holdsSign 1 0 0 n0 K 0 [some (zR t), some (zI p1), some (zI p2), none, none] [] M 0 0) :
    zCi B zy_X6_holdsSign 1 0 0 [zR t, zI p1, zI p2] M K :=
  zMet.of mf_X6_holdsSign (Nat.le_of_ble_eq_true rfl) rfl (k _)
set_option maxRecDepth 4000 in
theorem b_X6_holdsSign_0 {B : zB} {n0 : Nat} {K : Int → zM → Prop} {M : zM} {p1 p2 : Int} {t : Nat} (h_t : zTx t)
    (k1 : zGi B zy_X6_holdsSign 1 0 0 n0 K 5 [some (zR t), some (zI p1), some (zI p2), some (zI 0), some (zI 0)] [] M 0 0) :
    zGi B zy_X6_holdsSign 1 0 0 n0 K 0 [some (zR t), some (zI p1), some (zI p2), none, none] [] M 0 0 :=
  (r_iconst dX6_holdsSign_0 (by decide) (r_istore_n (i := 3) dX6_holdsSign_1 rfl (Nat.le_of_ble_eq_true rfl) rfl (r_iconst dX6_holdsSign_2 (by decide) (r_istore (i := 4) dX6_holdsSign_3 (Nat.le_of_ble_eq_true rfl) rfl k1))))
set_option maxRecDepth 4000 in
theorem b_X6_holdsSign_5 {B : zB} {n0 : Nat} {K : Int → zM → Prop} {M : zM} {v1 v2 v3 v4 : Int} {t : Nat} (h_t : zTx t)
    (k1 : (gi M t 1) ≤ v4 → K (if v2 ≤ v3 then 1 else 0) M)
    (c1 : v4 < (gi M t 1) → 0 ≤ v4 ∧ v4 < 32)
    (c2 : v4 < (gi M t 1) → (gi M (t + 1) v4.toNat) = v1 → zin (v3 + 1))
    (c3 : v4 < (gi M t 1) → zin (v4 + 1))
    (k2 : v4 < (gi M t 1) → zGi B zy_X6_holdsSign 1 0 0 n0 K 5 [some (zR t), some (zI v1), some (zI v2), some (zI (if (gi M (t + 1) v4.toNat) = v1 then v3 + 1 else v3)), some (zI (v4 + 1))] [] M 0 0) :
    zGi B zy_X6_holdsSign 1 0 0 n0 K 5 [some (zR t), some (zI v1), some (zI v2), some (zI v3), some (zI v4)] [] M 0 0 :=
  (r_iload (i := 4) dX6_holdsSign_5 rfl (r_aload_n (i := 0) dX6_holdsSign_7 rfl rfl (r_gi dX6_holdsSign_8 fl_X6_15 rfl h_t.1 rfl rfl (r_icmp_ge (tgt := 34) dX6_holdsSign_11 (by decide) (fun h1 => (r_iload_n (i := 3) dX6_holdsSign_34 rfl rfl (r_iload_n (i := 2) dX6_holdsSign_35 rfl rfl ((fun (J1 : ∀ y1_0 : Int, y1_0 = (if v2 ≤ v3 then 1 else 0) → zGi B zy_X6_holdsSign 1 0 0 n0 K 44 [some (zR t), some (zI v1), some (zI v2), some (zI v3), some (zI v4)] [zI y1_0] M 0 0) => (r_icmp_lt (tgt := 43) dX6_holdsSign_36 (by decide) (fun h2 => (r_iconst dX6_holdsSign_43 (by decide) (J1 0 (by first | ((repeat' split) <;> omega) | simp_all | ((repeat' split) <;> simp_all))))) (fun h3 => (r_iconst dX6_holdsSign_39 (by decide) (r_goto (tgt := 44) dX6_holdsSign_40 (by decide) (J1 1 (by first | ((repeat' split) <;> omega) | simp_all | ((repeat' split) <;> simp_all)))))))) (zJ1 (P := (fun (y1_0 : Int) => zGi B zy_X6_holdsSign 1 0 0 n0 K 44 [some (zR t), some (zI v1), some (zI v2), some (zI v3), some (zI v4)] [zI y1_0] M 0 0)) (r_reti dX6_holdsSign_44 rfl (by decide) (zbool rfl) (k1 h1))))))) (fun h4 => (r_aload_n (i := 0) dX6_holdsSign_14 rfl rfl (r_gs (r := (t + 1)) dX6_holdsSign_15 fl_X6_9 rfl h_t.1 rfl rfl h_t.2.1 (r_iload (i := 4) dX6_holdsSign_18 rfl (r_cal (n := 32) dX6_holdsSign_20 h_t.2.2 (c1 h4) rfl (r_iload_n (i := 1) dX6_holdsSign_21 rfl rfl ((fun (J2 : ∀ y2_0 : Int, y2_0 = (if (gi M (t + 1) v4.toNat) = v1 then v3 + 1 else v3) → zGi B zy_X6_holdsSign 1 0 0 n0 K 28 [some (zR t), some (zI v1), some (zI v2), some (zI y2_0), some (zI v4)] [] M 0 0) => (r_icmp_ne (tgt := 28) dX6_holdsSign_22 (by decide) (fun h5 => (J2 v3 (by first | ((repeat' split) <;> omega) | simp_all | ((repeat' split) <;> simp_all)))) (fun h6 => (r_iinc (i := 3) dX6_holdsSign_25 rfl (c2 h4 h6) rfl (J2 (v3 + 1) (by first | ((repeat' split) <;> omega) | simp_all | ((repeat' split) <;> simp_all))))))) (zJ1 (P := (fun (y2_0 : Int) => zGi B zy_X6_holdsSign 1 0 0 n0 K 28 [some (zR t), some (zI v1), some (zI v2), some (zI y2_0), some (zI v4)] [] M 0 0)) (r_iinc (i := 4) dX6_holdsSign_28 rfl (c3 h4) rfl (r_goto (tgt := 5) dX6_holdsSign_31 (by decide) (k2 h4)))))))))))))))
theorem e_X6_holdsPair {B : zB} {K : Int → zM → Prop} {M : zM} {p1 p2 p3 : Int} {t : Nat} (k : ∀ n0, zGi B zy_X6_holdsPair 1 0 0 n0 K 0 [some (zR t), some (zI p1), some (zI p2), some (zI p3), none, none] [] M 0 0) :
    zCi B zy_X6_holdsPair 1 0 0 [zR t, zI p1, zI p2, zI p3] M K :=
  zMet.of mf_X6_holdsPair (Nat.le_of_ble_eq_true rfl) rfl (k _)
set_option maxRecDepth 4000 in
theorem b_X6_holdsPair_0 {B : zB} {n0 : Nat} {K : Int → zM → Prop} {M : zM} {p1 p2 p3 : Int} {t : Nat} (h_t : zTx t)
    (k1 : zGi B zy_X6_holdsPair 1 0 0 n0 K 6 [some (zR t), some (zI p1), some (zI p2), some (zI p3), some (zI 0), some (zI 0)] [] M 0 0) :
    zGi B zy_X6_holdsPair 1 0 0 n0 K 0 [some (zR t), some (zI p1), some (zI p2), some (zI p3), none, none] [] M 0 0 :=
  (r_iconst dX6_holdsPair_0 (by decide) (r_istore (i := 4) dX6_holdsPair_1 (Nat.le_of_ble_eq_true rfl) rfl (r_iconst dX6_holdsPair_3 (by decide) (r_istore (i := 5) dX6_holdsPair_4 (Nat.le_of_ble_eq_true rfl) rfl k1))))
set_option maxRecDepth 4000 in
theorem b_X6_holdsPair_6 {B : zB} {n0 : Nat} {K : Int → zM → Prop} {M : zM} {v1 v2 v3 v4 v5 : Int} {t : Nat} (h_t : zTx t)
    (k1 : (gi M t 1) ≤ v5 → K 0 M)
    (c1 : v5 < (gi M t 1) → v4 = 0 → 0 ≤ v5 ∧ v5 < 32)
    (c2 : v5 < (gi M t 1) → v4 = 0 → zin (v5 + 1))
    (k2 : v5 < (gi M t 1) → v4 = 0 → zGi B zy_X6_holdsPair 1 0 0 n0 K 6 [some (zR t), some (zI v1), some (zI v2), some (zI v3), some (zI (if (gi M (t + 1) v5.toNat) = v1 ∨ ((¬ v4 = 0) ∧ v3 = 0) then 1 else 0)), some (zI (v5 + 1))] [] M 0 0)
    (c3 : v5 < (gi M t 1) → ¬ v4 = 0 → 0 ≤ v5 ∧ v5 < 32)
    (c4 : v5 < (gi M t 1) → ¬ v4 = 0 → ¬ (gi M (t + 1) v5.toNat) = v2 → zin (v5 + 1))
    (k3 : v5 < (gi M t 1) → ¬ v4 = 0 → ¬ (gi M (t + 1) v5.toNat) = v2 → zGi B zy_X6_holdsPair 1 0 0 n0 K 6 [some (zR t), some (zI v1), some (zI v2), some (zI v3), some (zI (if (gi M (t + 1) v5.toNat) = v1 ∨ ((¬ v4 = 0) ∧ v3 = 0) then 1 else 0)), some (zI (v5 + 1))] [] M 0 0)
    (k4 : v5 < (gi M t 1) → ¬ v4 = 0 → (gi M (t + 1) v5.toNat) = v2 → K 1 M) :
    zGi B zy_X6_holdsPair 1 0 0 n0 K 6 [some (zR t), some (zI v1), some (zI v2), some (zI v3), some (zI v4), some (zI v5)] [] M 0 0 :=
  (r_iload (i := 5) dX6_holdsPair_6 rfl (r_aload_n (i := 0) dX6_holdsPair_8 rfl rfl (r_gi dX6_holdsPair_9 fl_X6_15 rfl h_t.1 rfl rfl (r_icmp_ge (tgt := 66) dX6_holdsPair_12 (by decide) (fun h1 => (r_iconst dX6_holdsPair_66 (by decide) (r_reti dX6_holdsPair_67 rfl (by decide) (Or.inl rfl) (k1 h1)))) (fun h2 => (r_iload (i := 4) dX6_holdsPair_15 rfl (r_if_eq (tgt := 33) dX6_holdsPair_17 (by decide) (fun h3 => (r_aload_n (i := 0) dX6_holdsPair_33 rfl rfl (r_gs (r := (t + 1)) dX6_holdsPair_34 fl_X6_9 rfl h_t.1 rfl rfl h_t.2.1 (r_iload (i := 5) dX6_holdsPair_37 rfl (r_cal (n := 32) dX6_holdsPair_39 h_t.2.2 (c1 h2 h3) rfl (r_iload_n (i := 1) dX6_holdsPair_40 rfl rfl ((fun (J1 : ∀ y1_0 : Int, y1_0 = (if (gi M (t + 1) v5.toNat) = v1 ∨ ((¬ v4 = 0) ∧ v3 = 0) then 1 else 0) → zGi B zy_X6_holdsPair 1 0 0 n0 K 58 [some (zR t), some (zI v1), some (zI v2), some (zI v3), some (zI v4), some (zI v5)] [zI y1_0] M 0 0) => (r_icmp_eq (tgt := 53) dX6_holdsPair_41 (by decide) (fun h4 => (r_iconst dX6_holdsPair_53 (by decide) (r_goto (tgt := 58) dX6_holdsPair_54 (by decide) (J1 1 (by first | ((repeat' split) <;> omega) | simp_all | ((repeat' split) <;> simp_all)))))) (fun h5 => (r_iload (i := 4) dX6_holdsPair_44 rfl (r_if_eq (tgt := 57) dX6_holdsPair_46 (by decide) (fun h6 => (r_iconst dX6_holdsPair_57 (by decide) (J1 0 (by first | ((repeat' split) <;> omega) | simp_all | ((repeat' split) <;> simp_all))))) (fun h7 => (r_iload_n (i := 3) dX6_holdsPair_49 rfl rfl (r_if_ne (tgt := 57) dX6_holdsPair_50 (by decide) (fun h8 => (r_iconst dX6_holdsPair_57 (by decide) (J1 0 (by first | ((repeat' split) <;> omega) | simp_all | ((repeat' split) <;> simp_all))))) (fun h9 => (r_iconst dX6_holdsPair_53 (by decide) (r_goto (tgt := 58) dX6_holdsPair_54 (by decide) (J1 1 (by first | ((repeat' split) <;> omega) | simp_all | ((repeat' split) <;> simp_all)))))))))))))) (zJ1 (P := (fun (y1_0 : Int) => zGi B zy_X6_holdsPair 1 0 0 n0 K 58 [some (zR t), some (zI v1), some (zI v2), some (zI v3), some (zI v4), some (zI v5)] [zI y1_0] M 0 0)) (r_istore (i := 4) dX6_holdsPair_58 (Nat.le_of_ble_eq_true rfl) rfl (r_iinc (i := 5) dX6_holdsPair_60 rfl (c2 h2 h3) rfl (r_goto (tgt := 6) dX6_holdsPair_63 (by decide) (k2 h2 h3)))))))))))) (fun h10 => (r_aload_n (i := 0) dX6_holdsPair_20 rfl rfl (r_gs (r := (t + 1)) dX6_holdsPair_21 fl_X6_9 rfl h_t.1 rfl rfl h_t.2.1 (r_iload (i := 5) dX6_holdsPair_24 rfl (r_cal (n := 32) dX6_holdsPair_26 h_t.2.2 (c3 h2 h10) rfl (r_iload_n (i := 2) dX6_holdsPair_27 rfl rfl (r_icmp_ne (tgt := 33) dX6_holdsPair_28 (by decide) (fun h11 => (r_aload_n (i := 0) dX6_holdsPair_33 rfl rfl (r_gs (r := (t + 1)) dX6_holdsPair_34 fl_X6_9 rfl h_t.1 rfl rfl h_t.2.1 (r_iload (i := 5) dX6_holdsPair_37 rfl (r_cal (n := 32) dX6_holdsPair_39 h_t.2.2 (c3 h2 h10) rfl (r_iload_n (i := 1) dX6_holdsPair_40 rfl rfl ((fun (J2 : ∀ y2_0 : Int, y2_0 = (if (gi M (t + 1) v5.toNat) = v1 ∨ ((¬ v4 = 0) ∧ v3 = 0) then 1 else 0) → zGi B zy_X6_holdsPair 1 0 0 n0 K 58 [some (zR t), some (zI v1), some (zI v2), some (zI v3), some (zI v4), some (zI v5)] [zI y2_0] M 0 0) => (r_icmp_eq (tgt := 53) dX6_holdsPair_41 (by decide) (fun h12 => (r_iconst dX6_holdsPair_53 (by decide) (r_goto (tgt := 58) dX6_holdsPair_54 (by decide) (J2 1 (by first | ((repeat' split) <;> omega) | simp_all | ((repeat' split) <;> simp_all)))))) (fun h13 => (r_iload (i := 4) dX6_holdsPair_44 rfl (r_if_eq (tgt := 57) dX6_holdsPair_46 (by decide) (fun h14 => (r_iconst dX6_holdsPair_57 (by decide) (J2 0 (by first | ((repeat' split) <;> omega) | simp_all | ((repeat' split) <;> simp_all))))) (fun h15 => (r_iload_n (i := 3) dX6_holdsPair_49 rfl rfl (r_if_ne (tgt := 57) dX6_holdsPair_50 (by decide) (fun h16 => (r_iconst dX6_holdsPair_57 (by decide) (J2 0 (by first | ((repeat' split) <;> omega) | simp_all | ((repeat' split) <;> simp_all))))) (fun h17 => (r_iconst dX6_holdsPair_53 (by decide) (r_goto (tgt := 58) dX6_holdsPair_54 (by decide) (J2 1 (by first | ((repeat' split) <;> omega) | simp_all | ((repeat' split) <;> simp_all)))))))))))))) (zJ1 (P := (fun (y2_0 : Int) => zGi B zy_X6_holdsPair 1 0 0 n0 K 58 [some (zR t), some (zI v1), some (zI v2), some (zI v3), some (zI v4), some (zI v5)] [zI y2_0] M 0 0)) (r_istore (i := 4) dX6_holdsPair_58 (Nat.le_of_ble_eq_true rfl) rfl (r_iinc (i := 5) dX6_holdsPair_60 rfl (c4 h2 h10 h11) rfl (r_goto (tgt := 6) dX6_holdsPair_63 (by decide) (k3 h2 h10 h11)))))))))))) (fun h18 => (r_iconst dX6_holdsPair_31 (by decide) (r_reti dX6_holdsPair_32 rfl (by decide) (Or.inr rfl) (k4 h2 h10 h18))))))))))))))))))
