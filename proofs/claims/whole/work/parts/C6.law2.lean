/-! ===== the law's loop, the law from its entry ===== -/
section LL
variable {B : zB} {b L : Nat} {xs : Nat → Int32}
theorem l_law_18 (hL : L ≤ 256) : ∀ (d : Nat) (i : Int) (M : zM) (ce sl : Nat), LI M → 0 ≤ i → (L : Int) ≤ i + 4 * d → ce + d ≤ 600000 → sl + 7 * d ≤ 7302250 → zW B (zLaw b L B.2.2.2 xs) 18 [some (zX b), some (zR 0), some (zR 45), some (zI i)] [] zA1 M ce sl := by
  intro d
  induction d with
  | zero =>
    intro i M ce sl hM hi0 hd hce hsl
    refine r_iload_n (i := 3) (dl dL_law_18) rfl rfl ?_
    refine r_aload_n (i := 0) (dl dL_law_19) rfl rfl ?_
    refine r_slen (L := L) (xs := xs) rl_hX (dl dL_law_20) ⟨by omega, by omega⟩ ?_
    refine r_iconst (dl dL_law_21) (by decide) ?_
    refine r_isub (dl dL_law_22) ⟨by omega, by omega⟩ ?_
    refine r_icmp_gt (tgt := 617) (dl dL_law_23) rfl (fun _ => ?_) (fun q => by omega)
    refine r_iconst (dl dL_law_617) (by decide) ?_
    exact r_lawret dL_law_618 ⟨by omega, by omega⟩
  | succ d ih =>
    intro i M ce sl hM hi0 hd hce hsl
    refine r_iload_n (i := 3) (dl dL_law_18) rfl rfl ?_
    refine r_aload_n (i := 0) (dl dL_law_19) rfl rfl ?_
    refine r_slen (L := L) (xs := xs) rl_hX (dl dL_law_20) ⟨by omega, by omega⟩ ?_
    refine r_iconst (dl dL_law_21) (by decide) ?_
    refine r_isub (dl dL_law_22) ⟨by omega, by omega⟩ ?_
    refine r_icmp_gt (tgt := 617) (dl dL_law_23) rfl (fun _ => ?_) (fun q => ?_)
    · refine r_iconst (dl dL_law_617) (by decide) ?_
      exact r_lawret dL_law_618 ⟨by omega, by omega⟩
    · have nx : ∀ M' ce' sl', LI M' → ce' ≤ ce + 1 → sl' ≤ sl + 7 → zW B (zLaw b L B.2.2.2 xs) 611 [some (zX b), some (zR 0), some (zR 45), some (zI i)] [] zA1 M' ce' sl' := fun M' ce' sl' hM' h1 h2 => by
        refine r_iinc (i := 3) (dl dL_law_611) rfl ⟨by omega, by omega⟩ rfl ?_
        refine r_goto (tgt := 18) (dl dL_law_614) rfl ?_
        exact ih (i + 4) M' ce' sl' hM' (by omega) (by omega) (by omega) (by omega)
      obtain ⟨ty, wr, sk, w, u, G, j, on, rd, h, h'⟩ := id hM
      refine r_aload_n (i := 0) (dl dL_law_26) rfl rfl ?_
      refine r_iload_n (i := 3) (dl dL_law_27) rfl rfl ?_
      refine r_sld (L := L) (xs := xs) rl_hX (dl dL_law_28) ⟨by omega, by omega⟩ ?_
      refine r_bipush (dl dL_law_29) (by decide) rfl ?_
      refine r_iand (dl dL_law_31) ?_
      refine r_table (tgt := 611) (dl dL_law_32) rfl (fun _ => nx M ce sl hM (by omega) (by omega)) (fun c hc hx => ?_)
      exact match c, hc, hx with
      | 0, _, _ => ⟨92, 124, rfl, by decide, lc_type h h' ⟨hi0, by omega⟩ hL ⟨by omega, by omega⟩ nx⟩
      | 1, _, _ => ⟨117, 149, rfl, by decide, lc_clear h h' ⟨hi0, by omega⟩ hL ⟨by omega, by omega⟩ nx⟩
      | 2, _, _ => ⟨128, 160, rfl, by decide, lc_write h h' ⟨hi0, by omega⟩ hL ⟨by omega, by omega⟩ nx⟩
      | 3, _, _ => ⟨153, 185, rfl, by decide, lc_read h h' ⟨hi0, by omega⟩ hL ⟨by omega, by omega⟩ nx⟩
      | 4, _, _ => ⟨166, 198, rfl, by decide, lc_has h h' ⟨hi0, by omega⟩ hL ⟨by omega, by omega⟩ nx⟩
      | 5, _, _ => ⟨201, 233, rfl, by decide, lc_pair h h' ⟨hi0, by omega⟩ hL ⟨by omega, by omega⟩ nx⟩
      | 6, _, _ => ⟨264, 296, rfl, by decide, lc_size h h' ⟨hi0, by omega⟩ hL ⟨by omega, by omega⟩ nx⟩
      | 7, _, _ => ⟨287, 319, rfl, by decide, lc_not h h' ⟨hi0, by omega⟩ hL ⟨by omega, by omega⟩ nx⟩
      | 8, _, _ => ⟨300, 332, rfl, by decide, lc_join h h' ⟨hi0, by omega⟩ hL ⟨by omega, by omega⟩ nx⟩
      | 9, _, _ => ⟨339, 371, rfl, by decide, lc_mark h h' ⟨hi0, by omega⟩ hL ⟨by omega, by omega⟩ nx⟩
      | 10, _, _ => ⟨378, 410, rfl, by decide, lc_remember h h' ⟨hi0, by omega⟩ hL ⟨by omega, by omega⟩ nx⟩
      | 11, _, _ => ⟨415, 447, rfl, by decide, lc_outcome h h' ⟨hi0, by omega⟩ hL ⟨by omega, by omega⟩ nx⟩
      | 12, _, _ => ⟨428, 460, rfl, by decide, lc_nodes h h' ⟨hi0, by omega⟩ hL ⟨by omega, by omega⟩ nx⟩
      | 13, _, _ => ⟨441, 473, rfl, by decide, lc_node h h' ⟨hi0, by omega⟩ hL ⟨by omega, by omega⟩ nx⟩
      | 14, _, _ => ⟨464, 496, rfl, by decide, lc_depth h h' ⟨hi0, by omega⟩ hL ⟨by omega, by omega⟩ nx⟩
      | 15, _, _ => ⟨487, 519, rfl, by decide, lc_reduce h h' ⟨hi0, by omega⟩ hL ⟨by omega, by omega⟩ nx⟩
      | 16, _, _ => ⟨520, 552, rfl, by decide, lc_length h h' ⟨hi0, by omega⟩ hL ⟨by omega, by omega⟩ nx⟩
      | 17, _, _ => ⟨533, 565, rfl, by decide, lc_at h h' ⟨hi0, by omega⟩ hL ⟨by omega, by omega⟩ nx⟩
      | 18, _, _ => ⟨556, 588, rfl, by decide, lc_count h h' ⟨hi0, by omega⟩ hL ⟨by omega, by omega⟩ nx⟩
      | c + 19, hc, _ => absurd hc (by omega)
theorem l_law_0 (hL : L ≤ 256) : zW B (zLaw b L B.2.2.2 xs) 0 [some (zX b), none, none, none] [] iA0 (mZ fA0 0) 0 0 := by
  refine ri_new (ci := 8) (M' := mZ fA0 1) (dl dL_law_0) (by decide) cl_L_7 rfl (fun j _ _ => rfl) ⟨Nat.le_of_ble_eq_true rfl, Nat.le_of_ble_eq_true rfl⟩ (nw_mZ (fun _ => rfl)) ?_
  refine r_dup (dl dL_law_3) ?_
  refine r_callI (y := zy_X8_init) (as := []) (k := 0) (d := 4) (mc := 44) (ms := 2624) (dl dL_law_4) mf_X8_init mi_X8_init rfl rfl ml_L_9 rfl rfl (Nat.le_of_ble_eq_true rfl) ⟨⟨Nat.le_of_ble_eq_true rfl, Nat.le_of_ble_eq_true rfl⟩, Nat.le_of_ble_eq_true rfl, Nat.le_of_ble_eq_true rfl⟩ (ci_X8_init_0 (fun _ => ?_))
  refine r_astore_n (i := 1) (dl dL_law_7) rfl (Nat.le_of_ble_eq_true rfl) rfl ?_
  refine ri_new (ci := 9) (M' := mZ fA1 46) (dl dL_law_8) (by decide) cl_L_10 rfl (by decide +kernel) ⟨Nat.le_of_ble_eq_true rfl, Nat.le_of_ble_eq_true rfl⟩ (nw_mZ (fun _ => rfl)) ?_
  refine r_dup (dl dL_law_11) ?_
  refine r_callI (y := zy_X9_init) (as := []) (k := 45) (d := 1) (mc := 42) (ms := 4217) (dl dL_law_12) mf_X9_init mi_X9_init rfl rfl ml_L_12 rfl rfl (Nat.le_of_ble_eq_true rfl) ⟨⟨Nat.le_of_ble_eq_true rfl, Nat.le_of_ble_eq_true rfl⟩, Nat.le_of_ble_eq_true rfl, Nat.le_of_ble_eq_true rfl⟩ (ci_X9_init_45 (fun _ => ?_))
  refine r_astore_n (i := 2) (dl dL_law_15) rfl (Nat.le_of_ble_eq_true rfl) rfl ?_
  refine zW.full full_end rfl ?_
  refine r_iconst (dl dL_law_16) (by decide) ?_
  refine r_istore_n (i := 3) (dl dL_law_17) rfl (Nat.le_of_ble_eq_true rfl) rfl ?_
  exact l_law_18 hL 64 0 mZ0 _ _ ⟨_, _, _, _, _, _, _, _, _, XS.zero, MS.zero⟩ (Int.le_refl _) (by omega) (Nat.le_of_ble_eq_true rfl) (Nat.le_of_ble_eq_true rfl)
end LL
/-- YOUR PART: from the entry, for every script of at most 256 ints, the law comes to its end with true ('hflags': the launch's flags, for a law that throws: no stack traces) -/
theorem whole_start {p : Program} {e : Env} {s : State} {m : MethodId} {below : List Frame} {meth : Method} {c : Code} (l : Launch) (hflags : l.flags = flags0) {b L : Nat} {xs : Nat → Int32} (hL : L ≤ 256) (C0 : lw_At p s m meth c b L xs) : W p l e room_1 s m #[Value.ref b] below meth c s.heap [] 0 0 (lw_Z below #[Value.ref b] s) (entryFrame m ([Value.ref b] : List Value).toArray 4) := by
  obtain ⟨hx, hb, hr, hml, hown, hts, hX, hbl, hlocks, hgv⟩ := id C0
  obtain ⟨D, cA, hKn⟩ := zKn_start hts
  have hw := l_law_0 (B := (l, D, cA, s.heap.size)) (b := b) (xs := xs) hL
  rw [lg_entry_eq]
  exact hw p e s m #[Value.ref b] below meth c s.heap [] _ ⟨hx, hb, hml, hown, fun w hw => hts w (List.mem_filter.mp hw).1, hr, hlocks, fun h => absurd h (show ¬ ("law" : String) = "<init>" by decide)⟩ ⟨hX, hbl, rfl⟩ (hKn l s.heap.size) ⟨rfl, fun k hk => absurd hk (Nat.not_lt_zero k), fun _ _ => (by show zin 0; decide), fun _ _ _ h => (by cases h), fun _ _ h => (by cases h)⟩ va_S.rf (Nat.le_refl _) (Nat.le_refl _) (zlh_entry s.heap.size [zX b] (n := 4) (show 1 ≤ 4 by decide)) (fun v hv => by
    have : v = zX b := by simpa using hv
    rw [this]
    trivial) (fun v hv => by cases hv)
