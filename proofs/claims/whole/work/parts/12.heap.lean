/-! ===== cells: how each is read and written ===== -/
theorem zat_arr {B : zB} {ini : zIni} {M : zM} {H : Heap} {k t n : Nat} (h : zat B ini M k H) (hk : zkd k = .inl (t, n)) (ht : t ≠ 3) : H[B.2.2.2 + k]? = some (arrV (B.2.2.1 t) n (fun j => .int (Int32.ofInt (gi M k j)))) := by
  unfold zat zcell at h
  rw [hk] at h
  have h2 : H[B.2.2.2 + k]? = some (vp_cell (B.2.2.1 t) (zarr B.2.2.2 M k t n)) := h
  rw [h2]
  unfold zarr
  rw [if_neg ht]
  rfl
theorem zat_arrq {B : zB} {ini : zIni} {M : zM} {H : Heap} {k n : Nat} (h : zat B ini M k H) (hk : zkd k = .inl (3, n)) : H[B.2.2.2 + k]? = some (arrV (B.2.2.1 3) n (fun j => va_rf ((gr M k j).map (B.2.2.2 + ·)))) := by
  unfold zat zcell at h
  rw [hk] at h
  exact h
theorem zat_arr_mk {B : zB} {ini : zIni} {M : zM} {H : Heap} {k t n : Nat} (hk : zkd k = .inl (t, n)) (ht : t ≠ 3) (h : H[B.2.2.2 + k]? = some (arrV (B.2.2.1 t) n (fun j => .int (Int32.ofInt (gi M k j))))) : zat B ini M k H := by
  unfold zat zcell
  rw [hk]
  show H[B.2.2.2 + k]? = some (vp_cell (B.2.2.1 t) (zarr B.2.2.2 M k t n))
  rw [h]
  unfold zarr
  rw [if_neg ht]
  rfl
theorem zat_arrq_mk {B : zB} {ini : zIni} {M : zM} {H : Heap} {k n : Nat} (hk : zkd k = .inl (3, n)) (h : H[B.2.2.2 + k]? = some (arrV (B.2.2.1 3) n (fun j => va_rf ((gr M k j).map (B.2.2.2 + ·))))) : zat B ini M k H := by
  unfold zat zcell
  rw [hk]
  exact h
theorem zat_obj {B : zB} {ini : zIni} {M : zM} {H : Heap} {k c : Nat} (h : zat B ini M k H) (hk : zkd k = .inr c) (hc : c < 10) : t_OB (B.2.2.2 + k) (B.2.1.1 c) (znf c) (B.2.1.2 c) H (fun j => zfv B.2.2.2 ini M k c j) := by
  unfold zat zcell at h
  rw [hk] at h
  obtain ⟨r, h1, h2⟩ := h
  have hr : r = (zNm c, zT c, znf c) := Option.some.inj (h1.symm.trans (zc_cl c hc))
  subst hr
  refine t_OB.to h2 (fun j hj => ?_)
  have hj : j < znf c := hj
  unfold vp_V
  simp [List.getD, hj]
theorem zat_obj_mk {B : zB} {ini : zIni} {M : zM} {H : Heap} {k c : Nat} (hk : zkd k = .inr c) (hc : c < 10) (h : t_OB (B.2.2.2 + k) (B.2.1.1 c) (znf c) (B.2.1.2 c) H (fun j => zfv B.2.2.2 ini M k c j)) : zat B ini M k H := by
  unfold zat zcell
  rw [hk]
  refine ⟨_, zc_cl c hc, t_OB.to h (fun j hj => ?_)⟩
  have hj : j < znf c := hj
  unfold vp_V
  simp [List.getD, hj]
/-- a cell depends on its own row of the memory -/
theorem zat_same {B : zB} {ini ini' : zIni} {M M' : zM} {k : Nat} {H H' : Heap} (h : zat B ini M k H) (hq : H'[B.2.2.2 + k]? = H[B.2.2.2 + k]?) (h1 : gi M' k = gi M k) (h2 : gr M' k = gr M k) (h3 : ini' k = ini k) : zat B ini' M' k H' := by
  have e : zcell B ini' M' k = zcell B ini M k := by
    unfold zcell zarr
    cases zkd k with
    | inl q => simp only [h1, h2]
    | inr c =>
      simp only
      congr 2
      apply List.map_congr_left
      intro j _
      unfold zfv
      rw [h1, h2, h3]
  unfold zat
  rw [e]
  exact va_at.kept h hq
/-- writing: one cell anew, the others as they were -/
theorem zrel_set {B : zB} {ini ini' : zIni} {M M' : zM} {k : Nat} {H H' : Heap} (h : zrel B ini M H) (hk : zat B ini' M' k H') (hz : H'.size = H.size) (ho : ∀ q : Nat, q ≠ B.2.2.2 + k → H'[q]? = H[q]?) (hn : gn M' = gn M)
    (h1 : ∀ a, a ≠ k → gi M' a = gi M a) (h2 : ∀ a, a ≠ k → gr M' a = gr M a) (h3 : ∀ a, a ≠ k → ini' a = ini a) (hw : zwf ini' M') : zrel B ini' M' H' := by
  refine ⟨by rw [hz, hn]; exact h.1, fun a ha => ?_, hw⟩
  by_cases e : a = k
  · subst e; exact hk
  · exact zat_same (h.2.1 a (by rw [← hn]; exact ha)) (ho _ (by omega)) (h1 a e) (h2 a e) (h3 a e)
theorem zwf_si {ini : zIni} {M : zM} (h : zwf ini M) {k j : Nat} {x : Int} (hx : zin x) : zwf ini (si M k j x) := by
  refine ⟨fun a b => ?_, h.2.1, h.2.2⟩
  rw [gi_si]
  split
  · exact hx
  · exact h.1 a b
theorem zwf_sr {ini : zIni} {M : zM} (h : zwf ini M) {k j : Nat} {x : Option Nat} (hx : ∀ r, x = some r → r < gn M) : zwf ini (sr M k j x) := by
  refine ⟨h.1, fun a b r hr => ?_, h.2.2⟩
  rw [gr_sr] at hr
  split at hr
  · exact hx r hr
  · exact h.2.1 a b r hr
/-- one more reference that is set once is set -/
def zst (ini : zIni) (k j : Nat) : zIni := fun a => if a = k then (fun b => if b = j then true else ini a b) else ini a
theorem zst_ne {ini : zIni} {k j a : Nat} (h : a ≠ k) : zst ini k j a = ini a := by
  unfold zst; rw [if_neg h]
theorem zst_k {ini : zIni} {k j b : Nat} : zst ini k j k b = if b = j then true else ini k b := by
  unfold zst; rw [if_pos rfl]
theorem zwf_zst {ini : zIni} {M : zM} (h : zwf ini M) {k j : Nat} (hx : zsf k j < gn M) : zwf (zst ini k j) M := by
  refine ⟨h.1, h.2.1, fun a b hab => ?_⟩
  by_cases e : a = k
  · subst e
    rw [zst_k] at hab
    by_cases e2 : b = j
    · subst e2; exact hx
    · rw [if_neg e2] at hab; exact h.2.2 a b hab
  · rw [zst_ne e] at hab; exact h.2.2 a b hab
theorem zupd {f : Nat → Int} {g : Nat → Int} {i : Nat} {x : Int} (h : ∀ j, g j = if j = i then x else f j) : (fun j => (Value.int (Int32.ofInt (g j)))) = updV (fun j => .int (Int32.ofInt (f j))) i (.int (Int32.ofInt x)) := by
  funext j
  unfold updV
  rw [h j]
  split <;> rfl
theorem zK_arr {B : zB} {s : State} (hK : zKn B s) {t : Nat} (ht : t < 4) : ArrOfT s (B.2.2.1 t) (zta t) ∧ va_RA s (B.2.2.1 t) (zta t) := by
  have h : (ztys B)[t]? = some (B.2.2.1 t, zta t) := by
    rcases (show t = 0 ∨ t = 1 ∨ t = 2 ∨ t = 3 by omega) with rfl | rfl | rfl | rfl <;> rfl
  exact hK.1.2 t _ h
section ZH
variable {B : zB} {E : zE} {pc : Nat} {ls : List (Option zV)} {st : List zV} {ini : zIni} {M : zM} {ce sl : Nat}
/-- reading a field -/
theorem zget {p : Program} {e : Env} {R : Room} {s : State} {m : MethodId} {args : Array Value} {below : List Frame} {meth : Method} {c : Code} {H : Heap} {locs : List Loc} {Q : State → Prop} {lsr : Array Slot} {rest : List Value} {y : zY}
    (hF : zFix y p s m args meth c) (hK : zKn B s) (hR : zrel B ini M H) {idx ci j k : Nat} (hk : k < gn M) (hL : zLnk y.1.cls idx ci j) (hkd : zkd k = .inr ci) (hd : decode y.2.1 pc = .ok (.getfield idx, 3))
    (kk : W p B.1 e R s m args below meth c H locs ce sl Q (F0 m (pc + 3) lsr (zfv B.2.2.2 ini M k ci j :: rest))) : W p B.1 e R s m args below meth c H locs ce sl Q (F0 m pc lsr (.ref (B.2.2.2 + k) :: rest)) := by
  obtain ⟨hx, hb, -, hown, hts, -⟩ := hF
  obtain ⟨hc, hj, hw⟩ := hL
  obtain ⟨cell, q1, q2, q3, q4⟩ := zat_obj (hR.2.1 k hk) hkd hc
  obtain ⟨hS, hfc, kC, hkC, hkind⟩ := hK.1.1 ci _ (zc_cl ci hc)
  obtain ⟨cf, kf, fi, f, hi, hsl⟩ := hS j hj
  refine W.getf hx hb hown (hts _ hw) hi (u_facts hfc hkC (u_lays hts (zc_in ci hc) hj) hi).1 q1 (by rw [q3]; exact fun h => by cases h) (v := zfv B.2.2.2 ini M k ci j) ?_ rfl rfl hd kk
  rw [hsl, q4 j hj]
theorem r_geti {k ci j idx : Nat} (hd : decode E.1.2.1 pc = .ok (.getfield idx, 3)) (hL : zLnk E.1.1.cls idx ci j) (hkd : zkd k = .inr ci) (hs : zsk ci j = 0) (kk : zW B E (pc + 3) ls (zI (gi M k j) :: st) ini M ce sl) : zW B E pc ls (zR k :: st) ini M ce sl := by
  intro p e s m args below meth c H locs lsr hF hE hK hR hS hbs hn hl hlo hst
  refine zget hF hK hR (zok_h hst) hL hkd hd ?_
  have k2 := kk p e s m args below meth c H locs lsr hF hE hK hR hS hbs hn hl hlo (zok_cons (v := zI (gi M k j)) (hR.2.2.1 k j) (zok_t hst))
  unfold zfv
  rw [hs]
  exact k2
theorem r_gets {k ci j idx : Nat} (hd : decode E.1.2.1 pc = .ok (.getfield idx, 3)) (hL : zLnk E.1.1.cls idx ci j) (hkd : zkd k = .inr ci) (hs : zsk ci j = 1) (hi : ini k j = true) (kk : zW B E (pc + 3) ls (zR (zsf k j) :: st) ini M ce sl) : zW B E pc ls (zR k :: st) ini M ce sl := by
  intro p e s m args below meth c H locs lsr hF hE hK hR hS hbs hn hl hlo hst
  refine zget hF hK hR (zok_h hst) hL hkd hd ?_
  have k2 := kk p e s m args below meth c H locs lsr hF hE hK hR hS hbs hn hl hlo (zok_cons (v := zR (zsf k j)) (hR.2.2.2.2 k j hi) (zok_t hst))
  unfold zfv
  rw [hs, if_pos hi]
  exact k2
theorem zrf_tr (base : Nat) (o : Option Nat) : va_rf (o.map (base + ·)) = ztr base (zO o) := by
  cases o <;> rfl
theorem zok_gr {ini : zIni} {M : zM} (h : zwf ini M) (k j : Nat) : zokV (gn M) (zO (gr M k j)) := by
  cases hg : gr M k j with
  | none => trivial
  | some r => exact h.2.1 k j r hg
theorem r_getd {k ci j idx : Nat} (hd : decode E.1.2.1 pc = .ok (.getfield idx, 3)) (hL : zLnk E.1.1.cls idx ci j) (hkd : zkd k = .inr ci) (hs : zsk ci j = 2) (kk : zW B E (pc + 3) ls (zO (gr M k j) :: st) ini M ce sl) : zW B E pc ls (zR k :: st) ini M ce sl := by
  intro p e s m args below meth c H locs lsr hF hE hK hR hS hbs hn hl hlo hst
  refine zget hF hK hR (zok_h hst) hL hkd hd ?_
  have k2 := kk p e s m args below meth c H locs lsr hF hE hK hR hS hbs hn hl hlo (zok_cons (zok_gr hR.2.2 k j) (zok_t hst))
  unfold zfv
  rw [hs]
  show W _ _ _ _ _ _ _ _ _ _ _ _ _ _ _ (F0 m (pc + 3) lsr (va_rf ((gr M k j).map (B.2.2.2 + ·)) :: _))
  rw [zrf_tr]
  exact k2
/-- writing a field -/
theorem zput {p : Program} {e : Env} {R : Room} {s : State} {m : MethodId} {args : Array Value} {below : List Frame} {meth : Method} {c : Code} {H : Heap} {locs : List Loc} {Q : State → Prop} {lsr : Array Slot} {rest : List Value} {y : zY} {v : Value} {ini' : zIni} {M' : zM} {fin : Bool}
    (hF : zFix y p s m args meth c) (hK : zKn B s) (hR : zrel B ini M H) {idx ci j k : Nat} (hk : k < gn M) (hL : zLnk y.1.cls idx ci j) (hkd : zkd k = .inr ci)
    (hfin : (zT ci j).2.2.2 = fin) (hi0 : fin = true → y.1.name = "<init>" ∧ (zT ci j).1 = y.1.cls) (hn : narrow (zty ci j) v = v) (hfit : fits (zty ci j) v = true)
    (hd : decode y.2.1 pc = .ok (.putfield idx, 3))
    (hv : ∀ i, i < znf ci → zfv B.2.2.2 ini' M' k ci i = if i = j then v else zfv B.2.2.2 ini M k ci i) (hgn : gn M' = gn M) (h1 : ∀ a, a ≠ k → gi M' a = gi M a) (h2 : ∀ a, a ≠ k → gr M' a = gr M a) (h3 : ∀ a, a ≠ k → ini' a = ini a) (hw' : zwf ini' M')
    (hS0 : va_S (fun q => B.2.2.2 ≤ q) s.heap H locs)
    (kk : ∀ (H1 : Heap) (locs1 : List Loc), zrel B ini' M' H1 → va_S (fun q => B.2.2.2 ≤ q) s.heap H1 locs1 → W p B.1 e R s m args below meth c H1 locs1 ce sl Q (F0 m (pc + 3) lsr rest)) : W p B.1 e R s m args below meth c H locs ce sl Q (F0 m pc lsr (v :: .ref (B.2.2.2 + k) :: rest)) := by
  obtain ⟨hx, hb, -, hown, hts, -, -, hinit⟩ := hF
  obtain ⟨hc, hj, hw⟩ := hL
  obtain ⟨cell, q1, q2, q3, q4⟩ := zat_obj (hR.2.1 k hk) hkd hc
  have hKc := hK.1.1 ci _ (zc_cl ci hc)
  have hap : ∀ x y : Nat, x < znf ci → y < znf ci → x ≠ y → B.2.1.2 ci x ≠ B.2.1.2 ci y := by
    intro x y hx' hy' hne
    obtain ⟨hSs, -⟩ := hKc
    obtain ⟨_, _, _, fa, hia, ea⟩ := hSs x hx'
    obtain ⟨_, _, _, fb, hib, eb⟩ := hSs y hy'
    rw [← ea, ← eb]
    refine u_apart (u_lays hts (zc_in ci hc) hx') (u_lays hts (zc_in ci hc) hy') hia hib ?_
    rw [(State.fieldFound?_type hia (zc_ty ci hc x hx')).1, (State.fieldFound?_type hib (zc_ty ci hc y hy')).1]
    exact zc_nm ci hc x hx' y hy' hne
  obtain ⟨hSs, hfc, kC, hkC, hkind⟩ := hKc
  obtain ⟨cf, kf, fi, f, hi, hsl⟩ := hSs j hj
  have hlay := hts _ (zc_in ci hc _ (u_in_lay hj))
  have hst := (u_facts hfc hkC (u_lays hts (zc_in ci hc) hj) hi).1
  have hd' := zc_ty ci hc j hj
  have fin2 : ∀ H' : Heap, H'[B.2.2.2 + k]? = some (cell.setSlot f.slot v) → H'.size = H.size → (∀ q, q ≠ B.2.2.2 + k → H'[q]? = H[q]?) → W p B.1 e R s m args below meth c H' (locs ++ [⟨B.2.2.2 + k, f.slot⟩]) ce sl Q (F0 m (pc + 3) lsr rest) := by
    intro H' e1 e2 e3
    rw [hsl] at e1
    refine kk H' _ (zrel_set hR (zat_obj_mk hkd hc ?_) e2 e3 hgn h1 h2 h3 hw') (hS0.put e2 e3 (Nat.le_add_right _ _))
    refine ⟨_, e1, q2, q3, fun i hi' => ?_⟩
    rw [t_set q4 hap hj v i hi']
    show some (updV _ j v i) = some (zfv B.2.2.2 ini' M' k ci i)
    rw [hv i hi']
    unfold updV
    rfl
  unfold u_lay at hlay
  cases fin with
  | false =>
    rw [if_neg (by rw [hfin]; decide)] at hlay
    have h6 := u_store hfc hkC hkind hlay hi hd' hn hfit
    exact W.putK hx hb (f := f) ⟨hown, hts _ hw, ⟨_, _, _, hi⟩, hst⟩ (by rw [q2]; exact h6) q1 q3 (by rw [hsl]; exact k2_hasslot (q4 j hj)) rfl rfl hd fin2
  | true =>
    rw [if_pos hfin] at hlay
    obtain ⟨hi1, hdecl⟩ := hi0 rfl
    have hcf : m.cls = cf := by
      obtain ⟨_, _, c', _, _, _, -, -, hf', -, -, -, hown2, -⟩ := Cond.laysFinal_spec hlay
      have e1 : c' = cf := by have := hi.symm.trans hf'; simp at this; exact this.1.symm
      rw [hdecl] at hown2
      rw [← e1]; exact Option.some.inj (hown.symm.trans hown2)
    have h6 := u_fits hfc hkC hkind (Or.inr hlay) hi hd' hn hfit
    exact W.putFinK hx hb hown (hts _ hw) hi hst hcf (hinit hi1) (by rw [q2]; exact h6) q1 q3 (by rw [hsl]; exact k2_hasslot (q4 j hj)) rfl rfl hd fin2
theorem r_puti {k ci j idx : Nat} {x : Int} {fin : Bool} (hd : decode E.1.2.1 pc = .ok (.putfield idx, 3)) (hL : zLnk E.1.1.cls idx ci j) (hkd : zkd k = .inr ci) (hs : zsk ci j = 0) (hfin : (zT ci j).2.2.2 = fin) (hi0 : fin = true → E.1.1.name = "<init>" ∧ (zT ci j).1 = E.1.1.cls) (hf : zfit (zty ci j) x)
    (kk : zW B E (pc + 3) ls st ini (si M k j x) ce sl) : zW B E pc ls (zI x :: zR k :: st) ini M ce sl := by
  intro p e s m args below meth c H locs lsr hF hE hK hR hS hbs hn hl hlo hst
  have hx : zin x := zok_h hst
  refine zput (ini' := ini) (M' := si M k j x) hF hK hR (zok_h (zok_t hst)) hL hkd hfin hi0 (zfit_ok hf).1 (zfit_ok hf).2 hd (fun i hi => ?_) gn_si (fun a ha => gi_si_ne ha) (fun a _ => rfl) (fun a _ => rfl) (zwf_si hR.2.2 hx) hS (fun H1 locs1 hR1 hS1 => kk p e s m args below meth c H1 locs1 lsr hF hE hK hR1 hS1 hbs hn hl hlo (zok_t (zok_t hst)))
  unfold zfv
  by_cases e2 : i = j
  · subst e2
    rw [hs, if_pos rfl]
    show Value.int (Int32.ofInt (gi (si M k i x) k i)) = _
    rw [gi_si_eq, if_pos rfl]
    rfl
  · rw [if_neg e2, gi_si_eq, if_neg e2, gr_si]
theorem r_putd {k ci j idx : Nat} {x : Option Nat} {fin : Bool} {C : String} (hd : decode E.1.2.1 pc = .ok (.putfield idx, 3)) (hL : zLnk E.1.1.cls idx ci j) (hkd : zkd k = .inr ci) (hs : zsk ci j = 2) (hfin : (zT ci j).2.2.2 = fin) (hi0 : fin = true → E.1.1.name = "<init>" ∧ (zT ci j).1 = E.1.1.cls) (hf : zty ci j = .object C)
    (kk : zW B E (pc + 3) ls st ini (sr M k j x) ce sl) : zW B E pc ls (zO x :: zR k :: st) ini M ce sl := by
  intro p e s m args below meth c H locs lsr hF hE hK hR hS hbs hn hl hlo hst
  have hx : ∀ r, x = some r → r < gn M := fun r hr => by
    subst hr
    exact zok_h hst
  have hnf : narrow (zty ci j) (ztr B.2.2.2 (zO x)) = ztr B.2.2.2 (zO x) ∧ fits (zty ci j) (ztr B.2.2.2 (zO x)) = true := by
    rw [hf]
    cases x <;> exact ⟨rfl, rfl⟩
  refine zput (ini' := ini) (M' := sr M k j x) hF hK hR (zok_h (zok_t hst)) hL hkd hfin hi0 hnf.1 hnf.2 hd (fun i hi => ?_) gn_sr (fun a ha => rfl) (fun a ha => gr_sr_ne ha) (fun a _ => rfl) (zwf_sr hR.2.2 hx) hS (fun H1 locs1 hR1 hS1 => kk p e s m args below meth c H1 locs1 lsr hF hE hK hR1 hS1 hbs hn hl hlo (zok_t (zok_t hst)))
  unfold zfv
  by_cases e2 : i = j
  · subst e2
    rw [hs, if_pos rfl]
    show va_rf ((gr (sr M k i x) k i).map (B.2.2.2 + ·)) = _
    rw [gr_sr, if_pos ⟨rfl, rfl⟩]
    exact zrf_tr _ _
  · have e3 : ¬ (k = k ∧ i = j) := fun h => e2 h.2
    rw [if_neg e2, gr_sr, if_neg e3, gi_sr]
theorem r_puts {k ci j idx r : Nat} {fin : Bool} (hd : decode E.1.2.1 pc = .ok (.putfield idx, 3)) (hL : zLnk E.1.1.cls idx ci j) (hkd : zkd k = .inr ci) (hs : zsk ci j = 1) (hfin : (zT ci j).2.2.2 = fin) (hi0 : fin = true → E.1.1.name = "<init>" ∧ (zT ci j).1 = E.1.1.cls) (hf : (∃ C, zty ci j = .object C) ∨ ∃ t, zty ci j = .array t) (hr : zsf k j = r)
    (kk : zW B E (pc + 3) ls st (zst ini k j) M ce sl) : zW B E pc ls (zR r :: zR k :: st) ini M ce sl := by
  subst hr
  intro p e s m args below meth c H locs lsr hF hE hK hR hS hbs hn hl hlo hst
  have hnf : narrow (zty ci j) (ztr B.2.2.2 (zR (zsf k j))) = ztr B.2.2.2 (zR (zsf k j)) ∧ fits (zty ci j) (ztr B.2.2.2 (zR (zsf k j))) = true := by
    rcases hf with ⟨C, h⟩ | ⟨t, h⟩ <;> (rw [h]; exact ⟨rfl, rfl⟩)
  refine zput (ini' := zst ini k j) (M' := M) hF hK hR (zok_h (zok_t hst)) hL hkd hfin hi0 hnf.1 hnf.2 hd (fun i hi => ?_) rfl (fun a ha => rfl) (fun a ha => rfl) (fun a ha => zst_ne ha) (zwf_zst hR.2.2 (zok_h hst)) hS (fun H1 locs1 hR1 hS1 => kk p e s m args below meth c H1 locs1 lsr hF hE hK hR1 hS1 hbs hn hl hlo (zok_t (zok_t hst)))
  unfold zfv
  by_cases e2 : i = j
  · subst e2
    rw [hs, if_pos rfl, zst_k, if_pos rfl]
    rfl
  · rw [if_neg e2, zst_k, if_neg e2]
/-! arrays -/
theorem r_iaload {k n : Nat} {i : Int} (hd : decode E.1.2.1 pc = .ok (.iaload, 1)) (hkd : zkd k = .inl (0, n)) (hi : 0 ≤ i ∧ i < n) (kk : zW B E (pc + 1) ls (zI (gi M k i.toNat) :: st) ini M ce sl) : zW B E pc ls (zI i :: zR k :: st) ini M ce sl := by
  intro p e s m args below meth c H locs lsr hF hE hK hR hS hbs hn hl hlo hst
  have hiz : zin i := zok_h hst
  have hk : k < gn M := zok_h (zok_t hst)
  have hA := zat_arr (hR.2.1 k hk) hkd (by decide)
  have k2 := kk p e s m args below meth c H locs lsr hF hE hK hR hS hbs hn hl hlo (zok_cons (v := zI (gi M k i.toNat)) (hR.2.2.1 k _) (zok_t (zok_t hst)))
  have hlt : i.toNat < n := by omega
  refine W.iald (v := .int (Int32.ofInt (gi M k i.toNat))) hF.1 hF.2.1 hA ((zK_arr hK (t := 0) (by decide)).1 n _) (fun q => by cases q) (by rw [arrV_size]; exact zvp hiz hi) (by rw [zcl hiz, arrV_read _ _ hlt]) rfl rfl hd k2
theorem r_baload {k n : Nat} {i : Int} (hd : decode E.1.2.1 pc = .ok (.baload, 1)) (hkd : zkd k = .inl (1, n)) (hi : 0 ≤ i ∧ i < n) (kk : zW B E (pc + 1) ls (zI (gi M k i.toNat) :: st) ini M ce sl) : zW B E pc ls (zI i :: zR k :: st) ini M ce sl := by
  intro p e s m args below meth c H locs lsr hF hE hK hR hS hbs hn hl hlo hst
  have hiz : zin i := zok_h hst
  have hk : k < gn M := zok_h (zok_t hst)
  have hA := zat_arr (hR.2.1 k hk) hkd (by decide)
  have k2 := kk p e s m args below meth c H locs lsr hF hE hK hR hS hbs hn hl hlo (zok_cons (v := zI (gi M k i.toNat)) (hR.2.2.1 k _) (zok_t (zok_t hst)))
  have hlt : i.toNat < n := by omega
  refine W.zald (v := .int (Int32.ofInt (gi M k i.toNat))) hF.1 hF.2.1 hA ((zK_arr hK (t := 1) (by decide)).1 n _) (fun q => by cases q) (by rw [arrV_size]; exact zvp hiz hi) (by rw [zcl hiz, arrV_read _ _ hlt]) rfl rfl hd k2
theorem r_caload {k n : Nat} {i : Int} (hd : decode E.1.2.1 pc = .ok (.caload, 1)) (hkd : zkd k = .inl (2, n)) (hi : 0 ≤ i ∧ i < n) (kk : zW B E (pc + 1) ls (zI (gi M k i.toNat) :: st) ini M ce sl) : zW B E pc ls (zI i :: zR k :: st) ini M ce sl := by
  intro p e s m args below meth c H locs lsr hF hE hK hR hS hbs hn hl hlo hst
  have hiz : zin i := zok_h hst
  have hk : k < gn M := zok_h (zok_t hst)
  have hA := zat_arr (hR.2.1 k hk) hkd (by decide)
  have k2 := kk p e s m args below meth c H locs lsr hF hE hK hR hS hbs hn hl hlo (zok_cons (v := zI (gi M k i.toNat)) (hR.2.2.1 k _) (zok_t (zok_t hst)))
  have hlt : i.toNat < n := by omega
  refine W.cald (v := .int (Int32.ofInt (gi M k i.toNat))) hF.1 hF.2.1 hA ((zK_arr hK (t := 2) (by decide)).1 n _) (fun q => by cases q) (by rw [arrV_size]; exact zvp hiz hi) (by rw [zcl hiz, arrV_read _ _ hlt]) rfl rfl hd k2
theorem r_iastore {k n : Nat} {i x : Int} (hd : decode E.1.2.1 pc = .ok (.iastore, 1)) (hkd : zkd k = .inl (0, n)) (hi : 0 ≤ i ∧ i < n) (kk : zW B E (pc + 1) ls st ini (si M k i.toNat x) ce sl) : zW B E pc ls (zI x :: zI i :: zR k :: st) ini M ce sl := by
  intro p e s m args below meth c H locs lsr hF hE hK hR hS hbs hn hl hlo hst
  have hx : zin x := zok_h hst
  have hiz : zin i := zok_h (zok_t hst)
  have hk : k < gn M := zok_h (zok_t (zok_t hst))
  have hA := zat_arr (hR.2.1 k hk) hkd (by decide)
  refine W.iast hF.1 hF.2.1 hA ((zK_arr hK (t := 0) (by decide)).1 n _) (fun q => by cases q) (by rw [arrV_size]; exact zvp hiz hi) rfl rfl hd (fun H1 e1 e2 e3 => ?_)
  rw [zcl hiz, arrV_store] at e1
  refine kk p e s m args below meth c H1 _ lsr hF hE hK (zrel_set hR (zat_arr_mk hkd (by decide) ?_) e2 e3 gn_si (fun a ha => gi_si_ne ha) (fun a _ => rfl) (fun a _ => rfl) (zwf_si hR.2.2 hx)) (hS.put e2 e3 (Nat.le_add_right _ _)) hbs hn hl hlo (zok_t (zok_t (zok_t hst)))
  rw [e1, zupd (fun j => gi_si_eq)]
theorem r_bastore {k n : Nat} {i x : Int} (hd : decode E.1.2.1 pc = .ok (.bastore, 1)) (hkd : zkd k = .inl (1, n)) (hi : 0 ≤ i ∧ i < n) (hf : x = 0 ∨ x = 1) (kk : zW B E (pc + 1) ls st ini (si M k i.toNat x) ce sl) : zW B E pc ls (zI x :: zI i :: zR k :: st) ini M ce sl := by
  intro p e s m args below meth c H locs lsr hF hE hK hR hS hbs hn hl hlo hst
  have hx : zin x := zok_h hst
  have hiz : zin i := zok_h (zok_t hst)
  have hk : k < gn M := zok_h (zok_t (zok_t hst))
  have hA := zat_arr (hR.2.1 k hk) hkd (by decide)
  refine W.zast hF.1 hF.2.1 hA ((zK_arr hK (t := 1) (by decide)).1 n _) (fun q => by cases q) (by rw [arrV_size]; exact zvp hiz hi) rfl rfl hd (fun H1 e1 e2 e3 => ?_)
  rw [zcl hiz, (zn_bool hf).1, arrV_store] at e1
  refine kk p e s m args below meth c H1 _ lsr hF hE hK (zrel_set hR (zat_arr_mk hkd (by decide) ?_) e2 e3 gn_si (fun a ha => gi_si_ne ha) (fun a _ => rfl) (fun a _ => rfl) (zwf_si hR.2.2 hx)) (hS.put e2 e3 (Nat.le_add_right _ _)) hbs hn hl hlo (zok_t (zok_t (zok_t hst)))
  rw [e1, zupd (fun j => gi_si_eq)]
theorem r_castore {k n : Nat} {i x : Int} (hd : decode E.1.2.1 pc = .ok (.castore, 1)) (hkd : zkd k = .inl (2, n)) (hi : 0 ≤ i ∧ i < n) (hf : 0 ≤ x ∧ x < 65536) (kk : zW B E (pc + 1) ls st ini (si M k i.toNat x) ce sl) : zW B E pc ls (zI x :: zI i :: zR k :: st) ini M ce sl := by
  intro p e s m args below meth c H locs lsr hF hE hK hR hS hbs hn hl hlo hst
  have hx : zin x := zok_h hst
  have hiz : zin i := zok_h (zok_t hst)
  have hk : k < gn M := zok_h (zok_t (zok_t hst))
  have hA := zat_arr (hR.2.1 k hk) hkd (by decide)
  refine W.cast hF.1 hF.2.1 hA ((zK_arr hK (t := 2) (by decide)).1 n _) (fun q => by cases q) (by rw [arrV_size]; exact zvp hiz hi) rfl rfl hd (fun H1 e1 e2 e3 => ?_)
  rw [zcl hiz, (zn_char hf).1, arrV_store] at e1
  refine kk p e s m args below meth c H1 _ lsr hF hE hK (zrel_set hR (zat_arr_mk hkd (by decide) ?_) e2 e3 gn_si (fun a ha => gi_si_ne ha) (fun a _ => rfl) (fun a _ => rfl) (zwf_si hR.2.2 hx)) (hS.put e2 e3 (Nat.le_add_right _ _)) hbs hn hl hlo (zok_t (zok_t (zok_t hst)))
  rw [e1, zupd (fun j => gi_si_eq)]
theorem r_aaload {k n : Nat} {i : Int} (hd : decode E.1.2.1 pc = .ok (.aaload, 1)) (hkd : zkd k = .inl (3, n)) (hi : 0 ≤ i ∧ i < n) (kk : zW B E (pc + 1) ls (zO (gr M k i.toNat) :: st) ini M ce sl) : zW B E pc ls (zI i :: zR k :: st) ini M ce sl := by
  intro p e s m args below meth c H locs lsr hF hE hK hR hS hbs hn hl hlo hst
  have hiz : zin i := zok_h hst
  have hk : k < gn M := zok_h (zok_t hst)
  have hA := zat_arrq (hR.2.1 k hk) hkd
  have k2 := kk p e s m args below meth c H locs lsr hF hE hK hR hS hbs hn hl hlo (zok_cons (zok_gr hR.2.2 k _) (zok_t (zok_t hst)))
  have hlt : i.toNat < n := by omega
  rw [List.map_cons, ← zrf_tr] at k2
  refine W.aald (v := va_rf ((gr M k i.toNat).map (B.2.2.2 + ·))) (ty := zta 3) hF.1 hF.2.1 hA ((zK_arr hK (t := 3) (by decide)).1 n _) rfl (fun q => by cases q) (by rw [arrV_size]; exact zvp hiz hi) (by rw [zcl hiz, arrV_read _ _ hlt]) rfl rfl hd k2
theorem zupdq {base : Nat} {f g : Nat → Option Nat} {i : Nat} {x : Option Nat} (h : ∀ j, g j = if j = i then x else f j) : (fun j => va_rf ((g j).map (base + ·))) = updV (fun j => va_rf ((f j).map (base + ·))) i (va_rf (x.map (base + ·))) := by
  funext j
  unfold updV
  rw [h j]
  split <;> rfl
theorem gr_sr_eq {M : zM} {k j : Nat} {v : Option Nat} {b : Nat} : gr (sr M k j v) k b = if b = j then v else gr M k b := by
  rw [gr_sr]
  simp
theorem r_aastore {k n r : Nat} {i : Int} (hd : decode E.1.2.1 pc = .ok (.aastore, 1)) (hkd : zkd k = .inl (3, n)) (hi : 0 ≤ i ∧ i < n) (hr : zkd r = .inr 5) (kk : zW B E (pc + 1) ls st ini (sr M k i.toNat (some r)) ce sl) : zW B E pc ls (zR r :: zI i :: zR k :: st) ini M ce sl := by
  intro p e s m args below meth c H locs lsr hF hE hK hR hS hbs hn hl hlo hst
  have hrn : r < gn M := zok_h hst
  have hiz : zin i := zok_h (zok_t hst)
  have hk : k < gn M := zok_h (zok_t (zok_t hst))
  have hA := zat_arrq (hR.2.1 k hk) hkd
  obtain ⟨cellV, g1, g2, g3, -⟩ := zat_obj (hR.2.1 r hrn) hr (by decide)
  have hcls := (hK.1.1 5 _ (zc_cl 5 (by decide))).2
  obtain ⟨kA, comp, k1, k2, k3, -⟩ := (zK_arr hK (t := 3) (by decide)).2
  have hcomp : comp = B.2.1.1 5 := Option.some.inj (k3.symm.trans hcls.1)
  subst hcomp
  obtain ⟨kC, hkC, -⟩ := hcls.2
  have hlt : i.toNat < n := by omega
  refine W.aast hF.1 hF.2.1 hA (fun q h => by cases h) (fun h => by cases h) k1 k2 rfl hkC ⟨fun q => zvp (n := n) hiz hi (Or.inl q), by rw [arrV_size, zcl hiz]; exact hlt⟩ g1 (fun q h => by rw [g3] at h; cases h) (by rw [g2]; exact hkC) (by rw [g2]; exact va_assign hcls) rfl rfl hd (fun H1 e1 e2 e3 => ?_)
  rw [zcl hiz, arrV_store] at e1
  refine kk p e s m args below meth c H1 _ lsr hF hE hK (zrel_set hR (zat_arrq_mk hkd ?_) e2 e3 gn_sr (fun a ha => rfl) (fun a ha => gr_sr_ne ha) (fun a _ => rfl) (zwf_sr hR.2.2 (fun q hq => by cases hq; exact hrn))) (hS.put e2 e3 (Nat.le_add_right _ _)) hbs hn hl hlo (zok_t (zok_t (zok_t hst)))
  rw [e1, zupdq (fun j => gr_sr_eq)]
  rfl
theorem r_aastoreN {k n : Nat} {i : Int} (hd : decode E.1.2.1 pc = .ok (.aastore, 1)) (hkd : zkd k = .inl (3, n)) (hi : 0 ≤ i ∧ i < n) (kk : zW B E (pc + 1) ls st ini (sr M k i.toNat none) ce sl) : zW B E pc ls (zN :: zI i :: zR k :: st) ini M ce sl := by
  intro p e s m args below meth c H locs lsr hF hE hK hR hS hbs hn hl hlo hst
  have hiz : zin i := zok_h (zok_t hst)
  have hk : k < gn M := zok_h (zok_t (zok_t hst))
  have hA := zat_arrq (hR.2.1 k hk) hkd
  refine va_WaastN (C := RX5) hF.1 hF.2.1 hA ((zK_arr hK (t := 3) (by decide)).1 n _) (fun h => by cases h) (by rw [arrV_size]; exact zvp hiz hi) rfl rfl hd (fun H1 e1 e2 e3 => ?_)
  rw [zcl hiz, arrV_store] at e1
  refine kk p e s m args below meth c H1 _ lsr hF hE hK (zrel_set hR (zat_arrq_mk hkd ?_) e2 e3 gn_sr (fun a ha => rfl) (fun a ha => gr_sr_ne ha) (fun a _ => rfl) (zwf_sr hR.2.2 (fun q hq => by cases hq))) (hS.put e2 e3 (Nat.le_add_right _ _)) hbs hn hl hlo (zok_t (zok_t (zok_t hst)))
  rw [e1, zupdq (fun j => gr_sr_eq)]
  rfl
theorem r_alen {k t n : Nat} (hd : decode E.1.2.1 pc = .ok (.arraylength, 1)) (hkd : zkd k = .inl (t, n)) (ht : t < 3) (hn' : zin n) (kk : zW B E (pc + 1) ls (zI n :: st) ini M ce sl) : zW B E pc ls (zR k :: st) ini M ce sl := by
  intro p e s m args below meth c H locs lsr hF hE hK hR hS hbs hn hl hlo hst
  have hk : k < gn M := zok_h hst
  have hA := zat_arr (hR.2.1 k hk) hkd (by omega)
  have k2 := kk p e s m args below meth c H locs lsr hF hE hK hR hS hbs hn hl hlo (zok_cons (v := zI n) hn' (zok_t hst))
  exact W.alen (n := Int32.ofInt n) hF.1 hF.2.1 hA ((zK_arr hK (t := t) (by omega)).1 n _) (by rw [arrV_size]; exact (Int32.ofInt_eq_ofNat).symm) rfl rfl hd k2
/-! Math -/
theorem r_max {a b : Int} {idx : Nat} (hd : decode E.1.2.1 pc = .ok (.invokestatic idx, 3)) (hw : Cond.methodLink E.1.1.cls idx Lib.Math.max.name ∈ zTB) (hst8 : st.length ≤ 8) (hrm : 1 ≤ E.2.1.frames ∧ 21 ≤ E.2.1.locals ∧ ce ≤ E.2.1.cells ∧ sl ≤ E.2.1.slots) (kk : zW B E (pc + 3) ls (zI (if a < b then b else a) :: st) ini M ce sl) : zW B E pc ls (zI b :: zI a :: st) ini M ce sl := by
  intro p e s m args below meth c H locs lsr hF hE hK hR hS hbs hn hl hlo hst
  have ha : zin a := zok_h (zok_t hst)
  have hb : zin b := zok_h hst
  have k2 := kk p e s m args below meth c H locs lsr hF hE hK hR hS hbs hn hl hlo (zok_cons (v := zI (if a < b then b else a)) (by show zin _; split <;> assumption) (zok_t (zok_t hst)))
  have ht := hF.2.2.2.2.1
  refine va_mmax hF.1 hF.2.1 (hF.2.2.1.trans hl.1.symm) hF.2.2.2.1 (ht _ hw) (ht _ mj_max.1) (ht _ mj_max.2.1) (ht _ mj_max.2.2) hrm.1 (by rw [ztr_sum]; omega) hrm.2.2.1 hrm.2.2.2 hd ?_
  have e1 : (if Int32.ofInt a < Int32.ofInt b then Int32.ofInt b else Int32.ofInt a) = Int32.ofInt (if a < b then b else a) := by
    simp only [zlt ha hb]
    split <;> rfl
  rw [e1]
  exact k2
theorem r_min {a b : Int} {idx : Nat} (hd : decode E.1.2.1 pc = .ok (.invokestatic idx, 3)) (hw : Cond.methodLink E.1.1.cls idx Lib.Math.min.name ∈ zTB) (hst8 : st.length ≤ 8) (hrm : 1 ≤ E.2.1.frames ∧ 21 ≤ E.2.1.locals ∧ ce ≤ E.2.1.cells ∧ sl ≤ E.2.1.slots) (kk : zW B E (pc + 3) ls (zI (if b < a then b else a) :: st) ini M ce sl) : zW B E pc ls (zI b :: zI a :: st) ini M ce sl := by
  intro p e s m args below meth c H locs lsr hF hE hK hR hS hbs hn hl hlo hst
  have ha : zin a := zok_h (zok_t hst)
  have hb : zin b := zok_h hst
  have k2 := kk p e s m args below meth c H locs lsr hF hE hK hR hS hbs hn hl hlo (zok_cons (v := zI (if b < a then b else a)) (by show zin _; split <;> assumption) (zok_t (zok_t hst)))
  have ht := hF.2.2.2.2.1
  refine va_mmin hF.1 hF.2.1 (hF.2.2.1.trans hl.1.symm) hF.2.2.2.1 (ht _ hw) (ht _ mj_min.1) (ht _ mj_min.2.1) (ht _ mj_min.2.2) hrm.1 (by rw [ztr_sum]; omega) hrm.2.2.1 hrm.2.2.2 hd ?_
  have e1 : (if Int32.ofInt b < Int32.ofInt a then Int32.ofInt b else Int32.ofInt a) = Int32.ofInt (if b < a then b else a) := by
    simp only [zlt hb ha]
    split <;> rfl
  rw [e1]
  exact k2
/-! making -/
theorem zrel_push {ini : zIni} {M : zM} {H H1 : Heap} (hR : zrel B ini M H) (hk : zat B ini (nw M) (gn M) H1) (hz : H1.size = B.2.2.2 + gn M + 1) (ho : ∀ q : Nat, q < B.2.2.2 + gn M → H1[q]? = H[q]?) : zrel B ini (nw M) H1 := by
  refine ⟨by rw [hz, gn_nw]; omega, fun a ha => ?_, fun a b => ?_, fun a b r hr => ?_, fun a b hab => Nat.lt_of_lt_of_le (hR.2.2.2.2 a b hab) (by rw [gn_nw]; omega)⟩
  · by_cases e : a = gn M
    · subst e; exact hk
    · rw [gn_nw] at ha
      exact zat_same (hR.2.1 a (by omega)) (ho _ (by omega)) (gi_nw_ne e) (gr_nw_ne e) rfl
  · by_cases e : a = gn M
    · subst e; rw [gi_nw_eq]; decide
    · rw [gi_nw_ne e]; exact hR.2.2.1 a b
  · by_cases e : a = gn M
    · subst e; rw [gr_nw_eq] at hr; cases hr
    · rw [gr_nw_ne e] at hr
      exact Nat.lt_succ_of_lt (hR.2.2.2.1 a b r hr)
theorem zS_push {s : State} {H H1 : Heap} {locs : List Loc} (hS : va_S (fun q => B.2.2.2 ≤ q) s.heap H locs) (hz : H.size ≤ H1.size) (ho : ∀ q : Nat, q < H.size → H1[q]? = H[q]?) : va_S (fun q => B.2.2.2 ≤ q) s.heap H1 locs :=
  ⟨Nat.le_trans hS.1 hz, fun q h1 h2 => (ho q (Nat.lt_of_lt_of_le h1 hS.1)).trans (hS.2.1 q h1 h2), hS.2.2⟩
theorem zok_nw {M : zM} {ls : List (Option zV)} (h : ∀ v, some v ∈ ls → zokV (gn M) v) : ∀ v, some v ∈ ls → zokV (gn (nw M)) v := fun v hv => (h v hv).mono (by rw [gn_nw]; omega)
theorem zok_nws {M : zM} {st : List zV} (h : ∀ v ∈ st, zokV (gn M) v) : ∀ v ∈ st, zokV (gn (nw M)) v := fun v hv => (h v hv).mono (by rw [gn_nw]; omega)
/-- a new object's fields, blank -/
theorem zfv_new {base : Nat} {ini : zIni} {M : zM} {c j : Nat} (hi : zsk c j = 1 → ini (gn M) j = false) (h0 : zsk c j = 0 → defaultValue (zty c j) = .int 0) (h1 : zsk c j ≠ 0 → defaultValue (zty c j) = .null) : zfv base ini (nw M) (gn M) c j = defaultValue (zty c j) := by
  unfold zfv
  match h : zsk c j with
  | 0 => rw [h0 h]; show Value.int (Int32.ofInt (gi (nw M) (gn M) j)) = _; rw [gi_nw_eq]; rfl
  | 1 => rw [h1 (by rw [h]; decide)]; simp [hi h]
  | n + 2 => rw [h1 (by rw [h]; omega)]; show va_rf _ = _; rw [gr_nw_eq]; rfl
/-- int-like fields are ints, booleans or chars, the others references -/
theorem zdef_ok : ∀ c, c < 10 → ∀ j, j < znf c → (zsk c j = 0 → defaultValue (zty c j) = .int 0) ∧ (zsk c j ≠ 0 → defaultValue (zty c j) = .null) := by
  decide +kernel
theorem r_new {ci idx : Nat} (hd : decode E.1.2.1 pc = .ok (.new idx, 3)) (hc : ci < 10) (hw : Cond.classLink E.1.1.cls idx (zNm ci) ∈ zTB) (hkd : zkd (gn M) = .inr ci) (hi : ∀ j, j < znf ci → zsk ci j = 1 → ini (gn M) j = false) (hce : ce + 1 ≤ E.2.1.cells ∧ sl + znf ci ≤ E.2.1.slots)
    (kk : zW B E (pc + 3) ls (zR (gn M) :: st) ini (nw M) (ce + 1) (sl + znf ci)) : zW B E pc ls st ini M ce sl := by
  intro p e s m args below meth c H locs lsr hF hE hK hR hS hbs hn hl hlo hst
  have ht := hF.2.2.2.2.1
  have hKn := hK.1.1 ci _ (zc_cl ci hc)
  refine W.newcK hF.1 hF.2.1 hF.2.2.2.1 (ht _ hw) (ht _ (zc_is ci hc).2) (ht _ (zc_is ci hc).1) rfl hd hce.1 hce.2 hKn.2.1 hR.1 (fun H1 kC hkC e1 z1 o1 => ?_)
  refine kk p e s m args below meth c H1 locs lsr hF hE hK (zrel_push hR (zat_obj_mk hkd hc ?_) z1 o1) (zS_push hS (by rw [z1, hR.1]; omega) (fun q hq => o1 q (by rw [← hR.1]; exact hq))) hbs (Nat.le_trans hn (by rw [gn_nw]; omega)) hl (zok_nw hlo) (zok_cons (v := zR (gn M)) (by show gn M < gn (nw M); rw [gn_nw]; omega) (zok_nws hst))
  exact (u_born (zty ci) ht (zc_in ci hc) hKn hkC e1 (zc_ty ci hc)).to (fun j hj => (zfv_new (hi j hj) (zdef_ok ci hc j hj).1 (zdef_ok ci hc j hj).2).symm)
end ZH
