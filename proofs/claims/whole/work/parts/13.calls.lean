/-! ===== arrays made, the script, calls, ends ===== -/
section ZC
variable {B : zB} {E : zE} {pc : Nat} {ls : List (Option zV)} {st : List zV} {ini : zIni} {M : zM} {ce sl : Nat}
theorem zcA_uniq {s : State} {t : Nat} (ht : t < 3) {cA : ClassId} (hK : zKn B s) (h : s.vm.findClass ("[" ++ (zta t).toString) = some cA) : cA = B.2.2.1 t := by
  have h2 := (zK_arr hK (t := t) (by omega)).2
  rcases (show t = 0 ∨ t = 1 ∨ t = 2 by omega) with rfl | rfl | rfl
  · exact Option.some.inj (h.symm.trans h2)
  · exact Option.some.inj (h.symm.trans h2)
  · exact Option.some.inj (h.symm.trans h2)
theorem r_newarray {t n : Nat} {at' : ArrayType} (hd : decode E.1.2.1 pc = .ok (.newarray at', 2)) (hty : newarray.typeOf at' = zta t) (ht : t < 3) (hw : Cond.arrayClass (zta t) ∈ zTB) (hkd : zkd (gn M) = .inl (t, n)) (hnb : n * 8 ≤ 536870912) (hce : ce + 1 ≤ E.2.1.cells ∧ sl + n ≤ E.2.1.slots)
    (kk : zW B E (pc + 2) ls (zR (gn M) :: st) ini (nw M) (ce + 1) (sl + n)) : zW B E pc ls (zI n :: st) ini M ce sl := by
  intro p e s m args below meth c H locs lsr hF hE hK hR hS hbs hn hl hlo hst
  have hts := hF.2.2.2.2.1
  have hnz : zin n := zok_h hst
  have hcomp : componentBytes (newarray.typeOf at') ≤ 8 := by
    rw [hty]
    rcases (show t = 0 ∨ t = 1 ∨ t = 2 by omega) with rfl | rfl | rfl <;> decide
  refine va_newaK (N := n) hF.1 hF.2.1 (by rw [hty]; exact hts _ hw) rfl hd rfl (by rw [zlt0 hnz]; omega) (by rw [zcl hnz]; omega) (Nat.le_trans (Nat.mul_le_mul_left n hcomp) hnb) hce.1 hce.2 hR.1 (fun H1 cA e1 z1 o1 hA1 hA2 => ?_)
  rw [hty] at hA2
  have hcA := zcA_uniq ht hK hA2
  subst hcA
  refine kk p e s m args below meth c H1 locs lsr hF hE hK (zrel_push hR (zat_arr_mk hkd (by omega) ?_) z1 o1) (zS_push hS (by rw [z1, hR.1]; omega) (fun q hq => o1 q (by rw [← hR.1]; exact hq))) hbs (Nat.le_trans hn (by rw [gn_nw]; omega)) hl (zok_nw hlo) (zok_cons (v := zR (gn M)) (by show gn M < gn (nw M); rw [gn_nw]; omega) (zok_nws (zok_t hst)))
  rw [e1, hty]
  congr 2
  funext j
  rw [gi_nw_eq]
  rcases (show t = 0 ∨ t = 1 ∨ t = 2 by omega) with rfl | rfl | rfl <;> rfl
theorem r_anewarray {n idx : Nat} (hd : decode E.1.2.1 pc = .ok (.anewarray idx, 3)) (hw : Cond.classLink E.1.1.cls idx RX5 ∈ zTB) (hkd : zkd (gn M) = .inl (3, n)) (hnb : n * 4 ≤ 536870912) (hce : ce + 1 ≤ E.2.1.cells ∧ sl + n ≤ E.2.1.slots)
    (kk : zW B E (pc + 3) ls (zR (gn M) :: st) ini (nw M) (ce + 1) (sl + n)) : zW B E pc ls (zI n :: st) ini M ce sl := by
  intro p e s m args below meth c H locs lsr hF hE hK hR hS hbs hn hl hlo hst
  have hts := hF.2.2.2.2.1
  have hnz : zin n := zok_h hst
  have hcln : (Int32.ofInt (n : Int)).toNatClampNeg = n := by rw [zcl hnz]; omega
  refine W.anew hF.1 hF.2.1 hF.2.2.2.1 (hts _ hw) (va_AO.use hK.2.1) rfl hd rfl (by rw [zlt0 hnz]; omega) (by rw [hcln]; exact hnb) hce.1 (by rw [hcln]; exact hce.2) (fun cA kA comp f1 f2 f3 f4 => ?_)
  rw [hcln]
  obtain ⟨kA', comp', -, -, -, k4⟩ := (zK_arr hK (t := 3) (by decide)).2
  generalize hH1 : H.push ({ cls := cA, slots := Array.replicate n .null, vm := .none } : Cell) = H1
  have z1 : H1.size = H.size + 1 := by rw [← hH1, Array.size_push]
  have e1 : H1[H.size]? = some (arrV cA n (fun _ => .null)) := by rw [← hH1, Array.getElem?_push_size, ← arrV_new]
  have o1 : ∀ q : Nat, q < H.size → H1[q]? = H[q]? := fun q hq => by rw [← hH1, Array.getElem?_push, if_neg (Nat.ne_of_lt hq)]
  have hcA : cA = B.2.2.1 3 := by
    first
      | exact Option.some.inj (f1.symm.trans k4)
      | exact Option.some.inj (f4.symm.trans k4)
  rw [hcA, hR.1] at e1
  rw [hR.1] at z1
  rw [hR.1] at o1
  rw [hR.1]
  refine kk p e s m args below meth c H1 locs lsr hF hE hK (zrel_push hR (zat_arrq_mk hkd ?_) z1 o1) (zS_push hS (by rw [z1, hR.1]; omega) (fun q hq => o1 q (by rw [← hR.1]; exact hq))) hbs (Nat.le_trans hn (by rw [gn_nw]; omega)) hl (zok_nw hlo) (zok_cons (v := zR (gn M)) (by show gn M < gn (nw M); rw [gn_nw]; omega) (zok_nws (zok_t hst)))
  rw [e1]
  congr 2
  funext j
  rw [gr_nw_eq]
  rfl
/-! the law's script: an array that is older than the cells -/
theorem r_slen {b L : Nat} {xs : Nat → Int32} (hX : ∀ s, E.2.2.2.1 s → va_X b L xs s s.heap ∧ b < s.heap.size ∧ b < B.2.2.2) (hd : decode E.1.2.1 pc = .ok (.arraylength, 1)) (hL : zin L) (kk : zW B E (pc + 1) ls (zI L :: st) ini M ce sl) : zW B E pc ls (zX b :: st) ini M ce sl := by
  intro p e s m args below meth c H locs lsr hF hE hK hR hS hbs hn hl hlo hst
  obtain ⟨h1, h2, h3⟩ := hX s hE
  have k2 := kk p e s m args below meth c H locs lsr hF hE hK hR hS hbs hn hl hlo (zok_cons (v := zI L) hL (zok_t hst))
  refine va_slen (A := fun q => B.2.2.2 ≤ q) hF.1 hF.2.1 h1 h2 (by show ¬ B.2.2.2 ≤ b; omega) hS hd ?_
  rw [← Int32.ofInt_eq_ofNat]
  exact k2
theorem r_sld {b L : Nat} {xs : Nat → Int32} {i : Int} (hX : ∀ s, E.2.2.2.1 s → va_X b L xs s s.heap ∧ b < s.heap.size ∧ b < B.2.2.2) (hd : decode E.1.2.1 pc = .ok (.iaload, 1)) (hi : 0 ≤ i ∧ i < L) (kk : zW B E (pc + 1) ls (zI (xs i.toNat).toInt :: st) ini M ce sl) : zW B E pc ls (zI i :: zX b :: st) ini M ce sl := by
  intro p e s m args below meth c H locs lsr hF hE hK hR hS hbs hn hl hlo hst
  obtain ⟨h1, h2, h3⟩ := hX s hE
  have hiz : zin i := zok_h hst
  have k2 := kk p e s m args below meth c H locs lsr hF hE hK hR hS hbs hn hl hlo (zok_cons (v := zI (xs i.toNat).toInt) (zin_of _) (zok_t (zok_t hst)))
  refine va_sld (A := fun q => B.2.2.2 ≤ q) hF.1 hF.2.1 h1 h2 (by show ¬ B.2.2.2 ≤ b; omega) hS (zvp hiz hi) hd ?_
  rw [zcl hiz, ← zof_toInt (xs i.toNat)]
  exact k2
/-! calls -/
/-- the room of a level -/
def zrm (d mc ms : Nat) : Room := { frames := d + 1, cells := mc, slots := ms, locals := 64 * (d + 1) }
def zws (y : zY) : List Cond := .code y.1 y.2.1 y.2.2.1 y.2.2.2 :: zTB
/-- what holds at a method's end -/
def zQc (B : zB) (n0 : Nat) (Q : Option zV → zIni → zM → Prop) : Array Value → State → Outcome → State → Prop := fun _ st o t =>
  ∃ (r : Option zV) (ini' : zIni) (M' : zM), o = .returned (r.map (ztr B.2.2.2)) ∧ Q r ini' M' ∧ zrel B ini' M' t.heap ∧ (∀ v, r = some v → zokV (gn M') v) ∧ n0 ≤ gn M' ∧ va_F (fun q => B.2.2.2 ≤ q) st t
/-- a method's contract: called with these arguments over this memory it returns, and Q holds of the answer and the memory -/
def zMet (B : zB) (y : zY) (rm : Room) (ini : zIni) (as : List zV) (M : zM) (mc ms : Nat) (Q : Option zV → zIni → zM → Prop) : Prop :=
  Met B.1 y.1 (zws y) rm (va_Pc (as.map (ztr B.2.2.2)) (fun U => (∀ v ∈ as, zokV (gn M) v) ∧ B.2.2.2 ≤ U.heap.size ∧ zrel B ini M U.heap ∧ zKn B U)) (zQc B (gn M) Q) mc ms (fun q => B.2.2.2 ≤ q)
theorem zPc_blind (as : List Value) {P : State → Prop} (hP : ∀ U U' : State, U.heap = U'.heap → U.vm = U'.vm → P U → P U') : FrameBlind (va_Pc as P) := fun a U g mk h => ⟨h.1, hP U _ rfl rfl h.2⟩
theorem zws_good {y : zY} {n : Nat} (h : zMF y n) : GoodIn zTB (zws y) := fun w hw => by
  rcases List.mem_cons.mp hw with rfl | hw
  · exact zTB_good _ h.1
  · exact zTB_good _ hw
/-- the way on behind a call -/
theorem zgo {p : Program} {e : Env} {s : State} {m : MethodId} {args : Array Value} {below : List Frame} {meth : Method} {c : Code} {H : Heap} {locs : List Loc} {lsr : Array Slot} {mc ms : Nat} {a : Array Value} {g : List Value}
    (hr : va_Run p B.1 e E.2.1 s m args below meth c H locs ce sl mc ms (F0 m pc lsr g) (st.map (ztr B.2.2.2)) (zQc B (gn M) (fun r ini' M' => gn M ≤ gn M' → zW B E (pc + 3) ls (r.toList ++ st) ini' M' (ce + mc) (sl + ms)) a) (fun q => B.2.2.2 ≤ q))
    (hF : zFix E.1 p s m args meth c) (hE : E.2.2.2.1 s) (hK : zKn B s) (hS : va_S (fun q => B.2.2.2 ≤ q) s.heap H locs) (hbs : B.2.2.2 ≤ s.heap.size) (hn : E.2.2.1 ≤ gn M) (hl : zlh B.2.2.2 lsr E.1.2.2.1 ls) (hlo : ∀ v, some v ∈ ls → zokV (gn M) v) (hst : ∀ v ∈ st, zokV (gn M) v) :
    W p B.1 e E.2.1 s m args below meth c H locs ce sl (E.2.2.2.2 below args s) (F0 m pc lsr g) := by
  intro T hT X
  obtain ⟨v, st₀, t, T', L, h0, X', hL, e1, e2, ⟨r, ini', M', hv, hk, hR', hrv, hgn, hz, hkp⟩, stp⟩ := hr T hT X
  cases hv
  rw [h0] at hz hkp
  have kk := hk hgn p e s m args below meth c T'.heap (locs ++ L) lsr hF hE hK (by rw [e1]; exact hR')
    ⟨Nat.le_trans hS.1 (by rw [e1]; exact hz), fun q h1 h2 => by rw [e1, hkp q (Nat.lt_of_lt_of_le h1 hS.1) h2]; exact hS.2.1 q h1 h2, fun q hq => by
      rcases List.mem_append.mp hq with h | h
      · exact hS.2.2 q h
      · exact hL q h⟩ hbs (Nat.le_trans hn hgn) hl (fun v hv => (hlo v hv).mono hgn) (fun w hw => by
      rcases List.mem_append.mp hw with h | h
      · have h2 : r = some w := by simpa using h
        exact hrv w h2
      · exact (hst w h).mono hgn)
  obtain ⟨t2, a1, b1⟩ := kk T' rfl X'
  refine ⟨t2, stp t2 ?_, b1⟩
  cases r with
  | none => exact a1
  | some w => exact a1
theorem zargs_rev (base : Nat) (as st : List zV) (b : zV) : (as.reverse ++ b :: st).map (ztr base) = (as.map (ztr base)).reverse ++ ztr base b :: st.map (ztr base) := by simp
theorem zargs_rev0 (base : Nat) (as st : List zV) : (as.reverse ++ st).map (ztr base) = (as.map (ztr base)).reverse ++ st.map (ztr base) := by simp
theorem zpre {s : State} {H : Heap} {as : List zV} (hK : zKn B s) (hR : zrel B ini M H) (has : ∀ v ∈ as, zokV (gn M) v) (hH : B.2.2.2 ≤ H.size) :
    PreS s H (va_Pc (as.map (ztr B.2.2.2)) (fun U => (∀ v ∈ as, zokV (gn M) v) ∧ B.2.2.2 ≤ U.heap.size ∧ zrel B ini M U.heap ∧ zKn B U)) (as.map (ztr B.2.2.2)) :=
  ⟨zPc_blind _ (fun U U' h1 h2 q => ⟨q.1, by rw [← h1]; exact q.2.1, by rw [← h1]; exact q.2.2.1, zKn.same h2 q.2.2.2⟩), fun U hU hW => ⟨rfl, has, by rw [hU]; exact hH, by rw [hU]; exact hR, hK.warm hW⟩⟩
theorem zroom (s : List zV) (base : Nat) {pc : Nat} {lsr : Array Slot} {m : MethodId} {g : List Value} (h : s.length ≤ 8) : 2 * (F0 m pc lsr g).monitorRoom + ((s.map (ztr base)).map fun v => v.category).sum ≤ 8 := by
  rw [ztr_sum]
  show 2 * 0 + _ ≤ 8
  omega
theorem r_callV {y : zY} {as : List zV} {k ci idx n d mc ms : Nat} {stk : List zV} (hd : decode E.1.2.1 pc = .ok (.invokevirtual idx, 3)) (hmf : zMF y n) (hmi : zMI y) (hml : Cond.methodLink E.1.1.cls idx y.1 ∈ zTB) (hstk : stk = as.reverse ++ zR k :: st) (hlen : as.length = n) (hkd : zkd k = .inr ci) (hci : ci < 10) (hcn : zNm ci = y.1.cls) (hst8 : st.length ≤ 8)
    (hrm : (d + 1 + 1 ≤ E.2.1.frames ∧ 8 + (y.2.2.1 + 11) + 64 * (d + 1) ≤ E.2.1.locals) ∧ ce + mc ≤ E.2.1.cells ∧ sl + ms ≤ E.2.1.slots)
    (hM : zMet B y (zrm d mc ms) ini (zR k :: as) M mc ms (fun r ini' M' => gn M ≤ gn M' → zW B E (pc + 3) ls (r.toList ++ st) ini' M' (ce + mc) (sl + ms))) : zW B E pc ls stk ini M ce sl := by
  subst hstk
  intro p e s m args below meth c H locs lsr hF hE hK hR hS hbs hn hl hlo hst
  have hts := hF.2.2.2.2.1
  have has : ∀ v ∈ zR k :: as, zokV (gn M) v := fun v hv => by
    rcases List.mem_cons.mp hv with rfl | hv
    · exact hst _ (List.mem_append_right _ List.mem_cons_self)
    · exact hst _ (List.mem_append_left _ (List.mem_reverse.mpr hv))
  have hs2 : ∀ v ∈ st, zokV (gn M) v := fun v hv => hst _ (List.mem_append_right _ (List.mem_cons_of_mem _ hv))
  have hH : B.2.2.2 ≤ H.size := by rw [hR.1]; omega
  have hP := zpre hK hR has hH
  obtain ⟨cell, q1, q2, q3, q4⟩ := zat_obj (hR.2.1 k (has _ List.mem_cons_self)) hkd hci
  have hcl := (hK.1.1 ci _ (zc_cl ci hci)).2.1
  rw [zargs_rev]
  refine zgo (a := (Value.ref (B.2.2.2 + k) :: as.map (ztr B.2.2.2)).toArray) (va_runV (C := y.1.cls) (n := n) (bytes := y.2.1) (maxL := y.2.2.1) (ret := y.2.2.2) (ws := zws y) ⟨hF.1, hF.2.1, hF.2.2.1, hF.2.2.2.1, hts⟩ hM ⟨callB_of n hts (zws_good hmf) rfl rfl rfl (hts _ hmf.2.1) (hts _ hml) ⟨hmf.2.2.2.1.1, hmf.2.2.2.1.2, hmf.2.2.2.2⟩ hrm.1, hts _ hmi.1, hts _ hmi.2⟩ ⟨hP.1, ⟨cell, q1, by rw [q3]; rfl, by rw [q2, ← hcn]; exact hcl⟩, hP.2⟩ rfl (by rw [List.length_map]; exact hlen) hl.1 rfl (zroom st _ hst8) hd hrm.2) hF hE hK hS hbs hn hl hlo hs2
theorem r_callS {y : zY} {as : List zV} {idx n d mc ms : Nat} {stk : List zV} (hd : decode E.1.2.1 pc = .ok (.invokestatic idx, 3)) (hmf : zMF y n) (hms : Cond.static y.1 ∈ zTB) (hml : Cond.methodLink E.1.1.cls idx y.1 ∈ zTB) (hstk : stk = as.reverse ++ st) (hlen : as.length = n) (hst8 : st.length ≤ 8)
    (hrm : (d + 1 + 1 ≤ E.2.1.frames ∧ 8 + (y.2.2.1 + 11) + 64 * (d + 1) ≤ E.2.1.locals) ∧ ce + mc ≤ E.2.1.cells ∧ sl + ms ≤ E.2.1.slots)
    (hM : zMet B y (zrm d mc ms) ini as M mc ms (fun r ini' M' => gn M ≤ gn M' → zW B E (pc + 3) ls (r.toList ++ st) ini' M' (ce + mc) (sl + ms))) : zW B E pc ls stk ini M ce sl := by
  subst hstk
  intro p e s m args below meth c H locs lsr hF hE hK hR hS hbs hn hl hlo hst
  have hts := hF.2.2.2.2.1
  have has : ∀ v ∈ as, zokV (gn M) v := fun v hv => hst _ (List.mem_append_left _ (List.mem_reverse.mpr hv))
  have hs2 : ∀ v ∈ st, zokV (gn M) v := fun v hv => hst _ (List.mem_append_right _ hv)
  have hP := zpre hK hR has (by rw [hR.1]; omega)
  rw [zargs_rev0]
  exact zgo (a := (as.map (ztr B.2.2.2)).toArray) (va_runS (n := n) (bytes := y.2.1) (maxL := y.2.2.1) (ret := y.2.2.2) (ws := zws y) ⟨hF.1, hF.2.1, hF.2.2.1, hF.2.2.2.1, hts⟩ hM ⟨callB_of n hts (zws_good hmf) rfl rfl rfl (hts _ hmf.2.1) (hts _ hml) ⟨hmf.2.2.2.1.1, hmf.2.2.2.1.2, hmf.2.2.2.2⟩ hrm.1, hts _ hms⟩ hP rfl (by rw [List.length_map]; exact hlen) hl.1 rfl (zroom st _ hst8) hd hrm.2) hF hE hK hS hbs hn hl hlo hs2
/-- a private static method of the outer class -/
theorem r_callN {y : zY} {as : List zV} {idx n d mc ms : Nat} {stk : List zV} (hd : decode E.1.2.1 pc = .ok (.invokestatic idx, 3)) (hmf : zMF y n) (hms : Cond.static y.1 ∈ zTB) (hml : ∀ s : State, zKn B s → va_Nw (.methodLinkNest E.1.1.cls idx y.1 "ShrinkDesk") s) (hstk : stk = as.reverse ++ st) (hlen : as.length = n) (hst8 : st.length ≤ 8)
    (hrm : (d + 1 + 1 ≤ E.2.1.frames ∧ 8 + (y.2.2.1 + 11) + 64 * (d + 1) ≤ E.2.1.locals) ∧ ce + mc ≤ E.2.1.cells ∧ sl + ms ≤ E.2.1.slots)
    (hM : zMet B y (zrm d mc ms) ini as M mc ms (fun r ini' M' => gn M ≤ gn M' → zW B E (pc + 3) ls (r.toList ++ st) ini' M' (ce + mc) (sl + ms))) : zW B E pc ls stk ini M ce sl := by
  subst hstk
  intro p e s m args below meth c H locs lsr hF hE hK hR hS hbs hn hl hlo hst
  have hts := hF.2.2.2.2.1
  have has : ∀ v ∈ as, zokV (gn M) v := fun v hv => hst _ (List.mem_append_left _ (List.mem_reverse.mpr hv))
  have hs2 : ∀ v ∈ st, zokV (gn M) v := fun v hv => hst _ (List.mem_append_right _ hv)
  have hP := zpre hK hR has (by rw [hR.1]; omega)
  rw [zargs_rev0]
  exact zgo (a := (as.map (ztr B.2.2.2)).toArray) (va_runSN (n := n) (bytes := y.2.1) (maxL := y.2.2.1) (ret := y.2.2.2) (ws := zws y) ⟨hF.1, hF.2.1, hF.2.2.1, hF.2.2.2.1, hts⟩ hM ⟨va_cnB n hts (zws_good hmf) rfl rfl rfl (hml s hK) (hts _ hmf.2.1) ⟨hmf.2.2.2.1.1, hmf.2.2.2.1.2, hmf.2.2.2.2⟩ hrm.1, hts _ hms, trivial⟩ hP rfl (by rw [List.length_map]; exact hlen) hl.1 rfl (zroom st _ hst8) hd hrm.2) hF hE hK hS hbs hn hl hlo hs2
/-- a constructor -/
theorem r_callI {y : zY} {as : List zV} {k idx n d mc ms : Nat} {stk : List zV} (hd : decode E.1.2.1 pc = .ok (.invokespecial idx, 3)) (hmf : zMF y n) (hmi : Cond.instanceMethod y.1 ∈ zTB) (hy1 : y.1.name = "<init>") (hrt : y.2.2.2 = none) (hml : Cond.methodLink E.1.1.cls idx y.1 ∈ zTB) (hstk : stk = as.reverse ++ zR k :: st) (hlen : as.length = n) (hst8 : st.length ≤ 8)
    (hrm : (d + 1 + 1 ≤ E.2.1.frames ∧ 8 + (y.2.2.1 + 11) + 64 * (d + 1) ≤ E.2.1.locals) ∧ ce + mc ≤ E.2.1.cells ∧ sl + ms ≤ E.2.1.slots)
    (hM : zMet B y (zrm d mc ms) ini (zR k :: as) M mc ms (fun r ini' M' => gn M ≤ gn M' → zW B E (pc + 3) ls (r.toList ++ st) ini' M' (ce + mc) (sl + ms))) : zW B E pc ls stk ini M ce sl := by
  subst hstk
  intro p e s m args below meth c H locs lsr hF hE hK hR hS hbs hn hl hlo hst
  have hts := hF.2.2.2.2.1
  have has : ∀ v ∈ zR k :: as, zokV (gn M) v := fun v hv => by
    rcases List.mem_cons.mp hv with rfl | hv
    · exact hst _ (List.mem_append_right _ List.mem_cons_self)
    · exact hst _ (List.mem_append_left _ (List.mem_reverse.mpr hv))
  have hs2 : ∀ v ∈ st, zokV (gn M) v := fun v hv => hst _ (List.mem_append_right _ (List.mem_cons_of_mem _ hv))
  have hP := zpre hK hR has (by rw [hR.1]; omega)
  rw [zargs_rev]
  exact zgo (a := (Value.ref (B.2.2.2 + k) :: as.map (ztr B.2.2.2)).toArray) (va_runI (n := n) (bytes := y.2.1) (maxL := y.2.2.1) (ws := zws y) ⟨hF.1, hF.2.1, hF.2.2.1, hF.2.2.2.1, hts⟩ hM (cwI n hts (zws_good hmf) (by unfold zws; rw [hrt]) rfl rfl (hts _ hmf.2.1) (hts _ hml) (hts _ hmi) hy1 ⟨hmf.2.2.2.1.1, hmf.2.2.2.1.2, hmf.2.2.2.2⟩ hrm.1) hP rfl (by rw [List.length_map]; exact hlen) hl.1 rfl (zroom st _ hst8) hd hrm.2) hF hE hK hS hbs hn hl hlo hs2
/-- Object's constructor -/
theorem r_objInit {k idx : Nat} (hd : decode E.1.2.1 pc = .ok (.invokespecial idx, 3)) (hml : Cond.methodLink E.1.1.cls idx objectInit ∈ zTB) (hst8 : st.length ≤ 8) (hrm : 1 ≤ E.2.1.frames ∧ 20 ≤ E.2.1.locals) (kk : zW B E (pc + 3) ls st ini M ce sl) : zW B E pc ls (zR k :: st) ini M ce sl := by
  intro p e s m args below meth c H locs lsr hF hE hK hR hS hbs hn hl hlo hst
  have hts := hF.2.2.2.2.1
  refine W.objInit hF.1 hF.2.1 hF.2.2.2.1 (hts _ hml) (hts _ mj_obj.1) (hts _ mj_obj.2) rfl (hl.1.trans hF.2.2.1.symm) rfl hd hrm.1 ?_ (kk p e s m args below meth c H locs lsr hF hE hK hR hS hbs hn hl hlo (zok_t hst))
  rw [ztr_sum]
  show 2 * 0 + _ + 12 ≤ _
  omega
/-! ends -/
def zFq (B : zB) (n0 mc ms : Nat) (Q : Option zV → zIni → zM → Prop) : List Frame → Array Value → State → State → Prop := fun below args s => MQ below (zQc B n0 Q) args s mc ms (fun q => B.2.2.2 ≤ q)
/-- the frame of a method that is proved by itself -/
abbrev zEm (B : zB) (y : zY) (d mc ms n0 : Nat) (Q : Option zV → zIni → zM → Prop) : zE := (y, zrm d mc ms, n0, fun _ => True, zFq B n0 mc ms Q)
theorem r_iret {y : zY} {d mc ms n0 : Nat} {Q : Option zV → zIni → zM → Prop} {x : Int} {ty : FieldType} (hd : decode y.2.1 pc = .ok (.ireturn, 1)) (hty : y.2.2.2 = some ty) (hf : zfit ty x) (hce : ce ≤ mc ∧ sl ≤ ms) (k : Q (some (zI x)) ini M) : zW B (zEm B y d mc ms n0 Q) pc ls [zI x] ini M ce sl := by
  intro p e s m args below meth c H locs lsr hF hE hK hR hS hbs hn hl hlo hst
  refine W.widen hce.1 hce.2 (W.zret (v := Int32.ofInt x) (ty := ty) hF.1 hF.2.1 (hF.2.2.2.2.2.1.trans hty) (zfit_ok hf).1 (fun t ht hW => ?_) hS.2.2 hd hF.2.2.2.2.2.2.1)
  exact ⟨some (zI x), ini, M, rfl, k, by rw [ht]; exact hR, fun v hv => by cases hv; exact zok_h hst, hn, hS.F ht⟩
theorem r_vret {y : zY} {d mc ms n0 : Nat} {Q : Option zV → zIni → zM → Prop} (hd : decode y.2.1 pc = .ok (.return_, 1)) (hty : y.2.2.2 = none) (hce : ce ≤ mc ∧ sl ≤ ms) (k : Q none ini M) : zW B (zEm B y d mc ms n0 Q) pc ls [] ini M ce sl := by
  intro p e s m args below meth c H locs lsr hF hE hK hR hS hbs hn hl hlo hst
  refine W.widen hce.1 hce.2 (W.vret hF.1 hF.2.1 (hF.2.2.2.2.2.1.trans hty) (fun t ht hW => ?_) hS.2.2 hd hF.2.2.2.2.2.2.1)
  exact ⟨none, ini, M, rfl, k, by rw [ht]; exact hR, fun v hv => (by cases hv), hn, hS.F ht⟩
/-! a method from its entry -/
theorem zsl_len (base : Nat) (as : List zV) : (lg_sl (as.map (ztr base))).length = as.length := by
  induction as with
  | nil => rfl
  | cons a t ih =>
    have e : lg_sl ((a :: t).map (ztr base)) = .val (ztr base a) :: lg_sl (t.map (ztr base)) := by
      unfold lg_sl
      simp [ztr_cat]
    rw [e, List.length_cons, ih, List.length_cons]
theorem zlv_args {base : Nat} {as : List zV} {k i : Nat} {v : zV} (h : as[i]? = some v) : (k + i, ztr base v) ∈ lv_args k (as.map (ztr base)) := by
  induction as generalizing k i with
  | nil => simp at h
  | cons a t ih =>
    have e : lv_args k ((a :: t).map (ztr base)) = (k, ztr base a) :: lv_args (k + 1) (t.map (ztr base)) := by
      simp [lv_args, ztr_cat]
    rw [e]
    cases i with
    | zero =>
      simp only [List.getElem?_cons_zero, Option.some.injEq] at h
      subst h
      exact List.mem_cons_self
    | succ i =>
      simp only [List.getElem?_cons_succ] at h
      have h2 := ih (k := k + 1) h
      have e : k + 1 + i = k + (i + 1) := by omega
      rw [e] at h2
      exact List.mem_cons_of_mem _ h2
theorem zlh_entry (base : Nat) (as : List zV) {n : Nat} (h : as.length ≤ n) : zlh base ((lg_sl (as.map (ztr base)) ++ List.replicate (n - (lg_sl (as.map (ztr base))).length) Slot.unset).toArray) n (as.map some ++ List.replicate (n - as.length) none) := by
  obtain ⟨h1, h2, h3⟩ := lv_entry (as.map (ztr base)) (n := n) (by rw [zsl_len]; exact h)
  refine ⟨h1, h2, by simp; omega, fun i v hi => ?_⟩
  by_cases hlt : i < as.length
  · rw [List.getElem?_append_left (by simpa using hlt)] at hi
    have hi2 : as[i]? = some v := by simpa using hi
    have hm := zlv_args (base := base) (k := 0) hi2
    rw [Nat.zero_add] at hm
    exact h3 _ hm
  · rw [List.getElem?_append_right (by simpa using Nat.not_lt.mp hlt)] at hi
    rw [List.getElem?_replicate] at hi
    split at hi <;> cases hi
theorem zMet.of {y : zY} {d mc ms n : Nat} {as : List zV} {ls0 : List (Option zV)} {Q : Option zV → zIni → zM → Prop} (hmf : zMF y n) (hlen : as.length ≤ y.2.2.1) (hls : as.map some ++ List.replicate (y.2.2.1 - as.length) none = ls0)
    (k : zW B (zEm B y d mc ms (gn M) Q) 0 ls0 [] ini M 0 0) : zMet B y (zrm d mc ms) ini as M mc ms Q := by
  subst hls
  refine Met.ofW (cc := y.2.1) (maxL := y.2.2.1) (ret := y.2.2.2) hmf.2.2.1 rfl ?_
  intro p e s m args below meth c s₁ Bd hml hv
  obtain ⟨rfl, has, hbs, hR, hK⟩ := hv
  have hts : ∀ w ∈ zws y, w.before (as.map (ztr B.2.2.2)).toArray s = true := atoms_spec (ws := zws y) Bd.pre
  rw [lg_entry_eq]
  refine k p e s m _ below meth c s.heap [] _ ⟨Bd.exec, Bd.bytes, hml, findClass_of_methodNamed Bd.named, fun w hw => hts w (List.mem_cons_of_mem _ hw), Bd.returns, Bd.notSynchronized, fun h => ?_⟩ trivial hK hR va_S.rf hbs (Nat.le_refl _) (zlh_entry _ as hlen) (fun v hv => ?_) (fun v hv => by cases hv)
  · rw [(name_of_methodNamed Bd.named Bd.method).1]
    exact h
  · rcases List.mem_append.mp hv with h | h
    · obtain ⟨w, hw, e⟩ := List.mem_map.mp h
      cases e
      exact has _ hw
    · have := List.eq_of_mem_replicate h
      cases this
/-- a contract says less -/
theorem zMet.mono {y : zY} {rm : Room} {as : List zV} {mc ms : Nat} {Q Q' : Option zV → zIni → zM → Prop} (h : zMet B y rm ini as M mc ms Q) (hq : ∀ r ini' M', Q r ini' M' → Q' r ini' M') : zMet B y rm ini as M mc ms Q' := by
  unfold zMet Met at *
  intro p e ha hc hk s m args below hf happ hp hx
  obtain ⟨k, o, h1, h2, h3, ⟨h4, h5⟩⟩ := h p e ha hc hk s m args below hf happ hp hx
  obtain ⟨r, ini', M', g1, g2, g3⟩ := h4
  exact ⟨k, o, h1, h2, h3, ⟨r, ini', M', g1, hq _ _ _ g2, g3⟩, h5⟩
end ZC
