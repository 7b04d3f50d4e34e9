/-! ===== contracts in the form in which they are used: 'go on with K' ===== -/
def zQi (K : Int → zM → Prop) : Option zV → zIni → zM → Prop := fun r i M => i = zA1 ∧ ∃ x, r = some (zI x) ∧ K x M
def zQv (K : zM → Prop) : Option zV → zIni → zM → Prop := fun r i M => i = zA1 ∧ r = none ∧ K M
/-- inside a method that answers an int (mc cells of ms slots may come) -/
abbrev zGi (B : zB) (y : zY) (d mc ms n0 : Nat) (K : Int → zM → Prop) (pc : Nat) (ls : List (Option zV)) (st : List zV) (M : zM) (ce sl : Nat) : Prop := zW B (zEm B y d mc ms n0 (zQi K)) pc ls st zA1 M ce sl
abbrev zGv (B : zB) (y : zY) (d mc ms n0 : Nat) (K : zM → Prop) (pc : Nat) (ls : List (Option zV)) (st : List zV) (M : zM) (ce sl : Nat) : Prop := zW B (zEm B y d mc ms n0 (zQv K)) pc ls st zA1 M ce sl
/-- a call of such a method -/
abbrev zCi (B : zB) (y : zY) (d mc ms : Nat) (as : List zV) (M : zM) (K : Int → zM → Prop) : Prop := zMet B y (zrm d mc ms) zA1 as M mc ms (zQi K)
abbrev zCv (B : zB) (y : zY) (d mc ms : Nat) (as : List zV) (M : zM) (K : zM → Prop) : Prop := zMet B y (zrm d mc ms) zA1 as M mc ms (zQv K)
/-- fewer locals -/
def zsubl : List (Option zV) → List (Option zV) → Prop
  | [], [] => True
  | none :: a, _ :: b => zsubl a b
  | some v :: a, some w :: b => v = w ∧ zsubl a b
  | _, _ => False
theorem zsubl_len {a b : List (Option zV)} (h : zsubl a b) : a.length = b.length := by
  induction a generalizing b with
  | nil =>
    cases b with
    | nil => rfl
    | cons => exact h.elim
  | cons x t ih =>
    cases b with
    | nil => cases x <;> exact h.elim
    | cons y u =>
      cases x with
      | none => simp [ih (b := u) h]
      | some v =>
        cases y with
        | none => exact h.elim
        | some w => simp [ih (b := u) h.2]
theorem zsubl_get {a b : List (Option zV)} (h : zsubl a b) {i : Nat} {v : zV} (hi : a[i]? = some (some v)) : b[i]? = some (some v) := by
  induction a generalizing b i with
  | nil => simp at hi
  | cons x t ih =>
    cases b with
    | nil => cases x <;> exact h.elim
    | cons y u =>
      cases x with
      | none =>
        cases i with
        | zero => simp at hi
        | succ i => simpa using ih (b := u) h (by simpa using hi)
      | some w =>
        cases y with
        | none => exact h.elim
        | some z =>
          cases i with
          | zero =>
            have e : w = v := by simpa using hi
            rw [← e, h.1]
            rfl
          | succ i => simpa using ih (b := u) h.2 (by simpa using hi)
section ZN
variable {B : zB} {E : zE} {pc : Nat} {ls : List (Option zV)} {st : List zV} {ini : zIni} {M : zM} {ce sl : Nat}
theorem r_fgt {ls2 : List (Option zV)} (h : zsubl ls2 ls) (k : zW B E pc ls2 st ini M ce sl) : zW B E pc ls st ini M ce sl := by
  intro p e s m args below meth c H locs lsr hF hE hK hR hS hbs hn hl hlo hst
  refine k p e s m args below meth c H locs lsr hF hE hK hR hS hbs hn ⟨hl.1, hl.2.1, by rw [zsubl_len h]; exact hl.2.2.1, fun i v hi => hl.2.2.2 i v (zsubl_get h hi)⟩ (fun v hv => ?_) hst
  obtain ⟨i, hi⟩ := List.getElem?_of_mem hv
  exact hlo v (List.mem_of_getElem? (zsubl_get h hi))
theorem r_gi {x : Option Nat} {k ci j idx : Nat} {v : Int} (hd : decode E.1.2.1 pc = .ok (.getfield idx, 3)) (hL : zLnk E.1.1.cls idx ci j) (hx : x = some k) (hkd : zkd k = .inr ci) (hs : zsk ci j = 0) (hv : gi M k j = v) (kk : zW B E (pc + 3) ls (zI v :: st) ini M ce sl) : zW B E pc ls (zO x :: st) ini M ce sl := by
  subst hx; subst hv
  exact r_geti hd hL hkd hs kk
theorem r_gs {x : Option Nat} {k ci j idx r : Nat} (hd : decode E.1.2.1 pc = .ok (.getfield idx, 3)) (hL : zLnk E.1.1.cls idx ci j) (hx : x = some k) (hkd : zkd k = .inr ci) (hs : zsk ci j = 1) (hi : ini k j = true) (hr : zsf k j = r) (kk : zW B E (pc + 3) ls (zR r :: st) ini M ce sl) : zW B E pc ls (zO x :: st) ini M ce sl := by
  subst hx; subst hr
  exact r_gets hd hL hkd hs hi kk
theorem r_gd {x v : Option Nat} {k ci j idx : Nat} (hd : decode E.1.2.1 pc = .ok (.getfield idx, 3)) (hL : zLnk E.1.1.cls idx ci j) (hx : x = some k) (hkd : zkd k = .inr ci) (hs : zsk ci j = 2) (hv : gr M k j = v) (kk : zW B E (pc + 3) ls (zO v :: st) ini M ce sl) : zW B E pc ls (zO x :: st) ini M ce sl := by
  subst hx; subst hv
  exact r_getd hd hL hkd hs kk
theorem r_ial {k n : Nat} {i v : Int} (hd : decode E.1.2.1 pc = .ok (.iaload, 1)) (hkd : zkd k = .inl (0, n)) (hi : 0 ≤ i ∧ i < n) (hv : gi M k i.toNat = v) (kk : zW B E (pc + 1) ls (zI v :: st) ini M ce sl) : zW B E pc ls (zI i :: zR k :: st) ini M ce sl := by
  subst hv
  exact r_iaload hd hkd hi kk
theorem r_bal {k n : Nat} {i v : Int} (hd : decode E.1.2.1 pc = .ok (.baload, 1)) (hkd : zkd k = .inl (1, n)) (hi : 0 ≤ i ∧ i < n) (hv : gi M k i.toNat = v) (kk : zW B E (pc + 1) ls (zI v :: st) ini M ce sl) : zW B E pc ls (zI i :: zR k :: st) ini M ce sl := by
  subst hv
  exact r_baload hd hkd hi kk
theorem r_cal {k n : Nat} {i v : Int} (hd : decode E.1.2.1 pc = .ok (.caload, 1)) (hkd : zkd k = .inl (2, n)) (hi : 0 ≤ i ∧ i < n) (hv : gi M k i.toNat = v) (kk : zW B E (pc + 1) ls (zI v :: st) ini M ce sl) : zW B E pc ls (zI i :: zR k :: st) ini M ce sl := by
  subst hv
  exact r_caload hd hkd hi kk
theorem r_aal {k n : Nat} {i : Int} {v : Option Nat} (hd : decode E.1.2.1 pc = .ok (.aaload, 1)) (hkd : zkd k = .inl (3, n)) (hi : 0 ≤ i ∧ i < n) (hv : gr M k i.toNat = v) (kk : zW B E (pc + 1) ls (zO v :: st) ini M ce sl) : zW B E pc ls (zI i :: zR k :: st) ini M ce sl := by
  subst hv
  exact r_aaload hd hkd hi kk
/-- writing an int field that isn't final, a reference that moves -/
theorem r_pi {k ci j idx : Nat} {x : Int} (hd : decode E.1.2.1 pc = .ok (.putfield idx, 3)) (hL : zLnk E.1.1.cls idx ci j) (hkd : zkd k = .inr ci) (hs : zsk ci j = 0) (hfin : (zT ci j).2.2.2 = false) (hf : zfit (zty ci j) x) (kk : zW B E (pc + 3) ls st ini (si M k j x) ce sl) : zW B E pc ls (zI x :: zR k :: st) ini M ce sl :=
  r_puti hd hL hkd hs hfin (fun h => by cases h) hf kk
theorem r_pd {k ci j idx : Nat} {x : Option Nat} {C : String} (hd : decode E.1.2.1 pc = .ok (.putfield idx, 3)) (hL : zLnk E.1.1.cls idx ci j) (hkd : zkd k = .inr ci) (hs : zsk ci j = 2) (hfin : (zT ci j).2.2.2 = false) (hf : zty ci j = .object C) (kk : zW B E (pc + 3) ls st ini (sr M k j x) ce sl) : zW B E pc ls (zO x :: zR k :: st) ini M ce sl :=
  r_putd hd hL hkd hs hfin (fun h => by cases h) hf kk
theorem zQi.call {y : zY} {rm : Room} {as : List zV} {mc ms : Nat} {K : Int → zM → Prop} (hM : zMet B y rm zA1 as M mc ms (zQi K)) {F : Option zV → zIni → zM → Prop} (h : ∀ x M', K x M' → F (some (zI x)) zA1 M') : zMet B y rm zA1 as M mc ms F :=
  hM.mono (fun r i M' q => by obtain ⟨rfl, x, rfl, q⟩ := q; exact h x M' q)
theorem zQv.call {y : zY} {rm : Room} {as : List zV} {mc ms : Nat} {K : zM → Prop} (hM : zMet B y rm zA1 as M mc ms (zQv K)) {F : Option zV → zIni → zM → Prop} (h : ∀ M', K M' → F none zA1 M') : zMet B y rm zA1 as M mc ms F :=
  hM.mono (fun r i M' q => by obtain ⟨rfl, rfl, q⟩ := q; exact h M' q)
theorem r_cVi {y : zY} {as : List zV} {k ci idx n d mc ms : Nat} {stk : List zV} (hd : decode E.1.2.1 pc = .ok (.invokevirtual idx, 3)) (hmf : zMF y n) (hmi : zMI y) (hml : Cond.methodLink E.1.1.cls idx y.1 ∈ zTB) (hstk : stk = as.reverse ++ zR k :: st) (hlen : as.length = n) (hkd : zkd k = .inr ci) (hci : ci < 10) (hcn : zNm ci = y.1.cls) (hst8 : st.length ≤ 8)
    (hrm : (d + 1 + 1 ≤ E.2.1.frames ∧ 8 + (y.2.2.1 + 11) + 64 * (d + 1) ≤ E.2.1.locals) ∧ ce + mc ≤ E.2.1.cells ∧ sl + ms ≤ E.2.1.slots)
    (hM : zCi B y d mc ms (zR k :: as) M (fun x M' => zW B E (pc + 3) ls (zI x :: st) zA1 M' (ce + mc) (sl + ms))) : zW B E pc ls stk zA1 M ce sl :=
  r_callV hd hmf hmi hml hstk hlen hkd hci hcn hst8 hrm (zQi.call hM (fun x M' q _ => q))
theorem r_cVv {y : zY} {as : List zV} {k ci idx n d mc ms : Nat} {stk : List zV} (hd : decode E.1.2.1 pc = .ok (.invokevirtual idx, 3)) (hmf : zMF y n) (hmi : zMI y) (hml : Cond.methodLink E.1.1.cls idx y.1 ∈ zTB) (hstk : stk = as.reverse ++ zR k :: st) (hlen : as.length = n) (hkd : zkd k = .inr ci) (hci : ci < 10) (hcn : zNm ci = y.1.cls) (hst8 : st.length ≤ 8)
    (hrm : (d + 1 + 1 ≤ E.2.1.frames ∧ 8 + (y.2.2.1 + 11) + 64 * (d + 1) ≤ E.2.1.locals) ∧ ce + mc ≤ E.2.1.cells ∧ sl + ms ≤ E.2.1.slots)
    (hM : zCv B y d mc ms (zR k :: as) M (fun M' => zW B E (pc + 3) ls st zA1 M' (ce + mc) (sl + ms))) : zW B E pc ls stk zA1 M ce sl :=
  r_callV hd hmf hmi hml hstk hlen hkd hci hcn hst8 hrm (zQv.call hM (fun M' q _ => q))
theorem r_cSi {y : zY} {as : List zV} {idx n d mc ms : Nat} {stk : List zV} (hd : decode E.1.2.1 pc = .ok (.invokestatic idx, 3)) (hmf : zMF y n) (hms : Cond.static y.1 ∈ zTB) (hml : Cond.methodLink E.1.1.cls idx y.1 ∈ zTB) (hstk : stk = as.reverse ++ st) (hlen : as.length = n) (hst8 : st.length ≤ 8)
    (hrm : (d + 1 + 1 ≤ E.2.1.frames ∧ 8 + (y.2.2.1 + 11) + 64 * (d + 1) ≤ E.2.1.locals) ∧ ce + mc ≤ E.2.1.cells ∧ sl + ms ≤ E.2.1.slots)
    (hM : zCi B y d mc ms as M (fun x M' => zW B E (pc + 3) ls (zI x :: st) zA1 M' (ce + mc) (sl + ms))) : zW B E pc ls stk zA1 M ce sl :=
  r_callS hd hmf hms hml hstk hlen hst8 hrm (zQi.call hM (fun x M' q _ => q))
theorem r_cSv {y : zY} {as : List zV} {idx n d mc ms : Nat} {stk : List zV} (hd : decode E.1.2.1 pc = .ok (.invokestatic idx, 3)) (hmf : zMF y n) (hms : Cond.static y.1 ∈ zTB) (hml : Cond.methodLink E.1.1.cls idx y.1 ∈ zTB) (hstk : stk = as.reverse ++ st) (hlen : as.length = n) (hst8 : st.length ≤ 8)
    (hrm : (d + 1 + 1 ≤ E.2.1.frames ∧ 8 + (y.2.2.1 + 11) + 64 * (d + 1) ≤ E.2.1.locals) ∧ ce + mc ≤ E.2.1.cells ∧ sl + ms ≤ E.2.1.slots)
    (hM : zCv B y d mc ms as M (fun M' => zW B E (pc + 3) ls st zA1 M' (ce + mc) (sl + ms))) : zW B E pc ls stk zA1 M ce sl :=
  r_callS hd hmf hms hml hstk hlen hst8 hrm (zQv.call hM (fun M' q _ => q))
theorem r_cNi {y : zY} {as : List zV} {idx n d mc ms : Nat} {stk : List zV} (hd : decode E.1.2.1 pc = .ok (.invokestatic idx, 3)) (hmf : zMF y n) (hms : Cond.static y.1 ∈ zTB) (hml : ∀ s : State, zKn B s → va_Nw (.methodLinkNest E.1.1.cls idx y.1 "ShrinkDesk") s) (hstk : stk = as.reverse ++ st) (hlen : as.length = n) (hst8 : st.length ≤ 8)
    (hrm : (d + 1 + 1 ≤ E.2.1.frames ∧ 8 + (y.2.2.1 + 11) + 64 * (d + 1) ≤ E.2.1.locals) ∧ ce + mc ≤ E.2.1.cells ∧ sl + ms ≤ E.2.1.slots)
    (hM : zCi B y d mc ms as M (fun x M' => zW B E (pc + 3) ls (zI x :: st) zA1 M' (ce + mc) (sl + ms))) : zW B E pc ls stk zA1 M ce sl :=
  r_callN hd hmf hms hml hstk hlen hst8 hrm (zQi.call hM (fun x M' q _ => q))
theorem r_cIv {y : zY} {as : List zV} {k idx n d mc ms : Nat} {stk : List zV} (hd : decode E.1.2.1 pc = .ok (.invokespecial idx, 3)) (hmf : zMF y n) (hmi : Cond.instanceMethod y.1 ∈ zTB) (hy1 : y.1.name = "<init>") (hrt : y.2.2.2 = none) (hml : Cond.methodLink E.1.1.cls idx y.1 ∈ zTB) (hstk : stk = as.reverse ++ zR k :: st) (hlen : as.length = n) (hst8 : st.length ≤ 8)
    (hrm : (d + 1 + 1 ≤ E.2.1.frames ∧ 8 + (y.2.2.1 + 11) + 64 * (d + 1) ≤ E.2.1.locals) ∧ ce + mc ≤ E.2.1.cells ∧ sl + ms ≤ E.2.1.slots)
    (hM : zCv B y d mc ms (zR k :: as) M (fun M' => zW B E (pc + 3) ls st zA1 M' (ce + mc) (sl + ms))) : zW B E pc ls stk zA1 M ce sl :=
  r_callI hd hmf hmi hy1 hrt hml hstk hlen hst8 hrm (zQv.call hM (fun M' q _ => q))
theorem r_reti {y : zY} {d mc ms n0 : Nat} {K : Int → zM → Prop} {x : Int} {ty : FieldType} (hd : decode y.2.1 pc = .ok (.ireturn, 1)) (hty : y.2.2.2 = some ty) (hce : ce ≤ mc ∧ sl ≤ ms) (hf : zfit ty x) (k : K x M) : zGi B y d mc ms n0 K pc ls [zI x] M ce sl :=
  r_iret hd hty hf hce ⟨rfl, x, rfl, k⟩
theorem r_retv {y : zY} {d mc ms n0 : Nat} {K : zM → Prop} (hd : decode y.2.1 pc = .ok (.return_, 1)) (hty : y.2.2.2 = none) (hce : ce ≤ mc ∧ sl ≤ ms) (k : K M) : zGv B y d mc ms n0 K pc ls [] M ce sl :=
  r_vret hd hty hce ⟨rfl, rfl, k⟩
end ZN
/-- a Text: its signs are the next cell -/
def zTx (t : Nat) : Prop := zkd t = .inr 6 ∧ zsf t 0 = t + 1 ∧ zkd (t + 1) = .inl (2, 32)
theorem zTx_1 : zTx 1 := ⟨rfl, rfl, rfl⟩
theorem zTx_32 : zTx 32 := ⟨rfl, rfl, rfl⟩
theorem zTx_36 : zTx 36 := ⟨rfl, rfl, rfl⟩
theorem zTx_38 : zTx 38 := ⟨rfl, rfl, rfl⟩
theorem zkd_term {k : Nat} (h : 88 ≤ k) : zkd k = .inr 5 := by
  unfold zkd
  have e : zkdL.length = 88 := rfl
  simp [List.getD, e, h]
theorem zbool {x : Int} {C : Prop} [Decidable C] (h : x = if C then 1 else 0) : x = 0 ∨ x = 1 := by
  split at h <;> omega
