/-! THE CLAIM OUT OF ONE WALK OF THE LAW'S BODY. Your part is whole_start (and what it stands on); all else here is the same for every law, but numbers. -/
def R_law : String := "ShrinkDeskLaw"
def lw_P (b : Addr) (xs : List Int32) (args : Array Value) (s : State) : Prop := args = #[.ref b] ∧ s.IntsAt b xs ∧ xs.length ≤ 256 ∧ (Jvm.Cond.and given_1 narrow_1).before args s = true
def lw_Q (_ : Array Value) (s : State) (o : Outcome) (t : State) : Prop := o = .returned (some (.int 1)) ∧ Framed s o t [] 600000 7302250
def lw_Z (below : List Frame) (a : Array Value) (s : State) : State → Prop := fun t => ∃ o, t.status = .running ∧ Ended t below o ∧ lw_Q a s o t
/-- the law's own end, with 1 on the stack, nothing written that was there before, its room as the claim has it -/
theorem lw_ret {p : Program} {l : Launch} {e : Env} {s : State} {m : MethodId} {below : List Frame} {meth : Method} {c : Code} {b : Nat} (hx : p.tables.exec = Jvm.exec) (hb : c.code = code) (hr : meth.sig.returnType = ret) (hlocks : meth.locks = false) {pc : Nat} {H : Heap} {ls : Array Slot} (hdg : decode code pc = .ok (.ireturn, 1)) : W p l e room_1 s m #[Value.ref b] below meth c H [] 600000 7302250 (lw_Z below #[Value.ref b] s) (F0 m pc ls [.int 1]) := by
  intro T hT X
  obtain ⟨fs, hret, hrun, hended, hW, hframe⟩ := X.leave (v := some (.int 1)) (hlocks := hlocks) (fun h => by rw [hr] at h; cases h)
  have hmeth' : T.vm.method? m = some meth := X.method'
  refine ⟨T.setFrames fs, ?_, .returned (some (.int 1)), hrun, hended, rfl, ⟨_, rfl⟩, hW, hframe⟩
  jvm_step X.here [X.here.top, hx, hb, hdg, hmeth', hr, ret, narrow_b1]
  (try refine ⟨rfl, ?_⟩); (try refine ⟨rfl, ?_⟩)
  first | (intro acts; rw [hret _ acts rfl rfl rfl]) | rw [hret _ _ rfl rfl rfl]
  exact Steps.refl _
/-- what holds at the law's entry: the machine, the code, the tables' words (any of lw_tbl by 'hts w (by decide +kernel)'), the script of L ints xs at the cell b, what the Statement gives of the start (any of its parts by flat_of_before) -/
def lw_At (p : Program) (s : State) (m : MethodId) (meth : Method) (c : Code) (b L : Nat) (xs : Nat → Int32) : Prop :=
  p.tables.exec = Jvm.exec ∧ c.code = code ∧ meth.sig.returnType = ret ∧ c.maxLocals = 4 ∧ s.vm.findClass R_law = some m.cls ∧ (∀ w ∈ lw_tbl, w.before #[Value.ref b] s = true) ∧ va_X b L xs s s.heap ∧ b < s.heap.size ∧ meth.locks = false ∧ (Jvm.Cond.and given_1 narrow_1).before #[Value.ref b] s = true
/-! ===== the law's frame, its end, its calls ===== -/
theorem lw_retA {p : Program} {l : Launch} {e : Env} {s : State} {m : MethodId} {args : Array Value} {below : List Frame} {meth : Method} {c : Code} (hx : p.tables.exec = Jvm.exec) (hb : c.code = code) (hr : meth.sig.returnType = ret) (hlocks : meth.locks = false) {pc : Nat} {H : Heap} {ls : Array Slot} (hdg : decode code pc = .ok (.ireturn, 1)) : W p l e room_1 s m args below meth c H [] 600000 7302250 (lw_Z below args s) (F0 m pc ls [.int 1]) := by
  intro T hT X
  obtain ⟨fs, hret, hrun, hended, hW, hframe⟩ := X.leave (v := some (.int 1)) (hlocks := hlocks) (fun h => by rw [hr] at h; cases h)
  have hmeth' : T.vm.method? m = some meth := X.method'
  refine ⟨T.setFrames fs, ?_, .returned (some (.int 1)), hrun, hended, rfl, ⟨_, rfl⟩, hW, hframe⟩
  jvm_step X.here [X.here.top, hx, hb, hdg, hmeth', hr, ret, narrow_b1]
  (try refine ⟨rfl, ?_⟩); (try refine ⟨rfl, ?_⟩)
  first | (intro acts; rw [hret _ acts rfl rfl rfl]) | rw [hret _ _ rfl rfl rfl]
  exact Steps.refl _
abbrev zLaw (b L base : Nat) (xs : Nat → Int32) : zE := (zy_L_law, room_1, 0, fun s => va_X b L xs s s.heap ∧ b < s.heap.size ∧ s.heap.size = base, fun below args s => lw_Z below args s)
theorem dl {b L base : Nat} {xs : Nat → Int32} {pc : Nat} {r : _} (h : decode cL_law pc = r) : decode (zLaw b L base xs).1.2.1 pc = r := h
/-- both sides hold one state -/
def LI (M : zM) : Prop := ∃ (ty wr : List Int) (sk : List (List st3 × Int)) (w u : List st3) (G : Option GC) (j : JS) (on rd : Int), XS M ty wr sk w u G j on rd ∧ MS M ty wr sk w u G j on rd
section LWs
variable {B : zB} {b L : Nat} {xs : Nat → Int32} {pc : Nat} {ls : List (Option zV)} {st : List zV} {ini : zIni} {M : zM} {ce sl : Nat}
theorem rl_hX : ∀ s, (zLaw b L B.2.2.2 xs).2.2.2.1 s → va_X b L xs s s.heap ∧ b < s.heap.size ∧ b < B.2.2.2 := fun s h => ⟨h.1, h.2.1, by rw [← h.2.2]; exact h.2.1⟩
theorem r_lawret (hd : decode cL_law pc = .ok (.ireturn, 1)) (hce : ce ≤ 600000 ∧ sl ≤ 7302250) : zW B (zLaw b L B.2.2.2 xs) pc ls [zI 1] ini M ce sl := by
  intro p e s m args below meth c H locs lsr hF hE hK hR hS hbs hn hl hlo hst
  refine va_forget (fun q hq => ?_) (W.widen hce.1 hce.2 ?_)
  · have h1 := hS.2.2 q hq
    have h2 := hE.2.2
    rw [h2]
    exact h1
  · exact lw_retA hF.1 hF.2.1 hF.2.2.2.2.2.1 hF.2.2.2.2.2.2.1 hd
theorem rl_cVi {y : zY} {as : List zV} {k ci idx n d mc ms : Nat} {stk : List zV} (hd : decode cL_law pc = .ok (.invokevirtual idx, 3)) (hmf : zMF y n) (hmi : zMI y) (hml : Cond.methodLink RL idx y.1 ∈ zTB) (hstk : stk = as.reverse ++ zR k :: st) (hlen : as.length = n) (hkd : zkd k = .inr ci) (hci : ci < 10) (hcn : zNm ci = y.1.cls) (hst8 : st.length ≤ 8) (hdl : d ≤ 1000 ∧ y.2.2.1 ≤ 1000) (hce : ce + mc ≤ 600000 ∧ sl + ms ≤ 7302250)
    (hM : zCi B y d mc ms (zR k :: as) M (fun x M' => zW B (zLaw b L B.2.2.2 xs) (pc + 3) ls (zI x :: st) zA1 M' (ce + mc) (sl + ms))) : zW B (zLaw b L B.2.2.2 xs) pc ls stk zA1 M ce sl :=
  r_cVi (E := zLaw b L B.2.2.2 xs) hd hmf hmi hml hstk hlen hkd hci hcn hst8 ⟨⟨by show d + 1 + 1 ≤ 2048; omega, by show 8 + (y.2.2.1 + 11) + 64 * (d + 1) ≤ 84000; omega⟩, hce⟩ hM
theorem rl_cVv {y : zY} {as : List zV} {k ci idx n d mc ms : Nat} {stk : List zV} (hd : decode cL_law pc = .ok (.invokevirtual idx, 3)) (hmf : zMF y n) (hmi : zMI y) (hml : Cond.methodLink RL idx y.1 ∈ zTB) (hstk : stk = as.reverse ++ zR k :: st) (hlen : as.length = n) (hkd : zkd k = .inr ci) (hci : ci < 10) (hcn : zNm ci = y.1.cls) (hst8 : st.length ≤ 8) (hdl : d ≤ 1000 ∧ y.2.2.1 ≤ 1000) (hce : ce + mc ≤ 600000 ∧ sl + ms ≤ 7302250)
    (hM : zCv B y d mc ms (zR k :: as) M (fun M' => zW B (zLaw b L B.2.2.2 xs) (pc + 3) ls st zA1 M' (ce + mc) (sl + ms))) : zW B (zLaw b L B.2.2.2 xs) pc ls stk zA1 M ce sl :=
  r_cVv (E := zLaw b L B.2.2.2 xs) hd hmf hmi hml hstk hlen hkd hci hcn hst8 ⟨⟨by show d + 1 + 1 ≤ 2048; omega, by show 8 + (y.2.2.1 + 11) + 64 * (d + 1) ≤ 84000; omega⟩, hce⟩ hM
end LWs
/-! ===== what is known at the start ===== -/
theorem zKn_start {s : State} {args : Array Value} (hts : ∀ w ∈ lw_tbl, w.before args s = true) : ∃ (D : va_G) (cA : Nat → ClassId), ∀ (l : Launch) (base : Nat), zKn (l, D, cA, base) s := by
  have htz : ∀ w ∈ zTB, w.before args s = true := fun w hw => hts w (List.mem_filter.mp hw).1
  have hc : ∀ c : Nat, ∃ q : ClassId × (Nat → Nat), c < 10 → u_Kn s (zNm c) (zT c) (znf c) q.1 q.2 := fun c => by
    by_cases h : c < 10
    · obtain ⟨cC, iS, hh⟩ := u_known (C := zNm c) (T := zT c) (N := znf c) (n := znf c) htz (zc_in c h) (htz _ (zc_is c h).2)
      exact ⟨(cC, iS), fun _ => hh⟩
    · exact ⟨(0, fun _ => 0), fun z => absurd z h⟩
  have ha : ∀ t : Nat, ∃ cA : ClassId, t < 4 → ArrOfT s cA (zta t) ∧ va_RA s cA (zta t) := fun t => by
    match t with
    | 0 =>
      obtain ⟨cA, kA, comp, h1, h2, h3⟩ := Cond.arrayClass_spec (htz _ ma_int)
      exact ⟨cA, fun _ => ⟨fun n z => ⟨fun k h => (by cases h), kA, h2, comp, h3⟩, h1⟩⟩
    | 1 =>
      obtain ⟨cA, kA, comp, h1, h2, h3⟩ := Cond.arrayClass_spec (htz _ ma_boolean)
      exact ⟨cA, fun _ => ⟨fun n z => ⟨fun k h => (by cases h), kA, h2, comp, h3⟩, h1⟩⟩
    | 2 =>
      obtain ⟨cA, kA, comp, h1, h2, h3⟩ := Cond.arrayClass_spec (htz _ ma_char)
      exact ⟨cA, fun _ => ⟨fun n z => ⟨fun k h => (by cases h), kA, h2, comp, h3⟩, h1⟩⟩
    | 3 =>
      have hw : Cond.arrayOver (.object RX5) ∈ lw_tbl := List.mem_append_right _ (List.mem_of_getElem? (i := 46) (by decide +kernel))
      obtain ⟨comp, cA, kA, h1, h2, h3, h4, h5⟩ := Cond.arrayOver_spec (hts _ hw)
      exact ⟨cA, fun _ => ⟨fun n z => ⟨fun k h => (by cases h), kA, h3, comp, h4⟩, ⟨kA, comp, h3, h4, h1, h5⟩⟩⟩
    | t + 4 => exact ⟨0, fun z => absurd z (by omega)⟩
  obtain ⟨f, hf⟩ := Classical.axiomOfChoice hc
  obtain ⟨g, hg⟩ := Classical.axiomOfChoice ha
  have hw : Cond.arrayOver (.object RX5) ∈ lw_tbl := List.mem_append_right _ (List.mem_of_getElem? (i := 46) (by decide +kernel))
  refine ⟨(fun c => (f c).1, fun c => (f c).2), g, fun l base => ⟨⟨fun c q hq => ?_, fun k q hk => ?_⟩, va_AO.of (hts _ hw), va_Nw.of rfl (hts _ mn_X0_98), va_Nw.of rfl (hts _ mn_X0_92)⟩⟩
  · have hc10 : c < 10 := (List.getElem?_eq_some_iff.mp hq).1
    rw [zc_cl c hc10] at hq
    cases hq
    exact hf c hc10
  · have hk4 : k < 4 := (List.getElem?_eq_some_iff.mp hk).1
    rcases (show k = 0 ∨ k = 1 ∨ k = 2 ∨ k = 3 by omega) with rfl | rfl | rfl | rfl <;> cases hk
    · exact hg 0 (by decide)
    · exact hg 1 (by decide)
    · exact hg 2 (by decide)
    · exact hg 3 (by decide)
