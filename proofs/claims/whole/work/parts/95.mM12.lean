/-! ===== a grammar is read: the model ===== -/
section NM12
variable {B : zB} {K : Int → zM → Prop} {Kv : zM → Prop} {M : zM} {ty wr : List Int} {sk : List (List st3 × Int)} {w u : List st3} {G : Option GC} {j : JS} {on rd : Int}
/-- reading changes these -/
abbrev GFr : List Nat := [45, 54, 55, 56, 57, 58, 59, 60, 61, 82]
theorem MS.upG {M' : zM} {G' : Option GC} (h : MS M ty wr sk w u G j on rd) (hs : zSm GFr M M') (e : ∀ q, q ≠ 3 → q ≠ 11 → q ≠ 12 → q ≠ 13 → q ≠ 14 → q ≠ 15 → gi M' 45 q = gi M 45 q) (e3 : gi M' 45 3 = 0) (hG : GM M' G') : MS M' ty [] sk w u G' j on rd := by
  have g : ∀ a, a ∉ GFr → gi M' a = gi M a := fun a h1 => hs.ge h1
  have e' : ∀ q, q = 1 ∨ q = 4 ∨ q = 39 ∨ q = 40 ∨ q = 43 ∨ q = 44 ∨ q = 45 ∨ q = 46 ∨ q = 47 → gi M' 45 q = gi M 45 q := fun q hq => e q (by omega) (by omega) (by omega) (by omega) (by omega) (by omega)
  obtain ⟨h1, h2, h3, ⟨⟨h4, h4'⟩, h5, h5'⟩, h6, h7, h8, h9⟩ := h
  exact ⟨h1.same (e' 1 (by simp)) (g 46 (by decide)), ⟨e3, by simp, zA.nil, by simp⟩, h3.same (e' 4 (by simp)) (g 48 (by decide)) (g 50 (by decide)) (g 51 (by decide)) (g 52 (by decide)) (g 49 (by decide)),
    ⟨⟨h4.same (g 48 (by decide)) (g 50 (by decide)) (g 51 (by decide)) (g 52 (by decide)), h4'⟩, h5.same (g 48 (by decide)) (g 50 (by decide)) (g 51 (by decide)) (g 52 (by decide)), h5'⟩,
    h6.same (fun q hq => e' q (by omega)) (g 75 (by decide)) (g 76 (by decide)), (e' 45 (by simp)).trans h7, hG, h9⟩
theorem m_X9_read (h : MS M ty wr sk w u G j on rd) (k : ∀ M', FM M M' → MS M' ty [] sk w u (gcR wr) j on rd → K (rdA (gcR wr)) M') : zCi B zy_X9_read 4 0 0 [zR 45] M K := by
  obtain ⟨t1, t2, t3, t4⟩ := id h.2.1
  have gg := gcR_GG t2 t4
  have f0 : zSm [45] M (si M 45 11 0) := zSm.rf.st (by decide)
  have bad : ∀ M1, zSm NFr (si M 45 11 0) M1 → (∀ q, q ≠ 12 → q ≠ 13 → q ≠ 14 → q ≠ 15 → gi M1 45 q = gi (si M 45 11 0) 45 q) → ¬ okC (cutS wr) → K (-1) (si M1 45 3 0) := fun M1 f e z => by
    have hn : gcR wr = none := by unfold gcR; rw [if_neg z]
    have fs : zSm GFr M (si M1 45 3 0) := ((f0.mono (by decide)).tr (f.mono (by decide))).st (by decide)
    have := k (si M1 45 3 0) (fs.fm (by decide)) (h.upG fs (fun q a b c d e' f' => by
      rw [gi_si_eq, if_neg a, e q c d e' f', gi_si_eq, if_neg b]) (by simp [gi_si]) (by
      rw [hn]
      show gi _ 45 11 = 0
      rw [gi_si_eq, if_neg (by decide), e 11 (by decide) (by decide) (by decide) (by decide), gi_si_eq, if_pos rfl]))
    rw [hn] at this
    exact this
  refine e_X9_read (fun n0 => ?_)
  apply b_X9_read_0
  refine m_X9_readRules (wr := wr) (by rw [gi_si_eq, if_neg (by decide)]; exact t1) (t3.same (gi_si_ne (by decide))) t2 t4 (fun z M1 f e => ?_) (fun z M1 f e hx e12 e13 => ?_)
  · apply b_X9_read_9
    case k1 => exact fun _ q => absurd rfl q
    case k2 => exact fun _ _ => bad M1 f e (fun q => z q.1)
    case k3 => exact fun q => absurd rfl q
  · have hW : WC (cutS wr) wr.length := by
      have := cut_WC t4 (i := wr.length) (Nat.le_refl _)
      rw [List.take_of_length_le (Nat.le_refl _)] at this
      exact this.resolve_left (fun q => by have := z.1; omega)
    have wg := finG_WG hW (by omega) z.1
    apply b_X9_read_9
    case k1 => exact fun q => absurd q (by decide)
    case k2 => exact fun q => absurd q (by decide)
    case k3 =>
      intro _
      refine m_X9_areNamesThere hx wg (fun q => ?_) (fun q => ?_)
      · apply b_X9_read_16
        case k1 => exact fun v => absurd rfl v
        case k2 => exact fun _ => bad M1 f e (fun v => q v.2.1)
      · apply b_X9_read_16
        case k2 => exact fun v => absurd (by decide) v
        case k1 =>
          intro _
          have hx2 : RM (si M1 45 3 0) (finG (cutS wr).2.1) := hx.same (fun a ha => gi_si_ne (by omega)) (by simp [gi_si]) (by simp [gi_si])
          refine m_X9_findEmptiable hx2 wg (fun M2 f2 he => ?_)
          apply b_X9_read_40
          refine m_X9_findLeads (hx2.fr f2 (by decide)) wg he (fun M3 hx3 f3 hL => ?_)
          apply b_X9_read_44
          refine m_X9_findOrder hx3 wg hL (fun M4 f4 hO => ?_)
          have f24 : zSm GFr (si M1 45 3 0) M4 := ((f2.mono (by decide)).tr (f3.mono (by decide))).tr (f4.mono (by decide))
          have e45 : gi M4 45 = gi (si M1 45 3 0) 45 := by rw [f4.ge (by decide), f3.ge (by decide), f2.ge (by decide)]
          have e12' : gi M4 45 12 = (cutS wr).2.2.1 := by rw [e45]; simp [gi_si]; exact e12
          have e13' : gi M4 45 13 = (cutS wr).2.2.2.1 := by rw [e45]; simp [gi_si]; exact e13
          have e12'' : gi M3 45 12 = (cutS wr).2.2.1 := by rw [← f4.ge (a := 45) (by decide)]; exact e12'
          rw [e12'']
          have fs : ∀ v, zSm GFr M (si M4 45 11 v) := fun v => ((((f0.mono (by decide)).tr (f.mono (by decide))).st (by decide)).tr f24).st (by decide)
          have rest : ∀ v q, q ≠ 3 → q ≠ 11 → q ≠ 12 → q ≠ 13 → q ≠ 14 → q ≠ 15 → gi (si M4 45 11 v) 45 q = gi M 45 q := fun v q a b c d e' f' => by
            rw [gi_si_eq, if_neg b, e45, gi_si_eq, if_neg a, e q c d e' f', gi_si_eq, if_neg b]
          have r3 : ∀ v, gi (si M4 45 11 v) 45 3 = 0 := fun v => by rw [gi_si_eq, if_neg (by decide), e45]; simp [gi_si]
          by_cases v : ((odG (finG (cutS wr).2.1)).length : Int) = (cutS wr).2.2.1
          · have ok : okC (cutS wr) := ⟨z, q, v⟩
            have hn : gcR wr = some (gcC (cutS wr)) := by unfold gcR; rw [if_pos ok]
            have s := hW.2.2.2.2.2.2.2 z.2
            have hi : (if ((itO (finG (cutS wr).2.1) (emG (finG (cutS wr).2.1)) 6).length : Int) = (cutS wr).2.2.1 then (1 : Int) else 0) = 1 := if_pos v
            rw [hi]
            apply b_X9_read_49
            case c1 => exact Or.inr rfl
            rw [if_neg (by decide), e12', ← v]
            have := k (si M4 45 11 1) ((fs 1).fm (by decide)) (h.upG (fs 1) (rest 1) (r3 1) (by
              rw [hn]
              refine ⟨by simp [gi_si], gg _ hn, ?_, by simp [gi_si]; rw [e12', ← v]; rfl, ?_, fun i hi' => ?_⟩
              · exact (hx3.fr f4 (by decide)).same (fun a ha => gi_si_ne (by omega)) (by simp [gi_si]) (by simp [gi_si])
              · simp [gi_si]
                rw [e13']
                show _ = (((cutS wr).2.2.2.1.toNat : Nat) : Int)
                omega
              · rw [gi_si_ne (by decide)]
                exact hO i hi'))
            rw [hn] at this
            exact this
          · have nok : ¬ okC (cutS wr) := fun w => v w.2.2
            have hn : gcR wr = none := by unfold gcR; rw [if_neg nok]
            have hi : (if ((itO (finG (cutS wr).2.1) (emG (finG (cutS wr).2.1)) 6).length : Int) = (cutS wr).2.2.1 then (1 : Int) else 0) = 0 := if_neg v
            rw [hi]
            apply b_X9_read_49
            case c1 => exact Or.inl rfl
            rw [if_pos rfl]
            have := k (si M4 45 11 0) ((fs 0).fm (by decide)) (h.upG (fs 0) (rest 0) (r3 0) (by
              rw [hn]
              show gi _ 45 11 = 0
              simp [gi_si]))
            rw [hn] at this
            exact this
end NM12
