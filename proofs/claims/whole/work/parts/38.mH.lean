/-! ===== Tree: build ===== -/
def TR (M : zM) (L : List nd) : Prop := gi M 24 2 = (L.length : Int) ∧ L.length ≤ 60 ∧ ∀ j, j < L.length → some (ndX M j) = L[j]?
theorem TR.same {M M' : zM} {L : List nd} (h : TR M L) (e : ∀ a, 24 ≤ a → a ≤ 30 → gi M' a = gi M a) : TR M' L := by
  unfold TR ndX at *
  rw [e 24 (by decide) (by decide), e 25 (by decide) (by decide), e 26 (by decide) (by decide), e 27 (by decide) (by decide), e 28 (by decide) (by decide), e 29 (by decide) (by decide), e 30 (by decide) (by decide)]
  exact h
/-- the fixed part of what the class knows of a grammar -/
def XG (M : zM) (g : zG) (ord : Nat → Nat) (n st : Nat) (em : Nat → Bool) : Prop := RX M g ∧ OX M ord n st
def GG (g : zG) (ord : Nat → Nat) (n st : Nat) (em : Nat → Bool) : Prop := WG g ∧ NG g ∧ OG g ord n em ∧ n ≤ 6 ∧ st < 6 ∧ 0 ≤ gR g st
theorem XG.fr {S : List Nat} {M M' : zM} {g : zG} {ord : Nat → Nat} {n st : Nat} {em : Nat → Bool} (h : XG M g ord n st em) (hs : zSm S M M') (hd : ∀ a ∈ S, a < 8 ∨ 16 < a) : XG M' g ord n st em :=
  ⟨h.1.fr hs (fun a ha => by have := hd a ha; omega), h.2.fr hs (fun q => by have := hd _ q; omega) (fun q => by have := hd _ q; omega)⟩
/-- the parser's answer, out of the matcher's tables -/
theorem MT.prs {M : zM} {g : zG} {ord : Nat → Nat} {n st : Nat} {em : Nat → Bool} {s : List Int} (hg : GG g ord n st em) (hm : MT M g ord em s) (ho : okS s) :
    ((eT M st s.length = 0 ∧ bT M st s.length < 60) → prs g ord em st s = some (treeL (eT M) g (chS s) st s.length) ∧ (treeL (eT M) g (chS s) st s.length).length ≤ 60 ∧ 0 ≤ rva (rmt (eT M) g (chS s) st s.length)) ∧ (¬ (eT M st s.length = 0 ∧ bT M st s.length < 60) → prs g ord em st s = none) := by
  obtain ⟨hw, hn, hog, hn6, hst⟩ := hg
  obtain ⟨hi, hs, hsat⟩ := hm
  have hol := ho.1
  obtain ⟨i, hin, hii⟩ := hog.2.2.1 st hst.1 hst.2
  have hpr : PR g ord em st s (if eT M st s.length = 0 ∧ (treeL (eT M) g (chS s) st s.length).length ≤ 60 then some (treeL (eT M) g (chS s) st s.length) else none) := ⟨eT M, bT M, aT M, hi.tb, hsat, rfl⟩
  have hp := prs_eq hw hn hog hn6 hst hol hpr
  have hgd := (hsat st s.length (Or.inl ⟨by omega, hst.1, hst.2⟩)).1.1
  have hlen : eT M st s.length = 0 → (bT M st s.length < 60 ↔ (treeL (eT M) g (chS s) st s.length).length ≤ 60) := fun h0 => by
    have h := below_len (m := s.length) hi.tb chS_neg hw hn hog hn6 hsat 300 i s.length 1 0 1 hin (by omega) (by omega) (rva_some (by rw [hii, ← hgd, h0]; decide))
    rw [hii] at h
    unfold treeL
    rw [List.length_cons, h]
    unfold cap
    split <;> omega
  constructor
  · intro h
    have h2 := (hlen h.1).mp h.2
    rw [if_pos ⟨h.1, h2⟩] at hp
    exact ⟨hp, h2, by rw [← hgd, h.1]; decide⟩
  · intro h
    rw [if_neg (fun q => h ⟨q.1, (hlen q.1).mpr q.2⟩)] at hp
    exact hp
theorem m_X7_build {B : zB} {K : Int → zM → Prop} {M : zM} {t : Nat} {g : zG} {s : List Int} {ord : Nat → Nat} {n st : Nat} {em : Nat → Bool} (ht : zTx t) (ht19 : t + 1 < 19 ∨ 30 < t) (hv : ¬ gi M 8 0 = 0) (hg : GG g ord n st em) (hxg : XG M g ord n st em) (him : IMx M g ord em) (hs : tT M t s) (ho : okS s)
    (k0 : prs g ord em st s = none → ∀ M', zSm [19, 20, 21, 22, 23, 24, 25, 26, 27, 28, 29, 30] M M' → MT M' g ord em s → gi M' 24 2 = 0 → K 0 M')
    (k1 : ∀ L, prs g ord em st s = some L → ∀ M', zSm [19, 20, 21, 22, 23, 24, 25, 26, 27, 28, 29, 30] M M' → MT M' g ord em s → TR M' L → K 1 M') : zCi B zy_X7_build 66 0 0 [zR 24, zR t] M K := by
  have hol := ho.1
  obtain ⟨hw, hn, hog, hn6, hst⟩ := id hg
  refine e_X7_build (fun n0 => b_X7_build_0 ht ?_)
  have hf0 : zSm [24] M (si M 24 2 0) := zSm.rf.st (by simp)
  have hxg0 := hxg.fr hf0 (by simp)
  refine m_X3_fits (s := s) ht (by omega) (by omega) (by rw [gi_si_ne (by decide)]; exact hv) hxg0.1 hw hog hn6 hst.1 hxg0.2 (him.same (fun a h1 h2 => gi_si_ne (by omega))) (hs.fr hf0 (by simp; omega) (by simp; omega)) ho (fun M1 f1 f2 f3 => ?_)
  have hf1 : zSm [19, 20, 21, 22, 23, 24, 25, 26, 27, 28, 29, 30] M M1 := (hf0.mono (by simp)).tr (f1.mono (by simp))
  have h24 : gi M1 24 2 = 0 := by rw [f1.ge (by decide), gi_si_eq, if_pos rfl]
  have hp := f2.prs hg ho
  apply b_X7_build_13 ht
  case k2 =>
    intro h
    have hneg : ¬ (eT M1 st s.length = 0 ∧ bT M1 st s.length < 60) := fun q => by rw [if_pos q] at h; exact absurd h (by decide)
    exact k0 (hp.2 hneg) M1 hf1 f2 h24
  case k1 =>
    intro h
    have hpos : eT M1 st s.length = 0 ∧ bT M1 st s.length < 60 := Decidable.byContradiction (fun q => h (if_neg q))
    obtain ⟨p1, p2, p3⟩ := hp.1 hpos
    obtain ⟨i, hin, hii⟩ := hog.2.2.1 st hst.1 hst.2
    have et : gi M1 t 1 = s.length := by rw [hf1.ge (by simp; omega)]; exact hs.1
    have est : gi M1 8 1 = (ord i : Int) := by rw [hf1.ge (by decide), hii]; exact hxg.2.2.2
    rw [et, est]
    generalize hM2 : (si (si (si (si (si (si (si (si M1 24 9 (s.length : Int)) 25 0 (ord i : Int)) 26 0 0) 27 0 0) 28 0 (s.length : Int)) 29 0 0) 30 0 (-1)) 24 2 1) = M2
    have hf2 : zSm [24, 25, 26, 27, 28, 29, 30] M1 M2 := by
      rw [← hM2]
      exact (((((((zSm.rf.st (by simp)).st (by simp)).st (by simp)).st (by simp)).st (by simp)).st (by simp)).st (by simp)).st (by simp)
    have hx1 := (hxg.fr hf1 (by simp)).1
    obtain ⟨g1, g2, g3, g4⟩ := zS30 hf2 hx1 rfl rfl f2.2.1
    rw [← hii] at p1 p2 p3
    unfold treeL at p2
    rw [List.length_cons] at p2
    have hnd : ndX M2 0 = ((ord i : Int), 0, 0, (s.length : Int), 0, -1) := by
      rw [← hM2]
      unfold ndX
      simp [gi_si]
    have h92 : gi M2 24 9 = s.length ∧ gi M2 24 2 = 1 := by
      rw [← hM2]
      constructor <;> simp [gi_si]
    unfold ndX at hnd
    simp only [Prod.mk.injEq] at hnd
    refine GrowOK.all hw hn f2.1.tb ho hog hn6 f2.2.2 61 _ M2 0 1 1 i s.length 300 g1 g2 g3 g4 h92.1 h92.2 (by omega) (by omega) (by omega) (by omega) hin (by omega) hnd.1 (by rw [hnd.2.2.1]; omega) (by rw [hnd.2.2.2.2.1]; rfl) (by omega) p3 (by have : (((1 : Nat)) : Int) = 1 := rfl; have h0 : ((0 : Nat) : Int) = 0 := rfl; rw [this, h0]; omega) (fun M3 hM3 => b_X7_build_88 ht (k1 _ (by rw [← hii]; exact p1) M3 (hf1.tr (hf2.mono (by simp) |>.tr (hM3.1.mono (by simp)))) (f2.same (fun a h1 h2 => by rw [hM3.1.ge (by simp; omega), hf2.ge (by simp; omega)])) ⟨?_, ?_, ?_⟩))
    · rw [hM3.2.2.1]
      unfold treeL
      rw [List.length_cons, Nat.add_comm]
      rfl
    · unfold treeL
      rw [List.length_cons]
      exact p2
    · intro j hj
      unfold treeL at hj ⊢
      rw [List.length_cons] at hj
      cases j with
      | zero =>
        rw [hM3.2.2.2.1 0 (by omega), List.getElem?_cons_zero]
        unfold ndX
        congr 1
        simp only [Prod.mk.injEq]
        exact hnd
      | succ j =>
        rw [List.getElem?_cons_succ]
        have := hM3.2.2.2.2 j (by have h1 : ((1 : Nat) : Int) = 1 := rfl; have h0 : ((0 : Nat) : Int) = 0 := rfl; rw [h1, h0]; omega)
        rw [Nat.add_comm 1 j] at this
        exact this
theorem m_X7_build0 {B : zB} {K : Int → zM → Prop} {M : zM} {t : Nat} (ht : zTx t) (hv : gi M 8 0 = 0) (k : K 0 (si M 24 2 0)) : zCi B zy_X7_build 66 0 0 [zR 24, zR t] M K := by
  refine e_X7_build (fun n0 => b_X7_build_0 ht ?_)
  refine m_X3_fits0 ht (by rw [gi_si_ne (by decide)]; exact hv) ?_
  apply b_X7_build_13 ht
  case k1 => intro h; exact absurd rfl h
  case k2 => intro _; exact k
