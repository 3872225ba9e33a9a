section
variable {L : Nat} {xs : Nat → Int32} {n : Nat} {tp : Nat → Nat} {I A : Nat → Nat → Int32} {b : Value} {s : Nat × Nat} {B H W X9 : Nat} {T : zTg}
theorem mR.ext {q : Nat} {g g' : Nat → Nat} (h : mR A q g) (e : ∀ j, j < 55 → g j = g' j) : mR A q g' := ⟨h.1, fun j hj => by rw [h.2 j hj, e j hj]⟩
theorem mT.letter (h : mT n tp s I A) (hs : isS n tp s) : I 64 15 = nI (tp s.1) ∧ I 64 12 = nI (s.1 + 1) ∧ I 64 16 = 0 := by
  obtain ⟨f, e, k⟩ := hs
  have kk := kl_let k
  rcases h.2.2 with ⟨f0, h16, h13, ht⟩ | ⟨f0, h16, h17⟩
  · rcases ht with ⟨e1, t1⟩ | ⟨e1, ht⟩
    · omega
    · rcases ht with ⟨a1, a2, t1, t2, t3⟩ | ⟨a1, a2, t1, -⟩ | ⟨a1, t1, t2, t3⟩ | ⟨a1, a2, a3, a4, t1⟩
      · exact ⟨t2, t3, h16⟩
      · refine absurd ?_ a1
        have : dg n tp s.1 = false := by unfold dg; simp [e]; omega
        unfold nf
        rw [this]
        rfl
      · omega
      · exact absurd kk a1
  · exact absurd f f0
theorem m_rest (hT : tGood n tp) {th : Nat} (hs : sGood n s) (h : mT n tp (pSo n tp th s).1 I A) (d : Nat) : ∃ I2 I3 I4 I5, pm_call L xs (d + 4) m_Model_number [.ref 64, .int 1, .int 20] (zL I A b) = some (some (.int (nI (pTh n tp th s).2.2.1)), zL I2 A b) ∧ pm_call L xs (d + 4) m_Model_mustSign [.ref 64, .int 44] (zL I2 A b) = some (none, zL I3 A b) ∧ pm_call L xs (d + 4) m_Model_number [.ref 64, .int 0, .int 9] (zL I3 A b) = some (some (.int (nI (pTh n tp th s).2.2.2)), zL I4 A b) ∧ pm_call L xs (d + 4) m_Model_mustSign [.ref 64, .int 59] (zL I4 A b) = some (none, zL I5 A b) ∧ mT n tp (pTh n tp th s).1 I5 A ∧ fM I I5 := by
  have g1 := pSo_good (tp := tp) (th := th) hs
  obtain ⟨I2, y1, y2, y3⟩ := m_number (L := L) (xs := xs) (b := b) hT g1 h (lo := 1) (hi := 20) (by decide) (by decide) zl1 zl20 d
  have g2 := pNm_good (tp := tp) (lo := 1) (hi := 20) g1
  obtain ⟨I3, z1, z2, z3⟩ := m_mustSign (L := L) (xs := xs) (b := b) hT g2 y2 (c := 44) (by omega) (v := 44) (by decide) d
  have g3 := pSg_good (tp := tp) (c := 44) g2
  obtain ⟨I4, u1, u2, u3⟩ := m_number (L := L) (xs := xs) (b := b) hT g3 z2 (lo := 0) (hi := 9) (by decide) (by decide) zl0 zl9 d
  have g4 := pNm_good (tp := tp) (lo := 0) (hi := 9) g3
  obtain ⟨I5, v1, v2, v3⟩ := m_mustSign (L := L) (xs := xs) (b := b) hT g4 u2 (c := 59) (by omega) (v := 59) (by decide) d
  exact ⟨I2, I3, I4, I5, y1, z1, u1, v1, v2, ((y3.trans z3).trans u3).trans v3⟩
theorem m_readThing (hT : tGood n tp) {X : zPX} (hs : sGood n X.1) (hx : tgOK X.2) (hi : isS n tp X.1) (h : mT n tp X.1 I A) (hm : mR A 69 (gN B H W X.2)) : ∃ I' A', pm_call L xs 59 m_Model_readThing [.ref 64] (zL I A b) = some (none, zL I' A' b) ∧ mT n tp (pStep n tp X).1 I' A' ∧ mR A' 69 (gN B H W (pStep n tp X).2) ∧ fM I I' ∧ ∀ q, q ≠ 69 → A' q = A q := by
  obtain ⟨s, T⟩ := X
  dsimp only at hs hx hi h hm
  obtain ⟨l1, l2, l3⟩ := h.letter hi
  obtain ⟨f0, e0, k0⟩ := hi
  have h256 := hT.2 _ e0
  have h7 := hx.1
  have hkl := kl_le (tp s.1)
  have s0 : ¬ s.2 ≠ 0 := fun q => q f0
  have r3 : ∀ I : Nat → Nat → Int32, pm_rd 0 (zL I A b) 69 (3 : Int32) = some (nI T.length) := fun I => m_rd' I b hm zl3 (show 3 < 55 by decide)
  rw [D_Model_readThing, B_Model_readThing_0, zg_64_15, zbS, l1, m_kindBy h256, zbI]
  dsimp only
  rw [if_neg k0, zr_64_6, zbS, r3, zbS]
  by_cases c7 : T.length = 7
  · have hso : (pSo n tp T.length s).1 = (s.1, 3) := by unfold pSo; rw [if_neg s0, if_pos ⟨e0, k0⟩, if_pos (by omega)]
    obtain ⟨I1, b1, b2, b3⟩ := m_bad (L := L) (xs := xs) (b := b) hs h (k := 3) (by omega) zl3 57
    rw [if_neg s0, ← hso] at b2
    have hso2 : (pSo n tp T.length s).1.2 ≠ 0 := by rw [hso]; show ¬ (3 : Nat) = 0; decide
    obtain ⟨I2, c1, c2, c3⟩ := m_must1 (L := L) (xs := xs) (b := b) (Q := 0) hT (pSo_good hs) b2 (fun q => absurd q hso2) 55
    rw [if_pos hso2] at c2
    obtain ⟨I3, I4, I5, I6, d1, d2, d3, d4, d5, d6⟩ := m_rest (L := L) (xs := xs) (b := b) hT hs c2 54
    have hpt := pTh_f hso2
    have q16 : I6 64 16 = nI 3 := by
      rcases d5.2.2 with ⟨q, -⟩ | ⟨-, q, -⟩
      · rw [hpt] at q; exact absurd q hso2
      · rw [q, hpt, hso]
    rw [c7, if_neg (fun q => q rfl), b1, zbV, c1, zbV, d1, zbI]
    dsimp only
    rw [d2, zbV, d3, zbI]
    dsimp only
    rw [d4, zbV, zg_64_16, zbS, q16, if_pos (by decide)]
    refine ⟨I6, A, rfl, ?_, ?_, (b3.trans c3).trans d6, fun _ _ => rfl⟩
    · unfold pStep
      rw [if_pos (show (pTh n tp T.length s).1.2 ≠ 0 by rw [hpt]; exact hso2)]
      exact d5
    · unfold pStep
      rw [if_pos (show (pTh n tp T.length s).1.2 ≠ 0 by rw [hpt]; exact hso2)]
      exact hm
  · have hl : T.length < 7 := by omega
    have hso : pSo n tp T.length s = ((s.1 + 1, 0), kl (tp s.1)) := by unfold pSo; rw [if_neg s0, if_pos ⟨e0, k0⟩, if_neg (by omega)]
    obtain ⟨I2, c1, c2, c3⟩ := m_must1 (L := L) (xs := xs) (b := b) (Q := s.1 + 1) hT hs h (fun _ => ⟨by omega, l2⟩) 55
    rw [if_neg s0, show (s.1 + 1, 0) = (pSo n tp T.length s).1 by rw [hso]] at c2
    obtain ⟨I3, I4, I5, I6, d1, d2, d3, d4, d5, d6⟩ := m_rest (L := L) (xs := xs) (b := b) hT hs c2 54
    rw [if_pos (show ¬ nI T.length = (7 : Int32) by rw [zl7]; exact fun q => c7 ((nI_eq (by omega) (by decide)).mp q)), c1, zbV, d1, zbI]
    dsimp only
    rw [d2, zbV, d3, zbI]
    dsimp only
    rw [d4, zbV, zg_64_16, zbS]
    have hgd := (pTh_good (tp := tp) (th := T.length) hs).2
    unfold pStep
    dsimp only
    by_cases cf : (pTh n tp T.length s).1.2 ≠ 0
    · have q16 : I6 64 16 = nI (pTh n tp T.length s).1.2 := by
        rcases d5.2.2 with ⟨q, -⟩ | ⟨-, q, -⟩
        · exact absurd q cf
        · exact q
      rw [q16, if_pos (nI_ne0 (by omega) (by omega)), if_pos cf]
      exact ⟨I6, A, rfl, d5, hm, c3.trans d6, fun _ _ => rfl⟩
    · have q16 : I6 64 16 = 0 := by
        rcases d5.2.2 with ⟨-, q, -⟩ | ⟨q, -⟩
        · exact q
        · exact absurd q cf
      have i6 : (6 : Int32) + ((7 : Int32) * nI T.length) = nI (6 + 7 * T.length) := by rw [zl6, zl7, pk_mul, nI_add]
      have m1 := hm.set (6 + 7 * T.length) (kl (tp s.1))
      have m2 := m1.set (6 + 7 * T.length + 1) (pTh n tp T.length s).2.2.1
      have m3 := m2.set (6 + 7 * T.length + 2) (pTh n tp T.length s).2.2.2
      have m4 := m3.set (6 + 7 * T.length + 4) T.length
      have m5 := m4.set 3 (T.length + 1)
      have m6 := m5.set 5 (T.length + 1)
      have g3 : ∀ G : Nat → Nat, G 3 = T.length → ∀ j v, 6 ≤ j → gu G j v 3 = T.length := fun G hG j v hj => by rw [gu_n (by omega), hG]
      have g5 : ∀ G : Nat → Nat, G 5 = T.length → ∀ j v, j ≠ 5 → gu G j v 5 = T.length := fun G hG j v hj => by rw [gu_n (by omega), hG]
      have e3 := g3 _ (g3 _ (g3 _ (show gN B H W T 3 = T.length from rfl) (6 + 7 * T.length) (kl (tp s.1)) (by omega)) (6 + 7 * T.length + 1) (pTh n tp T.length s).2.2.1 (by omega)) (6 + 7 * T.length + 2) (pTh n tp T.length s).2.2.2 (by omega)
      have e3' := g3 _ e3 (6 + 7 * T.length + 4) T.length (by omega)
      have e5 := g5 _ (g5 _ (g5 _ (g5 _ (g5 _ (show gN B H W T 5 = T.length from rfl) (6 + 7 * T.length) (kl (tp s.1)) (by omega)) (6 + 7 * T.length + 1) (pTh n tp T.length s).2.2.1 (by omega)) (6 + 7 * T.length + 2) (pTh n tp T.length s).2.2.2 (by omega)) (6 + 7 * T.length + 4) T.length (by omega)) 3 (T.length + 1) (by decide)
      rw [q16, if_neg (fun q => q rfl), if_neg cf, zr_64_6, zbS, r3, zbS, zbS, i6, m_wr I6 b hm (show 6 + 7 * T.length < 55 by omega), zbS, zr_64_6, zbS, zl1, nI_add, m_wr I6 b m1 (show 6 + 7 * T.length + 1 < 55 by omega), zbS, zr_64_6, zbS, zl2, nI_add, m_wr I6 b m2 (show 6 + 7 * T.length + 2 < 55 by omega), zbS, zr_64_6, zbS, zbS, m_rd' I6 b m3 zl3 (show 3 < 55 by decide), zbS, e3, zl4, nI_add, m_wr I6 b m3 (show 6 + 7 * T.length + 4 < 55 by omega), zbS, zr_64_6, zbS, m_rd' I6 b m4 zl3 (show 3 < 55 by decide), zbS, e3', nI_add, zl3, m_wr I6 b m4 (show 3 < 55 by decide), zbS, zr_64_6, zbS, m_rd' I6 b m5 zl5 (show 5 < 55 by decide), zbS, e5, nI_add, zl5, m_wr I6 b m5 (show 5 < 55 by decide), zbS]
      have ek : (pTh n tp T.length s).2.1 = kl (tp s.1) := by
        show (pSo n tp T.length s).2 = _
        rw [hso]
      refine ⟨I6, _, rfl, ?_, m6.ext (fun j hj => ?_), c3.trans d6, fun q hq => by rw [zuA_o hq, zuA_o hq, zuA_o hq, zuA_o hq, zuA_o hq, zuA_o hq]⟩
      · exact d5.same (fun _ _ _ => rfl) (by rw [zuA_o (by decide), zuA_o (by decide), zuA_o (by decide), zuA_o (by decide), zuA_o (by decide), zuA_o (by decide)])
      · rw [← ek]
        exact gN_add (pTh n tp T.length s).2 hl j hj
/-- what a whole reading leaves -/
def fF (I I' : Nat → Nat → Int32) : Prop := ∀ o k, ¬ (o = 64 ∧ 11 ≤ k ∧ k ≤ 18) → I' o k = I o k
theorem fM.F {I' : Nat → Nat → Int32} (h : fM I I') : fF I I' := fun o k hk => h o k (by omega)
theorem fF.trans {I1 I2 : Nat → Nat → Int32} (h : fF I I1) (k : fF I1 I2) : fF I I2 := fun o j hj => (k o j hj).trans (h o j hj)
theorem m_failed (hT : tGood n tp) (hs : sGood n s) (h : mT n tp s I A) : (s.2 = 0 ∧ s.1 = n ∧ ∃ I', pm_call L xs 59 m_Model_failed [.ref 64] (zL I A b) = some (some (.int 0), zL I' A b) ∧ I' 64 11 = 0 ∧ I' 64 18 = I 64 18 ∧ fF I I') ∨ ((s.2 ≠ 0 ∨ s.1 < n) ∧ ∃ I', pm_call L xs 59 m_Model_failed [.ref 64] (zL I A b) = some (some (.int 1), zL I' A b) ∧ I' 64 11 = 0 ∧ I' 64 18 = nI (if s.2 ≠ 0 then s.2 else 1) ∧ I' 64 17 = nI s.1 ∧ fF I I') := by
  have hs2 := hs.2
  have u11 : ∀ (I : Nat → Nat → Int32) x, fF I (zuI I 64 11 x) := fun I x o k hk => by rw [zuI_at, if_neg (by omega)]
  have u18 : ∀ (I : Nat → Nat → Int32) x, fF I (zuI I 64 18 x) := fun I x o k hk => by rw [zuI_at, if_neg (by omega)]
  have tail1 : ∀ (k : Nat) (I1 : Nat → Nat → Int32), 1 ≤ k ∧ k ≤ 3 → I1 64 16 = nI k → ((pm_pf (zL I1 A b) 64 8 11 (Value.int (0 : Int32))).bind fun g2 => (pm_gI g2 64 8 16).bind fun x3 => (if x3 ≤ 0 then (pm_gI g2 64 8 18).bind fun x4 => (pm_pf g2 64 8 18 (Value.int x4)).bind fun g5 => (pm_gI g5 64 8 16).bind fun x6 => (if x6 ≤ 0 then some (some (Value.int (0 : Int32)), g5) else some (some (Value.int (1 : Int32)), g5)) else (pm_gI g2 64 8 16).bind fun x7 => (pm_pf g2 64 8 18 (Value.int x7)).bind fun g8 => (pm_gI g8 64 8 16).bind fun x9 => (if x9 ≤ 0 then some (some (Value.int (0 : Int32)), g8) else some (some (Value.int (1 : Int32)), g8)))) = some (some (Value.int 1), zL (zuI (zuI I1 64 11 0) 64 18 (nI k)) A b) := by
    intro k I1 hk h16
    rw [zp_64_11, zbS, zg_64_16, zbS, zuI_n (by decide), h16, if_neg (nI_nle (by omega) (by omega)), zbS, zp_64_18, zbS, zg_64_16, zbS, zuI_n (by decide), zuI_n (by decide), h16, if_neg (nI_nle (by omega) (by omega))]
  obtain ⟨h11, hA, hx⟩ := h
  rw [D_Model_failed, B_Model_failed_0, zg_64_16, zbS]
  rcases hx with ⟨f0, h16, h13, ht⟩ | ⟨f0, h16, h17⟩
  · rw [h16, if_neg (fun q => q rfl), zg_64_14, zbS]
    by_cases hn : s.1 = n
    · refine Or.inl ⟨f0, hn, ?_⟩
      rcases ht with ⟨e1, t1⟩ | ⟨e1, ht⟩
      · rw [t1, if_pos rfl, zp_64_11, zbS, zg_64_16, zbS, zuI_n (by decide), h16, if_pos (by decide), zg_64_18, zbS, zp_64_18, zbS, zg_64_16, zbS, zuI_n (by decide), zuI_n (by decide), h16, if_pos (by decide)]
        refine ⟨_, rfl, by rw [zuI_n (by decide), zuI_s], by rw [zuI_s, zuI_n (by decide)], (u11 _ _).trans (u18 _ _)⟩
      · omega
    · have hlt : s.1 < n := by have := hs.1; omega
      refine Or.inr ⟨Or.inr hlt, ?_⟩
      have t1 : ¬ I 64 14 = 1 := by
        rcases ht with ⟨e1, t1⟩ | ⟨e1, ht⟩
        · omega
        · rcases ht with ⟨a1, a2, t1, -⟩ | ⟨a1, a2, t1, -⟩ | ⟨a1, t1, -⟩ | ⟨a1, a2, a3, a4, t1⟩ <;> (rw [t1]; decide)
      obtain ⟨I1, b1, b2, b3⟩ := m_bad (L := L) (xs := xs) (b := b) hs (show mT n tp s I A from ⟨h11, hA, Or.inl ⟨f0, h16, h13, ht⟩⟩) (k := 1) (by omega) zl1 57
      rw [if_neg (show ¬ s.2 ≠ 0 from fun q => q f0)] at b2
      have q16 : I1 64 16 = nI 1 ∧ I1 64 17 = nI s.1 := by
        rcases b2.2.2 with ⟨q, -⟩ | ⟨-, q, q2⟩
        · exact absurd q (by show ¬ (1 : Nat) = 0; decide)
        · exact ⟨q, q2⟩
      rw [if_neg t1, b1, zbV, tail1 1 I1 (by omega) q16.1]
      refine ⟨_, rfl, by rw [zuI_n (by decide), zuI_s], by rw [zuI_s, if_neg (show ¬ s.2 ≠ 0 from fun q => q f0)], by rw [zuI_n (by decide), zuI_n (by decide)]; exact q16.2, (b3.F.trans (u11 _ _)).trans (u18 _ _)⟩
  · refine Or.inr ⟨Or.inl f0, ?_⟩
    rw [h16, if_pos (nI_ne0 (by omega) (by omega)), tail1 s.2 I (by omega) h16]
    refine ⟨_, rfl, by rw [zuI_n (by decide), zuI_s], by rw [zuI_s, if_pos f0], by rw [zuI_n (by decide), zuI_n (by decide)]; exact h17, (u11 _ _).trans (u18 _ _)⟩
theorem m_loopS (hT : tGood n tp) (i1 : Int32) : ∀ m (X : zPX) (I A : Nat → Nat → Int32), sGood n X.1 → tgOK X.2 → 8 ≤ X.2.length + m → mT n tp X.1 I A → mR A 69 (gN B H W X.2) → ∃ I' A', zE L xs 59 K_Model_shop 108 [some (.ref 64), some (.int i1)] [] (zL I A b) = (if (pMore n tp m X).1.2 ≠ 0 then some (some (.int ((-1000100 : Int32) - nI (pMore n tp m X).1.1)), zL I' A' b) else zE L xs 59 K_Model_shop 144 [some (.ref 64), some (.int (0 : Int32))] [] (zL (zuI I' 64 9 0) A' b)) ∧ I' 64 11 = 0 ∧ I' 64 18 = (if (pMore n tp m X).1.2 ≠ 0 then nI (pMore n tp m X).1.2 else I 64 18) ∧ ((pMore n tp m X).1.2 = 0 → mR A' 69 (gN B H W (pMore n tp m X).2)) ∧ fF I I' ∧ ∀ q, q ≠ 69 → A' q = A q := by
  intro m
  induction m with
  | zero => intro X I A _ tg hl; have := tg.1; omega
  | succ m ih =>
    intro X I A gs tg hl h hm
    obtain ⟨sy, sn⟩ := m_isSort (L := L) (xs := xs) (b := b) hT gs h 57
    rw [B_Model_shop_108]
    by_cases hi : isS n tp X.1
    · obtain ⟨I1, A1, x1, x2, x3, x4, x5⟩ := m_readThing (L := L) (xs := xs) (b := b) hT gs tg hi h hm
      rw [sy hi, zbI]
      dsimp only
      rw [if_neg (by decide), x1, zbV]
      have ep : pMore n tp (m + 1) X = pMore n tp m (pStep n tp X) := by
        show (if X.1.2 ≠ 0 ∨ n ≤ X.1.1 then X else pMore n tp m (pStep n tp X)) = _
        rw [if_neg]
        have := hi.1
        have := hi.2.1
        omega
      rw [ep]
      by_cases cf : (pStep n tp X).1.2 = 0
      · have hlen : (pStep n tp X).2.length = X.2.length + 1 := by
          unfold pStep at cf ⊢
          by_cases q : (pTh n tp X.2.length X.1).1.2 ≠ 0
          · rw [if_pos q] at cf; exact absurd cf q
          · rw [if_neg q]; simp
        obtain ⟨I2, A2, y1, y2, y3, y4, y5, y6⟩ := ih (pStep n tp X) I1 A1 (pStep_good gs) (pStep_tg tg) (by omega) x2 x3
        exact ⟨I2, A2, y1, y2, by rw [y3, x4 64 18 (by omega)], y4, x4.F.trans y5, fun q hq => by rw [y6 q hq, x5 q hq]⟩
      · rw [pMore_f m _ cf]
        obtain ⟨-, sn2⟩ := m_isSort (L := L) (xs := xs) (b := b) hT (pStep_good gs) x2 57
        rw [B_Model_shop_108, sn2 (fun q => cf q.1), zbI]
        dsimp only
        rw [if_pos rfl]
        rcases m_failed (L := L) (xs := xs) (b := b) hT (pStep_good gs) x2 with ⟨q, -⟩ | ⟨-, I2, y1, y2, y3, y4, y5⟩
        · exact absurd q cf
        · rw [y1, zbI]
          dsimp only
          rw [if_neg (by decide), zg_64_17, zbS, y4]
          rw [if_pos cf] at y3
          exact ⟨I2, A1, by rw [if_pos cf], y2, by rw [if_pos cf]; exact y3, fun q => absurd q cf, x4.F.trans y5, fun q hq => x5 q hq⟩
    · rw [sn hi, zbI]
      dsimp only
      rw [if_pos rfl]
      rcases m_failed (L := L) (xs := xs) (b := b) hT gs h with ⟨q1, q2, I2, y1, y2, y3, y5⟩ | ⟨q1, I2, y1, y2, y3, y4, y5⟩
      · have ep : pMore n tp (m + 1) X = X := by
          show (if X.1.2 ≠ 0 ∨ n ≤ X.1.1 then X else pMore n tp m (pStep n tp X)) = _
          rw [if_pos (Or.inr (by omega))]
        rw [ep, y1, zbI]
        dsimp only
        rw [if_pos rfl, zp_64_9, zbS]
        have nz : ¬ X.1.2 ≠ 0 := by omega
        exact ⟨I2, A, by rw [if_neg nz], y2, by rw [if_neg nz]; exact y3, fun _ => hm, y5, fun _ _ => rfl⟩
      · have ep : pMore n tp (m + 1) X = ((X.1.1, if X.1.2 ≠ 0 then X.1.2 else 1), X.2) := by
          show (if X.1.2 ≠ 0 ∨ n ≤ X.1.1 then X else pMore n tp m (pStep n tp X)) = _
          by_cases c1 : X.1.2 ≠ 0
          · rw [if_pos (Or.inl c1), if_pos c1]
          · have hlt : X.1.1 < n := by omega
            have hk : kl (tp X.1.1) = 0 := Classical.byContradiction (fun q => hi ⟨by omega, hlt, q⟩)
            have e1 : pSo n tp X.2.length X.1 = ((X.1.1, 1), 0) := by unfold pSo; rw [if_neg c1, if_neg (fun q => q.2 hk)]
            have e2 : (pTh n tp X.2.length X.1).1 = (X.1.1, 1) := by
              rw [pTh_f (by rw [e1]; show ¬ (1 : Nat) = 0; decide), e1]
            have e3 : pStep n tp X = ((X.1.1, 1), X.2) := by
              unfold pStep
              rw [if_pos (by rw [e2]; show ¬ (1 : Nat) = 0; decide), e2]
            rw [if_neg (by omega), e3, pMore_f m _ (by show ¬ (1 : Nat) = 0; decide), if_neg c1]
        have hne : (if X.1.2 ≠ 0 then X.1.2 else 1) ≠ 0 := by split <;> omega
        rw [ep, y1, zbI]
        dsimp only
        rw [if_neg (by decide), zg_64_17, zbS, y4]
        exact ⟨I2, A, by rw [if_pos hne], y2, by rw [if_pos hne]; exact y3, fun q => absurd q hne, y5, fun _ _ => rfl⟩
end
