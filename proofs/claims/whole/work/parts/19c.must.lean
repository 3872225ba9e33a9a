section
variable {L : Nat} {xs : Nat → Int32} {n : Nat} {tp : Nat → Nat} {I A : Nat → Nat → Int32} {b : Value} {s : Nat × Nat}
theorem mT.same {I' : Nat → Nat → Int32} (h : mT n tp s I A) (h1 : ∀ k, 11 ≤ k → k ≤ 17 → I' 64 k = I 64 k) {A' : Nat → Nat → Int32} (hA : A' 72 = A 72) : mT n tp s I' A' := by
  unfold mT mTx at h ⊢
  rw [h1 11 (by omega) (by omega), h1 12 (by omega) (by omega), h1 13 (by omega) (by omega), h1 14 (by omega) (by omega), h1 15 (by omega) (by omega), h1 16 (by omega) (by omega), h1 17 (by omega) (by omega), hA]
  exact h
theorem m_bad (hs : sGood n s) (h : mT n tp s I A) {k : Nat} (hk : 1 ≤ k ∧ k ≤ 3) {v : Int32} (hv : v = nI k) (d : Nat) : ∃ I', pm_call L xs (d + 1) m_Model_bad [.ref 64, .int v] (zL I A b) = some (none, zL I' A b) ∧ mT n tp (if s.2 ≠ 0 then s else (s.1, k)) I' A ∧ fM I I' := by
  subst hv
  obtain ⟨h11, hA, hx⟩ := h
  rw [D_Model_bad, B_Model_bad_0, zg_64_16, zbS]
  rcases hx with ⟨f0, h16, h13, ht⟩ | ⟨f0, h16, h17⟩
  · rw [h16, if_neg (fun q => q rfl), zp_64_16, zbS, zg_64_13, zbS, zuI_n (by decide), h13, zp_64_17, zbS, if_neg (show ¬ s.2 ≠ 0 from fun q => q f0)]
    refine ⟨_, rfl, ⟨by rw [zuI_n (by decide), zuI_n (by decide)]; exact h11, hA, Or.inr ⟨by show k ≠ 0; omega, by rw [zuI_n (by decide), zuI_s], zuI_s⟩⟩, (fM.u 16 (by omega) _).trans (fM.u 17 (by omega) _)⟩
  · rw [h16, if_pos (nI_ne0 (by omega) (by have := hs.2; omega)), if_pos f0]
    exact ⟨I, rfl, ⟨h11, hA, Or.inr ⟨f0, h16, h17⟩⟩, fM.refl⟩
theorem m_must0 (hs : sGood n s) (h : mT n tp s I A) (d : Nat) : ∃ I', pm_call L xs (d + 3) m_Model_must [.ref 64, .int 0] (zL I A b) = some (none, zL I' A b) ∧ mT n tp (if s.2 ≠ 0 then s else (s.1, 1)) I' A ∧ fM I I' := by
  obtain ⟨I1, x1, x2, x3⟩ := m_bad (L := L) (xs := xs) (b := b) hs h (k := 1) (by omega) zl1 (d + 1)
  refine ⟨I1, ?_, x2, x3⟩
  rw [D_Model_must, B_Model_must_0, if_neg (fun q => q rfl), x1, zbV, zg_64_16, zbS]
  obtain ⟨-, -, hx⟩ := x2
  by_cases c : s.2 ≠ 0
  · rw [if_pos c] at hx
    rcases hx with ⟨f0, -⟩ | ⟨f0, h16, -⟩
    · exact absurd f0 c
    · rw [h16, if_pos (nI_ne0 (by omega) (by have := hs.2; omega))]
  · rw [if_neg c] at hx
    rcases hx with ⟨f0, -⟩ | ⟨f0, h16, -⟩
    · exact absurd f0 (by show ¬ (1 : Nat) = 0; decide)
    · rw [h16, if_pos (show ¬ nI 1 = 0 from by decide)]
theorem m_must1 (hT : tGood n tp) (hs : sGood n s) (h : mT n tp s I A) {Q : Nat} (hQ : s.2 = 0 → Q ≤ n ∧ I 64 12 = nI Q) (d : Nat) : ∃ I', pm_call L xs (d + 3) m_Model_must [.ref 64, .int 1] (zL I A b) = some (none, zL I' A b) ∧ mT n tp (if s.2 ≠ 0 then s else (Q, 0)) I' A ∧ fM I I' := by
  obtain ⟨h11, hA, hx⟩ := h
  rw [D_Model_must, B_Model_must_0, if_pos (by decide), zg_64_16, zbS]
  rcases hx with ⟨f0, h16, h13, ht⟩ | ⟨f0, h16, h17⟩
  · obtain ⟨q1, q2⟩ := hQ f0
    obtain ⟨I1, x1, x2, x3⟩ := m_next (L := L) (xs := xs) (b := b) hT hA h11 q2 q1 h16 d
    rw [h16, if_neg (fun q => q rfl), x1, zbV, if_neg (show ¬ s.2 ≠ 0 from fun q => q f0)]
    exact ⟨I1, rfl, x2, x3⟩
  · rw [h16, if_pos (nI_ne0 (by omega) (by have := hs.2; omega)), if_pos f0]
    exact ⟨I, rfl, ⟨h11, hA, Or.inr ⟨f0, h16, h17⟩⟩, fM.refl⟩
theorem m_mustSign (hT : tGood n tp) (hs : sGood n s) (h : mT n tp s I A) {c : Nat} (hc : c = 44 ∨ c = 59) {v : Int32} (hv : v = nI c) (d : Nat) : ∃ I', pm_call L xs (d + 4) m_Model_mustSign [.ref 64, .int v] (zL I A b) = some (none, zL I' A b) ∧ mT n tp (pSg n tp c s) I' A ∧ fM I I' := by
  subst hv
  obtain ⟨I0, x1, x2, x3⟩ := m_must0 (L := L) (xs := xs) (b := b) hs h d
  have hm := h
  obtain ⟨h11, hA, hx⟩ := h
  rw [D_Model_mustSign, B_Model_mustSign_0, zg_64_14, zbS]
  rcases hx with ⟨f0, h16, h13, ht⟩ | ⟨f0, h16, h17⟩
  · have no : ¬ (s.1 < n ∧ tp s.1 = c) → mT n tp (pSg n tp c s) I0 A := fun q => by
      unfold pSg
      rw [if_neg (show ¬ s.2 ≠ 0 from fun q => q f0)] at x2 ⊢
      rw [if_neg q]
      exact x2
    rcases ht with ⟨e, t1⟩ | ⟨e, ht⟩
    · rw [t1, if_pos (by decide), x1, zbV]
      exact ⟨I0, rfl, no (fun q => by omega), x3⟩
    · have h256 := hT.2 _ e
      rcases ht with ⟨a1, a2, t1, -⟩ | ⟨a1, a2, t1, -⟩ | ⟨a1, t1, t2, t3⟩ | ⟨a1, a2, a3, a4, t1⟩
      · rw [t1, if_pos (by decide), x1, zbV]
        exact ⟨I0, rfl, no (fun q => by omega), x3⟩
      · rw [t1, if_pos (by decide), x1, zbV]
        refine ⟨I0, rfl, no (fun q => a1 ?_), x3⟩
        have : dg n tp s.1 = false := by unfold dg; simp [e]; omega
        unfold nf
        rw [this]
        rfl
      · rw [t1, if_neg (fun q => q rfl), zg_64_15, zbS, t2]
        by_cases c1 : tp s.1 = c
        · obtain ⟨I1, y1, y2, y3⟩ := m_must1 (L := L) (xs := xs) (b := b) (Q := s.1 + 1) hT hs hm (fun _ => ⟨by omega, t3⟩) d
          rw [if_neg (fun q => q (by rw [c1])), y1, zbV]
          refine ⟨I1, rfl, ?_, y3⟩
          unfold pSg
          rw [if_neg (show ¬ s.2 ≠ 0 from fun q => q f0)] at y2 ⊢
          rw [if_pos ⟨e, c1⟩]
          exact y2
        · rw [if_pos (fun q => c1 ((nI_eq (by omega) (by omega)).mp q)), x1, zbV]
          exact ⟨I0, rfl, no (fun q => c1 q.2), x3⟩
      · rw [t1, if_pos (by decide), x1, zbV]
        exact ⟨I0, rfl, no (fun q => by omega), x3⟩
  · have hf : pSg n tp c s = s := by unfold pSg; rw [if_pos f0]
    rw [if_pos f0] at x2
    obtain ⟨I1, y1, y2, y3⟩ := m_must1 (L := L) (xs := xs) (b := b) (Q := 0) hT hs hm (fun q => absurd q f0) d
    rw [if_pos f0] at y2
    rw [hf]
    by_cases c1 : ¬ I 64 14 = 4
    · rw [if_pos c1, x1, zbV]
      exact ⟨I0, rfl, x2, x3⟩
    · rw [if_neg c1, zg_64_15, zbS]
      by_cases c2 : ¬ I 64 15 = nI c
      · rw [if_pos c2, x1, zbV]
        exact ⟨I0, rfl, x2, x3⟩
      · rw [if_neg c2, y1, zbV]
        exact ⟨I1, rfl, y2, y3⟩
theorem m_number (hT : tGood n tp) (hs : sGood n s) (h : mT n tp s I A) {lo hi : Nat} (hl : lo ≤ hi) (hh : hi < 100) {v w : Int32} (hv : v = nI lo) (hw : w = nI hi) (d : Nat) : ∃ I', pm_call L xs (d + 4) m_Model_number [.ref 64, .int v, .int w] (zL I A b) = some (some (.int (nI (pNm n tp lo hi s).2)), zL I' A b) ∧ mT n tp (pNm n tp lo hi s).1 I' A ∧ fM I I' := by
  subst hv
  subst hw
  have hm := h
  obtain ⟨h11, hA, hx⟩ := h
  have after : ∀ (k : Nat) (I1 : Nat → Nat → Int32), 1 ≤ k ∧ k ≤ 3 → mT n tp (s.1, k) I1 A → ∃ I', zE L xs (d + 3) K_Model_number 47 [some (.ref 64), some (.int (nI lo)), some (.int (nI hi)), none] [] (zL I1 A b) = some (some (.int (nI lo)), zL I' A b) ∧ mT n tp (s.1, k) I' A ∧ fM I1 I' := by
    intro k I1 hk hm1
    obtain ⟨I2, y1, y2, y3⟩ := m_must1 (L := L) (xs := xs) (b := b) (Q := 0) (s := (s.1, k)) hT ⟨hs.1, hk.2⟩ hm1 (fun q => absurd q (by show k ≠ 0; omega)) d
    rw [if_pos (show k ≠ 0 by omega)] at y2
    have h16 : I1 64 16 = nI k := by
      rcases hm1.2.2 with ⟨f0, -⟩ | ⟨-, q, -⟩
      · exact absurd f0 (by show k ≠ 0; omega)
      · exact q
    rw [B_Model_number_47, zg_64_16, zbS, h16, if_pos (nI_ne0 (by omega) (by omega)), y1, zbV]
    exact ⟨I2, rfl, y2, y3⟩
  rw [D_Model_number, B_Model_number_0, zg_64_16, zbS]
  rcases hx with ⟨f0, h16, h13, ht⟩ | ⟨f0, h16, h17⟩
  · have s0 : ¬ s.2 ≠ 0 := fun q => q f0
    obtain ⟨I1, b1, b2, b3⟩ := m_bad (L := L) (xs := xs) (b := b) hs hm (k := 1) (by omega) zl1 (d + 2)
    rw [if_neg s0] at b2
    have no : nf n tp s.1 = 0 ∨ nf n tp s.1 = 3 → ¬ I 64 14 = 3 → ∃ I', ((pm_gI (zL I A b) 64 8 14).bind fun x6 => (if x6 = (3 : Int32) then (some (0 : Int32)).bind fun x7 => (if ¬ x7 = 0 then zE L xs (d + 3) K_Model_number 47 [some (.ref 64), some (.int (nI lo)), some (.int (nI hi)), none] [] (zL I A b) else (pm_gI (zL I A b) 64 8 15).bind fun x8 => (pm_cI (pm_call L xs (d + 3) m_Model_in [.long (Int32.toInt64 x8), .long (Int32.toInt64 (nI lo)), .long (Int32.toInt64 (nI hi))] (zL I A b))).bind fun z9 => (if ¬ z9.1 = 0 then zE L xs (d + 3) K_Model_number 47 [some (.ref 64), some (.int (nI lo)), some (.int (nI hi)), none] [] z9.2 else (pm_cV (pm_call L xs (d + 3) m_Model_bad [.ref 64, .int (2 : Int32)] z9.2)).bind fun g10 => zE L xs (d + 3) K_Model_number 47 [some (.ref 64), some (.int (nI lo)), some (.int (nI hi)), none] [] g10)) else (pm_cV (pm_call L xs (d + 3) m_Model_bad [.ref 64, .int (1 : Int32)] (zL I A b))).bind fun g11 => (pm_gI g11 64 8 16).bind fun x12 => (if ¬ x12 = 0 then zE L xs (d + 3) K_Model_number 47 [some (.ref 64), some (.int (nI lo)), some (.int (nI hi)), none] [] g11 else (pm_gI g11 64 8 15).bind fun x13 => (pm_cI (pm_call L xs (d + 3) m_Model_in [.long (Int32.toInt64 x13), .long (Int32.toInt64 (nI lo)), .long (Int32.toInt64 (nI hi))] g11)).bind fun z14 => (if ¬ z14.1 = 0 then zE L xs (d + 3) K_Model_number 47 [some (.ref 64), some (.int (nI lo)), some (.int (nI hi)), none] [] z14.2 else (pm_cV (pm_call L xs (d + 3) m_Model_bad [.ref 64, .int (2 : Int32)] z14.2)).bind fun g15 => zE L xs (d + 3) K_Model_number 47 [some (.ref 64), some (.int (nI lo)), some (.int (nI hi)), none] [] g15)))) = some (some (.int (nI (pNm n tp lo hi s).2)), zL I' A b) ∧ mT n tp (pNm n tp lo hi s).1 I' A ∧ fM I I' := by
      intro hnf ht3
      have hp : pNm n tp lo hi s = ((s.1, 1), lo) := by unfold pNm; rw [if_neg s0, if_pos hnf]
      have q16 : I1 64 16 = nI 1 := by
        rcases b2.2.2 with ⟨q, -⟩ | ⟨-, q, -⟩
        · exact absurd q (by show ¬ (1 : Nat) = 0; decide)
        · exact q
      obtain ⟨I2, y1, y2, y3⟩ := after 1 I1 (by omega) b2
      rw [hp, zg_64_14, zbS, if_neg ht3, b1, zbV, zg_64_16, zbS, q16, if_pos (show ¬ nI 1 = (0 : Int32) from by decide), y1]
      exact ⟨I2, rfl, y2, b3.trans y3⟩
    rw [h16, if_neg (fun q => q rfl)]
    rcases ht with ⟨e, t1⟩ | ⟨e, ht⟩
    · refine no (Or.inl ?_) (by rw [t1]; decide)
      have : dg n tp s.1 = false := by unfold dg; simp; omega
      unfold nf
      rw [this]
      rfl
    · have h256 := hT.2 _ e
      rcases ht with ⟨a1, a2, t1, -⟩ | ⟨a1, a2, t1, t2, t3⟩ | ⟨a1, t1, t2, t3⟩ | ⟨a1, a2, a3, a4, t1⟩
      · refine no (Or.inl ?_) (by rw [t1]; decide)
        have : dg n tp s.1 = false := by unfold dg; simp [e]; omega
        unfold nf
        rw [this]
        rfl
      · have hd : dg n tp s.1 = true := by
          cases q : dg n tp s.1
          · exact absurd (by unfold nf; rw [q]; rfl) a1
          · rfl
        have t0 : s.1 < n ∧ 48 ≤ tp s.1 ∧ tp s.1 ≤ 57 := by unfold dg at hd; simpa using hd
        have hvl : nv n tp s.1 < 2 ^ 20 := by
          unfold nv
          split
          · rename_i q
            have : s.1 + 1 < n ∧ 48 ≤ tp (s.1 + 1) ∧ tp (s.1 + 1) ≤ 57 := by unfold dg at q; simpa using q
            omega
          · omega
        have h3 := hT.1
        rw [zg_64_14, zbS, t1, if_pos rfl, zbS, if_neg (fun q => q rfl), zg_64_15, zbS, t2, m_in' _ (nv n tp s.1) lo hi (by omega) (by omega) (by omega) _ _ rfl rfl rfl, zbI]
        dsimp only
        by_cases c1 : lo ≤ nv n tp s.1 ∧ nv n tp s.1 ≤ hi
        · have hp : pNm n tp lo hi s = ((s.1 + nf n tp s.1, 0), nv n tp s.1) := by unfold pNm; rw [if_neg s0, if_neg (by omega), if_neg (by omega)]
          obtain ⟨I2, y1, y2, y3⟩ := m_must1 (L := L) (xs := xs) (b := b) (Q := s.1 + nf n tp s.1) hT hs hm (fun _ => ⟨nf_le a1, t3⟩) d
          rw [if_neg s0] at y2
          rw [if_pos c1, if_pos (by decide), B_Model_number_47, zg_64_16, zbS, h16, if_neg (fun q => q rfl), zg_64_15, zbS, t2, y1, zbV, hp]
          exact ⟨I2, rfl, y2, y3⟩
        · have hp : pNm n tp lo hi s = ((s.1, 2), lo) := by unfold pNm; rw [if_neg s0, if_neg (by omega), if_pos (by omega)]
          obtain ⟨I3, d1, d2, d3⟩ := m_bad (L := L) (xs := xs) (b := b) hs hm (k := 2) (by omega) zl2 (d + 2)
          rw [if_neg s0] at d2
          obtain ⟨I2, y1, y2, y3⟩ := after 2 I3 (by omega) d2
          rw [if_neg c1, if_neg (fun q => q rfl), d1, zbV, y1, hp]
          exact ⟨I2, rfl, y2, d3.trans y3⟩
      · refine no (Or.inl ?_) (by rw [t1]; decide)
        have : dg n tp s.1 = false := by unfold dg; simp [e]; omega
        unfold nf
        rw [this]
        rfl
      · exact no a2 (by rw [t1]; decide)
  · have hp : pNm n tp lo hi s = (s, lo) := by unfold pNm; rw [if_pos f0]
    obtain ⟨I2, y1, y2, y3⟩ := after s.2 I ⟨by omega, hs.2⟩ hm
    rw [h16, if_pos (nI_ne0 (by omega) (by have := hs.2; omega)), zbS, if_pos (nI_ne0 (by omega) (by have := hs.2; omega)), y1, hp]
    exact ⟨I2, rfl, y2, y3⟩
theorem m_kindBy {x : Nat} (hx : x < 256) (σ : pm_H) (d : Nat) : pm_call L xs (d + 1) m_Model_kindBy [.int (nI x)] σ = some (some (.int (if kl x = 0 then -1000000 else nI (kl x))), σ) := by
  rw [C_Model_kindBy, B_Model_kindBy_0]
  have e : ∀ c : Nat, c < 256 → (nI x = nI c) = (x = c) := fun c hc => znI (by omega) (by omega)
  rw [show (98 : Int32) = nI 98 from by decide, show (99 : Int32) = nI 99 from by decide, show (114 : Int32) = nI 114 from by decide, show (115 : Int32) = nI 115 from by decide, show (116 : Int32) = nI 116 from by decide]
  simp only [e 98 (by decide), e 99 (by decide), e 114 (by decide), e 115 (by decide), e 116 (by decide)]
  by_cases c1 : x = 116
  · subst c1; rfl
  · by_cases c2 : x = 98
    · subst c2; rfl
    · by_cases c3 : x = 114
      · subst c3; rfl
      · by_cases c4 : x = 115
        · subst c4; rfl
        · by_cases c5 : x = 99
          · subst c5; rfl
          · have : kl x = 0 := by unfold kl; rw [if_neg c2, if_neg c5, if_neg c3, if_neg c4, if_neg c1]
            rw [this]
            simp only [c1, c2, c3, c4, c5, not_false_eq_true, if_true]
def isS (n : Nat) (tp : Nat → Nat) (s : Nat × Nat) : Prop := s.2 = 0 ∧ s.1 < n ∧ kl (tp s.1) ≠ 0
theorem kl_let {x : Nat} (h : kl x ≠ 0) : 97 ≤ x ∧ x ≤ 122 := by
  by_cases c : 97 ≤ x ∧ x ≤ 122
  · exact c
  · refine absurd ?_ h
    unfold kl
    rw [if_neg (by omega), if_neg (by omega), if_neg (by omega), if_neg (by omega), if_neg (by omega)]
theorem m_isSort (hT : tGood n tp) (hs : sGood n s) (h : mT n tp s I A) (d : Nat) : (isS n tp s → pm_call L xs (d + 2) m_Model_isSort [.ref 64] (zL I A b) = some (some (.int 1), zL I A b)) ∧ (¬ isS n tp s → pm_call L xs (d + 2) m_Model_isSort [.ref 64] (zL I A b) = some (some (.int 0), zL I A b)) := by
  obtain ⟨h11, hA, hx⟩ := h
  rw [D_Model_isSort, B_Model_isSort_0, zg_64_16, zbS]
  rcases hx with ⟨f0, h16, h13, ht⟩ | ⟨f0, h16, h17⟩
  · rw [h16, if_neg (fun q => q rfl), zg_64_14, zbS]
    rcases ht with ⟨e, t1⟩ | ⟨e, ht⟩
    · rw [t1, if_pos (by decide)]
      exact ⟨fun q => absurd q.2.1 (by omega), fun _ => rfl⟩
    · have h256 := hT.2 _ e
      rcases ht with ⟨a1, a2, t1, t2, -⟩ | ⟨a1, a2, t1, -⟩ | ⟨a1, t1, t2, t3⟩ | ⟨a1, a2, a3, a4, t1⟩
      · rw [t1, if_neg (fun q => q rfl), zg_64_15, zbS, t2, m_kindBy h256, zbI]
        dsimp only
        by_cases c : kl (tp s.1) = 0
        · rw [if_pos c, if_pos rfl]
          exact ⟨fun q => absurd c q.2.2, fun _ => rfl⟩
        · have := kl_le (tp s.1)
          rw [if_neg c, if_neg (zNn (by omega))]
          exact ⟨fun _ => rfl, fun q => absurd ⟨f0, e, c⟩ q⟩
      · have hno : ¬ isS n tp s := fun q => by
          have q1 := kl_let q.2.2
          apply a1
          have : dg n tp s.1 = false := by unfold dg; simp [e]; omega
          unfold nf
          rw [this]
          rfl
        rw [t1, if_pos (by decide)]
        exact ⟨fun q => absurd q hno, fun _ => rfl⟩
      · rw [t1, if_pos (by decide)]
        exact ⟨fun q => by have := kl_let q.2.2; omega, fun _ => rfl⟩
      · rw [t1, if_pos (by decide)]
        exact ⟨fun q => absurd (kl_let q.2.2) a1, fun _ => rfl⟩
  · rw [h16, if_pos (nI_ne0 (by omega) (by have := hs.2; omega))]
    exact ⟨fun q => absurd q.1 f0, fun _ => rfl⟩
theorem m_mustE (hT : tGood n tp) (hs : sGood n s) (h : mT n tp s I A) (h0 : s.2 = 0) (d : Nat) : ∃ x I', pm_call L xs (d + 3) m_Model_isLetter [.ref 64, .int 101] (zL I A b) = some (some (.int x), zL I A b) ∧ pm_call L xs (d + 3) m_Model_must [.ref 64, .int x] (zL I A b) = some (none, zL I' A b) ∧ mT n tp (pSg n tp 101 s) I' A ∧ fM I I' := by
  obtain ⟨I0, x1, x2, x3⟩ := m_must0 (L := L) (xs := xs) (b := b) hs h d
  have hm := h
  obtain ⟨h11, hA, hx⟩ := h
  have s0 : ¬ s.2 ≠ 0 := fun q => q h0
  have no : ¬ (s.1 < n ∧ tp s.1 = 101) → mT n tp (pSg n tp 101 s) I0 A := fun q => by
    unfold pSg
    rw [if_neg s0] at x2 ⊢
    rw [if_neg q]
    exact x2
  rw [D_Model_isLetter, B_Model_isLetter_0, zg_64_16, zbS]
  rcases hx with ⟨f0, h16, h13, ht⟩ | ⟨f0, h16, h17⟩
  · rw [h16, if_neg (fun q => q rfl), zg_64_14, zbS]
    rcases ht with ⟨e, t1⟩ | ⟨e, ht⟩
    · rw [t1, if_pos (by decide)]
      exact ⟨0, I0, rfl, x1, no (fun q => by omega), x3⟩
    · have h256 := hT.2 _ e
      rcases ht with ⟨a1, a2, t1, t2, t3⟩ | ⟨a1, a2, t1, -⟩ | ⟨a1, t1, t2, t3⟩ | ⟨a1, a2, a3, a4, t1⟩
      · rw [t1, if_neg (fun q => q rfl), zg_64_15, zbS, t2]
        by_cases c : tp s.1 = 101
        · obtain ⟨I1, y1, y2, y3⟩ := m_must1 (L := L) (xs := xs) (b := b) (Q := s.1 + 1) hT hs hm (fun _ => ⟨by omega, t3⟩) d
          rw [if_neg (fun q => q (by rw [c]; rfl))]
          refine ⟨1, I1, rfl, y1, ?_, y3⟩
          unfold pSg
          rw [if_neg s0] at y2 ⊢
          rw [if_pos ⟨e, c⟩]
          exact y2
        · rw [if_pos (show ¬ nI (tp s.1) = (101 : Int32) from fun q => c ((nI_eq (b := 101) (by omega) (by decide)).mp q))]
          exact ⟨0, I0, rfl, x1, no (fun q => c q.2), x3⟩
      · rw [t1, if_pos (by decide)]
        refine ⟨0, I0, rfl, x1, no (fun q => a1 ?_), x3⟩
        have : dg n tp s.1 = false := by unfold dg; simp [e]; omega
        unfold nf
        rw [this]
        rfl
      · rw [t1, if_pos (by decide)]
        exact ⟨0, I0, rfl, x1, no (fun q => by omega), x3⟩
      · rw [t1, if_pos (by decide)]
        exact ⟨0, I0, rfl, x1, no (fun q => by omega), x3⟩
  · exact absurd h0 f0
end
