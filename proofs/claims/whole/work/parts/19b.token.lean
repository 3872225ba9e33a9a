section
variable {L : Nat} {xs : Nat → Int32} {n : Nat} {tp : Nat → Nat} {I A : Nat → Nat → Int32} {b : Value} {s : Nat × Nat} {P : Nat}
def fM (I I' : Nat → Nat → Int32) : Prop := ∀ o k, ¬ (o = 64 ∧ 12 ≤ k ∧ k ≤ 17) → I' o k = I o k
theorem fM.refl : fM I I := fun _ _ _ => rfl
theorem fM.trans {I1 I2 : Nat → Nat → Int32} (h : fM I I1) (k : fM I1 I2) : fM I I2 := fun o j hj => (k o j hj).trans (h o j hj)
theorem fM.u (k : Nat) (hk : 12 ≤ k ∧ k ≤ 17) (x : Int32) : fM I (zuI I 64 k x) := fun o j hj => by rw [zuI_at, if_neg (by omega)]
/-- the TOKEN at P -/
def tOk (n : Nat) (tp : Nat → Nat) (P : Nat) (tk v cur : Int32) : Prop := (P = n ∧ tk = 1) ∨ (P < n ∧ ((97 ≤ tp P ∧ tp P ≤ 122 ∧ tk = 2 ∧ v = nI (tp P) ∧ cur = nI (P + 1)) ∨ (nf n tp P ≠ 0 ∧ nf n tp P ≠ 3 ∧ tk = 3 ∧ v = nI (nv n tp P) ∧ cur = nI (P + nf n tp P)) ∨ ((tp P = 44 ∨ tp P = 59) ∧ tk = 4 ∧ v = nI (tp P) ∧ cur = nI (P + 1)) ∨ (¬ (97 ≤ tp P ∧ tp P ≤ 122) ∧ (nf n tp P = 0 ∨ nf n tp P = 3) ∧ tp P ≠ 44 ∧ tp P ≠ 59 ∧ tk = 0)))
def mTx (n : Nat) (tp : Nat → Nat) (s : Nat × Nat) (I : Nat → Nat → Int32) : Prop := (s.2 = 0 ∧ I 64 16 = 0 ∧ I 64 13 = nI s.1 ∧ tOk n tp s.1 (I 64 14) (I 64 15) (I 64 12)) ∨ (s.2 ≠ 0 ∧ I 64 16 = nI s.2 ∧ I 64 17 = nI s.1)
def mT (n : Nat) (tp : Nat → Nat) (s : Nat × Nat) (I A : Nat → Nat → Int32) : Prop := I 64 11 = nI n ∧ (∀ i, i < n → A 72 i = nI (tp i)) ∧ mTx n tp s I
theorem m_in' (v : Int32) (x lo hi : Nat) (hx : x < 2 ^ 31) (hl : lo < 2 ^ 31) (hh : hi < 2 ^ 31) (a c : Int32) (hv : v = nI x) (ha : a = nI lo) (hc : c = nI hi) (σ : pm_H) (d : Nat) : pm_call L xs (d + 1) m_Model_in [.long (Int32.toInt64 v), .long (Int32.toInt64 a), .long (Int32.toInt64 c)] σ = some (some (.int (if lo ≤ x ∧ x ≤ hi then 1 else 0)), σ) := by
  subst hv
  subst ha
  subst hc
  rw [m_in]
  simp only [znL hl hx, znL hx hh]
theorem m_run3 (hT : tGood n tp) (hA : ∀ i, i < n → A 72 i = nI (tp i)) (d : Nat) : ∀ m Q (I : Nat → Nat → Int32), n - Q = m → P + 3 ≤ Q → Q ≤ n → I 64 11 = nI n → I 64 12 = nI Q → I 64 13 = nI P → ∃ I', zE L xs (d + 1) K_Model_nextToken 165 [some (.ref 64)] [] (zL I A b) = some (none, zL I' A b) ∧ fM I I' ∧ I' 64 14 = 0 ∧ I' 64 13 = nI P ∧ I' 64 16 = I 64 16 := by
  have hn := hT.1
  intro m
  induction m with
  | zero =>
    intro Q I h1 h2 h3 h11 h12 h13
    rw [B_Model_nextToken_165, zg_64_12, zbS, zg_64_11, zbS, h11, h12, if_pos (nI_le (by omega) (by omega)), zbS, zg_64_13, zbS, h13, pk_sub (by omega), if_neg (show ¬ nI (Q - P) ≤ (2 : Int32) by rw [zl2]; exact nI_ge (by omega) (by omega)), zp_64_14, zbS]
    exact ⟨_, rfl, fM.u 14 (by omega) _, zuI_s, by rw [zuI_n (by decide)]; exact h13, by rw [zuI_n (by decide)]⟩
  | succ m ih =>
    intro Q I h1 h2 h3 h11 h12 h13
    have hQ : Q < n := by omega
    have ht := hT.2 Q hQ
    have hr : pm_rd 0 (zL I A b) 72 (nI Q) = some (nI (tp Q)) := by rw [z_rd za_72 (by omega), hA Q hQ]
    rw [B_Model_nextToken_165, zg_64_12, zbS, zg_64_11, zbS, h11, h12, if_neg (nI_ge hQ (by omega)), zr_64_10, zbS, zbS, hr, zbS, m_in' _ (tp Q) 48 57 (by omega) (by decide) (by decide) _ _ rfl (by decide) (by decide), zbI]
    dsimp only
    by_cases c1 : 48 ≤ tp Q ∧ tp Q ≤ 57
    · rw [if_pos c1, if_neg (by decide), zg_64_12, zbS, zg_64_13, zbS, h12, h13, pk_sub (by omega), if_pos (show (2 : Int32) ≤ nI (Q - P) by rw [zl2]; exact nI_le (by omega) (by omega)), zg_64_15, zbS, zp_64_15, zbS, zg_64_12, zbS, zuI_n (by decide), h12, nI_1, zp_64_12, zbS]
      obtain ⟨I', e1, e2, e3, e4, e5⟩ := ih (Q + 1) (zuI (zuI I 64 15 (I 64 15)) 64 12 (nI (Q + 1))) (by omega) (by omega) (by omega) (by rw [zuI_n (by decide), zuI_n (by decide)]; exact h11) zuI_s (by rw [zuI_n (by decide), zuI_n (by decide)]; exact h13)
      exact ⟨I', e1, ((fM.u 15 (by omega) _).trans (fM.u 12 (by omega) _)).trans e2, e3, e4, by rw [e5, zuI_n (by decide), zuI_n (by decide)]⟩
    · rw [if_neg c1, if_pos rfl, zg_64_12, zbS, zg_64_13, zbS, h12, h13, pk_sub (by omega), if_neg (show ¬ nI (Q - P) ≤ (2 : Int32) by rw [zl2]; exact nI_ge (by omega) (by omega)), zp_64_14, zbS]
      exact ⟨_, rfl, fM.u 14 (by omega) _, zuI_s, by rw [zuI_n (by decide)]; exact h13, by rw [zuI_n (by decide)]⟩
theorem m_runE (hT : tGood n tp) (hA : ∀ i, i < n → A 72 i = nI (tp i)) {Q : Nat} (hd : dg n tp Q = false) (hPQ : P ≤ Q ∧ Q ≤ P + 2) (hQn : Q ≤ n) (h11 : I 64 11 = nI n) (h12 : I 64 12 = nI Q) (h13 : I 64 13 = nI P) (d : Nat) : zE L xs (d + 1) K_Model_nextToken 165 [some (.ref 64)] [] (zL I A b) = some (none, zL (zuI I 64 14 3) A b) := by
  have hn := hT.1
  have e2 : nI Q - nI P ≤ (2 : Int32) := by rw [pk_sub hPQ.1, zl2]; exact nI_le (by omega) (by decide)
  rw [B_Model_nextToken_165, zg_64_12, zbS, zg_64_11, zbS, h11, h12]
  by_cases hQ : Q < n
  · have ht := hT.2 Q hQ
    have hr : pm_rd 0 (zL I A b) 72 (nI Q) = some (nI (tp Q)) := by rw [z_rd za_72 (by omega), hA Q hQ]
    have c1 : ¬ (48 ≤ tp Q ∧ tp Q ≤ 57) := fun q => by unfold dg at hd; simp [hQ, q] at hd
    rw [if_neg (nI_ge hQ (by omega)), zr_64_10, zbS, zbS, hr, zbS, m_in' _ (tp Q) 48 57 (by omega) (by decide) (by decide) _ _ rfl (by decide) (by decide), zbI]
    dsimp only
    rw [if_neg c1, if_pos rfl, zg_64_12, zbS, zg_64_13, zbS, h12, h13, if_pos e2, zp_64_14, zbS]
  · rw [if_pos (nI_le (by omega) (by omega)), zbS, zg_64_13, zbS, h13, if_pos e2, zp_64_14, zbS]
theorem m_runG (hT : tGood n tp) (hA : ∀ i, i < n → A 72 i = nI (tp i)) {Q V : Nat} (hd : dg n tp Q = true) (hPQ : Q = P + 1) (h11 : I 64 11 = nI n) (h12 : I 64 12 = nI Q) (h13 : I 64 13 = nI P) (h15 : I 64 15 = nI V) (d : Nat) : zE L xs (d + 1) K_Model_nextToken 165 [some (.ref 64)] [] (zL I A b) = zE L xs (d + 1) K_Model_nextToken 165 [some (.ref 64)] [] (zL (zuI (zuI I 64 15 (nI (V * 10 + tp Q - 48))) 64 12 (nI (Q + 1))) A b) := by
  have hn := hT.1
  have t0 : Q < n ∧ 48 ≤ tp Q ∧ tp Q ≤ 57 := by unfold dg at hd; simpa using hd
  have hr : pm_rd 0 (zL I A b) 72 (nI Q) = some (nI (tp Q)) := by rw [z_rd za_72 (by omega), hA Q t0.1]
  rw [B_Model_nextToken_165, zg_64_12, zbS, zg_64_11, zbS, h11, h12, if_neg (nI_ge t0.1 (by omega)), zr_64_10, zbS, zbS, hr, zbS, m_in' _ (tp Q) 48 57 (by omega) (by decide) (by decide) _ _ rfl (by decide) (by decide), zbI]
  dsimp only
  rw [if_pos t0.2, if_neg (by decide), zg_64_12, zbS, zg_64_13, zbS, h12, h13, pk_sub (by omega), if_neg (show ¬ (2 : Int32) ≤ nI (Q - P) by rw [zl2]; exact nI_ge (by omega) (by decide)), zg_64_15, zbS, zr_64_10, zbS, zbS, hr, zbS, h15, zl10, pk_mul, nI_add, show (48 : Int32) = nI 48 from by decide, pk_sub (by omega), zp_64_15, zbS, zg_64_12, zbS, zuI_n (by decide), h12, nI_1, zp_64_12, zbS, Nat.mul_comm 10 V]
theorem m_runX (hT : tGood n tp) (hA : ∀ i, i < n → A 72 i = nI (tp i)) (hd : dg n tp P = true) (h11 : I 64 11 = nI n) (h12 : I 64 12 = nI (P + 1)) (h13 : I 64 13 = nI P) (h15 : I 64 15 = nI (tp P - 48)) (d : Nat) : ∃ I', zE L xs (d + 1) K_Model_nextToken 165 [some (.ref 64)] [] (zL I A b) = some (none, zL I' A b) ∧ fM I I' ∧ I' 64 13 = nI P ∧ I' 64 16 = I 64 16 ∧ ((nf n tp P ≠ 3 ∧ I' 64 14 = 3 ∧ I' 64 15 = nI (nv n tp P) ∧ I' 64 12 = nI (P + nf n tp P)) ∨ (nf n tp P = 3 ∧ I' 64 14 = 0)) := by
  have hn := hT.1
  have t0 : P < n ∧ 48 ≤ tp P ∧ tp P ≤ 57 := by unfold dg at hd; simpa using hd
  by_cases d1 : dg n tp (P + 1) = true
  · have t1 : P + 1 < n ∧ 48 ≤ tp (P + 1) ∧ tp (P + 1) ≤ 57 := by unfold dg at d1; simpa using d1
    rw [m_runG hT hA d1 rfl h11 h12 h13 h15]
    obtain ⟨I1, hI1⟩ : ∃ I1, I1 = zuI (zuI I 64 15 (nI ((tp P - 48) * 10 + tp (P + 1) - 48))) 64 12 (nI (P + 1 + 1)) := ⟨_, rfl⟩
    have f1 : fM I I1 := by rw [hI1]; exact (fM.u 15 (by omega) _).trans (fM.u 12 (by omega) _)
    have k11 : I1 64 11 = nI n := by rw [hI1, zuI_n (by decide), zuI_n (by decide)]; exact h11
    have k12 : I1 64 12 = nI (P + 1 + 1) := by rw [hI1, zuI_s]
    have k13 : I1 64 13 = nI P := by rw [hI1, zuI_n (by decide), zuI_n (by decide)]; exact h13
    have k15 : I1 64 15 = nI ((tp P - 48) * 10 + tp (P + 1) - 48) := by rw [hI1, zuI_n (by decide), zuI_s]
    have k16 : I1 64 16 = I 64 16 := by rw [hI1, zuI_n (by decide), zuI_n (by decide)]
    rw [← hI1]
    by_cases d2 : dg n tp (P + 2) = true
    · have t2 : P + 2 < n ∧ 48 ≤ tp (P + 2) ∧ tp (P + 2) ≤ 57 := by unfold dg at d2; simpa using d2
      have hr : pm_rd 0 (zL I1 A b) 72 (nI (P + 1 + 1)) = some (nI (tp (P + 2))) := by rw [z_rd za_72 (by omega)]; exact congrArg some (hA (P + 2) t2.1)
      rw [B_Model_nextToken_165, zg_64_12, zbS, zg_64_11, zbS, k11, k12, if_neg (nI_ge (by omega) (by omega)), zr_64_10, zbS, zbS, hr, zbS, m_in' _ (tp (P + 2)) 48 57 (by omega) (by decide) (by decide) _ _ rfl (by decide) (by decide), zbI]
      dsimp only
      rw [if_pos t2.2, if_neg (by decide), zg_64_12, zbS, zg_64_13, zbS, k12, k13, pk_sub (by omega), if_pos (show (2 : Int32) ≤ nI (P + 1 + 1 - P) by rw [zl2]; exact nI_le (by omega) (by omega)), zg_64_15, zbS, zp_64_15, zbS, zg_64_12, zbS, zuI_n (by decide), k12, nI_1, zp_64_12, zbS]
      obtain ⟨I', e1, e2, e3, e4, e5⟩ := m_run3 (L := L) (xs := xs) (b := b) (P := P) hT hA d _ (P + 1 + 1 + 1) (zuI (zuI I1 64 15 (I1 64 15)) 64 12 (nI (P + 1 + 1 + 1))) rfl (by omega) (by omega) (by rw [zuI_n (by decide), zuI_n (by decide)]; exact k11) zuI_s (by rw [zuI_n (by decide), zuI_n (by decide)]; exact k13)
      refine ⟨I', e1, (f1.trans ((fM.u 15 (by omega) _).trans (fM.u 12 (by omega) _))).trans e2, e4, by rw [e5, zuI_n (by decide), zuI_n (by decide), k16], Or.inr ⟨?_, e3⟩⟩
      unfold nf
      rw [if_pos hd, if_pos d1, if_pos d2]
    · rw [m_runE hT hA (show dg n tp (P + 1 + 1) = false by simpa using d2) (by omega) (by omega) k11 k12 k13]
      have en : nf n tp P = 2 := by unfold nf; rw [if_pos hd, if_pos d1, if_neg d2]
      refine ⟨_, rfl, f1.trans (fM.u 14 (by omega) _), by rw [zuI_n (by decide)]; exact k13, by rw [zuI_n (by decide)]; exact k16, Or.inl ⟨by rw [en]; decide, zuI_s, ?_, ?_⟩⟩
      · rw [zuI_n (by decide), k15]
        unfold nv
        rw [if_pos d1]
      · rw [zuI_n (by decide), k12, en]
  · rw [m_runE hT hA (show dg n tp (P + 1) = false by simpa using d1) (by omega) (by omega) h11 h12 h13]
    have en : nf n tp P = 1 := by unfold nf; rw [if_pos hd, if_neg d1]
    refine ⟨_, rfl, fM.u 14 (by omega) _, by rw [zuI_n (by decide)]; exact h13, by rw [zuI_n (by decide)], Or.inl ⟨by rw [en]; decide, zuI_s, ?_, ?_⟩⟩
    · rw [zuI_n (by decide), h15]
      unfold nv
      rw [if_neg d1]
    · rw [zuI_n (by decide), h12, en]
theorem m_next (hT : tGood n tp) (hA : ∀ i, i < n → A 72 i = nI (tp i)) (h11 : I 64 11 = nI n) (h12 : I 64 12 = nI P) (hP : P ≤ n) (h16 : I 64 16 = 0) (d : Nat) : ∃ I', pm_call L xs (d + 2) m_Model_nextToken [.ref 64] (zL I A b) = some (none, zL I' A b) ∧ mT n tp (P, 0) I' A ∧ fM I I' := by
  have hn := hT.1
  rw [D_Model_nextToken, B_Model_nextToken_0, zg_64_12, zbS, h12, zp_64_13, zbS, zg_64_12, zbS, zg_64_11, zbS, zuI_n (by decide), zuI_n (by decide), h12, h11]
  by_cases hPn : P < n
  · have ht := hT.2 P hPn
    have hr : pm_rd 0 (zL (zuI I 64 13 (nI P)) A b) 72 (nI P) = some (nI (tp P)) := by rw [z_rd za_72 (by omega), hA P hPn]
    obtain ⟨I1, hI1⟩ : ∃ I1, I1 = zuI (zuI I 64 13 (nI P)) 64 15 (nI (tp P)) := ⟨_, rfl⟩
    have f1 : fM I I1 := by rw [hI1]; exact (fM.u 13 (by omega) _).trans (fM.u 15 (by omega) _)
    have k11 : I1 64 11 = nI n := by rw [hI1, zuI_n (by decide), zuI_n (by decide)]; exact h11
    have k12 : I1 64 12 = nI P := by rw [hI1, zuI_n (by decide), zuI_n (by decide)]; exact h12
    have k13 : I1 64 13 = nI P := by rw [hI1, zuI_n (by decide), zuI_s]
    have k15 : I1 64 15 = nI (tp P) := by rw [hI1, zuI_s]
    have k16 : I1 64 16 = 0 := by rw [hI1, zuI_n (by decide), zuI_n (by decide)]; exact h16
    have plain : ∀ s0 : Int32, ¬ s0 = 3 → (∀ I' : Nat → Nat → Int32, I' 64 14 = s0 → I' 64 15 = nI (tp P) → I' 64 12 = nI (P + 1) → tOk n tp P (I' 64 14) (I' 64 15) (I' 64 12)) → ∃ I', zE L xs (d + 1) K_Model_nextToken 118 [some (.ref 64)] [.int s0, .ref 64] (zL I1 A b) = some (none, zL I' A b) ∧ mT n tp (P, 0) I' A ∧ fM I I' := by
      intro s0 hs0 htk
      rw [B_Model_nextToken_118, zp_64_14, zbS, zg_64_12, zbS, zbS, zg_64_11, zbS, zuI_n (by decide), zuI_n (by decide), k12, k11, if_neg (nI_ge hPn (by omega)), nI_1, zp_64_12, zbS, zg_64_14, zbS, zuI_n (by decide), zuI_s, if_pos hs0]
      refine ⟨_, rfl, ⟨by rw [zuI_n (by decide), zuI_n (by decide)]; exact k11, hA, Or.inl ⟨rfl, by rw [zuI_n (by decide), zuI_n (by decide)]; exact k16, by rw [zuI_n (by decide), zuI_n (by decide)]; exact k13, htk _ ?_ ?_ zuI_s⟩⟩, f1.trans ((fM.u 14 (by omega) _).trans (fM.u 12 (by omega) _))⟩
      · rw [zuI_n (by decide), zuI_s]
      · rw [zuI_n (by decide), zuI_n (by decide)]; exact k15
    rw [if_neg (nI_ge hPn (by omega)), zr_64_10, zbS, zbS, hr, zbS, zp_64_15, zbS, ← hI1, zg_64_12, zbS, zg_64_11, zbS, k12, k11, if_pos (fun q => by have := (nI_eq (by omega) (by omega)).mp q; omega), zg_64_15, zbS, k15, m_in' _ (tp P) 97 122 (by omega) (by decide) (by decide) _ _ rfl (by decide) (by decide), zbI]
    dsimp only
    by_cases c1 : 97 ≤ tp P ∧ tp P ≤ 122
    · rw [if_pos c1, if_neg (by decide)]
      exact plain 2 (by decide) (fun I' e1 e2 e3 => Or.inr ⟨hPn, Or.inl ⟨c1.1, c1.2, e1, e2, e3⟩⟩)
    · rw [if_neg c1, if_pos rfl, zg_64_15, zbS, k15, m_in' _ (tp P) 48 57 (by omega) (by decide) (by decide) _ _ rfl (by decide) (by decide), zbI]
      dsimp only
      by_cases c2 : 48 ≤ tp P ∧ tp P ≤ 57
      · have hd : dg n tp P = true := by unfold dg; simp [hPn, c2]
        have hnf0 : nf n tp P ≠ 0 := by
          unfold nf
          rw [if_pos hd]
          repeat' split
          all_goals omega
        rw [if_pos c2, if_neg (by decide), B_Model_nextToken_118, zp_64_14, zbS, zg_64_12, zbS, zbS, zg_64_11, zbS, zuI_n (by decide), zuI_n (by decide), k12, k11, if_neg (nI_ge hPn (by omega)), nI_1, zp_64_12, zbS, zg_64_14, zbS, zuI_n (by decide), zuI_s, if_neg (fun q => q rfl), zg_64_15, zbS, zuI_n (by decide), zuI_n (by decide), k15, show (48 : Int32) = nI 48 from by decide, pk_sub c2.1, zp_64_15, zbS]
        obtain ⟨I2, hI2⟩ : ∃ I2, I2 = zuI (zuI (zuI I1 64 14 3) 64 12 (nI (P + 1))) 64 15 (nI (tp P - 48)) := ⟨_, rfl⟩
        rw [← hI2]
        have g1 : fM I1 I2 := by rw [hI2]; exact ((fM.u 14 (by omega) _).trans (fM.u 12 (by omega) _)).trans (fM.u 15 (by omega) _)
        have j11 : I2 64 11 = nI n := by rw [g1 64 11 (by omega)]; exact k11
        obtain ⟨I3, r1, r2, r3, r4, r5⟩ := m_runX (L := L) (xs := xs) (I := I2) (b := b) hT hA hd j11 (by rw [hI2, zuI_n (by decide), zuI_s]) (by rw [hI2, zuI_n (by decide), zuI_n (by decide), zuI_n (by decide)]; exact k13) (by rw [hI2, zuI_s]) d
        refine ⟨I3, r1, ⟨by rw [r2 64 11 (by omega)]; exact j11, hA, Or.inl ⟨rfl, by rw [r4, hI2, zuI_n (by decide), zuI_n (by decide), zuI_n (by decide)]; exact k16, r3, Or.inr ⟨hPn, ?_⟩⟩⟩, (f1.trans g1).trans r2⟩
        rcases r5 with ⟨e1, e2, e3, e4⟩ | ⟨e1, e2⟩
        · exact Or.inr (Or.inl ⟨hnf0, e1, e2, e3, e4⟩)
        · exact Or.inr (Or.inr (Or.inr ⟨c1, Or.inr e1, fun q => by have : tp P = 44 := q; omega, fun q => by have : tp P = 59 := q; omega, e2⟩))
      · have hd : dg n tp P = false := by unfold dg; simp [hPn]; omega
        have hnf0 : nf n tp P = 0 := by unfold nf; rw [hd]; rfl
        rw [if_neg c2, if_pos rfl, zg_64_15, zbS, k15]
        by_cases c3 : tp P = 44
        · rw [if_pos (by rw [c3]; rfl)]
          exact plain 4 (by decide) (fun I' e1 e2 e3 => Or.inr ⟨hPn, Or.inr (Or.inr (Or.inl ⟨Or.inl c3, e1, e2, e3⟩))⟩)
        · rw [if_neg (show ¬ nI (tp P) = (44 : Int32) from fun q => c3 ((nI_eq (b := 44) (by omega) (by decide)).mp q)), zbS]
          by_cases c4 : tp P = 59
          · rw [if_neg (fun q => q (by rw [c4]; rfl))]
            exact plain 4 (by decide) (fun I' e1 e2 e3 => Or.inr ⟨hPn, Or.inr (Or.inr (Or.inl ⟨Or.inr c4, e1, e2, e3⟩))⟩)
          · rw [if_pos (show ¬ nI (tp P) = (59 : Int32) from fun q => c4 ((nI_eq (b := 59) (by omega) (by decide)).mp q))]
            exact plain 0 (by decide) (fun I' e1 e2 e3 => Or.inr ⟨hPn, Or.inr (Or.inr (Or.inr ⟨c1, Or.inl hnf0, c3, c4, e1⟩))⟩)
  · have e : P = n := by omega
    subst e
    rw [if_pos (nI_le (Nat.le_refl _) (by omega)), zp_64_15, zbS, zg_64_12, zbS, zg_64_11, zbS, zuI_n (by decide), zuI_n (by decide), zuI_n (by decide), zuI_n (by decide), h12, h11, if_neg (fun q => q rfl), B_Model_nextToken_118, zp_64_14, zbS, zg_64_12, zbS, zbS, zg_64_11, zbS, zuI_n (by decide), zuI_n (by decide), zuI_n (by decide), zuI_n (by decide), zuI_n (by decide), zuI_n (by decide), h12, h11, if_pos (nI_le (Nat.le_refl _) (by omega)), zp_64_12, zbS, zg_64_14, zbS, zuI_n (by decide), zuI_s, if_pos (by decide)]
    refine ⟨_, rfl, ⟨by rw [zuI_n (by decide), zuI_n (by decide), zuI_n (by decide), zuI_n (by decide)]; exact h11, hA, Or.inl ⟨rfl, by rw [zuI_n (by decide), zuI_n (by decide), zuI_n (by decide), zuI_n (by decide)]; exact h16, by rw [zuI_n (by decide), zuI_n (by decide), zuI_n (by decide), zuI_s], Or.inl ⟨rfl, by rw [zuI_n (by decide), zuI_s]⟩⟩⟩, (((fM.u 13 (by omega) _).trans (fM.u 15 (by omega) _)).trans (fM.u 14 (by omega) _)).trans (fM.u 12 (by omega) _)⟩
end
