section
variable {L : Nat} {xs : Nat → Int32} {B : Nat} {g : Nat → Nat} {I A : Nat → Nat → Int32} {b : Value} {p s k : Nat}
def bI (x : Bool) : Int32 := if x = true then 1 else 0
theorem oset_eq (g : Nat → Nat) (c : Nat) : gset g (3 + c) ^^^ (gset g (3 + c) &&& gbroken g) = zB (fun t => decide (gp g t = 3 + c) && decide (gc g t ≠ 1)) (g 3) := by
  apply Nat.eq_of_testBit_eq
  intro i
  unfold gset gbroken
  rw [Nat.testBit_xor, Nat.testBit_and, ztb, ztb, ztb]
  cases decide (i < g 3) <;> cases decide (gp g i = 3 + c) <;> by_cases e : gc g i = 1 <;> simp [e]
theorem mh1_eq (hB : gB g) (c : Nat) : zpc (gset g (3 + c) ^^^ (gset g (3 + c) &&& gbroken g)) = mh1 g c := by
  rw [oset_eq, zpc_B _ _ hB.1]
  rfl
theorem m_obits (hB : gB g) (c : Nat) (d : Nat) (σ : pm_H) : pm_call L xs (d + 1) m_Model_bits [.int (nI (gset g (3 + c)) &&& (nI (gbroken g) ^^^ (-1 : Int32)))] σ = some (some (.int (nI (mh1 g c))), σ) := by
  rw [zandn, m_bits L xs d (by rw [oset_eq]; exact Nat.lt_of_lt_of_le (zB_128 _ hB.1) (by decide)), mh1_eq hB]
theorem m_tfac (hm : mR A 68 g) (hB : gB g) (hp : p ≤ 10) {c : Nat} (hcn : c < g 0) (x : Bool) (i1 i3 : Int32) (j5 j7 : Int64) (W H S : Nat) (y6 y8 y11 y15 : Option Value) : ∃ y11' y14' y15', zE L xs 59 K_Model_tears 156 [some (.ref 64), some (.int i1), some (.int (nI p)), some (.int i3), some (.int (nI (gbroken g) ^^^ (-1 : Int32))), some (.long j5), y6, some (.long j7), y8, some (.int (nI S)), some (.long (lN W)), y11, some (.int (nI H)), some (.int (nI c)), some (.int (bI x)), y15] [.int (bI (oO g c))] (zL I A b) = zE L xs 59 K_Model_tears 96 [some (.ref 64), some (.int i1), some (.int (nI p)), some (.int i3), some (.int (nI (gbroken g) ^^^ (-1 : Int32))), some (.long j5), y6, some (.long j7), y8, some (.int (nI S)), some (.long (lN (W * mf g p c x))), y11', some (.int (nI (H + (if x = true then 0 else mh1 g c)))), some (.int (nI (c + 1))), y14', y15'] [] (zL I A b) := by
  have h3 := hB.2.1
  have f1 : pm_call L xs 59 m_Model_isTorn [.ref 68, .int (nI c)] (zL I A b) = some (some (.int (bI (oT g c))), zL I A b) := by
    rw [m_isTorn L xs 56 I b hm hB (show c < 2 ^ 30 by omega)]
    unfold bI oT
    by_cases q : g 1 < gweighs g c
    · simp [q]
    · simp [q]
  have f2 : pm_call L xs 59 m_Model_things [.ref 68, .int (nI (3 + c))] (zL I A b) = some (some (.int (nI (gset g (3 + c)))), zL I A b) := m_things L xs 57 I b hm hB (by omega)
  have e3 : (3 : Int32) + nI c = nI (3 + c) := by rw [zl3, nI_add]
  have e10 : Int32.toInt64 (10 : Int32) - Int32.toInt64 (nI p) = lN (10 - p) := by rw [zL10, nI_l (by omega), lN_sub hp]
  have h0 : nI H + 0 = nI (H + 0) := by rw [zl0, nI_add]
  rw [B_Model_tears_156]
  cases ho : oO g c with
  | false =>
    rw [if_pos (by rfl), zr_64_5, zbS, f1, zbI]
    dsimp only
    cases ht : oT g c <;> cases x
    · rw [if_neg (fun q => q rfl), if_pos (show bI false = (0 : Int32) from rfl), zr_64_5, zbS, e3, f2, zbI]
      dsimp only
      rw [m_obits hB c 58, zbI]
      dsimp only
      rw [zL1, lN_mul, nI_add, nI_1]
      unfold mf
      simp only [ho, ht]
      exact ⟨_, _, _, rfl⟩
    · rw [if_pos (by decide), if_neg (by decide), zL0, lN_mul, h0, nI_1]
      unfold mf
      simp only [ho, ht]
      exact ⟨_, _, _, rfl⟩
    · rw [if_pos (by decide), if_pos (show bI false = (0 : Int32) from rfl), zr_64_5, zbS, e3, f2, zbI]
      dsimp only
      rw [m_obits hB c 58, zbI]
      dsimp only
      rw [zL0, lN_mul, nI_add, nI_1]
      unfold mf
      simp only [ho, ht]
      exact ⟨_, _, _, rfl⟩
    · rw [if_neg (fun q => q rfl), if_neg (by decide), zL1, lN_mul, h0, nI_1]
      unfold mf
      simp only [ho, ht]
      exact ⟨_, _, _, rfl⟩
  | true =>
    rw [if_neg (by decide)]
    cases x
    · rw [if_pos (show bI false = (0 : Int32) from rfl), if_pos (show bI false = (0 : Int32) from rfl), zr_64_5, zbS, e3, f2, zbI]
      dsimp only
      rw [m_obits hB c 58, zbI]
      dsimp only
      rw [e10, lN_mul, nI_add, nI_1]
      unfold mf
      simp only [ho]
      exact ⟨_, _, _, rfl⟩
    · rw [if_neg (by decide), if_neg (by decide), nI_l (by omega), lN_mul, h0, nI_1]
      unfold mf
      simp only [ho]
      exact ⟨_, _, _, rfl⟩
theorem m_tin (hm : mR A 68 g) (hB : gB g) (hp : p ≤ 10) (hs : s < 8) (i1 i3 : Int32) (j5 j7 : Int64) (y6 y8 y11 y14 y15 : Option Value) : ∀ c, c ≤ g 0 → ∃ y11' y14' y15', zE L xs 59 K_Model_tears 96 [some (.ref 64), some (.int i1), some (.int (nI p)), some (.int i3), some (.int (nI (gbroken g) ^^^ (-1 : Int32))), some (.long j5), y6, some (.long j7), y8, some (.int (nI s)), some (.long (lN 1)), y11, some (.int (0 : Int32)), some (.int (0 : Int32)), y14, y15] [] (zL I A b) = zE L xs 59 K_Model_tears 96 [some (.ref 64), some (.int i1), some (.int (nI p)), some (.int i3), some (.int (nI (gbroken g) ^^^ (-1 : Int32))), some (.long j5), y6, some (.long j7), y8, some (.int (nI s)), some (.long (lN (zP (fun c => mf g p c (s.testBit c)) c))), y11', some (.int (nI (mhome g s c))), some (.int (nI c)), y14', y15'] [] (zL I A b) := by
  have h3 := hB.2.1
  intro c
  induction c with
  | zero => intro _; exact ⟨y11, y14, y15, rfl⟩
  | succ c ih =>
    intro hcn
    obtain ⟨z11, z14, z15, e⟩ := ih (by omega)
    have f1 : pm_call L xs 59 m_Model_isTorn [.ref 68, .int (nI c)] (zL I A b) = some (some (.int (bI (oT g c))), zL I A b) := by
      rw [m_isTorn L xs 56 I b hm hB (show c < 2 ^ 30 by omega)]
      unfold bI oT
      by_cases q : g 1 < gweighs g c
      · simp [q]
      · simp [q]
    have f2 : pm_call L xs 59 m_Model_things [.ref 68, .int (nI (3 + c))] (zL I A b) = some (some (.int (nI (gset g (3 + c)))), zL I A b) := m_things L xs 57 I b hm hB (by omega)
    have e3 : (3 : Int32) + nI c = nI (3 + c) := by rw [zl3, nI_add]
    have hgl := gset_lt hB (3 + c)
    obtain ⟨w11, w14, w15, e2⟩ := m_tfac (L := L) (xs := xs) (I := I) (b := b) hm hB hp (show c < g 0 by omega) (s.testBit c) i1 i3 j5 j7 (zP (fun c => mf g p c (s.testBit c)) c) (mhome g s c) s y6 y8 z11 z15
    refine ⟨w11, w14, w15, ?_⟩
    rw [show zP (fun c => mf g p c (s.testBit c)) (c + 1) = zP (fun c => mf g p c (s.testBit c)) c * mf g p c (s.testBit c) from rfl, show mhome g s (c + 1) = mhome g s c + (if s.testBit c = true then 0 else mh1 g c) from rfl, ← e2, e, B_Model_tears_96, zr_64_5, zbS, m_rd' I b hm zl0 (show 0 < 55 by decide), zbS, if_neg (nI_ge (by omega) (by omega)), zbit (show s < 2 ^ 31 by omega) (show c < 31 by omega)]
    by_cases c1 : s.testBit c = true
    · rw [ztest.mpr c1, if_neg (fun q => q rfl), zbS, e3, f2, zbI, c1]
      dsimp only
      by_cases c2 : gset g (3 + c) = 0
      · have : oO g c = false := by unfold oO; simp [c2]
        rw [c2, if_pos (show nI 0 = (0 : Int32) from rfl), this]
        rfl
      · rw [if_neg (nI_ne0 (by omega) (by omega)), zr_64_5, zbS, f1, zbI]
        dsimp only
        cases ht : oT g c
        · have : oO g c = true := by unfold oO; simp [c2, ht]
          rw [this, if_neg (fun q => q rfl)]
          rfl
        · have : oO g c = false := by unfold oO; simp [ht]
          rw [this, if_pos (by decide)]
          rfl
    · have c0 : s / 2 ^ c % 2 = 0 := by
        rcases Nat.mod_two_eq_zero_or_one (s / 2 ^ c) with q | q
        · exact q
        · exact absurd (ztest.mp q) c1
      have c1' : s.testBit c = false := by simpa using c1
      rw [c0, if_pos (by decide), zbS, e3, f2, zbI, c1']
      dsimp only
      by_cases c2 : gset g (3 + c) = 0
      · have : oO g c = false := by unfold oO; simp [c2]
        rw [c2, if_pos (show nI 0 = (0 : Int32) from rfl), this]
        rfl
      · rw [if_neg (nI_ne0 (by omega) (by omega)), zr_64_5, zbS, f1, zbI]
        dsimp only
        cases ht : oT g c
        · have : oO g c = true := by unfold oO; simp [c2, ht]
          rw [this, if_neg (fun q => q rfl)]
          rfl
        · have : oO g c = false := by unfold oO; simp [ht]
          rw [this, if_pos (by decide)]
          rfl
theorem m_gcd (i1 i2 i3 i4 : Int32) (a m : Nat) (ha : a < 2 ^ 31) (hm : m < 2 ^ 31) : ∀ y x, y < 2 ^ 31 → x < 2 ^ 31 → 0 < Nat.gcd x y → ∀ y6 y8 y10 y12 y13 y14 y15, zE L xs 59 K_Model_tears 281 [some (.ref 64), some (.int i1), some (.int i2), some (.int i3), some (.int i4), some (.long (lN a)), y6, some (.long (lN m)), y8, some (.long (lN x)), y10, some (.long (lN y)), y12, y13, y14, y15] [] (zL I A b) = some (some (.long (if ¬ i3 = 0 then lN (m / Nat.gcd x y) else lN (a / Nat.gcd x y))), zL I A b) := by
  intro y
  induction y using Nat.strongRecOn with
  | ind y ih =>
    intro x hy hx hg y6 y8 y10 y12 y13 y14 y15
    rw [B_Model_tears_281, B_Model_tears_285]
    by_cases c1 : y = 0
    · subst c1
      rw [Nat.gcd_zero_right] at hg ⊢
      have hx0 : ¬ lN x = (0 : Int64) := by rw [show (0 : Int64) = lN 0 from by decide, lN_eq hx (by decide)]; omega
      rw [if_pos (by rw [zcmp0 (by decide)]), if_neg hx0, if_neg hx0]
      by_cases c2 : ¬ i3 = 0
      · rw [if_pos c2, if_pos c2, B_Model_tears_320, pk_lDiv (by omega) hg (by omega)]
      · rw [if_neg c2, if_neg c2, B_Model_tears_320, pk_lDiv (by omega) hg (by omega)]
    · have hml := Nat.mod_lt x (show 0 < y by omega)
      rw [if_neg (by rw [zcmp0 hy]; exact c1), if_neg (by rw [show (0 : Int64) = lN 0 from by decide, lN_eq hy (by decide)]; exact c1), B_Model_tears_293, pk_lRem (by omega) (by omega) (by omega)]
      have e : Nat.gcd x y = Nat.gcd y (x % y) := by rw [Nat.gcd_comm x y, Nat.gcd_rec, Nat.gcd_comm]
      rw [ih (x % y) hml y (by omega) hy (by rw [← e]; exact hg), e]
theorem P_tears (h : Rel B I A) (u v w : Int32) : zOkJ L xs B m_Eggs_tears m_Model_tears [.int u, .int v, .int w] I A b := by
  have hw := h
  obtain ⟨g, -, -, -, -, hS, -, -⟩ := hw
  obtain ⟨hc, hm, hI⟩ := hS
  have hB := hI.1
  have h7 := hB.1
  have h3 := hB.2.1
  have hres : Rel B (zuI I 64 0 0) A := h.same (zSame.fI 64 0 0 rfl)
  by_cases h0 : 0 < g 0
  · by_cases hok : (0 ≤ u ∧ u ≤ 7) ∧ (0 ≤ v ∧ v ≤ 10) ∧ (0 ≤ w ∧ w ≤ 1)
    · obtain ⟨hu, hv, hww⟩ := hok
      obtain ⟨k, hk, rfl⟩ := zmm (k := 7) (by decide) hu.1 (by rw [← zl7]; exact hu.2)
      obtain ⟨p, hp, rfl⟩ := zmm (k := 10) (by decide) hv.1 (by rw [← zl10]; exact hv.2)
      have n1 : ¬ nI k < 0 := nI_pos (by omega)
      have n2 : ¬ 7 < nI k := by rw [zl7]; exact nI_nlt hk (by decide)
      have n3 : ¬ nI p < 0 := nI_pos (by omega)
      have n4 : ¬ 10 < nI p := by rw [zl10]; exact nI_nlt hp (by decide)
      have n5 : ¬ w < 0 := by have := hww.1; rw [fa_le] at this; rw [fa_lt]; omega
      have hg : ∀ t, t < g 3 → gp g t < 3 + g 0 := fun t ht => (hI.2.2.2.2.2.1 t ht).2.2.1
      have hod := odds_eq (g := g) (p := p) (n := g 0) (k := k) hp hg ⟨h0, h3⟩
      obtain ⟨M, hM⟩ : ∃ M, M = zP (omp g) (g 0) := ⟨_, rfl⟩
      obtain ⟨X, hX⟩ : ∃ X, X = mabove g k p (g 0) := ⟨_, rfl⟩
      have hXM : X ≤ M := by rw [hX, hM]; exact mabove_le hp k
      have hM10 : M * zP (okp g) (g 0) = 10 ^ g 0 := by rw [hM]; exact omk _
      have h10 := z10n h3
      have h10p : 0 < 10 ^ g 0 := Nat.pos_of_ne_zero (by simp)
      have hMp : 0 < M := Nat.pos_of_ne_zero (fun e => by rw [e, Nat.zero_mul] at hM10; omega)
      have hMl : M ≤ 1000 := by
        have hK : 0 < zP (okp g) (g 0) := Nat.pos_of_ne_zero (fun e => by rw [e, Nat.mul_zero] at hM10; omega)
        have := Nat.le_mul_of_pos_right M hK
        omega
      have h8 := z2n h3
      rw [← hX, ← hM] at hod
      refine ⟨if ¬ w = 0 then lN (M / Nat.gcd X M) else lN (X / Nat.gcd X M), I, A, zuI I 64 0 0, A, b, ?_, ?_, hres⟩
      · rw [D_Eggs_tears, B_Eggs_tears_0, zr_0_2, zbS, c_stands L xs 58 b hc hB, zbI]
        dsimp only
        rw [if_pos h0, if_pos (by decide), if_neg n1, if_neg n2, if_neg n3, if_neg n4, if_neg n5, if_pos hww.2, zr_0_2, zbS, c_part hc hB hg hp hk w 53, zbJ, hod]
      · rw [D_Model_tears, B_Model_tears_0, zp_64_0, zbS, m_isThere L xs 58 _ b hm hB, zbI]
        dsimp only
        rw [if_pos h0, if_pos (by decide), m_in, zbI]
        dsimp only
        rw [if_pos hu, if_neg (by decide), m_in, zbI]
        dsimp only
        rw [if_pos hv, if_neg (by decide), m_in, zbI]
        dsimp only
        rw [if_pos hww, if_pos (by decide), zr_64_5, zbS, m_broken L xs 57 _ b hm hB, zbI]
        dsimp only
        rw [zL0]
        have key : ∀ s, s ≤ 2 ^ g 0 → ∃ y6 y8 y10 y11 y12 y13 y14 y15, zE L xs 59 K_Model_tears 74 [some (.ref 64), some (.int (nI k)), some (.int (nI p)), some (.int w), some (.int (nI (gbroken g) ^^^ (-1 : Int32))), some (.long (lN 0)), none, some (.long (lN 0)), none, some (.int (0 : Int32)), none, none, none, none, none, none] [] (zL (zuI I 64 0 0) A b) = zE L xs 59 K_Model_tears 74 [some (.ref 64), some (.int (nI k)), some (.int (nI p)), some (.int w), some (.int (nI (gbroken g) ^^^ (-1 : Int32))), some (.long (lN (zS (fun s => if k ≤ mhome g s (g 0) then zP (fun c => mf g p c (s.testBit c)) (g 0) else 0) s))), y6, some (.long (lN (zS (fun s => zP (fun c => mf g p c (s.testBit c)) (g 0)) s))), y8, some (.int (nI s)), y10, y11, y12, y13, y14, y15] [] (zL (zuI I 64 0 0) A b) := by
          intro s
          induction s with
          | zero => intro _; exact ⟨_, _, _, _, _, _, _, _, rfl⟩
          | succ s ih =>
            intro hs
            obtain ⟨y6, y8, y10, y11, y12, y13, y14, y15, e⟩ := ih (by omega)
            obtain ⟨z11, z14, z15, e2⟩ := m_tin (L := L) (xs := xs) (I := zuI I 64 0 0) (b := b) (s := s) hm hB hp (by omega) (nI k) w (lN (zS (fun s => if k ≤ mhome g s (g 0) then zP (fun c => mf g p c (s.testBit c)) (g 0) else 0) s)) (lN (zS (fun s => zP (fun c => mf g p c (s.testBit c)) (g 0)) s)) y6 y8 none y14 y15 (g 0) (Nat.le_refl _)
            rw [e, B_Model_tears_74, zr_64_5, zbS, m_rd' _ b hm zl0 (show 0 < 55 by decide), zbS, zsh3 h3, if_neg (nI_ge (by omega) (by omega)), zL1, e2, B_Model_tears_96, zr_64_5, zbS, m_rd' _ b hm zl0 (show 0 < 55 by decide), zbS, if_pos (nI_le (Nat.le_refl _) (by omega)), zS_s, zS_s]
            have hml : mhome g s (g 0) < 2 ^ 31 := by
              have := zS_le (f := fun c => if s.testBit c = true then 0 else mh1 g c) (c := 7) (g 0) (fun c _ => by
                have : mh1 g c ≤ g 3 := zC_le _ _
                show (if s.testBit c = true then 0 else mh1 g c) ≤ 7
                split <;> omega)
              have e4 : mhome g s (g 0) ≤ g 0 * 7 := this
              omega
            by_cases c1 : k ≤ mhome g s (g 0)
            · rw [if_neg (nI_nlt c1 hml), if_pos c1, lN_add, lN_add, nI_1]
              exact ⟨_, _, _, _, _, _, _, _, rfl⟩
            · rw [if_pos (nI_lt (by omega) (by omega)), if_neg c1, zL0, lN_add, lN_add, nI_1]
              exact ⟨_, _, _, _, _, _, _, _, rfl⟩
        obtain ⟨y6, y8, y10, y11, y12, y13, y14, y15, e⟩ := key (2 ^ g 0) (Nat.le_refl _)
        rw [e, B_Model_tears_74, zr_64_5, zbS, m_rd' _ b hm zl0 (show 0 < 55 by decide), zbS, zsh3 h3, if_pos (nI_le (Nat.le_refl _) (by omega)), oall hp, ← hM, show zS (fun s => if k ≤ mhome g s (g 0) then zP (fun c => mf g p c (s.testBit c)) (g 0) else 0) (2 ^ g 0) = X from hX.symm, m_gcd _ _ _ _ X M (by omega) (by omega) M X (by omega) (by omega) (Nat.gcd_pos_of_pos_right _ hMp)]
    · refine ⟨Int32.toInt64 (-1000001), I, A, zuI I 64 0 0, A, b, ?_, ?_, hres⟩
      · rw [D_Eggs_tears, B_Eggs_tears_0, zr_0_2, zbS, c_stands L xs 58 b hc hB, zbI]
        dsimp only
        rw [if_pos h0, if_pos (by decide)]
        by_cases n1 : u < 0
        · rw [if_pos n1]
        · by_cases n2 : 7 < u
          · rw [if_neg n1, if_pos n2]
          · by_cases n3 : v < 0
            · rw [if_neg n1, if_neg n2, if_pos n3]
            · by_cases n4 : 10 < v
              · rw [if_neg n1, if_neg n2, if_neg n3, if_pos n4]
              · by_cases n5 : w < 0
                · rw [if_neg n1, if_neg n2, if_neg n3, if_neg n4, if_pos n5]
                · rw [if_neg n1, if_neg n2, if_neg n3, if_neg n4, if_neg n5, if_neg]
                  intro n6
                  exact hok ⟨⟨fa_of_nlt n1, fa_of_nlt n2⟩, ⟨fa_of_nlt n3, fa_of_nlt n4⟩, fa_of_nlt n5, n6⟩
      · rw [D_Model_tears, B_Model_tears_0, zp_64_0, zbS, m_isThere L xs 58 _ b hm hB, zbI]
        dsimp only
        rw [if_pos h0, if_pos (by decide), m_in, zbI]
        dsimp only
        by_cases q1 : 0 ≤ u ∧ u ≤ 7
        · rw [if_pos q1, if_neg (by decide), m_in, zbI]
          dsimp only
          by_cases q2 : 0 ≤ v ∧ v ≤ 10
          · rw [if_pos q2, if_neg (by decide), m_in, zbI]
            dsimp only
            rw [if_neg (fun q3 => hok ⟨q1, q2, q3⟩), if_neg (by decide)]
          · rw [if_neg q2, if_pos rfl]
        · rw [if_neg q1, if_pos rfl]
  · refine ⟨Int32.toInt64 (-1000002), I, A, zuI I 64 0 0, A, b, ?_, ?_, hres⟩
    · rw [D_Eggs_tears, B_Eggs_tears_0, zr_0_2, zbS, c_stands L xs 58 b hc hB, zbI]
      dsimp only
      rw [if_neg h0, if_neg (by decide)]
    · rw [D_Model_tears, B_Model_tears_0, zp_64_0, zbS, m_isThere L xs 58 _ b hm hB, zbI]
      dsimp only
      rw [if_neg h0, if_neg (by decide)]
end
