/-! stand, spare, beside, even, trace, count, as -/
theorem zandn (a c : Nat) : nI a &&& (nI c ^^^ (-1 : Int32)) = nI (a ^^^ (a &&& c)) := by
  apply Int32.toBitVec_inj.1
  show BitVec.ofNat 32 a &&& (BitVec.ofNat 32 c ^^^ (-1 : Int32).toBitVec) = BitVec.ofNat 32 (a ^^^ (a &&& c))
  have e : (-1 : Int32).toBitVec = BitVec.allOnes 32 := by decide
  rw [e]
  apply BitVec.eq_of_getLsbD_eq
  intro i hi
  rw [BitVec.getLsbD_and, BitVec.getLsbD_xor, BitVec.getLsbD_ofNat, BitVec.getLsbD_ofNat, BitVec.getLsbD_ofNat, BitVec.getLsbD_allOnes, Nat.testBit_xor, Nat.testBit_and]
  simp only [hi, decide_true, Bool.true_and]
  cases a.testBit i <;> cases c.testBit i <;> rfl
theorem zB_s (P : Nat → Bool) (k : Nat) : zB P (k + 1) = zB P k + (if P k then 2 ^ k else 0) := rfl
section
variable {L : Nat} {xs : Nat → Int32} {B : Nat} {I A : Nat → Nat → Int32} {b : Value}
theorem P_stand (h : Rel B I A) (w : Int32) : zOk L xs B m_Eggs_stand m_Model_stand [.int w] I A b := by
  have hw := h
  obtain ⟨g, -, -, -, -, ⟨hc, hm, hB, hD, -⟩, -⟩ := hw
  have hn := hB.1
  by_cases h1 : 0 < g 0
  · refine zOk.pure (r := if w = 0 then nI (gset g 0) else if w = 1 then nI (gset g 1) else if w = 2 then nI (gset g 2) else if w = 3 then nI (gbroken g) else if w = 4 then nI (zB (gwarm g) (g 3)) else if w = 5 then zopt (gfirst g 0 (g 3)) else if w = 6 then zopt (gtop g 1 (g 3)) else -1000001) h ?_ ?_
    · rw [D_Eggs_stand, B_Eggs_stand_0]
      have e0 : ghigh g 0 = gfirst g 0 (g 3) := if_pos rfl
      have e1 : ghigh g 1 = gtop g 1 (g 3) := if_neg (by decide)
      simp only [zr_0_2, zbS, c_stands L xs 58 b hc hB, zbI, h1, if_true, c_bitsAt' L xs 58 b hc hB zl0 (by decide), c_bitsAt' L xs 58 b hc hB zl1 (by decide), c_bitsAt' L xs 58 b hc hB zl2 (by decide), hc.crushed, c_warmBits L xs 57 b hc hB, c_topOf' L xs 56 b hc hB hD zl0 (by decide) (by decide), c_topOf' L xs 56 b hc hB hD zl1 (by decide) (by decide), e0, e1]
      rw [if_pos (by decide)]
      by_cases c0 : w = 0
      · simp [c0]
      by_cases c1 : w = 1
      · simp [c1]
      by_cases c2 : w = 2
      · simp [c2]
      by_cases c3 : w = 3
      · simp [c3]
      by_cases c4 : w = 4
      · simp [c4]
      by_cases c5 : w = 5
      · simp [c5]
      by_cases c6 : w = 6
      · simp [c6]
      simp [c0, c1, c2, c3, c4, c5, c6]
    · rw [D_Model_stand, B_Model_stand_0]
      simp only [zp_64_0, zbS, m_isThere L xs 58 _ b hm hB, zbI, h1, if_true]
      rw [if_pos (by decide)]
      refine (zloop (fun k a => zE L xs 59 K_Model_stand 19 [some (.ref 64), some (.int w), some (.int a), some (.int k)] [] (zL (zuI I 64 0 0) A b)) (fun t a => if gwarm g t = true then a ||| ((1 : Int32) <<< (nI t &&& 31)) else a) (g 3) (fun a => some (some (.int (if w = 0 then nI (gset g 0) else if w = 1 then nI (gset g 1) else if w = 2 then nI (gset g 2) else if w = 3 then nI (gbroken g) else if w = 4 then a else if w = 5 then zopt (gfirst g 0 (g 3)) else if w = 6 then zopt (gtop g 1 (g 3)) else -1000001)), zL (zuI I 64 0 0) A b)) (fun t a ht => ?_) (fun a => ?_) 0).trans ?_
      · rw [B_Model_stand_19]
        simp only [zr_64_5, zbS, m_rd' _ b hm zl3 (show 3 < 55 by decide), m_isWarm L xs 57 _ b hm hB (show t < 7 by omega), zbI, zne]
        rw [if_neg (nI_ge ht (gbl hB 3))]
        cases hw : gwarm g t with
        | true => simp
        | false => simp [zor0]
      · rw [B_Model_stand_19]
        simp only [zr_64_5, zbS, m_rd' _ b hm zl3 (show 3 < 55 by decide)]
        rw [if_pos (nI_le (Nat.le_refl _) (gbl hB 3))]
        by_cases c0 : w = 0
        · subst c0
          simp only [m_things' L xs 57 _ b hm hB zl0 (by decide), zbI]
          simp
        by_cases c1 : w = 1
        · subst c1
          simp only [m_things' L xs 57 _ b hm hB zl1 (by decide), zbI]
          simp
        by_cases c2 : w = 2
        · subst c2
          simp only [m_things' L xs 57 _ b hm hB zl2 (by decide), zbI]
          simp
        simp only [c0, c1, c2, if_false, m_broken L xs 57 _ b hm hB, m_firstOf' L xs 57 _ b hm hB zl0 (by decide), m_topOf' L xs 57 _ b hm hB zl1 (by decide), zbI]
        by_cases c3 : w = 3
        · simp [c3]
        by_cases c4 : w = 4
        · simp [c4]
        by_cases c5 : w = 5
        · simp [c5]
        by_cases c6 : w = 6
        · simp [c6]
        simp [c3, c4, c5, c6]
      · rw [zl0, zF_bits (gwarm g) _ _ (by omega) (fun k a _ => rfl)]
  · refine zOk.pure (r := -1000002) h ?_ ?_
    · rw [D_Eggs_stand, B_Eggs_stand_0]
      simp only [zr_0_2, zbS, c_stands L xs 58 b hc hB, zbI, zne, h1, not_true_eq_false, not_false_eq_true, if_false]
    · rw [D_Model_stand, B_Model_stand_0]
      simp only [zp_64_0, zbS, m_isThere L xs 58 _ b hm hB, zbI, zne, h1, not_true_eq_false, not_false_eq_true, if_false]
theorem P_spare (h : Rel B I A) (v : Int32) : zOk L xs B m_Eggs_spare m_Model_spare [.int v] I A b := by
  have hw := h
  obtain ⟨g, -, -, -, -, ⟨hc, hm, hB, hD, hU, hO, h5, hk, -⟩, -⟩ := hw
  have hn := hB.1
  by_cases h1 : 0 ≤ v.toInt ∧ v.toInt < (g 3 : Int)
  · obtain ⟨t, ht, rfl⟩ := zth h1
    have ht7 : t < 7 := by omega
    have e0 : ((3 : Int32) ≤ nI (gp g t)) = (3 ≤ gp g t) := by rw [zl3]; exact znL (by decide) (gbl hB _)
    have e5 : (nI (gc g t) = (1 : Int32)) = (gc g t = 1) := by rw [zl1]; exact znI (gbl hB _) (by decide)
    have hl := zgload_lt hB t
    have hb := zgbears_le (g := g) t
    refine zOk.pure (r := if 3 ≤ gp g t then (if gc g t = 1 then 0 else nI (gbears g t) - nI (gload g t)) else -1000002) h ?_ ?_
    · rw [D_Eggs_spare, B_Eggs_spare_0]
      simp only [zr_0_2, zbS, c_hasThing L xs 58 b hc hB, zbI, h1, and_self, if_true, zSr4 hc.1, hc.place hB b ht, e0, c_isCrushed L xs 58 b hc hB ht, zne, c_bearsOf L xs 57 b hc hB ht, c_loadOn L xs 57 b hc hB ht]
      rw [if_pos (by decide)]
      by_cases c : 3 ≤ gp g t
      · by_cases c2 : gc g t = 1
        · simp [c, c2]
        · simp [c, c2]
      · simp [c]
    · rw [D_Model_spare, B_Model_spare_0]
      simp only [zp_64_0, zbS, m_isThing L xs 57 _ b hm hB, zbI, h1, and_self, if_true, zr_64_5, m_of' L xs 58 _ b hm zl3 ht7 (show 3 < 7 by decide), m_of' L xs 58 _ b hm zl5 ht7 (show 5 < 7 by decide), m_loadOf L xs 56 _ b hm hB ht7, m_bears L xs 57 _ b hm hB ht7, e0, e5]
      rw [if_pos (by decide)]
      by_cases c : 3 ≤ gp g t
      · by_cases c2 : gc g t = 1
        · simp [c, c2]
        · have c3 : gload g t ≤ gbears g t := by
            refine Nat.le_of_not_lt (fun q => c2 (hO t ht q))
          have c4 : 0 ≤ nI (gbears g t) - nI (gload g t) := by
            rw [pk_sub c3]
            exact nI_pos' (by omega)
          simp [c, c2, c4]
      · simp [c]
  · refine zOk.pure (r := -1000001) h ?_ ?_
    · rw [D_Eggs_spare, B_Eggs_spare_0]
      simp only [zr_0_2, zbS, c_hasThing L xs 58 b hc hB, zbI, zne, h1, not_false_eq_true, not_true_eq_false, if_false]
    · rw [D_Model_spare, B_Model_spare_0]
      simp only [zp_64_0, zbS, m_isThing L xs 57 _ b hm hB, zbI, zne, h1, not_false_eq_true, not_true_eq_false, if_false]
theorem c_bitsBelow {g : Nat → Nat} (hc : cR I A 15 g) (hB : gB g) (hD : gD g) {t : Nat} (ht : t < g 3) (h3 : 3 ≤ gp g t) (d : Nat) : pm_call L xs (d + 2) m_Shop_bitsBelow [.ref 15, .int (nI t)] (zL I A b) = some (some (.int (nI (zB (fun u => gab g t u) (g 3)))), zL I A b) := by
  have hn := hB.1
  rw [D_Shop_bitsBelow hc.1, B_Shop_bitsBelow_0]
  simp only [zSr4 hc.1, zbS, hc.place hB b ht, c_bitsAt L xs d b hc hB (gbl hB _), zbI, c_bitsAbove L xs d b hc hB ht h3, zandn, zsh (show t < 31 by omega)]
  refine congrArg (fun z => some (some (Value.int (nI z)), zL I A b)) ?_
  apply Nat.eq_of_testBit_eq
  intro u
  unfold gset
  simp only [Nat.testBit_xor, Nat.testBit_and, ztb, Nat.testBit_two_pow]
  by_cases hu : u < g 3
  · by_cases c1 : gp g u = gp g t
    · by_cases c2 : t = u
      · subst c2
        simp [ht, gab]
      · have hne : go g t ≠ go g u := fun q => c2 (hD t u ht hu q)
        have e : decide (go g t < go g u) = !decide (go g u < go g t) := by
          by_cases c : go g t < go g u
          · simp [c]; omega
          · simp [c]; omega
        simp [hu, gab, c1, c2]
        cases hx : decide (go g t < go g u) <;> rw [e] at hx <;> simp at hx <;> simp <;> omega
    · simp [hu, gab, c1]
      exact fun q => absurd q.symm c1
  · simp [hu]
theorem P_beside (h : Rel B I A) (v w : Int32) : zOk L xs B m_Eggs_beside m_Model_beside [.int v, .int w] I A b := by
  have hw := h
  obtain ⟨g, -, -, -, -, ⟨hc, hm, hB, hD, hU, hO, h5, hk, -⟩, -⟩ := hw
  have hn := hB.1
  by_cases h1 : 0 ≤ v.toInt ∧ v.toInt < (g 3 : Int)
  · obtain ⟨t, ht, rfl⟩ := zth h1
    have ht7 : t < 7 := by omega
    by_cases h2 : 0 ≤ w ∧ w ≤ 1
    · have e0 : ((3 : Int32) ≤ nI (gp g t)) = (3 ≤ gp g t) := by rw [zl3]; exact znL (by decide) (gbl hB _)
      have e1 : (nI (gp g t) < (3 : Int32)) = ¬ (3 ≤ gp g t) := by rw [zl3, znT (gbl hB _) (by decide)]; simp
      have e2 : ¬ w < 0 := by have := h2.1; rw [fa_le] at this; rw [fa_lt]; omega
      refine zOk.pure (r := nI (zB (fun u => decide (3 ≤ gp g t) && (if w = 1 then gab g u t else gab g t u)) (g 3))) h ?_ ?_
      · rw [D_Eggs_beside, B_Eggs_beside_0]
        simp only [zr_0_2, zbS, c_hasThing L xs 58 b hc hB, zbI, h1, and_self, if_true, zSr4 hc.1, hc.place hB b ht, e0, e2, if_false, h2.2]
        rw [if_neg (by decide)]
        by_cases c : 3 ≤ gp g t
        · simp only [c, if_true, c_bitsAbove L xs 58 b hc hB ht c, c_bitsBelow hc hB hD ht c 57, zbI]
          by_cases c1 : w = 1
          · simp [c1]
          · simp [c1]
        · have : zB (fun u => decide (3 ≤ gp g t) && (if w = 1 then gab g u t else gab g t u)) (g 3) = 0 := by
            rw [zB_congr (Q := fun _ => false) (g 3) (fun k _ => by simp [c])]
            have : ∀ n, zB (fun _ => false) n = 0 := by
              intro n
              induction n with
              | zero => rfl
              | succ n ih => unfold zB; rw [ih]; rfl
            exact this _
          rw [this]
          simp only [c, if_false]
          rfl
      · rw [D_Model_beside, B_Model_beside_0]
        simp only [zp_64_0, zbS, m_isThing L xs 57 _ b hm hB, zbI, h1, and_self, if_true, m_in L xs, h2]
        rw [if_neg (by decide), if_pos (by decide)]
        have key : ∀ k, k ≤ g 3 → ∃ y, zE L xs 59 K_Model_beside 31 [some (.ref 64), some (.int (nI t)), some (.int w), some (.int 0), some (.int 0), none] [] (zL (zuI I 64 0 0) A b) = zE L xs 59 K_Model_beside 31 [some (.ref 64), some (.int (nI t)), some (.int w), some (.int (nI (zB (fun u => decide (3 ≤ gp g t) && (if w = 1 then gab g u t else gab g t u)) k))), some (.int (nI k)), y] [] (zL (zuI I 64 0 0) A b) := by
          intro k
          induction k with
          | zero => intro _; exact ⟨none, rfl⟩
          | succ k ih =>
            intro hk2
            obtain ⟨y, e⟩ := ih (by omega)
            have hk7 : k < 7 := by omega
            have hlt := zB_lt (fun u => decide (3 ≤ gp g t) && (if w = 1 then gab g u t else gab g t u)) k
            rw [e, B_Model_beside_31]
            simp only [zr_64_5, zbS, m_rd' _ b hm zl3 (show 3 < 55 by decide), m_isAbove L xs 57 _ b hm hB hk7 ht7, m_isAbove L xs 57 _ b hm hB ht7 hk7, zbI, m_of' L xs 58 _ b hm zl3 ht7 (show 3 < 7 by decide), e1, zne]
            rw [if_neg (nI_ge (show k < g 3 by omega) (gbl hB 3))]
            rw [zB_s]
            by_cases c1 : w = 1
            · rw [if_neg (fun q => q c1)]
              by_cases c : 3 ≤ gp g t
              · cases c2 : gab g k t with
                | true => exact ⟨some (.int 1), by simp [c, c1, c2, nI_1]; rw [zor (zB_lt _ k) (show k < 31 by omega)]⟩
                | false => exact ⟨some (.int 0), by simp [c, c1, c2, zor0, nI_1]⟩
              · exact ⟨_, by simp only [c, not_false_eq_true, if_true, zor0, nI_1]; simp [c]; rfl⟩
            · rw [if_pos c1]
              by_cases c : 3 ≤ gp g t
              · cases c2 : gab g t k with
                | true => exact ⟨some (.int 1), by simp [c, c1, c2, nI_1]; rw [zor (zB_lt _ k) (show k < 31 by omega)]⟩
                | false => exact ⟨some (.int 0), by simp [c, c1, c2, zor0, nI_1]⟩
              · exact ⟨_, by simp only [c, not_false_eq_true, if_true, zor0, nI_1]; simp [c]; rfl⟩
        obtain ⟨y, e⟩ := key (g 3) (Nat.le_refl _)
        rw [e, B_Model_beside_31]
        simp only [zr_64_5, zbS, m_rd' _ b hm zl3 (show 3 < 55 by decide)]
        rw [if_pos (nI_le (Nat.le_refl _) (gbl hB 3))]
    · refine zOk.pure (r := -1000001) h ?_ ?_
      · rw [D_Eggs_beside, B_Eggs_beside_0]
        simp only [zr_0_2, zbS, c_hasThing L xs 58 b hc hB, zbI, h1, and_self, if_true]
        rw [if_neg (by decide)]
        by_cases c : w < 0
        · rw [if_pos c]
        · rw [if_neg c, if_neg (fun q => h2 ⟨fa_of_nlt c, q⟩)]
      · rw [D_Model_beside, B_Model_beside_0]
        simp only [zp_64_0, zbS, m_isThing L xs 57 _ b hm hB, zbI, h1, and_self, if_true, m_in L xs, h2, if_false]
        rw [if_neg (by decide), if_neg (by decide)]
  · refine zOk.pure (r := -1000001) h ?_ ?_
    · rw [D_Eggs_beside, B_Eggs_beside_0]
      simp only [zr_0_2, zbS, c_hasThing L xs 58 b hc hB, zbI, zne, h1, not_false_eq_true, if_true]
    · rw [D_Model_beside, B_Model_beside_0]
      simp only [zp_64_0, zbS, m_isThing L xs 57 _ b hm hB, zbI, zne, h1, not_false_eq_true, if_true]
theorem P_trace (h : Rel B I A) (v : Int32) : zOk L xs B m_Eggs_trace m_Model_trace [.int v] I A b := by
  have hw := h
  obtain ⟨g, -, -, ⟨n, hn, t1, t2, t3⟩, -⟩ := hw
  have e29 : zuI I 64 0 0 64 29 = nI n := by rw [zuI_n (by decide), t2]
  by_cases h1 : 0 ≤ v.toInt ∧ v.toInt < (n : Int)
  · obtain ⟨t, ht, rfl⟩ := zth h1
    refine zOk.pure (r := A 63 t) h ?_ ?_
    · rw [D_Eggs_trace, B_Eggs_trace_0]
      simp only [zr_0_8, zbS, D_Asks_traced, B_Asks_traced_0, zg_62_1, t1, zr_62_0, z_rd za_63 (show t < 16 by omega)]
      rw [if_neg (nI_pos (by omega)), if_neg (nI_ge ht (by omega)), zbI]
    · rw [D_Model_trace, B_Model_trace_0]
      simp only [zp_64_0, zbS, zg_64_29, e29, m_in L xs, zin (show n < 2 ^ 20 by omega), h1, and_self, if_true, zbI, zr_64_28, z_rd za_78 (show t < 16 by omega), t3 t ht]
      rw [if_neg (by decide)]
  · refine zOk.pure (r := -1000000) h ?_ ?_
    · rw [D_Eggs_trace, B_Eggs_trace_0]
      simp only [zr_0_8, zbS, D_Asks_traced, B_Asks_traced_0, zg_62_1, t1, zr_62_0]
      by_cases c : v < 0
      · rw [if_pos c, zbI]
      · have c2 : nI n ≤ v := by
          rw [fa_lt, show (0 : Int32).toInt = 0 by decide] at c
          rw [fa_le, nI_toInt (by omega)]
          omega
        rw [if_neg c, if_pos c2, zbI]
    · rw [D_Model_trace, B_Model_trace_0]
      simp only [zp_64_0, zbS, zg_64_29, e29, m_in L xs, zin (show n < 2 ^ 20 by omega), h1, if_false, zbI, if_true]
/-- the least of f 0, f 1 .. and a start -/
def zmn (f : Nat → Nat) (s : Nat) : Nat → Nat
  | 0 => s
  | n + 1 => if f n < zmn f s n then f n else zmn f s n
theorem zmn_le (f : Nat → Nat) (s : Nat) : ∀ n, zmn f s n ≤ s
  | 0 => Nat.le_refl _
  | n + 1 => by
    have := zmn_le f s n
    unfold zmn
    split <;> omega
theorem zmn_2 (f : Nat → Nat) (s1 s2 : Nat) (h1 : f 0 ≤ s1) (h2 : f 0 ≤ s2) : ∀ n, zmn f s1 (n + 1) = zmn f s2 (n + 1)
  | 0 => by
    show (if f 0 < s1 then f 0 else s1) = if f 0 < s2 then f 0 else s2
    split <;> split <;> omega
  | n + 1 => by
    have ih := zmn_2 f s1 s2 h1 h2 n
    show (if f (n + 1) < zmn f s1 (n + 1) then f (n + 1) else zmn f s1 (n + 1)) = if f (n + 1) < zmn f s2 (n + 1) then f (n + 1) else zmn f s2 (n + 1)
    rw [ih]
theorem gmost_ge (g : Nat → Nat) : ∀ n k, k < n → gweighs g k ≤ gmost g n
  | 0, _, h => by omega
  | n + 1, k, h => by
    unfold gmost
    by_cases e : k = n
    · subst e; split <;> omega
    · have := gmost_ge g n k (by omega)
      split <;> omega
/-- seven THINGS weigh little -/
theorem zgw_140 {g : Nat → Nat} (h7 : g 3 ≤ 7) (hw : ∀ t, t < g 3 → gw g t ≤ 20) (c : Nat) : gweighs g c ≤ 140 := by
  have := zS_le (f := fun t => if gp g t = 3 + c then gw g t else 0) (c := 20) (g 3) (fun t ht => by
    have := hw t ht
    show (if gp g t = 3 + c then gw g t else 0) ≤ 20
    split <;> omega)
  have e : gweighs g c ≤ g 3 * 20 := this
  omega
theorem P_even (h : Rel B I A) : zOk L xs B m_Eggs_even m_Model_even [] I A b := by
  have hw := h
  obtain ⟨g, -, -, -, -, ⟨hc, hm, hI⟩, -⟩ := hw
  have hB := hI.1
  have hD := hI.2.1
  have hn := hB.2.1
  have hm1 := gmost_lt hB (g 0)
  by_cases h1 : 0 < g 0
  · refine zOk.pure (r := nI (gmost g (g 0)) - nI (zmn (gweighs g) (gmost g (g 0)) (g 0))) h ?_ ?_
    · rw [D_Eggs_even, B_Eggs_even_0]
      simp only [zr_0_2, zbS, c_stands L xs 58 b hc hB, zbI, h1, if_true, c_heaviest L xs 57 b hc hB, D_Shop_lightest hc.1, B_Shop_lightest_0]
      rw [if_neg (by decide)]
      have key : ∀ k, k ≤ g 0 → zE L xs 58 K_Shop_lightest 5 [some (.ref 15), some (.int 1000000), some (.int 0)] [] (zL I A b) = zE L xs 58 K_Shop_lightest 5 [some (.ref 15), some (.int (nI (zmn (gweighs g) 1000000 k))), some (.int (nI k))] [] (zL I A b) := by
        intro k
        induction k with
        | zero => intro _; rfl
        | succ k ih =>
          intro hk
          have h2 := zgw_lt hB k
          have h3 := zmn_le (gweighs g) 1000000 k
          rw [ih (by omega), B_Shop_lightest_5]
          simp only [hc.bags, zbS, c_weighs L xs 57 b hc hB (show k < 2 ^ 30 by omega), zbI, znT (show gweighs g k < 2 ^ 31 by omega) (show zmn (gweighs g) 1000000 k < 2 ^ 31 by omega), nI_1]
          rw [if_neg (nI_ge (show k < g 0 by omega) (gbl hB 0))]
          by_cases c : gweighs g k < zmn (gweighs g) 1000000 k
          · rw [if_pos c, show zmn (gweighs g) 1000000 (k + 1) = gweighs g k from if_pos c]
          · rw [if_neg c, show zmn (gweighs g) 1000000 (k + 1) = zmn (gweighs g) 1000000 k from if_neg c]
      rw [key (g 0) (Nat.le_refl _), B_Shop_lightest_5]
      simp only [hc.bags, zbS]
      rw [if_pos (nI_le (Nat.le_refl _) (gbl hB 0)), zbI]
      obtain ⟨m, hm0⟩ : ∃ m, g 0 = m + 1 := ⟨g 0 - 1, by omega⟩
      have h0 := zgw_140 hB.1 (fun t ht => (hI.2.2.2.2.2.1 t ht).2.1.2) 0
      have e : zmn (gweighs g) 1000000 (g 0) = zmn (gweighs g) (gmost g (g 0)) (g 0) := by
        have := zmn_2 (gweighs g) 1000000 (gmost g (g 0)) (by omega) (gmost_ge g (g 0) 0 h1) m
        rw [← hm0] at this
        exact this
      rw [e]
    · rw [D_Model_even, B_Model_even_0]
      simp only [zp_64_0, zbS, m_isThere L xs 58 _ b hm hB, zbI, h1, if_true, zr_64_5, m_heaviest L xs 56 _ b hm hB]
      rw [if_pos (by decide)]
      have key : ∀ k, k ≤ g 0 → zE L xs 59 K_Model_even 25 [some (.ref 64), some (.int (nI (gmost g (g 0)))), some (.int 0)] [] (zL (zuI I 64 0 0) A b) = zE L xs 59 K_Model_even 25 [some (.ref 64), some (.int (nI (zmn (gweighs g) (gmost g (g 0)) k))), some (.int (nI k))] [] (zL (zuI I 64 0 0) A b) := by
        intro k
        induction k with
        | zero => intro _; rfl
        | succ k ih =>
          intro hk
          have h2 := zgw_lt hB k
          have h3 := zmn_le (gweighs g) (gmost g (g 0)) k
          rw [ih (by omega), B_Model_even_25]
          simp only [zr_64_5, zbS, m_rd' _ b hm zl0 (show 0 < 55 by decide), m_weighs L xs 57 _ b hm hB (show k < 2 ^ 30 by omega), zbI, znL (show zmn (gweighs g) (gmost g (g 0)) k < 2 ^ 31 by omega) (show gweighs g k < 2 ^ 31 by omega), nI_1]
          rw [if_neg (nI_ge (show k < g 0 by omega) (gbl hB 0))]
          by_cases c : gweighs g k < zmn (gweighs g) (gmost g (g 0)) k
          · rw [if_neg (by omega), show zmn (gweighs g) (gmost g (g 0)) (k + 1) = gweighs g k from if_pos c]
          · rw [if_pos (by omega), show zmn (gweighs g) (gmost g (g 0)) (k + 1) = zmn (gweighs g) (gmost g (g 0)) k from if_neg c]
      rw [key (g 0) (Nat.le_refl _), B_Model_even_25]
      simp only [zr_64_5, zbS, m_rd' _ b hm zl0 (show 0 < 55 by decide), m_heaviest L xs 56 _ b hm hB, zbI]
      rw [if_pos (nI_le (Nat.le_refl _) (gbl hB 0))]
  · refine zOk.pure (r := -1000002) h ?_ ?_
    · rw [D_Eggs_even, B_Eggs_even_0]
      simp only [zr_0_2, zbS, c_stands L xs 58 b hc hB, zbI, zne, h1, not_true_eq_false, not_false_eq_true, if_true]
    · rw [D_Model_even, B_Model_even_0]
      simp only [zp_64_0, zbS, m_isThere L xs 58 _ b hm hB, zbI, zne, h1, not_true_eq_false, not_false_eq_true, if_false]
theorem P_count (h : Rel B I A) (w : Int32) : zOk L xs B m_Eggs_count m_Model_count [.int w] I A b := by
  have hw := h
  obtain ⟨g, ⟨-, hR⟩, ⟨-, n, hn, t1, t2, -⟩, -, -, ⟨hc, hm, hB, -⟩, -, ⟨n2, o2, hs, a1, a2, a3, a4, a5, -⟩⟩ := hw
  have hn3 := hB.1
  have hbr : gbroken g < 128 := zB_128 _ hB.1
  refine zOk.pure (r := if w = 0 then nI (zC (fun r => decide (A 12 r ≠ -1)) 8) else if w = 1 then nI (g 3) else if w = 2 then nI (g 0) else if w = 3 then nI (g 4) else if w = 4 then nI (zpc (gbroken g)) else if w = 5 then nI (zS (gweighs g) (g 0)) else if w = 6 then nI n2 else if w = 7 then nI n else -1000001) h ?_ ?_
  · rw [D_Eggs_count, B_Eggs_count_0]
    by_cases c0 : w = 0
    · simp only [c0, if_true, zr_0_0, zbS, D_Rows_present, B_Rows_present_0]
      have key : ∀ k, k ≤ 8 → zE L xs 58 K_Rows_present 4 [some (.ref 1), some (.int 0), some (.int 0)] [] (zL I A b) = zE L xs 58 K_Rows_present 4 [some (.ref 1), some (.int (nI (zC (fun r => decide (A 12 r ≠ -1)) k))), some (.int (nI k))] [] (zL I A b) := by
        intro k
        induction k with
        | zero => intro _; rfl
        | succ k ih =>
          intro hk
          rw [ih (by omega), B_Rows_present_4, zl8, if_neg (nI_ge (show k < 8 by omega) (by decide))]
          simp only [c_isMissing L xs 57 b (show k < 8 by omega), zbI, zne]
          rw [show zC (fun r => decide (A 12 r ≠ -1)) (k + 1) = zC (fun r => decide (A 12 r ≠ -1)) k + (if decide (A 12 k ≠ -1) = true then 1 else 0) from rfl]
          by_cases c : A 12 k = -1
          · simp [c, nI_1]
          · simp [c, nI_1]
      rw [key 8 (Nat.le_refl _), B_Rows_present_4, zl8, if_pos (nI_le (Nat.le_refl _) (by decide)), zbI]
    simp only [c0, if_false, zr_0_2, zr_0_5, zr_0_1, zbS, hc.n, hc.bags, hc.beep, hc.crushed, c_bitCount L xs 58 b hbr, zbI, c_weighsInAll L xs 57 b hc hB, zg_44_5, a4, zg_13_1, t1]
    by_cases c1 : w = 1
    · simp [c1]
    by_cases c2 : w = 2
    · simp [c2]
    by_cases c3 : w = 3
    · simp [c3]
    by_cases c4 : w = 4
    · simp [c4]
    by_cases c5 : w = 5
    · simp [c5]
    by_cases c6 : w = 6
    · simp [c6]
    by_cases c7 : w = 7
    · simp [c7]
    simp [c1, c2, c3, c4, c5, c6, c7]
  · rw [D_Model_count, B_Model_count_0]
    have e9 : zuI I 64 0 0 64 9 = nI n2 := by rw [zuI_n (by decide), a5]
    have e11 : zuI I 64 0 0 64 11 = nI n := by rw [zuI_n (by decide), t2]
    by_cases c0 : w = 0
    · simp only [c0, if_true, zp_64_0, zbS]
      have key : ∀ k, k ≤ 8 → zE L xs 59 K_Model_count 58 [some (.ref 64), some (.int 0), some (.int 0), some (.int 0)] [] (zL (zuI I 64 0 0) A b) = zE L xs 59 K_Model_count 58 [some (.ref 64), some (.int 0), some (.int (nI (zC (fun r => decide (A 12 r ≠ -1)) k))), some (.int (nI k))] [] (zL (zuI I 64 0 0) A b) := by
        intro k
        induction k with
        | zero => intro _; rfl
        | succ k ih =>
          intro hk
          rw [ih (by omega), B_Model_count_58, zl8, if_neg (nI_ge (show k < 8 by omega) (by decide))]
          simp only [zr_64_2, zbS, z_rd za_65 (show k < 8 by omega)]
          rw [show zC (fun r => decide (A 12 r ≠ -1)) (k + 1) = zC (fun r => decide (A 12 r ≠ -1)) k + (if decide (A 12 k ≠ -1) = true then 1 else 0) from rfl]
          rcases (hR k (by omega)).1 with ⟨m1, m2⟩ | ⟨N, l, hN, hl, m1, m2, m3, m4⟩
          · rw [m1, m2, if_pos (by decide)]
            simp [nI_1]
          · have e1 : (A 12 k = -1) = False := by rw [m1]; exact zn2 (by omega)
            rw [m3, if_neg (nI_pos (by omega))]
            simp [e1, nI_1]
      rw [key 8 (Nat.le_refl _), B_Model_count_58, zl8, if_pos (nI_le (Nat.le_refl _) (by decide))]
    simp only [c0, if_false, zp_64_0, zr_64_5, zbS, m_rd' _ b hm zl3 (show 3 < 55 by decide), m_rd' _ b hm zl0 (show 0 < 55 by decide), m_rd' _ b hm zl4 (show 4 < 55 by decide), m_broken L xs 57 _ b hm hB, m_bits L xs 58 (show gbroken g < 2 ^ 31 by omega), m_allWeigh L xs 56 _ b hm hB, zbI, zg_64_9, e9, zg_64_11, e11]
    by_cases c1 : w = 1
    · simp [c1]
    by_cases c2 : w = 2
    · simp [c2]
    by_cases c3 : w = 3
    · simp [c3]
    by_cases c4 : w = 4
    · simp [c4]
    by_cases c5 : w = 5
    · simp [c5]
    by_cases c6 : w = 6
    · simp [c6]
    by_cases c7 : w = 7
    · simp [c7]
    simp [c1, c2, c3, c4, c5, c6, c7]
/-- of a kind -/
def kis (k o : Nat) : Bool := o == 0 || k == o || (o == 1 && decide (k < 4)) || (o == 4 && k == 5)
theorem c_isA {k o : Nat} (h1 : 1 ≤ k) (hk : k ≤ 5) (ho : o ≤ 5) (σ : pm_H) (d : Nat) : pm_call L xs (d + 1) m_Kinds_isA [.int (nI k), .int (nI o)] σ = some (some (.int (if kis k o = true then 1 else 0)), σ) := by
  rw [C_Kinds_isA, B_Kinds_isA_0]
  have st : ∀ (i0 : Int32) (a s p : Nat), a ≤ 5 → s ≤ 5 → pm_ro (pm_od L xs) 1 (nI a) = some (nI p) → zE L xs d K_Kinds_isA 4 [some (.int i0), some (.int (nI o)), some (.int (nI a)), some (.int (nI s))] [] σ = if a = o then some (some (.int 1), σ) else zE L xs d K_Kinds_isA 4 [some (.int i0), some (.int (nI o)), some (.int (nI p)), some (.int (nI (s + 1)))] [] σ := by
    intro i0 a s p ha hs hp
    rw [B_Kinds_isA_4]
    have e1 : pm_lo (pm_od L xs) 1 = some (nI 6) := rfl
    simp only [e1, zbS, hp, nI_1]
    rw [if_neg (nI_ge (show s < 6 by omega) (by decide)), if_neg (nI_pos (by omega)), if_neg (nI_ge (show a < 6 by omega) (by decide))]
    by_cases c : a = o
    · rw [if_neg (fun q => q (by rw [c])), if_pos c]
    · rw [if_pos (fun q => c ((nI_eq (by omega) (by omega)).mp q)), if_neg c]
  have last : ∀ (i0 : Int32) (s : Nat), s ≤ 4 → zE L xs d K_Kinds_isA 4 [some (.int i0), some (.int (nI o)), some (.int (nI 0)), some (.int (nI s))] [] σ = some (some (.int (if o = 0 then 1 else 0)), σ) := by
    intro i0 s hs
    rw [B_Kinds_isA_4]
    have e1 : pm_lo (pm_od L xs) 1 = some (nI 6) := rfl
    have e2 : pm_ro (pm_od L xs) 1 (nI 0) = some (-1000000) := rfl
    simp only [e1, zbS, e2, nI_1]
    rw [if_neg (nI_ge (show s < 6 by omega) (by decide)), if_neg (nI_pos (by omega)), if_neg (nI_ge (show 0 < 6 by omega) (by decide))]
    by_cases c : o = 0
    · rw [if_neg (fun q => q (by rw [c])), if_pos c]
    · rw [if_pos (fun q => c ((nI_eq (by omega) (by omega)).mp q).symm), if_neg c, B_Kinds_isA_4]
      simp only [e1, zbS]
      rw [if_neg (nI_ge (show s + 1 < 6 by omega) (by decide)), if_pos (by decide)]
  rw [zl0]
  rcases (show k = 1 ∨ k = 2 ∨ k = 3 ∨ k = 4 ∨ k = 5 by omega) with rfl | rfl | rfl | rfl | rfl
  · rw [st _ 1 0 0 (by decide) (by decide) rfl, last _ 1 (by decide)]
    rcases (show o = 0 ∨ o = 1 ∨ o = 2 ∨ o = 3 ∨ o = 4 ∨ o = 5 by omega) with rfl | rfl | rfl | rfl | rfl | rfl <;> rfl
  · rw [st _ 2 0 1 (by decide) (by decide) rfl, st _ 1 1 0 (by decide) (by decide) rfl, last _ 2 (by decide)]
    rcases (show o = 0 ∨ o = 1 ∨ o = 2 ∨ o = 3 ∨ o = 4 ∨ o = 5 by omega) with rfl | rfl | rfl | rfl | rfl | rfl <;> rfl
  · rw [st _ 3 0 1 (by decide) (by decide) rfl, st _ 1 1 0 (by decide) (by decide) rfl, last _ 2 (by decide)]
    rcases (show o = 0 ∨ o = 1 ∨ o = 2 ∨ o = 3 ∨ o = 4 ∨ o = 5 by omega) with rfl | rfl | rfl | rfl | rfl | rfl <;> rfl
  · rw [st _ 4 0 0 (by decide) (by decide) rfl, last _ 1 (by decide)]
    rcases (show o = 0 ∨ o = 1 ∨ o = 2 ∨ o = 3 ∨ o = 4 ∨ o = 5 by omega) with rfl | rfl | rfl | rfl | rfl | rfl <;> rfl
  · rw [st _ 5 0 4 (by decide) (by decide) rfl, st _ 4 1 0 (by decide) (by decide) rfl, last _ 2 (by decide)]
    rcases (show o = 0 ∨ o = 1 ∨ o = 2 ∨ o = 3 ∨ o = 4 ∨ o = 5 by omega) with rfl | rfl | rfl | rfl | rfl | rfl <;> rfl
theorem m_isOf {k o : Nat} (h1 : 1 ≤ k) (hk : k ≤ 5) (ho : o ≤ 5) (σ : pm_H) (d : Nat) : pm_call L xs (d + 1) m_Model_isOf [.int (nI k), .int (nI o)] σ = some (some (.int (if kis k o = true then 1 else 0)), σ) := by
  rw [C_Model_isOf, B_Model_isOf_0]
  rcases (show k = 1 ∨ k = 2 ∨ k = 3 ∨ k = 4 ∨ k = 5 by omega) with rfl | rfl | rfl | rfl | rfl <;> rcases (show o = 0 ∨ o = 1 ∨ o = 2 ∨ o = 3 ∨ o = 4 ∨ o = 5 by omega) with rfl | rfl | rfl | rfl | rfl | rfl <;> rfl
theorem P_as (h : Rel B I A) (v w : Int32) : zOk L xs B m_Eggs_as m_Model_as [.int v, .int w] I A b := by
  have hw := h
  obtain ⟨g, -, -, -, -, ⟨hc, hm, hB, hD, hU, hO, h5, hk, -⟩, -⟩ := hw
  have hn := hB.1
  unfold zOk
  rw [D_Eggs_as, B_Eggs_as_0]
  simp only [D_Model_as, B_Model_as_0, zr_0_2, zbS, c_hasThing L xs 58 b hc hB, zbI, zp_64_0, m_in L xs, zne]
  by_cases h1 : 0 ≤ v.toInt ∧ v.toInt < (g 3 : Int)
  · obtain ⟨t, ht, rfl⟩ := zth h1
    have ht7 : t < 7 := by omega
    obtain ⟨k1, -⟩ := hk t ht
    by_cases h2 : 0 ≤ w ∧ w ≤ 5
    · obtain ⟨o, ho, rfl⟩ := zmm (k := 5) (by decide) h2.1 h2.2
      have e2 : ¬ nI o < 0 := nI_pos (by omega)
      simp only [h1, h2, and_self, not_true_eq_false, not_false_eq_true, if_true, if_false, e2, zSr1 hc.1, zbS, hc.kind hB b ht, c_isA (L := L) (xs := xs) k1.1 k1.2 ho _ 58, zbI, zne]
      by_cases c : kis (gk g t) o = true
      · simp only [c, not_true_eq_false, if_false, c_fine L xs, zbI]
        refine ⟨_, _, _, _, _, _, rfl, ?_, h.fine (fun _ _ _ _ _ => rfl) (by obtain ⟨g, h1, -⟩ := h; exact h1.2)⟩
        simp only [m_isThing L xs 57 _ b hm hB, zbI, h1, and_self, if_true, zp_64_1, zr_64_5, zbS, m_of' L xs 58 _ b hm zl0 ht7 (show 0 < 7 by decide), m_isOf (L := L) (xs := xs) k1.1 k1.2 ho _ 58, c]
        rw [if_neg (by decide), if_neg (by decide)]
      · simp only [c, not_false_eq_true, if_true, c_found L xs, zbI]
        refine ⟨_, _, _, _, _, _, rfl, ?_, h.fnd 3 (zfa 3)⟩
        simp only [m_isThing L xs 57 _ b hm hB, zbI, h1, and_self, if_true, zp_64_1, zr_64_5, zbS, m_of' L xs 58 _ b hm zl0 ht7 (show 0 < 7 by decide), m_isOf (L := L) (xs := xs) k1.1 k1.2 ho _ 58, c, if_false, m_finding L xs]
        rw [if_neg (by decide)]
        rfl
    · simp only [h1, h2, and_self, not_true_eq_false, not_false_eq_true, if_true, if_false]
      by_cases c : w < 0
      · simp only [c, if_true]
        refine ⟨_, _, _, _, _, _, rfl, ?_, h.same (zSame.fI 64 0 0 rfl)⟩
        simp only [m_isThing L xs 57 _ b hm hB, zbI, h1, and_self, if_true]
        rw [if_neg (by decide)]
      · have c2 : ¬ w ≤ 5 := fun q => h2 ⟨fa_of_nlt c, q⟩
        simp only [c, c2, if_false]
        refine ⟨_, _, _, _, _, _, rfl, ?_, h.same (zSame.fI 64 0 0 rfl)⟩
        simp only [m_isThing L xs 57 _ b hm hB, zbI, h1, and_self, if_true]
        rw [if_neg (by decide)]
  · simp only [h1, not_false_eq_true, if_true]
    refine ⟨_, _, _, _, _, _, rfl, ?_, h.same (zSame.fI 64 0 0 rfl)⟩
    simp only [m_isThing L xs 57 _ b hm hB, zbI, zne, h1, not_false_eq_true, if_true]
end
