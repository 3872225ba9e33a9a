section
variable {L : Nat} {xs : Nat → Int32} {B n o : Nat} {g g' : Nat → Nat} {hs : Nat → Nat → Nat} {I A : Nat → Nat → Int32} {b : Value}
theorem gh_inj (hD : gD g) {t u : Nat} (ht : t < g 3) (hu : u < g 3) (pt : gp g t = 0) (pu : gp g u = 0) (e : gh g t = gh g u) : t = u := by
  have h1 := gh_dn (g := g) ht hu pt pu
  have h2 := gh_dn (g := g) hu ht pu pt
  refine hD t u ht hu ?_
  omega
theorem zFind_high (hB : gB g) (hD : gD g) {t k : Nat} {v : Int32} (hv : v = nI k) (hk : k < 2 ^ 31) (ht : t < g 3) (pt : gp g t = 0) (hh : gh g t = k) : zFind (fun t => decide (gp g t = 0) && decide (nI (gh g t) = v)) (g 3) 0 = some t := by
  have h7 := hB.1
  refine zFind_one _ _ (fun u _ hu hP => ?_) (Nat.zero_le _) (by omega) (by rw [hv, hh]; simp [pt])
  rw [hv] at hP
  simp only [Bool.and_eq_true, decide_eq_true_eq] at hP
  have := gh_le g u
  have := (nI_eq (show gh g u < 2 ^ 31 by omega) hk).mp hP.2
  exact gh_inj hD (by omega) ht hP.1 pt (by omega)
theorem nI_pred2 (n : Nat) : nI (n + 2) - 2 = nI n := by rw [zl2, pk_sub (by omega)]; simp
theorem c_swapFirstTwo {a c : Nat} (hc : cR I A o g) (hB : gB g) (hD : gD g) (h2 : 2 ≤ gcount g 0) (ha : a < g 3) (hc3 : c < g 3) (pa : gp g a = 0) (pc : gp g c = 0) (h1 : gh g a + 1 = gcount g 0) (h2' : gh g c + 2 = gcount g 0) (d : Nat) : pm_call L xs (d + 3) m_Shop_swapFirstTwo [.ref o] (zL I A b) = some (none, zL I (zuA (zuA A (o + 5) a (nI (gh g c))) (o + 5) c (nI (gh g a))) b) := by
  have h7 := hB.1
  have l1 := gh_le g a
  have l2 := gh_le g c
  have e1 : nI (gcount g 0) - 1 = nI (gh g a) := by rw [← h1]; exact nI_pred _
  have e2 : nI (gcount g 0) - 2 = nI (gh g c) := by rw [← h2']; exact nI_pred2 _
  rw [D_Shop_swapFirstTwo (ho := hc.1), B_Shop_swapFirstTwo_0]
  have f1 := c_thingAt L xs (d + 1) b hc hB (p := 0) (by decide) (by decide) (nI (gcount g 0) - 1)
  have f2 := c_thingAt L xs (d + 1) b hc hB (p := 0) (by decide) (by decide) (nI (gcount g 0) - 2)
  rw [zFind_high hB hD e1 (by omega) ha pa rfl] at f1
  rw [zFind_high hB hD e2 (by omega) hc3 pc rfl] at f2
  rw [← zl0] at f1 f2
  simp only [c_countAt' L xs d b hc hB zl0 (show 0 < 2 ^ 31 by decide), zbI, f1, f2]
  rw [show zopt (some a) = nI a from rfl, show zopt (some c) = nI c from rfl, if_neg (zNn (by omega)), if_neg (zNn (by omega))]
  simp only [zSr5 hc.1, zbS, e1, e2]
  rw [z_wr (zSa5 hc.1) (by omega), zbS]
  simp only [zSr5 hc.1, zbS]
  rw [z_wr (zSa5 hc.1) (by omega), zbS]

theorem m_second {a : Nat} (hR : mR A 68 g) (hB : gB g) (ha : a < g 3) : ∀ n, n ≤ g 3 → ∀ y, ∃ y', zE L xs 59 K_Model_swap 48 [some (.ref 64), some (.int (nI a)), some (.int (-1000000 : Int32)), some (.int (0 : Int32)), y] [] (zL I A b) = zE L xs 59 K_Model_swap 48 [some (.ref 64), some (.int (nI a)), some (.int (zopt (gfirst (gsec g a) 0 n))), some (.int (nI n)), y'] [] (zL I A b) ∧ ∀ t, gfirst (gsec g a) 0 n = some t → t < n := by
  have hn := hB.1
  intro n
  induction n with
  | zero => intro _ y; exact ⟨y, rfl, fun t h => by cases h⟩
  | succ n ih =>
    intro hle y
    obtain ⟨y1, e1, hlt⟩ := ih (by omega) y
    rw [e1, B_Model_swap_48]
    have h3 := hB.2.2.1 (6 + 7 * n + 3)
    have h4 := hB.2.2.1 (6 + 7 * n + 4)
    have f1 : pm_rd 0 (zL I A b) 68 (3 : Int32) = some (nI (g 3)) := by rw [zl3]; exact m_rd I b hR (by decide)
    have f2 : pm_call L xs 59 m_Model_of [.ref 68, .int (nI n), .int (3 : Int32)] (zL I A b) = some (some (.int (nI (gp g n))), zL I A b) := by rw [zl3]; exact m_of L xs 58 I b hR (show n < 7 by omega) (show 3 < 7 by decide)
    have f3 : pm_call L xs 59 m_Model_of [.ref 68, .int (nI n), .int (4 : Int32)] (zL I A b) = some (some (.int (nI (go g n))), zL I A b) := by rw [zl4]; exact m_of L xs 58 I b hR (show n < 7 by omega) (show 4 < 7 by decide)
    simp only [zr_64_5, f1, zbS, f2, f3, zbI, znL (show g 3 < 2 ^ 31 by omega) (show n < 2 ^ 31 by omega), znI (show n < 2 ^ 31 by omega) (show a < 2 ^ 31 by omega), nI_1]
    rw [if_neg (show ¬ g 3 ≤ n by omega)]
    have stay : ¬ gp (gsec g a) n = 0 → gfirst (gsec g a) 0 (n + 1) = gfirst (gsec g a) 0 n := by
      intro hc
      have e : gfirst (gsec g a) 0 (n + 1) = match gfirst (gsec g a) 0 n with
        | none => if gp (gsec g a) n = 0 then some n else none
        | some t => if gp (gsec g a) n = 0 ∧ go (gsec g a) n < go (gsec g a) t then some n else some t := rfl
      rw [e]
      cases hf : gfirst (gsec g a) 0 n with
      | none => simp [hc]
      | some t => simp [hc]
    by_cases c0 : n = a
    · rw [if_pos c0, stay (fun e => (gsec_p.mp e).1 c0)]
      exact ⟨_, rfl, fun t ht => by have := hlt t ht; omega⟩
    · rw [if_neg c0]
      by_cases c1 : gp g n = 0
      · have c1' : gp (gsec g a) n = 0 := gsec_p.mpr ⟨c0, c1⟩
        rw [c1, if_neg (show ¬ ¬ nI 0 = (0 : Int32) from fun q => q rfl)]
        cases hf : gfirst (gsec g a) 0 n with
        | none =>
          have : gfirst (gsec g a) 0 (n + 1) = some n := by unfold gfirst; rw [hf]; simp [c1']
          rw [this]
          exact ⟨_, by rw [if_pos (show zopt none = -1000000 from rfl)]; rfl, fun t h => by cases h; omega⟩
        | some t =>
          have ht := hlt t hf
          have h5 := hB.2.2.1 (6 + 7 * t + 4)
          have f4 : pm_call L xs 59 m_Model_of [.ref 68, .int (nI t), .int (4 : Int32)] (zL I A b) = some (some (.int (nI (go g t))), zL I A b) := by rw [zl4]; exact m_of L xs 58 I b hR (show t < 7 by omega) (show 4 < 7 by decide)
          have e5 : zopt (some t) = nI t := rfl
          rw [e5, if_neg (zNn (by omega))]
          simp only [f4, zbI, znL (show go g t < 2 ^ 31 by show g (6 + 7 * t + 4) < _; omega) (show go g n < 2 ^ 31 by show g (6 + 7 * n + 4) < _; omega)]
          by_cases c2 : go g n < go g t
          · have : gfirst (gsec g a) 0 (n + 1) = some n := by unfold gfirst; rw [hf]; simp [c1', gsec_o, c2]
            rw [this, if_neg (by omega)]
            exact ⟨_, rfl, fun t h => by cases h; omega⟩
          · have : gfirst (gsec g a) 0 (n + 1) = some t := by unfold gfirst; rw [hf]; simp [gsec_o, c2]
            rw [this, if_pos (by omega)]
            exact ⟨_, rfl, fun t h => by cases h; omega⟩
      · rw [if_pos (show ¬ nI (gp g n) = (0 : Int32) by rw [zl0, znI (gbl hB _) (by decide)]; exact c1), stay (fun e => c1 (gsec_p.mp e).2)]
        exact ⟨_, rfl, fun t ht => by have := hlt t ht; omega⟩
theorem P_swap (h : Rel B I A) (hB2 : B + 1 < 2 ^ 20) : zOk L xs (B + 1) m_Eggs_swap m_Model_swap [] I A b := by
  have hw := h
  obtain ⟨g, -, -, -, -, hS, -, hH⟩ := hw
  obtain ⟨n, o, hs, hc', hm', hG, rfl⟩ := hH.un
  have hS' := hS
  obtain ⟨hc, hm, hI⟩ := hS'
  have hB := hI.1
  have hn7 := hB.1
  have hD := hI.2.1
  have hz : zpc (gset (hs n) 0) = gcount (hs n) 0 := zpc_B _ _ hn7
  have hcl : gcount (hs n) 0 ≤ hs n 3 := zC_le _ _
  have hgs : gset (hs n) 0 < 2 ^ 31 := Nat.lt_trans (zB_128 _ hn7) (by decide)
  by_cases h0 : 0 < hs n 0
  · by_cases h2 : 2 ≤ gcount (hs n) 0
    · obtain ⟨a, c, hf, hs2, hT⟩ := gTwo_ex hD h2
      have ha := hT.1
      have hc3 := hT.2.1
      have hne := hT.ne
      have e2 : ((2 : Int32) ≤ nI (gcount (hs n) 0)) = True := by rw [zl2, znL (by decide) (by omega)]; exact eq_true h2
      have hk := c_keep (L := L) (xs := xs) (b := b) (s := 2) (m := -1000000) (f := -1000000) hc' (Or.inl ⟨rfl, rfl⟩) 58
      obtain ⟨I1, hI1⟩ : ∃ I1, I1 = if n < 24 then zuI I 44 5 (nI (n + 1)) else zuI I 44 4 (nI ((o + 1) % 24)) := ⟨_, rfl⟩
      obtain ⟨A1, hA1⟩ : ∃ A1, A1 = zuA (zuA (zuA (zuA A 45 ((o + n) % 24) 2) 46 ((o + n) % 24) (-1000000)) 47 ((o + n) % 24) (-1000000)) 48 ((o + n) % 24) (I 15 5) := ⟨_, rfl⟩
      rw [← hI1, ← hA1] at hk
      have f1 : ∀ o', o' ≠ 44 → I1 o' = I o' := by
        intro o' ho'
        rw [hI1]
        split <;> (funext k; exact zuI_o ho')
      have f2 : ∀ q, ¬ (45 ≤ q ∧ q ≤ 48) → A1 q = A q := fun q hq => by rw [hA1, zuA_o (by omega), zuA_o (by omega), zuA_o (by omega), zuA_o (by omega)]
      have hc1 : cR I1 A1 15 (hs n) := hc.c (f1 15 (by decide)) (fun q _ _ => f2 q (by omega))
      have hsw := c_swapFirstTwo (L := L) (xs := xs) (b := b) hc1 hB hD h2 ha hc3 hT.2.2.1 hT.2.2.2.1 hT.ha hT.hc 56
      obtain ⟨A2, hA2⟩ : ∃ A2, A2 = zuA (zuA A1 (15 + 5) a (nI (gh (hs n) c))) (15 + 5) c (nI (gh (hs n) a)) := ⟨_, rfl⟩
      rw [← hA2] at hsw
      have f3 : ∀ q, q ≠ 20 → A2 q = A1 q := fun q hq => by rw [hA2, zuA_o (by omega), zuA_o (by omega)]
      have hI' := (gsw_I hI hT).mono (show B ≤ B + 1 by omega)
      have hha : gh (gsw (hs n) a c) a = gh (hs n) c := by have := hT.swap.hc; rw [gsw_count] at this; have := hT.hc; omega
      have hhc : gh (gsw (hs n) a c) c = gh (hs n) a := by have := hT.swap.ha; rw [gsw_count] at this; have := hT.ha; omega
      have hbr : gbroken (gsw (hs n) a c) = gbroken (hs n) := by
        unfold gbroken
        rw [gsw_n]
        exact zB_congr _ (fun u _ => by rw [show gc (gsw (hs n) a c) u = gc (hs n) u from gsw_w (by decide) (by decide)])
      have hc2 : cR I1 A2 15 (gsw (hs n) a c) := by
        obtain ⟨s1, s2, s3⟩ := hc1
        refine ⟨s1, by rw [hbr]; simpa only [gsw_h (show 0 < 6 by decide), gsw_h (show 1 < 6 by decide), gsw_h (show 2 < 6 by decide), gsw_h (show 3 < 6 by decide), gsw_h (show 4 < 6 by decide)] using s2, fun t ht => ?_⟩
        rw [gsw_n] at ht
        obtain ⟨r1, r2, r3, r4, r5, r6⟩ := s3 t ht
        rw [f3 (15 + 1) (by decide), f3 (15 + 2) (by decide), f3 (15 + 3) (by decide), f3 (15 + 4) (by decide), f3 (15 + 6) (by decide), gsw_p, show gk (gsw (hs n) a c) t = gk (hs n) t from gsw_w (by decide) (by decide), show gw (gsw (hs n) a c) t = gw (hs n) t from gsw_w (by decide) (by decide), show gs (gsw (hs n) a c) t = gs (hs n) t from gsw_w (by decide) (by decide), show gi (gsw (hs n) a c) t = gi (hs n) t from gsw_w (by decide) (by decide)]
        refine ⟨r1, r2, r3, r4, fun hp => ?_, r6⟩
        rw [hA2, zuA_s, zuA_s]
        by_cases e1 : t = c
        · subst e1; rw [pk_us, hhc]
        · rw [pk_un e1]
          by_cases e2 : t = a
          · subst e2; rw [pk_us, hha]
          · rw [pk_un e2, r5 hp, hT.other ht e2 e1]
      have hH2 : zHc (hN n) (hO n o) (hP n hs (gsw (hs n) a c)) I1 A2 := by
        refine hc'.kept (s := 2) (m := -1000000) (f := -1000000) hc (gBack_swap hT _) (by rw [hI1]) (fun q q1 q2 => by rw [f3 q (by omega), hA1])
      have htop := hT.swap.high hI'.2.1
      have hm1 : mR A2 68 (hs n) := hm.c ((f3 68 (by decide)).trans (f2 68 (by decide)))
      have hm2 : zHm n hs (zuI I1 64 0 0) A2 := hm'.c (by rw [zuI_n (by decide), f1 64 (by decide)]) ((f3 71 (by decide)).trans (f2 71 (by decide)))
      obtain ⟨I3, A3, y1, y2, y3, y4⟩ := m_keep (L := L) (xs := xs) (b := b) hm2 hm1 (gsw (hs n) a c) 58
      have hm3 : mR A3 68 (hs n) := hm1.c (y3 68 (by decide))
      have hm4 := (hm3.set (6 + 7 * a + 4) (go (hs n) c)).set (6 + 7 * c + 4) (go (hs n) a)
      refine ⟨nI c, I1, A2, I3, _, b, ?_, ?_, h.moved (g' := gsw (hs n) a c) (n' := 0) hB2 hS hG h0 hc'.1 hI' hc2 hH2 (fun q q1 q2 q3 q4 => by rw [f3 q q2, f2 q q4]) (fun o' o1 o2 => f1 o' o2) hm4 (y2.c rfl (by rw [zuA_o (by decide), zuA_o (by decide)])) (fun q q1 q2 => by rw [zuA_o q1, zuA_o q1, y3 q q2]) (fun o' k' a1 a2 => by rw [y4 o' k' a1]; simp only [zuI_at, if_neg a2])⟩
      · rw [D_Eggs_swap, B_Eggs_swap_0]
        simp only [zr_0_2, zr_0_5, zbS, c_stands L xs 58 b hc hB, zbI, h0, if_true, c_countAt' L xs 57 b hc hB zl0 (show 0 < 2 ^ 31 by decide), e2, hk, zbV, hsw, c_topOf' L xs 56 b hc2 hI'.1 hI'.2.1 zl0 (show 0 < 2 ^ 31 by decide) (show 0 ≠ 2 by decide), htop]
        rw [if_neg (by decide)]
        rfl
      · rw [D_Model_swap, B_Model_swap_0]
        simp only [zp_64_0, zbS, m_isThere L xs 58 _ b hm1 hB, zbI, h0, if_true, zr_64_5, m_things' L xs 57 _ b hm1 hB zl0 (show 0 < 2 ^ 31 by decide), m_bits L xs 58 hgs, hz, e2, y1, zbV, m_firstOf' L xs 57 _ b hm3 hB zl0 (show 0 < 2 ^ 31 by decide), hf]
        rw [if_neg (by decide), show zopt (some a) = nI a from rfl]
        obtain ⟨y', e1, -⟩ := m_second (L := L) (xs := xs) (I := I3) (b := b) hm3 hB ha (hs n 3) (Nat.le_refl _) none
        rw [e1, hs2, show zopt (some c) = nI c from rfl, B_Model_swap_48]
        have f9 : (((6 : Int32) + ((7 : Int32) * nI a)) + (4 : Int32)) = nI (6 + 7 * a + 4) := by rw [zl6, zl7, zl4, pk_mul, nI_add, nI_add]
        have f10 : (((6 : Int32) + ((7 : Int32) * nI c)) + (4 : Int32)) = nI (6 + 7 * c + 4) := by rw [zl6, zl7, zl4, pk_mul, nI_add, nI_add]
        have m5 := hm3.set (6 + 7 * a + 4) (go (hs n) c)
        simp only [zr_64_5, zbS, m_rd' I3 b hm3 zl3 (show 3 < 55 by decide)]
        rw [if_pos (nI_le (Nat.le_refl _) (by omega))]
        simp only [zr_64_5, zbS, m_of' L xs 58 I3 b hm3 zl4 (show a < 7 by omega) (show 4 < 7 by decide), zbI, m_of' L xs 58 I3 b hm3 zl4 (show c < 7 by omega) (show 4 < 7 by decide), f9, f10]
        rw [m_wr I3 b hm3 (show 6 + 7 * a + 4 < 55 by omega), zbS]
        simp only [zr_64_5, zbS]
        rw [m_wr I3 b m5 (show 6 + 7 * c + 4 < 55 by omega), zbS]
    · have e2 : ((2 : Int32) ≤ nI (gcount (hs n) 0)) = False := by rw [zl2, znL (by decide) (by omega)]; exact eq_false h2
      refine ⟨-1000002, I, A, zuI I 64 0 0, A, b, ?_, ?_, (h.same (zSame.fI 64 0 0 rfl)).mono (by omega)⟩
      · rw [D_Eggs_swap, B_Eggs_swap_0]
        simp only [zr_0_2, zbS, c_stands L xs 58 b hc hB, zbI, h0, if_true, c_countAt' L xs 57 b hc hB zl0 (show 0 < 2 ^ 31 by decide), e2, if_false]
        rw [if_neg (by decide)]
      · rw [D_Model_swap, B_Model_swap_0]
        simp only [zp_64_0, zbS, m_isThere L xs 58 _ b hm hB, zbI, h0, if_true, zr_64_5, m_things' L xs 57 _ b hm hB zl0 (show 0 < 2 ^ 31 by decide), m_bits L xs 58 hgs, hz, e2, if_false]
        rw [if_neg (by decide)]
  · refine ⟨-1000002, I, A, zuI I 64 0 0, A, b, ?_, ?_, (h.same (zSame.fI 64 0 0 rfl)).mono (by omega)⟩
    · rw [D_Eggs_swap, B_Eggs_swap_0]
      simp only [zr_0_2, zbS, c_stands L xs 58 b hc hB, zbI, zne, h0, not_false_eq_true, if_true]
    · rw [D_Model_swap, B_Model_swap_0]
      simp only [zp_64_0, zbS, m_isThere L xs 58 _ b hm hB, zbI, zne, h0, not_false_eq_true, if_true]
end
