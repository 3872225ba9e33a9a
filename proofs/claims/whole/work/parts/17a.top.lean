/-! top -/
section
variable {g : Nat → Nat} {t c u : Nat}
theorem zmn_ge {f : Nat → Nat} {s x : Nat} (hx : x ≤ s) : ∀ n, (x ≤ zmn f s n) ↔ ∀ u, u < n → x ≤ f u
  | 0 => ⟨fun _ u hu => absurd hu (Nat.not_lt_zero _), fun _ => hx⟩
  | n + 1 => by
    have ih := zmn_ge (f := f) hx n
    unfold zmn
    constructor
    · intro h u hu
      by_cases e : u = n
      · subst e; split at h <;> omega
      · refine ih.mp ?_ u (by omega)
        split at h <;> omega
    · intro h
      have h1 := ih.mpr (fun u hu => h u (by omega))
      have h2 := h n (by omega)
      split <;> omega
theorem gco_load (hU : gU g) (ht : t < g 3) (hp : gp g t < 3) (hu : u < g 3) (hne : u ≠ t) : gload (gcomes g t (3 + c)) u = gload g u + (if gp g u = 3 + c then gpress g t else 0) := by
  unfold gload
  rw [gco_n, gco_po hne]
  have h := zS_at (t := t) (f := fun o => if (decide (3 ≤ gp g u) && gab g o u) = true then gpress g o else 0) (f' := fun o => if (decide (3 ≤ gp g u) && gab (gcomes g t (3 + c)) o u) = true then gpress (gcomes g t (3 + c)) o else 0) (g 3) ht (fun k hk hkt => by
    rw [gco_press]
    have : gab (gcomes g t (3 + c)) k u = gab g k u := by
      unfold gab
      rw [gco_po hkt, gco_po hne, gco_oo hkt, gco_oo hne]
    rw [this])
  have e1 : (if (decide (3 ≤ gp g u) && gab g t u) = true then gpress g t else 0) = 0 := by
    apply if_neg
    unfold gab
    simp
    omega
  have e2 : (if (decide (3 ≤ gp g u) && gab (gcomes g t (3 + c)) t u) = true then gpress (gcomes g t (3 + c)) t else 0) = if gp g u = 3 + c then gpress g t else 0 := by
    rw [gco_press]
    unfold gab
    rw [gco_pt, gco_po hne, gco_ot, gco_oo hne]
    have := hU u hu
    by_cases e : gp g u = 3 + c
    · rw [if_pos e, if_pos (by simp [e]; omega)]
    · rw [if_neg e, if_neg (by simp; omega)]
  rw [e1, e2] at h
  omega
theorem gco_load0 (hU : gU g) : gload (gcomes g t (3 + c)) t = 0 := by
  unfold gload
  rw [gco_n, gco_pt]
  have := zS_le (f := fun o => if (decide (3 ≤ 3 + c) && gab (gcomes g t (3 + c)) o t) = true then gpress (gcomes g t (3 + c)) o else 0) (c := 0) (g 3) (fun k hk => by
    rw [if_neg]
    · exact Nat.le_refl _
    · unfold gab
      rw [gco_pt, gco_ot]
      by_cases e : k = t
      · subst e; rw [gco_ot]; simp
      · rw [gco_oo e]
        have := hU k hk
        simp
        omega)
  omega
theorem zB_inj {P Q : Nat → Bool} {n : Nat} : (zB P n = zB Q n) ↔ ∀ k, k < n → P k = Q k := by
  constructor
  · intro h k hk
    have h1 := ztb P n k
    have h2 := ztb Q n k
    rw [h] at h1
    rw [h1] at h2
    simpa [hk] using h2
  · exact zB_congr n
/-- what a bag's THINGS bear yet, the least -/
def grf (g : Nat → Nat) (c u : Nat) : Nat := if gp g u = 3 + c ∧ gc g u ≠ 1 then gbears g u - gload g u else 1000000
theorem zmn_s (f : Nat → Nat) (s k : Nat) : zmn f s (k + 1) = if f k < zmn f s k then f k else zmn f s k := rfl
def groom (g : Nat → Nat) (c : Nat) : Nat := zmn (grf g c) 1000000 (g 3)
theorem zgpress_22 (hw : gw g t ≤ 20) : gpress g t ≤ 22 := by
  unfold gpress kpress
  split
  · omega
  · split
    · omega
    · split
      · omega
      · split <;> omega
theorem gtop_same (hB : gB g) (hU : gU g) (hO : gO g) (ht : t < g 3) (hwt : gw g t ≤ 20) (hp : gp g t < 3) : (gbroken (gpacks g t c) = gbroken g) ↔ gpress g t ≤ groom g c := by
  have e : gbroken (gpacks g t c) = gbroken g ||| gover (gcomes g t (3 + c)) := by
    have := gcr_broken (g := gcomes g t (3 + c))
    rw [gco_n, gco_broken] at this
    exact this
  have hpl := zgpress_22 hwt
  rw [e]
  unfold gbroken gover groom
  rw [gco_n, zB_or, zB_inj, zmn_ge (by omega)]
  unfold grf
  constructor
  · intro h u hu
    by_cases q : gp g u = 3 + c ∧ gc g u ≠ 1
    · rw [if_pos q]
      have hne : u ≠ t := fun e => by subst e; omega
      have h1 := h u hu
      rw [gco_bears, gco_load hU ht hp hu hne, if_pos q.1] at h1
      simp [q.2] at h1
      omega
    · rw [if_neg q]
      omega
  · intro h u hu
    have h1 := h u hu
    by_cases hne : u = t
    · subst hne
      rw [gco_load0 hU]
      simp
    · rw [gco_bears, gco_load hU ht hp hu hne]
      by_cases hc : gc g u = 1
      · simp [hc]
      · have h2 : ¬ gbears g u < gload g u := fun q => hc (hO u hu q)
        simp [hc]
        by_cases q : gp g u = 3 + c
        · rw [if_pos ⟨q, hc⟩] at h1
          rw [if_pos q]
          omega
        · rw [if_neg q]
          omega
end
section
variable {L : Nat} {xs : Nat → Int32} {B : Nat} {g : Nat → Nat} {I A : Nat → Nat → Int32} {b : Value}
theorem c_leastSpareAt {o : Nat} (hc : cR I A o g) (hB : gB g) (hO : gO g) {c : Nat} (hcb : c < 100) (d : Nat) : pm_call L xs (d + 3) m_Shop_leastSpareAt [.ref o, .int (nI (3 + c))] (zL I A b) = some (some (.int (nI (groom g c))), zL I A b) := by
  have h7 := hB.1
  rw [D_Shop_leastSpareAt (ho := hc.1), B_Shop_leastSpareAt_0]
  have key : ∀ k, k ≤ g 3 → zE L xs (d + 2) K_Shop_leastSpareAt 5 [some (.ref o), some (.int (nI (3 + c))), some (.int (1000000 : Int32)), some (.int (0 : Int32))] [] (zL I A b) = zE L xs (d + 2) K_Shop_leastSpareAt 5 [some (.ref o), some (.int (nI (3 + c))), some (.int (nI (zmn (grf g c) 1000000 k))), some (.int (nI k))] [] (zL I A b) := by
    intro k
    induction k with
    | zero => intro _; rfl
    | succ k ih =>
      intro hk
      have hk3 : k < g 3 := by omega
      rw [ih (by omega), B_Shop_leastSpareAt_5, hc.n, zbS, if_neg (nI_ge hk3 (by omega)), zSr4 hc.1, zbS, hc.place hB b hk3, zbS, zmn_s]
      have hl := zmn_le (grf g c) 1000000 k
      by_cases c1 : gp g k = 3 + c
      · rw [if_neg (fun q => q (by rw [c1])), c_isCrushed L xs (d + 1) b hc hB hk3, zbI]
        dsimp only
        by_cases c2 : gc g k = 1
        · rw [if_pos c2, if_pos (by decide), nI_1]
          rw [show grf g c k = 1000000 from if_neg (fun q => q.2 c2), if_neg (show ¬ 1000000 < zmn (grf g c) 1000000 k by omega)]
        · have h2 : ¬ gbears g k < gload g k := fun q => c2 (hO k hk3 q)
          have h3 := zgbears_le (g := g) k
          rw [if_neg c2, if_neg (fun q => q rfl), c_bearsOf L xs d b hc hB hk3, zbI]
          dsimp only
          rw [c_loadOn L xs d b hc hB hk3, zbI]
          dsimp only
          rw [pk_sub (by omega), nI_1]
          rw [show grf g c k = gbears g k - gload g k from if_pos ⟨c1, c2⟩]
          by_cases c3 : gbears g k - gload g k < zmn (grf g c) 1000000 k
          · rw [if_pos c3, if_pos (nI_lt c3 (by omega))]
          · rw [if_neg c3, if_neg (nI_nlt (by omega) (by omega))]
      · rw [if_pos (fun q => c1 ((nI_eq (gbl hB _) (by omega)).mp q)), nI_1]
        rw [show grf g c k = 1000000 from if_neg (fun q => c1 q.1), if_neg (show ¬ 1000000 < zmn (grf g c) 1000000 k by omega)]
  rw [key (g 3) (Nat.le_refl _), B_Shop_leastSpareAt_5, hc.n, zbS, if_pos (nI_le (Nat.le_refl _) (by omega))]
  rfl
theorem c_harmlessOn {o : Nat} (hc : cR I A o g) (hB : gB g) (hO : gO g) {c : Nat} (hcb : c < 100) (d : Nat) : pm_call L xs (d + 4) m_Shop_harmlessOn [.ref o, .int (nI (3 + c))] (zL I A b) = some (some (.int (nI (zB (fun t => decide (gp g t < 3) && decide (gpress g t ≤ groom g c)) (g 3)))), zL I A b) := by
  have h7 := hB.1
  have hr : groom g c ≤ 1000000 := zmn_le _ _ _
  rw [D_Shop_harmlessOn (ho := hc.1), B_Shop_harmlessOn_0, c_leastSpareAt hc hB hO hcb d, zbI]
  dsimp only
  have key : ∀ k, k ≤ g 3 → zE L xs (d + 3) K_Shop_harmlessOn 11 [some (.ref o), some (.int (nI (3 + c))), some (.int (nI (groom g c))), some (.int (0 : Int32)), some (.int (0 : Int32))] [] (zL I A b) = zE L xs (d + 3) K_Shop_harmlessOn 11 [some (.ref o), some (.int (nI (3 + c))), some (.int (nI (groom g c))), some (.int (nI (zB (fun t => decide (gp g t < 3) && decide (gpress g t ≤ groom g c)) k))), some (.int (nI k))] [] (zL I A b) := by
    intro k
    induction k with
    | zero => intro _; rfl
    | succ k ih =>
      intro hk
      have hk3 : k < g 3 := by omega
      have hpl := zgpress_lt hB k
      have e : ∀ P : Nat → Bool, zB P (k + 1) = if P k = true then zB P k + 2 ^ k else zB P k := fun P => by
        show zB P k + (if P k = true then 2 ^ k else 0) = _
        split <;> rfl
      rw [ih (by omega), B_Shop_harmlessOn_11, hc.n, zbS, if_neg (nI_ge hk3 (by omega)), zSr4 hc.1, zbS, hc.place hB b hk3, zbS, e]
      by_cases c1 : gp g k < 3
      · rw [if_neg (by rw [zl3]; exact nI_ge c1 (by decide)), c_pressOf L xs (d + 1) b hc hB hk3, zbI]
        dsimp only
        by_cases c2 : gpress g k ≤ groom g c
        · rw [if_neg (nI_nlt c2 (by omega)), if_pos (by simp [c1, c2]), zor (zB_lt _ _) (by omega), nI_1]
        · rw [if_pos (nI_lt (by omega) (by omega)), if_neg (by simp [c2]), nI_1]
      · rw [if_pos (by rw [zl3]; exact nI_le (by omega) (gbl hB _)), if_neg (by simp [c1]), nI_1]
  rw [key (g 3) (Nat.le_refl _), B_Shop_harmlessOn_11, hc.n, zbS, if_pos (nI_le (Nat.le_refl _) (by omega))]
theorem P_top (h : Rel B I A) (hB2 : B + 1 < 2 ^ 20) (v : Int32) : zOk L xs B m_Eggs_top m_Model_top [.int v] I A b := by
  have hw := h
  obtain ⟨g, -, -, -, -, hS, -, -⟩ := hw
  obtain ⟨hc, hm, hI⟩ := hS
  have hB := hI.1
  have h7 := hB.1
  have hU := hI.2.2.1
  have hO := hI.2.2.2.1
  have h5 := hI.2.2.2.2.1
  have h3 := hB.2.1
  by_cases h1 : 0 ≤ v.toInt ∧ v.toInt < (g 0 : Int)
  · obtain ⟨c, hc0, rfl⟩ := zth h1
    have e3 : (3 : Int32) + nI c = nI (3 + c) := by rw [zl3, nI_add]
    have key : ∀ k, k ≤ g 3 → ∃ A', zE L xs 59 K_Model_top 20 [some (.ref 64), some (.int (nI c)), some (.int (0 : Int32)), some (.int (0 : Int32))] [] (zL (zuI I 64 0 0) A b) = zE L xs 59 K_Model_top 20 [some (.ref 64), some (.int (nI c)), some (.int (nI (zB (fun t => decide (gp g t < 3) && decide (gpress g t ≤ groom g c)) k))), some (.int (nI k))] [] (zL (zuI I 64 0 0) A' b) ∧ ∀ q, q ≠ 70 → A' q = A q := by
      intro k
      induction k with
      | zero => intro _; exact ⟨A, rfl, fun _ _ => rfl⟩
      | succ k ih =>
        intro hk
        have hk3 : k < g 3 := by omega
        have hk7 : k < 7 := by omega
        obtain ⟨A1, e1, f1⟩ := ih (by omega)
        have hm1 : mR A1 68 g := hm.c (f1 68 (by decide))
        have e : ∀ P : Nat → Bool, zB P (k + 1) = if P k = true then zB P k + 2 ^ k else zB P k := fun P => by
          show zB P k + (if P k = true then 2 ^ k else 0) = _
          split <;> rfl
        rw [e1, B_Model_top_20, e, zr_64_5, zbS, m_rd' _ b hm1 zl3 (show 3 < 55 by decide), zbS, if_neg (nI_ge hk3 (by omega)), zbS, m_of' L xs 58 _ b hm1 zl3 hk7 (show 3 < 7 by decide), zbI]
        dsimp only
        by_cases c1 : gp g k < 3
        · have hm2 : mR (zcp A1 70 0 55 (A1 68)) 70 g := m_then hm1
          obtain ⟨A2, x1, x2, x3⟩ := m_packs L xs 54 (zuI I 64 0 0) b hm2 hB (t := k) (c := c) hk7 (by omega) (by omega)
          have hm3 : mR A2 68 g := hm1.c ((x3 68 (by decide)).trans (zcp_o (by decide)))
          have hgB : gB (gpacks g k c) := gcr_B (gcomes_B hB (by omega) (by omega)) _
          refine ⟨A2, ?_, fun q hq => by rw [x3 q hq, zcp_o hq, f1 q hq]⟩
          rw [if_neg (by rw [zl3]; exact nI_ge c1 (by decide)), m_layThen hm1, zbV, zr_64_7, zbS, x1, zbV, zr_64_7, zbS, m_broken L xs 57 _ b x2 hgB, zbI]
          dsimp only
          rw [zr_64_5, zbS, m_broken L xs 57 _ b hm3 hB, zbI]
          dsimp only
          have hb1 : gbroken (gpacks g k c) < 2 ^ 31 := Nat.lt_of_lt_of_le (zB_128 _ hgB.1) (by decide)
          have hb2 : gbroken g < 2 ^ 31 := Nat.lt_of_lt_of_le (zB_128 _ h7) (by decide)
          by_cases c2 : gpress g k ≤ groom g c
          · rw [if_neg (fun q => q (by rw [(gtop_same hB hU hO hk3 (hI.2.2.2.2.2.1 k hk3).2.1.2 c1).mpr c2])), if_pos (by simp [c1, c2]), zor (zB_lt _ _) (by omega), nI_1]
          · rw [if_pos (fun q => c2 ((gtop_same hB hU hO hk3 (hI.2.2.2.2.2.1 k hk3).2.1.2 c1).mp ((nI_eq hb1 hb2).mp q))), if_neg (by simp [c2]), zor0, nI_1]
        · have c1' : 3 ≤ g (6 + 7 * k + 3) := Nat.not_lt.mp c1
          exact ⟨A1, by rw [if_pos (by rw [zl3]; exact nI_le c1' (gbl hB _)), if_neg (by simp [c1]), nI_1], f1⟩
    obtain ⟨A2, e2, f2⟩ := key (g 3) (Nat.le_refl _)
    refine zOk.scr (I1 := I) (A1 := A) (b1 := b) (I2 := zuI I 64 0 0) (A2 := A2) (r := nI (zB (fun t => decide (gp g t < 3) && decide (gpress g t ≤ groom g c)) (g 3))) h ?_ zSame.refl ?_ ((zSame.fI 64 0 0 rfl).trans (zKA_70 f2))
    · rw [D_Eggs_top, B_Eggs_top_0]
      simp only [zr_0_2, zbS, c_hasBag L xs 58 b hc hB, zbI, h1, and_self, if_true]
      rw [if_neg (by decide), e3, c_harmlessOn hc hB hO (by omega) 55, zbI]
    · rw [D_Model_top, B_Model_top_0]
      simp only [zp_64_0, zbS, m_isBag L xs 57 _ b hm hB, zbI, h1, and_self, if_true]
      rw [if_pos (by decide), e2, B_Model_top_20, zr_64_5, zbS, m_rd' _ b (hm.c (f2 68 (by decide))) zl3 (show 3 < 55 by decide), zbS, if_pos (nI_le (Nat.le_refl _) (by omega))]
  · refine zOk.pure (r := -1000001) h ?_ ?_
    · rw [D_Eggs_top, B_Eggs_top_0]
      simp only [zr_0_2, zbS, c_hasBag L xs 58 b hc hB, zbI, zne, h1, not_false_eq_true, if_true]
    · rw [D_Model_top, B_Model_top_0]
      simp only [zp_64_0, zbS, m_isBag L xs 57 _ b hm hB, zbI, zne, h1, not_true_eq_false, not_false_eq_true, if_false]
end
