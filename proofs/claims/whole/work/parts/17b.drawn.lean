/-! drawn -/
section
variable {g : Nat → Nat} {X Y x : Nat}
/-- what a trip's SHOP keeps to -/
def gJ (X Y : Nat) (g : Nat → Nat) : Prop := gB g ∧ gD g ∧ gU g ∧ 0 < g 0 ∧ g 4 ≤ X ∧ g 5 ≤ Y
theorem gbeep_J (h : gJ X Y g) (hX : X + 1 < 2 ^ 20) (hY : Y + 1 < 2 ^ 20) : gJ (X + 1) (Y + 1) (gbeep g) := by
  obtain ⟨hB, hD, hU, h0, h4, h5⟩ := h
  cases hf : gfirst g 0 (g 3) with
  | some t =>
    rw [gbeep_some hf]
    refine ⟨gcomes_B (gpre_B hB (by omega)) (by decide) (by rw [gpre_h (by decide) (by decide)]; omega), gco_D (gpre_D hD) (gpre_U hU), gco_U (gpre_U hU), ?_, ?_, ?_⟩
    · rw [gcomes_h (by decide), gpre_h (by decide) (by decide)]; exact h0
    · rw [gcomes_h (by decide), gpre_4]; omega
    · rw [gco_5, gpre_h (by decide) (by decide)]; omega
  | none =>
    rw [gbeep_none hf]
    have ew : ∀ j, j ≠ 4 → gu g 4 (g 4 + 1) j = g j := fun j hj => gu_n hj
    refine ⟨gu4_B hB (by omega), fun u v hu hv e => ?_, fun u hu => ?_, by rw [ew 0 (by decide)]; exact h0, by rw [gu_s]; omega, by rw [ew 5 (by decide)]; omega⟩
    · rw [ew 3 (by decide)] at hu hv
      rw [gu4_o, gu4_o] at e
      exact hD u v hu hv e
    · rw [ew 3 (by decide)] at hu
      rw [gu4_o, ew 5 (by decide)]
      exact hU u hu
theorem gpacks_J (h : gJ X Y g) (hY : Y + 1 < 2 ^ 20) {t c : Nat} (hc : c < 100) : gJ X (Y + 1) (gpacks g t c) := by
  obtain ⟨hB, hD, hU, h0, h4, h5⟩ := h
  unfold gpacks
  refine ⟨gcr_B (gcomes_B hB (by omega) (by omega)) _, fun u v hu hv e => ?_, fun u hu => ?_, ?_, ?_, ?_⟩
  · rw [gcr_h _ 3 (by decide)] at hu hv
    rw [gcr_o, gcr_o] at e
    exact gco_D hD hU u v hu hv e
  · rw [gcr_h _ 3 (by decide)] at hu
    rw [gcr_o, gcr_h _ 5 (by decide)]
    exact gco_U hU u hu
  · rw [gcr_h _ 0 (by decide), gcomes_h (by decide)]; exact h0
  · rw [gcr_h _ 4 (by decide), gcomes_h (by decide)]; exact h4
  · rw [gcr_h _ 5 (by decide), gco_5]; omega
def dX (x : Nat) : Nat := x * 16807 % 2147483647
def dG (x : Nat) (g : Nat → Nat) : Nat → Nat := match gtop g 1 (g 3) with
  | none => g
  | some t => if x % 3 = 0 then g else gpacks g t (x % g 0)
def dst (x : Nat) (g : Nat → Nat) : Nat → Nat × (Nat → Nat)
  | 0 => (x, g)
  | k + 1 => (dX (dst x g k).1, dG (dX (dst x g k).1) (gbeep (dst x g k).2))
theorem dG_J (h : gJ X Y g) (hY : Y + 1 < 2 ^ 20) : gJ X (Y + 1) (dG x g) := by
  have h1 : gJ X (Y + 1) g := ⟨h.1, h.2.1, h.2.2.1, h.2.2.2.1, h.2.2.2.2.1, by have := h.2.2.2.2.2; omega⟩
  unfold dG
  split
  · exact h1
  · split
    · exact h1
    · refine gpacks_J h hY ?_
      have := Nat.mod_lt x h.2.2.2.1
      have := h.1.2.1
      omega
theorem dX_lt (x : Nat) : dX x < 2147483647 := Nat.mod_lt _ (by decide)
theorem dst_J (hx : x < 2147483647) (h : gJ X Y g) (hX : X + 60 < 2 ^ 20) (hY : Y + 120 < 2 ^ 20) : ∀ k, k ≤ 60 → (dst x g k).1 < 2147483647 ∧ gJ (X + k) (Y + 2 * k) (dst x g k).2
  | 0, _ => ⟨hx, h⟩
  | k + 1, hk => by
    obtain ⟨h1, h2⟩ := dst_J hx h hX hY k (by omega)
    exact ⟨dX_lt _, dG_J (X := X + k + 1) (Y := Y + 2 * k + 1) (gbeep_J (X := X + k) (Y := Y + 2 * k) h2 (by omega) (by omega)) (by omega)⟩
end
section
variable {L : Nat} {xs : Nat → Int32} {B X Y : Nat} {g : Nat → Nat} {I A I' A' : Nat → Nat → Int32} {b : Value}
theorem zSame.trial (hI : ∀ o', o' ≠ 22 → I' o' = I o') (hA : ∀ q, (q < 23 ∨ 28 < q) → A' q = A q) : zSame I A I' A' := by
  refine ⟨fun o k hk => ?_, fun q hq => ?_, by rw [hA 60 (by omega)], by rw [hA 61 (by omega)]⟩
  · rw [hI o (fun e => by subst e; simp [zKI] at hk)]
  · refine hA q ?_
    simp only [zKA, Bool.or_eq_true, Bool.and_eq_true, decide_eq_true_eq, beq_iff_eq] at hq
    omega
theorem zcmp0 {n : Nat} (hn : n < 2 ^ 31) : (lg_cmp (lN n) (Int32.toInt64 (0 : Int32)) = 0) = (n = 0) := by
  rw [show Int32.toInt64 (0 : Int32) = lN 0 from by decide]
  apply propext
  rw [lg_cmp_eq, lN_eq hn (by decide)]
theorem zdx {x : Nat} (hx : x < 2147483647) : (lN x * (Int32.toInt64 (16807 : Int32))) - (lN x * (Int32.toInt64 (16807 : Int32))) / (Int32.toInt64 (2147483647 : Int32)) * (Int32.toInt64 (2147483647 : Int32)) = lN (dX x) := by
  rw [show Int32.toInt64 (16807 : Int32) = lN 16807 from by decide, show Int32.toInt64 (2147483647 : Int32) = lN 2147483647 from by decide, lN_mul, pk_lRem (by omega) (by decide) (by decide)]
  rfl
theorem zd3 {x : Nat} (hx : x < 2147483647) : lN x - lN x / (Int32.toInt64 (3 : Int32)) * (Int32.toInt64 (3 : Int32)) = lN (x % 3) := by
  rw [show Int32.toInt64 (3 : Int32) = lN 3 from by decide, pk_lRem (by omega) (by decide) (by decide)]
theorem zdb {x n : Nat} (hx : x < 2147483647) (h0 : 0 < n) (hn : n ≤ 3) : Int64.toInt32 (lN x - lN x / (Int32.toInt64 (nI n)) * (Int32.toInt64 (nI n))) = nI (x % n) := by
  rw [nI_l (by omega), pk_lRem (by omega) h0 (by omega), lN_i]
theorem c_trip {n x : Nat} (hn : n ≤ 60) (hx : x < 2147483647) (hc : cR I A 22 g) (hJ : gJ X Y g) (hX : X + 60 < 2 ^ 20) (hY : Y + 120 < 2 ^ 20) (v : Int32) (hv : Int32.toInt64 v = lN x) : ∃ I' A', pm_call L xs 59 m_Shop_goTrip [.ref 22, .int (nI n), .int v] (zL I A b) = some (none, zL I' A' b) ∧ cR I' A' 22 (dst x g n).2 ∧ (∀ o', o' ≠ 22 → I' o' = I o') ∧ ∀ q, (q < 23 ∨ 28 < q) → A' q = A q := by
  rw [D_Shop_goTrip (ho := hc.1), B_Shop_goTrip_0, hv]
  have key : ∀ k, k ≤ n → ∃ I' A' y4 y6, zE L xs 58 K_Shop_goTrip 6 [some (.ref 22), some (.int (nI n)), some (.int v), some (.long (lN x)), none, some (.int (0 : Int32)), none] [] (zL I A b) = zE L xs 58 K_Shop_goTrip 6 [some (.ref 22), some (.int (nI n)), some (.int v), some (.long (lN (dst x g k).1)), y4, some (.int (nI k)), y6] [] (zL I' A' b) ∧ cR I' A' 22 (dst x g k).2 ∧ (∀ o', o' ≠ 22 → I' o' = I o') ∧ ∀ q, (q < 23 ∨ 28 < q) → A' q = A q := by
    intro k
    induction k with
    | zero => intro _; exact ⟨I, A, none, none, rfl, hc, fun _ _ => rfl, fun _ _ => rfl⟩
    | succ k ih =>
      intro hk
      obtain ⟨I1, A1, y4, y6, e1, c1, f1, f2⟩ := ih (by omega)
      obtain ⟨hx1, hj1⟩ := dst_J hx hJ hX hY k (by omega)
      show ∃ I' A' y4 y6, _ = zE L xs 58 K_Shop_goTrip 6 [some (.ref 22), some (.int (nI n)), some (.int v), some (.long (lN (dX (dst x g k).1))), y4, some (.int (nI (k + 1))), y6] [] (zL I' A' b) ∧ cR I' A' 22 (dG (dX (dst x g k).1) (gbeep (dst x g k).2)) ∧ _
      obtain ⟨g1, hg1⟩ : ∃ g1, g1 = (dst x g k).2 := ⟨_, rfl⟩
      obtain ⟨x1, hx1'⟩ : ∃ x1, x1 = (dst x g k).1 := ⟨_, rfl⟩
      rw [← hg1] at hj1 c1 ⊢
      rw [← hx1'] at hx1 e1 ⊢
      obtain ⟨I2, A2, p1, p2, p3, p4⟩ := c_beepOnce (L := L) (xs := xs) (b := b) c1 hj1.1 hj1.2.1 hj1.2.2.1 (by have := hj1.2.2.2.2.1; omega) 54
      have hj2 := gbeep_J hj1 (by omega) (by omega)
      have hx2 := dX_lt x1
      obtain ⟨x2, hx2'⟩ : ∃ x2, x2 = dX x1 := ⟨_, rfl⟩
      have q2 : ∀ q, (q < 23 ∨ 28 < q) → A2 q = A q := fun q hq => by rw [p3 q (by omega) (by omega) (by omega), f2 q hq]
      have q1 : ∀ o', o' ≠ 22 → I2 o' = I o' := fun o' ho => by rw [p4 o' ho, f1 o' ho]
      have h31 : gbeep g1 3 ≤ 7 := hj2.1.1
      have hb3 : gbeep g1 0 ≤ 3 := hj2.1.2.1
      rw [e1, B_Shop_goTrip_6, if_neg (nI_ge (by omega) (by omega)), p1, zbV, if_neg (by decide), zdx hx1, B_Shop_goTrip_25, ← hx2', c_topOf' L xs 55 b p2 hj2.1 hj2.2.1 zl1 (by decide) (by decide), zbI]
      rw [← hx2'] at hx2
      dsimp only
      rw [if_neg (by decide), zd3 hx2, B_Shop_goTrip_38, B_Shop_goTrip_40]
      have eh : ghigh (gbeep g1) 1 = gtop (gbeep g1) 1 (gbeep g1 3) := if_neg (by decide)
      rw [eh]
      have hm3 := Nat.mod_lt x2 (show 0 < 3 by decide)
      by_cases c3 : x2 % 3 = 0
      · rw [if_pos (by rw [zcmp0 (by omega)]; exact c3), nI_1]
        refine ⟨I2, A2, _, _, rfl, ?_, q1, q2⟩
        unfold dG
        cases hf : gtop (gbeep g1) 1 (gbeep g1 3) with
        | none => exact p2
        | some t => simp only [c3, if_true]; exact p2
      · rw [if_neg (by rw [zcmp0 (by omega)]; exact c3)]
        cases hf : gtop (gbeep g1) 1 (gbeep g1 3) with
        | none =>
          rw [if_pos (show zopt none = (-1000000 : Int32) from rfl), nI_1]
          refine ⟨I2, A2, _, _, rfl, ?_, q1, q2⟩
          unfold dG
          rw [hf]
          exact p2
        | some t =>
          obtain ⟨ht, hpt⟩ := gtop_lt _ _ hf
          have hmb := Nat.mod_lt x2 hj2.2.2.2.1
          obtain ⟨I3, A3, r1, r2, r3, r4⟩ := c_lay L xs 54 b p2 hj2.1 hj2.2.1 hj2.2.2.1 (by have := hj2.2.2.2.2.2; omega) (t := t) (p := 3 + x2 % gbeep g1 0) ht (by omega) (by omega) (by omega) (Or.inr (by rw [hpt, eh]; exact hf)) (by omega)
          refine ⟨I3, A3, none, some (.int (nI t)), ?_, ?_, fun o' ho => by rw [r4 o' ho, q1 o' ho], fun q hq => by rw [r3 q (by omega) (by omega), q2 q hq]⟩
          · rw [show zopt (some t) = nI t from rfl, if_neg (zNn (by omega)), p2.bags, zbS, if_neg (nI_nle hj2.2.2.2.1 (by omega)), zbS, if_neg (by rw [nI_l (by omega), show (0 : Int64) = lN 0 from by decide, lN_eq (by omega) (by decide)]; omega), B_Shop_goTrip_68, zdb hx2 hj2.2.2.2.1 hb3, zl3, nI_add, r1, zbV, nI_1]
          · unfold dG
            rw [hf]
            simp only [c3, if_false]
            exact r2
  obtain ⟨I1, A1, y4, y6, e1, c1, f1, f2⟩ := key n (Nat.le_refl _)
  exact ⟨I1, A1, by rw [e1, B_Shop_goTrip_6, if_pos (nI_le (Nat.le_refl _) (by omega))], c1, f1, f2⟩

theorem m_trip {n x : Nat} (hn : n ≤ 60) (hx : x < 2147483647) (hm : mR A 70 g) (hJ : gJ X Y g) (hX : X + 60 < 2 ^ 20) (hY : Y + 120 < 2 ^ 20) (v w : Int32) : ∃ A' y5 y7, zE L xs 59 K_Model_drawn 63 [some (.ref 64), some (.int (nI n)), some (.int v), some (.int w), some (.long (lN x)), none, some (.int (0 : Int32)), none] [] (zL I A b) = zE L xs 59 K_Model_drawn 63 [some (.ref 64), some (.int (nI n)), some (.int v), some (.int w), some (.long (lN (dst x g n).1)), y5, some (.int (nI n)), y7] [] (zL I A' b) ∧ mR A' 70 (dst x g n).2 ∧ ∀ q, q ≠ 70 → A' q = A q := by
  have key : ∀ k, k ≤ n → ∃ A' y5 y7, zE L xs 59 K_Model_drawn 63 [some (.ref 64), some (.int (nI n)), some (.int v), some (.int w), some (.long (lN x)), none, some (.int (0 : Int32)), none] [] (zL I A b) = zE L xs 59 K_Model_drawn 63 [some (.ref 64), some (.int (nI n)), some (.int v), some (.int w), some (.long (lN (dst x g k).1)), y5, some (.int (nI k)), y7] [] (zL I A' b) ∧ mR A' 70 (dst x g k).2 ∧ ∀ q, q ≠ 70 → A' q = A q := by
    intro k
    induction k with
    | zero => intro _; exact ⟨A, none, none, rfl, hm, fun _ _ => rfl⟩
    | succ k ih =>
      intro hk
      obtain ⟨A1, y4, y6, e1, c1, f2⟩ := ih (by omega)
      obtain ⟨hx1, hj1⟩ := dst_J hx hJ hX hY k (by omega)
      show ∃ A' y5 y7, _ = zE L xs 59 K_Model_drawn 63 [some (.ref 64), some (.int (nI n)), some (.int v), some (.int w), some (.long (lN (dX (dst x g k).1))), y5, some (.int (nI (k + 1))), y7] [] (zL I A' b) ∧ mR A' 70 (dG (dX (dst x g k).1) (gbeep (dst x g k).2)) ∧ _
      obtain ⟨g1, hg1⟩ : ∃ g1, g1 = (dst x g k).2 := ⟨_, rfl⟩
      obtain ⟨x1, hx1'⟩ : ∃ x1, x1 = (dst x g k).1 := ⟨_, rfl⟩
      rw [← hg1] at hj1 c1 ⊢
      rw [← hx1'] at hx1 e1 ⊢
      obtain ⟨A2, p1, p2, p3⟩ := m_beep L xs 56 I b c1 hj1.1
      have hj2 := gbeep_J hj1 (by omega) (by omega)
      have hx2 := dX_lt x1
      obtain ⟨x2, hx2'⟩ : ∃ x2, x2 = dX x1 := ⟨_, rfl⟩
      have q2 : ∀ q, q ≠ 70 → A2 q = A q := fun q hq => by rw [p3 q hq, f2 q hq]
      have h31 : gbeep g1 3 ≤ 7 := hj2.1.1
      have hb3 : gbeep g1 0 ≤ 3 := hj2.1.2.1
      rw [e1, B_Model_drawn_63, if_neg (nI_ge (by omega) (by omega)), zr_64_7, zbS, p1, zbV, if_neg (by decide), zdx hx1, B_Model_drawn_86, ← hx2', zr_64_7, zbS, m_topOf' L xs 57 I b p2 hj2.1 zl1 (by decide), zbI]
      rw [← hx2'] at hx2
      dsimp only
      rw [if_neg (by decide), zd3 hx2, B_Model_drawn_104, B_Model_drawn_106]
      have hm3 := Nat.mod_lt x2 (show 0 < 3 by decide)
      by_cases c3 : x2 % 3 = 0
      · rw [if_pos (by rw [zcmp0 (by omega)]; exact c3), nI_1]
        refine ⟨A2, _, _, rfl, ?_, q2⟩
        unfold dG
        cases hf : gtop (gbeep g1) 1 (gbeep g1 3) with
        | none => exact p2
        | some t => simp only [c3, if_true]; exact p2
      · rw [if_neg (by rw [zcmp0 (by omega)]; exact c3)]
        cases hf : gtop (gbeep g1) 1 (gbeep g1 3) with
        | none =>
          rw [if_pos (show zopt none = (-1000000 : Int32) from rfl), nI_1]
          refine ⟨A2, _, _, rfl, ?_, q2⟩
          unfold dG
          rw [hf]
          exact p2
        | some t =>
          obtain ⟨ht, hpt⟩ := gtop_lt _ _ hf
          have hmb := Nat.mod_lt x2 hj2.2.2.2.1
          obtain ⟨A3, r1, r2, r3⟩ := m_packs L xs 54 I b p2 hj2.1 (t := t) (c := x2 % gbeep g1 0) (by omega) (by omega) (by have := hj2.2.2.2.2.2; omega)
          refine ⟨A3, none, some (.int (nI t)), ?_, ?_, fun q hq => by rw [r3 q hq, q2 q hq]⟩
          · rw [show zopt (some t) = nI t from rfl, if_neg (zNn (by omega)), zr_64_7, zbS, zbS, m_rd' I b p2 zl0 (show 0 < 55 by decide), zbS, if_neg (by rw [nI_l (by omega), show (0 : Int64) = lN 0 from by decide, lN_eq (by omega) (by decide)]; omega), B_Model_drawn_132, zdb hx2 hj2.2.2.2.1 hb3, r1, zbV, nI_1]
          · unfold dG
            rw [hf]
            simp only [c3, if_false]
            exact r2
  exact key n (Nat.le_refl _)
theorem P_drawn (h : Rel B I A) (hB2 : B + 120 < 2 ^ 20) (u v w : Int32) : zOk L xs B m_Eggs_drawn m_Model_drawn [.int u, .int v, .int w] I A b := by
  have hw := h
  obtain ⟨g, -, -, -, -, hS, -, -⟩ := hw
  obtain ⟨hc, hm, hI⟩ := hS
  have hB := hI.1
  by_cases h0 : 0 < g 0
  · have c0 : (0 : Int32).toInt = 0 := rfl
    have c1 : (1 : Int32).toInt = 1 := rfl
    have c60 : (60 : Int32).toInt = 60 := rfl
    have c9 : (999999 : Int32).toInt = 999999 := by decide
    by_cases hok : (0 ≤ u ∧ u ≤ 60) ∧ (1 ≤ v ∧ v ≤ 999999) ∧ (0 ≤ w ∧ w ≤ 1)
    · obtain ⟨hu, hv, hww⟩ := hok
      have n1 : ¬ u < 0 := by have := hu.1; rw [fa_le] at this; rw [fa_lt]; omega
      have n2 : ¬ 60 < u := by have := hu.2; rw [fa_le] at this; rw [fa_lt]; omega
      have n3 : ¬ v < 1 := by have := hv.1; rw [fa_le] at this; rw [fa_lt]; omega
      have n4 : ¬ 999999 < v := by have := hv.2; rw [fa_le] at this; rw [fa_lt]; omega
      have n5 : ¬ w < 0 := by have := hww.1; rw [fa_le] at this; rw [fa_lt]; omega
      obtain ⟨n, hn, rfl⟩ := zmm (k := 60) (by decide) hu.1 (by rw [← zl60]; exact hu.2)
      obtain ⟨x, hx, rfl⟩ : ∃ x : Nat, x < 2147483647 ∧ v = nI x := by
        have hp : ¬ v < 0 := by have := hv.1; rw [fa_le] at this; rw [fa_lt]; omega
        obtain ⟨x, hx, e⟩ := nI_of hp
        refine ⟨x, ?_, e⟩
        have := hv.2
        rw [fa_le, e, nI_toInt hx, c9] at this
        omega
      have e32 : Int32.toInt64 (nI x) = lN x := nI_l (by omega)
      have hJ : gJ 999 B g := ⟨hB, hI.2.1, hI.2.2.1, h0, hI.2.2.2.2.2.2.2, hI.2.2.2.2.1⟩
      obtain ⟨I1, A1, b1, b2, b3, b4, b5⟩ := c_become (L := L) (xs := xs) (I := I) (A := A) (b := b) (o := 22) (p := 15) (Or.inr (Or.inl rfl)) (Or.inl rfl) (by decide) 58
      have hc1 : cR I1 A1 22 g := hc.copy hB (Or.inr (Or.inl rfl)) b2 b4
      obtain ⟨I2, A2, t1, t2, t3, t4⟩ := c_trip (L := L) (xs := xs) (b := b) hn hx hc1 hJ (by omega) (by omega) (nI x) e32
      have hjn := (dst_J hx hJ (by omega) (by omega) n hn).2
      have hs1 : zSame I A I2 A2 := zSame.trial (fun o' ho => by rw [t3 o' ho, b3 o' ho]) (fun q hq => by rw [t4 q hq, b5 q (by omega)])
      have hm2 : mR A2 68 g := hm.c (hs1.2.1 68 rfl)
      obtain ⟨A3, y5, y7, m1, m2, m3⟩ := m_trip (L := L) (xs := xs) (I := zuI I2 64 0 0) (b := b) hn hx (m_then hm2) hJ (by omega) (by omega) (nI x) w
      have hs2 : zSame I2 A2 (zuI I2 64 0 0) A3 := (zSame.fI 64 0 0 rfl).trans (zKA_70 (fun q hq => by rw [m3 q hq, zcp_o hq]))
      have hbr : gbroken (dst x g n).2 < 128 := zB_128 _ hjn.1.1
      refine zOk.scr (I1 := I2) (A1 := A2) (b1 := b) (I2 := zuI I2 64 0 0) (A2 := A3) (r := if ¬ w = 0 then nI (zS (gweighs (dst x g n).2) ((dst x g n).2 0)) else nI (zpc (gbroken (dst x g n).2))) h ?_ hs1 ?_ hs2
      · rw [D_Eggs_drawn, B_Eggs_drawn_0, zr_0_2, zbS, c_stands L xs 58 b hc hB, zbI]
        dsimp only
        rw [if_pos h0, if_pos (by decide), if_neg n1, if_neg n2, if_neg n3, if_neg n4, if_neg n5, if_pos hww.2, zr_0_3, zbS, zr_0_2, zbS, b1, zbV, zr_0_3, zbS, t1, zbV]
        by_cases cw : ¬ w = 0
        · rw [if_pos cw, if_pos cw, zr_0_3, zbS, c_weighsInAll L xs 57 b t2 hjn.1, zbI]
        · rw [if_neg cw, if_neg cw, zr_0_3, zbS, t2.crushed, zbS, c_bitCount L xs 58 b hbr, zbI]
      · rw [D_Model_drawn, B_Model_drawn_0, zp_64_0, zbS, m_isThere L xs 58 _ b hm2 hB, zbI]
        dsimp only
        rw [if_pos h0, if_pos (by decide), m_in, zbI]
        dsimp only
        rw [if_pos hu, if_neg (by decide), m_in, zbI]
        dsimp only
        rw [if_pos hv, if_neg (by decide), m_in, zbI]
        dsimp only
        rw [if_pos hww, if_pos (by decide), m_layThen hm2, zbV, e32, m1, B_Model_drawn_63, if_pos (nI_le (Nat.le_refl _) (by omega))]
        by_cases cw : ¬ w = 0
        · rw [if_pos cw, if_pos cw, zr_64_7, zbS, m_allWeigh L xs 56 _ b m2 hjn.1, zbI]
        · rw [if_neg cw, if_neg cw, zr_64_7, zbS, m_broken L xs 57 _ b m2 hjn.1, zbI]
          dsimp only
          rw [m_bits L xs 58 (Nat.lt_trans hbr (by decide)), zbI]
    · refine zOk.pure (r := -1000001) h ?_ ?_
      · rw [D_Eggs_drawn, B_Eggs_drawn_0, zr_0_2, zbS, c_stands L xs 58 b hc hB, zbI]
        dsimp only
        rw [if_pos h0, if_pos (by decide)]
        by_cases n1 : u < 0
        · rw [if_pos n1]
        · by_cases n2 : 60 < u
          · rw [if_neg n1, if_pos n2]
          · by_cases n3 : v < 1
            · rw [if_neg n1, if_neg n2, if_pos n3]
            · by_cases n4 : 999999 < v
              · rw [if_neg n1, if_neg n2, if_neg n3, if_pos n4]
              · by_cases n5 : w < 0
                · rw [if_neg n1, if_neg n2, if_neg n3, if_neg n4, if_pos n5]
                · rw [if_neg n1, if_neg n2, if_neg n3, if_neg n4, if_neg n5, if_neg]
                  intro n6
                  exact hok ⟨⟨fa_of_nlt n1, fa_of_nlt n2⟩, ⟨fa_of_nlt n3, fa_of_nlt n4⟩, fa_of_nlt n5, n6⟩
      · rw [D_Model_drawn, B_Model_drawn_0, zp_64_0, zbS, m_isThere L xs 58 _ b hm hB, zbI]
        dsimp only
        rw [if_pos h0, if_pos (by decide), m_in, zbI]
        dsimp only
        by_cases q1 : 0 ≤ u ∧ u ≤ 60
        · rw [if_pos q1, if_neg (by decide), m_in, zbI]
          dsimp only
          by_cases q2 : 1 ≤ v ∧ v ≤ 999999
          · rw [if_pos q2, if_neg (by decide), m_in, zbI]
            dsimp only
            rw [if_neg (fun q3 => hok ⟨q1, q2, q3⟩), if_neg (by decide)]
          · rw [if_neg q2, if_pos rfl]
        · rw [if_neg q1, if_pos rfl]
  · refine zOk.pure (r := -1000002) h ?_ ?_
    · rw [D_Eggs_drawn, B_Eggs_drawn_0, zr_0_2, zbS, c_stands L xs 58 b hc hB, zbI]
      dsimp only
      rw [if_neg h0, if_neg (by decide)]
    · rw [D_Model_drawn, B_Model_drawn_0, zp_64_0, zbS, m_isThere L xs 58 _ b hm hB, zbI]
      dsimp only
      rw [if_neg h0, if_neg (by decide)]
end
