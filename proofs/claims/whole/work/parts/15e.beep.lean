/-! beeps -/
section
variable {B : Nat} {g : Nat → Nat} {t : Nat}
theorem gpre_D (hD : gD g) : gD (gpre g t) := by
  have e3 : gpre g t 3 = g 3 := gpre_h (by decide) (by decide)
  intro u v hu hv e
  rw [e3] at hu hv
  rw [show go (gpre g t) u = go g u from gpre_w (by decide), show go (gpre g t) v = go g v from gpre_w (by decide)] at e
  exact hD u v hu hv e
theorem gpre_U (hU : gU g) : gU (gpre g t) := by
  intro u hu
  rw [gpre_h (by decide) (by decide)] at hu
  rw [show go (gpre g t) u = go g u from gpre_w (by decide), gpre_h (by decide) (by decide)]
  exact hU u hu
theorem gpre_B (hB : gB g) (h4 : g 4 + 1 < 2 ^ 20) : gB (gpre g t) := by
  refine ⟨by rw [gpre_h (by decide) (by decide)]; exact hB.1, by rw [gpre_h (by decide) (by decide)]; exact hB.2.1, fun j => ?_, fun u hu => by rw [show gs (gpre g t) u = gs g u from gpre_w (by decide)]; exact hB.2.2.2 u hu⟩
  unfold gpre gu
  split
  · exact h4
  · split
    · omega
    · exact hB.2.2.1 j
theorem gpre_top (hf : gfirst g 0 (g 3) = some t) : ghigh (gpre g t) (gp (gpre g t) t) = some t := by
  obtain ⟨ht, hp0⟩ := gfirst_lt _ _ hf
  have ep : ∀ u, gp (gpre g t) u = gp g u := fun u => gpre_w (by decide)
  have eo : ∀ u, go (gpre g t) u = go g u := fun u => gpre_w (by decide)
  rw [ep, hp0]
  have hfe : ∀ n, gfirst (gpre g t) 0 n = gfirst g 0 n := by
    intro n
    induction n with
    | zero => rfl
    | succ n ih =>
      unfold gfirst
      rw [ih, ep]
      cases gfirst g 0 n with
      | none => rfl
      | some v => simp only [eo]
  unfold ghigh
  rw [if_pos rfl, gpre_h (by decide) (by decide), hfe]
  exact hf
end
section
variable {L : Nat} {xs : Nat → Int32} {B n o : Nat} {g g' : Nat → Nat} {hs : Nat → Nat → Nat} {I A : Nat → Nat → Int32} {b : Value}
theorem c_beepOnce {o : Nat} (hc : cR I A o g) (hB : gB g) (hD : gD g) (hU : gU g) (h4 : g 4 + 1 < 2 ^ 20) (d : Nat) : ∃ I' A', pm_call L xs (d + 4) m_Shop_beepOnce [.ref o] (zL I A b) = some (none, zL I' A' b) ∧ cR I' A' o (gbeep g) ∧ (∀ q, q ≠ o + 4 → q ≠ o + 5 → q ≠ o + 6 → A' q = A q) ∧ (∀ o', o' ≠ o → I' o' = I o') := by
  have hn7 := hB.1
  have ho := hc.1
  rw [D_Shop_beepOnce ho, B_Shop_beepOnce_0]
  have e0 : ghigh g 0 = gfirst g 0 (g 3) := if_pos rfl
  simp only [c_topOf' L xs d b hc hB hD zl0 (by decide) (by decide), zbI, hc.beep, zbS, zSp4 ho, e0]
  obtain ⟨g0, g1, g2, g3, g4, g5⟩ := hc.2.1
  cases hf : gfirst g 0 (g 3) with
  | none =>
    rw [if_pos (show zopt none = -1000000 from rfl), gbeep_none hf, nI_1]
    have ew : ∀ j, j ≠ 4 → gu g 4 (g 4 + 1) j = g j := fun j hj => gu_n hj
    refine ⟨_, A, rfl, ⟨ho, ?_, fun u hu => ?_⟩, fun _ _ _ _ => rfl, fun o' ho' => funext fun k => zuI_o ho'⟩
    · have eb : gbroken (gu g 4 (g 4 + 1)) = gbroken g := by
        unfold gbroken
        rw [ew 3 (by decide)]
        apply zB_congr
        intro u _
        rw [show gc (gu g 4 (g 4 + 1)) u = gc g u from ew _ (by omega)]
      rw [ew 0 (by decide), ew 1 (by decide), ew 2 (by decide), ew 3 (by decide), gu_s, eb]
      exact ⟨by rw [zuI_n (by decide)]; exact g0, by rw [zuI_n (by decide)]; exact g1, by rw [zuI_n (by decide)]; exact g2, by rw [zuI_n (by decide)]; exact g3, zuI_s, by rw [zuI_n (by decide)]; exact g5⟩
    · rw [ew 3 (by decide)] at hu
      have eh : gh (gu g 4 (g 4 + 1)) u = gh g u := by
        have ep : ∀ u, gp (gu g 4 (g 4 + 1)) u = gp g u := fun u => ew _ (by omega)
        have eo : ∀ u, go (gu g 4 (g 4 + 1)) u = go g u := fun u => ew _ (by omega)
        unfold gh
        rw [ew 3 (by decide)]
        simp only [ep, eo]
      rw [eh, show gk (gu g 4 (g 4 + 1)) u = gk g u from ew _ (by omega), show gw (gu g 4 (g 4 + 1)) u = gw g u from ew _ (by omega), show gs (gu g 4 (g 4 + 1)) u = gs g u from ew _ (by omega), show gp (gu g 4 (g 4 + 1)) u = gp g u from ew _ (by omega), show gi (gu g 4 (g 4 + 1)) u = gi g u from ew _ (by omega)]
      exact hc.2.2 u hu
  | some t =>
    obtain ⟨ht, hp0⟩ := gfirst_lt _ _ hf
    have ht7 : t < 7 := by omega
    rw [show zopt (some t) = nI t from rfl, if_neg (zNn (by omega)), nI_1]
    simp only [zSr6 ho, zbS, zSg4 ho, zuI_s, z_wr (zSa6 ho) ht7]
    have hc1 : cR (zuI I o 4 (nI (g 4 + 1))) (zuA A (o + 6) t (nI (g 4 + 1))) o (gpre g t) := by
      refine ⟨ho, ?_, fun u hu => ?_⟩
      · have eb : gbroken (gpre g t) = gbroken g := by
          unfold gbroken
          rw [gpre_h (by decide) (by decide)]
          apply zB_congr
          intro u _
          rw [show gc (gpre g t) u = gc g u from gpre_w (by decide)]
        rw [gpre_h (by decide) (by decide), gpre_h (by decide) (by decide), gpre_h (by decide) (by decide), gpre_h (by decide) (by decide), gpre_4, eb]
        exact ⟨by rw [zuI_n (by decide)]; exact g0, by rw [zuI_n (by decide)]; exact g1, by rw [zuI_n (by decide)]; exact g2, by rw [zuI_n (by decide)]; exact g3, zuI_s, by rw [zuI_n (by decide)]; exact g5⟩
      · rw [gpre_h (by decide) (by decide)] at hu
        obtain ⟨k1, k2, k3, k4, k5, k6⟩ := hc.2.2 u hu
        rw [gpre_hh, show gk (gpre g t) u = gk g u from gpre_w (by decide), show gw (gpre g t) u = gw g u from gpre_w (by decide), show gs (gpre g t) u = gs g u from gpre_w (by decide), show gp (gpre g t) u = gp g u from gpre_w (by decide), zuA_o (by omega), zuA_o (by omega), zuA_o (by omega), zuA_o (by omega), zuA_o (by omega)]
        refine ⟨k1, k2, k3, k4, k5, fun hx => ?_⟩
        have hne : u ≠ t := fun e => hx (by rw [e]; exact hp0)
        have e9 : gi (gpre g t) u = gi g u := by
          show gu (gu g (6 + 7 * t + 6) (g 4)) 4 (g 4 + 1) (6 + 7 * u + 6) = g (6 + 7 * u + 6)
          rw [gu_n (show 6 + 7 * u + 6 ≠ 4 by omega), gu_n (show 6 + 7 * u + 6 ≠ 6 + 7 * t + 6 by omega)]
        rw [zuA_s, pk_un hne, e9]
        exact k6 hx
    have e3 : gpre g t 3 = g 3 := gpre_h (by decide) (by decide)
    have e9 : gi (gpre g t) t = g 4 := by
      show gu (gu g (6 + 7 * t + 6) (g 4)) 4 (g 4 + 1) (6 + 7 * t + 6) = g 4
      rw [gu_n (show 6 + 7 * t + 6 ≠ 4 by omega), gu_s]
    obtain ⟨A', x1, x2, x3⟩ := c_put L xs d b hc1 (gpre_B hB h4) (gpre_D hD) (gpre_U hU) (t := t) (p := 1) (by rw [e3]; exact ht) (by decide) (by decide) (by rw [show gp (gpre g t) t = gp g t from gpre_w (by decide), hp0]; decide) (Or.inr (gpre_top hf)) (by rw [zuA_s, pk_us, e9])
    rw [gbeep_some hf]
    refine ⟨_, A', ?_, x2, fun q q1 q2 q3 => by rw [x3 q q1 q2, zuA_o q3], fun o' ho' => funext fun k => zuI_o ho'⟩
    rw [zl1, x1, zbV]
/-- the history after k beeps -/
def bst (n : Nat) (hs : Nat → Nat → Nat) : Nat → Nat × (Nat → Nat → Nat)
  | 0 => (n, hs)
  | k + 1 => (hN (bst n hs k).1, hP (bst n hs k).1 (bst n hs k).2 (gbeep ((bst n hs k).2 (bst n hs k).1)))
theorem bst_le (hn : n ≤ 24) : ∀ k, (bst n hs k).1 ≤ 24
  | 0 => hn
  | _ + 1 => hN_le _
theorem bst_ok (hn : n ≤ 24) (hI : gI B (hs n)) (h0 : 0 < hs n 0) (hG : zHg B n hs) (N : Nat) (h4 : hs n 4 + N ≤ 999) (hB2 : B + N < 2 ^ 20) : ∀ k, k ≤ N → gI (B + k) ((bst n hs k).2 (bst n hs k).1) ∧ 0 < (bst n hs k).2 (bst n hs k).1 0 ∧ zHg (B + k) (bst n hs k).1 (bst n hs k).2 ∧ (bst n hs k).2 (bst n hs k).1 4 = hs n 4 + k
  | 0, _ => ⟨hI, h0, hG, rfl⟩
  | k + 1, hk => by
    obtain ⟨i1, i2, i3, i4⟩ := bst_ok hn hI h0 hG N h4 hB2 k (by omega)
    have e : (bst n hs (k + 1)).2 (bst n hs (k + 1)).1 = gbeep ((bst n hs k).2 (bst n hs k).1) := hP_top (bst_le hn k)
    rw [e]
    refine ⟨i1.beep (by omega) i2 (by omega), by rw [gbeep_0]; exact i2, (i3.push (bst_le hn k) i1 i2).mono (by omega), by rw [gbeep_4, i4]; omega⟩
theorem P_beeps (h : Rel B I A) (hB2 : B + 24 < 2 ^ 20) (v : Int32) : zOk L xs (B + 24) m_Eggs_beeps m_Model_beeps [.int v] I A b := by
  have hw := h
  obtain ⟨g, -, -, -, -, hS, -, hH⟩ := hw
  obtain ⟨n, o, hs, hc', hm', hG, rfl⟩ := hH.un
  have hS' := hS
  obtain ⟨hc, hm, hI⟩ := hS'
  have hB := hI.1
  have h4 := hI.2.2.2.2.2.2.2
  have bad : ∀ (r : Int32), pm_call L xs 60 m_Eggs_beeps [.ref 0, .int v] (zL I A b) = some (some (.int r), zL I A b) → pm_call L xs 60 m_Model_beeps [.ref 64, .int v] (zL I A b) = some (some (.int r), zL (zuI I 64 0 0) A b) → zOk L xs (B + 24) m_Eggs_beeps m_Model_beeps [.int v] I A b := fun r e1 e2 => ⟨r, I, A, _, A, b, e1, e2, (h.same (zSame.fI 64 0 0 rfl)).mono (by omega)⟩
  by_cases h0 : 0 < hs n 0
  · by_cases h1 : 1 ≤ v ∧ v ≤ 24
    · obtain ⟨N, hN24, rfl⟩ := zmm (v := v) (k := 24) (by decide) (by have := h1.1; rw [fa_le] at this ⊢; rw [show (1 : Int32).toInt = 1 by decide] at this; rw [show (0 : Int32).toInt = 0 by decide]; omega) h1.2
      have hN1 : 1 ≤ N := by
        have := h1.1
        rw [zl1, nI_leI (by decide) (by omega)] at this
        exact this
      have e1 : ¬ nI N < 1 := by rw [zl1, nI_ltI (by omega) (by decide)]; omega
      have e2 : ((nI (hs n 4) ≤ (999 : Int32) - nI N) : Prop) = (hs n 4 + N ≤ 999) := by
        rw [zl999, pk_sub (by omega), znL (by omega) (by omega)]
        apply propext
        omega
      have e3 : ((nI (hs n 4) + nI N ≤ (999 : Int32)) : Prop) = (hs n 4 + N ≤ 999) := by
        rw [zl999, nI_add, znL (by omega) (by decide)]
      by_cases h2 : hs n 4 + N ≤ 999
      · have ok := bst_ok hc'.1 hI h0 hG N h2 (by omega)
        have cl : ∀ k, k ≤ N → ∃ I' A' o', zE L xs 59 K_Eggs_beeps 47 [some (.ref 0), some (.int (nI N)), some (.int 0)] [] (zL I A b) = zE L xs 59 K_Eggs_beeps 47 [some (.ref 0), some (.int (nI N)), some (.int (nI k))] [] (zL I' A' b) ∧ cR I' A' 15 ((bst n hs k).2 (bst n hs k).1) ∧ zHc (bst n hs k).1 o' (bst n hs k).2 I' A' ∧ (∀ q, ¬ (16 ≤ q ∧ q ≤ 21) → ¬ (45 ≤ q ∧ q ≤ 48) → A' q = A q) ∧ ∀ o', o' ≠ 15 → o' ≠ 44 → I' o' = I o' := by
          intro k
          induction k with
          | zero => intro _; exact ⟨I, A, o, rfl, hc, hc', fun _ _ _ => rfl, fun _ _ _ => rfl⟩
          | succ k ih =>
            intro hk
            obtain ⟨I1, A1, o1, q1, q2, q3, q4, q5⟩ := ih (by omega)
            obtain ⟨i1, i2, i3, i4⟩ := ok k (by omega)
            obtain ⟨m, hm0⟩ : ∃ m, m = (bst n hs k).1 := ⟨_, rfl⟩
            obtain ⟨hq, hh0⟩ : ∃ hq, hq = (bst n hs k).2 := ⟨_, rfl⟩
            have est : bst n hs (k + 1) = (hN m, hP m hq (gbeep (hq m))) := by
              show (hN (bst n hs k).1, hP (bst n hs k).1 (bst n hs k).2 (gbeep ((bst n hs k).2 (bst n hs k).1))) = _
              rw [← hm0, ← hh0]
            rw [← hm0, ← hh0] at q2 q3 i1 i2 i3 i4
            rw [est]
            have n7 := i1.1.1
            have et : ghigh (hq m) 0 = gfirst (hq m) 0 (hq m 3) := if_pos rfl
            obtain ⟨f, hf⟩ : ∃ f : Int32, (f = -1000000 ∧ zopt (gfirst (hq m) 0 (hq m 3)) = -1000000 ∨ ∃ t, t < 7 ∧ zopt (gfirst (hq m) 0 (hq m 3)) = nI t ∧ f = A1 19 t) ∧ ∀ t, gfirst (hq m) 0 (hq m 3) = some t → f = nI 0 := by
              cases hf : gfirst (hq m) 0 (hq m 3) with
              | none => exact ⟨-1000000, Or.inl ⟨rfl, rfl⟩, fun t ht => by cases ht⟩
              | some t =>
                obtain ⟨t1, t2⟩ := gfirst_lt _ _ hf
                refine ⟨A1 19 t, Or.inr ⟨t, by omega, rfl, rfl⟩, fun t' ht' => ?_⟩
                cases ht'
                rw [(q2.2.2 t t1).2.2.2.1, t2]
            have hkp := c_keep (L := L) (xs := xs) (b := b) (s := 1) (m := zopt (gfirst (hq m) 0 (hq m 3))) (f := f) q3 hf.1 58
            obtain ⟨I2, hI2⟩ : ∃ I2, I2 = if m < 24 then zuI I1 44 5 (nI (m + 1)) else zuI I1 44 4 (nI ((o1 + 1) % 24)) := ⟨_, rfl⟩
            obtain ⟨A2, hA2⟩ : ∃ A2, A2 = zuA (zuA (zuA (zuA A1 45 ((o1 + m) % 24) 1) 46 ((o1 + m) % 24) (zopt (gfirst (hq m) 0 (hq m 3)))) 47 ((o1 + m) % 24) f) 48 ((o1 + m) % 24) (I1 15 5) := ⟨_, rfl⟩
            rw [← hI2, ← hA2] at hkp
            have f1 : ∀ o', o' ≠ 44 → I2 o' = I1 o' := by
              intro o' ho'
              rw [hI2]
              split <;> (funext k; exact zuI_o ho')
            have f2 : ∀ q, ¬ (45 ≤ q ∧ q ≤ 48) → A2 q = A1 q := fun q hq => by rw [hA2, zuA_o (by omega), zuA_o (by omega), zuA_o (by omega), zuA_o (by omega)]
            have hc1 : cR I2 A2 15 (hq m) := q2.c (f1 15 (by decide)) (fun q _ _ => f2 q (by omega))
            obtain ⟨I3, A3, l1, l2, l3, l4⟩ := c_beepOnce (L := L) (xs := xs) (b := b) hc1 i1.1 i1.2.1 i1.2.2.1 (by omega) 55
            refine ⟨I3, A3, hO m o1, ?_, ?_, ?_, fun q r1 r2 => by rw [l3 q (by omega) (by omega) (by omega), f2 q r2, q4 q r1 r2], fun o' o1 o2 => by rw [l4 o' o1, f1 o' o2, q5 o' o1 o2]⟩
            · rw [q1, B_Eggs_beeps_47, if_neg (nI_ge (show k < N by omega) (by omega))]
              simp only [zr_0_5, zr_0_2, zbS, c_topOf' L xs 56 b q2 i1.1 i1.2.1 zl0 (by decide) (by decide), zbI, et, hkp, zbV, l1, nI_1]
            · show cR I3 A3 15 (hP m hq (gbeep (hq m)) (hN m))
              rw [hP_top q3.1]
              exact l2
            · refine q3.kept q2 (gBack_beep i1 f hf.2) ?_ (fun q r1 r2 => ?_)
              · rw [l4 44 (by decide), hI2]
              · rw [l3 q (by omega) (by omega) (by omega), hA2]
        obtain ⟨I1, A1, o1, q1, q2, q3, q4, q5⟩ := cl N (Nat.le_refl _)
        obtain ⟨i1, i2, i3, i4⟩ := ok N (Nat.le_refl _)
        have hmA : mR A1 68 (hs n) := hm.c (q4 68 (by decide) (by decide))
        have hmH : zHm n hs (zuI I1 64 0 0) A1 := hm'.c (by rw [zuI_n (by decide), q5 64 (by decide) (by decide)]) (q4 71 (by decide) (by decide))
        have ml : ∀ k, k ≤ N → ∃ I' A', zE L xs 59 K_Model_beeps 49 [some (.ref 64), some (.int (nI N)), some (.int 0)] [] (zL (zuI I1 64 0 0) A1 b) = zE L xs 59 K_Model_beeps 49 [some (.ref 64), some (.int (nI N)), some (.int (nI k))] [] (zL I' A' b) ∧ mR A' 68 ((bst n hs k).2 (bst n hs k).1) ∧ zHm (bst n hs k).1 (bst n hs k).2 I' A' ∧ (∀ q, q ≠ 68 → q ≠ 71 → A' q = A1 q) ∧ ∀ o' k', ¬ (o' = 64 ∧ k' = 9) → I' o' k' = zuI I1 64 0 0 o' k' := by
          intro k
          induction k with
          | zero => intro _; exact ⟨_, A1, rfl, hmA, hmH, fun _ _ _ => rfl, fun _ _ _ => rfl⟩
          | succ k ih =>
            intro hk
            obtain ⟨I2, A2, r1, r2, r3, r4, r5⟩ := ih (by omega)
            obtain ⟨j1, j2, j3, j4⟩ := ok k (by omega)
            obtain ⟨I3, A3, k1, k2, k3, k4⟩ := m_keep (L := L) (xs := xs) (b := b) r3 r2 (gbeep ((bst n hs k).2 (bst n hs k).1)) 58
            have hm3 : mR A3 68 ((bst n hs k).2 (bst n hs k).1) := r2.c (k3 68 (by decide))
            obtain ⟨A4, p1, p2, p3⟩ := m_beep L xs 56 I3 b hm3 j1.1
            refine ⟨I3, A4, ?_, ?_, ?_, fun q a1 a2 => by rw [p3 q a1, k3 q a2, r4 q a1 a2], fun o' k' a1 => by rw [k4 o' k' a1, r5 o' k' a1]⟩
            · rw [r1, B_Model_beeps_49, if_neg (nI_ge (show k < N by omega) (by omega)), k1, zbV, zr_64_5, zbS, p1, zbV, nI_1]
            · have e : (bst n hs (k + 1)).2 (bst n hs (k + 1)).1 = gbeep ((bst n hs k).2 (bst n hs k).1) := hP_top (bst_le hc'.1 k)
              rw [e]
              exact p2
            · exact k2.c rfl (p3 71 (by decide))
        obtain ⟨I2, A2, r1, r2, r3, r4, r5⟩ := ml N (Nat.le_refl _)
        have hset : gset ((bst n hs N).2 (bst n hs N).1) 0 < 128 := zB_128 _ i1.1.1
        refine ⟨nI (gcount ((bst n hs N).2 (bst n hs N).1) 0), I1, A1, I2, A2, b, ?_, ?_, ?_⟩
        · rw [D_Eggs_beeps, B_Eggs_beeps_0]
          simp only [zr_0_2, zbS, c_stands L xs 58 b hc hB, zbI, h0, if_true, e1, if_false, h1, hc.beep, e2, h2]
          rw [if_pos (by decide), q1, B_Eggs_beeps_47, if_pos (nI_le (Nat.le_refl _) (by omega))]
          simp only [zr_0_2, zbS, c_countAt' L xs 57 b q2 i1.1 zl0 (by decide), zbI]
        · rw [D_Model_beeps, B_Model_beeps_0]
          simp only [zp_64_0, zbS, m_isThere L xs 58 _ b hmA hB, zbI, h0, if_true, m_in L xs, h1, and_self, zr_64_5, m_rd' _ b hmA zl4 (show 4 < 55 by decide), e3, h2]
          rw [if_pos (by decide), if_pos (by decide), r1, B_Model_beeps_49, if_pos (nI_le (Nat.le_refl _) (by omega))]
          simp only [zr_64_5, zbS, m_things' L xs 57 _ b r2 i1.1 zl0 (by decide), zbI, m_bits L xs 58 (show gset ((bst n hs N).2 (bst n hs N).1) 0 < 2 ^ 31 by omega)]
          unfold gset gcount
          rw [zpc_B _ _ i1.1.1]
        · refine (h.acted (B' := B + N) (g' := (bst n hs N).2 (bst n hs N).1) (by omega) (fun o' k hk a1 a2 a3 => ?_) (fun q hq a1 a2 a3 a4 => ?_) ?_ ?_ ⟨?_, r2, i1⟩ (zHs.up (n := (bst n hs N).1) (o := o1) (hs := (bst n hs N).2) ?_ r3 i3 rfl)).mono (by omega)
          · rw [r5 o' k a3]
            simp only [zuI_at, if_neg (zKI_0 hk)]
            rw [q5 o' a1 a2]
          · rw [r4 q a3 a4, q4 q a1 a2]
          · rw [r4 60 (by decide) (by decide), q4 60 (by decide) (by decide)]
          · rw [r4 61 (by decide) (by decide), q4 61 (by decide) (by decide)]
          · exact q2.c (funext fun k => by rw [r5 15 k (by omega)]; exact zuI_o (by decide)) (fun q _ _ => r4 q (by omega) (by omega))
          · exact q3.c (by rw [r5 44 4 (by omega)]; exact zuI_o (by decide)) (by rw [r5 44 5 (by omega)]; exact zuI_o (by decide)) (fun q _ _ => r4 q (by omega) (by omega))
      · refine bad (-1000003) ?_ ?_
        · rw [D_Eggs_beeps, B_Eggs_beeps_0]
          simp only [zr_0_2, zbS, c_stands L xs 58 b hc hB, zbI, h0, if_true, e1, if_false, h1, hc.beep, e2, h2]
          rw [if_pos (by decide)]
        · rw [D_Model_beeps, B_Model_beeps_0]
          simp only [zp_64_0, zbS, m_isThere L xs 58 _ b hm hB, zbI, h0, if_true, m_in L xs, h1, and_self, zr_64_5, m_rd' _ b hm zl4 (show 4 < 55 by decide), e3, h2, if_false]
          rw [if_pos (by decide), if_pos (by decide)]
    · refine bad (-1000001) ?_ ?_
      · rw [D_Eggs_beeps, B_Eggs_beeps_0]
        simp only [zr_0_2, zbS, c_stands L xs 58 b hc hB, zbI, h0, if_true]
        rw [if_pos (by decide)]
        by_cases c : v < 1
        · rw [if_pos c]
        · rw [if_neg c, if_neg (fun q => h1 ⟨fa_of_nlt c, q⟩)]
      · rw [D_Model_beeps, B_Model_beeps_0]
        simp only [zp_64_0, zbS, m_isThere L xs 58 _ b hm hB, zbI, h0, if_true, m_in L xs, h1, if_false]
        rw [if_pos (by decide), if_neg (by decide)]
  · refine bad (-1000002) ?_ ?_
    · rw [D_Eggs_beeps, B_Eggs_beeps_0]
      simp only [zr_0_2, zbS, c_stands L xs 58 b hc hB, zbI, zne, h0, not_true_eq_false, not_false_eq_true, if_false]
    · rw [D_Model_beeps, B_Model_beeps_0]
      simp only [zp_64_0, zbS, m_isThere L xs 58 _ b hm hB, zbI, zne, h0, not_true_eq_false, not_false_eq_true, if_false]
end
