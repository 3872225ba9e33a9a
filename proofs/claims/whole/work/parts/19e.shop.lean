section
variable {L : Nat} {xs : Nat → Int32} {n : Nat} {tp : Nat → Nat} {I A : Nat → Nat → Int32} {b : Value} {s : Nat × Nat} {B H W : Nat} {T : zTg}
/-- the trial SHOP while it is read -/
def cT (B H W : Nat) (T : zTg) (I A : Nat → Nat → Int32) : Prop := (I 22 0 = nI B ∧ I 22 1 = nI H ∧ I 22 2 = nI W ∧ I 22 3 = nI T.length ∧ I 22 4 = 0 ∧ I 22 5 = 0) ∧ ∀ t, t < T.length → A 23 t = nI (T.getD t (0, 0, 0)).1 ∧ A 24 t = nI (T.getD t (0, 0, 0)).2.1 ∧ A 25 t = nI (T.getD t (0, 0, 0)).2.2
def fR (I A I' A' : Nat → Nat → Int32) : Prop := (∀ o k, ¬ (o = 13 ∧ (k = 2 ∨ k = 3)) → o ≠ 22 → I' o k = I o k) ∧ ∀ q, (q < 23 ∨ 28 < q) → A' q = A q
theorem fR.refl : fR I A I A := ⟨fun _ _ _ _ => rfl, fun _ _ => rfl⟩
theorem fR.trans {I1 A1 I2 A2 : Nat → Nat → Int32} (h : fR I A I1 A1) (k : fR I1 A1 I2 A2) : fR I A I2 A2 := ⟨fun o j h1 h2 => (k.1 o j h1 h2).trans (h.1 o j h1 h2), fun q hq => (k.2 q hq).trans (h.2 q hq)⟩
theorem f13.R {I' : Nat → Nat → Int32} (h : f13 I I') : fR I A I' A := ⟨fun o k h1 _ => h o k h1, fun _ _ => rfl⟩
theorem cT.c {I' : Nat → Nat → Int32} (h : cT B H W T I A) (h1 : f13 I I') : cT B H W T I' A := by
  unfold cT at h ⊢
  rw [h1 22 0 (by decide), h1 22 1 (by decide), h1 22 2 (by decide), h1 22 3 (by decide), h1 22 4 (by decide), h1 22 5 (by decide)]
  exact h
theorem zS22 : zSh 22 := Or.inr (Or.inl rfl)
theorem c_open (h : tC n tp s I A) (d : Nat) : ∃ I', pm_call L xs (d + 1) m_Shop_open [.ref 22, .int (nI B), .int (nI H), .int (nI W)] (zL I A b) = some (none, zL I' A b) ∧ cT B H W [] I' A ∧ tC n tp s I' A ∧ fR I A I' A := by
  rw [D_Shop_open (ho := zS22), B_Shop_open_0, zSp0 zS22, zbS, zSp1 zS22, zbS, zSp2 zS22, zbS, zSp3 zS22, zbS, zSp4 zS22, zbS, zSp5 zS22, zbS]
  refine ⟨_, rfl, ⟨⟨?_, ?_, ?_, ?_, ?_, ?_⟩, fun t ht => absurd ht (Nat.not_lt_zero _)⟩, ?_, ⟨fun o k h1 h2 => ?_, fun _ _ => rfl⟩⟩
  · rw [zuI_n (by decide), zuI_n (by decide), zuI_n (by decide), zuI_n (by decide), zuI_n (by decide), zuI_s]
  · rw [zuI_n (by decide), zuI_n (by decide), zuI_n (by decide), zuI_n (by decide), zuI_s]
  · rw [zuI_n (by decide), zuI_n (by decide), zuI_n (by decide), zuI_s]
  · rw [zuI_n (by decide), zuI_n (by decide), zuI_s]; rfl
  · rw [zuI_n (by decide), zuI_s]
  · rw [zuI_s]
  · unfold tC at h ⊢
    rw [zuI_o (by decide), zuI_o (by decide), zuI_o (by decide), zuI_o (by decide), zuI_o (by decide), zuI_o (by decide), zuI_o (by decide), zuI_o (by decide), zuI_o (by decide), zuI_o (by decide), zuI_o (by decide), zuI_o (by decide), zuI_o (by decide), zuI_o (by decide), zuI_o (by decide), zuI_o (by decide), zuI_o (by decide), zuI_o (by decide)]
    exact h
  · rw [zuI_o h2, zuI_o h2, zuI_o h2, zuI_o h2, zuI_o h2, zuI_o h2]
theorem c_readLaw (hT : tGood n tp) (h : tC n tp (0, 0) I A) (d : Nat) : ∃ I', pm_call L xs (d + 3) m_Tape_readLaw [.ref 13, .ref 22] (zL I A b) = some (none, zL I' A b) ∧ cT (pLaw n tp).2.1 (pLaw n tp).2.2.1 (pLaw n tp).2.2.2 [] I' A ∧ tC n tp (pLaw n tp).1 I' A ∧ fR I A I' A := by
  have g0 : sGood n (0, 0) := ⟨Nat.zero_le _, by show (0 : Nat) ≤ 3; omega⟩
  obtain ⟨I1, x1, x2, x3⟩ := c_readSign (L := L) (xs := xs) (b := b) hT g0 h (c := 101) (by decide) (v := 101) (by decide) (d + 1)
  have g1 := pSg_good (tp := tp) (c := 101) g0
  obtain ⟨I2, y1, y2, y3⟩ := c_readNumber (L := L) (xs := xs) (b := b) hT g1 x2 (lo := 1) (hi := 3) (by decide) (by decide) zl1 zl3 (d + 1)
  have g2 := pNm_good (tp := tp) (lo := 1) (hi := 3) g1
  obtain ⟨I3, z1, z2, z3⟩ := c_readSign (L := L) (xs := xs) (b := b) hT g2 y2 (c := 44) (by decide) (v := 44) (by decide) (d + 1)
  have g3 := pSg_good (tp := tp) (c := 44) g2
  obtain ⟨I4, u1, u2, u3⟩ := c_readNumber (L := L) (xs := xs) (b := b) hT g3 z2 (lo := 5) (hi := 60) (by decide) (by decide) zl5 zl60 (d + 1)
  have g4 := pNm_good (tp := tp) (lo := 5) (hi := 60) g3
  obtain ⟨I5, v1, v2, v3⟩ := c_readSign (L := L) (xs := xs) (b := b) hT g4 u2 (c := 44) (by decide) (v := 44) (by decide) (d + 1)
  have g5 := pSg_good (tp := tp) (c := 44) g4
  obtain ⟨I6, w1, w2, w3⟩ := c_readNumber (L := L) (xs := xs) (b := b) hT g5 v2 (lo := 1) (hi := 40) (by decide) (by decide) zl1 zl40 (d + 1)
  have g6 := pNm_good (tp := tp) (lo := 1) (hi := 40) g5
  obtain ⟨I7, p1, p2, p3⟩ := c_readSign (L := L) (xs := xs) (b := b) hT g6 w2 (c := 59) (by decide) (v := 59) (by decide) (d + 1)
  obtain ⟨I8, q1, q2, q3, q4⟩ := c_open (L := L) (xs := xs) (b := b) (B := (pLaw n tp).2.1) (H := (pLaw n tp).2.2.1) (W := (pLaw n tp).2.2.2) p2 (d + 1)
  refine ⟨I8, ?_, q2, q3, (f13.R (((((x3.trans y3).trans z3).trans u3).trans v3).trans (w3.trans p3))).trans q4⟩
  rw [D_Tape_readLaw, B_Tape_readLaw_0, x1, zbV, y1, zbI]
  dsimp only
  rw [z1, zbV, u1, zbI]
  dsimp only
  rw [v1, zbV, w1, zbI]
  dsimp only
  rw [p1, zbV]
  have e : pm_call L xs (d + 2) m_Shop_open [.ref 22, .int (nI (pNm n tp 1 3 (pSg n tp 101 (0, 0))).2), .int (nI (pNm n tp 5 60 (pSg n tp 44 (pNm n tp 1 3 (pSg n tp 101 (0, 0))).1)).2), .int (nI (pNm n tp 1 40 (pSg n tp 44 (pNm n tp 5 60 (pSg n tp 44 (pNm n tp 1 3 (pSg n tp 101 (0, 0))).1)).1)).2)] (zL I7 A b) = some (none, zL I8 A b) := q1
  rw [e, zbV]
theorem c_readThing (hT : tGood n tp) {X : zPX} (hs : sGood n X.1) (hx : tgOK X.2) (h : tC n tp X.1 I A) (hc : cT B H W X.2 I A) (d : Nat) : ∃ I' A', pm_call L xs (d + 3) m_Tape_readThing [.ref 13, .ref 22] (zL I A b) = some (none, zL I' A' b) ∧ cT B H W (pStep n tp X).2 I' A' ∧ tC n tp (pStep n tp X).1 I' A' ∧ fR I A I' A' := by
  obtain ⟨s, T⟩ := X
  dsimp only at hs hx h hc
  have h7 := hx.1
  obtain ⟨I1, x1, x2, x3⟩ := c_readSort (L := L) (xs := xs) (b := b) hT hs h h7 d
  have g1 := pSo_good (tp := tp) (th := T.length) hs
  obtain ⟨I2, y1, y2, y3⟩ := c_readNumber (L := L) (xs := xs) (b := b) hT g1 x2 (lo := 1) (hi := 20) (by decide) (by decide) zl1 zl20 (d + 1)
  have g2 := pNm_good (tp := tp) (lo := 1) (hi := 20) g1
  obtain ⟨I3, z1, z2, z3⟩ := c_readSign (L := L) (xs := xs) (b := b) hT g2 y2 (c := 44) (by decide) (v := 44) (by decide) (d + 1)
  have g3 := pSg_good (tp := tp) (c := 44) g2
  obtain ⟨I4, u1, u2, u3⟩ := c_readNumber (L := L) (xs := xs) (b := b) hT g3 z2 (lo := 0) (hi := 9) (by decide) (by decide) zl0 zl9 (d + 1)
  have g4 := pNm_good (tp := tp) (lo := 0) (hi := 9) g3
  obtain ⟨I5, v1, v2, v3⟩ := c_readSign (L := L) (xs := xs) (b := b) hT g4 u2 (c := 59) (by decide) (v := 59) (by decide) (d + 1)
  have hf := (((x3.trans y3).trans z3).trans u3).trans v3
  have hc5 := hc.c hf
  have hp : (pTh n tp T.length s).1 = pSg n tp 59 (pNm n tp 0 9 (pSg n tp 44 (pNm n tp 1 20 (pSo n tp T.length s).1).1)).1 := rfl
  rw [← hp] at v2
  rw [D_Tape_readThing, B_Tape_readThing_0, zSg3 zS22, zbS, hc.1.2.2.2.1, x1, zbI]
  dsimp only
  rw [y1, zbI]
  dsimp only
  rw [z1, zbV, u1, zbI]
  dsimp only
  rw [v1, zbV, zg_13_3, zbS, v2.2.2.1]
  unfold pStep
  dsimp only
  by_cases c : (pTh n tp T.length s).1.2 ≠ 0
  · rw [if_pos c, if_pos (nI_ne0 (by omega) (by have := (pTh_good (tp := tp) (th := T.length) hs).2; omega))]
    exact ⟨I5, A, rfl, hc5, v2, f13.R hf⟩
  · have c0 : (pTh n tp T.length s).1.2 = 0 := by omega
    obtain ⟨-, -, -, hl, -⟩ := pTh_ok c0
    have hl7 : nI T.length < (7 : Int32) := by rw [zl7]; exact nI_lt hl (by decide)
    rw [if_neg c, if_neg (fun q => q (by rw [c0]; rfl)), D_Shop_add (ho := zS22), B_Shop_add_0, zSg3 zS22, zbS, hc5.1.2.2.2.1, if_pos hl7, zSr1 zS22, zbS, zbS, z_wr (zSa1 zS22) hl, zbS, zSr2 zS22, zbS, zSg3 zS22, zbS, hc5.1.2.2.2.1, z_wr (zSa2 zS22) hl, zbS, zSr3 zS22, zbS, zSg3 zS22, zbS, hc5.1.2.2.2.1, z_wr (zSa3 zS22) hl, zbS, zSg3 zS22, zbS, hc5.1.2.2.2.1, nI_1, zSp3 zS22, zbS, zbV]
    obtain ⟨A6, hA6⟩ : ∃ A6, A6 = zuA (zuA (zuA A (22 + 1) T.length (nI (pSo n tp T.length s).2)) (22 + 2) T.length (nI (pNm n tp 1 20 (pSo n tp T.length s).1).2)) (22 + 3) T.length (nI (pNm n tp 0 9 (pSg n tp 44 (pNm n tp 1 20 (pSo n tp T.length s).1).1)).2) := ⟨_, rfl⟩
    rw [← hA6]
    have fA : ∀ q, (q < 23 ∨ 28 < q) → A6 q = A q := fun q hq => by rw [hA6, zuA_o (by omega), zuA_o (by omega), zuA_o (by omega)]
    have hl2 : (T ++ [(pTh n tp T.length s).2]).length = T.length + 1 := by simp
    refine ⟨_, A6, rfl, ⟨⟨?_, ?_, ?_, ?_, ?_, ?_⟩, fun t ht => ?_⟩, ⟨?_, ?_, ?_, fun i hi => ?_⟩, (f13.R hf).trans ⟨fun o k _ h2 => zuI_o h2, fA⟩⟩
    · rw [zuI_n (by decide)]; exact hc5.1.1
    · rw [zuI_n (by decide)]; exact hc5.1.2.1
    · rw [zuI_n (by decide)]; exact hc5.1.2.2.1
    · rw [zuI_s, hl2]
    · rw [zuI_n (by decide)]; exact hc5.1.2.2.2.2.1
    · rw [zuI_n (by decide)]; exact hc5.1.2.2.2.2.2
    · rw [hl2] at ht
      have e1 : A6 23 = upd (A 23) T.length (nI (pSo n tp T.length s).2) := by rw [hA6, zuA_o (by decide), zuA_o (by decide), zuA_s]
      have e2 : A6 24 = upd (A 24) T.length (nI (pNm n tp 1 20 (pSo n tp T.length s).1).2) := by rw [hA6, zuA_o (by decide), zuA_s, zuA_o (by decide)]
      have e3 : A6 25 = upd (A 25) T.length (nI (pNm n tp 0 9 (pSg n tp 44 (pNm n tp 1 20 (pSo n tp T.length s).1).1)).2) := by rw [hA6, zuA_s, zuA_o (by decide), zuA_o (by decide)]
      rw [e1, e2, e3]
      by_cases e : t = T.length
      · subst e
        have hg : (T ++ [(pTh n tp T.length s).2]).getD T.length (0, 0, 0) = (pTh n tp T.length s).2 := by simp
        rw [hg, pk_us, pk_us, pk_us]
        exact ⟨rfl, rfl, rfl⟩
      · have hg : (T ++ [(pTh n tp T.length s).2]).getD t (0, 0, 0) = T.getD t (0, 0, 0) := by simp only [List.getD_eq_getElem?_getD, List.getElem?_append_left (show t < T.length by omega)]
        rw [hg, pk_un e, pk_un e, pk_un e]
        exact hc5.2 t (by omega)
    · rw [zuI_o (by decide)]; exact v2.1
    · rw [zuI_o (by decide)]; exact v2.2.1
    · rw [zuI_o (by decide)]; exact v2.2.2.1
    · rw [fA 14 (by omega)]; exact v2.2.2.2 i hi
theorem c_layAll (hx : tgOK T) (hc : cT B H W T I A) (d : Nat) : ∃ A', pm_call L xs (d + 1) m_Shop_layAllOnBelt [.ref 22] (zL I A b) = some (none, zL I A' b) ∧ cR I A' 22 (gN B H W T) ∧ ∀ q, (q < 23 ∨ 28 < q) → A' q = A q := by
  have h7 := hx.1
  rw [D_Shop_layAllOnBelt (ho := zS22), B_Shop_layAllOnBelt_0]
  have key : ∀ k, k ≤ T.length → ∃ A', zE L xs d K_Shop_layAllOnBelt 2 [some (.ref 22), some (.int (0 : Int32))] [] (zL I A b) = zE L xs d K_Shop_layAllOnBelt 2 [some (.ref 22), some (.int (nI k))] [] (zL I A' b) ∧ (∀ q, (q < 26 ∨ 28 < q) → A' q = A q) ∧ ∀ t, t < k → A' 26 t = 0 ∧ A' 27 t = nI (T.length - 1 - t) := by
    intro k
    induction k with
    | zero => intro _; exact ⟨A, rfl, fun _ _ => rfl, fun t ht => absurd ht (Nat.not_lt_zero _)⟩
    | succ k ih =>
      intro hk
      obtain ⟨A1, e1, f1, f2⟩ := ih (by omega)
      rw [e1, B_Shop_layAllOnBelt_2, zSg3 zS22, zbS, hc.1.2.2.2.1, if_neg (nI_ge (by omega) (by omega)), zSr4 zS22, zbS, z_wr (zSa4 zS22) (show k < 7 by omega), zbS, zSr5 zS22, zbS, zSg3 zS22, zbS, hc.1.2.2.2.1, z_wr (zSa5 zS22) (show k < 7 by omega), zbS, zSr6 zS22, zbS, z_wr (zSa6 zS22) (show k < 7 by omega), zbS, nI_1]
      refine ⟨_, rfl, fun q hq => by rw [zuA_o (by omega), zuA_o (by omega), zuA_o (by omega), f1 q hq], fun t ht => ?_⟩
      have e1 : zuA (zuA (zuA A1 (22 + 4) k 0) (22 + 5) k (nI T.length - 1 - nI k)) (22 + 6) k 0 26 = upd (A1 26) k 0 := by rw [zuA_o (by decide), zuA_o (by decide), zuA_s]
      have e2 : zuA (zuA (zuA A1 (22 + 4) k 0) (22 + 5) k (nI T.length - 1 - nI k)) (22 + 6) k 0 27 = upd (A1 27) k (nI T.length - 1 - nI k) := by rw [zuA_o (by decide), zuA_s, zuA_o (by decide)]
      rw [e1, e2]
      by_cases e : t = k
      · subst e
        rw [pk_us, pk_us, zl1, pk_sub (by omega), pk_sub (by omega)]
        exact ⟨rfl, rfl⟩
      · rw [pk_un e, pk_un e]
        exact f2 t (by omega)
  obtain ⟨A1, e1, f1, f2⟩ := key T.length (Nat.le_refl _)
  refine ⟨A1, by rw [e1, B_Shop_layAllOnBelt_2, zSg3 zS22, zbS, hc.1.2.2.2.1, if_pos (nI_le (Nat.le_refl _) (by omega))], ⟨zS22, ⟨hc.1.1, hc.1.2.1, hc.1.2.2.1, hc.1.2.2.2.1, hc.1.2.2.2.2.1, by rw [gN_br]; exact hc.1.2.2.2.2.2⟩, fun t ht => ?_⟩, fun q hq => f1 q (by omega)⟩
  have ht' : t < T.length := ht
  rw [gN_k ht', gN_ww ht', gN_s ht', gN_p, gN_h ht', f1 (22 + 1) (by omega), f1 (22 + 2) (by omega), f1 (22 + 3) (by omega)]
  obtain ⟨q1, q2, q3⟩ := hc.2 t ht'
  exact ⟨q1, q2, q3, (f2 t ht').1, fun _ => (f2 t ht').2, fun q => absurd rfl q⟩
theorem c_read (hT : tGood n tp) (h1 : I 13 1 = nI n) (hA : ∀ i, i < n → A 14 i = nI (tp i)) (d : Nat) : ∃ I' A', pm_call L xs (d + 4) m_Tape_read [.ref 13, .ref 22] (zL I A b) = some (some (.int (nI (pMore n tp 7 (pStep n tp ((pLaw n tp).1, []))).1.2)), zL I' A' b) ∧ cR I' A' 22 (gN (pLaw n tp).2.1 (pLaw n tp).2.2.1 (pLaw n tp).2.2.2 (pMore n tp 7 (pStep n tp ((pLaw n tp).1, []))).2) ∧ I' 13 2 = nI (pMore n tp 7 (pStep n tp ((pLaw n tp).1, []))).1.1 ∧ I' 13 1 = 0 ∧ (∀ o k, o ≠ 13 → o ≠ 22 → I' o k = I o k) ∧ ∀ q, (q < 23 ∨ 28 < q) → A' q = A q := by
  have hn := hT.1
  obtain ⟨I0, hI0⟩ : ∃ I0, I0 = zuI (zuI I 13 2 0) 13 3 0 := ⟨_, rfl⟩
  have t0 : tC n tp (0, 0) I0 A := ⟨by rw [hI0, zuI_n (by decide), zuI_n (by decide)]; exact h1, by rw [hI0, zuI_n (by decide), zuI_s]; rfl, by rw [hI0, zuI_s]; rfl, hA⟩
  have f0 : fR I A I0 A := by rw [hI0]; exact (f13.R (f13.u2 _)).trans (f13.R (f13.u3 _))
  obtain ⟨I1, x1, x2, x3, x4⟩ := c_readLaw (L := L) (xs := xs) (b := b) hT t0 d
  have g1 := pLaw_good (n := n) (tp := tp)
  have tg0 : tgOK [] := ⟨by decide, fun t ht => absurd ht (Nat.not_lt_zero _)⟩
  obtain ⟨I2, A2, y1, y2, y3, y4⟩ := c_readThing (L := L) (xs := xs) (b := b) (X := ((pLaw n tp).1, [])) hT g1 tg0 x3 x2 d
  have g2 := pStep_good (tp := tp) (X := ((pLaw n tp).1, [])) g1
  have tg1 := pStep_tg (n := n) (tp := tp) (X := ((pLaw n tp).1, [])) tg0
  obtain ⟨Bb, hBb⟩ : ∃ x, x = (pLaw n tp).2.1 := ⟨_, rfl⟩
  obtain ⟨Hh, hHh⟩ : ∃ x, x = (pLaw n tp).2.2.1 := ⟨_, rfl⟩
  obtain ⟨Ww, hWw⟩ : ∃ x, x = (pLaw n tp).2.2.2 := ⟨_, rfl⟩
  rw [← hBb, ← hHh, ← hWw] at y2 ⊢
  obtain ⟨X0, hX0⟩ : ∃ x, x = pStep n tp ((pLaw n tp).1, []) := ⟨_, rfl⟩
  rw [← hX0] at y2 y3 g2 tg1 ⊢
  have ende : ∀ (X : zPX) (I A : Nat → Nat → Int32), sGood n X.1 → tgOK X.2 → tC n tp X.1 I A → cT Bb Hh Ww X.2 I A → ∃ I' A', ((pm_cV (pm_call L xs (d + 3) m_Shop_layAllOnBelt [.ref 22] (zL I A b))).bind fun g1 => (pm_pf g1 13 5 1 (Value.int (0 : Int32))).bind fun g2 => (pm_gI g2 13 5 3).bind fun x3 => some (some (Value.int x3), g2)) = some (some (Value.int (nI X.1.2)), zL I' A' b) ∧ cR I' A' 22 (gN Bb Hh Ww X.2) ∧ I' 13 2 = nI X.1.1 ∧ I' 13 1 = 0 ∧ (∀ o k, o ≠ 13 → o ≠ 22 → I' o k = I o k) ∧ ∀ q, (q < 23 ∨ 28 < q) → A' q = A q := by
    intro X I A gs tg ht hc
    obtain ⟨A', e1, e2, e3⟩ := c_layAll (L := L) (xs := xs) (b := b) tg hc (d + 2)
    rw [e1, zbV, zp_13_1, zbS, zg_13_3, zbS, zuI_n (by decide), ht.2.2.1]
    exact ⟨_, A', rfl, e2.c (by funext k; exact zuI_o (by decide)) (fun _ _ _ => rfl), by rw [zuI_n (by decide)]; exact ht.2.1, zuI_s, fun o k h1 _ => zuI_o h1, e3⟩
  have loop : ∀ m k (X : zPX) (I A : Nat → Nat → Int32), k + m = 7 → sGood n X.1 → tgOK X.2 → tC n tp X.1 I A → cT Bb Hh Ww X.2 I A → ∃ I' A', zE L xs (d + 3) K_Tape_read 22 [some (.ref 13), some (.ref 22), some (.int (nI k))] [] (zL I A b) = some (some (.int (nI (pMore n tp m X).1.2)), zL I' A' b) ∧ cR I' A' 22 (gN Bb Hh Ww (pMore n tp m X).2) ∧ I' 13 2 = nI (pMore n tp m X).1.1 ∧ I' 13 1 = 0 ∧ (∀ o k, o ≠ 13 → o ≠ 22 → I' o k = I o k) ∧ ∀ q, (q < 23 ∨ 28 < q) → A' q = A q := by
    intro m
    induction m with
    | zero =>
      intro k X I A hk gs tg ht hc
      rw [B_Tape_read_22, if_pos (show (7 : Int32) ≤ nI k by rw [zl7]; exact nI_le (by omega) (by omega))]
      exact ende X I A gs tg ht hc
    | succ m ih =>
      intro k X I A hk gs tg ht hc
      rw [B_Tape_read_22, if_neg (show ¬ (7 : Int32) ≤ nI k by rw [zl7]; exact nI_ge (by omega) (by omega)), zg_13_3, zbS, ht.2.2.1]
      unfold pMore
      by_cases c1 : X.1.2 ≠ 0
      · rw [if_pos (nI_ne0 (by omega) (by have := gs.2; omega)), if_pos (Or.inl c1)]
        exact ende X I A gs tg ht hc
      · rw [if_neg (fun q => q (by rw [show X.1.2 = 0 by omega]; rfl)), zg_13_2, zbS, zg_13_1, zbS, ht.1, ht.2.1]
        have gs1 := gs.1
        by_cases c2 : n ≤ X.1.1
        · rw [if_pos (nI_le c2 (by omega)), if_pos (Or.inr c2)]
          exact ende X I A gs tg ht hc
        · rw [if_neg (nI_ge (by omega) (by omega)), if_neg (show ¬ (X.1.2 ≠ 0 ∨ n ≤ X.1.1) by omega)]
          obtain ⟨I3, A3, z1, z2, z3, z4⟩ := c_readThing (L := L) (xs := xs) (b := b) (X := X) hT gs tg ht hc d
          rw [z1, zbV, nI_1]
          obtain ⟨I4, A4, w1, w2, w3, w4, w5, w6⟩ := ih (k + 1) (pStep n tp X) I3 A3 (by omega) (pStep_good gs) (pStep_tg tg) z3 z2
          exact ⟨I4, A4, w1, w2, w3, w4, fun o k h1 h2 => by rw [w5 o k h1 h2, z4.1 o k (by omega) h2], fun q hq => by rw [w6 q hq, z4.2 q hq]⟩
  obtain ⟨I4, A4, w1, w2, w3, w4, w5, w6⟩ := loop 7 0 X0 I2 A2 rfl g2 tg1 y3 y2
  refine ⟨I4, A4, ?_, w2, w3, w4, fun o k h1 h2 => by rw [w5 o k h1 h2, y4.1 o k (by omega) h2, x4.1 o k (by omega) h2, f0.1 o k (by omega) h2], fun q hq => by rw [w6 q hq, y4.2 q hq]⟩
  rw [D_Tape_read, B_Tape_read_0, zp_13_2, zbS, zp_13_3, zbS, ← hI0, x1, zbV, y1, zbV]
  exact w1
end
