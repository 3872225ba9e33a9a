/-! ways: the class tries them -/
section
variable {L : Nat} {xs : Nat → Int32} {s : Nat → Nat} {I A I' A' : Nat → Nat → Int32} {b : Value}
/-- what the class has of a SHOP on a WAY -/
def uR (I A : Nat → Nat → Int32) (s : Nat → Nat) : Prop := (I 49 9 = nI (s 0) ∧ I 49 10 = nI (s 1)) ∧ (∀ c, c < s 0 → A 58 c = nI (gweighs s c)) ∧ ∀ t, t < s 3 → A 56 t = nI (gw s t)
def wR (I A : Nat → Nat → Int32) (s : Nat → Nat) : Prop := uR I A s ∧ (∀ c, c < s 0 → A 57 c = nI (gset s (3 + c))) ∧ ∀ t, t < s 3 → A 54 t = nI (gpress s t) ∧ A 55 t = nI (gbears s t) - nI (gload s t)
theorem uR.c (h : uR I A s) (h9 : I' 49 9 = I 49 9) (h10 : I' 49 10 = I 49 10) (h8 : A' 58 = A 58) (h6 : A' 56 = A 56) : uR I' A' s := by
  unfold uR at h ⊢
  rw [h9, h10, h8, h6]
  exact h
theorem wR.c (h : wR I A s) (h9 : I' 49 9 = I 49 9) (h10 : I' 49 10 = I 49 10) (hq : ∀ q, 54 ≤ q → q ≤ 58 → A' q = A q) : wR I' A' s := by
  refine ⟨h.1.c h9 h10 (hq 58 (by decide) (by decide)) (hq 56 (by decide) (by decide)), ?_⟩
  rw [hq 57 (by decide) (by decide), hq 54 (by decide) (by decide), hq 55 (by decide) (by decide)]
  exact h.2
theorem zsub3 (a c e : Nat) : nI a - nI c - nI e = nI a - nI (c + e) := by
  rw [← nI_add]
  apply Int32.toBitVec_inj.1
  show (nI a).toBitVec - (nI c).toBitVec - (nI e).toBitVec = (nI a).toBitVec - ((nI c).toBitVec + (nI e).toBitVec)
  rw [BitVec.sub_eq_add_neg, BitVec.sub_eq_add_neg, BitVec.sub_eq_add_neg, BitVec.neg_add, BitVec.sub_eq_add_neg, BitVec.add_assoc]
theorem zsubadd (a c e : Nat) : nI a - nI (c + e) + nI e = nI a - nI c := by
  rw [← zsub3]
  apply Int32.toBitVec_inj.1
  show (nI a - nI c).toBitVec - (nI e).toBitVec + (nI e).toBitVec = (nI a - nI c).toBitVec
  exact BitVec.sub_add_cancel _ _
theorem gset_co {t c e : Nat} (ht : t < s 3) (hp : gp s t < 3) : gset (gcomes s t (3 + c)) (3 + e) = if e = c then gset s (3 + e) ||| 2 ^ t else gset s (3 + e) := by
  apply Nat.eq_of_testBit_eq
  intro i
  rw [gset_bit, gco_n]
  by_cases q : e = c
  · rw [if_pos q, Nat.testBit_or, gset_bit, Nat.testBit_two_pow]
    by_cases e1 : i = t
    · subst e1; rw [gco_pt]; simp [ht, q]
    · rw [gco_po e1]; simp [Ne.symm e1]
  · rw [if_neg q, gset_bit]
    by_cases e1 : i = t
    · subst e1
      rw [gco_pt, decide_eq_false (show ¬ 3 + c = 3 + e by omega), decide_eq_false (show ¬ gp s i = 3 + e by omega)]
    · rw [gco_po e1]
theorem gset_un {t c : Nat} (ht : t < s 3) (hp : gp s t < 3) : gset (gcomes s t (3 + c)) (3 + c) ^^^ (gset (gcomes s t (3 + c)) (3 + c) &&& 2 ^ t) = gset s (3 + c) := by
  apply Nat.eq_of_testBit_eq
  intro i
  rw [gset_co ht hp, if_pos rfl, Nat.testBit_xor, Nat.testBit_and, Nat.testBit_or, gset_bit, Nat.testBit_two_pow]
  by_cases e1 : i = t
  · subst e1
    rw [decide_eq_false (show ¬ gp s i = 3 + c by omega)]
    simp
  · simp [Ne.symm e1]
/-- LOAD on all that is there, when one more has come -/
theorem gload_co {t c u : Nat} (hU : gU s) (ht : t < s 3) (hp : gp s t < 3) (hu : u < s 3) : gload (gcomes s t (3 + c)) u = gload s u + (if gp s u = 3 + c then gpress s t else 0) := by
  by_cases e : u = t
  · subst e
    rw [gco_load0 hU, gload_out hp, if_neg (by omega)]
  · exact gco_load hU ht hp hu e
theorem c_wlay (hR : wR I A s) (hB : gB s) (hU : gU s) {t c : Nat} (ht : t < s 3) (hp : gp s t < 3) (hc : c < s 0) (d : Nat) : ∃ A' ov, pm_call L xs (d + 1) m_Ways_lay [.ref 49, .int (nI t), .int (nI c)] (zL I A b) = some (some (.int (nI ov)), zL I A' b) ∧ wR I A' (gcomes s t (3 + c)) ∧ (∀ q, q ≠ 55 → q ≠ 57 → q ≠ 58 → A' q = A q) ∧ (gbroken s ||| gover s) ||| ov = gbroken (gcomes s t (3 + c)) ||| gover (gcomes s t (3 + c)) := by
  have h7 := hB.1
  have h03 := hB.2.1
  have hg := gset_lt hB (3 + c)
  obtain ⟨⟨⟨i9, i10⟩, r58, r56⟩, r57, r45⟩ := hR
  have hpl := zgpress_lt hB t
  rw [D_Ways_lay, B_Ways_lay_0]
  have key : ∀ k, k ≤ 7 → ∃ A', zE L xs d K_Ways_lay 5 [some (.ref 49), some (.int (nI t)), some (.int (nI c)), some (.int (0 : Int32)), some (.int (0 : Int32))] [] (zL I A b) = zE L xs d K_Ways_lay 5 [some (.ref 49), some (.int (nI t)), some (.int (nI c)), some (.int (nI (zB (fun u => decide (u < s 3) && (decide (gp s u = 3 + c) && decide (gbears s u < gload (gcomes s t (3 + c)) u))) k))), some (.int (nI k))] [] (zL I A' b) ∧ (∀ u, u < s 3 → A' 55 u = nI (gbears s u) - nI (if u < k then gload (gcomes s t (3 + c)) u else gload s u)) ∧ ∀ q, q ≠ 55 → A' q = A q := by
    intro k
    induction k with
    | zero => intro _; exact ⟨A, rfl, fun u hu => by rw [(r45 u hu).2, if_neg (Nat.not_lt_zero _)], fun _ _ => rfl⟩
    | succ k ih =>
      intro hk
      obtain ⟨A1, e1, e2, e3⟩ := ih (by omega)
      have r1 : pm_rd 0 (zL I A1 b) 57 (nI c) = some (nI (gset s (3 + c))) := by rw [z_rd za_57 (by omega), e3 57 (by decide), r57 c hc]
      have hbit : (gset s (3 + c)).testBit k = (decide (k < s 3) && decide (gp s k = 3 + c)) := gset_bit
      rw [e1, B_Ways_lay_5, if_neg (by rw [zl7]; exact nI_ge (by omega) (by decide)), zr_49_7, zbS, r1, zbS, zbit (show gset s (3 + c) < 2 ^ 31 by omega) (show k < 31 by omega)]
      by_cases c1 : (gset s (3 + c)).testBit k = true
      · have hk3 : k < s 3 ∧ gp s k = 3 + c := by rw [hbit] at c1; simpa using c1
        have hl := zgload_lt hB k
        have hbb := zgbears_le (g := s) k
        have hld : gload (gcomes s t (3 + c)) k = gload s k + gpress s t := by rw [gload_co hU ht hp hk3.1, if_pos hk3.2]
        have r2 : pm_rd 0 (zL I A1 b) 55 (nI k) = some (nI (gbears s k) - nI (gload s k)) := by rw [z_rd za_55 (by omega), e2 k hk3.1, if_neg (Nat.lt_irrefl _)]
        have r3 : pm_rd 0 (zL I A1 b) 54 (nI t) = some (nI (gpress s t)) := by rw [z_rd za_54 (by omega), e3 54 (by decide), (r45 t ht).1]
        rw [ztest.mpr c1, if_neg (fun q => q rfl), zr_49_5, zbS, r2, zbS, zr_49_4, zbS, r3, zbS, zsub3, ← hld, z_wr za_55 (by omega), zbS, zr_49_5, zbS]
        obtain ⟨A2, hA2⟩ : ∃ A2, A2 = zuA A1 55 k (nI (gbears s k) - nI (gload (gcomes s t (3 + c)) k)) := ⟨_, rfl⟩
        rw [← hA2, z_rd za_55 (by omega), zbS]
        have r4 : A2 55 k = nI (gbears s k) - nI (gload (gcomes s t (3 + c)) k) := by rw [hA2, zuA_s, pk_us]
        rw [r4]
        have hti := pk_sub_toInt (a := gbears s k) (b := gload (gcomes s t (3 + c)) k) (by omega) (by omega)
        have fin : (∀ u, u < s 3 → A2 55 u = nI (gbears s u) - nI (if u < k + 1 then gload (gcomes s t (3 + c)) u else gload s u)) ∧ ∀ q, q ≠ 55 → A2 q = A q := by
          refine ⟨fun u hu => ?_, fun q hq => by rw [hA2, zuA_o hq, e3 q hq]⟩
          by_cases e : u = k
          · rw [e, r4, if_pos (by omega)]
          · rw [hA2, zuA_s, pk_un e, e2 u hu]
            by_cases e9 : u < k
            · rw [if_pos e9, if_pos (by omega)]
            · rw [if_neg e9, if_neg (by omega)]
        rw [zB_s]
        by_cases c2 : gbears s k < gload (gcomes s t (3 + c)) k
        · rw [if_neg (show ¬ (0 : Int32) ≤ nI (gbears s k) - nI (gload (gcomes s t (3 + c)) k) by rw [fa_le, hti, show (0 : Int32).toInt = 0 from rfl]; omega), zor (zB_lt _ _) (by omega), nI_1, if_pos (by simp [hk3.1, hk3.2, c2])]
          exact ⟨A2, rfl, fin.1, fin.2⟩
        · rw [if_pos (show (0 : Int32) ≤ nI (gbears s k) - nI (gload (gcomes s t (3 + c)) k) by rw [fa_le, hti, show (0 : Int32).toInt = 0 from rfl]; omega), zor0, nI_1, if_neg (by simp [c2]), Nat.add_zero]
          exact ⟨A2, rfl, fin.1, fin.2⟩
      · rw [zbit0 c1, if_pos (by decide), nI_1, zB_s]
        have hno : ¬ (k < s 3 ∧ gp s k = 3 + c) := fun q => c1 (by rw [hbit]; simp [q.1, q.2])
        rw [if_neg (show ¬ (decide (k < s 3) && (decide (gp s k = 3 + c) && decide (gbears s k < gload (gcomes s t (3 + c)) k))) = true by simp only [Bool.and_eq_true, decide_eq_true_eq]; exact fun q => hno ⟨q.1, q.2.1⟩), Nat.add_zero]
        refine ⟨A1, rfl, fun u hu => ?_, e3⟩
        rw [e2 u hu]
        by_cases e : u = k
        · rw [e, if_neg (Nat.lt_irrefl _), if_pos (by omega), gload_co hU ht hp (e ▸ hu), if_neg (fun q => hno ⟨e ▸ hu, q⟩), Nat.add_zero]
        · by_cases e9 : u < k
          · rw [if_pos e9, if_pos (by omega)]
          · rw [if_neg e9, if_neg (by omega)]
  obtain ⟨A1, e1, e2, e3⟩ := key 7 (Nat.le_refl _)
  have r1 : pm_rd 0 (zL I A1 b) 57 (nI c) = some (nI (gset s (3 + c))) := by rw [z_rd za_57 (by omega), e3 57 (by decide), r57 c hc]
  rw [e1, B_Ways_lay_5, if_pos (by rw [zl7]; exact nI_le (Nat.le_refl _) (by decide)), zr_49_7, zbS, r1, zbS, zsh (show t < 31 by omega), fa_or, z_wr za_57 (by omega), zbS, zr_49_8, zbS, z_rd za_58 (by omega), zbS, zuA_o (by decide), e3 58 (by decide), r58 c hc, zr_49_6, zbS, z_rd za_56 (by omega), zbS, zuA_o (by decide), e3 56 (by decide), r56 t ht, nI_add, z_wr za_58 (by omega), zbS]
  refine ⟨_, _, rfl, ?_, fun q q1 q2 q3 => by rw [zuA_o q3, zuA_o q2, e3 q q1], ?_⟩
  · have hn : gcomes s t (3 + c) 3 = s 3 := gco_n
    have h0 : gcomes s t (3 + c) 0 = s 0 := gcomes_h (by decide)
    refine ⟨⟨⟨by rw [i9, h0], by rw [i10, show gcomes s t (3 + c) 1 = s 1 from gcomes_h (by decide)]⟩, fun e he => ?_, fun u hu => ?_⟩, fun e he => ?_, fun u hu => ⟨?_, ?_⟩⟩
    · rw [h0] at he
      rw [gweighs_co ht hp, zuA_s]
      by_cases q : e = c
      · rw [q, pk_us, if_pos rfl]
      · rw [pk_un q, if_neg q, Nat.add_zero, zuA_o (by decide), e3 58 (by decide), r58 e he]
    · rw [hn] at hu
      rw [zuA_o (by decide), zuA_o (by decide), e3 56 (by decide), r56 u hu, show gw (gcomes s t (3 + c)) u = gw s u from gco_w (w := 1) (by decide) (by decide) (by decide)]
    · rw [h0] at he
      rw [zuA_o (by decide), zuA_s, gset_co ht hp]
      by_cases q : e = c
      · rw [q, pk_us, if_pos rfl]
      · rw [pk_un q, if_neg q, e3 57 (by decide), r57 e he]
    · rw [hn] at hu
      rw [zuA_o (by decide), zuA_o (by decide), e3 54 (by decide), (r45 u hu).1, gco_press]
    · rw [hn] at hu
      rw [zuA_o (by decide), zuA_o (by decide), e2 u hu, if_pos (by omega), gco_bears]
  · apply Nat.eq_of_testBit_eq
    intro i
    rw [gco_broken, Nat.testBit_or, Nat.testBit_or, Nat.testBit_or]
    unfold gbroken gover
    rw [ztb, ztb, ztb, ztb, gco_n, gco_bears]
    by_cases hi : i < s 3
    · have := gload_co (c := c) hU ht hp hi
      rw [decide_eq_true hi, decide_eq_true (show i < 7 by omega)]
      by_cases q : gp s i = 3 + c
      · rw [if_pos q] at this
        by_cases z1 : gbears s i < gload s i
        · have z2 : gbears s i < gload (gcomes s t (3 + c)) i := by omega
          simp [z1, z2]
        · simp [z1, q]
      · rw [if_neg q, Nat.add_zero] at this
        rw [this]
        simp [q]
    · simp [hi]
theorem c_wlift {t c : Nat} (hR : wR I A (gcomes s t (3 + c))) (hB : gB s) (hU : gU s) (ht : t < s 3) (hp : gp s t < 3) (hc : c < s 0) (d : Nat) : ∃ A', pm_call L xs (d + 1) m_Ways_lift [.ref 49, .int (nI t), .int (nI c)] (zL I A b) = some (none, zL I A' b) ∧ wR I A' s ∧ ∀ q, q ≠ 55 → q ≠ 57 → q ≠ 58 → A' q = A q := by
  have h7 := hB.1
  have h03 := hB.2.1
  have hg := gset_lt hB (3 + c)
  have hn : gcomes s t (3 + c) 3 = s 3 := gco_n
  have h0 : gcomes s t (3 + c) 0 = s 0 := gcomes_h (by decide)
  have hw : ∀ u, gw (gcomes s t (3 + c)) u = gw s u := fun u => gco_w (w := 1) (by decide) (by decide) (by decide)
  obtain ⟨⟨⟨i9, i10⟩, r58, r56⟩, r57, r45⟩ := hR
  rw [h0] at i9 r58 r57
  rw [hn] at r56 r45
  rw [show gcomes s t (3 + c) 1 = s 1 from gcomes_h (by decide)] at i10
  rw [D_Ways_lift, B_Ways_lift_0, zr_49_8, zbS, z_rd za_58 (by omega), zbS, r58 c hc, zr_49_6, zbS, z_rd za_56 (by omega), zbS, r56 t ht, hw, gweighs_co ht hp, if_pos rfl, pk_sub (by omega), Nat.add_sub_cancel, z_wr za_58 (by omega), zbS, zr_49_7, zbS, z_rd za_57 (by omega), zbS, zuA_o (by decide), r57 c hc, zsh (show t < 31 by omega), zandn, gset_un ht hp, z_wr za_57 (by omega), zbS]
  obtain ⟨A0, hA0⟩ : ∃ A0, A0 = zuA (zuA A 58 c (nI (gweighs s c))) 57 c (nI (gset s (3 + c))) := ⟨_, rfl⟩
  rw [← hA0]
  have f0 : ∀ q, q ≠ 57 → q ≠ 58 → A0 q = A q := fun q q1 q2 => by rw [hA0, zuA_o q1, zuA_o q2]
  have a57 : ∀ e, e < s 0 → A0 57 e = nI (gset s (3 + e)) := fun e he => by
    rw [hA0, zuA_s]
    by_cases q : e = c
    · rw [q, pk_us]
    · rw [pk_un q, zuA_o (by decide), r57 e he, gset_co ht hp, if_neg q]
  have a58 : ∀ e, e < s 0 → A0 58 e = nI (gweighs s e) := fun e he => by
    rw [hA0, zuA_o (by decide), zuA_s]
    by_cases q : e = c
    · rw [q, pk_us]
    · rw [pk_un q, r58 e he, gweighs_co ht hp, if_neg q, Nat.add_zero]
  have key : ∀ k, k ≤ 7 → ∃ A', zE L xs d K_Ways_lift 31 [some (.ref 49), some (.int (nI t)), some (.int (nI c)), some (.int (0 : Int32))] [] (zL I A0 b) = zE L xs d K_Ways_lift 31 [some (.ref 49), some (.int (nI t)), some (.int (nI c)), some (.int (nI k))] [] (zL I A' b) ∧ (∀ u, u < s 3 → A' 55 u = nI (gbears s u) - nI (if u < k then gload s u else gload (gcomes s t (3 + c)) u)) ∧ ∀ q, q ≠ 55 → A' q = A0 q := by
    intro k
    induction k with
    | zero => intro _; exact ⟨A0, rfl, fun u hu => by rw [f0 55 (by decide) (by decide), (r45 u hu).2, if_neg (Nat.not_lt_zero _), gco_bears], fun _ _ => rfl⟩
    | succ k ih =>
      intro hk
      obtain ⟨A1, e1, e2, e3⟩ := ih (by omega)
      have r1 : pm_rd 0 (zL I A1 b) 57 (nI c) = some (nI (gset s (3 + c))) := by rw [z_rd za_57 (by omega), e3 57 (by decide), a57 c hc]
      have hbit : (gset s (3 + c)).testBit k = (decide (k < s 3) && decide (gp s k = 3 + c)) := gset_bit
      rw [e1, B_Ways_lift_31, if_neg (by rw [zl7]; exact nI_ge (by omega) (by decide)), zr_49_7, zbS, r1, zbS, zbit (show gset s (3 + c) < 2 ^ 31 by omega) (show k < 31 by omega)]
      by_cases c1 : (gset s (3 + c)).testBit k = true
      · have hk3 : k < s 3 ∧ gp s k = 3 + c := by rw [hbit] at c1; simpa using c1
        have hld : gload (gcomes s t (3 + c)) k = gload s k + gpress s t := by rw [gload_co hU ht hp hk3.1, if_pos hk3.2]
        have r2 : pm_rd 0 (zL I A1 b) 55 (nI k) = some (nI (gbears s k) - nI (gload s k + gpress s t)) := by rw [z_rd za_55 (by omega), e2 k hk3.1, if_neg (Nat.lt_irrefl _), hld]
        have r3 : pm_rd 0 (zL I A1 b) 54 (nI t) = some (nI (gpress s t)) := by rw [z_rd za_54 (by omega), e3 54 (by decide), f0 54 (by decide) (by decide), (r45 t ht).1, gco_press]
        rw [ztest.mpr c1, if_neg (fun q => q rfl), zr_49_5, zbS, r2, zbS, zr_49_4, zbS, r3, zbS, zsubadd, z_wr za_55 (by omega), zbS, nI_1]
        refine ⟨_, rfl, fun u hu => ?_, fun q hq => by rw [zuA_o hq, e3 q hq]⟩
        rw [zuA_s]
        by_cases e : u = k
        · rw [e, pk_us, if_pos (by omega)]
        · rw [pk_un e, e2 u hu]
          by_cases e9 : u < k
          · rw [if_pos e9, if_pos (by omega)]
          · rw [if_neg e9, if_neg (by omega)]
      · have hno : ¬ (k < s 3 ∧ gp s k = 3 + c) := fun q => c1 (by rw [hbit]; simp [q.1, q.2])
        rw [zbit0 c1, if_pos (by decide), nI_1]
        refine ⟨A1, rfl, fun u hu => ?_, e3⟩
        rw [e2 u hu]
        by_cases e : u = k
        · rw [e, if_neg (Nat.lt_irrefl _), if_pos (by omega), gload_co hU ht hp (e ▸ hu), if_neg (fun q => hno ⟨e ▸ hu, q⟩), Nat.add_zero]
        · by_cases e9 : u < k
          · rw [if_pos e9, if_pos (by omega)]
          · rw [if_neg e9, if_neg (by omega)]
  obtain ⟨A1, e1, e2, e3⟩ := key 7 (Nat.le_refl _)
  refine ⟨A1, ?_, ?_, fun q q1 q2 q3 => by rw [e3 q q1, f0 q q2 q3]⟩
  · rw [e1, B_Ways_lift_31, if_pos (by rw [zl7]; exact nI_le (Nat.le_refl _) (by decide))]
  · refine ⟨⟨⟨i9, i10⟩, fun e he => by rw [e3 58 (by decide), a58 e he], fun u hu => by rw [e3 56 (by decide), f0 56 (by decide) (by decide), r56 u hu, hw]⟩, fun e he => by rw [e3 57 (by decide), a57 e he], fun u hu => ⟨by rw [e3 54 (by decide), f0 54 (by decide) (by decide), (r45 u hu).1, gco_press], by rw [e2 u hu, if_pos (by omega)]⟩⟩
theorem c_bagsToTry (hR : uR I A s) (hB : gB s) (h0 : 0 < s 0) (d : Nat) : ∃ m, 1 ≤ m ∧ m ≤ s 0 ∧ (m < s 0 → ∀ c, m - 1 ≤ c → c < s 0 → gweighs s c = 0) ∧ pm_call L xs (d + 1) m_Ways_bagsToTry [.ref 49] (zL I A b) = some (some (.int (nI m)), zL I A b) := by
  have h03 := hB.2.1
  have key : ∀ k, k < s 0 → (k + 1 < s 0 → ∀ c, k ≤ c → c < s 0 → gweighs s c = 0) → ∃ m, 1 ≤ m ∧ m ≤ s 0 ∧ (m < s 0 → ∀ c, m - 1 ≤ c → c < s 0 → gweighs s c = 0) ∧ zE L xs d K_Ways_bagsToTry 12 [some (.ref 49), some (.int (nI (k + 1))), some (.int (nI k))] [] (zL I A b) = some (some (.int (nI m)), zL I A b) := by
    intro k
    induction k with
    | zero =>
      intro hk hz
      refine ⟨1, Nat.le_refl _, hk, fun q c h1 h2 => hz q c (Nat.zero_le _) h2, ?_⟩
      rw [B_Ways_bagsToTry_12, if_pos (by decide)]
    | succ k ih =>
      intro hk hz
      have w1 := zgw_lt hB (k + 1)
      have w0 := zgw_lt hB k
      have r1 : pm_rd 0 (zL I A b) 58 (nI (k + 1)) = some (nI (gweighs s (k + 1))) := by rw [z_rd za_58 (by omega), hR.2.1 (k + 1) hk]
      have r0 : pm_rd 0 (zL I A b) 58 (nI k) = some (nI (gweighs s k)) := by rw [z_rd za_58 (by omega), hR.2.1 k (by omega)]
      have stop : ∃ m, 1 ≤ m ∧ m ≤ s 0 ∧ (m < s 0 → ∀ c, m - 1 ≤ c → c < s 0 → gweighs s c = 0) ∧ some (some (Value.int (nI (k + 1 + 1))), zL I A b) = some (some (Value.int (nI m)), zL I A b) := ⟨k + 2, by omega, by omega, fun q c h1 h2 => hz q c (by omega) h2, rfl⟩
      rw [B_Ways_bagsToTry_12, if_neg (nI_nle (by omega) (by omega)), zr_49_8, zbS, r1, zbS]
      by_cases c1 : gweighs s (k + 1) = 0
      · rw [c1, if_neg (fun q => q rfl), zbS, nI_pred, r0, zbS]
        by_cases c0 : gweighs s k = 0
        · rw [c0, if_neg (fun q => q rfl), pk_m1]
          refine ih (by omega) (fun q c h1 h2 => ?_)
          rcases (show c = k ∨ c = k + 1 ∨ k + 1 < c by omega) with rfl | rfl | h3
          · exact c0
          · exact c1
          · exact hz (by omega) c (by omega) h2
        · rw [if_pos (nI_ne0 (by omega) (by omega))]
          exact stop
      · rw [if_pos (nI_ne0 (by omega) (by omega))]
        exact stop
  obtain ⟨k, hk⟩ : ∃ k, s 0 = k + 1 := ⟨s 0 - 1, by omega⟩
  obtain ⟨m, m1, m2, m3, m4⟩ := key k (by omega) (fun q => by omega)
  refine ⟨m, m1, m2, m3, ?_⟩
  rw [D_Ways_bagsToTry, B_Ways_bagsToTry_0, zg_49_9, zbS, zbS, hR.1.1, hk, nI_pred]
  exact m4
/-- the best that the class has found yet -/
def wA (F T : Int32) (k : Nat) : Prop := (8 * 4294967296 ≤ k ∧ F = nI 8) ∨ ∃ c h : Nat, c ≤ 7 ∧ h < 2 ^ 31 ∧ k = c * 4294967296 + h ∧ F = nI c ∧ T = nI h
theorem c_isBetter {k : Nat} (hA : wA (I 49 13) (I 49 14) k) {c h : Nat} (hc : c ≤ 7) (hh : h < 2 ^ 31) (d : Nat) : pm_call L xs (d + 1) m_Ways_isBetter [.ref 49, .int (nI c), .int (nI h)] (zL I A b) = some (some (.int (if c * 4294967296 + h < k then 1 else 0)), zL I A b) := by
  rw [D_Ways_isBetter, B_Ways_isBetter_0, zg_49_13, zbS]
  rcases hA with ⟨h1, h2⟩ | ⟨f, l, f1, l1, h1, h2, h3⟩
  · rw [h2, if_pos (nI_lt (by omega) (by decide)), if_pos (by omega)]
  · rw [h2]
    by_cases c1 : c < f
    · rw [if_pos (nI_lt c1 (by omega)), if_pos (by omega)]
    · rw [if_neg (nI_nlt (by omega) (by omega)), zbS]
      by_cases c2 : c = f
      · rw [if_neg (fun q => q (by rw [c2])), zg_49_14, zbS, h3]
        by_cases c3 : h < l
        · rw [if_neg (nI_ge c3 l1), if_pos (by omega)]
        · rw [if_pos (nI_le (by omega) hh), if_neg (by omega)]
      · rw [if_pos (fun q => c2 ((nI_eq (by omega) (by omega)).mp q)), if_neg (by omega)]
theorem c_wkeep {p : List Nat} (hp : p.length ≤ 7) (h12 : I 49 12 = nI p.length) (ht : tR A 52 p) (c h : Int32) (d : Nat) : ∃ A', pm_call L xs (d + 1) m_Ways_keep [.ref 49, .int c, .int h] (zL I A b) = some (none, zL (zuI (zuI I 49 13 c) 49 14 h) A' b) ∧ tR A' 53 p ∧ ∀ q, q ≠ 53 → A' q = A q := by
  have e12 : zuI (zuI I 49 13 c) 49 14 h 49 12 = nI p.length := by rw [zuI_n (by decide), zuI_n (by decide), h12]
  rw [D_Ways_keep, B_Ways_keep_0, zp_49_13, zbS, zp_49_14, zbS]
  refine ⟨zcp A 53 0 p.length (A 52), ?_, fun j hj => ?_, fun q hq => zcp_o hq⟩
  · rw [zfill (fun i A => zE L xs d K_Ways_keep 12 [some (.ref 49), some (.int c), some (.int h), some (.int i)] [] (zL (zuI (zuI I 49 13 c) 49 14 h) A b)) A 53 0 p.length (A 52) (fun k hk => ?_)]
    · rw [B_Ways_keep_12, zg_49_12, zbS, e12, if_pos (nI_le (Nat.le_refl _) (by omega))]
    · rw [B_Ways_keep_12, zg_49_12, zbS, e12, if_neg (nI_ge hk (by omega)), zr_49_3, zbS, zr_49_2, zbS, z_rd za_52 (by omega), zbS, zcp_o (by decide), z_wr za_53 (by omega), zbS, Nat.zero_add]
  · have := zcp_at (A := A) (q := 53) (p := 0) (n := p.length) (f := A 52) hj
    rw [Nat.zero_add] at this
    rw [this, ht j hj]
theorem tR_app {q k : Nat} {p : List Nat} (h : tR A q p) : tR (zuA A q p.length (nI k)) q (p ++ [k]) := by
  intro j hj
  rw [List.length_append] at hj
  have hj' : j < p.length + 1 := hj
  rw [zuA_s]
  by_cases e : j = p.length
  · rw [e, pk_us]; simp
  · rw [pk_un e, h j (by omega), List.getD_eq_getElem?_getD, List.getD_eq_getElem?_getD, List.getElem?_append_left (by omega)]
theorem tR_pre {q : Nat} {p r : List Nat} (h : tR A q (p ++ r)) : tR A q p := by
  intro j hj
  rw [h j (by rw [List.length_append]; omega), List.getD_eq_getElem?_getD, List.getD_eq_getElem?_getD, List.getElem?_append_left hj]
theorem tR.c {q : Nat} {p : List Nat} (h : tR A q p) (hq : A' q = A q) : tR A' q p := fun j hj => by rw [hq]; exact h j hj
end
