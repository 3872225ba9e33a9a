/-! the history on both sides -/
def zHc (n o : Nat) (hs : Nat → Nat → Nat) (I A : Nat → Nat → Int32) : Prop := n ≤ 24 ∧ o < 24 ∧ I 44 4 = nI o ∧ I 44 5 = nI n ∧ ∀ k, k < n → gBack (hs k) (hs (k + 1)) (A 45 ((o + k) % 24)) (A 46 ((o + k) % 24)) (A 47 ((o + k) % 24)) (A 48 ((o + k) % 24))
def zHm (n : Nat) (hs : Nat → Nat → Nat) (I A : Nat → Nat → Int32) : Prop := n ≤ 24 ∧ I 64 9 = nI n ∧ ∀ k, k < n → ∀ j, j < 55 → A 71 (55 * k + j) = nI (hs k j)
def zHg (B n : Nat) (hs : Nat → Nat → Nat) : Prop := ∀ k, k < n → gI B (hs k) ∧ 0 < hs k 0
def hN (n : Nat) : Nat := if n < 24 then n + 1 else 24
def hO (n o : Nat) : Nat := if n < 24 then o else (o + 1) % 24
def hP (n : Nat) (hs : Nat → Nat → Nat) (g' : Nat → Nat) : Nat → Nat → Nat := if n < 24 then (fun k => if k = n + 1 then g' else hs k) else (fun k => if k = 24 then g' else hs (k + 1))
section
variable {B n o : Nat} {g g' : Nat → Nat} {hs : Nat → Nat → Nat} {I A I' A' : Nat → Nat → Int32}
theorem zHs.un (h : zHs B g I A) : ∃ n o hs, zHc n o hs I A ∧ zHm n hs I A ∧ zHg B n hs ∧ hs n = g := by
  obtain ⟨n, o, hs, k1, k2, k3, k4, k5, k6, k7⟩ := h
  exact ⟨n, o, hs, ⟨k1, k2, k3, k4, fun k hk => (k7 k hk).2.2.2⟩, ⟨k1, k5, fun k hk => (k7 k hk).2.2.1⟩, fun k hk => ⟨(k7 k hk).1, (k7 k hk).2.1⟩, k6⟩
theorem zHs.up (h1 : zHc n o hs I A) (h2 : zHm n hs I A) (h3 : zHg B n hs) (h4 : hs n = g) : zHs B g I A :=
  ⟨n, o, hs, h1.1, h1.2.1, h1.2.2.1, h1.2.2.2.1, h2.2.1, h4, fun k hk => ⟨(h3 k hk).1, (h3 k hk).2, h2.2.2 k hk, h1.2.2.2.2 k hk⟩⟩
theorem hP_top (hn : n ≤ 24) : hP n hs g' (hN n) = g' := by
  unfold hP hN
  split <;> simp
theorem hN_le (n : Nat) : hN n ≤ 24 := by
  unfold hN
  split <;> omega
theorem zHg.push (h : zHg B n hs) (hn : n ≤ 24) (hg : gI B (hs n)) (h0 : 0 < hs n 0) : zHg B (hN n) (hP n hs g') := by
  intro k hk
  unfold hN at hk
  unfold hP
  by_cases c : n < 24
  · rw [if_pos c] at hk ⊢
    simp only [show k ≠ n + 1 by omega, if_false]
    by_cases e : k = n
    · subst e; exact ⟨hg, h0⟩
    · exact h k (by omega)
  · rw [if_neg c] at hk ⊢
    have hn4 : n = 24 := by omega
    subst hn4
    simp only [show k ≠ 24 by omega, if_false]
    by_cases e : k = 23
    · subst e; exact ⟨hg, h0⟩
    · exact h (k + 1) (by omega)
theorem zHg.mono {B' : Nat} (h : zHg B n hs) (hb : B ≤ B') : zHg B' n hs := fun k hk => ⟨(h k hk).1.mono hb, (h k hk).2⟩
theorem zHc.c (h : zHc n o hs I A) (h4 : I' 44 4 = I 44 4) (h5 : I' 44 5 = I 44 5) (hA : ∀ q, 45 ≤ q → q ≤ 48 → A' q = A q) : zHc n o hs I' A' := by
  unfold zHc at h ⊢
  rw [h4, h5, hA 45 (by decide) (by decide), hA 46 (by decide) (by decide), hA 47 (by decide) (by decide), hA 48 (by decide) (by decide)]
  exact h
theorem zHm.c (h : zHm n hs I A) (h9 : I' 64 9 = I 64 9) (hA : A' 71 = A 71) : zHm n hs I' A' := by
  unfold zHm at h ⊢
  rw [h9, hA]
  exact h
/-- the ring with one more -/
theorem zHc.push {s m f c : Int32} (h : zHc n o hs I A) (hb : gBack (hs n) g' s m f c) (h4 : I' 44 4 = nI (hO n o)) (h5 : I' 44 5 = nI (hN n)) (a1 : A' 45 = upd (A 45) ((o + n) % 24) s) (a2 : A' 46 = upd (A 46) ((o + n) % 24) m) (a3 : A' 47 = upd (A 47) ((o + n) % 24) f) (a4 : A' 48 = upd (A 48) ((o + n) % 24) c) : zHc (hN n) (hO n o) (hP n hs g') I' A' := by
  obtain ⟨hn, ho, -, -, hk⟩ := h
  refine ⟨hN_le n, ?_, h4, h5, fun k hkn => ?_⟩
  · unfold hO
    split <;> omega
  rw [a1, a2, a3, a4]
  unfold hN at hkn
  unfold hO hP
  by_cases c : n < 24
  · rw [if_pos c] at hkn
    rw [if_pos c, if_pos c]
    simp only [show k ≠ n + 1 by omega, if_false]
    by_cases e : k = n
    · subst e
      simp only [if_true, pk_us]
      exact hb
    · have hne : (o + k) % 24 ≠ (o + n) % 24 := by omega
      simp only [show k + 1 ≠ n + 1 by omega, if_false, pk_un hne]
      exact hk k (by omega)
  · rw [if_neg c] at hkn
    rw [if_neg c, if_neg c]
    have hn4 : n = 24 := by omega
    subst hn4
    simp only [show k ≠ 24 by omega, if_false]
    by_cases e : k = 23
    · subst e
      simp only [if_true]
      have : ((o + 1) % 24 + 23) % 24 = (o + 24) % 24 := by omega
      rw [this]
      simp only [pk_us]
      exact hb
    · have hne : ((o + 1) % 24 + k) % 24 ≠ (o + 24) % 24 := by omega
      simp only [show k + 1 ≠ 24 by omega, if_false, pk_un hne]
      have : ((o + 1) % 24 + k) % 24 = (o + (k + 1)) % 24 := by omega
      rw [this]
      exact hk (k + 1) (by omega)
end
section
variable {L : Nat} {xs : Nat → Int32} {n o : Nat} {g g' : Nat → Nat} {hs : Nat → Nat → Nat} {I A : Nat → Nat → Int32} {b : Value}
theorem zmod24 {o n : Nat} (ho : o < 24) (hn : n ≤ 24) : (nI o + nI n) - (nI o + nI n) / (24 : Int32) * (24 : Int32) = nI ((o + n) % 24) := by
  rw [nI_add, zl24, pk_rem (by omega) (by decide) (by decide)]
/-- Acts.keep -/
theorem c_keep {s m f : Int32} (h : zHc n o hs I A) (hf : f = -1000000 ∧ m = -1000000 ∨ ∃ t, t < 7 ∧ m = nI t ∧ f = A 19 t) (d : Nat) : pm_call L xs (d + 1) m_Acts_keep [.ref 44, .int s, .int m, .ref 15] (zL I A b) = some (none, zL (if n < 24 then zuI I 44 5 (nI (n + 1)) else zuI I 44 4 (nI ((o + 1) % 24))) (zuA (zuA (zuA (zuA A 45 ((o + n) % 24) s) 46 ((o + n) % 24) m) 47 ((o + n) % 24) f) 48 ((o + n) % 24) (I 15 5)) b) := by
  obtain ⟨hn, ho, h4, h5, -⟩ := h
  have hat : (o + n) % 24 < 24 := Nat.mod_lt _ (by decide)
  rw [D_Acts_keep, B_Acts_keep_0]
  have e24 : ((24 : Int32) ≤ nI n) = (24 ≤ n) := by rw [zl24]; exact znL (by decide) (by omega)
  have e1 : nI (o + 1) - nI (o + 1) / (24 : Int32) * (24 : Int32) = nI ((o + 1) % 24) := by
    rw [zl24, pk_rem (by omega) (by decide) (by decide)]
  rcases hf with ⟨rfl, rfl⟩ | ⟨t, ht, rfl, rfl⟩
  · simp only [zg_44_4, zg_44_5, zbS, h4, h5, zmod24 ho hn, zr_44_0, zr_44_1, zr_44_2, zr_44_3, z_wr za_45 hat, z_wr za_46 hat, z_wr za_47 hat, z_wr za_48 hat, not_true_eq_false, if_false, zg_15_5, e24, zp_44_4, zp_44_5, e1, nI_1]
    by_cases c : n < 24
    · rw [if_neg (by omega), if_pos c]
    · rw [if_pos (by omega), if_neg c]
  · have hne : ¬ nI t = -1000000 := zNn (by omega)
    have e19 : zuA (zuA A 45 ((o + n) % 24) s) 46 ((o + n) % 24) (nI t) 19 = A 19 := by rw [zuA_o (by decide), zuA_o (by decide)]
    simp only [zg_44_4, zg_44_5, zbS, h4, h5, zmod24 ho hn, zr_44_0, zr_44_1, zr_44_2, zr_44_3, z_wr za_45 hat, z_wr za_46 hat, z_wr za_47 hat, z_wr za_48 hat, hne, not_false_eq_true, if_true, zr_15_9, z_rd za_19 ht, e19, zg_15_5, e24, zp_44_4, zp_44_5, e1, nI_1]
    by_cases c : n < 24
    · rw [if_neg (by omega), if_pos c]
    · rw [if_pos (by omega), if_neg c]
/-- the reference's keep -/
theorem m_keep (h : zHm n hs I A) (hm : mR A 68 (hs n)) (g' : Nat → Nat) (d : Nat) : ∃ I' A', pm_call L xs (d + 1) m_Model_keep [.ref 64] (zL I A b) = some (none, zL I' A' b) ∧ zHm (hN n) (hP n hs g') I' A' ∧ (∀ q, q ≠ 71 → A' q = A q) ∧ ∀ o' k', ¬ (o' = 64 ∧ k' = 9) → I' o' k' = I o' k' := by
  obtain ⟨hn, h9, hk⟩ := h
  rw [D_Model_keep, B_Model_keep_0]
  have e24 : (nI n = (24 : Int32)) = (n = 24) := by rw [zl24]; exact znI (by omega) (by decide)
  have lst : ∀ (I1 A1 : Nat → Nat → Int32) (m : Nat), m < 24 → I1 64 9 = nI m → mR A1 68 (hs n) → zE L xs d K_Model_keep 51 [some (.ref 64), some (.int 0)] [] (zL I1 A1 b) = some (none, zL (zuI I1 64 9 (nI (m + 1))) (zcp A1 71 (55 * m) 55 (A1 68)) b) := by
    intro I1 A1 m hm4 h91 hm1
    refine (zfill (fun k A => zE L xs d K_Model_keep 51 [some (.ref 64), some (.int k)] [] (zL I1 A b)) A1 71 (55 * m) 55 (A1 68) (fun k hk => ?_)).trans ?_
    · rw [B_Model_keep_51]
      simp only [zr_64_8, zg_64_9, zr_64_5, zbS, h91, zl55, pk_mul, nI_add]
      rw [if_neg (nI_ge hk (by decide)), z_rd za_68 hk, zbS, z_wr za_71 (by omega), zbS, zcp_o (show 68 ≠ 71 by decide)]
    · rw [B_Model_keep_51, zl55, if_pos (nI_le (Nat.le_refl _) (by decide))]
      simp only [zg_64_9, zbS, h91, zp_64_9, nI_1]
  simp only [zg_64_9, zbS, h9, e24]
  by_cases c : n = 24
  · subst c
    rw [if_neg (fun q => q rfl)]
    have sh := zfill (fun k A => zE L xs d K_Model_keep 11 [some (.ref 64), some (.int k)] [] (zL I A b)) A 71 0 1265 (fun k => A 71 (k + 55)) (fun k hk => by
      rw [B_Model_keep_11, show (1265 : Int32) = nI 1265 from by decide +kernel, if_neg (nI_ge hk (by decide))]
      simp only [zr_64_8, zbS, zl55, nI_add, Nat.zero_add]
      rw [z_rd za_71 (by omega), zbS, z_wr za_71 (by omega), zbS, zcp_out (by omega)])
    rw [sh, B_Model_keep_11, show (1265 : Int32) = nI 1265 from by decide +kernel, if_pos (nI_le (Nat.le_refl _) (by decide))]
    simp only [zg_64_9, zbS, h9, zp_64_9]
    have h91 : zuI I 64 9 (nI 24 - 1) 64 9 = nI 23 := by rw [zuI_s]; exact nI_pred 23
    have hm1 : mR (zcp A 71 0 1265 (fun k => A 71 (k + 55))) 68 (hs 24) := hm.c (zcp_o (by decide))
    refine ⟨_, _, lst _ _ 23 (by decide) h91 hm1, ⟨hN_le _, ?_, fun k hk2 j hj => ?_⟩, fun q hq => by rw [zcp_o hq, zcp_o hq], fun o' k' hne => by simp only [zuI_at, if_neg hne]⟩
    · rw [zuI_s]; rfl
    · have hk3 : k < 24 := hk2
      unfold hP
      rw [if_neg (by decide)]
      simp only [show k ≠ 24 by omega, if_false]
      by_cases e : k = 23
      · subst e
        rw [zcp_at hj]
        exact hm1.2 j hj
      · rw [zcp_out (by omega)]
        have := zcp_at (A := A) (q := 71) (p := 0) (n := 1265) (f := fun k => A 71 (k + 55)) (i := 55 * k + j) (by omega)
        rw [Nat.zero_add] at this
        rw [this, ← hk (k + 1) (by omega) j hj]
        congr 1
        omega
  · rw [if_pos c]
    have hn4 : n < 24 := by omega
    refine ⟨_, _, lst I A n hn4 h9 hm, ⟨hN_le _, ?_, fun k hk2 j hj => ?_⟩, fun q hq => zcp_o hq, fun o' k' hne => by simp only [zuI_at, if_neg hne]⟩
    · rw [zuI_s]
      unfold hN
      rw [if_pos hn4]
    · unfold hN at hk2
      rw [if_pos hn4] at hk2
      unfold hP
      rw [if_pos hn4]
      simp only [show k ≠ n + 1 by omega, if_false]
      by_cases e : k = n
      · subst e
        rw [zcp_at hj]
        exact hm.2 j hj
      · rw [zcp_out (by omega)]
        exact hk k (by omega) j hj
end
