/-! pack, layBy, takeOut, putIn -/
section
variable {L : Nat} {xs : Nat → Int32} {B B' n o : Nat} {g g' : Nat → Nat} {hs : Nat → Nat → Nat} {I A I' A' : Nat → Nat → Int32} {b : Value}
theorem Rel.acted (h : Rel B I A) (hb : B ≤ B') (hI : ∀ o k, zKI o k = true → o ≠ 15 → o ≠ 44 → ¬ (o = 64 ∧ k = 9) → I' o k = I o k) (hA : ∀ q, zKA q = true → ¬ (16 ≤ q ∧ q ≤ 21) → ¬ (45 ≤ q ∧ q ≤ 48) → q ≠ 68 → q ≠ 71 → A' q = A q) (h60 : A' 60 0 = A 60 0) (h61 : A' 61 0 = A 61 0) (hs : zSp B' g' I' A') (hh : zHs B' g' I' A') : Rel B' I' A' := by
  obtain ⟨g, h1, h2, h3, h4, h5, h6, h7⟩ := h.mono hb
  have e1 : ∀ o k, zKI o k = true → o ≠ 15 → o ≠ 44 → (o ≠ 64 ∨ k ≠ 9) → I' o k = I o k := fun o k a b c d => hI o k a b c (by omega)
  have eI : ∀ o, (o = 30 ∨ o = 37) → I' o = I o := fun o ho => funext (fun k => e1 o k (by rcases ho with rfl | rfl <;> simp [zKI]) (by omega) (by omega) (by omega))
  refine ⟨g', h1.c (e1 _ _ rfl (by decide) (by decide) (by decide)) (e1 _ _ rfl (by decide) (by decide) (by decide)) (fun q a b => hA q (by simp [zKA]; omega) (by omega) (by omega) (by omega) (by omega)) (hA _ rfl (by decide) (by decide) (by decide) (by decide)) (hA _ rfl (by decide) (by decide) (by decide) (by decide)) (hA _ rfl (by decide) (by decide) (by decide) (by decide)), h2.c (e1 _ _ rfl (by decide) (by decide) (by decide)) (e1 _ _ rfl (by decide) (by decide) (by decide)) (e1 _ _ rfl (by decide) (by decide) (by decide)) (e1 _ _ rfl (by decide) (by decide) (by decide)) (hA _ rfl (by decide) (by decide) (by decide) (by decide)) (hA _ rfl (by decide) (by decide) (by decide) (by decide)), h3.c (e1 _ _ rfl (by decide) (by decide) (by decide)) (e1 _ _ rfl (by decide) (by decide) (by decide)) (hA _ rfl (by decide) (by decide) (by decide) (by decide)) (hA _ rfl (by decide) (by decide) (by decide) (by decide)), h4.c h60 h61, hs, h6.c (eI 30 (by omega)) (eI 37 (by omega)) (fun q a b => hA q (by simp [zKA]; omega) (by omega) (by omega) (by omega) (by omega)) (hA _ rfl (by decide) (by decide) (by decide) (by decide)) (hA _ rfl (by decide) (by decide) (by decide) (by decide)), hh⟩
/-- the ring after keep -/
theorem zHc.kept {s m f : Int32} (h : zHc n o hs I A) (hc : cR I A 15 (hs n)) (hb : gBack (hs n) g' s m f (nI (gbroken (hs n)))) (h4 : I' 44 = (if n < 24 then zuI I 44 5 (nI (n + 1)) else zuI I 44 4 (nI ((o + 1) % 24))) 44) (hA : ∀ q, 45 ≤ q → q ≤ 48 → A' q = zuA (zuA (zuA (zuA A 45 ((o + n) % 24) s) 46 ((o + n) % 24) m) 47 ((o + n) % 24) f) 48 ((o + n) % 24) (I 15 5) q) : zHc (hN n) (hO n o) (hP n hs g') I' A' := by
  have hn := h.1
  have e5 : I 15 5 = nI (gbroken (hs n)) := hc.2.1.2.2.2.2.2
  refine h.push hb ?_ ?_ ?_ ?_ ?_ ?_
  · rw [h4]
    unfold hO
    by_cases c : n < 24
    · rw [if_pos c, if_pos c, zuI_n (by decide)]; exact h.2.2.1
    · rw [if_neg c, if_neg c, zuI_s]
  · rw [h4]
    unfold hN
    by_cases c : n < 24
    · rw [if_pos c, if_pos c, zuI_s]
    · rw [if_neg c, if_neg c, zuI_n (by decide), h.2.2.2.1, show n = 24 by omega]
  · rw [hA 45 (by decide) (by decide), zuA_o (by decide), zuA_o (by decide), zuA_o (by decide), zuA_s]
  · rw [hA 46 (by decide) (by decide), zuA_o (by decide), zuA_o (by decide), zuA_s, zuA_o (by decide)]
  · rw [hA 47 (by decide) (by decide), zuA_o (by decide), zuA_s, zuA_o (by decide), zuA_o (by decide)]
  · rw [hA 48 (by decide) (by decide), zuA_s, zuA_o (by decide), zuA_o (by decide), zuA_o (by decide), e5]
theorem c_move (hI : gI B (hs n)) (hB2 : B + 1 < 2 ^ 20) (hc : cR I A 15 (hs n)) (hH : zHc n o hs I A) {t p : Nat} (ht : t < hs n 3) (hp : p < 3 + hs n 0) (hp0 : p ≠ 0) (hpt : p ≠ gp (hs n) t) (htop : gp (hs n) t = 2 ∨ ghigh (hs n) (gp (hs n) t) = some t) (ht0 : gp (hs n) t ≠ 0) (d : Nat) : ∃ I' A', pm_call L xs (d + 5) m_Eggs_move [.ref 0, .int (nI t), .int (nI p)] (zL I A b) = some (none, zL I' A' b) ∧ cR I' A' 15 (gcr (gcomes (hs n) t p) (hs n 3)) ∧ zHc (hN n) (hO n o) (hP n hs (gcr (gcomes (hs n) t p) (hs n 3))) I' A' ∧ (∀ q, q ≠ 19 → q ≠ 20 → ¬ (45 ≤ q ∧ q ≤ 48) → A' q = A q) ∧ ∀ o', o' ≠ 15 → o' ≠ 44 → I' o' = I o' := by
  have hB := hI.1
  have hn7 := hB.1
  have hn3 := hB.2.1
  have hk := c_keep (L := L) (xs := xs) (b := b) (s := 0) (m := nI t) (f := A 19 t) hH (Or.inr ⟨t, by omega, rfl, rfl⟩) (d + 3)
  obtain ⟨I1, hI1⟩ : ∃ I1, I1 = if n < 24 then zuI I 44 5 (nI (n + 1)) else zuI I 44 4 (nI ((o + 1) % 24)) := ⟨_, rfl⟩
  obtain ⟨A1, hA1⟩ : ∃ A1, A1 = zuA (zuA (zuA (zuA A 45 ((o + n) % 24) 0) 46 ((o + n) % 24) (nI t)) 47 ((o + n) % 24) (A 19 t)) 48 ((o + n) % 24) (I 15 5) := ⟨_, rfl⟩
  rw [← hI1, ← hA1] at hk
  have f1 : ∀ o', o' ≠ 44 → I1 o' = I o' := by
    intro o' ho'
    rw [hI1]
    split <;> (funext k; exact zuI_o ho')
  have f2 : ∀ q, ¬ (45 ≤ q ∧ q ≤ 48) → A1 q = A q := fun q hq => by rw [hA1, zuA_o (by omega), zuA_o (by omega), zuA_o (by omega), zuA_o (by omega)]
  have hc1 : cR I1 A1 15 (hs n) := hc.c (f1 15 (by decide)) (fun q _ _ => f2 q (by omega))
  obtain ⟨I2, A2, l1, l2, l3, l4⟩ := c_lay L xs d b hc1 hB hI.2.1 hI.2.2.1 (by have := hI.2.2.2.2.1; omega) ht (by omega) hp0 hpt htop ht0
  refine ⟨I2, A2, ?_, l2, ?_, fun q q1 q2 q3 => by rw [l3 q q1 q2, f2 q q3], fun o' o1 o2 => by rw [l4 o' o1, f1 o' o2]⟩
  · rw [D_Eggs_move, B_Eggs_move_0]
    simp only [zr_0_5, zr_0_2, zbS, hk, zbV, l1]
  · refine hH.kept hc (gBack_move hI ht hp0 hpt htop ht0) ?_ (fun q q1 q2 => ?_)
    · rw [l4 44 (by decide), hI1]
    · rw [l3 q (by omega) (by omega), hA1, (hc.2.2 t ht).2.2.2.1]
theorem c_moveTop (hI : gI B (hs n)) (hB2 : B + 1 < 2 ^ 20) (hc : cR I A 15 (hs n)) (hH : zHc n o hs I A) {t p1 p : Nat} {v : Int32} (hv : v = nI p1) (hp1 : p1 < 2 ^ 31) (hf : ghigh (hs n) p1 = some t) (h10 : p1 ≠ 0) (h12 : p1 ≠ 2) (hp : p < 3 + hs n 0) (hp0 : p ≠ 0) (hpp : p ≠ p1) {w : Int32} (hw : w = nI p) (d : Nat) : ∃ I' A', pm_call L xs (d + 6) m_Eggs_moveTop [.ref 0, .int v, .int w] (zL I A b) = some (some (.int (nI t)), zL I' A' b) ∧ cR I' A' 15 (gcr (gcomes (hs n) t p) (hs n 3)) ∧ zHc (hN n) (hO n o) (hP n hs (gcr (gcomes (hs n) t p) (hs n 3))) I' A' ∧ (∀ q, q ≠ 19 → q ≠ 20 → ¬ (45 ≤ q ∧ q ≤ 48) → A' q = A q) ∧ ∀ o', o' ≠ 15 → o' ≠ 44 → I' o' = I o' := by
  have hB := hI.1
  have hn7 := hB.1
  obtain ⟨k1, k2, -, -⟩ := (ghigh_spec (p := p1) hI.2.1).2 t hf
  subst hw
  obtain ⟨I', A', m1, m2, m3, m4, m5⟩ := c_move (L := L) (xs := xs) (b := b) hI hB2 hc hH k1 hp hp0 (by rw [k2]; exact hpp) (Or.inr (by rw [k2]; exact hf)) (by rw [k2]; exact h10) d
  refine ⟨I', A', ?_, m2, m3, m4, m5⟩
  rw [D_Eggs_moveTop, B_Eggs_moveTop_0]
  simp only [zr_0_2, zbS, c_topOf' L xs (d + 2) b hc hB hI.2.1 hv hp1 h12, zbI, hf]
  rw [show zopt (some t) = nI t from rfl, if_pos (zNn (by omega)), m1, zbV]
theorem c_moveTopN (hI : gI B g) (hc : cR I A 15 g) {p1 : Nat} {v w : Int32} (hv : v = nI p1) (hp1 : p1 < 2 ^ 31) (hf : ghigh g p1 = none) (h12 : p1 ≠ 2) (d : Nat) : pm_call L xs (d + 6) m_Eggs_moveTop [.ref 0, .int v, .int w] (zL I A b) = some (some (.int (-1000002)), zL I A b) := by
  rw [D_Eggs_moveTop, B_Eggs_moveTop_0]
  simp only [zr_0_2, zbS, c_topOf' L xs (d + 2) b hc hI.1 hI.2.1 hv hp1 h12, zbI, hf]
  rw [if_neg (fun q => q rfl)]
/-- a class's move and the reference's: all together -/
theorem Rel.moved (h : Rel B I A) (hB2 : B + 1 < 2 ^ 20) {I1 A1 I2 A2 : Nat → Nat → Int32} (hS : zSp B (hs n) I A) (hG : zHg B n hs) (h0 : 0 < hs n 0) {n' : Nat} (hn : n ≤ 24) (hg' : gI (B + 1) g') (m2 : cR I1 A1 15 g') (m3 : zHc (hN n) (hO n o) (hP n hs g') I1 A1) (m4 : ∀ q, q ≠ 19 → q ≠ 20 → q ≠ 21 → ¬ (45 ≤ q ∧ q ≤ 48) → A1 q = A q) (m5 : ∀ o', o' ≠ 15 → o' ≠ 44 → I1 o' = I o') (r2 : mR A2 68 g') (r3 : zHm (hN n) (hP n hs g') I2 A2) (r4 : ∀ q, q ≠ 68 → q ≠ 71 → A2 q = A1 q) (r5 : ∀ o' k', ¬ (o' = 64 ∧ k' = 9) → ¬ (o' = 64 ∧ k' = 0) → I2 o' k' = I1 o' k') : Rel (B + 1) I2 A2 := by
  refine h.acted (g' := g') (by omega) (fun o' k hk a1 a2 a3 => ?_) (fun q hq a1 a2 a3 a4 => ?_) ?_ ?_ ⟨?_, r2, hg'⟩ (zHs.up (n := hN n) (o := hO n o) (hs := hP n hs g') ?_ r3 ((hG.push hn hS.2.2 h0).mono (by omega)) (hP_top hn))
  · rw [r5 o' k a3 (zKI_0 hk), m5 o' a1 a2]
  · rw [r4 q a3 a4, m4 q (by omega) (by omega) (by omega) a2]
  · rw [r4 60 (by decide) (by decide), m4 60 (by decide) (by decide) (by decide) (by decide)]
  · rw [r4 61 (by decide) (by decide), m4 61 (by decide) (by decide) (by decide) (by decide)]
  · exact m2.c (funext fun k => r5 15 k (by omega) (by omega)) (fun q _ _ => r4 q (by omega) (by omega))
  · exact m3.c (r5 44 4 (by omega) (by omega)) (r5 44 5 (by omega) (by omega)) (fun q _ _ => r4 q (by omega) (by omega))
end
