/-! ways: the class begins -/
section
variable {L : Nat} {xs : Nat → Int32} {g : Nat → Nat} {b : Value}
theorem c_enq {I A : Nat → Nat → Int32} {n t : Nat} (hn : n < 7) (h11 : I 49 11 = nI n) (ht : t < 7) (d : Nat) : pm_call L xs (d + 1) m_Ways_enqueue [.ref 49, .int (nI t)] (zL I A b) = some (none, zL (zuI I 49 11 (nI (n + 1))) (zuA A 50 n (nI t)) b) := by
  rw [D_Ways_enqueue, B_Ways_enqueue_0, if_neg (zNn (by omega)), zg_49_11, zbS, h11, if_neg (by rw [zl7]; exact nI_ge hn (by decide)), zr_49_0, zbS, zbS, z_wr za_50 hn, zbS, zg_49_11, zbS, h11, nI_1, zp_49_11, zbS]
theorem c_enqN {I A : Nat → Nat → Int32} (d : Nat) : pm_call L xs (d + 1) m_Ways_enqueue [.ref 49, .int (-1000000 : Int32)] (zL I A b) = some (none, zL I A b) := by
  rw [D_Ways_enqueue, B_Ways_enqueue_0, if_pos rfl]
/-- the queue, and what else is as it was -/
def qR (I A I' A' : Nat → Nat → Int32) (l : List Nat) : Prop := tR A' 50 l ∧ I' 49 11 = nI l.length ∧ (∀ o k, ¬ (o = 49 ∧ k = 11) → I' o k = I o k) ∧ ∀ q, q ≠ 50 → A' q = A q
theorem qR.cR {I A I' A' : Nat → Nat → Int32} {l : List Nat} (h : qR I A I' A' l) (hc : cR I A 15 g) : cR I' A' 15 g := hc.c (funext fun k => h.2.2.1 15 k (by omega)) (fun q _ _ => h.2.2.2 q (by omega))
theorem qR.tr {I A I1 A1 I2 A2 : Nat → Nat → Int32} {l l2 : List Nat} (h : qR I A I1 A1 l) (k : qR I1 A1 I2 A2 l2) : qR I A I2 A2 l2 := ⟨k.1, k.2.1, fun o j hj => (k.2.2.1 o j hj).trans (h.2.2.1 o j hj), fun q hq => (k.2.2.2 q hq).trans (h.2.2.2 q hq)⟩
theorem qR.enq {I A I1 A1 : Nat → Nat → Int32} {l : List Nat} (h : qR I A I1 A1 l) (t : Nat) : qR I A (zuI I1 49 11 (nI (l.length + 1))) (zuA A1 50 l.length (nI t)) (l ++ [t]) := by
  refine ⟨tR_app h.1, by rw [zuI_s, List.length_append, List.length_singleton], fun o j hj => ?_, fun q hq => by rw [zuA_o hq, h.2.2.2 q hq]⟩
  rw [zuI_at, if_neg hj, h.2.2.1 o j hj]
theorem c_qTop (hB : gB g) (hD : gD g) {p : Nat} (hp : p < 2) (d : Nat) : ∀ (k : Nat) (l : List Nat) (I A : Nat → Nat → Int32), cR I A 15 g → tR A 50 l → I 49 11 = nI l.length → k < 2 ^ 31 → l.length + (fT g p k).length ≤ 7 → ∃ I' A', zE L xs (d + 1) K_Ways_queueFromTop 8 [some (.ref 49), some (.ref 15), some (.int (nI p)), some (.int (nI k - 1))] [] (zL I A b) = some (none, zL I' A' b) ∧ qR I A I' A' (l ++ fT g p k)
  | 0, l, I, A, hc, h50, h11, hk, hl => by
    rw [B_Ways_queueFromTop_8, if_pos (by decide)]
    refine ⟨I, A, rfl, ?_⟩
    rw [show fT g p 0 = [] from rfl, List.append_nil]
    exact ⟨h50, h11, fun _ _ _ => rfl, fun _ _ => rfl⟩
  | k + 1, l, I, A, hc, h50, h11, hk, hl => by
    have h7 := hB.1
    rw [nI_pred, B_Ways_queueFromTop_8, if_neg (nI_pos (by omega)), c_thingAt L xs d b hc hB (show p < 2 ^ 31 by omega) (by omega) (nI k), zbI]
    dsimp only
    rw [fT_s] at hl ⊢
    cases hf : zFind (fun t => decide (gp g t = p) && decide (nI (gh g t) = nI k)) (g 3) 0 with
    | none =>
      rw [hf] at hl
      dsimp only at hl ⊢
      rw [show zopt none = (-1000000 : Int32) from rfl, c_enqN, zbV, zm1]
      exact c_qTop hB hD hp d k l I A hc h50 h11 (by omega) hl
    | some u =>
      obtain ⟨-, u1, -⟩ := zFind_some _ _ _ hf
      rw [hf] at hl
      dsimp only at hl ⊢
      rw [List.length_cons] at hl
      rw [show zopt (some u) = nI u from rfl, c_enq (show l.length < 7 by omega) h11 (by omega), zbV, zm1]
      have q0 : qR I A I A l := ⟨h50, h11, fun _ _ _ => rfl, fun _ _ => rfl⟩
      have q1 := q0.enq u
      obtain ⟨I', A', x1, x2⟩ := c_qTop hB hD hp d k (l ++ [u]) _ _ (q1.cR hc) q1.1 q1.2.1 (by omega) (by rw [List.length_append, List.length_singleton]; omega)
      refine ⟨I', A', x1, ?_⟩
      rw [List.append_assoc] at x2
      exact q1.tr x2
theorem c_queueFromTop (hB : gB g) (hD : gD g) {p : Nat} {v : Int32} (hv : v = nI p) (hp : p < 2) {l : List Nat} {I A : Nat → Nat → Int32} (hc : cR I A 15 g) (h50 : tR A 50 l) (h11 : I 49 11 = nI l.length) (hl : l.length + (fT g p (gcount g p)).length ≤ 7) (d : Nat) : ∃ I' A', pm_call L xs (d + 3) m_Ways_queueFromTop [.ref 49, .ref 15, .int v] (zL I A b) = some (none, zL I' A' b) ∧ qR I A I' A' (l ++ fT g p (gcount g p)) := by
  subst hv
  rw [D_Ways_queueFromTop, B_Ways_queueFromTop_0, c_countAt L xs d b hc hB (show p < 2 ^ 31 by omega), zbI]
  dsimp only
  exact c_qTop hB hD hp (d + 1) (gcount g p) l I A hc h50 h11 (gcnt31 hB p) hl
theorem c_queueLaidBy (hB : gB g) {l : List Nat} {I A : Nat → Nat → Int32} (hc : cR I A 15 g) (h50 : tR A 50 l) (h11 : I 49 11 = nI l.length) (hl : l.length + (lD g (g 3)).length ≤ 7) (d : Nat) : ∃ I' A', pm_call L xs (d + 2) m_Ways_queueLaidBy [.ref 49, .ref 15] (zL I A b) = some (none, zL I' A' b) ∧ qR I A I' A' (l ++ lD g (g 3)) := by
  have h7 := hB.1
  have mono : ∀ n, (lD g n).length ≤ (lD g (n + 1)).length := fun n => by
    rw [lD_s]
    split
    · rw [List.length_append]; omega
    · exact Nat.le_refl _
  have mono2 : ∀ k n, n ≤ k → (lD g n).length ≤ (lD g k).length := by
    intro k
    induction k with
    | zero => intro n hn; rw [show n = 0 by omega]; exact Nat.le_refl _
    | succ k ih =>
      intro n hn
      by_cases e : n = k + 1
      · rw [e]; exact Nat.le_refl _
      · exact Nat.le_trans (ih n (by omega)) (mono k)
  rw [D_Ways_queueLaidBy, B_Ways_queueLaidBy_0]
  have key : ∀ t, t ≤ g 3 → ∃ I' A', zE L xs (d + 1) K_Ways_queueLaidBy 2 [some (.ref 49), some (.ref 15), some (.int (0 : Int32))] [] (zL I A b) = zE L xs (d + 1) K_Ways_queueLaidBy 2 [some (.ref 49), some (.ref 15), some (.int (nI t))] [] (zL I' A' b) ∧ qR I A I' A' (l ++ lD g t) := by
    intro t
    induction t with
    | zero =>
      intro _
      refine ⟨I, A, rfl, ?_⟩
      rw [show lD g 0 = [] from rfl, List.append_nil]
      exact ⟨h50, h11, fun _ _ _ => rfl, fun _ _ => rfl⟩
    | succ t ih =>
      intro ht
      have ht3 : t < g 3 := by omega
      obtain ⟨I1, A1, e1, e2⟩ := ih (by omega)
      have hc1 := e2.cR hc
      have hm := mono2 (g 3) (t + 1) ht
      rw [e1, B_Ways_queueLaidBy_2, hc1.n, zbS, if_neg (nI_ge ht3 (by omega)), zSr4 hc1.1, zbS, hc1.place hB b ht3, zbS, zl2]
      rw [lD_s] at hm ⊢
      by_cases c : gp g t = 2
      · rw [if_pos c] at hm ⊢
        rw [List.length_append, List.length_singleton] at hm
        rw [c, if_neg (fun q => q rfl), c_enq (show (l ++ lD g t).length < 7 by rw [List.length_append]; omega) e2.2.1 (by omega), zbV, nI_1]
        refine ⟨_, _, rfl, ?_⟩
        rw [← List.append_assoc]
        exact e2.enq t
      · rw [if_neg c, if_pos (fun q => c ((nI_eq (gbl hB _) (by decide)).mp q)), nI_1]
        exact ⟨I1, A1, rfl, e2⟩
  obtain ⟨I1, A1, e1, e2⟩ := key (g 3) (Nat.le_refl _)
  refine ⟨I1, A1, ?_, e2⟩
  rw [e1, B_Ways_queueLaidBy_2, (e2.cR hc).n, zbS, if_pos (nI_le (Nat.le_refl _) (by omega))]
theorem c_begin (hB : gB g) (hD : gD g) {I A : Nat → Nat → Int32} (hc : cR I A 15 g) (d : Nat) : ∃ I' A', pm_call L xs (d + 5) m_Ways_begin [.ref 49, .ref 15] (zL I A b) = some (none, zL I' A' b) ∧ wR I' A' g ∧ tR A' 50 (lQ g) ∧ I' 49 11 = nI (lQ g).length ∧ (∀ o k, o ≠ 49 → I' o k = I o k) ∧ ∀ q, (q < 50 ∨ 58 < q) → A' q = A q := by
  have h7 := hB.1
  have h03 := hB.2.1
  have hQ7 : (lQ g).length ≤ 7 := by have := lP_7 hB hD none; rw [lP_none] at this; exact this
  have hQl : (lQ g).length = (fT g 1 (gcount g 1)).length + ((lD g (g 3)).length + (fT g 0 (gcount g 0)).length) := by unfold lQ; rw [List.length_append, List.length_append]
  rw [D_Ways_begin, B_Ways_begin_0, hc.bags, zbS, zp_49_9, zbS]
  have hca : cR (zuI I 49 9 (nI (g 0))) A 15 g := hc.c (funext fun k => zuI_o (by decide)) (fun _ _ _ => rfl)
  rw [hca.holds, zbS, zp_49_10, zbS]
  obtain ⟨I0, hI0⟩ : ∃ I0, I0 = zuI (zuI I 49 9 (nI (g 0))) 49 10 (nI (g 1)) := ⟨_, rfl⟩
  rw [← hI0]
  have i9 : I0 49 9 = nI (g 0) := by rw [hI0, zuI_n (by decide), zuI_s]
  have i10 : I0 49 10 = nI (g 1) := by rw [hI0, zuI_s]
  have iF : ∀ o k, o ≠ 49 → I0 o k = I o k := fun o k ho => by rw [hI0, zuI_o ho, zuI_o ho]
  have hc0 : ∀ A' : Nat → Nat → Int32, (∀ q, (q < 50 ∨ 58 < q) → A' q = A q) → cR I0 A' 15 g := fun A' hA' => hc.c (funext fun k => iF 15 k (by decide)) (fun q _ _ => hA' q (by omega))
  have bagL : ∀ k, k ≤ g 0 → ∃ A', zE L xs (d + 4) K_Ways_begin 18 [some (.ref 49), some (.ref 15), some (.int (0 : Int32))] [] (zL I0 A b) = zE L xs (d + 4) K_Ways_begin 18 [some (.ref 49), some (.ref 15), some (.int (nI k))] [] (zL I0 A' b) ∧ (∀ c, c < k → A' 57 c = nI (gset g (3 + c)) ∧ A' 58 c = nI (gweighs g c)) ∧ ∀ q, (q < 50 ∨ 58 < q) → A' q = A q := by
    intro k
    induction k with
    | zero => intro _; exact ⟨A, rfl, fun c hc => absurd hc (Nat.not_lt_zero _), fun _ _ => rfl⟩
    | succ k ih =>
      intro hk
      obtain ⟨A1, e1, e2, e3⟩ := ih (by omega)
      have hc1 := hc0 A1 e3
      have e3k : (3 : Int32) + nI k = nI (3 + k) := by rw [zl3, nI_add]
      have hc2 : cR I0 (zuA A1 57 k (nI (gset g (3 + k)))) 15 g := hc1.c rfl (fun q _ _ => zuA_o (by omega))
      rw [e1, B_Ways_begin_18, zg_49_9, zbS, i9, if_neg (nI_ge (by omega) (by omega)), zr_49_7, zbS, c_bitsAt' L xs (d + 3) b hc1 hB e3k (by omega), zbI]
      dsimp only
      rw [z_wr za_57 (by omega), zbS, zr_49_8, zbS, c_weighs L xs (d + 3) b hc2 hB (by omega), zbI]
      dsimp only
      rw [z_wr za_58 (by omega), zbS, nI_1]
      refine ⟨_, rfl, fun c hc => ⟨?_, ?_⟩, fun q hq => by rw [zuA_o (by omega), zuA_o (by omega), e3 q hq]⟩
      · rw [zuA_o (by decide), zuA_s]
        by_cases e : c = k
        · rw [e, pk_us]
        · rw [pk_un e]; exact (e2 c (by omega)).1
      · rw [zuA_s]
        by_cases e : c = k
        · rw [e, pk_us]
        · rw [pk_un e, zuA_o (by decide)]; exact (e2 c (by omega)).2
  obtain ⟨A1, e1, e2, e3⟩ := bagL (g 0) (Nat.le_refl _)
  rw [e1, B_Ways_begin_18, zg_49_9, zbS, i9, if_pos (nI_le (Nat.le_refl _) (by omega))]
  have thL : ∀ k, k ≤ g 3 → ∃ A', zE L xs (d + 4) K_Ways_begin 58 [some (.ref 49), some (.ref 15), some (.int (0 : Int32))] [] (zL I0 A1 b) = zE L xs (d + 4) K_Ways_begin 58 [some (.ref 49), some (.ref 15), some (.int (nI k))] [] (zL I0 A' b) ∧ (∀ t, t < k → A' 54 t = nI (gpress g t) ∧ A' 55 t = nI (gbears g t) - nI (gload g t) ∧ A' 56 t = nI (gw g t)) ∧ (A' 57 = A1 57 ∧ A' 58 = A1 58) ∧ ∀ q, (q < 50 ∨ 58 < q) → A' q = A q := by
    intro k
    induction k with
    | zero => intro _; exact ⟨A1, rfl, fun c hc => absurd hc (Nat.not_lt_zero _), ⟨rfl, rfl⟩, e3⟩
    | succ k ih =>
      intro hk
      obtain ⟨A2, y1, y2, y3, y4⟩ := ih (by omega)
      have hk3 : k < g 3 := by omega
      have hc2 := hc0 A2 y4
      obtain ⟨A3, hA3⟩ : ∃ A3, A3 = zuA A2 54 k (nI (gpress g k)) := ⟨_, rfl⟩
      have hc3 : cR I0 A3 15 g := hc2.c rfl (fun q _ _ => by rw [hA3]; exact zuA_o (by omega))
      obtain ⟨A4, hA4⟩ : ∃ A4, A4 = zuA A3 55 k (nI (gbears g k) - nI (gload g k)) := ⟨_, rfl⟩
      have hc4 : cR I0 A4 15 g := hc3.c rfl (fun q _ _ => by rw [hA4]; exact zuA_o (by omega))
      rw [y1, B_Ways_begin_58, hc2.n, zbS, if_neg (nI_ge hk3 (by omega)), zr_49_4, zbS, c_pressOf L xs (d + 2) b hc2 hB hk3, zbI]
      dsimp only
      rw [z_wr za_54 (by omega), zbS, ← hA3, zr_49_5, zbS, c_bearsOf L xs (d + 2) b hc3 hB hk3, zbI]
      dsimp only
      rw [c_loadOn L xs (d + 2) b hc3 hB hk3, zbI]
      dsimp only
      rw [z_wr za_55 (by omega), zbS, ← hA4, zr_49_6, zbS, zSr2 hc4.1, zbS, hc4.weight hB b hk3, zbS, z_wr za_56 (by omega), zbS, nI_1]
      refine ⟨_, rfl, fun t ht => ?_, ⟨?_, ?_⟩, fun q hq => by rw [zuA_o (by omega), hA4, zuA_o (by omega), hA3, zuA_o (by omega), y4 q hq]⟩
      · rw [zuA_o (show 54 ≠ 56 by decide), zuA_o (show 55 ≠ 56 by decide), zuA_s, hA4, zuA_o (show 54 ≠ 55 by decide), zuA_s, zuA_o (show 56 ≠ 55 by decide), hA3, zuA_s, zuA_o (show 55 ≠ 54 by decide), zuA_o (show 56 ≠ 54 by decide)]
        by_cases e : t = k
        · rw [e, pk_us, pk_us, pk_us]; exact ⟨rfl, rfl, rfl⟩
        · rw [pk_un e, pk_un e, pk_un e]; exact y2 t (by omega)
      · rw [zuA_o (by decide), hA4, zuA_o (by decide), hA3, zuA_o (by decide)]; exact y3.1
      · rw [zuA_o (by decide), hA4, zuA_o (by decide), hA3, zuA_o (by decide)]; exact y3.2
  obtain ⟨A2, y1, y2, y3, y4⟩ := thL (g 3) (Nat.le_refl _)
  have hc2 := hc0 A2 y4
  rw [y1, B_Ways_begin_58, hc2.n, zbS, if_pos (nI_le (Nat.le_refl _) (by omega)), zp_49_11, zbS]
  obtain ⟨I3, hI3⟩ : ∃ I3, I3 = zuI I0 49 11 (0 : Int32) := ⟨_, rfl⟩
  rw [← hI3]
  have hc3 : cR I3 A2 15 g := hc2.c (funext fun k => by rw [hI3]; exact zuI_o (by decide)) (fun _ _ _ => rfl)
  obtain ⟨I4, A4, p1, p2⟩ := c_queueFromTop (L := L) (xs := xs) (b := b) hB hD (p := 1) zl1 (by decide) (l := []) hc3 (fun j hj => absurd hj (Nat.not_lt_zero _)) (by rw [hI3, zuI_s]; rfl) (by rw [List.length_nil]; omega) (d + 1)
  rw [List.nil_append] at p2
  obtain ⟨I5, A5, p3, p4⟩ := c_queueLaidBy (L := L) (xs := xs) (b := b) hB (p2.cR hc3) p2.1 p2.2.1 (by omega) (d + 2)
  obtain ⟨I6, A6, p5, p6⟩ := c_queueFromTop (L := L) (xs := xs) (b := b) hB hD (p := 0) zl0 (by decide) (p4.cR (p2.cR hc3)) p4.1 p4.2.1 (by rw [List.length_append]; omega) (d + 1)
  rw [p1, zbV, p3, zbV, p5, zbV]
  have q := (p2.tr p4).tr p6
  rw [List.append_assoc] at q
  have iG : ∀ k, k ≠ 11 → I6 49 k = I0 49 k := fun k hk => by rw [q.2.2.1 49 k (by omega), hI3, zuI_n hk]
  refine ⟨I6, A6, rfl, ⟨⟨⟨by rw [iG 9 (by decide), i9], by rw [iG 10 (by decide), i10]⟩, fun c hc => by rw [q.2.2.2 58 (by decide), y3.2]; exact (e2 c hc).2, fun t ht => by rw [q.2.2.2 56 (by decide)]; exact (y2 t ht).2.2⟩, fun c hc => by rw [q.2.2.2 57 (by decide), y3.1]; exact (e2 c hc).1, fun t ht => by rw [q.2.2.2 54 (by decide), q.2.2.2 55 (by decide)]; exact ⟨(y2 t ht).1, (y2 t ht).2.1⟩⟩, q.1, q.2.1, fun o k ho => by rw [q.2.2.1 o k (by omega), hI3, zuI_o ho, iF o k ho], fun p hp => by rw [q.2.2.2 p (by omega), y4 p hp]⟩
theorem c_packAllBut {I A : Nat → Nat → Int32} {l : List Nat} (hl : pGood l) (h50 : tR A 50 l) (h11 : I 49 11 = nI l.length) {nt : Option Nat} (hnt : ∀ t, nt = some t → t < 7) (d : Nat) : ∃ I' A', pm_call L xs (d + 1) m_Ways_packAllBut [.ref 49, .int (zopt nt)] (zL I A b) = some (none, zL I' A' b) ∧ tR A' 51 (l.filter fun u => decide (nt ≠ some u)) ∧ I' 49 12 = nI (l.filter fun u => decide (nt ≠ some u)).length ∧ (∀ o k, ¬ (o = 49 ∧ k = 12) → I' o k = I o k) ∧ ∀ q, q ≠ 51 → A' q = A q := by
  have hl7 := hl.1
  rw [D_Ways_packAllBut, B_Ways_packAllBut_0, zp_49_12, zbS]
  have key : ∀ i, i ≤ l.length → ∃ I' A', zE L xs d K_Ways_packAllBut 7 [some (.ref 49), some (.int (zopt nt)), some (.int (0 : Int32))] [] (zL (zuI I 49 12 (0 : Int32)) A b) = zE L xs d K_Ways_packAllBut 7 [some (.ref 49), some (.int (zopt nt)), some (.int (nI i))] [] (zL I' A' b) ∧ tR A' 51 ((l.take i).filter fun u => decide (nt ≠ some u)) ∧ I' 49 12 = nI ((l.take i).filter fun u => decide (nt ≠ some u)).length ∧ (∀ o k, ¬ (o = 49 ∧ k = 12) → I' o k = I o k) ∧ ∀ q, q ≠ 51 → A' q = A q := by
    intro i
    induction i with
    | zero => intro _; exact ⟨_, A, rfl, fun j hj => absurd hj (Nat.not_lt_zero _), by rw [zuI_s]; rfl, fun o k hk => by rw [zuI_at, if_neg hk], fun _ _ => rfl⟩
    | succ i ih =>
      intro hi
      obtain ⟨I1, A1, e1, e2, e3, e4, e5⟩ := ih (by omega)
      have hx := hl.at (show i < l.length by omega)
      have hlen : ((l.take i).filter fun u => decide (nt ≠ some u)).length < 7 := by
        have h1 := List.length_filter_le (fun u => decide (nt ≠ some u)) (l.take i)
        rw [List.length_take] at h1
        omega
      have r1 : pm_rd 0 (zL I1 A1 b) 50 (nI i) = some (nI (l.getD i 0)) := by rw [z_rd za_50 (by omega), e5 50 (by decide), h50 i (by omega)]
      rw [e1, B_Ways_packAllBut_7, zg_49_11, zbS, e4 49 11 (by omega), h11, if_neg (nI_ge (by omega) (by omega)), zr_49_0, zbS, r1, zbS, take_s (by omega), List.filter_append]
      by_cases c : nt = some (l.getD i 0)
      · rw [if_pos (show nI (l.getD i 0) = zopt nt by rw [c]; rfl), nI_1]
        rw [show ([l.getD i 0].filter fun u => decide (nt ≠ some u)) = [] from by simp [c], List.append_nil]
        exact ⟨I1, A1, rfl, e2, e3, e4, e5⟩
      · have hne : ¬ nI (l.getD i 0) = zopt nt := fun q => by
          cases hn : nt with
          | none => rw [hn] at q; exact zNn (by omega) q
          | some t =>
            rw [hn] at q
            have := hnt t hn
            exact c (by rw [hn, (nI_eq (show l.getD i 0 < 2 ^ 31 by omega) (show t < 2 ^ 31 by omega)).mp q])
        rw [if_neg hne, zr_49_1, zbS, zg_49_12, zbS, e3, zbS, r1, zbS, z_wr za_51 hlen, zbS, zg_49_12, zbS, e3, nI_1, zp_49_12, zbS, nI_1]
        rw [show ([l.getD i 0].filter fun u => decide (nt ≠ some u)) = [l.getD i 0] from List.filter_cons_of_pos (decide_eq_true c)]
        refine ⟨_, _, rfl, tR_app e2, by rw [zuI_s, List.length_append, List.length_singleton], fun o k hk => by rw [zuI_at, if_neg hk, e4 o k hk], fun q hq => by rw [zuA_o hq, e5 q hq]⟩
  obtain ⟨I1, A1, e1, e2, e3, e4, e5⟩ := key l.length (Nat.le_refl _)
  rw [List.take_length] at e2 e3
  refine ⟨I1, A1, ?_, e2, e3, e4, e5⟩
  rw [e1, B_Ways_packAllBut_7, zg_49_11, zbS, e4 49 11 (by omega), h11, if_pos (nI_le (Nat.le_refl _) (by omega))]
end
