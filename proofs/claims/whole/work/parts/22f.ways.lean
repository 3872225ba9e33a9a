/-! ways: the reference lines up, and lays a WAY -/
section
variable {L : Nat} {xs : Nat → Int32} {g : Nat → Nat} {I A : Nat → Nat → Int32} {b : Value}
theorem zlit {x k : Nat} (hx : x < 2 ^ 31) (hk : k < 2 ^ 31) {v : Int32} (hv : v = nI k) : (nI x = v) = (x = k) := by rw [hv, znI hx hk]
theorem m_lu33 (hm : mR A 68 g) (hB : gB g) {t o a : Nat} (ht : t < g 3) (ho : o < g 3) (i1 : Int32) (y6 y7 : Option Value) (d : Nat) : zE L xs (d + 1) K_Model_lineUp 33 [some (.ref 64), some (.int i1), some (.int (nI t)), some (.int (nI (gp g t))), some (.int (nI a)), some (.int (nI o)), y6, y7] [] (zL I A b) = zE L xs (d + 1) K_Model_lineUp 146 [some (.ref 64), some (.int i1), some (.int (nI t)), some (.int (nI (gp g t))), some (.int (nI a)), some (.int (nI o)), some (.int (nI (gp g o))), y7] [.int (if snr g o t = true then 1 else 0)] (zL I A b) := by
  have h7 := hB.1
  obtain ⟨F, hF⟩ : ∃ F : Int32 → Option pm_R, F = fun s0 => zE L xs (d + 1) K_Model_lineUp 146 [some (.ref 64), some (.int i1), some (.int (nI t)), some (.int (nI (gp g t))), some (.int (nI a)), some (.int (nI o)), some (.int (nI (gp g o))), y7] [.int s0] (zL I A b) := ⟨_, rfl⟩
  have hF0 : ∀ x : Int32, zE L xs (d + 1) K_Model_lineUp 146 [some (.ref 64), some (.int i1), some (.int (nI t)), some (.int (nI (gp g t))), some (.int (nI a)), some (.int (nI o)), some (.int (nI (gp g o))), y7] [.int x] (zL I A b) = F x := fun x => by rw [hF]
  rw [hF0]
  have m3 : pm_call L xs (d + 1) m_Model_of [.ref 68, .int (nI o), .int (3 : Int32)] (zL I A b) = some (some (.int (nI (gp g o))), zL I A b) := m_of' L xs d I b hm zl3 (show o < 7 by omega) (show 3 < 7 by decide)
  have m4 : pm_call L xs (d + 1) m_Model_of [.ref 68, .int (nI o), .int (4 : Int32)] (zL I A b) = some (some (.int (nI (go g o))), zL I A b) := m_of' L xs d I b hm zl4 (show o < 7 by omega) (show 4 < 7 by decide)
  have m5 : pm_call L xs (d + 1) m_Model_of [.ref 68, .int (nI t), .int (4 : Int32)] (zL I A b) = some (some (.int (nI (go g t))), zL I A b) := m_of' L xs d I b hm zl4 (show t < 7 by omega) (show 4 < 7 by decide)
  have po : gp g o < 2 ^ 31 := gbl hB _
  have pt : gp g t < 2 ^ 31 := gbl hB _
  have oo : go g o < 2 ^ 31 := gbl hB _
  have ot : go g t < 2 ^ 31 := gbl hB _
  rw [B_Model_lineUp_33, zr_64_5, zbS, m_rd' I b hm zl3 (show 3 < 55 by decide), zbS, if_neg (nI_ge ho (by omega))]
  simp only [zr_64_5, zbS, m3, m4, m5, zbI, zlit po (by decide) zl1, zlit po (by decide) zl2, zlit po (by decide) zl0, zlit pt (by decide) zl1, zlit pt (by decide) zl2, zlit pt (by decide) zl0, znL ot oo, znT ot oo, znT (show o < 2 ^ 31 by omega) (show t < 2 ^ 31 by omega), hF0]
  clear hF0 hF
  repeat' split
  all_goals first
    | rfl
    | (rename_i hs; exfalso; clear m3 m4 m5; simp only [snr, Bool.or_eq_true, Bool.and_eq_true, decide_eq_true_eq] at hs; omega)
theorem m_luIn (hm : mR A 68 g) (hB : gB g) {t : Nat} (ht : t < g 3) {nt : Option Nat} (hnt : ∀ u, nt = some u → u < 7) (d : Nat) : ∀ o, o ≤ g 3 → ∀ y6 y7, ∃ y6' y7', zE L xs (d + 1) K_Model_lineUp 33 [some (.ref 64), some (.int (zopt nt)), some (.int (nI t)), some (.int (nI (gp g t))), some (.int (0 : Int32)), some (.int (0 : Int32)), y6, y7] [] (zL I A b) = zE L xs (d + 1) K_Model_lineUp 33 [some (.ref 64), some (.int (zopt nt)), some (.int (nI t)), some (.int (nI (gp g t))), some (.int (nI (zC (rkP g nt t) o))), some (.int (nI o)), y6', y7'] [] (zL I A b) := by
  have h7 := hB.1
  intro o
  induction o with
  | zero => intro _ y6 y7; exact ⟨y6, y7, rfl⟩
  | succ o ih =>
    intro ho y6 y7
    obtain ⟨y6', y7', e1⟩ := ih (by omega) y6 y7
    rw [e1, m_lu33 hm hB ht (show o < g 3 by omega), B_Model_lineUp_146, zC_s]
    have hne : (nI o = zopt nt) ↔ (nt = some o) := by
      cases hn : nt with
      | none => exact ⟨fun q => absurd q (zNn (by omega)), fun q => by cases q⟩
      | some u =>
        have := hnt u hn
        rw [show zopt (some u) = nI u from rfl, nI_eq (by omega) (by omega)]
        exact ⟨fun q => by rw [q], fun q => by injection q with q; exact q.symm⟩
    have e0 : nI (zC (rkP g nt t) o) + (0 : Int32) = nI (zC (rkP g nt t) o + 0) := by rw [zl0, nI_add]
    by_cases c1 : o = t
    · rw [if_pos (show nI o = nI t by rw [c1]), if_neg (show ¬ rkP g nt t o = true by unfold rkP; simp [c1]), e0, nI_1]
      exact ⟨_, _, rfl⟩
    · rw [if_neg (show ¬ nI o = nI t from fun q => c1 ((nI_eq (by omega) (by omega)).mp q))]
      by_cases c2 : nt = some o
      · rw [if_pos (hne.mpr c2), if_neg (show ¬ rkP g nt t o = true by unfold rkP; simp [c2]), e0, nI_1]
        exact ⟨_, _, rfl⟩
      · rw [if_neg (fun q => c2 (hne.mp q))]
        by_cases c3 : snr g o t = true
        · rw [if_pos c3, if_neg (by decide), if_pos (show rkP g nt t o = true by unfold rkP; simp [c1, c2, c3]), nI_1, nI_1]
          exact ⟨_, _, rfl⟩
        · rw [if_neg c3, if_pos rfl, if_neg (show ¬ rkP g nt t o = true by unfold rkP; simp [c3]), e0, nI_1]
          exact ⟨_, _, rfl⟩
theorem getD_ix {l : List Nat} {t : Nat} (h : t ∈ l) : ∃ j, j < l.length ∧ l.getD j 0 = t := by
  obtain ⟨j, hj, e⟩ := List.mem_iff_getElem.mp h
  exact ⟨j, hj, by rw [List.getD_eq_getElem?_getD, List.getElem?_eq_getElem hj]; exact e⟩
theorem m_lineUp (hm : mR A 68 g) (hB : gB g) (hD : gD g) {nt : Option Nat} (hnt : ∀ u, nt = some u → u < 7) (d : Nat) : ∃ I' A', pm_call L xs (d + 2) m_Model_lineUp [.ref 64, .int (zopt nt)] (zL I A b) = some (none, zL I' A' b) ∧ tR A' 73 (lP g nt) ∧ I' 64 20 = nI (lP g nt).length ∧ (∀ o k, ¬ (o = 64 ∧ k = 20) → I' o k = I o k) ∧ ∀ q, q ≠ 73 → A' q = A q := by
  have h7 := hB.1
  have hP7 := lP_7 hB hD nt
  rw [D_Model_lineUp, B_Model_lineUp_0, zp_64_20, zbS]
  have key : ∀ t, t ≤ g 3 → ∃ I' A' y3 y4 y5 y6 y7, zE L xs (d + 1) K_Model_lineUp 7 [some (.ref 64), some (.int (zopt nt)), some (.int (0 : Int32)), none, none, none, none, none] [] (zL (zuI I 64 20 (0 : Int32)) A b) = zE L xs (d + 1) K_Model_lineUp 7 [some (.ref 64), some (.int (zopt nt)), some (.int (nI t)), y3, y4, y5, y6, y7] [] (zL I' A' b) ∧ (∀ j, j < (lP g nt).length → (lP g nt).getD j 0 < t → A' 73 j = nI ((lP g nt).getD j 0)) ∧ I' 64 20 = nI (zC (fun t => decide (gp g t < 3) && decide (nt ≠ some t)) t) ∧ (∀ o k, ¬ (o = 64 ∧ k = 20) → I' o k = I o k) ∧ ∀ q, q ≠ 73 → A' q = A q := by
    intro t
    induction t with
    | zero => intro _; exact ⟨_, A, none, none, none, none, none, rfl, fun j _ hj => absurd hj (Nat.not_lt_zero _), by rw [zuI_s]; rfl, fun o k hk => by rw [zuI_at, if_neg hk], fun _ _ => rfl⟩
    | succ t ih =>
      intro ht
      have ht3 : t < g 3 := by omega
      obtain ⟨I1, A1, y3, y4, y5, y6, y7, e1, e2, e3, e4, e5⟩ := ih (by omega)
      have hm1 : mR A1 68 g := hm.c (e5 68 (by decide))
      obtain ⟨y6', y7', i1⟩ := m_luIn (L := L) (xs := xs) (I := I1) (b := b) hm1 hB ht3 hnt d (g 3) (Nat.le_refl _) y6 y7
      have m3 : pm_call L xs (d + 1) m_Model_of [.ref 68, .int (nI t), .int (3 : Int32)] (zL I1 A1 b) = some (some (.int (nI (gp g t))), zL I1 A1 b) := m_of' L xs d I1 b hm1 zl3 (show t < 7 by omega) (show 3 < 7 by decide)
      have hne : (nI t = zopt nt) ↔ (nt = some t) := by
        cases hn : nt with
        | none => exact ⟨fun q => absurd q (zNn (by omega)), fun q => by cases q⟩
        | some u =>
          have := hnt u hn
          rw [show zopt (some u) = nI u from rfl, nI_eq (by omega) (by omega)]
          exact ⟨fun q => by rw [q], fun q => by injection q with q; exact q.symm⟩
      have skip : ¬ (gp g t < 3 ∧ nt ≠ some t) → ∀ j, j < (lP g nt).length → (lP g nt).getD j 0 < t + 1 → A1 73 j = nI ((lP g nt).getD j 0) := by
        intro hno j hj hlt
        refine e2 j hj ?_
        have hmem := (lP_mem hB hD).mp (getD_mem hj)
        have : (lP g nt).getD j 0 ≠ t := fun q => hno (by rw [q] at hmem; exact ⟨hmem.1.2, hmem.2⟩)
        omega
      rw [e1, B_Model_lineUp_7, zr_64_5, zbS, m_rd' I1 b hm1 zl3 (show 3 < 55 by decide), zbS, if_neg (nI_ge ht3 (by omega)), zbS, m3, zbI]
      dsimp only
      rw [i1, B_Model_lineUp_33, zr_64_5, zbS, m_rd' I1 b hm1 zl3 (show 3 < 55 by decide), zbS, if_pos (nI_le (Nat.le_refl _) (by omega)), zC_s]
      by_cases c1 : gp g t < 3
      · rw [if_neg (by rw [zl3]; exact nI_ge c1 (by decide))]
        by_cases c2 : nt = some t
        · rw [if_pos (hne.mpr c2), nI_1, if_neg (show ¬ (decide (gp g t < 3) && decide (nt ≠ some t)) = true by simp [c2]), Nat.add_zero]
          exact ⟨I1, A1, _, _, _, _, _, rfl, skip (fun q => q.2 c2), e3, e4, e5⟩
        · obtain ⟨j0, hj0, ej⟩ := getD_ix ((lP_mem hB hD).mpr ⟨⟨ht3, c1⟩, c2⟩)
          have hrk := rk_at hB hD hj0
          rw [ej] at hrk
          rw [if_neg (fun q => c2 (hne.mp q)), hrk, zr_64_19, zbS, z_wr za_73 (by omega), zbS, zg_64_20, zbS, e3, nI_1, zp_64_20, zbS, nI_1, if_pos (show (decide (gp g t < 3) && decide (nt ≠ some t)) = true by simp [c1, c2])]
          refine ⟨_, _, _, _, _, _, _, rfl, fun j hj hlt => ?_, by rw [zuI_s], fun o k hk => by rw [zuI_at, if_neg hk, e4 o k hk], fun q hq => by rw [zuA_o hq, e5 q hq]⟩
          rw [zuA_s]
          by_cases e : j = j0
          · rw [e, pk_us, ej]
          · rw [pk_un e]
            refine e2 j hj ?_
            have : (lP g nt).getD j 0 ≠ t := fun q => by
              have h9 := rk_at hB hD hj
              rw [q, hrk] at h9
              exact e h9.symm
            omega
      · rw [if_pos (by rw [zl3]; exact nI_le (by omega) (gbl hB _)), nI_1, if_neg (show ¬ (decide (gp g t < 3) && decide (nt ≠ some t)) = true by simp [c1]), Nat.add_zero]
        exact ⟨I1, A1, _, _, _, _, _, rfl, skip (fun q => c1 q.1), e3, e4, e5⟩
  obtain ⟨I1, A1, y3, y4, y5, y6, y7, e1, e2, e3, e4, e5⟩ := key (g 3) (Nat.le_refl _)
  have hm1 : mR A1 68 g := hm.c (e5 68 (by decide))
  refine ⟨I1, A1, ?_, fun j hj => e2 j hj ((lP_mem hB hD).mp (getD_mem hj)).1.1, by rw [e3, lP_cnt hB hD], e4, e5⟩
  rw [e1, B_Model_lineUp_7, zr_64_5, zbS, m_rd' I1 b hm1 zl3 (show 3 < 55 by decide), zbS, if_pos (nI_le (Nat.le_refl _) (by omega))]
theorem m_waysOf (hm : mR A 68 g) (hB : gB g) {n : Nat} (hn : n ≤ 7) (h20 : I 64 20 = nI n) (d : Nat) : pm_call L xs (d + 1) m_Model_waysOf [.ref 64] (zL I A b) = some (some (.int (nI (g 0 ^ n))), zL I A b) := by
  rw [D_Model_waysOf, B_Model_waysOf_0]
  have key : ∀ k, k ≤ n → zE L xs d K_Model_waysOf 4 [some (.ref 64), some (.int (1 : Int32)), some (.int (0 : Int32))] [] (zL I A b) = zE L xs d K_Model_waysOf 4 [some (.ref 64), some (.int (nI (g 0 ^ k))), some (.int (nI k))] [] (zL I A b) := by
    intro k
    induction k with
    | zero => intro _; rfl
    | succ k ih =>
      intro hk
      rw [ih (by omega), B_Model_waysOf_4, zg_64_20, zbS, h20, if_neg (nI_ge (by omega) (by omega)), zr_64_5, zbS, m_rd' I b hm zl0 (show 0 < 55 by decide), zbS, pk_mul, nI_1, Nat.pow_succ]
  rw [key n (Nat.le_refl _), B_Model_waysOf_4, zg_64_20, zbS, h20, if_pos (nI_le (Nat.le_refl _) (by omega))]
theorem wdg_at {K : Nat} : ∀ (n k w : Nat), k < n → (wdg K n w).getD k 0 = w / K ^ (n - 1 - k) % K
  | 0, k, w, h => absurd h (Nat.not_lt_zero _)
  | n + 1, 0, w, _ => by
    show w / K ^ n % K = _
    rw [show n + 1 - 1 - 0 = n by omega]
  | n + 1, k + 1, w, h => by
    show (wdg K n w).getD k 0 = _
    rw [wdg_at n k w (by omega), show n + 1 - 1 - (k + 1) = n - 1 - k by omega]
theorem m_bagBy (hm : mR A 68 g) (hB : gB g) (h0 : 0 < g 0) {n k w : Nat} (hn : n ≤ 7) (hk : k < n) (hw : w < 2 ^ 31) (h20 : I 64 20 = nI n) (d : Nat) : pm_call L xs (d + 1) m_Model_bagBy [.ref 64, .int (nI w), .int (nI k)] (zL I A b) = some (some (.int (nI ((wdg (g 0) n w).getD k 0))), zL I A b) := by
  have h03 := hB.2.1
  obtain ⟨n', rfl⟩ : ∃ n', n = n' + 1 := ⟨n - 1, by omega⟩
  rw [D_Model_bagBy, B_Model_bagBy_0, zg_64_20, zbS, h20, nI_pred]
  have key : ∀ m, m ≤ n' - k → zE L xs d K_Model_bagBy 10 [some (.ref 64), some (.int (nI w)), some (.int (nI k)), some (.int (nI w)), some (.int (nI n'))] [] (zL I A b) = zE L xs d K_Model_bagBy 10 [some (.ref 64), some (.int (nI w)), some (.int (nI k)), some (.int (nI (w / g 0 ^ m))), some (.int (nI (n' - m)))] [] (zL I A b) := by
    intro m
    induction m with
    | zero => intro _; rw [Nat.pow_zero, Nat.div_one, Nat.sub_zero]
    | succ m ih =>
      intro hm2
      have hlt : w / g 0 ^ m < 2 ^ 31 := Nat.lt_of_le_of_lt (Nat.div_le_self _ _) hw
      rw [ih (by omega), B_Model_bagBy_10, if_neg (nI_ge (by omega) (by omega)), zr_64_5, zbS, m_rd' I b hm zl0 (show 0 < 55 by decide), zbS, if_neg (nI_ne0 h0 (by omega)), pk_div hlt h0 (by omega), Nat.div_div_eq_div_mul, ← Nat.pow_succ, show n' - m = (n' - (m + 1)) + 1 by omega, pk_m1]
  have hlt : w / g 0 ^ (n' - k) < 2 ^ 31 := Nat.lt_of_le_of_lt (Nat.div_le_self _ _) hw
  rw [key (n' - k) (Nat.le_refl _), B_Model_bagBy_10, if_pos (nI_le (by omega) (by omega)), zr_64_5, zbS, m_rd' I b hm zl0 (show 0 < 55 by decide), zbS, if_neg (nI_ne0 h0 (by omega)), pk_rem hlt h0 (by omega), wdg_at (n' + 1) k w hk, show n' + 1 - 1 - k = n' - k by omega]
theorem gPW_app {t c : Nat} : ∀ (l m : List Nat) (s : Nat → Nat), l.length = m.length → gPW (l ++ [t]) (m ++ [c]) s = gcomes (gPW l m s) t (3 + c)
  | [], [], s, _ => rfl
  | [], _ :: _, _, h => by cases h
  | _ :: _, [], _, h => by cases h
  | u :: l, e :: m, s, h => gPW_app l m (gcomes s u (3 + e)) (by simpa using h)
theorem wdg_lt {K : Nat} (hK : 0 < K) : ∀ (n w : Nat), ∀ c, c ∈ wdg K n w → c < K
  | 0, _, c, h => by cases h
  | n + 1, w, c, h => by
    rcases List.mem_cons.mp h with rfl | h
    · exact Nat.mod_lt _ hK
    · exact wdg_lt hK n w c h
theorem Wok_PW : ∀ (r ds : List Nat) (s : Nat → Nat), Wok r s → ds.length = r.length → (∀ c, c ∈ ds → c < s 0) → Wok [] (gPW r ds s) ∧ gPW r ds s 0 = s 0
  | [], [], s, h, _, _ => ⟨h, rfl⟩
  | [], _ :: _, _, _, h, _ => by cases h
  | _ :: _, [], _, _, h, _ => by cases h
  | t :: r, c :: ds, s, h, hl, hc => by
    have h0 : gcomes s t (3 + c) 0 = s 0 := gcomes_h (by decide)
    obtain ⟨q1, q2⟩ := Wok_PW r ds (gcomes s t (3 + c)) (h.st (hc c List.mem_cons_self)) (by simpa using hl) (fun e he => by rw [h0]; exact hc e (List.mem_cons_of_mem _ he))
    exact ⟨q1, q2.trans h0⟩
theorem layT (hm : mR A 68 g) : mR (zcp A 70 0 55 (A 68)) 70 g := by
  refine ⟨Or.inr (Or.inr rfl), fun j hj => ?_⟩
  have := zcp_at (A := A) (q := 70) (p := 0) (n := 55) (f := A 68) hj
  rw [Nat.zero_add] at this
  rw [this]
  exact hm.2 j hj
/-- one WAY, laid -/
theorem m_layWay (hm : mR A 68 g) {P : List Nat} (hW : Wok P g) (hP : pGood P) (h73 : tR A 73 P) (h20 : I 64 20 = nI P.length) {w : Nat} (hw : w < 2 ^ 31) (d : Nat) : ∃ A', pm_call L xs (d + 5) m_Model_layWay [.ref 64, .int (nI w)] (zL I A b) = some (none, zL I A' b) ∧ mR A' 70 (gcr (gPW P (wdg (g 0) P.length w) g) (gPW P (wdg (g 0) P.length w) g 3)) ∧ ∀ q, q ≠ 70 → A' q = A q := by
  have hB := hW.1
  have h0 := hW.2.2.2.2.2.1
  have hP7 := hP.1
  have h03 := hB.2.1
  rw [D_Model_layWay, B_Model_layWay_0, m_layThen hm (d + 3), zbV]
  have key : ∀ k, k ≤ P.length → ∃ A', zE L xs (d + 4) K_Model_layWay 6 [some (.ref 64), some (.int (nI w)), some (.int (0 : Int32))] [] (zL I (zcp A 70 0 55 (A 68)) b) = zE L xs (d + 4) K_Model_layWay 6 [some (.ref 64), some (.int (nI w)), some (.int (nI k))] [] (zL I A' b) ∧ mR A' 70 (gPW (P.take k) ((wdg (g 0) P.length w).take k) g) ∧ ∀ q, q ≠ 70 → A' q = A q := by
    intro k
    induction k with
    | zero => intro _; exact ⟨_, rfl, layT hm, fun q hq => zcp_o hq⟩
    | succ k ih =>
      intro hk
      obtain ⟨A1, e1, e2, e3⟩ := ih (by omega)
      have hm1 : mR A1 68 g := hm.c (e3 68 (by decide))
      have r1 : pm_rd 0 (zL I A1 b) 73 (nI k) = some (nI (P.getD k 0)) := by rw [z_rd za_73 (by omega), e3 73 (by decide), h73 k (by omega)]
      obtain ⟨A2, x1, x2, x3⟩ := m_comes L xs (d + 3) I b e2 (t := P.getD k 0) (p := 3 + (wdg (g 0) P.length w).getD k 0) (hP.at (by omega))
      refine ⟨A2, ?_, ?_, fun q hq => by rw [x3 q hq, e3 q hq]⟩
      · rw [e1, B_Model_layWay_6, zg_64_20, zbS, h20, if_neg (nI_ge (by omega) (by omega)), zr_64_7, zbS, zr_64_19, zbS, r1, zbS, m_bagBy hm1 hB h0 hP7 (show k < P.length by omega) hw h20 (d + 3), zbI]
        dsimp only
        rw [zl3, nI_add, x1, zbV, nI_1]
      · rw [take_s (by omega), take_s (show k < (wdg (g 0) P.length w).length by rw [wdg_len]; omega), gPW_app _ _ _ (by rw [List.length_take, List.length_take, wdg_len])]
        exact x2
  obtain ⟨A1, e1, e2, e3⟩ := key P.length (Nat.le_refl _)
  rw [List.take_length] at e2
  have e4 : (wdg (g 0) P.length w).take P.length = wdg (g 0) P.length w := List.take_of_length_le (by rw [wdg_len]; exact Nat.le_refl _)
  rw [e4] at e2
  obtain ⟨hW', -⟩ := Wok_PW P (wdg (g 0) P.length w) g hW (wdg_len _ _) (wdg_lt h0 _ _)
  obtain ⟨A2, x1, x2, x3⟩ := m_crush L xs d I b e2 hW'.1
  refine ⟨A2, ?_, x2, fun q hq => by rw [x3 q hq, e3 q hq]⟩
  rw [e1, B_Model_layWay_6, zg_64_20, zbS, h20, if_pos (nI_le (Nat.le_refl _) (by omega)), zr_64_7, zbS, x1, zbV]
theorem gcr_weighs (k c : Nat) : gweighs (gcr g k) c = gweighs g c := by
  unfold gweighs
  rw [gcr_h k 3 (by decide)]
  refine zS_congr _ (fun u _ => ?_)
  rw [show gp (gcr g k) u = gp g u from gcr_w k u 3 (by decide) (by decide), show gw (gcr g k) u = gw g u from gcr_w k u 1 (by decide) (by decide)]
theorem gcr_most (k : Nat) : ∀ n, gmost (gcr g k) n = gmost g n
  | 0 => rfl
  | n + 1 => by
    show (if gmost (gcr g k) n < gweighs (gcr g k) n then gweighs (gcr g k) n else gmost (gcr g k) n) = _
    rw [gcr_most k n, gcr_weighs]
    rfl
end
