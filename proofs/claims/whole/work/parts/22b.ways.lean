/-! ways: in which order THINGS are packed -/
section
variable {g : Nat → Nat}
theorem zFind_some {P : Nat → Bool} : ∀ m k t, zFind P m k = some t → k ≤ t ∧ t < k + m ∧ P t = true
  | 0, k, t, h => by cases h
  | m + 1, k, t, h => by
    unfold zFind at h
    split at h
    · rename_i q
      cases h
      exact ⟨Nat.le_refl _, by omega, q⟩
    · obtain ⟨h1, h2, h3⟩ := zFind_some m (k + 1) t h
      exact ⟨by omega, by omega, h3⟩
theorem zFind_none {P : Nat → Bool} : ∀ m k, zFind P m k = none → ∀ u, k ≤ u → u < k + m → P u = false
  | 0, k, _, u, h1, h2 => by omega
  | m + 1, k, h, u, h1, h2 => by
    unfold zFind at h
    split at h
    · cases h
    · rename_i q
      by_cases e : u = k
      · subst e; simpa using q
      · exact zFind_none m (k + 1) h u (by omega) (by omega)
theorem gh_lt (hD : gD g) {t : Nat} (ht : t < g 3) : gh g t < gcount g (gp g t) := by
  obtain ⟨h1, h2⟩ := ghigh_spec (p := gp g t) hD
  cases hf : ghigh g (gp g t) with
  | none => exact absurd rfl (h1 hf t ht)
  | some u =>
    obtain ⟨k1, k2, k3, k4⟩ := h2 u hf
    by_cases e : t = u
    · rw [e] at k3 ⊢; omega
    · have := k4 t ht rfl e; omega
theorem gh_inj2 (hD : gD g) {t u : Nat} (ht : t < g 3) (hu : u < g 3) (hp : gp g t = gp g u) (e : gh g t = gh g u) : t = u := by
  by_cases h0 : gp g u = 0
  · exact gh_inj hD ht hu (by omega) h0 e
  · have h1 := gh_up (g := g) ht hu hp h0
    have h2 := gh_up (g := g) hu ht hp.symm (by omega)
    exact hD t u ht hu (by omega)
/-- the THINGS of a place, from its top on -/
def fT (g : Nat → Nat) (p : Nat) : Nat → List Nat
  | 0 => []
  | k + 1 => match zFind (fun t => decide (gp g t = p) && decide (nI (gh g t) = nI k)) (g 3) 0 with
    | some t => t :: fT g p k
    | none => fT g p k
theorem fT_s (p k : Nat) : fT g p (k + 1) = match zFind (fun t => decide (gp g t = p) && decide (nI (gh g t) = nI k)) (g 3) 0 with
    | some t => t :: fT g p k
    | none => fT g p k := rfl
theorem fT_mem (hB : gB g) (hD : gD g) (p t : Nat) : ∀ k, k < 2 ^ 31 → (t ∈ fT g p k ↔ t < g 3 ∧ gp g t = p ∧ gh g t < k)
  | 0, _ => by
    show t ∈ ([] : List Nat) ↔ _
    simp
  | k + 1, hk => by
    have ih := fT_mem hB hD p t k (by omega)
    have h7 := hB.1
    rw [fT_s]
    cases hf : zFind (fun t => decide (gp g t = p) && decide (nI (gh g t) = nI k)) (g 3) 0 with
    | some u =>
      obtain ⟨-, u1, u2⟩ := zFind_some _ _ _ hf
      simp only [Bool.and_eq_true, decide_eq_true_eq] at u2
      have hul := gh_le g u
      have u3 := (nI_eq (show gh g u < 2 ^ 31 by omega) (by omega)).mp u2.2
      dsimp only
      rw [List.mem_cons, ih]
      constructor
      · rintro (rfl | ⟨a, b, c⟩)
        · exact ⟨by omega, u2.1, by omega⟩
        · exact ⟨a, b, by omega⟩
      · rintro ⟨a, b, c⟩
        by_cases e : gh g t = k
        · exact Or.inl (gh_inj2 hD a (by omega) (by rw [b, u2.1]) (by omega))
        · exact Or.inr ⟨a, b, by omega⟩
    | none =>
      dsimp only
      rw [ih]
      constructor
      · rintro ⟨a, b, c⟩; exact ⟨a, b, by omega⟩
      · rintro ⟨a, b, c⟩
        refine ⟨a, b, ?_⟩
        have : gh g t ≠ k := fun e => by
          have := zFind_none _ _ hf t (Nat.zero_le _) (by omega)
          rw [e] at this
          simp [b] at this
        omega
theorem fT_pw (hB : gB g) (hD : gD g) (p : Nat) : ∀ k, k < 2 ^ 31 → (fT g p k).Pairwise (fun a b => gh g b < gh g a)
  | 0, _ => List.Pairwise.nil
  | k + 1, hk => by
    have ih := fT_pw hB hD p k (by omega)
    have h7 := hB.1
    rw [fT_s]
    cases hf : zFind (fun t => decide (gp g t = p) && decide (nI (gh g t) = nI k)) (g 3) 0 with
    | none => exact ih
    | some u =>
      obtain ⟨-, u1, u2⟩ := zFind_some _ _ _ hf
      simp only [Bool.and_eq_true, decide_eq_true_eq] at u2
      have hul := gh_le g u
      have u3 := (nI_eq (show gh g u < 2 ^ 31 by omega) (by omega)).mp u2.2
      dsimp only
      rw [List.pairwise_cons]
      refine ⟨fun b hb => ?_, ih⟩
      have := ((fT_mem hB hD p b k (by omega)).mp hb).2.2
      omega
def lD (g : Nat → Nat) (n : Nat) : List Nat := (List.range n).filter fun u => decide (gp g u = 2)
theorem lD_s (t : Nat) : lD g (t + 1) = if gp g t = 2 then lD g t ++ [t] else lD g t := by
  unfold lD
  rw [List.range_succ, List.filter_append]
  by_cases c : gp g t = 2
  · rw [if_pos c]; simp [c]
  · rw [if_neg c]; simp [c]
def lQ (g : Nat → Nat) : List Nat := fT g 1 (gcount g 1) ++ (lD g (g 3) ++ fT g 0 (gcount g 0))
/-- o is packed sooner than t -/
def snr (g : Nat → Nat) (o t : Nat) : Bool := (decide (gp g o = 1) && (decide (gp g t ≠ 1) || decide (go g t < go g o))) || ((decide (gp g o = 2) && (decide (gp g t = 0) || (decide (gp g t = 2) && decide (o < t)))) || (decide (gp g o = 0) && (decide (gp g t = 0) && decide (go g o < go g t))))
theorem snr_as {a b : Nat} (h : snr g a b = true) : snr g b a = false := by
  rw [Bool.eq_false_iff]
  intro q
  unfold snr at h q
  simp only [Bool.or_eq_true, Bool.and_eq_true, decide_eq_true_eq] at h q
  omega
theorem snr_ir (a : Nat) : snr g a a = false := by
  cases h : snr g a a with
  | false => rfl
  | true => have := snr_as h; rw [h] at this; exact this
theorem snr_3 {a b : Nat} (h : snr g a b = true) : gp g a < 3 := by
  unfold snr at h
  simp only [Bool.or_eq_true, Bool.and_eq_true, decide_eq_true_eq] at h
  omega
theorem gcnt31 (hB : gB g) (p : Nat) : gcount g p < 2 ^ 31 := by
  have := zC_le (fun t => decide (gp g t = p)) (g 3)
  have h7 := hB.1
  unfold gcount
  omega
theorem lQ_mem (hB : gB g) (hD : gD g) {t : Nat} : t ∈ lQ g ↔ t < g 3 ∧ gp g t < 3 := by
  unfold lQ lD
  rw [List.mem_append, List.mem_append, fT_mem hB hD 1 t _ (gcnt31 hB 1), fT_mem hB hD 0 t _ (gcnt31 hB 0), List.mem_filter, List.mem_range, decide_eq_true_eq]
  constructor
  · rintro (⟨a, b, -⟩ | ⟨a, b⟩ | ⟨a, b, -⟩) <;> exact ⟨a, by omega⟩
  · rintro ⟨a, b⟩
    have hl := gh_lt hD a
    rcases (show gp g t = 0 ∨ gp g t = 1 ∨ gp g t = 2 by omega) with e | e | e
    · rw [e] at hl; exact Or.inr (Or.inr ⟨a, e, hl⟩)
    · rw [e] at hl; exact Or.inl ⟨a, e, hl⟩
    · exact Or.inr (Or.inl ⟨a, e⟩)
theorem lQ_pw (hB : gB g) (hD : gD g) : (lQ g).Pairwise fun a b => snr g a b = true := by
  have m1 := fun t => fT_mem hB hD 1 t _ (gcnt31 hB 1)
  have m0 := fun t => fT_mem hB hD 0 t _ (gcnt31 hB 0)
  have m2 : ∀ t, t ∈ lD g (g 3) → t < g 3 ∧ gp g t = 2 := fun t ht => by
    unfold lD at ht
    rw [List.mem_filter, List.mem_range, decide_eq_true_eq] at ht
    exact ht
  unfold lQ
  rw [List.pairwise_append, List.pairwise_append]
  refine ⟨?_, ⟨?_, ?_, ?_⟩, ?_⟩
  · refine List.Pairwise.imp_of_mem ?_ (fT_pw hB hD 1 _ (gcnt31 hB 1))
    intro a b ha hb h
    obtain ⟨a1, a2, -⟩ := (m1 a).mp ha
    obtain ⟨b1, b2, -⟩ := (m1 b).mp hb
    have := (gh_up (g := g) a1 b1 (by omega) (by omega)).mp h
    unfold snr
    simp [a2, this]
  · have : (lD g (g 3)).Pairwise fun a b => a < b := List.Pairwise.filter _ (List.pairwise_lt_range ..)
    refine List.Pairwise.imp_of_mem ?_ this
    intro a b ha hb h
    have a2 := (m2 a ha).2
    have b2 := (m2 b hb).2
    unfold snr
    simp [a2, b2, h]
  · refine List.Pairwise.imp_of_mem ?_ (fT_pw hB hD 0 _ (gcnt31 hB 0))
    intro a b ha hb h
    obtain ⟨a1, a2, -⟩ := (m0 a).mp ha
    obtain ⟨b1, b2, -⟩ := (m0 b).mp hb
    have := (gh_dn (g := g) a1 b1 a2 b2).mp h
    unfold snr
    simp [a2, b2, this]
  · intro a ha b hb
    have a2 := (m2 a ha).2
    obtain ⟨b1, b2, -⟩ := (m0 b).mp hb
    unfold snr
    simp [a2, b2]
  · intro a ha b hb
    obtain ⟨a1, a2, -⟩ := (m1 a).mp ha
    have : gp g b ≠ 1 := by
      rcases List.mem_append.mp hb with q | q
      · have := (m2 b q).2; omega
      · have := ((m0 b).mp q).2.1; omega
    unfold snr
    simp [a2, this]
theorem pw_nd : ∀ (l : List Nat), (l.Pairwise fun a b => snr g a b = true) → ndB l = true
  | [], _ => rfl
  | t :: r, h => by
    rw [List.pairwise_cons] at h
    have ht : t ∉ r := fun q => by
      have := h.1 t q
      rw [snr_ir] at this
      cases this
    have hc : r.contains t = false := by simpa using ht
    show (!(r.contains t) && ndB r) = true
    rw [hc, pw_nd r h.2]
    rfl
theorem cntL_all {Q : Nat → Bool} : ∀ (l : List Nat), (∀ t, t ∈ l → Q t = true) → cntL Q l = l.length
  | [], _ => rfl
  | t :: r, h => by
    show (if Q t = true then 1 else 0) + cntL Q r = r.length + 1
    rw [if_pos (h t List.mem_cons_self), cntL_all r (fun u hu => h u (List.mem_cons_of_mem _ hu))]
    omega
theorem cntL_no {Q : Nat → Bool} : ∀ (l : List Nat), (∀ t, t ∈ l → Q t = false) → cntL Q l = 0
  | [], _ => rfl
  | t :: r, h => by
    show (if Q t = true then 1 else 0) + cntL Q r = 0
    rw [h t List.mem_cons_self, cntL_no r (fun u hu => h u (List.mem_cons_of_mem _ hu))]
    rfl
theorem cntL_congr {Q R : Nat → Bool} : ∀ (l : List Nat), (∀ t, t ∈ l → Q t = R t) → cntL Q l = cntL R l
  | [], _ => rfl
  | t :: r, h => by
    show (if Q t = true then 1 else 0) + cntL Q r = (if R t = true then 1 else 0) + cntL R r
    rw [h t List.mem_cons_self, cntL_congr r (fun u hu => h u (List.mem_cons_of_mem _ hu))]
theorem nd_len {n : Nat} {p : List Nat} (h : ndB p = true) (hp : ∀ t, t ∈ p → t < n) : p.length ≤ n := by
  have h1 := zC_list (fun _ => true) n p h hp
  have h2 := zC_le (fun _ => true) n
  rw [cntL_all p (fun _ _ => rfl)] at h1
  omega
theorem cnt_rank : ∀ (l : List Nat) (j : Nat), (l.Pairwise fun a b => snr g a b = true) → j < l.length → cntL (fun o => snr g o (l.getD j 0)) l = j
  | [], j, _, h => absurd h (Nat.not_lt_zero _)
  | a :: r, 0, hp, _ => by
    rw [List.pairwise_cons] at hp
    show (if snr g a a = true then 1 else 0) + cntL (fun o => snr g o a) r = 0
    rw [snr_ir, cntL_no r (fun t ht => snr_as (hp.1 t ht))]
    rfl
  | a :: r, j + 1, hp, h => by
    rw [List.pairwise_cons] at hp
    have hj : j < r.length := by rw [List.length_cons] at h; omega
    show (if snr g a (r.getD j 0) = true then 1 else 0) + cntL (fun o => snr g o (r.getD j 0)) r = j + 1
    rw [if_pos (hp.1 _ (getD_mem hj)), cnt_rank r j hp.2 hj]
    omega
/-- what is packed, but for one THING -/
def lP (g : Nat → Nat) (nt : Option Nat) : List Nat := (lQ g).filter fun u => decide (nt ≠ some u)
theorem lP_none : lP g none = lQ g := by
  unfold lP
  rw [List.filter_eq_self]
  intro a _
  simp
theorem lP_mem (hB : gB g) (hD : gD g) {nt : Option Nat} {t : Nat} : t ∈ lP g nt ↔ (t < g 3 ∧ gp g t < 3) ∧ nt ≠ some t := by
  unfold lP
  rw [List.mem_filter, lQ_mem hB hD, decide_eq_true_eq]
theorem lP_pw (hB : gB g) (hD : gD g) (nt : Option Nat) : (lP g nt).Pairwise fun a b => snr g a b = true := List.Pairwise.filter _ (lQ_pw hB hD)
theorem lP_nd (hB : gB g) (hD : gD g) (nt : Option Nat) : ndB (lP g nt) = true := pw_nd _ (lP_pw hB hD nt)
theorem lP_7 (hB : gB g) (hD : gD g) (nt : Option Nat) : (lP g nt).length ≤ 7 := Nat.le_trans (nd_len (lP_nd hB hD nt) (fun t ht => ((lP_mem hB hD).mp ht).1.1)) hB.1
theorem lP_good (hB : gB g) (hD : gD g) (nt : Option Nat) : pGood (lP g nt) := ⟨lP_7 hB hD nt, fun t ht => by have := ((lP_mem hB hD).mp ht).1.1; have := hB.1; omega⟩
def rkP (g : Nat → Nat) (nt : Option Nat) (t o : Nat) : Bool := decide (o ≠ t) && (decide (nt ≠ some o) && snr g o t)
theorem rk_at (hB : gB g) (hD : gD g) {nt : Option Nat} {j : Nat} (hj : j < (lP g nt).length) : zC (rkP g nt ((lP g nt).getD j 0)) (g 3) = j := by
  have hm := getD_mem hj
  have hl := fun t (ht : t ∈ lP g nt) => (lP_mem hB hD).mp ht
  rw [zC_list (rkP g nt ((lP g nt).getD j 0)) (g 3) (lP g nt) (lP_nd hB hD nt) (fun t ht => (hl t ht).1.1)]
  have e1 : zC (fun u => rkP g nt ((lP g nt).getD j 0) u && !((lP g nt).contains u)) (g 3) = 0 := by
    refine zC_0 _ (fun u hu => ?_)
    cases hr : rkP g nt ((lP g nt).getD j 0) u with
    | false => rfl
    | true =>
      unfold rkP at hr
      simp only [Bool.and_eq_true, decide_eq_true_eq] at hr
      have : u ∈ lP g nt := (lP_mem hB hD).mpr ⟨⟨hu, snr_3 hr.2.2⟩, hr.2.1⟩
      have hc : (lP g nt).contains u = true := by simpa using this
      rw [hc]
      rfl
  have e2 : cntL (rkP g nt ((lP g nt).getD j 0)) (lP g nt) = cntL (fun o => snr g o ((lP g nt).getD j 0)) (lP g nt) := by
    refine cntL_congr _ (fun u hu => ?_)
    have h1 := (hl u hu).2
    unfold rkP
    by_cases e : u = (lP g nt).getD j 0
    · rw [← e, snr_ir]; simp
    · rw [decide_eq_true e, decide_eq_true h1]
      rfl
  rw [e1, e2, cnt_rank _ j (lP_pw hB hD nt) hj]
  omega
theorem lP_cnt (hB : gB g) (hD : gD g) (nt : Option Nat) : zC (fun t => decide (gp g t < 3) && decide (nt ≠ some t)) (g 3) = (lP g nt).length := by
  have hl := fun t (ht : t ∈ lP g nt) => (lP_mem hB hD).mp ht
  rw [zC_list _ (g 3) (lP g nt) (lP_nd hB hD nt) (fun t ht => (hl t ht).1.1), cntL_all (lP g nt) (fun t ht => by simp [(hl t ht).1.2, (hl t ht).2]), zC_0 _ (fun u hu => ?_)]
  · omega
  · by_cases c : gp g u < 3 ∧ nt ≠ some u
    · have : u ∈ lP g nt := (lP_mem hB hD).mpr ⟨⟨hu, c.1⟩, c.2⟩
      have hc : (lP g nt).contains u = true := by simpa using this
      rw [hc]
      simp
    · by_cases c1 : gp g u < 3
      · have c2 : ¬ nt ≠ some u := fun q => c ⟨c1, q⟩
        simp [c2]
      · simp [c1]
theorem Wok_of {B : Nat} (hI : gI B g) (h0 : 0 < g 0) (hB2 : B + 7 < 2 ^ 20) (nt : Option Nat) : Wok (lP g nt) g := by
  obtain ⟨h1, h2, h3, h4, h5, h6, h7, h8⟩ := hI
  have := lP_7 h1 h2 nt
  exact ⟨h1, h3, fun t ht => ((lP_mem h1 h2).mp ht).1, lP_nd h1 h2 nt, by omega, h0, fun t ht => (h6 t ht).2.1⟩
end
