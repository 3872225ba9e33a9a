/-! tears: sums and products -/
section
theorem zS_s (f : Nat → Nat) (n : Nat) : zS f (n + 1) = zS f n + f n := rfl
theorem zC_s (P : Nat → Bool) (n : Nat) : zC P (n + 1) = zC P n + (if P n then 1 else 0) := rfl
theorem zS_add (f : Nat → Nat) (a : Nat) : ∀ n, zS f (a + n) = zS f a + zS (fun k => f (a + k)) n
  | 0 => by rfl
  | n + 1 => by
    show zS f (a + n + 1) = _
    rw [zS_s, zS_s, zS_add f a n, Nat.add_assoc]
theorem zS_mulr (f : Nat → Nat) (c : Nat) : ∀ n, zS (fun k => f k * c) n = zS f n * c
  | 0 => (Nat.zero_mul c).symm
  | n + 1 => by rw [zS_s, zS_s, zS_mulr f c n, Nat.add_mul]
theorem zS_plus (f h : Nat → Nat) : ∀ n, zS (fun k => f k + h k) n = zS f n + zS h n
  | 0 => rfl
  | n + 1 => by rw [zS_s, zS_s, zS_s, zS_plus f h n]; omega
theorem zS_rev (f : Nat → Nat) : ∀ n, zS f n = zS (fun k => f (n - (k + 1))) n
  | 0 => rfl
  | n + 1 => by
    have h := zS_add (fun k => f (n + 1 - (k + 1))) 1 n
    rw [show n + 1 = 1 + n from Nat.add_comm n 1]
    rw [Nat.add_comm 1 n]
    rw [Nat.add_comm 1 n] at h
    rw [h, zS_s, zS_rev f n]
    have e : zS (fun k => f (n + 1 - (k + 1))) 1 = f n := by
      show 0 + f (n + 1 - (0 + 1)) = f n
      rw [Nat.zero_add]
      rfl
    rw [e, Nat.add_comm]
    congr 1
    exact zS_congr n (fun k hk => by congr 1; omega)
def zP (f : Nat → Nat) : Nat → Nat
  | 0 => 1
  | n + 1 => zP f n * f n
theorem zP_s (f : Nat → Nat) (n : Nat) : zP f (n + 1) = zP f n * f n := rfl
theorem zP_congr {f h : Nat → Nat} : ∀ n, (∀ k, k < n → f k = h k) → zP f n = zP h n
  | 0, _ => rfl
  | n + 1, e => by rw [zP_s, zP_s, zP_congr n (fun k hk => e k (by omega)), e n (by omega)]
theorem zP_mul (f h : Nat → Nat) : ∀ n, zP (fun k => f k * h k) n = zP f n * zP h n
  | 0 => rfl
  | n + 1 => by rw [zP_s, zP_s, zP_s, zP_mul f h n, Nat.mul_mul_mul_comm]
theorem zP_const (c : Nat) : ∀ n, zP (fun _ => c) n = c ^ n
  | 0 => rfl
  | n + 1 => by rw [zP_s, zP_const c n, Nat.pow_succ]
/-- all sets together -/
theorem zP_all (F : Nat → Bool → Nat) : ∀ n, zS (fun s => zP (fun c => F c (s.testBit c)) n) (2 ^ n) = zP (fun c => F c false + F c true) n
  | 0 => rfl
  | n + 1 => by
    have ih := zP_all F n
    rw [show 2 ^ (n + 1) = 2 ^ n + 2 ^ n by rw [Nat.pow_succ]; omega, zS_add, zP_s, ← ih, Nat.mul_add]
    congr 1
    · rw [← zS_mulr]
      refine zS_congr _ (fun s hs => ?_)
      rw [zP_s, Nat.testBit_lt_two_pow hs]
    · rw [← zS_mulr]
      refine zS_congr _ (fun s hs => ?_)
      rw [zP_s, Nat.testBit_two_pow_add_eq, Nat.testBit_lt_two_pow hs]
      congr 1
      exact zP_congr n (fun c hc => by rw [Nat.testBit_two_pow_add_gt hc])
variable {g : Nat → Nat} {p w s c n : Nat}
def oT (g : Nat → Nat) (c : Nat) : Bool := decide (g 1 < gweighs g c)
def oO (g : Nat → Nat) (c : Nat) : Bool := decide (gset g (3 + c) ≠ 0) && !oT g c
def oc (g : Nat → Nat) (p c : Nat) : Nat := if oT g c = true then 10 else if gset g (3 + c) = 0 then 0 else p
def cf (g : Nat → Nat) (p w c : Nat) : Nat := if w.testBit c = true then 10 - oc g p c else oc g p c
def mf (g : Nat → Nat) (p c : Nat) (x : Bool) : Nat := if oO g c = true then (if x = true then p else 10 - p) else if x = oT g c then 1 else 0
def okp (g : Nat → Nat) (c : Nat) : Nat := if oO g c = true then 1 else 10
def omp (g : Nat → Nat) (c : Nat) : Nat := if oO g c = true then 10 else 1
theorem cf_mf (h : w.testBit c = !s.testBit c) : cf g p w c = mf g p c (s.testBit c) * okp g c := by
  unfold cf mf okp oc oO
  rw [h]
  cases s.testBit c <;> cases oT g c <;> by_cases e : gset g (3 + c) = 0 <;> simp [e]
theorem mf_sum (hp : p ≤ 10) : mf g p c false + mf g p c true = omp g c := by
  unfold mf omp
  cases h : oO g c <;> cases h2 : oT g c <;> simp
  · omega
  · omega
theorem oall (hp : p ≤ 10) (n : Nat) : zS (fun s => zP (fun c => mf g p c (s.testBit c)) n) (2 ^ n) = zP (omp g) n := by
  rw [zP_all (fun c x => mf g p c x) n]
  exact zP_congr n (fun c _ => mf_sum hp)
theorem omk (n : Nat) : zP (omp g) n * zP (okp g) n = 10 ^ n := by
  rw [← zP_mul, ← zP_const 10 n]
  exact zP_congr n (fun c _ => by unfold omp okp; split <;> rfl)
/-- who comes home -/
def chome (g : Nat → Nat) (w : Nat) : Nat := zC (fun t => decide (3 ≤ gp g t) && (w.testBit (gp g t - 3) && decide (gc g t ≠ 1))) (g 3)
def mh1 (g : Nat → Nat) (c : Nat) : Nat := zC (fun t => decide (gp g t = 3 + c) && decide (gc g t ≠ 1)) (g 3)
def mhome (g : Nat → Nat) (s n : Nat) : Nat := zS (fun c => if s.testBit c = true then 0 else mh1 g c) n
theorem zS_one (P : Nat → Bool) (a : Nat) : ∀ n, zS (fun c => if (decide (a = c) && P c) = true then 1 else 0) n = if (decide (a < n) && P a) = true then 1 else 0
  | 0 => by simp [zS]
  | n + 1 => by
    rw [zS_s, zS_one P a n]
    by_cases e : a = n
    · subst e; simp
    · by_cases e2 : a < n
      · simp [e, e2, show a < n + 1 by omega]
      · simp [e, e2, show ¬ a < n + 1 by omega]
theorem home_eq (hp : ∀ t, t < g 3 → gp g t < 3 + n) (hw : ∀ c, c < n → w.testBit c = !s.testBit c) : chome g w = mhome g s n := by
  unfold chome mhome mh1
  have key : ∀ m, m ≤ g 3 → zC (fun t => decide (3 ≤ gp g t) && (w.testBit (gp g t - 3) && decide (gc g t ≠ 1))) m = zS (fun c => if s.testBit c = true then 0 else zC (fun t => decide (gp g t = 3 + c) && decide (gc g t ≠ 1)) m) n := by
    intro m
    induction m with
    | zero =>
      intro _
      have := zS_le (f := fun c => if s.testBit c = true then 0 else zC (fun t => decide (gp g t = 3 + c) && decide (gc g t ≠ 1)) 0) (c := 0) n (fun k _ => by
        show (if s.testBit k = true then 0 else 0) ≤ 0
        split <;> exact Nat.le_refl _)
      show 0 = _
      omega
    | succ m ih =>
      intro hm
      have hpm := hp m (by omega)
      rw [zC_s, ih (by omega)]
      have e : zS (fun c => if s.testBit c = true then 0 else zC (fun t => decide (gp g t = 3 + c) && decide (gc g t ≠ 1)) (m + 1)) n = zS (fun c => (if s.testBit c = true then 0 else zC (fun t => decide (gp g t = 3 + c) && decide (gc g t ≠ 1)) m) + (if (decide (gp g m - 3 = c) && (decide (3 ≤ gp g m) && (!s.testBit c && decide (gc g m ≠ 1)))) = true then 1 else 0)) n := by
        refine zS_congr n (fun c hc => ?_)
        rw [zC_s]
        have e2 : decide (gp g m = 3 + c) = (decide (gp g m - 3 = c) && decide (3 ≤ gp g m)) := by
          by_cases q : gp g m = 3 + c
          · simp [q]
          · by_cases q3 : 3 ≤ gp g m
            · have : ¬ gp g m - 3 = c := by omega
              simp [q, this]
            · simp [q, q3]
        rw [e2]
        cases s.testBit c <;> cases decide (gp g m - 3 = c) <;> cases decide (3 ≤ gp g m) <;> cases decide (gc g m ≠ 1) <;> simp
      rw [e, zS_plus, zS_one (fun c => decide (3 ≤ gp g m) && (!s.testBit c && decide (gc g m ≠ 1)))]
      congr 1
      by_cases q3 : 3 ≤ gp g m
      · rw [hw (gp g m - 3) (by omega)]
        simp [q3, show gp g m - 3 < n by omega]
      · simp [q3]
  exact key (g 3) (Nat.le_refl _)
/-- the class's two numbers from the reference's -/
def mabove (g : Nat → Nat) (k p n : Nat) : Nat := zS (fun s => if k ≤ mhome g s n then zP (fun c => mf g p c (s.testBit c)) n else 0) (2 ^ n)
def cabove (g : Nat → Nat) (k p n : Nat) : Nat := zS (fun w => if k ≤ chome g w then zP (cf g p w) n else 0) (2 ^ n)
theorem above_eq (hp : ∀ t, t < g 3 → gp g t < 3 + n) (k : Nat) : cabove g k p n = mabove g k p n * zP (okp g) n := by
  unfold cabove mabove
  rw [zS_rev, ← zS_mulr]
  refine zS_congr _ (fun s hs => ?_)
  have hb : ∀ c, c < n → (2 ^ n - (s + 1)).testBit c = !s.testBit c := fun c hc => by
    rw [Nat.testBit_two_pow_sub_succ hs]
    simp [hc]
  rw [home_eq hp hb]
  split
  · rw [← zP_mul]
    exact zP_congr n (fun c hc => cf_mf (hb c hc))
  · rw [Nat.zero_mul]
theorem mabove_le (hp : p ≤ 10) (k : Nat) : mabove g k p n ≤ zP (omp g) n := by
  rw [← oall hp n]
  refine zS_mono _ (fun s _ => ?_)
  split
  · exact Nat.le_refl _
  · exact Nat.zero_le _
/-- twos and fives -/
def rst (x : Nat × Nat) : Nat × Nat :=
  let y := if x.1 % 2 = 0 ∧ x.2 % 2 = 0 then (x.1 / 2, x.2 / 2) else x
  if y.1 % 5 = 0 ∧ y.2 % 5 = 0 then (y.1 / 5, y.2 / 5) else y
def rdn (x : Nat × Nat) : Nat → Nat × Nat
  | 0 => x
  | n + 1 => rst (rdn x n)
theorem rdn_tab : ((List.range 3).all fun n => (List.range (10 ^ (n + 1) + 1)).all fun a => rdn (a, 10 ^ (n + 1)) (n + 1) == (a / Nat.gcd a (10 ^ (n + 1)), 10 ^ (n + 1) / Nat.gcd a (10 ^ (n + 1)))) = true := by decide +kernel
theorem rdn_ok {a : Nat} (hn : 1 ≤ n ∧ n ≤ 3) (ha : a ≤ 10 ^ n) : rdn (a, 10 ^ n) n = (a / Nat.gcd a (10 ^ n), 10 ^ n / Nat.gcd a (10 ^ n)) := by
  have h := List.all_eq_true.mp rdn_tab (n - 1) (List.mem_range.mpr (by omega))
  rw [show n - 1 + 1 = n by omega] at h
  have h2 := List.all_eq_true.mp h a (List.mem_range.mpr (by omega))
  exact eq_of_beq h2
theorem odds_eq {k : Nat} (hp : p ≤ 10) (hg : ∀ t, t < g 3 → gp g t < 3 + n) (hn : 1 ≤ n ∧ n ≤ 3) : rdn (cabove g k p n, 10 ^ n) n = (mabove g k p n / Nat.gcd (mabove g k p n) (zP (omp g) n), zP (omp g) n / Nat.gcd (mabove g k p n) (zP (omp g) n)) := by
  have h1 := omk (g := g) n
  have h2 := mabove_le (g := g) (n := n) hp k
  have h3 := above_eq (p := p) hg k
  have h10 : 0 < 10 ^ n := Nat.pos_of_ne_zero (by simp)
  have hK : 0 < zP (okp g) n := by
    refine Nat.pos_of_ne_zero (fun e => ?_)
    rw [e, Nat.mul_zero] at h1
    omega
  rw [rdn_ok hn (by rw [h3, ← h1]; exact Nat.mul_le_mul_right _ h2), h3, ← h1, Nat.gcd_mul_right, Nat.mul_div_mul_right _ _ hK, Nat.mul_div_mul_right _ _ hK]
end
