/-! ways: the search, as numbers alone -/
section
variable {κ : (Nat → Nat) → Nat} {x y i j : Nat} {s s' : Nat → Nat}
/-- a SHOP in which the THINGS of a list are yet to be packed -/
def Wok (r : List Nat) (s : Nat → Nat) : Prop := gB s ∧ gU s ∧ (∀ t, t ∈ r → t < s 3 ∧ gp s t < 3) ∧ ndB r = true ∧ s 5 + r.length < 2 ^ 20 ∧ 0 < s 0 ∧ ∀ t, t < s 3 → 1 ≤ gw s t ∧ gw s t ≤ 20
theorem nd_cons {t : Nat} {r : List Nat} (h : ndB (t :: r) = true) : t ∉ r ∧ ndB r = true := by
  have hn' : r.contains t = false ∧ ndB r = true := by
    unfold ndB at h
    simpa using h
  exact ⟨by simpa using hn'.1, hn'.2⟩
theorem Wok.st {t c : Nat} {r : List Nat} (h : Wok (t :: r) s) (hc : c < s 0) : Wok r (gcomes s t (3 + c)) := by
  obtain ⟨h1, h2, h3, h4, h5, h6, h7⟩ := h
  obtain ⟨htr, h4'⟩ := nd_cons h4
  rw [List.length_cons] at h5
  have h03 := h1.2.1
  refine ⟨gcomes_B h1 (by omega) (by omega), gco_U h2, fun v hv => ?_, h4', by rw [gco_5]; omega, by rw [gcomes_h (by decide)]; exact h6, fun v hv => ?_⟩
  · have hne : v ≠ t := fun e => htr (e ▸ hv)
    rw [gco_n, gco_po hne]
    exact h3 v (List.mem_cons_of_mem _ hv)
  · rw [gco_n] at hv
    have e : gw (gcomes s t (3 + c)) v = gw s v := gco_w (by decide) (by decide) (by decide)
    rw [e]
    exact h7 v hv
theorem Wok.hd {t : Nat} {r : List Nat} (h : Wok (t :: r) s) : t < s 3 ∧ gp s t < 3 := h.2.2.1 t List.mem_cons_self
def lf (k : Nat) (p : List Nat) (acc : Nat × List Nat) : Nat × List Nat := if k < acc.1 then (k, p) else acc
/-- all WAYS, one behind another: the best, and by which BAGS -/
def dfs (κ : (Nat → Nat) → Nat) : List Nat → (Nat → Nat) → List Nat → Nat × List Nat → Nat × List Nat
  | [], s, p, acc => lf (κ s) p acc
  | t :: r, s, p, acc => zF (fun c acc => dfs κ r (gcomes s t (3 + c)) (p ++ [c]) acc) (s 0) acc
/-- no WAY comes below x -/
def LB (κ : (Nat → Nat) → Nat) (x : Nat) : List Nat → (Nat → Nat) → Prop
  | [], s => x ≤ κ s
  | t :: r, s => ∀ c, c < s 0 → LB κ x r (gcomes s t (3 + c))
theorem LB_mono (h : x ≤ y) : ∀ (r : List Nat) (s : Nat → Nat), LB κ y r s → LB κ x r s
  | [], s, q => Nat.le_trans h q
  | _ :: r, s, q => fun c hc => LB_mono h r _ (q c hc)
def Mon (κ : (Nat → Nat) → Nat) : Prop := ∀ (t : Nat) (r : List Nat) (s : Nat → Nat) (c : Nat), Wok (t :: r) s → c < s 0 → κ s ≤ κ (gcomes s t (3 + c))
theorem LB_of (hM : Mon κ) : ∀ (r : List Nat) (s : Nat → Nat), Wok r s → x ≤ κ s → LB κ x r s
  | [], s, _, q => q
  | t :: r, s, h, q => fun c hc => LB_of hM r _ (h.st hc) (Nat.le_trans q (hM t r s c h hc))
theorem zF_keep {α : Type} {f : Nat → α → α} {a : α} : ∀ n, (∀ k, k < n → f k a = a) → zF f n a = a
  | 0, _ => rfl
  | n + 1, h => by
    show f n (zF f n a) = a
    rw [zF_keep n (fun k hk => h k (by omega))]
    exact h n (by omega)
theorem dfs_keep : ∀ (r : List Nat) (s : Nat → Nat) (p : List Nat) (acc : Nat × List Nat), LB κ acc.1 r s → dfs κ r s p acc = acc
  | [], s, p, acc, h => if_neg (Nat.not_lt.mpr h)
  | t :: r, s, p, acc, h => zF_keep (s 0) (fun c hc => dfs_keep r _ _ acc (h c hc))
theorem zF_le {f : Nat → Nat × List Nat → Nat × List Nat} (hf : ∀ c a, (f c a).1 ≤ a.1) (a : Nat × List Nat) : ∀ n m, m ≤ n → (zF f n a).1 ≤ (zF f m a).1
  | 0, m, h => by rw [show m = 0 by omega]; exact Nat.le_refl _
  | n + 1, m, h => by
    by_cases e : m = n + 1
    · rw [e]; exact Nat.le_refl _
    · exact Nat.le_trans (hf n (zF f n a)) (zF_le hf a n m (by omega))
theorem dfs_le : ∀ (r : List Nat) (s : Nat → Nat) (p : List Nat) (acc : Nat × List Nat), (dfs κ r s p acc).1 ≤ acc.1
  | [], s, p, acc => by
    show (lf (κ s) p acc).1 ≤ acc.1
    unfold lf
    split
    · rename_i h; exact Nat.le_of_lt h
    · exact Nat.le_refl _
  | t :: r, s, p, acc => zF_le (fun c a => dfs_le r _ _ a) acc (s 0) 0 (Nat.zero_le _)
theorem dfs_LB : ∀ (r : List Nat) (s : Nat → Nat) (p : List Nat) (acc : Nat × List Nat), LB κ (dfs κ r s p acc).1 r s
  | [], s, p, acc => by
    show (lf (κ s) p acc).1 ≤ κ s
    unfold lf
    split
    · exact Nat.le_refl _
    · rename_i h; exact Nat.not_lt.mp h
  | t :: r, s, p, acc => fun c hc => by
    refine LB_mono ?_ r _ (dfs_LB r (gcomes s t (3 + c)) (p ++ [c]) (zF (fun c acc => dfs κ r (gcomes s t (3 + c)) (p ++ [c]) acc) c acc))
    exact zF_le (f := fun c acc => dfs κ r (gcomes s t (3 + c)) (p ++ [c]) acc) (fun c a => dfs_le r _ _ a) acc (s 0) (c + 1) (by omega)
/-- two BAGS changed for each other -/
def sw (i j x : Nat) : Nat := if x = 3 + i then 3 + j else if x = 3 + j then 3 + i else x
def sb (i j c : Nat) : Nat := if c = i then j else if c = j then i else c
theorem sw_sb (i j c : Nat) : sw i j (3 + c) = 3 + sb i j c := by
  unfold sw sb
  by_cases h1 : c = i
  · rw [if_pos h1, if_pos (by omega)]
  · rw [if_neg h1, if_neg (by omega)]
    by_cases h2 : c = j
    · rw [if_pos h2, if_pos (by omega)]
    · rw [if_neg h2, if_neg (by omega)]
theorem sb_sb (i j c : Nat) : sb i j (sb i j c) = c := by
  unfold sb
  by_cases h1 : c = i
  · rw [if_pos h1]
    by_cases h2 : j = i
    · rw [if_pos h2]; omega
    · rw [if_neg h2, if_pos rfl]; omega
  · rw [if_neg h1]
    by_cases h2 : c = j
    · rw [if_pos h2, if_pos rfl]; omega
    · rw [if_neg h2, if_neg h1, if_neg h2]
theorem sb_lt {n c : Nat} (hi : i < n) (hj : j < n) (hc : c < n) : sb i j c < n := by
  unfold sb
  split
  · exact hj
  · split
    · exact hi
    · exact hc
theorem sw_inj {a b : Nat} : (sw i j a = sw i j b) ↔ a = b := by
  unfold sw
  constructor
  · intro h
    split at h <;> split at h <;> (try split at h) <;> (try split at h) <;> omega
  · intro h; rw [h]
theorem sw_3 {a : Nat} : (3 ≤ sw i j a) ↔ 3 ≤ a := by
  unfold sw
  split
  · omega
  · split <;> omega
def Sw (i j : Nat) (s s' : Nat → Nat) : Prop := (s' 3 = s 3 ∧ s' 0 = s 0 ∧ s' 1 = s 1 ∧ s' 5 = s 5) ∧ ∀ u, u < s 3 → gk s' u = gk s u ∧ gw s' u = gw s u ∧ gs s' u = gs s u ∧ gc s' u = gc s u ∧ go s' u = go s u ∧ gp s' u = sw i j (gp s u)
theorem Sw.comes (h : Sw i j s s') (t c : Nat) : Sw i j (gcomes s t (3 + c)) (gcomes s' t (3 + sb i j c)) := by
  obtain ⟨⟨h1, h2, h3, h4⟩, h5⟩ := h
  refine ⟨⟨by rw [gco_n, gco_n, h1], by rw [gcomes_h (by decide), gcomes_h (by decide), h2], by rw [gcomes_h (by decide), gcomes_h (by decide), h3], by rw [gco_5, gco_5, h4]⟩, fun u hu => ?_⟩
  rw [gco_n] at hu
  obtain ⟨a1, a2, a3, a4, a5, a6⟩ := h5 u hu
  refine ⟨?_, ?_, ?_, ?_, ?_, ?_⟩
  · exact ((gco_w (w := 0) (by decide) (by decide) (by decide)).trans a1).trans (gco_w (w := 0) (by decide) (by decide) (by decide)).symm
  · exact ((gco_w (w := 1) (by decide) (by decide) (by decide)).trans a2).trans (gco_w (w := 1) (by decide) (by decide) (by decide)).symm
  · exact ((gco_w (w := 2) (by decide) (by decide) (by decide)).trans a3).trans (gco_w (w := 2) (by decide) (by decide) (by decide)).symm
  · exact ((gco_w (w := 5) (by decide) (by decide) (by decide)).trans a4).trans (gco_w (w := 5) (by decide) (by decide) (by decide)).symm
  · by_cases e : u = t
    · subst e; rw [gco_ot, gco_ot, h4]
    · rw [gco_oo e, gco_oo e, a5]
  · by_cases e : u = t
    · subst e; rw [gco_pt, gco_pt, sw_sb]
    · rw [gco_po e, gco_po e, a6]
def Sym (κ : (Nat → Nat) → Nat) : Prop := ∀ (i j : Nat) (s s' : Nat → Nat), gB s → i < s 0 → j < s 0 → Sw i j s s' → κ s' = κ s
theorem LB_sw (hκ : Sym κ) : ∀ (r : List Nat) (s s' : Nat → Nat), Wok r s → Sw i j s s' → i < s 0 → j < s 0 → LB κ x r s → LB κ x r s'
  | [], s, s', hw, h, hi, hj, q => by
    show x ≤ κ s'
    rw [hκ i j s s' hw.1 hi hj h]
    exact q
  | t :: r, s, s', hw, h, hi, hj, q => fun c hc => by
    have hc2 : c < s 0 := by rw [h.1.2.1] at hc; exact hc
    have hb := sb_lt hi hj hc2
    have h2 := h.comes t (sb i j c)
    rw [sb_sb] at h2
    exact LB_sw hκ r _ _ (hw.st hb) h2 (by rw [gcomes_h (by decide)]; exact hi) (by rw [gcomes_h (by decide)]; exact hj) (q _ hb)
theorem Sw_two {t : Nat} (hi : ∀ u, u < s 3 → gp s u ≠ 3 + i) (hj : ∀ u, u < s 3 → gp s u ≠ 3 + j) : Sw i j (gcomes s t (3 + i)) (gcomes s t (3 + j)) := by
  refine ⟨⟨by rw [gco_n, gco_n], by rw [gcomes_h (by decide), gcomes_h (by decide)], by rw [gcomes_h (by decide), gcomes_h (by decide)], by rw [gco_5, gco_5]⟩, fun u hu => ?_⟩
  rw [gco_n] at hu
  refine ⟨?_, ?_, ?_, ?_, ?_, ?_⟩
  · exact (gco_w (w := 0) (by decide) (by decide) (by decide)).trans (gco_w (w := 0) (by decide) (by decide) (by decide)).symm
  · exact (gco_w (w := 1) (by decide) (by decide) (by decide)).trans (gco_w (w := 1) (by decide) (by decide) (by decide)).symm
  · exact (gco_w (w := 2) (by decide) (by decide) (by decide)).trans (gco_w (w := 2) (by decide) (by decide) (by decide)).symm
  · exact (gco_w (w := 5) (by decide) (by decide) (by decide)).trans (gco_w (w := 5) (by decide) (by decide) (by decide)).symm
  · by_cases e : u = t
    · subst e; rw [gco_ot, gco_ot]
    · rw [gco_oo e, gco_oo e]
  · by_cases e : u = t
    · subst e
      rw [gco_pt, gco_pt]
      unfold sw
      rw [if_pos rfl]
    · rw [gco_po e, gco_po e]
      unfold sw
      rw [if_neg (hi u hu), if_neg (hj u hu)]
theorem zS_zero {f : Nat → Nat} : ∀ n, zS f n = 0 → ∀ k, k < n → f k = 0
  | 0, _, k, hk => absurd hk (Nat.not_lt_zero _)
  | n + 1, h, k, hk => by
    have h2 : zS f n + f n = 0 := h
    by_cases e : k = n
    · rw [e]; omega
    · exact zS_zero n (by omega) k (by omega)
theorem bag_none {c : Nat} (h : gweighs s c = 0) (hw : ∀ t, t < s 3 → 1 ≤ gw s t) : ∀ u, u < s 3 → gp s u ≠ 3 + c := by
  intro u hu e
  have h1 := zS_zero (s 3) h u hu
  rw [if_pos e] at h1
  have := hw u hu
  omega
/-- of empty BAGS at the end only the first need be tried -/
theorem dfs_prune (hκ : Sym κ) {t : Nat} {r : List Nat} (h : Wok (t :: r) s) {m : Nat} (hm : 1 ≤ m) (hm2 : m ≤ s 0) (he : m < s 0 → ∀ c, m - 1 ≤ c → c < s 0 → gweighs s c = 0) (p : List Nat) (acc : Nat × List Nat) : dfs κ (t :: r) s p acc = zF (fun c acc => dfs κ r (gcomes s t (3 + c)) (p ++ [c]) acc) m acc := by
  have key : ∀ n, m ≤ n → n ≤ s 0 → zF (fun c acc => dfs κ r (gcomes s t (3 + c)) (p ++ [c]) acc) n acc = zF (fun c acc => dfs κ r (gcomes s t (3 + c)) (p ++ [c]) acc) m acc := by
    intro n
    induction n with
    | zero => intro h1 _; omega
    | succ n ih =>
      intro h1 h2
      by_cases e : m = n + 1
      · rw [e]
      · have hn : m ≤ n := by omega
        have hlt : m < s 0 := by omega
        show dfs κ r (gcomes s t (3 + n)) (p ++ [n]) (zF (fun c acc => dfs κ r (gcomes s t (3 + c)) (p ++ [c]) acc) n acc) = _
        rw [ih hn (by omega)]
        apply dfs_keep
        obtain ⟨k, hk⟩ : ∃ k, m = k + 1 := ⟨m - 1, by omega⟩
        subst hk
        have q := dfs_LB (κ := κ) r (gcomes s t (3 + k)) (p ++ [k]) (zF (fun c acc => dfs κ r (gcomes s t (3 + c)) (p ++ [c]) acc) k acc)
        refine LB_sw (i := k) (j := n) hκ r _ _ (h.st (by omega)) (Sw_two (bag_none (he hlt k (by omega) (by omega)) (fun t ht => (h.2.2.2.2.2.2 t ht).1)) (bag_none (he hlt n (by omega) (by omega)) (fun t ht => (h.2.2.2.2.2.2 t ht).1))) ?_ ?_ q
        · rw [gcomes_h (by decide)]; omega
        · rw [gcomes_h (by decide)]; omega
  exact key (s 0) hm2 (Nat.le_refl _)
/-! the WAYS by their numbers -/
def wdg (K : Nat) : Nat → Nat → List Nat
  | 0, _ => []
  | n + 1, w => (w / K ^ n % K) :: wdg K n w
def gPW : List Nat → List Nat → (Nat → Nat) → Nat → Nat
  | t :: r, c :: ds, s => gPW r ds (gcomes s t (3 + c))
  | _, _, s => s
theorem zF_add {α : Type} (f : Nat → α → α) (a : Nat) (z : α) : ∀ n, zF f (a + n) z = zF (fun w => f (a + w)) n (zF f a z)
  | 0 => rfl
  | n + 1 => by
    show f (a + n) (zF f (a + n) z) = f (a + n) (zF (fun w => f (a + w)) n (zF f a z))
    rw [zF_add f a z n]
theorem zF_mul {α : Type} (f : Nat → α → α) (m : Nat) (z : α) : ∀ n, zF f (n * m) z = zF (fun c a => zF (fun w => f (c * m + w)) m a) n z
  | 0 => by rw [Nat.zero_mul]; rfl
  | n + 1 => by
    rw [Nat.succ_mul, zF_add, zF_mul f m z n]
    rfl
theorem wdg_add {K : Nat} (hK : 0 < K) : ∀ (n c w : Nat), wdg K n (c * K ^ n + w) = wdg K n w
  | 0, _, _ => rfl
  | n + 1, c, w => by
    have e1 : c * K ^ (n + 1) + w = (c * K) * K ^ n + w := by rw [Nat.pow_succ, Nat.mul_assoc, Nat.mul_comm (K ^ n) K]
    have hp : 0 < K ^ n := Nat.pow_pos hK
    show ((c * K ^ (n + 1) + w) / K ^ n % K) :: wdg K n (c * K ^ (n + 1) + w) = (w / K ^ n % K) :: wdg K n w
    rw [e1, wdg_add hK n (c * K) w, Nat.add_comm, Nat.add_mul_div_right _ _ hp, Nat.add_mul_mod_self_right]
theorem wdg_len {K : Nat} : ∀ (n w : Nat), (wdg K n w).length = n
  | 0, _ => rfl
  | n + 1, w => by
    show (wdg K n w).length + 1 = n + 1
    rw [wdg_len n w]
theorem dfs_enum {K : Nat} (hK : 0 < K) : ∀ (r : List Nat) (s : Nat → Nat) (p : List Nat) (acc : Nat × List Nat), s 0 = K → dfs κ r s p acc = zF (fun w acc => lf (κ (gPW r (wdg K r.length w) s)) (p ++ wdg K r.length w) acc) (K ^ r.length) acc
  | [], s, p, acc, _ => by
    show lf (κ s) p acc = lf (κ (gPW [] [] s)) (p ++ []) acc
    rw [List.append_nil]
    rfl
  | t :: r, s, p, acc, h0 => by
    rw [List.length_cons, Nat.pow_succ, Nat.mul_comm, zF_mul]
    show zF (fun c acc => dfs κ r (gcomes s t (3 + c)) (p ++ [c]) acc) (s 0) acc = _
    rw [h0]
    refine zF_congr K acc (fun c a hc => ?_)
    rw [dfs_enum hK r _ _ _ (by rw [gcomes_h (by decide)]; exact h0)]
    refine zF_congr (K ^ r.length) a (fun w a2 hw => ?_)
    have e : wdg K (r.length + 1) (c * K ^ r.length + w) = c :: wdg K r.length w := by
      show ((c * K ^ r.length + w) / K ^ r.length % K) :: wdg K r.length (c * K ^ r.length + w) = _
      rw [wdg_add hK, Nat.add_comm, Nat.add_mul_div_right _ _ (Nat.pow_pos hK), Nat.div_eq_of_lt hw, Nat.zero_add, Nat.mod_eq_of_lt hc]
    rw [e, List.append_assoc]
    rfl
/-! how many are CRUSHED, which BAG is heaviest, how many TEAR -/
def gcnt (s : Nat → Nat) : Nat := zpc (gbroken s ||| gover s)
def gtn (s : Nat → Nat) : Nat := zC (fun c => decide (s 1 < gweighs s c)) (s 0)
theorem gcnt_C (hB : gB s) : gcnt s = zC (fun t => decide (gc s t = 1) || decide (gbears s t < gload s t)) (s 3) := by
  unfold gcnt gbroken gover
  rw [zB_or, zpc_B _ _ hB.1]
theorem gcnt_le (hB : gB s) : gcnt s ≤ 7 := by
  rw [gcnt_C hB]
  exact Nat.le_trans (zC_le _ _) hB.1
theorem gload_out {t : Nat} (h : gp s t < 3) : gload s t = 0 := by
  unfold gload
  have := zS_le (f := fun o => if (decide (3 ≤ gp s t) && gab s o t) = true then gpress s o else 0) (c := 0) (s 3) (fun k _ => by
    rw [if_neg (by simp; omega)]
    exact Nat.le_refl _)
  omega
theorem gcnt_mon : Mon gcnt := by
  intro t r s c h hc
  obtain ⟨ht, hp⟩ := h.hd
  rw [gcnt_C h.1, gcnt_C (h.st hc).1, gco_n]
  refine zC_mono _ (fun u hu q => ?_)
  have e1 : gc (gcomes s t (3 + c)) u = gc s u := gco_w (w := 5) (by decide) (by decide) (by decide)
  rw [e1, gco_bears]
  by_cases e : u = t
  · subst e
    rw [gload_out hp] at q
    rw [gco_load0 h.2.1]
    exact q
  · rw [gco_load h.2.1 ht hp hu e]
    simp only [Bool.or_eq_true, decide_eq_true_eq] at q ⊢
    omega
theorem gweighs_co {t c b : Nat} (ht : t < s 3) (hp : gp s t < 3) : gweighs (gcomes s t (3 + c)) b = gweighs s b + (if b = c then gw s t else 0) := by
  unfold gweighs
  rw [gco_n]
  have e0 : ∀ u, gw (gcomes s t (3 + c)) u = gw s u := fun u => gco_w (w := 1) (by decide) (by decide) (by decide)
  have h := zS_at (t := t) (f := fun u => if gp s u = 3 + b then gw s u else 0) (f' := fun u => if gp (gcomes s t (3 + c)) u = 3 + b then gw (gcomes s t (3 + c)) u else 0) (s 3) ht (fun k hk hkt => by
    rw [gco_po hkt, e0])
  rw [gco_pt, e0, if_neg (show ¬ gp s t = 3 + b by omega)] at h
  by_cases e : b = c
  · rw [if_pos e]
    rw [if_pos (by omega)] at h
    omega
  · rw [if_neg e]
    rw [if_neg (by omega)] at h
    omega
theorem gmost_iff (x : Nat) : ∀ n, (gmost s n ≤ x) ↔ ∀ c, c < n → gweighs s c ≤ x
  | 0 => ⟨fun _ c hc => absurd hc (Nat.not_lt_zero _), fun _ => Nat.zero_le _⟩
  | n + 1 => by
    have ih := gmost_iff x n
    have e : gmost s (n + 1) = if gmost s n < gweighs s n then gweighs s n else gmost s n := rfl
    rw [e]
    constructor
    · intro h c hc
      by_cases q : c = n
      · subst q; split at h <;> omega
      · refine ih.mp ?_ c (by omega)
        split at h <;> omega
    · intro h
      have h1 := ih.mpr (fun c hc => h c (by omega))
      have h2 := h n (by omega)
      split <;> omega
theorem gmost_co {t c : Nat} {r : List Nat} (h : Wok (t :: r) s) (hc : c < s 0) : gmost (gcomes s t (3 + c)) (s 0) = if gmost s (s 0) < gweighs (gcomes s t (3 + c)) c then gweighs (gcomes s t (3 + c)) c else gmost s (s 0) := by
  obtain ⟨ht, hp⟩ := h.hd
  have up : ∀ b, gweighs (gcomes s t (3 + c)) b = gweighs s b + (if b = c then gw s t else 0) := fun b => gweighs_co ht hp
  have h1 : gmost (gcomes s t (3 + c)) (s 0) ≤ (if gmost s (s 0) < gweighs (gcomes s t (3 + c)) c then gweighs (gcomes s t (3 + c)) c else gmost s (s 0)) := by
    rw [gmost_iff]
    intro b hb
    have h2 := gmost_ge s (s 0) b hb
    by_cases e : b = c
    · subst e; split <;> omega
    · have := up b
      rw [if_neg e] at this
      split <;> omega
  have h2 : gmost s (s 0) ≤ gmost (gcomes s t (3 + c)) (s 0) := by
    rw [gmost_iff]
    intro b hb
    have h2 := gmost_ge (gcomes s t (3 + c)) (s 0) b hb
    have := up b
    omega
  have h3 := gmost_ge (gcomes s t (3 + c)) (s 0) c hc
  split at h1 <;> split <;> omega
theorem gmost_mon : Mon fun s => gmost s (s 0) := by
  intro t r s c h hc
  dsimp only
  rw [show gcomes s t (3 + c) 0 = s 0 from gcomes_h (by decide), gmost_co h hc]
  split <;> omega
theorem gtn_mon : Mon gtn := by
  intro t r s c h hc
  obtain ⟨ht, hp⟩ := h.hd
  unfold gtn
  rw [show gcomes s t (3 + c) 0 = s 0 from gcomes_h (by decide), show gcomes s t (3 + c) 1 = s 1 from gcomes_h (by decide)]
  refine zC_mono _ (fun b hb q => ?_)
  rw [gweighs_co ht hp]
  simp only [decide_eq_true_eq] at q ⊢
  omega
theorem Sw.load (h : Sw i j s s') {u : Nat} (hu : u < s 3) : gload s' u = gload s u := by
  obtain ⟨⟨h1, -, -, -⟩, h5⟩ := h
  unfold gload
  rw [h1]
  refine zS_congr _ (fun o ho => ?_)
  obtain ⟨a1, a2, a3, a4, a5, a6⟩ := h5 u hu
  obtain ⟨b1, b2, b3, b4, b5, b6⟩ := h5 o ho
  have e : gpress s' o = gpress s o := by unfold gpress; rw [b1, b2]
  unfold gab
  rw [e, a6, b6, a5, b5]
  congr 2
  rw [decide_eq_decide.mpr (sw_3 (i := i) (j := j) (a := gp s u)), decide_eq_decide.mpr (sw_inj (i := i) (j := j) (a := gp s o) (b := gp s u))]
theorem gcnt_sym : Sym gcnt := by
  intro i j s s' hB hi hj h
  unfold gcnt
  have e1 : gbroken s' = gbroken s := by
    unfold gbroken
    rw [h.1.1]
    exact zB_congr _ (fun u hu => by rw [(h.2 u hu).2.2.2.1])
  have e2 : gover s' = gover s := by
    unfold gover
    rw [h.1.1]
    refine zB_congr _ (fun u hu => ?_)
    rw [h.load hu]
    have e : gbears s' u = gbears s u := by unfold gbears; rw [(h.2 u hu).1, (h.2 u hu).2.2.1]
    rw [e]
  rw [e1, e2]
theorem Sw.weighs (h : Sw i j s s') (c : Nat) : gweighs s' (sb i j c) = gweighs s c := by
  unfold gweighs
  rw [h.1.1]
  refine zS_congr _ (fun u hu => ?_)
  obtain ⟨a1, a2, a3, a4, a5, a6⟩ := h.2 u hu
  rw [a2, a6, ← sw_sb]
  by_cases e : gp s u = 3 + c
  · rw [if_pos e, if_pos (by rw [e])]
  · rw [if_neg e, if_neg (fun q => e (sw_inj.mp q))]
theorem gmost_sym : Sym fun s => gmost s (s 0) := by
  intro i j s s' hB hi hj h
  dsimp only
  rw [h.1.2.1]
  have h1 : gmost s' (s 0) ≤ gmost s (s 0) := by
    rw [gmost_iff]
    intro c hc
    have e := h.weighs (sb i j c)
    rw [sb_sb] at e
    rw [e]
    exact gmost_ge s (s 0) _ (sb_lt hi hj hc)
  have h2 : gmost s (s 0) ≤ gmost s' (s 0) := by
    rw [gmost_iff]
    intro c hc
    rw [← h.weighs c]
    exact gmost_ge s' (s 0) _ (sb_lt hi hj hc)
  omega
theorem zC_sb {P Q : Nat → Bool} {n : Nat} (hn : n ≤ 3) (hi : i < n) (hj : j < n) (h : ∀ c, c < n → P (sb i j c) = Q c) : zC P n = zC Q n := by
  by_cases hij : i = j
  · refine zC_congr n (fun c hc => ?_)
    have := h c hc
    subst hij
    unfold sb at this
    by_cases e : c = i
    · rw [if_pos e] at this; rw [e] at this ⊢; exact this
    · rw [if_neg e, if_neg e] at this; exact this
  · have hPi : P i = Q j := by have := h j hj; unfold sb at this; rw [if_neg (fun q => hij q.symm), if_pos rfl] at this; exact this
    have hPj : P j = Q i := by have := h i hi; unfold sb at this; rw [if_pos rfl] at this; exact this
    have e1 := zC_out P i n hi
    have e2 := zC_out Q i n hi
    have e3 := zC_out (fun u => P u && decide (u ≠ i)) j n hj
    have e4 := zC_out (fun u => Q u && decide (u ≠ i)) j n hj
    have e5 : zC (fun u => P u && decide (u ≠ i) && decide (u ≠ j)) n = zC (fun u => Q u && decide (u ≠ i) && decide (u ≠ j)) n := by
      refine zC_congr n (fun c hc => ?_)
      by_cases a : c = i
      · simp [a]
      · by_cases b : c = j
        · simp [b]
        · have := h c hc
          unfold sb at this
          rw [if_neg a, if_neg b] at this
          rw [this]
    have hji : ¬ j = i := fun q => hij q.symm
    simp only [hji, hij, ne_eq, not_false_eq_true, decide_true, Bool.and_true] at e3 e4
    rw [e5] at e3
    rw [hPi] at e1
    rw [hPj] at e3
    simp only [ne_eq] at e1 e2 e3 e4
    omega
theorem gtn_sym : Sym gtn := by
  intro i j s s' hB hi hj h
  unfold gtn
  rw [h.1.2.1, h.1.2.2.1]
  exact zC_sb hB.2.1 hi hj (fun c hc => by rw [h.weighs c])
/-- crushed ones ahead, then what a BAG weighs -/
def kk (hv : (Nat → Nat) → Nat) (s : Nat → Nat) : Nat := gcnt s * 4294967296 + hv s
theorem kk_mon {hv : (Nat → Nat) → Nat} (h : Mon hv) : Mon (kk hv) := by
  intro t r s c hw hc
  have h1 := gcnt_mon t r s c hw hc
  have h2 := h t r s c hw hc
  unfold kk
  omega
theorem kk_sym {hv : (Nat → Nat) → Nat} (h : Sym hv) : Sym (kk hv) := by
  intro i j s s' hB hi hj hs
  unfold kk
  rw [gcnt_sym i j s s' hB hi hj hs, h i j s s' hB hi hj hs]
def hM (s : Nat → Nat) : Nat := gmost s (s 0)
def hX (_ : Nat → Nat) : Nat := 1000000
theorem hX_mon : Mon hX := fun _ _ _ _ _ _ => Nat.le_refl _
theorem hX_sym : Sym hX := fun _ _ _ _ _ _ _ _ => rfl
/-- the same search with no weights finds as few -/
def Tw (f0 : Nat) (a1 a2 : Nat × List Nat) : Prop := ∃ f1 l1 : Nat, l1 < 4294967296 ∧ a1.1 = f1 * 4294967296 + l1 ∧ a2.1 = (if f0 ≤ f1 then f0 else f1) * 4294967296 + 1000000
theorem lf_two {f0 c h : Nat} {a1 a2 : Nat × List Nat} {p1 p2 : List Nat} (hh : h < 4294967296) (q : Tw f0 a1 a2) : Tw f0 (lf (c * 4294967296 + h) p1 a1) (lf (c * 4294967296 + 1000000) p2 a2) := by
  obtain ⟨f1, l1, q1, q2, q3⟩ := q
  unfold Tw lf
  rw [q2, q3]
  by_cases c1 : c < f1
  · rw [if_pos (by omega)]
    refine ⟨c, h, hh, rfl, ?_⟩
    by_cases c2 : f0 ≤ f1
    · rw [if_pos c2]
      by_cases c3 : f0 ≤ c
      · rw [if_pos c3, if_neg (by omega), q3, if_pos c2]
      · rw [if_neg c3, if_pos (by omega)]
    · rw [if_neg c2, if_pos (by omega), if_neg (by omega)]
  · have c4 : ¬ c * 4294967296 + 1000000 < (if f0 ≤ f1 then f0 else f1) * 4294967296 + 1000000 := by split <;> omega
    rw [if_neg c4, q3]
    by_cases c5 : c * 4294967296 + h < f1 * 4294967296 + l1
    · rw [if_pos c5]
      have : c = f1 := by omega
      subst this
      exact ⟨c, h, hh, rfl, rfl⟩
    · rw [if_neg c5, q2]
      exact ⟨f1, l1, q1, rfl, rfl⟩
theorem zF_two {R : Nat × List Nat → Nat × List Nat → Prop} {f1 f2 : Nat → Nat × List Nat → Nat × List Nat} : ∀ n a1 a2, (∀ c a b, c < n → R a b → R (f1 c a) (f2 c b)) → R a1 a2 → R (zF f1 n a1) (zF f2 n a2)
  | 0, _, _, _, h => h
  | n + 1, a1, a2, hf, h => hf n _ _ (by omega) (zF_two n a1 a2 (fun c a b hc => hf c a b (by omega)) h)
theorem dfs_two {f0 : Nat} : ∀ (r : List Nat) (s : Nat → Nat) (p1 p2 : List Nat) (a1 a2 : Nat × List Nat), Wok r s → Tw f0 a1 a2 → Tw f0 (dfs (kk hM) r s p1 a1) (dfs (kk hX) r s p2 a2)
  | [], s, p1, p2, a1, a2, hw, h => lf_two (Nat.lt_of_lt_of_le (gmost_lt hw.1 (s 0)) (by decide)) h
  | t :: r, s, p1, p2, a1, a2, hw, h => zF_two (R := Tw f0) (s 0) a1 a2 (fun c a b hc q => dfs_two r _ _ _ a b (hw.st hc) q) h
/-- some WAY is found -/
theorem dfs_some {f : Nat} : ∀ (r : List Nat) (s : Nat → Nat), Wok r s → ∃ s', Wok [] s' ∧ (LB κ f r s → f ≤ κ s')
  | [], s, h => ⟨s, h, fun q => q⟩
  | t :: r, s, h => by
    obtain ⟨s', h1, h2⟩ := dfs_some r (gcomes s t (3 + 0)) (h.st h.2.2.2.2.2.1)
    exact ⟨s', h1, fun q => h2 (q 0 h.2.2.2.2.2.1)⟩
end
