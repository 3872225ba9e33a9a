/-! THE HEAP AS FUNCTIONS. zL I A b: object o's field k holds I o k, row q's place j holds A q j; b is what BeltOrder's shop is (null, or the SHOP). -/
def zfs (I : Nat → Nat → Int32) (b : Value) : Nat → Option (Nat × List Value)
  | 0 => some (7, [.ref 1, .ref 13, .ref 15, .ref 22, .ref 29, .ref 44, .ref 49, .ref 59, .ref 62, .int (I 0 9), .int (I 0 10)])
  | 1 => some (3, [.ref 2, .ref 11, .ref 12])
  | 13 => some (5, [.ref 14, .int (I 13 1), .int (I 13 2), .int (I 13 3)])
  | 15 => some (4, [.int (I 15 0), .int (I 15 1), .int (I 15 2), .int (I 15 3), .int (I 15 4), .int (I 15 5), .ref 16, .ref 17, .ref 18, .ref 19, .ref 20, .ref 21])
  | 22 => some (4, [.int (I 22 0), .int (I 22 1), .int (I 22 2), .int (I 22 3), .int (I 22 4), .int (I 22 5), .ref 23, .ref 24, .ref 25, .ref 26, .ref 27, .ref 28])
  | 30 => some (4, [.int (I 30 0), .int (I 30 1), .int (I 30 2), .int (I 30 3), .int (I 30 4), .int (I 30 5), .ref 31, .ref 32, .ref 33, .ref 34, .ref 35, .ref 36])
  | 37 => some (4, [.int (I 37 0), .int (I 37 1), .int (I 37 2), .int (I 37 3), .int (I 37 4), .int (I 37 5), .ref 38, .ref 39, .ref 40, .ref 41, .ref 42, .ref 43])
  | 44 => some (0, [.ref 45, .ref 46, .ref 47, .ref 48, .int (I 44 4), .int (I 44 5)])
  | 49 => some (6, [.ref 50, .ref 51, .ref 52, .ref 53, .ref 54, .ref 55, .ref 56, .ref 57, .ref 58, .int (I 49 9), .int (I 49 10), .int (I 49 11), .int (I 49 12), .int (I 49 13), .int (I 49 14), .int (I 49 15), .int (I 49 16)])
  | 59 => some (2, [.ref 60, .ref 61, .int (I 59 2)])
  | 62 => some (1, [.ref 63, .int (I 62 1), .int (I 62 2), .int (I 62 3), .int (I 62 4), .int (I 62 5), .int (I 62 6)])
  | 64 => some (8, [.int (I 64 0), .int (I 64 1), .ref 65, .ref 66, .ref 67, .ref 68, .ref 69, .ref 70, .ref 71, .int (I 64 9), .ref 72, .int (I 64 11), .int (I 64 12), .int (I 64 13), .int (I 64 14), .int (I 64 15), .int (I 64 16), .int (I 64 17), .int (I 64 18), .ref 73, .int (I 64 20), .int (I 64 21), .int (I 64 22), .int (I 64 23), .ref 74, .ref 75, .ref 76, .ref 77, .ref 78, .int (I 64 29)])
  | _ => none
/-- rows of ints: how long -/
def zal : Nat → Nat
  | 3 => 40
  | 4 => 40
  | 5 => 40
  | 6 => 40
  | 7 => 40
  | 8 => 40
  | 9 => 40
  | 10 => 40
  | 11 => 8
  | 12 => 8
  | 14 => 120
  | 16 => 7
  | 17 => 7
  | 18 => 7
  | 19 => 7
  | 20 => 7
  | 21 => 7
  | 23 => 7
  | 24 => 7
  | 25 => 7
  | 26 => 7
  | 27 => 7
  | 28 => 7
  | 31 => 7
  | 32 => 7
  | 33 => 7
  | 34 => 7
  | 35 => 7
  | 36 => 7
  | 38 => 7
  | 39 => 7
  | 40 => 7
  | 41 => 7
  | 42 => 7
  | 43 => 7
  | 45 => 24
  | 46 => 24
  | 47 => 24
  | 48 => 24
  | 50 => 7
  | 51 => 7
  | 52 => 7
  | 53 => 7
  | 54 => 7
  | 55 => 7
  | 56 => 7
  | 57 => 3
  | 58 => 3
  | 60 => 128
  | 61 => 128
  | 63 => 16
  | 65 => 8
  | 66 => 8
  | 67 => 320
  | 68 => 55
  | 69 => 55
  | 70 => 55
  | 71 => 1320
  | 72 => 120
  | 73 => 7
  | 74 => 7
  | 75 => 7
  | 77 => 110
  | 78 => 16
  | _ => 0
def zcell (I A : Nat → Nat → Int32) (b : Value) (k : Nat) : va_E := match zfs I b k with
  | some x => .inr x
  | none => match k with
    | 2 => .inl (3, 8, .inr (.inr (.inr (.inr fun i => if i < 8 then some (3 + i) else none))))
    | 29 => .inl (2, 2, .inr (.inr (.inr (.inr fun i => if i = 0 then some 30 else if i = 1 then some 37 else none))))
    | 76 => .inl (1, 2, .inl (A 76))
    | k => .inl (0, zal k, .inl (A k))
def zL (I A : Nat → Nat → Int32) (b : Value) : pm_H := (List.range 79).map (zcell I A b)
def zuI (I : Nat → Nat → Int32) (o k : Nat) (x : Int32) : Nat → Nat → Int32 := fun o' => if o' = o then (fun k' => if k' = k then x else I o k') else I o'
def zuA (A : Nat → Nat → Int32) (q j : Nat) (x : Int32) : Nat → Nat → Int32 := fun q' => if q' = q then upd (A q) j x else A q'
section
variable {I A I' A' : Nat → Nat → Int32} {b b' : Value}
theorem zL_at {k : Nat} (h : k < 79) : (zL I A b)[k]? = some (zcell I A b k) := by
  unfold zL
  rw [List.getElem?_map, List.getElem?_range h]
  rfl
theorem zL_len : (zL I A b).length = 79 := by simp [zL]
theorem zcell_eq {k : Nat} (hI : I' k = I k) (hA : A' k = A k) (hb : k = 59 → b' = b) : zcell I' A' b' k = zcell I A b k := by
  have e1 : zfs I' b' k = zfs I b k := by
    unfold zfs
    split <;> first | rfl | (simp only [hI]; done) | (simp only [hI, hb rfl]; done)
  unfold zcell
  rw [e1]
  split
  · rfl
  · split <;> first | rfl | rw [hA]
theorem zL_set {o : Nat} {e : va_E} (ho : o < 79) (he : zcell I' A' b' o = e) (hI : ∀ k, k ≠ o → I' k = I k) (hA : ∀ k, k ≠ o → A' k = A k) (hb : o ≠ 59 → b' = b) : (zL I A b).set o e = zL I' A' b' := by
  apply List.ext_getElem?
  intro k
  by_cases hk : o = k
  · subst hk
    rw [List.getElem?_set_self (by rw [zL_len]; exact ho), zL_at ho, he]
  · rw [List.getElem?_set_ne hk]
    by_cases h9 : k < 79
    · rw [zL_at h9, zL_at h9, zcell_eq (hI k (fun q => hk q.symm)) (hA k (fun q => hk q.symm)) (fun q => hb (fun q2 => hk (q2.trans q.symm)))]
    · rw [List.getElem?_eq_none (by rw [zL_len]; omega), List.getElem?_eq_none (by rw [zL_len]; omega)]
theorem zuI_s {o k : Nat} {x : Int32} : zuI I o k x o k = x := by simp [zuI]
theorem zuI_o {o k o' k' : Nat} {x : Int32} (h : o' ≠ o) : zuI I o k x o' k' = I o' k' := by simp [zuI, h]
theorem zuI_n {o k k' : Nat} {x : Int32} (h : k' ≠ k) : zuI I o k x o k' = I o k' := by simp [zuI, h]
theorem zuA_s {q j : Nat} {x : Int32} : zuA A q j x q = upd (A q) j x := by simp [zuA]
theorem zuA_o {q j q' : Nat} {x : Int32} (h : q' ≠ q) : zuA A q j x q' = A q' := by simp [zuA, h]
/-- a read of a field -/
theorem z_gI {o ci k : Nat} {fs : List Value} {x : Int32} (ho : o < 79) (hf : zfs I b o = some (ci, fs)) (hk : fs[k]? = some (.int x)) : pm_gI (zL I A b) o ci k = some x := by
  unfold pm_gI
  rw [zL_at ho]
  unfold zcell
  rw [hf]
  simp [hk]
theorem z_gR {o ci k : Nat} {fs : List Value} {x : Nat} (ho : o < 79) (hf : zfs I b o = some (ci, fs)) (hk : fs[k]? = some (.ref x)) : pm_gR (zL I A b) o ci k = some x := by
  unfold pm_gR
  rw [zL_at ho]
  unfold zcell
  rw [hf]
  simp [hk]
theorem z_pf {o ci k : Nat} {fs : List Value} {v : Value} (ho : o < 79) (hf : zfs I b o = some (ci, fs)) (hk : k < fs.length) (hf' : zfs I' b' o = some (ci, fs.set k v)) (hI : ∀ j, j ≠ o → I' j = I j) (hb : o ≠ 59 → b' = b) : pm_pf (zL I A b) o ci k v = some (zL I' A b') := by
  unfold pm_pf
  rw [zL_at ho]
  unfold zcell
  rw [hf]
  simp only [hk, and_self, if_true]
  congr 1
  refine zL_set ho ?_ hI (fun _ _ => rfl) hb
  unfold zcell
  rw [hf']
/-- the cell at a place is a row of ints -/
def zIs (q n : Nat) : Prop := q < 79 ∧ n < 2000 ∧ ∀ (I A : Nat → Nat → Int32) (b : Value), zcell I A b q = .inl (0, n, .inl (A q))
theorem z_rd {q n j : Nat} (hq : zIs q n) (hj : j < n) : pm_rd 0 (zL I A b) q (nI j) = some (A q j) := by
  unfold pm_rd
  rw [zL_at hq.1, hq.2.2 I A b]
  have h2 := hq.2.1
  have h3 : ¬ (nI j < 0 ∨ n ≤ (nI j).toNatClampNeg) := nI_in hj (by omega)
  show (if 0 = 0 ∧ ¬ (nI j < 0 ∨ n ≤ (nI j).toNatClampNeg) then some (A q (nI j).toNatClampNeg) else none) = _
  rw [if_pos ⟨rfl, h3⟩, nI_clamp (show j < 2 ^ 31 by omega)]
theorem z_wr {q n j : Nat} {x : Int32} (hq : zIs q n) (hj : j < n) : pm_wr 0 (zL I A b) q (nI j) x = some (zL I (zuA A q j x) b) := by
  unfold pm_wr
  rw [zL_at hq.1, hq.2.2 I A b]
  have h2 := hq.2.1
  have h3 : ¬ (nI j < 0 ∨ n ≤ (nI j).toNatClampNeg) := nI_in hj (by omega)
  show (if 0 = 0 ∧ ¬ (nI j < 0 ∨ n ≤ (nI j).toNatClampNeg) then some ((zL I A b).set q (.inl (0, n, .inl (upd (A q) (nI j).toNatClampNeg x)))) else none) = _
  rw [if_pos ⟨rfl, h3⟩, nI_clamp (show j < 2 ^ 31 by omega)]
  congr 1
  refine zL_set hq.1 ?_ (fun _ _ => rfl) (fun k hk => zuA_o hk) (fun _ => rfl)
  rw [hq.2.2, zuA_s]
theorem z_ln {q n : Nat} (hq : zIs q n) : pm_ln (zL I A b) q = some (nI n) := by
  unfold pm_ln
  rw [zL_at hq.1, hq.2.2 I A b]
  rfl
end
theorem za_3 : zIs 3 40 := ⟨by decide, by decide, fun _ _ _ => rfl⟩
theorem za_4 : zIs 4 40 := ⟨by decide, by decide, fun _ _ _ => rfl⟩
theorem za_5 : zIs 5 40 := ⟨by decide, by decide, fun _ _ _ => rfl⟩
theorem za_6 : zIs 6 40 := ⟨by decide, by decide, fun _ _ _ => rfl⟩
theorem za_7 : zIs 7 40 := ⟨by decide, by decide, fun _ _ _ => rfl⟩
theorem za_8 : zIs 8 40 := ⟨by decide, by decide, fun _ _ _ => rfl⟩
theorem za_9 : zIs 9 40 := ⟨by decide, by decide, fun _ _ _ => rfl⟩
theorem za_10 : zIs 10 40 := ⟨by decide, by decide, fun _ _ _ => rfl⟩
theorem za_11 : zIs 11 8 := ⟨by decide, by decide, fun _ _ _ => rfl⟩
theorem za_12 : zIs 12 8 := ⟨by decide, by decide, fun _ _ _ => rfl⟩
theorem za_14 : zIs 14 120 := ⟨by decide, by decide, fun _ _ _ => rfl⟩
theorem za_16 : zIs 16 7 := ⟨by decide, by decide, fun _ _ _ => rfl⟩
theorem za_17 : zIs 17 7 := ⟨by decide, by decide, fun _ _ _ => rfl⟩
theorem za_18 : zIs 18 7 := ⟨by decide, by decide, fun _ _ _ => rfl⟩
theorem za_19 : zIs 19 7 := ⟨by decide, by decide, fun _ _ _ => rfl⟩
theorem za_20 : zIs 20 7 := ⟨by decide, by decide, fun _ _ _ => rfl⟩
theorem za_21 : zIs 21 7 := ⟨by decide, by decide, fun _ _ _ => rfl⟩
theorem za_23 : zIs 23 7 := ⟨by decide, by decide, fun _ _ _ => rfl⟩
theorem za_24 : zIs 24 7 := ⟨by decide, by decide, fun _ _ _ => rfl⟩
theorem za_25 : zIs 25 7 := ⟨by decide, by decide, fun _ _ _ => rfl⟩
theorem za_26 : zIs 26 7 := ⟨by decide, by decide, fun _ _ _ => rfl⟩
theorem za_27 : zIs 27 7 := ⟨by decide, by decide, fun _ _ _ => rfl⟩
theorem za_28 : zIs 28 7 := ⟨by decide, by decide, fun _ _ _ => rfl⟩
theorem za_31 : zIs 31 7 := ⟨by decide, by decide, fun _ _ _ => rfl⟩
theorem za_32 : zIs 32 7 := ⟨by decide, by decide, fun _ _ _ => rfl⟩
theorem za_33 : zIs 33 7 := ⟨by decide, by decide, fun _ _ _ => rfl⟩
theorem za_34 : zIs 34 7 := ⟨by decide, by decide, fun _ _ _ => rfl⟩
theorem za_35 : zIs 35 7 := ⟨by decide, by decide, fun _ _ _ => rfl⟩
theorem za_36 : zIs 36 7 := ⟨by decide, by decide, fun _ _ _ => rfl⟩
theorem za_38 : zIs 38 7 := ⟨by decide, by decide, fun _ _ _ => rfl⟩
theorem za_39 : zIs 39 7 := ⟨by decide, by decide, fun _ _ _ => rfl⟩
theorem za_40 : zIs 40 7 := ⟨by decide, by decide, fun _ _ _ => rfl⟩
theorem za_41 : zIs 41 7 := ⟨by decide, by decide, fun _ _ _ => rfl⟩
theorem za_42 : zIs 42 7 := ⟨by decide, by decide, fun _ _ _ => rfl⟩
theorem za_43 : zIs 43 7 := ⟨by decide, by decide, fun _ _ _ => rfl⟩
theorem za_45 : zIs 45 24 := ⟨by decide, by decide, fun _ _ _ => rfl⟩
theorem za_46 : zIs 46 24 := ⟨by decide, by decide, fun _ _ _ => rfl⟩
theorem za_47 : zIs 47 24 := ⟨by decide, by decide, fun _ _ _ => rfl⟩
theorem za_48 : zIs 48 24 := ⟨by decide, by decide, fun _ _ _ => rfl⟩
theorem za_50 : zIs 50 7 := ⟨by decide, by decide, fun _ _ _ => rfl⟩
theorem za_51 : zIs 51 7 := ⟨by decide, by decide, fun _ _ _ => rfl⟩
theorem za_52 : zIs 52 7 := ⟨by decide, by decide, fun _ _ _ => rfl⟩
theorem za_53 : zIs 53 7 := ⟨by decide, by decide, fun _ _ _ => rfl⟩
theorem za_54 : zIs 54 7 := ⟨by decide, by decide, fun _ _ _ => rfl⟩
theorem za_55 : zIs 55 7 := ⟨by decide, by decide, fun _ _ _ => rfl⟩
theorem za_56 : zIs 56 7 := ⟨by decide, by decide, fun _ _ _ => rfl⟩
theorem za_57 : zIs 57 3 := ⟨by decide, by decide, fun _ _ _ => rfl⟩
theorem za_58 : zIs 58 3 := ⟨by decide, by decide, fun _ _ _ => rfl⟩
theorem za_60 : zIs 60 128 := ⟨by decide, by decide, fun _ _ _ => rfl⟩
theorem za_61 : zIs 61 128 := ⟨by decide, by decide, fun _ _ _ => rfl⟩
theorem za_63 : zIs 63 16 := ⟨by decide, by decide, fun _ _ _ => rfl⟩
theorem za_65 : zIs 65 8 := ⟨by decide, by decide, fun _ _ _ => rfl⟩
theorem za_66 : zIs 66 8 := ⟨by decide, by decide, fun _ _ _ => rfl⟩
theorem za_67 : zIs 67 320 := ⟨by decide, by decide, fun _ _ _ => rfl⟩
theorem za_68 : zIs 68 55 := ⟨by decide, by decide, fun _ _ _ => rfl⟩
theorem za_69 : zIs 69 55 := ⟨by decide, by decide, fun _ _ _ => rfl⟩
theorem za_70 : zIs 70 55 := ⟨by decide, by decide, fun _ _ _ => rfl⟩
theorem za_71 : zIs 71 1320 := ⟨by decide, by decide, fun _ _ _ => rfl⟩
theorem za_72 : zIs 72 120 := ⟨by decide, by decide, fun _ _ _ => rfl⟩
theorem za_73 : zIs 73 7 := ⟨by decide, by decide, fun _ _ _ => rfl⟩
theorem za_74 : zIs 74 7 := ⟨by decide, by decide, fun _ _ _ => rfl⟩
theorem za_75 : zIs 75 7 := ⟨by decide, by decide, fun _ _ _ => rfl⟩
theorem za_77 : zIs 77 110 := ⟨by decide, by decide, fun _ _ _ => rfl⟩
theorem za_78 : zIs 78 16 := ⟨by decide, by decide, fun _ _ _ => rfl⟩
theorem zo_0 (I A : Nat → Nat → Int32) (b : Value) : ∃ fs, (zL I A b)[0]? = some (.inr (7, fs)) := ⟨_, zL_at (by decide)⟩
theorem zg_0_9 (I A : Nat → Nat → Int32) (b : Value) : pm_gI (zL I A b) 0 7 9 = some (I 0 9) := z_gI (by decide) rfl rfl
theorem zp_0_9 (I A : Nat → Nat → Int32) (b : Value) (x : Int32) : pm_pf (zL I A b) 0 7 9 (.int x) = some (zL (zuI I 0 9 x) A b) := z_pf (by decide) rfl (Nat.le_of_ble_eq_true rfl) rfl (fun j hj => by simp [zuI, hj]) (fun _ => rfl)
theorem zg_0_10 (I A : Nat → Nat → Int32) (b : Value) : pm_gI (zL I A b) 0 7 10 = some (I 0 10) := z_gI (by decide) rfl rfl
theorem zp_0_10 (I A : Nat → Nat → Int32) (b : Value) (x : Int32) : pm_pf (zL I A b) 0 7 10 (.int x) = some (zL (zuI I 0 10 x) A b) := z_pf (by decide) rfl (Nat.le_of_ble_eq_true rfl) rfl (fun j hj => by simp [zuI, hj]) (fun _ => rfl)
theorem zr_0_0 (I A : Nat → Nat → Int32) (b : Value) : pm_gR (zL I A b) 0 7 0 = some 1 := z_gR (by decide) rfl rfl
theorem zr_0_1 (I A : Nat → Nat → Int32) (b : Value) : pm_gR (zL I A b) 0 7 1 = some 13 := z_gR (by decide) rfl rfl
theorem zr_0_2 (I A : Nat → Nat → Int32) (b : Value) : pm_gR (zL I A b) 0 7 2 = some 15 := z_gR (by decide) rfl rfl
theorem zr_0_3 (I A : Nat → Nat → Int32) (b : Value) : pm_gR (zL I A b) 0 7 3 = some 22 := z_gR (by decide) rfl rfl
theorem zr_0_4 (I A : Nat → Nat → Int32) (b : Value) : pm_gR (zL I A b) 0 7 4 = some 29 := z_gR (by decide) rfl rfl
theorem zr_0_5 (I A : Nat → Nat → Int32) (b : Value) : pm_gR (zL I A b) 0 7 5 = some 44 := z_gR (by decide) rfl rfl
theorem zr_0_6 (I A : Nat → Nat → Int32) (b : Value) : pm_gR (zL I A b) 0 7 6 = some 49 := z_gR (by decide) rfl rfl
theorem zr_0_7 (I A : Nat → Nat → Int32) (b : Value) : pm_gR (zL I A b) 0 7 7 = some 59 := z_gR (by decide) rfl rfl
theorem zr_0_8 (I A : Nat → Nat → Int32) (b : Value) : pm_gR (zL I A b) 0 7 8 = some 62 := z_gR (by decide) rfl rfl
theorem zo_1 (I A : Nat → Nat → Int32) (b : Value) : ∃ fs, (zL I A b)[1]? = some (.inr (3, fs)) := ⟨_, zL_at (by decide)⟩
theorem zr_1_0 (I A : Nat → Nat → Int32) (b : Value) : pm_gR (zL I A b) 1 3 0 = some 2 := z_gR (by decide) rfl rfl
theorem zr_1_1 (I A : Nat → Nat → Int32) (b : Value) : pm_gR (zL I A b) 1 3 1 = some 11 := z_gR (by decide) rfl rfl
theorem zr_1_2 (I A : Nat → Nat → Int32) (b : Value) : pm_gR (zL I A b) 1 3 2 = some 12 := z_gR (by decide) rfl rfl
theorem zo_13 (I A : Nat → Nat → Int32) (b : Value) : ∃ fs, (zL I A b)[13]? = some (.inr (5, fs)) := ⟨_, zL_at (by decide)⟩
theorem zg_13_1 (I A : Nat → Nat → Int32) (b : Value) : pm_gI (zL I A b) 13 5 1 = some (I 13 1) := z_gI (by decide) rfl rfl
theorem zp_13_1 (I A : Nat → Nat → Int32) (b : Value) (x : Int32) : pm_pf (zL I A b) 13 5 1 (.int x) = some (zL (zuI I 13 1 x) A b) := z_pf (by decide) rfl (Nat.le_of_ble_eq_true rfl) rfl (fun j hj => by simp [zuI, hj]) (fun _ => rfl)
theorem zg_13_2 (I A : Nat → Nat → Int32) (b : Value) : pm_gI (zL I A b) 13 5 2 = some (I 13 2) := z_gI (by decide) rfl rfl
theorem zp_13_2 (I A : Nat → Nat → Int32) (b : Value) (x : Int32) : pm_pf (zL I A b) 13 5 2 (.int x) = some (zL (zuI I 13 2 x) A b) := z_pf (by decide) rfl (Nat.le_of_ble_eq_true rfl) rfl (fun j hj => by simp [zuI, hj]) (fun _ => rfl)
theorem zg_13_3 (I A : Nat → Nat → Int32) (b : Value) : pm_gI (zL I A b) 13 5 3 = some (I 13 3) := z_gI (by decide) rfl rfl
theorem zp_13_3 (I A : Nat → Nat → Int32) (b : Value) (x : Int32) : pm_pf (zL I A b) 13 5 3 (.int x) = some (zL (zuI I 13 3 x) A b) := z_pf (by decide) rfl (Nat.le_of_ble_eq_true rfl) rfl (fun j hj => by simp [zuI, hj]) (fun _ => rfl)
theorem zr_13_0 (I A : Nat → Nat → Int32) (b : Value) : pm_gR (zL I A b) 13 5 0 = some 14 := z_gR (by decide) rfl rfl
theorem zo_15 (I A : Nat → Nat → Int32) (b : Value) : ∃ fs, (zL I A b)[15]? = some (.inr (4, fs)) := ⟨_, zL_at (by decide)⟩
theorem zg_15_0 (I A : Nat → Nat → Int32) (b : Value) : pm_gI (zL I A b) 15 4 0 = some (I 15 0) := z_gI (by decide) rfl rfl
theorem zp_15_0 (I A : Nat → Nat → Int32) (b : Value) (x : Int32) : pm_pf (zL I A b) 15 4 0 (.int x) = some (zL (zuI I 15 0 x) A b) := z_pf (by decide) rfl (Nat.le_of_ble_eq_true rfl) rfl (fun j hj => by simp [zuI, hj]) (fun _ => rfl)
theorem zg_15_1 (I A : Nat → Nat → Int32) (b : Value) : pm_gI (zL I A b) 15 4 1 = some (I 15 1) := z_gI (by decide) rfl rfl
theorem zp_15_1 (I A : Nat → Nat → Int32) (b : Value) (x : Int32) : pm_pf (zL I A b) 15 4 1 (.int x) = some (zL (zuI I 15 1 x) A b) := z_pf (by decide) rfl (Nat.le_of_ble_eq_true rfl) rfl (fun j hj => by simp [zuI, hj]) (fun _ => rfl)
theorem zg_15_2 (I A : Nat → Nat → Int32) (b : Value) : pm_gI (zL I A b) 15 4 2 = some (I 15 2) := z_gI (by decide) rfl rfl
theorem zp_15_2 (I A : Nat → Nat → Int32) (b : Value) (x : Int32) : pm_pf (zL I A b) 15 4 2 (.int x) = some (zL (zuI I 15 2 x) A b) := z_pf (by decide) rfl (Nat.le_of_ble_eq_true rfl) rfl (fun j hj => by simp [zuI, hj]) (fun _ => rfl)
theorem zg_15_3 (I A : Nat → Nat → Int32) (b : Value) : pm_gI (zL I A b) 15 4 3 = some (I 15 3) := z_gI (by decide) rfl rfl
theorem zp_15_3 (I A : Nat → Nat → Int32) (b : Value) (x : Int32) : pm_pf (zL I A b) 15 4 3 (.int x) = some (zL (zuI I 15 3 x) A b) := z_pf (by decide) rfl (Nat.le_of_ble_eq_true rfl) rfl (fun j hj => by simp [zuI, hj]) (fun _ => rfl)
theorem zg_15_4 (I A : Nat → Nat → Int32) (b : Value) : pm_gI (zL I A b) 15 4 4 = some (I 15 4) := z_gI (by decide) rfl rfl
theorem zp_15_4 (I A : Nat → Nat → Int32) (b : Value) (x : Int32) : pm_pf (zL I A b) 15 4 4 (.int x) = some (zL (zuI I 15 4 x) A b) := z_pf (by decide) rfl (Nat.le_of_ble_eq_true rfl) rfl (fun j hj => by simp [zuI, hj]) (fun _ => rfl)
theorem zg_15_5 (I A : Nat → Nat → Int32) (b : Value) : pm_gI (zL I A b) 15 4 5 = some (I 15 5) := z_gI (by decide) rfl rfl
theorem zp_15_5 (I A : Nat → Nat → Int32) (b : Value) (x : Int32) : pm_pf (zL I A b) 15 4 5 (.int x) = some (zL (zuI I 15 5 x) A b) := z_pf (by decide) rfl (Nat.le_of_ble_eq_true rfl) rfl (fun j hj => by simp [zuI, hj]) (fun _ => rfl)
theorem zr_15_6 (I A : Nat → Nat → Int32) (b : Value) : pm_gR (zL I A b) 15 4 6 = some 16 := z_gR (by decide) rfl rfl
theorem zr_15_7 (I A : Nat → Nat → Int32) (b : Value) : pm_gR (zL I A b) 15 4 7 = some 17 := z_gR (by decide) rfl rfl
theorem zr_15_8 (I A : Nat → Nat → Int32) (b : Value) : pm_gR (zL I A b) 15 4 8 = some 18 := z_gR (by decide) rfl rfl
theorem zr_15_9 (I A : Nat → Nat → Int32) (b : Value) : pm_gR (zL I A b) 15 4 9 = some 19 := z_gR (by decide) rfl rfl
theorem zr_15_10 (I A : Nat → Nat → Int32) (b : Value) : pm_gR (zL I A b) 15 4 10 = some 20 := z_gR (by decide) rfl rfl
theorem zr_15_11 (I A : Nat → Nat → Int32) (b : Value) : pm_gR (zL I A b) 15 4 11 = some 21 := z_gR (by decide) rfl rfl
theorem zo_22 (I A : Nat → Nat → Int32) (b : Value) : ∃ fs, (zL I A b)[22]? = some (.inr (4, fs)) := ⟨_, zL_at (by decide)⟩
theorem zg_22_0 (I A : Nat → Nat → Int32) (b : Value) : pm_gI (zL I A b) 22 4 0 = some (I 22 0) := z_gI (by decide) rfl rfl
theorem zp_22_0 (I A : Nat → Nat → Int32) (b : Value) (x : Int32) : pm_pf (zL I A b) 22 4 0 (.int x) = some (zL (zuI I 22 0 x) A b) := z_pf (by decide) rfl (Nat.le_of_ble_eq_true rfl) rfl (fun j hj => by simp [zuI, hj]) (fun _ => rfl)
theorem zg_22_1 (I A : Nat → Nat → Int32) (b : Value) : pm_gI (zL I A b) 22 4 1 = some (I 22 1) := z_gI (by decide) rfl rfl
theorem zp_22_1 (I A : Nat → Nat → Int32) (b : Value) (x : Int32) : pm_pf (zL I A b) 22 4 1 (.int x) = some (zL (zuI I 22 1 x) A b) := z_pf (by decide) rfl (Nat.le_of_ble_eq_true rfl) rfl (fun j hj => by simp [zuI, hj]) (fun _ => rfl)
theorem zg_22_2 (I A : Nat → Nat → Int32) (b : Value) : pm_gI (zL I A b) 22 4 2 = some (I 22 2) := z_gI (by decide) rfl rfl
theorem zp_22_2 (I A : Nat → Nat → Int32) (b : Value) (x : Int32) : pm_pf (zL I A b) 22 4 2 (.int x) = some (zL (zuI I 22 2 x) A b) := z_pf (by decide) rfl (Nat.le_of_ble_eq_true rfl) rfl (fun j hj => by simp [zuI, hj]) (fun _ => rfl)
theorem zg_22_3 (I A : Nat → Nat → Int32) (b : Value) : pm_gI (zL I A b) 22 4 3 = some (I 22 3) := z_gI (by decide) rfl rfl
theorem zp_22_3 (I A : Nat → Nat → Int32) (b : Value) (x : Int32) : pm_pf (zL I A b) 22 4 3 (.int x) = some (zL (zuI I 22 3 x) A b) := z_pf (by decide) rfl (Nat.le_of_ble_eq_true rfl) rfl (fun j hj => by simp [zuI, hj]) (fun _ => rfl)
theorem zg_22_4 (I A : Nat → Nat → Int32) (b : Value) : pm_gI (zL I A b) 22 4 4 = some (I 22 4) := z_gI (by decide) rfl rfl
theorem zp_22_4 (I A : Nat → Nat → Int32) (b : Value) (x : Int32) : pm_pf (zL I A b) 22 4 4 (.int x) = some (zL (zuI I 22 4 x) A b) := z_pf (by decide) rfl (Nat.le_of_ble_eq_true rfl) rfl (fun j hj => by simp [zuI, hj]) (fun _ => rfl)
theorem zg_22_5 (I A : Nat → Nat → Int32) (b : Value) : pm_gI (zL I A b) 22 4 5 = some (I 22 5) := z_gI (by decide) rfl rfl
theorem zp_22_5 (I A : Nat → Nat → Int32) (b : Value) (x : Int32) : pm_pf (zL I A b) 22 4 5 (.int x) = some (zL (zuI I 22 5 x) A b) := z_pf (by decide) rfl (Nat.le_of_ble_eq_true rfl) rfl (fun j hj => by simp [zuI, hj]) (fun _ => rfl)
theorem zr_22_6 (I A : Nat → Nat → Int32) (b : Value) : pm_gR (zL I A b) 22 4 6 = some 23 := z_gR (by decide) rfl rfl
theorem zr_22_7 (I A : Nat → Nat → Int32) (b : Value) : pm_gR (zL I A b) 22 4 7 = some 24 := z_gR (by decide) rfl rfl
theorem zr_22_8 (I A : Nat → Nat → Int32) (b : Value) : pm_gR (zL I A b) 22 4 8 = some 25 := z_gR (by decide) rfl rfl
theorem zr_22_9 (I A : Nat → Nat → Int32) (b : Value) : pm_gR (zL I A b) 22 4 9 = some 26 := z_gR (by decide) rfl rfl
theorem zr_22_10 (I A : Nat → Nat → Int32) (b : Value) : pm_gR (zL I A b) 22 4 10 = some 27 := z_gR (by decide) rfl rfl
theorem zr_22_11 (I A : Nat → Nat → Int32) (b : Value) : pm_gR (zL I A b) 22 4 11 = some 28 := z_gR (by decide) rfl rfl
theorem zo_30 (I A : Nat → Nat → Int32) (b : Value) : ∃ fs, (zL I A b)[30]? = some (.inr (4, fs)) := ⟨_, zL_at (by decide)⟩
theorem zg_30_0 (I A : Nat → Nat → Int32) (b : Value) : pm_gI (zL I A b) 30 4 0 = some (I 30 0) := z_gI (by decide) rfl rfl
theorem zp_30_0 (I A : Nat → Nat → Int32) (b : Value) (x : Int32) : pm_pf (zL I A b) 30 4 0 (.int x) = some (zL (zuI I 30 0 x) A b) := z_pf (by decide) rfl (Nat.le_of_ble_eq_true rfl) rfl (fun j hj => by simp [zuI, hj]) (fun _ => rfl)
theorem zg_30_1 (I A : Nat → Nat → Int32) (b : Value) : pm_gI (zL I A b) 30 4 1 = some (I 30 1) := z_gI (by decide) rfl rfl
theorem zp_30_1 (I A : Nat → Nat → Int32) (b : Value) (x : Int32) : pm_pf (zL I A b) 30 4 1 (.int x) = some (zL (zuI I 30 1 x) A b) := z_pf (by decide) rfl (Nat.le_of_ble_eq_true rfl) rfl (fun j hj => by simp [zuI, hj]) (fun _ => rfl)
theorem zg_30_2 (I A : Nat → Nat → Int32) (b : Value) : pm_gI (zL I A b) 30 4 2 = some (I 30 2) := z_gI (by decide) rfl rfl
theorem zp_30_2 (I A : Nat → Nat → Int32) (b : Value) (x : Int32) : pm_pf (zL I A b) 30 4 2 (.int x) = some (zL (zuI I 30 2 x) A b) := z_pf (by decide) rfl (Nat.le_of_ble_eq_true rfl) rfl (fun j hj => by simp [zuI, hj]) (fun _ => rfl)
theorem zg_30_3 (I A : Nat → Nat → Int32) (b : Value) : pm_gI (zL I A b) 30 4 3 = some (I 30 3) := z_gI (by decide) rfl rfl
theorem zp_30_3 (I A : Nat → Nat → Int32) (b : Value) (x : Int32) : pm_pf (zL I A b) 30 4 3 (.int x) = some (zL (zuI I 30 3 x) A b) := z_pf (by decide) rfl (Nat.le_of_ble_eq_true rfl) rfl (fun j hj => by simp [zuI, hj]) (fun _ => rfl)
theorem zg_30_4 (I A : Nat → Nat → Int32) (b : Value) : pm_gI (zL I A b) 30 4 4 = some (I 30 4) := z_gI (by decide) rfl rfl
theorem zp_30_4 (I A : Nat → Nat → Int32) (b : Value) (x : Int32) : pm_pf (zL I A b) 30 4 4 (.int x) = some (zL (zuI I 30 4 x) A b) := z_pf (by decide) rfl (Nat.le_of_ble_eq_true rfl) rfl (fun j hj => by simp [zuI, hj]) (fun _ => rfl)
theorem zg_30_5 (I A : Nat → Nat → Int32) (b : Value) : pm_gI (zL I A b) 30 4 5 = some (I 30 5) := z_gI (by decide) rfl rfl
theorem zp_30_5 (I A : Nat → Nat → Int32) (b : Value) (x : Int32) : pm_pf (zL I A b) 30 4 5 (.int x) = some (zL (zuI I 30 5 x) A b) := z_pf (by decide) rfl (Nat.le_of_ble_eq_true rfl) rfl (fun j hj => by simp [zuI, hj]) (fun _ => rfl)
theorem zr_30_6 (I A : Nat → Nat → Int32) (b : Value) : pm_gR (zL I A b) 30 4 6 = some 31 := z_gR (by decide) rfl rfl
theorem zr_30_7 (I A : Nat → Nat → Int32) (b : Value) : pm_gR (zL I A b) 30 4 7 = some 32 := z_gR (by decide) rfl rfl
theorem zr_30_8 (I A : Nat → Nat → Int32) (b : Value) : pm_gR (zL I A b) 30 4 8 = some 33 := z_gR (by decide) rfl rfl
theorem zr_30_9 (I A : Nat → Nat → Int32) (b : Value) : pm_gR (zL I A b) 30 4 9 = some 34 := z_gR (by decide) rfl rfl
theorem zr_30_10 (I A : Nat → Nat → Int32) (b : Value) : pm_gR (zL I A b) 30 4 10 = some 35 := z_gR (by decide) rfl rfl
theorem zr_30_11 (I A : Nat → Nat → Int32) (b : Value) : pm_gR (zL I A b) 30 4 11 = some 36 := z_gR (by decide) rfl rfl
theorem zo_37 (I A : Nat → Nat → Int32) (b : Value) : ∃ fs, (zL I A b)[37]? = some (.inr (4, fs)) := ⟨_, zL_at (by decide)⟩
theorem zg_37_0 (I A : Nat → Nat → Int32) (b : Value) : pm_gI (zL I A b) 37 4 0 = some (I 37 0) := z_gI (by decide) rfl rfl
theorem zp_37_0 (I A : Nat → Nat → Int32) (b : Value) (x : Int32) : pm_pf (zL I A b) 37 4 0 (.int x) = some (zL (zuI I 37 0 x) A b) := z_pf (by decide) rfl (Nat.le_of_ble_eq_true rfl) rfl (fun j hj => by simp [zuI, hj]) (fun _ => rfl)
theorem zg_37_1 (I A : Nat → Nat → Int32) (b : Value) : pm_gI (zL I A b) 37 4 1 = some (I 37 1) := z_gI (by decide) rfl rfl
theorem zp_37_1 (I A : Nat → Nat → Int32) (b : Value) (x : Int32) : pm_pf (zL I A b) 37 4 1 (.int x) = some (zL (zuI I 37 1 x) A b) := z_pf (by decide) rfl (Nat.le_of_ble_eq_true rfl) rfl (fun j hj => by simp [zuI, hj]) (fun _ => rfl)
theorem zg_37_2 (I A : Nat → Nat → Int32) (b : Value) : pm_gI (zL I A b) 37 4 2 = some (I 37 2) := z_gI (by decide) rfl rfl
theorem zp_37_2 (I A : Nat → Nat → Int32) (b : Value) (x : Int32) : pm_pf (zL I A b) 37 4 2 (.int x) = some (zL (zuI I 37 2 x) A b) := z_pf (by decide) rfl (Nat.le_of_ble_eq_true rfl) rfl (fun j hj => by simp [zuI, hj]) (fun _ => rfl)
theorem zg_37_3 (I A : Nat → Nat → Int32) (b : Value) : pm_gI (zL I A b) 37 4 3 = some (I 37 3) := z_gI (by decide) rfl rfl
theorem zp_37_3 (I A : Nat → Nat → Int32) (b : Value) (x : Int32) : pm_pf (zL I A b) 37 4 3 (.int x) = some (zL (zuI I 37 3 x) A b) := z_pf (by decide) rfl (Nat.le_of_ble_eq_true rfl) rfl (fun j hj => by simp [zuI, hj]) (fun _ => rfl)
theorem zg_37_4 (I A : Nat → Nat → Int32) (b : Value) : pm_gI (zL I A b) 37 4 4 = some (I 37 4) := z_gI (by decide) rfl rfl
theorem zp_37_4 (I A : Nat → Nat → Int32) (b : Value) (x : Int32) : pm_pf (zL I A b) 37 4 4 (.int x) = some (zL (zuI I 37 4 x) A b) := z_pf (by decide) rfl (Nat.le_of_ble_eq_true rfl) rfl (fun j hj => by simp [zuI, hj]) (fun _ => rfl)
theorem zg_37_5 (I A : Nat → Nat → Int32) (b : Value) : pm_gI (zL I A b) 37 4 5 = some (I 37 5) := z_gI (by decide) rfl rfl
theorem zp_37_5 (I A : Nat → Nat → Int32) (b : Value) (x : Int32) : pm_pf (zL I A b) 37 4 5 (.int x) = some (zL (zuI I 37 5 x) A b) := z_pf (by decide) rfl (Nat.le_of_ble_eq_true rfl) rfl (fun j hj => by simp [zuI, hj]) (fun _ => rfl)
theorem zr_37_6 (I A : Nat → Nat → Int32) (b : Value) : pm_gR (zL I A b) 37 4 6 = some 38 := z_gR (by decide) rfl rfl
theorem zr_37_7 (I A : Nat → Nat → Int32) (b : Value) : pm_gR (zL I A b) 37 4 7 = some 39 := z_gR (by decide) rfl rfl
theorem zr_37_8 (I A : Nat → Nat → Int32) (b : Value) : pm_gR (zL I A b) 37 4 8 = some 40 := z_gR (by decide) rfl rfl
theorem zr_37_9 (I A : Nat → Nat → Int32) (b : Value) : pm_gR (zL I A b) 37 4 9 = some 41 := z_gR (by decide) rfl rfl
theorem zr_37_10 (I A : Nat → Nat → Int32) (b : Value) : pm_gR (zL I A b) 37 4 10 = some 42 := z_gR (by decide) rfl rfl
theorem zr_37_11 (I A : Nat → Nat → Int32) (b : Value) : pm_gR (zL I A b) 37 4 11 = some 43 := z_gR (by decide) rfl rfl
theorem zo_44 (I A : Nat → Nat → Int32) (b : Value) : ∃ fs, (zL I A b)[44]? = some (.inr (0, fs)) := ⟨_, zL_at (by decide)⟩
theorem zg_44_4 (I A : Nat → Nat → Int32) (b : Value) : pm_gI (zL I A b) 44 0 4 = some (I 44 4) := z_gI (by decide) rfl rfl
theorem zp_44_4 (I A : Nat → Nat → Int32) (b : Value) (x : Int32) : pm_pf (zL I A b) 44 0 4 (.int x) = some (zL (zuI I 44 4 x) A b) := z_pf (by decide) rfl (Nat.le_of_ble_eq_true rfl) rfl (fun j hj => by simp [zuI, hj]) (fun _ => rfl)
theorem zg_44_5 (I A : Nat → Nat → Int32) (b : Value) : pm_gI (zL I A b) 44 0 5 = some (I 44 5) := z_gI (by decide) rfl rfl
theorem zp_44_5 (I A : Nat → Nat → Int32) (b : Value) (x : Int32) : pm_pf (zL I A b) 44 0 5 (.int x) = some (zL (zuI I 44 5 x) A b) := z_pf (by decide) rfl (Nat.le_of_ble_eq_true rfl) rfl (fun j hj => by simp [zuI, hj]) (fun _ => rfl)
theorem zr_44_0 (I A : Nat → Nat → Int32) (b : Value) : pm_gR (zL I A b) 44 0 0 = some 45 := z_gR (by decide) rfl rfl
theorem zr_44_1 (I A : Nat → Nat → Int32) (b : Value) : pm_gR (zL I A b) 44 0 1 = some 46 := z_gR (by decide) rfl rfl
theorem zr_44_2 (I A : Nat → Nat → Int32) (b : Value) : pm_gR (zL I A b) 44 0 2 = some 47 := z_gR (by decide) rfl rfl
theorem zr_44_3 (I A : Nat → Nat → Int32) (b : Value) : pm_gR (zL I A b) 44 0 3 = some 48 := z_gR (by decide) rfl rfl
theorem zo_49 (I A : Nat → Nat → Int32) (b : Value) : ∃ fs, (zL I A b)[49]? = some (.inr (6, fs)) := ⟨_, zL_at (by decide)⟩
theorem zg_49_9 (I A : Nat → Nat → Int32) (b : Value) : pm_gI (zL I A b) 49 6 9 = some (I 49 9) := z_gI (by decide) rfl rfl
theorem zp_49_9 (I A : Nat → Nat → Int32) (b : Value) (x : Int32) : pm_pf (zL I A b) 49 6 9 (.int x) = some (zL (zuI I 49 9 x) A b) := z_pf (by decide) rfl (Nat.le_of_ble_eq_true rfl) rfl (fun j hj => by simp [zuI, hj]) (fun _ => rfl)
theorem zg_49_10 (I A : Nat → Nat → Int32) (b : Value) : pm_gI (zL I A b) 49 6 10 = some (I 49 10) := z_gI (by decide) rfl rfl
theorem zp_49_10 (I A : Nat → Nat → Int32) (b : Value) (x : Int32) : pm_pf (zL I A b) 49 6 10 (.int x) = some (zL (zuI I 49 10 x) A b) := z_pf (by decide) rfl (Nat.le_of_ble_eq_true rfl) rfl (fun j hj => by simp [zuI, hj]) (fun _ => rfl)
theorem zg_49_11 (I A : Nat → Nat → Int32) (b : Value) : pm_gI (zL I A b) 49 6 11 = some (I 49 11) := z_gI (by decide) rfl rfl
theorem zp_49_11 (I A : Nat → Nat → Int32) (b : Value) (x : Int32) : pm_pf (zL I A b) 49 6 11 (.int x) = some (zL (zuI I 49 11 x) A b) := z_pf (by decide) rfl (Nat.le_of_ble_eq_true rfl) rfl (fun j hj => by simp [zuI, hj]) (fun _ => rfl)
theorem zg_49_12 (I A : Nat → Nat → Int32) (b : Value) : pm_gI (zL I A b) 49 6 12 = some (I 49 12) := z_gI (by decide) rfl rfl
theorem zp_49_12 (I A : Nat → Nat → Int32) (b : Value) (x : Int32) : pm_pf (zL I A b) 49 6 12 (.int x) = some (zL (zuI I 49 12 x) A b) := z_pf (by decide) rfl (Nat.le_of_ble_eq_true rfl) rfl (fun j hj => by simp [zuI, hj]) (fun _ => rfl)
theorem zg_49_13 (I A : Nat → Nat → Int32) (b : Value) : pm_gI (zL I A b) 49 6 13 = some (I 49 13) := z_gI (by decide) rfl rfl
theorem zp_49_13 (I A : Nat → Nat → Int32) (b : Value) (x : Int32) : pm_pf (zL I A b) 49 6 13 (.int x) = some (zL (zuI I 49 13 x) A b) := z_pf (by decide) rfl (Nat.le_of_ble_eq_true rfl) rfl (fun j hj => by simp [zuI, hj]) (fun _ => rfl)
theorem zg_49_14 (I A : Nat → Nat → Int32) (b : Value) : pm_gI (zL I A b) 49 6 14 = some (I 49 14) := z_gI (by decide) rfl rfl
theorem zp_49_14 (I A : Nat → Nat → Int32) (b : Value) (x : Int32) : pm_pf (zL I A b) 49 6 14 (.int x) = some (zL (zuI I 49 14 x) A b) := z_pf (by decide) rfl (Nat.le_of_ble_eq_true rfl) rfl (fun j hj => by simp [zuI, hj]) (fun _ => rfl)
theorem zg_49_15 (I A : Nat → Nat → Int32) (b : Value) : pm_gI (zL I A b) 49 6 15 = some (I 49 15) := z_gI (by decide) rfl rfl
theorem zp_49_15 (I A : Nat → Nat → Int32) (b : Value) (x : Int32) : pm_pf (zL I A b) 49 6 15 (.int x) = some (zL (zuI I 49 15 x) A b) := z_pf (by decide) rfl (Nat.le_of_ble_eq_true rfl) rfl (fun j hj => by simp [zuI, hj]) (fun _ => rfl)
theorem zg_49_16 (I A : Nat → Nat → Int32) (b : Value) : pm_gI (zL I A b) 49 6 16 = some (I 49 16) := z_gI (by decide) rfl rfl
theorem zp_49_16 (I A : Nat → Nat → Int32) (b : Value) (x : Int32) : pm_pf (zL I A b) 49 6 16 (.int x) = some (zL (zuI I 49 16 x) A b) := z_pf (by decide) rfl (Nat.le_of_ble_eq_true rfl) rfl (fun j hj => by simp [zuI, hj]) (fun _ => rfl)
theorem zr_49_0 (I A : Nat → Nat → Int32) (b : Value) : pm_gR (zL I A b) 49 6 0 = some 50 := z_gR (by decide) rfl rfl
theorem zr_49_1 (I A : Nat → Nat → Int32) (b : Value) : pm_gR (zL I A b) 49 6 1 = some 51 := z_gR (by decide) rfl rfl
theorem zr_49_2 (I A : Nat → Nat → Int32) (b : Value) : pm_gR (zL I A b) 49 6 2 = some 52 := z_gR (by decide) rfl rfl
theorem zr_49_3 (I A : Nat → Nat → Int32) (b : Value) : pm_gR (zL I A b) 49 6 3 = some 53 := z_gR (by decide) rfl rfl
theorem zr_49_4 (I A : Nat → Nat → Int32) (b : Value) : pm_gR (zL I A b) 49 6 4 = some 54 := z_gR (by decide) rfl rfl
theorem zr_49_5 (I A : Nat → Nat → Int32) (b : Value) : pm_gR (zL I A b) 49 6 5 = some 55 := z_gR (by decide) rfl rfl
theorem zr_49_6 (I A : Nat → Nat → Int32) (b : Value) : pm_gR (zL I A b) 49 6 6 = some 56 := z_gR (by decide) rfl rfl
theorem zr_49_7 (I A : Nat → Nat → Int32) (b : Value) : pm_gR (zL I A b) 49 6 7 = some 57 := z_gR (by decide) rfl rfl
theorem zr_49_8 (I A : Nat → Nat → Int32) (b : Value) : pm_gR (zL I A b) 49 6 8 = some 58 := z_gR (by decide) rfl rfl
theorem zo_59 (I A : Nat → Nat → Int32) (b : Value) : ∃ fs, (zL I A b)[59]? = some (.inr (2, fs)) := ⟨_, zL_at (by decide)⟩
theorem zg_59_2 (I A : Nat → Nat → Int32) (b : Value) : pm_gI (zL I A b) 59 2 2 = some (I 59 2) := z_gI (by decide) rfl rfl
theorem zp_59_2 (I A : Nat → Nat → Int32) (b : Value) (x : Int32) : pm_pf (zL I A b) 59 2 2 (.int x) = some (zL (zuI I 59 2 x) A b) := z_pf (by decide) rfl (Nat.le_of_ble_eq_true rfl) rfl (fun j hj => by simp [zuI, hj]) (fun _ => rfl)
theorem zr_59_0 (I A : Nat → Nat → Int32) (b : Value) : pm_gR (zL I A b) 59 2 0 = some 60 := z_gR (by decide) rfl rfl
theorem zr_59_1 (I A : Nat → Nat → Int32) (b : Value) : pm_gR (zL I A b) 59 2 1 = some 61 := z_gR (by decide) rfl rfl
theorem zo_62 (I A : Nat → Nat → Int32) (b : Value) : ∃ fs, (zL I A b)[62]? = some (.inr (1, fs)) := ⟨_, zL_at (by decide)⟩
theorem zg_62_1 (I A : Nat → Nat → Int32) (b : Value) : pm_gI (zL I A b) 62 1 1 = some (I 62 1) := z_gI (by decide) rfl rfl
theorem zp_62_1 (I A : Nat → Nat → Int32) (b : Value) (x : Int32) : pm_pf (zL I A b) 62 1 1 (.int x) = some (zL (zuI I 62 1 x) A b) := z_pf (by decide) rfl (Nat.le_of_ble_eq_true rfl) rfl (fun j hj => by simp [zuI, hj]) (fun _ => rfl)
theorem zg_62_2 (I A : Nat → Nat → Int32) (b : Value) : pm_gI (zL I A b) 62 1 2 = some (I 62 2) := z_gI (by decide) rfl rfl
theorem zp_62_2 (I A : Nat → Nat → Int32) (b : Value) (x : Int32) : pm_pf (zL I A b) 62 1 2 (.int x) = some (zL (zuI I 62 2 x) A b) := z_pf (by decide) rfl (Nat.le_of_ble_eq_true rfl) rfl (fun j hj => by simp [zuI, hj]) (fun _ => rfl)
theorem zg_62_3 (I A : Nat → Nat → Int32) (b : Value) : pm_gI (zL I A b) 62 1 3 = some (I 62 3) := z_gI (by decide) rfl rfl
theorem zp_62_3 (I A : Nat → Nat → Int32) (b : Value) (x : Int32) : pm_pf (zL I A b) 62 1 3 (.int x) = some (zL (zuI I 62 3 x) A b) := z_pf (by decide) rfl (Nat.le_of_ble_eq_true rfl) rfl (fun j hj => by simp [zuI, hj]) (fun _ => rfl)
theorem zg_62_4 (I A : Nat → Nat → Int32) (b : Value) : pm_gI (zL I A b) 62 1 4 = some (I 62 4) := z_gI (by decide) rfl rfl
theorem zp_62_4 (I A : Nat → Nat → Int32) (b : Value) (x : Int32) : pm_pf (zL I A b) 62 1 4 (.int x) = some (zL (zuI I 62 4 x) A b) := z_pf (by decide) rfl (Nat.le_of_ble_eq_true rfl) rfl (fun j hj => by simp [zuI, hj]) (fun _ => rfl)
theorem zg_62_5 (I A : Nat → Nat → Int32) (b : Value) : pm_gI (zL I A b) 62 1 5 = some (I 62 5) := z_gI (by decide) rfl rfl
theorem zp_62_5 (I A : Nat → Nat → Int32) (b : Value) (x : Int32) : pm_pf (zL I A b) 62 1 5 (.int x) = some (zL (zuI I 62 5 x) A b) := z_pf (by decide) rfl (Nat.le_of_ble_eq_true rfl) rfl (fun j hj => by simp [zuI, hj]) (fun _ => rfl)
theorem zg_62_6 (I A : Nat → Nat → Int32) (b : Value) : pm_gI (zL I A b) 62 1 6 = some (I 62 6) := z_gI (by decide) rfl rfl
theorem zp_62_6 (I A : Nat → Nat → Int32) (b : Value) (x : Int32) : pm_pf (zL I A b) 62 1 6 (.int x) = some (zL (zuI I 62 6 x) A b) := z_pf (by decide) rfl (Nat.le_of_ble_eq_true rfl) rfl (fun j hj => by simp [zuI, hj]) (fun _ => rfl)
theorem zr_62_0 (I A : Nat → Nat → Int32) (b : Value) : pm_gR (zL I A b) 62 1 0 = some 63 := z_gR (by decide) rfl rfl
theorem zo_64 (I A : Nat → Nat → Int32) (b : Value) : ∃ fs, (zL I A b)[64]? = some (.inr (8, fs)) := ⟨_, zL_at (by decide)⟩
theorem zg_64_0 (I A : Nat → Nat → Int32) (b : Value) : pm_gI (zL I A b) 64 8 0 = some (I 64 0) := z_gI (by decide) rfl rfl
theorem zp_64_0 (I A : Nat → Nat → Int32) (b : Value) (x : Int32) : pm_pf (zL I A b) 64 8 0 (.int x) = some (zL (zuI I 64 0 x) A b) := z_pf (by decide) rfl (Nat.le_of_ble_eq_true rfl) rfl (fun j hj => by simp [zuI, hj]) (fun _ => rfl)
theorem zg_64_1 (I A : Nat → Nat → Int32) (b : Value) : pm_gI (zL I A b) 64 8 1 = some (I 64 1) := z_gI (by decide) rfl rfl
theorem zp_64_1 (I A : Nat → Nat → Int32) (b : Value) (x : Int32) : pm_pf (zL I A b) 64 8 1 (.int x) = some (zL (zuI I 64 1 x) A b) := z_pf (by decide) rfl (Nat.le_of_ble_eq_true rfl) rfl (fun j hj => by simp [zuI, hj]) (fun _ => rfl)
theorem zg_64_9 (I A : Nat → Nat → Int32) (b : Value) : pm_gI (zL I A b) 64 8 9 = some (I 64 9) := z_gI (by decide) rfl rfl
theorem zp_64_9 (I A : Nat → Nat → Int32) (b : Value) (x : Int32) : pm_pf (zL I A b) 64 8 9 (.int x) = some (zL (zuI I 64 9 x) A b) := z_pf (by decide) rfl (Nat.le_of_ble_eq_true rfl) rfl (fun j hj => by simp [zuI, hj]) (fun _ => rfl)
theorem zg_64_11 (I A : Nat → Nat → Int32) (b : Value) : pm_gI (zL I A b) 64 8 11 = some (I 64 11) := z_gI (by decide) rfl rfl
theorem zp_64_11 (I A : Nat → Nat → Int32) (b : Value) (x : Int32) : pm_pf (zL I A b) 64 8 11 (.int x) = some (zL (zuI I 64 11 x) A b) := z_pf (by decide) rfl (Nat.le_of_ble_eq_true rfl) rfl (fun j hj => by simp [zuI, hj]) (fun _ => rfl)
theorem zg_64_12 (I A : Nat → Nat → Int32) (b : Value) : pm_gI (zL I A b) 64 8 12 = some (I 64 12) := z_gI (by decide) rfl rfl
theorem zp_64_12 (I A : Nat → Nat → Int32) (b : Value) (x : Int32) : pm_pf (zL I A b) 64 8 12 (.int x) = some (zL (zuI I 64 12 x) A b) := z_pf (by decide) rfl (Nat.le_of_ble_eq_true rfl) rfl (fun j hj => by simp [zuI, hj]) (fun _ => rfl)
theorem zg_64_13 (I A : Nat → Nat → Int32) (b : Value) : pm_gI (zL I A b) 64 8 13 = some (I 64 13) := z_gI (by decide) rfl rfl
theorem zp_64_13 (I A : Nat → Nat → Int32) (b : Value) (x : Int32) : pm_pf (zL I A b) 64 8 13 (.int x) = some (zL (zuI I 64 13 x) A b) := z_pf (by decide) rfl (Nat.le_of_ble_eq_true rfl) rfl (fun j hj => by simp [zuI, hj]) (fun _ => rfl)
theorem zg_64_14 (I A : Nat → Nat → Int32) (b : Value) : pm_gI (zL I A b) 64 8 14 = some (I 64 14) := z_gI (by decide) rfl rfl
theorem zp_64_14 (I A : Nat → Nat → Int32) (b : Value) (x : Int32) : pm_pf (zL I A b) 64 8 14 (.int x) = some (zL (zuI I 64 14 x) A b) := z_pf (by decide) rfl (Nat.le_of_ble_eq_true rfl) rfl (fun j hj => by simp [zuI, hj]) (fun _ => rfl)
theorem zg_64_15 (I A : Nat → Nat → Int32) (b : Value) : pm_gI (zL I A b) 64 8 15 = some (I 64 15) := z_gI (by decide) rfl rfl
theorem zp_64_15 (I A : Nat → Nat → Int32) (b : Value) (x : Int32) : pm_pf (zL I A b) 64 8 15 (.int x) = some (zL (zuI I 64 15 x) A b) := z_pf (by decide) rfl (Nat.le_of_ble_eq_true rfl) rfl (fun j hj => by simp [zuI, hj]) (fun _ => rfl)
theorem zg_64_16 (I A : Nat → Nat → Int32) (b : Value) : pm_gI (zL I A b) 64 8 16 = some (I 64 16) := z_gI (by decide) rfl rfl
theorem zp_64_16 (I A : Nat → Nat → Int32) (b : Value) (x : Int32) : pm_pf (zL I A b) 64 8 16 (.int x) = some (zL (zuI I 64 16 x) A b) := z_pf (by decide) rfl (Nat.le_of_ble_eq_true rfl) rfl (fun j hj => by simp [zuI, hj]) (fun _ => rfl)
theorem zg_64_17 (I A : Nat → Nat → Int32) (b : Value) : pm_gI (zL I A b) 64 8 17 = some (I 64 17) := z_gI (by decide) rfl rfl
theorem zp_64_17 (I A : Nat → Nat → Int32) (b : Value) (x : Int32) : pm_pf (zL I A b) 64 8 17 (.int x) = some (zL (zuI I 64 17 x) A b) := z_pf (by decide) rfl (Nat.le_of_ble_eq_true rfl) rfl (fun j hj => by simp [zuI, hj]) (fun _ => rfl)
theorem zg_64_18 (I A : Nat → Nat → Int32) (b : Value) : pm_gI (zL I A b) 64 8 18 = some (I 64 18) := z_gI (by decide) rfl rfl
theorem zp_64_18 (I A : Nat → Nat → Int32) (b : Value) (x : Int32) : pm_pf (zL I A b) 64 8 18 (.int x) = some (zL (zuI I 64 18 x) A b) := z_pf (by decide) rfl (Nat.le_of_ble_eq_true rfl) rfl (fun j hj => by simp [zuI, hj]) (fun _ => rfl)
theorem zg_64_20 (I A : Nat → Nat → Int32) (b : Value) : pm_gI (zL I A b) 64 8 20 = some (I 64 20) := z_gI (by decide) rfl rfl
theorem zp_64_20 (I A : Nat → Nat → Int32) (b : Value) (x : Int32) : pm_pf (zL I A b) 64 8 20 (.int x) = some (zL (zuI I 64 20 x) A b) := z_pf (by decide) rfl (Nat.le_of_ble_eq_true rfl) rfl (fun j hj => by simp [zuI, hj]) (fun _ => rfl)
theorem zg_64_21 (I A : Nat → Nat → Int32) (b : Value) : pm_gI (zL I A b) 64 8 21 = some (I 64 21) := z_gI (by decide) rfl rfl
theorem zp_64_21 (I A : Nat → Nat → Int32) (b : Value) (x : Int32) : pm_pf (zL I A b) 64 8 21 (.int x) = some (zL (zuI I 64 21 x) A b) := z_pf (by decide) rfl (Nat.le_of_ble_eq_true rfl) rfl (fun j hj => by simp [zuI, hj]) (fun _ => rfl)
theorem zg_64_22 (I A : Nat → Nat → Int32) (b : Value) : pm_gI (zL I A b) 64 8 22 = some (I 64 22) := z_gI (by decide) rfl rfl
theorem zp_64_22 (I A : Nat → Nat → Int32) (b : Value) (x : Int32) : pm_pf (zL I A b) 64 8 22 (.int x) = some (zL (zuI I 64 22 x) A b) := z_pf (by decide) rfl (Nat.le_of_ble_eq_true rfl) rfl (fun j hj => by simp [zuI, hj]) (fun _ => rfl)
theorem zg_64_23 (I A : Nat → Nat → Int32) (b : Value) : pm_gI (zL I A b) 64 8 23 = some (I 64 23) := z_gI (by decide) rfl rfl
theorem zp_64_23 (I A : Nat → Nat → Int32) (b : Value) (x : Int32) : pm_pf (zL I A b) 64 8 23 (.int x) = some (zL (zuI I 64 23 x) A b) := z_pf (by decide) rfl (Nat.le_of_ble_eq_true rfl) rfl (fun j hj => by simp [zuI, hj]) (fun _ => rfl)
theorem zg_64_29 (I A : Nat → Nat → Int32) (b : Value) : pm_gI (zL I A b) 64 8 29 = some (I 64 29) := z_gI (by decide) rfl rfl
theorem zp_64_29 (I A : Nat → Nat → Int32) (b : Value) (x : Int32) : pm_pf (zL I A b) 64 8 29 (.int x) = some (zL (zuI I 64 29 x) A b) := z_pf (by decide) rfl (Nat.le_of_ble_eq_true rfl) rfl (fun j hj => by simp [zuI, hj]) (fun _ => rfl)
theorem zr_64_2 (I A : Nat → Nat → Int32) (b : Value) : pm_gR (zL I A b) 64 8 2 = some 65 := z_gR (by decide) rfl rfl
theorem zr_64_3 (I A : Nat → Nat → Int32) (b : Value) : pm_gR (zL I A b) 64 8 3 = some 66 := z_gR (by decide) rfl rfl
theorem zr_64_4 (I A : Nat → Nat → Int32) (b : Value) : pm_gR (zL I A b) 64 8 4 = some 67 := z_gR (by decide) rfl rfl
theorem zr_64_5 (I A : Nat → Nat → Int32) (b : Value) : pm_gR (zL I A b) 64 8 5 = some 68 := z_gR (by decide) rfl rfl
theorem zr_64_6 (I A : Nat → Nat → Int32) (b : Value) : pm_gR (zL I A b) 64 8 6 = some 69 := z_gR (by decide) rfl rfl
theorem zr_64_7 (I A : Nat → Nat → Int32) (b : Value) : pm_gR (zL I A b) 64 8 7 = some 70 := z_gR (by decide) rfl rfl
theorem zr_64_8 (I A : Nat → Nat → Int32) (b : Value) : pm_gR (zL I A b) 64 8 8 = some 71 := z_gR (by decide) rfl rfl
theorem zr_64_10 (I A : Nat → Nat → Int32) (b : Value) : pm_gR (zL I A b) 64 8 10 = some 72 := z_gR (by decide) rfl rfl
theorem zr_64_19 (I A : Nat → Nat → Int32) (b : Value) : pm_gR (zL I A b) 64 8 19 = some 73 := z_gR (by decide) rfl rfl
theorem zr_64_24 (I A : Nat → Nat → Int32) (b : Value) : pm_gR (zL I A b) 64 8 24 = some 74 := z_gR (by decide) rfl rfl
theorem zr_64_25 (I A : Nat → Nat → Int32) (b : Value) : pm_gR (zL I A b) 64 8 25 = some 75 := z_gR (by decide) rfl rfl
theorem zr_64_26 (I A : Nat → Nat → Int32) (b : Value) : pm_gR (zL I A b) 64 8 26 = some 76 := z_gR (by decide) rfl rfl
theorem zr_64_27 (I A : Nat → Nat → Int32) (b : Value) : pm_gR (zL I A b) 64 8 27 = some 77 := z_gR (by decide) rfl rfl
theorem zr_64_28 (I A : Nat → Nat → Int32) (b : Value) : pm_gR (zL I A b) 64 8 28 = some 78 := z_gR (by decide) rfl rfl
def zSh (o : Nat) : Prop := o = 15 ∨ o = 22 ∨ o = 30 ∨ o = 37
theorem zSo {o : Nat} (h : zSh o) (I A : Nat → Nat → Int32) (b : Value) : ∃ fs, (zL I A b)[o]? = some (.inr (4, fs)) := by
  rcases h with rfl | rfl | rfl | rfl
  · exact zo_15 I A b
  · exact zo_22 I A b
  · exact zo_30 I A b
  · exact zo_37 I A b
theorem zSg0 {o : Nat} (h : zSh o) (I A : Nat → Nat → Int32) (b : Value) : pm_gI (zL I A b) o 4 0 = some (I o 0) := by
  rcases h with rfl | rfl | rfl | rfl
  · exact zg_15_0 I A b
  · exact zg_22_0 I A b
  · exact zg_30_0 I A b
  · exact zg_37_0 I A b
theorem zSp0 {o : Nat} (h : zSh o) (I A : Nat → Nat → Int32) (b : Value) (x : Int32) : pm_pf (zL I A b) o 4 0 (.int x) = some (zL (zuI I o 0 x) A b) := by
  rcases h with rfl | rfl | rfl | rfl
  · exact zp_15_0 I A b x
  · exact zp_22_0 I A b x
  · exact zp_30_0 I A b x
  · exact zp_37_0 I A b x
theorem zSr1 {o : Nat} (h : zSh o) (I A : Nat → Nat → Int32) (b : Value) : pm_gR (zL I A b) o 4 6 = some (o + 1) := by
  rcases h with rfl | rfl | rfl | rfl
  · exact zr_15_6 I A b
  · exact zr_22_6 I A b
  · exact zr_30_6 I A b
  · exact zr_37_6 I A b
theorem zSa1 {o : Nat} (h : zSh o) : zIs (o + 1) 7 := by
  rcases h with rfl | rfl | rfl | rfl
  · exact za_16
  · exact za_23
  · exact za_31
  · exact za_38
theorem zSg1 {o : Nat} (h : zSh o) (I A : Nat → Nat → Int32) (b : Value) : pm_gI (zL I A b) o 4 1 = some (I o 1) := by
  rcases h with rfl | rfl | rfl | rfl
  · exact zg_15_1 I A b
  · exact zg_22_1 I A b
  · exact zg_30_1 I A b
  · exact zg_37_1 I A b
theorem zSp1 {o : Nat} (h : zSh o) (I A : Nat → Nat → Int32) (b : Value) (x : Int32) : pm_pf (zL I A b) o 4 1 (.int x) = some (zL (zuI I o 1 x) A b) := by
  rcases h with rfl | rfl | rfl | rfl
  · exact zp_15_1 I A b x
  · exact zp_22_1 I A b x
  · exact zp_30_1 I A b x
  · exact zp_37_1 I A b x
theorem zSr2 {o : Nat} (h : zSh o) (I A : Nat → Nat → Int32) (b : Value) : pm_gR (zL I A b) o 4 7 = some (o + 2) := by
  rcases h with rfl | rfl | rfl | rfl
  · exact zr_15_7 I A b
  · exact zr_22_7 I A b
  · exact zr_30_7 I A b
  · exact zr_37_7 I A b
theorem zSa2 {o : Nat} (h : zSh o) : zIs (o + 2) 7 := by
  rcases h with rfl | rfl | rfl | rfl
  · exact za_17
  · exact za_24
  · exact za_32
  · exact za_39
theorem zSg2 {o : Nat} (h : zSh o) (I A : Nat → Nat → Int32) (b : Value) : pm_gI (zL I A b) o 4 2 = some (I o 2) := by
  rcases h with rfl | rfl | rfl | rfl
  · exact zg_15_2 I A b
  · exact zg_22_2 I A b
  · exact zg_30_2 I A b
  · exact zg_37_2 I A b
theorem zSp2 {o : Nat} (h : zSh o) (I A : Nat → Nat → Int32) (b : Value) (x : Int32) : pm_pf (zL I A b) o 4 2 (.int x) = some (zL (zuI I o 2 x) A b) := by
  rcases h with rfl | rfl | rfl | rfl
  · exact zp_15_2 I A b x
  · exact zp_22_2 I A b x
  · exact zp_30_2 I A b x
  · exact zp_37_2 I A b x
theorem zSr3 {o : Nat} (h : zSh o) (I A : Nat → Nat → Int32) (b : Value) : pm_gR (zL I A b) o 4 8 = some (o + 3) := by
  rcases h with rfl | rfl | rfl | rfl
  · exact zr_15_8 I A b
  · exact zr_22_8 I A b
  · exact zr_30_8 I A b
  · exact zr_37_8 I A b
theorem zSa3 {o : Nat} (h : zSh o) : zIs (o + 3) 7 := by
  rcases h with rfl | rfl | rfl | rfl
  · exact za_18
  · exact za_25
  · exact za_33
  · exact za_40
theorem zSg3 {o : Nat} (h : zSh o) (I A : Nat → Nat → Int32) (b : Value) : pm_gI (zL I A b) o 4 3 = some (I o 3) := by
  rcases h with rfl | rfl | rfl | rfl
  · exact zg_15_3 I A b
  · exact zg_22_3 I A b
  · exact zg_30_3 I A b
  · exact zg_37_3 I A b
theorem zSp3 {o : Nat} (h : zSh o) (I A : Nat → Nat → Int32) (b : Value) (x : Int32) : pm_pf (zL I A b) o 4 3 (.int x) = some (zL (zuI I o 3 x) A b) := by
  rcases h with rfl | rfl | rfl | rfl
  · exact zp_15_3 I A b x
  · exact zp_22_3 I A b x
  · exact zp_30_3 I A b x
  · exact zp_37_3 I A b x
theorem zSr4 {o : Nat} (h : zSh o) (I A : Nat → Nat → Int32) (b : Value) : pm_gR (zL I A b) o 4 9 = some (o + 4) := by
  rcases h with rfl | rfl | rfl | rfl
  · exact zr_15_9 I A b
  · exact zr_22_9 I A b
  · exact zr_30_9 I A b
  · exact zr_37_9 I A b
theorem zSa4 {o : Nat} (h : zSh o) : zIs (o + 4) 7 := by
  rcases h with rfl | rfl | rfl | rfl
  · exact za_19
  · exact za_26
  · exact za_34
  · exact za_41
theorem zSg4 {o : Nat} (h : zSh o) (I A : Nat → Nat → Int32) (b : Value) : pm_gI (zL I A b) o 4 4 = some (I o 4) := by
  rcases h with rfl | rfl | rfl | rfl
  · exact zg_15_4 I A b
  · exact zg_22_4 I A b
  · exact zg_30_4 I A b
  · exact zg_37_4 I A b
theorem zSp4 {o : Nat} (h : zSh o) (I A : Nat → Nat → Int32) (b : Value) (x : Int32) : pm_pf (zL I A b) o 4 4 (.int x) = some (zL (zuI I o 4 x) A b) := by
  rcases h with rfl | rfl | rfl | rfl
  · exact zp_15_4 I A b x
  · exact zp_22_4 I A b x
  · exact zp_30_4 I A b x
  · exact zp_37_4 I A b x
theorem zSr5 {o : Nat} (h : zSh o) (I A : Nat → Nat → Int32) (b : Value) : pm_gR (zL I A b) o 4 10 = some (o + 5) := by
  rcases h with rfl | rfl | rfl | rfl
  · exact zr_15_10 I A b
  · exact zr_22_10 I A b
  · exact zr_30_10 I A b
  · exact zr_37_10 I A b
theorem zSa5 {o : Nat} (h : zSh o) : zIs (o + 5) 7 := by
  rcases h with rfl | rfl | rfl | rfl
  · exact za_20
  · exact za_27
  · exact za_35
  · exact za_42
theorem zSg5 {o : Nat} (h : zSh o) (I A : Nat → Nat → Int32) (b : Value) : pm_gI (zL I A b) o 4 5 = some (I o 5) := by
  rcases h with rfl | rfl | rfl | rfl
  · exact zg_15_5 I A b
  · exact zg_22_5 I A b
  · exact zg_30_5 I A b
  · exact zg_37_5 I A b
theorem zSp5 {o : Nat} (h : zSh o) (I A : Nat → Nat → Int32) (b : Value) (x : Int32) : pm_pf (zL I A b) o 4 5 (.int x) = some (zL (zuI I o 5 x) A b) := by
  rcases h with rfl | rfl | rfl | rfl
  · exact zp_15_5 I A b x
  · exact zp_22_5 I A b x
  · exact zp_30_5 I A b x
  · exact zp_37_5 I A b x
theorem zSr6 {o : Nat} (h : zSh o) (I A : Nat → Nat → Int32) (b : Value) : pm_gR (zL I A b) o 4 11 = some (o + 6) := by
  rcases h with rfl | rfl | rfl | rfl
  · exact zr_15_11 I A b
  · exact zr_22_11 I A b
  · exact zr_30_11 I A b
  · exact zr_37_11 I A b
theorem zSa6 {o : Nat} (h : zSh o) : zIs (o + 6) 7 := by
  rcases h with rfl | rfl | rfl | rfl
  · exact za_21
  · exact za_28
  · exact za_36
  · exact za_43
-- rows of rows, of SHOPS, of booleans
theorem z_items {I A : Nat → Nat → Int32} {b : Value} {j : Nat} (hj : j < 8) : pm_rdA (zL I A b) 2 (nI j) = some (3 + j) := by
  unfold pm_rdA
  rw [zL_at (by decide)]
  have h3 : ¬ (nI j < 0 ∨ 8 ≤ (nI j).toNatClampNeg) := nI_in hj (by omega)
  show (if (3 = 2 ∨ 3 = 3) ∧ ¬ (nI j < 0 ∨ 8 ≤ (nI j).toNatClampNeg) then (if (nI j).toNatClampNeg < 8 then some (3 + (nI j).toNatClampNeg) else none) else none) = _
  rw [if_pos ⟨Or.inr rfl, h3⟩, nI_clamp (by omega), if_pos hj]
theorem za_row {j : Nat} (hj : j < 8) : zIs (3 + j) 40 := by
  rcases (show j = 0 ∨ j = 1 ∨ j = 2 ∨ j = 3 ∨ j = 4 ∨ j = 5 ∨ j = 6 ∨ j = 7 by omega) with rfl | rfl | rfl | rfl | rfl | rfl | rfl | rfl
  · exact za_3
  · exact za_4
  · exact za_5
  · exact za_6
  · exact za_7
  · exact za_8
  · exact za_9
  · exact za_10
theorem z_img {I A : Nat → Nat → Int32} {b : Value} {j : Nat} (hj : j < 2) : pm_rdA (zL I A b) 29 (nI j) = some (30 + 7 * j) := by
  rcases (show j = 0 ∨ j = 1 by omega) with rfl | rfl <;> rfl
theorem z_rdB {I A : Nat → Nat → Int32} {b : Value} {j : Nat} (hj : j < 2) : pm_rd 1 (zL I A b) 76 (nI j) = some (A 76 j) := by
  rcases (show j = 0 ∨ j = 1 by omega) with rfl | rfl <;> rfl
theorem z_wrB {I A : Nat → Nat → Int32} {b : Value} {j : Nat} {x : Int32} (hj : j < 2) : pm_wr 1 (zL I A b) 76 (nI j) x = some (zL I (zuA A 76 j x) b) := by
  unfold pm_wr
  rw [zL_at (by decide)]
  have h3 : ¬ (nI j < 0 ∨ 2 ≤ (nI j).toNatClampNeg) := nI_in hj (by omega)
  show (if 1 = 1 ∧ ¬ (nI j < 0 ∨ 2 ≤ (nI j).toNatClampNeg) then some ((zL I A b).set 76 (.inl (1, 2, .inl (upd (A 76) (nI j).toNatClampNeg x)))) else none) = _
  rw [if_pos ⟨rfl, h3⟩, nI_clamp (by omega)]
  refine congrArg some ?_
  refine zL_set (I' := I) (A' := zuA A 76 j x) (b' := b) (by decide) ?_ (fun _ _ => rfl) (fun k hk => zuA_o hk) (fun _ => rfl)
  show Sum.inl (1, 2, Sum.inl (zuA A 76 j x 76)) = _
  rw [zuA_s]
-- loops
/-- f k for k = 0, 1 .. n - 1, one behind another -/
def zF {α : Type} (f : Nat → α → α) : Nat → α → α
  | 0, a => a
  | n + 1, a => f n (zF f n a)
theorem zloop {α β : Type} (F : Int32 → α → β) (f : Nat → α → α) (n : Nat) (X : α → β) (hs : ∀ k a, k < n → F (nI k) a = F (nI k + 1) (f k a)) (hx : ∀ a, F (nI n) a = X a) (a : α) : F 0 a = X (zF f n a) := by
  have key : ∀ k, k ≤ n → F 0 a = F (nI k) (zF f k a) := by
    intro k
    induction k with
    | zero => intro _; rw [nI_0]; rfl
    | succ k ih =>
      intro hk
      rw [ih (by omega), hs k _ (by omega), nI_1]
      rfl
  rw [key n (Nat.le_refl _), hx]
/-- the least k < n with P k -/
def zFind (P : Nat → Bool) : Nat → Nat → Option Nat
  | 0, _ => none
  | n + 1, k => if P k then some k else zFind P n (k + 1)
theorem zfind {β : Type} (F : Int32 → β) (P : Nat → Bool) (n : Nat) (R : Nat → β) (E : β) (hs : ∀ k, k < n → P k = false → F (nI k) = F (nI k + 1)) (hf : ∀ k, k < n → P k = true → F (nI k) = R k) (hx : F (nI n) = E) : F 0 = (match zFind P n 0 with
    | some k => R k
    | none => E) := by
  have key : ∀ m k, k + m = n → F (nI k) = (match zFind P m k with
    | some k => R k
    | none => E) := by
    intro m
    induction m with
    | zero => intro k hk; rw [show k = n by omega, hx]; rfl
    | succ m ih =>
      intro k hk
      unfold zFind
      cases hP : P k with
      | true => simp [hf k (by omega) hP]
      | false =>
        simp only [Bool.false_eq_true, if_false]
        rw [hs k (by omega) hP, nI_1]
        exact ih (k + 1) (by omega)
  have := key n 0 (by omega)
  rw [nI_0] at this
  exact this
