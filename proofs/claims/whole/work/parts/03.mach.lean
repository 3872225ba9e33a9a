/-! THE PURE MACHINE: the instructions that this claim uses, over a pure heap; what a run of it answers, the JVM answers (part 06). -/
/-- locals; cells by their places; an answer -/
abbrev pm_L : Type := List (Option Value)
abbrev pm_H : Type := List va_E
abbrev pm_R : Type := Option Value × pm_H
/-- an instruction: itself, its length, a constant, three numbers, a switch's arms -/
abbrev pm_J : Type := Instr × Nat × Int32 × Nat × Nat × Nat × List (Int32 × Nat)
/-- a method: its class, what it returns (0 nothing, 1 int, 2 boolean, 3 long), which locals hold longs, its code -/
abbrev pm_M : Type := Nat × Nat × List Nat × List (Nat × pm_J)
def pm_find {α : Type} : List (Nat × α) → Nat → Option α
  | [], _ => none
  | (a, x) :: t, n => match Nat.beq a n with
    | true => some x
    | false => pm_find t n
def pm_nth {α : Type} : List α → Nat → Option α
  | [], _ => none
  | a :: _, 0 => some a
  | _ :: t, n + 1 => pm_nth t n
def pm_set {α : Type} : List α → Nat → α → List α
  | [], _, _ => []
  | _ :: t, 0, v => v :: t
  | a :: t, n + 1, v => a :: pm_set t n v
def pm_isL : List Nat → Nat → Bool
  | [], _ => false
  | a :: t, n => match Nat.beq a n with
    | true => true
    | false => pm_isL t n
/-- a long stands there -/
def pm_is2 (ls : pm_L) (j : Nat) : Bool := match pm_nth ls j with
  | some (some v) => Nat.beq v.category 2
  | _ => false
/-- a local is written: a long in the place before it is gone -/
def pm_sv (lng : List Nat) (ls : pm_L) (k : Nat) (v : Value) : pm_L := match k with
  | 0 => pm_set ls 0 (some v)
  | j + 1 => match pm_isL lng j with
    | true => match pm_is2 ls j with
      | true => pm_set (pm_set ls j none) (j + 1) (some v)
      | false => pm_set ls (j + 1) (some v)
    | false => pm_set ls (j + 1) (some v)
def pm_ii (f : Int32 → Int32 → Int32) (st : List Value) (k : List Value → Option pm_R) : Option pm_R := match st with
  | .int y :: .int x :: r => k (.int (f x y) :: r)
  | _ => none
def pm_iz (f : Int32 → Int32 → Int32) (st : List Value) (k : List Value → Option pm_R) : Option pm_R := match st with
  | .int y :: .int x :: r => if y = 0 then none else k (.int (f x y) :: r)
  | _ => none
def pm_i1 (f : Int32 → Value) (st : List Value) (k : List Value → Option pm_R) : Option pm_R := match st with
  | .int x :: r => k (f x :: r)
  | _ => none
def pm_l1 (f : Int64 → Value) (st : List Value) (k : List Value → Option pm_R) : Option pm_R := match st with
  | .long x :: r => k (f x :: r)
  | _ => none
def pm_ll (f : Int64 → Int64 → Value) (st : List Value) (k : List Value → Option pm_R) : Option pm_R := match st with
  | .long y :: .long x :: r => k (f x y :: r)
  | _ => none
def pm_lz (f : Int64 → Int64 → Value) (st : List Value) (k : List Value → Option pm_R) : Option pm_R := match st with
  | .long y :: .long x :: r => if y = 0 then none else k (f x y :: r)
  | _ => none
def pm_ldi (ls : pm_L) (i : Nat) (st : List Value) (k : List Value → Option pm_R) : Option pm_R := match pm_nth ls i with
  | some (some (.int x)) => k (.int x :: st)
  | _ => none
def pm_ldl (ls : pm_L) (i : Nat) (st : List Value) (k : List Value → Option pm_R) : Option pm_R := match pm_nth ls i with
  | some (some (.long x)) => k (.long x :: st)
  | _ => none
def pm_lda (ls : pm_L) (i : Nat) (st : List Value) (k : List Value → Option pm_R) : Option pm_R := match pm_nth ls i with
  | some (some (.ref x)) => k (.ref x :: st)
  | some (some (.retAddr x)) => k (.retAddr x :: st)
  | _ => none
def pm_sti (lng : List Nat) (ls : pm_L) (i : Nat) (st : List Value) (k : pm_L → List Value → Option pm_R) : Option pm_R := match st with
  | .int x :: r => k (pm_sv lng ls i (.int x)) r
  | _ => none
def pm_sta (lng : List Nat) (ls : pm_L) (i : Nat) (st : List Value) (k : pm_L → List Value → Option pm_R) : Option pm_R := match st with
  | .ref x :: r => k (pm_sv lng ls i (.ref x)) r
  | .retAddr x :: r => k (pm_sv lng ls i (.retAddr x)) r
  | _ => none
def pm_stl (lng : List Nat) (ls : pm_L) (i : Nat) (st : List Value) (k : pm_L → List Value → Option pm_R) : Option pm_R := match st with
  | .long x :: r => match pm_isL lng i with
    | true => k (pm_set (pm_sv lng ls i (.long x)) (i + 1) none) r
    | false => none
  | _ => none
def pm_inc (lng : List Nat) (ls : pm_L) (i : Nat) (c : Int32) (k : pm_L → Option pm_R) : Option pm_R := match pm_nth ls i with
  | some (some (.int x)) => k (pm_sv lng ls i (.int (x + c)))
  | _ => none
def pm_icmp (cnd : Jvm.ClassFile.Cond) (st : List Value) (kt kf : List Value → Option pm_R) : Option pm_R := match st with
  | .int y :: .int x :: r => match cnd with
    | .eq => if x = y then kt r else kf r
    | .ne => if ¬ x = y then kt r else kf r
    | .lt => if x < y then kt r else kf r
    | .ge => if y ≤ x then kt r else kf r
    | .gt => if y < x then kt r else kf r
    | .le => if x ≤ y then kt r else kf r
  | _ => none
def pm_ifc (cnd : Jvm.ClassFile.Cond) (st : List Value) (kt kf : List Value → Option pm_R) : Option pm_R := match st with
  | .int x :: r => match cnd with
    | .eq => if x = 0 then kt r else kf r
    | .ne => if ¬ x = 0 then kt r else kf r
    | .lt => if x < 0 then kt r else kf r
    | .ge => if 0 ≤ x then kt r else kf r
    | .gt => if 0 < x then kt r else kf r
    | .le => if x ≤ 0 then kt r else kf r
  | _ => none
def pm_arms (x : Int32) (f : Nat → Option pm_R) (d : Option pm_R) : List (Int32 × Nat) → Option pm_R
  | [] => d
  | (v, t) :: l => if x = v then f t else pm_arms x f d l
def pm_sw (sw : List (Int32 × Nat)) (dft : Nat) (st : List Value) (k : Nat → List Value → Option pm_R) : Option pm_R := match st with
  | .int x :: r => pm_arms x (fun t => k t r) (k dft r) sw
  | _ => none
def pm_dup (st : List Value) (k : List Value → Option pm_R) : Option pm_R := match st with
  | v :: r => match Nat.beq v.category 1 with
    | true => k (v :: v :: r)
    | false => none
  | _ => none
def pm_dup2 (st : List Value) (k : List Value → Option pm_R) : Option pm_R := match st with
  | v :: w :: r => match Nat.beq v.category 1, Nat.beq w.category 1 with
    | true, true => k (v :: w :: v :: w :: r)
    | _, _ => none
  | _ => none
-- the heap's reads and writes
def pm_gI (σ : pm_H) (o ci k : Nat) : Option Int32 := match σ[o]? with
  | some (.inr (c, fs)) => if c = ci then match fs[k]? with
    | some (.int x) => some x
    | _ => none else none
  | _ => none
def pm_gR (σ : pm_H) (o ci k : Nat) : Option Nat := match σ[o]? with
  | some (.inr (c, fs)) => if c = ci then match fs[k]? with
    | some (.ref x) => some x
    | _ => none else none
  | _ => none
def pm_pf (σ : pm_H) (o ci k : Nat) (v : Value) : Option pm_H := match σ[o]? with
  | some (.inr (c, fs)) => if c = ci ∧ k < fs.length then some (σ.set o (.inr (c, fs.set k v))) else none
  | _ => none
/-- the ints of a row (kind t: 0 ints, 1 booleans) -/
def pm_rd (t : Nat) (σ : pm_H) (q : Nat) (i : Int32) : Option Int32 := match σ[q]? with
  | some (.inl (c, n, .inl f)) => if c = t ∧ ¬ (i < 0 ∨ n ≤ i.toNatClampNeg) then some (f i.toNatClampNeg) else none
  | _ => none
def pm_wr (t : Nat) (σ : pm_H) (q : Nat) (i x : Int32) : Option pm_H := match σ[q]? with
  | some (.inl (c, n, .inl f)) => if c = t ∧ ¬ (i < 0 ∨ n ≤ i.toNatClampNeg) then some (σ.set q (.inl (c, n, .inl (upd f i.toNatClampNeg x)))) else none
  | _ => none
/-- a row of cells (kind 2: of SHOPS, 3: of rows of ints) -/
def pm_rdA (σ : pm_H) (q : Nat) (i : Int32) : Option Nat := match σ[q]? with
  | some (.inl (c, n, .inr (.inr (.inr (.inr f))))) => if (c = 2 ∨ c = 3) ∧ ¬ (i < 0 ∨ n ≤ i.toNatClampNeg) then f i.toNatClampNeg else none
  | _ => none
def pm_wrA (σ : pm_H) (q : Nat) (i : Int32) (v : Nat) : Option pm_H := match σ[q]?, σ[v]? with
  | some (.inl (c, n, .inr (.inr (.inr (.inr f))))), some (.inr (k, _)) => if c = 2 ∧ k = 4 ∧ ¬ (i < 0 ∨ n ≤ i.toNatClampNeg) then some (σ.set q (.inl (c, n, .inr (.inr (.inr (.inr (va_up f i.toNatClampNeg (some v)))))))) else none
  | _, _ => none
def pm_ln (σ : pm_H) (q : Nat) : Option Int32 := match σ[q]? with
  | some (.inl (c, n, _)) => if c < 4 then some (Int32.ofNat n) else none
  | _ => none
def pm_ro (old : Nat → Option (Nat × (Nat → Int32))) (j : Nat) (i : Int32) : Option Int32 := match old j with
  | some (n, f) => if ¬ (i < 0 ∨ n ≤ i.toNatClampNeg) then some (f i.toNatClampNeg) else none
  | none => none
def pm_lo (old : Nat → Option (Nat × (Nat → Int32))) (j : Nat) : Option Int32 := match old j with
  | some (n, _) => some (Int32.ofNat n)
  | none => none
def pm_cp (σ : pm_H) (p : Nat) (i : Int32) (q : Nat) (j n : Int32) : Option pm_H := match σ[p]?, σ[q]? with
  | some (.inl (c, a, .inl f)), some (.inl (d, b, .inl g)) => if (c = 0 ∧ d = 0) ∧ (¬ i < 0 ∧ ¬ j < 0 ∧ ¬ n < 0) ∧ i.toNatClampNeg + n.toNatClampNeg ≤ a ∧ j.toNatClampNeg + n.toNatClampNeg ≤ b then some (σ.set q (.inl (d, b, .inl (va_cpy f g i.toNatClampNeg j.toNatClampNeg n.toNatClampNeg)))) else none
  | _, _ => none
/-- as many from the stack, the first one first; and the rest -/
def pm_take : Nat → List Value → List Value → Option (List Value × List Value)
  | 0, acc, st => some (acc, st)
  | _ + 1, _, [] => none
  | n + 1, acc, v :: st => pm_take n (v :: acc) st
-- what a call brings
def pm_cV (r : Option pm_R) : Option pm_H := match r with
  | some (none, σ) => some σ
  | _ => none
def pm_cI (r : Option pm_R) : Option (Int32 × pm_H) := match r with
  | some (some (.int x), σ) => some (x, σ)
  | _ => none
def pm_cJ (r : Option pm_R) : Option (Int64 × pm_H) := match r with
  | some (some (.long x), σ) => some (x, σ)
  | _ => none
/-- the fields of a new object of a class: what they hold at first -/
def pm_new : Nat → Option (List Value)
  | 0 => some [.null, .null, .null, .null, .int 0, .int 0]
  | 1 => some [.null, .int 0, .int 0, .int 0, .int 0, .int 0, .int 0]
  | 2 => some [.null, .null, .int 0]
  | 3 => some [.null, .null, .null]
  | 4 => some [.int 0, .int 0, .int 0, .int 0, .int 0, .int 0, .null, .null, .null, .null, .null, .null]
  | 5 => some [.null, .int 0, .int 0, .int 0]
  | 6 => some [.null, .null, .null, .null, .null, .null, .null, .null, .null, .int 0, .int 0, .int 0, .int 0, .int 0, .int 0, .int 0, .int 0]
  | 7 => some [.null, .null, .null, .null, .null, .null, .null, .null, .null, .int 0, .int 0]
  | 8 => some [.int 0, .int 0, .null, .null, .null, .null, .null, .null, .null, .int 0, .null, .int 0, .int 0, .int 0, .int 0, .int 0, .int 0, .int 0, .int 0, .null, .int 0, .int 0, .int 0, .int 0, .null, .null, .null, .null, .null, .int 0]
  | _ => none
def pm_call3 (d : Nat) (r : Option pm_R) (k : List Value → pm_H → Option pm_R) (rest : List Value) : Option pm_R := match d with
  | 0 => (pm_cV r).bind fun σ => k rest σ
  | 1 => (pm_cI r).bind fun z => k (.int z.1 :: rest) z.2
  | _ => (pm_cJ r).bind fun z => k (.long z.1 :: rest) z.2
/-- how wide what lies on a stack is -/
def pm_cw : List Value → Nat
  | [] => 0
  | .int _ :: t => pm_cw t + 1
  | .ref _ :: t => pm_cw t + 1
  | .retAddr _ :: t => pm_cw t + 1
  | _ :: t => pm_cw t + 2
/-- a call: a the method, b how many from the stack, d: 0, 1, 2 what it returns (nothing, an int, a long), 3 Object's constructor, 4 arraycopy, 5 max, 6 min -/
def pm_inv (call : Nat → List Value → pm_H → Option pm_R) (a b d : Nat) (st : List Value) (σ : pm_H) (k : List Value → pm_H → Option pm_R) : Option pm_R := match d with
  | 3 => match st with
    | .ref _ :: r => match Nat.ble r.length 4 with
      | true => k r σ
      | false => none
    | _ => none
  | 4 => match st with
    | [.int n, .int j, .ref q, .int i, .ref p] => (pm_cp σ p i q j n).bind fun σ' => k [] σ'
    | _ => none
  | 5 => match st with
    | .int y :: .int x :: r => match Nat.ble r.length 4 with
      | true => k (.int (if x < y then y else x) :: r) σ
      | false => none
    | _ => none
  | 6 => match st with
    | .int y :: .int x :: r => match Nat.ble r.length 4 with
      | true => k (.int (if y < x then y else x) :: r) σ
      | false => none
    | _ => none
  | d => match pm_take b [] st with
    | some (av, r) => match Nat.ble (pm_cw r) 8 with
      | true => pm_call3 d (call a av σ) k r
      | false => none
    | none => none
def pm_getf (a b d : Nat) (st : List Value) (σ : pm_H) (k : List Value → Option pm_R) : Option pm_R := match st with
  | .ref o :: r => match d with
    | 0 => (pm_gI σ o a b).bind fun x => k (.int x :: r)
    | _ => (pm_gR σ o a b).bind fun x => k (.ref x :: r)
  | _ => none
def pm_putf (a b d : Nat) (st : List Value) (σ : pm_H) (k : List Value → pm_H → Option pm_R) : Option pm_R := match d, st with
  | 0, .int x :: .ref o :: r => (pm_pf σ o a b (.int x)).bind fun σ' => k r σ'
  | 1, .ref x :: .ref o :: r => (pm_pf σ o a b (.ref x)).bind fun σ' => k r σ'
  | _, _ => none
def pm_iald (old : Nat → Option (Nat × (Nat → Int32))) (st : List Value) (σ : pm_H) (k : List Value → Option pm_R) : Option pm_R := match st with
  | .int i :: .ref q :: r => (pm_rd 0 σ q i).bind fun x => k (.int x :: r)
  | .int i :: .retAddr j :: r => (pm_ro old j i).bind fun x => k (.int x :: r)
  | _ => none
def pm_iast (st : List Value) (σ : pm_H) (k : List Value → pm_H → Option pm_R) : Option pm_R := match st with
  | .int x :: .int i :: .ref q :: r => (pm_wr 0 σ q i x).bind fun σ' => k r σ'
  | _ => none
def pm_zald (st : List Value) (σ : pm_H) (k : List Value → Option pm_R) : Option pm_R := match st with
  | .int i :: .ref q :: r => (pm_rd 1 σ q i).bind fun x => k (.int x :: r)
  | _ => none
def pm_zast (st : List Value) (σ : pm_H) (k : List Value → pm_H → Option pm_R) : Option pm_R := match st with
  | .int x :: .int i :: .ref q :: r => (pm_wr 1 σ q i (vp_nar .boolean x)).bind fun σ' => k r σ'
  | _ => none
def pm_aald (st : List Value) (σ : pm_H) (k : List Value → Option pm_R) : Option pm_R := match st with
  | .int i :: .ref q :: r => (pm_rdA σ q i).bind fun x => k (.ref x :: r)
  | _ => none
def pm_aast (st : List Value) (σ : pm_H) (k : List Value → pm_H → Option pm_R) : Option pm_R := match st with
  | .ref x :: .int i :: .ref q :: r => (pm_wrA σ q i x).bind fun σ' => k r σ'
  | _ => none
def pm_alen (old : Nat → Option (Nat × (Nat → Int32))) (st : List Value) (σ : pm_H) (k : List Value → Option pm_R) : Option pm_R := match st with
  | .ref q :: r => (pm_ln σ q).bind fun x => k (.int x :: r)
  | .retAddr j :: r => (pm_lo old j).bind fun x => k (.int x :: r)
  | _ => none
/-- new rows: a the kind (0 ints, 1 booleans, 2 of SHOPS) -/
def pm_newa (a : Nat) (st : List Value) (σ : pm_H) (k : List Value → pm_H → Option pm_R) : Option pm_R := match st with
  | .int n :: r => if ¬ n < 0 ∧ n ≤ 2000 then k (.ref σ.length :: r) (σ ++ [.inl (a, n.toNatClampNeg, match a with
    | 2 => .inr (.inr (.inr (.inr fun _ => none)))
    | _ => .inl fun _ => 0)]) else none
  | _ => none
/-- rows of rows of ints -/
def pm_newm (st : List Value) (σ : pm_H) (k : List Value → pm_H → Option pm_R) : Option pm_R := match st with
  | .int m :: .int n :: r => if (¬ n < 0 ∧ n ≤ 2000) ∧ (¬ m < 0 ∧ m ≤ 2000) then k (.ref σ.length :: r) ((σ ++ [.inl (3, n.toNatClampNeg, .inr (.inr (.inr (.inr fun i => if i < n.toNatClampNeg then some (σ.length + 1 + i) else none))))]) ++ List.replicate n.toNatClampNeg (.inl (0, m.toNatClampNeg, .inl fun _ => 0))) else none
  | _ => none
def pm_newo (a : Nat) (st : List Value) (σ : pm_H) (k : List Value → pm_H → Option pm_R) : Option pm_R := match pm_new a with
  | some fs => k (.ref σ.length :: st) (σ ++ [.inr (a, fs)])
  | none => none
def pm_ret (kind : Nat) (st : List Value) (σ : pm_H) : Option pm_R := match kind, st with
  | 1, [.int x] => some (some (.int x), σ)
  | 2, [.int x] => if x = 0 then some (some (.int 0), σ) else if x = 1 then some (some (.int 1), σ) else none
  | _, _ => none
/-- one instruction, and what goes on behind it -/
def pm_px (call : Nat → List Value → pm_H → Option pm_R) (old : Nat → Option (Nat × (Nat → Int32))) (K : Nat → pm_L → List Value → pm_H → Option pm_R) (M : pm_M) (pc : Nat) (ls : pm_L) (st : List Value) (σ : pm_H) : Option pm_R :=
  match pm_find M.2.2.2 pc with
  | none => none
  | some (i, n, c, a, b, d, sw) => match i with
    | .iconst _ => K (pc + n) ls (.int c :: st) σ
    | .bipush _ => K (pc + n) ls (.int c :: st) σ
    | .sipush _ => K (pc + n) ls (.int c :: st) σ
    | .ldc _ => K (pc + n) ls (.int c :: st) σ
    | .ldc_w _ => K (pc + n) ls (.int c :: st) σ
    | .ldc2_w _ => K (pc + n) ls (.long c.toInt64 :: st) σ
    | .lconst _ => K (pc + n) ls (.long c.toInt64 :: st) σ
    | .iload k => pm_ldi ls k st fun s => K (pc + n) ls s σ
    | .iload_n k => pm_ldi ls k.val st fun s => K (pc + n) ls s σ
    | .lload k => pm_ldl ls k st fun s => K (pc + n) ls s σ
    | .lload_n k => pm_ldl ls k.val st fun s => K (pc + n) ls s σ
    | .aload k => pm_lda ls k st fun s => K (pc + n) ls s σ
    | .aload_n k => pm_lda ls k.val st fun s => K (pc + n) ls s σ
    | .istore k => pm_sti M.2.2.1 ls k st fun l s => K (pc + n) l s σ
    | .istore_n k => pm_sti M.2.2.1 ls k.val st fun l s => K (pc + n) l s σ
    | .lstore k => pm_stl M.2.2.1 ls k st fun l s => K (pc + n) l s σ
    | .lstore_n k => pm_stl M.2.2.1 ls k.val st fun l s => K (pc + n) l s σ
    | .astore k => pm_sta M.2.2.1 ls k st fun l s => K (pc + n) l s σ
    | .astore_n k => pm_sta M.2.2.1 ls k.val st fun l s => K (pc + n) l s σ
    | .iinc k _ => pm_inc M.2.2.1 ls k c fun l => K (pc + n) l st σ
    | .iadd => pm_ii (fun x y => x + y) st fun s => K (pc + n) ls s σ
    | .isub => pm_ii (fun x y => x - y) st fun s => K (pc + n) ls s σ
    | .imul => pm_ii (fun x y => x * y) st fun s => K (pc + n) ls s σ
    | .iand => pm_ii (fun x y => x &&& y) st fun s => K (pc + n) ls s σ
    | .ior => pm_ii (fun x y => x ||| y) st fun s => K (pc + n) ls s σ
    | .ixor => pm_ii (fun x y => x ^^^ y) st fun s => K (pc + n) ls s σ
    | .ishl => pm_ii (fun x y => x <<< (y &&& 31)) st fun s => K (pc + n) ls s σ
    | .ishr => pm_ii (fun x y => x >>> (y &&& 31)) st fun s => K (pc + n) ls s σ
    | .iushr => pm_ii (fun x y => (x.toUInt32 >>> (y.toUInt32 &&& Int32.toUInt32 31)).toInt32) st fun s => K (pc + n) ls s σ
    | .idiv => pm_iz (fun x y => x / y) st fun s => K (pc + n) ls s σ
    | .irem => pm_iz (fun x y => x - x / y * y) st fun s => K (pc + n) ls s σ
    | .ineg => pm_i1 (fun x => .int (-x)) st fun s => K (pc + n) ls s σ
    | .i2l => pm_i1 (fun x => .long x.toInt64) st fun s => K (pc + n) ls s σ
    | .i2b => pm_i1 (fun x => .int x.toInt8.toInt32) st fun s => K (pc + n) ls s σ
    | .i2s => pm_i1 (fun x => .int x.toInt16.toInt32) st fun s => K (pc + n) ls s σ
    | .l2i => pm_l1 (fun x => .int x.toInt32) st fun s => K (pc + n) ls s σ
    | .ladd => pm_ll (fun x y => .long (x + y)) st fun s => K (pc + n) ls s σ
    | .lsub => pm_ll (fun x y => .long (x - y)) st fun s => K (pc + n) ls s σ
    | .lmul => pm_ll (fun x y => .long (x * y)) st fun s => K (pc + n) ls s σ
    | .lcmp => pm_ll (fun x y => .int (lg_cmp x y)) st fun s => K (pc + n) ls s σ
    | .ldiv => pm_lz (fun x y => .long (x / y)) st fun s => K (pc + n) ls s σ
    | .lrem => pm_lz (fun x y => .long (x - x / y * y)) st fun s => K (pc + n) ls s σ
    | .goto _ => K a ls st σ
    | .if_icmp cnd _ => pm_icmp cnd st (fun s => K a ls s σ) fun s => K (pc + n) ls s σ
    | .ifCond cnd _ => pm_ifc cnd st (fun s => K a ls s σ) fun s => K (pc + n) ls s σ
    | .tableswitch _ _ _ _ => pm_sw sw a st fun t s => K t ls s σ
    | .lookupswitch _ _ => pm_sw sw a st fun t s => K t ls s σ
    | .dup => pm_dup st fun s => K (pc + n) ls s σ
    | .dup2 => pm_dup2 st fun s => K (pc + n) ls s σ
    | .getfield _ => pm_getf a b d st σ fun s => K (pc + n) ls s σ
    | .putfield _ => pm_putf a b d st σ fun s z => K (pc + n) ls s z
    | .getstatic _ => K (pc + n) ls (.retAddr a :: st) σ
    | .iaload => pm_iald old st σ fun s => K (pc + n) ls s σ
    | .iastore => pm_iast st σ fun s z => K (pc + n) ls s z
    | .baload => pm_zald st σ fun s => K (pc + n) ls s σ
    | .bastore => pm_zast st σ fun s z => K (pc + n) ls s z
    | .aaload => pm_aald st σ fun s => K (pc + n) ls s σ
    | .aastore => pm_aast st σ fun s z => K (pc + n) ls s z
    | .arraylength => pm_alen old st σ fun s => K (pc + n) ls s σ
    | .newarray _ => pm_newa a st σ fun s z => K (pc + n) ls s z
    | .anewarray _ => pm_newa 2 st σ fun s z => K (pc + n) ls s z
    | .multianewarray _ _ => pm_newm st σ fun s z => K (pc + n) ls s z
    | .new _ => pm_newo a st σ fun s z => K (pc + n) ls s z
    | .invokestatic _ => pm_inv call a b d st σ fun s z => K (pc + n) ls s z
    | .invokevirtual _ => pm_inv call a b d st σ fun s z => K (pc + n) ls s z
    | .invokespecial _ => pm_inv call a b d st σ fun s z => K (pc + n) ls s z
    | .ireturn => pm_ret M.2.1 st σ
    | .lreturn => match st with
      | [.long x] => some (some (.long x), σ)
      | _ => none
    | .return_ => match st with
      | [] => some (none, σ)
      | _ => none
    | _ => none
def pm_run (call : Nat → List Value → pm_H → Option pm_R) (old : Nat → Option (Nat × (Nat → Int32))) (M : pm_M) : Nat → Nat → pm_L → List Value → pm_H → Option pm_R
  | 0, _, _, _, _ => none
  | n + 1, pc, ls, st, σ => pm_px call old (pm_run call old M n) M pc ls st σ
