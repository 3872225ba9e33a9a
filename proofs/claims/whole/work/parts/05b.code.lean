/-- the arms of a switch -/
def pm_swok (pc : Nat) : Int → List Int → List (Int32 × Nat) → Bool
  | _, [], [] => true
  | lo, o :: os, (v, t) :: l => decide (v.toInt = lo) && decide ((pc : Int) + o = (t : Int)) && pm_swok pc (lo + 1) os l
  | _, _, _ => false
def pm_lkok (pc : Nat) : List (Int × Int) → List (Int32 × Nat) → Bool
  | [], [] => true
  | (x, o) :: os, (v, t) :: l => decide (v.toInt = x) && decide ((pc : Int) + o = (t : Int)) && pm_lkok pc os l
  | _, _ => false
def pm_rk : Option FieldType → Nat
  | none => 0
  | some .int => 1
  | some .boolean => 2
  | some .long => 3
  | _ => 9
/-- what a call brings, by what the method returns -/
def pm_rd3 : Option FieldType → Nat
  | none => 0
  | some .int => 1
  | some .boolean => 1
  | some .long => 2
  | _ => 9
/-- a call of a method of the table: of such a kind, so many values, such an answer -/
def pm_okM (own idx a b d kd : Nat) : Bool := match pm_find (pm_ml own) idx, pm_mt[a]? with
  | some (mid, nest, _), some m => decide (mid = a) && decide (m.2.2.2.2.1 = kd) && decide (m.2.2.2.2.2.1 = b) && decide (pm_rd3 m.2.2.2.1 = d) && decide (d ≤ 2) && (decide (kd = 2) || decide (nest = false))
  | _, _ => false
def pm_okF (own idx a b d : Nat) : Bool := match pm_find (pm_fl own) idx with
  | some (ci, k, _, isr, _, _) => decide (ci = a) && decide (k = b) && decide (isr = d)
  | none => false
def pm_okP (own idx : Nat) (ini : Bool) : Bool := match pm_find (pm_fl own) idx with
  | some (ci, _, nest, _, fin, _) => !fin || (ini && decide (ci = own) && !nest)
  | none => false
def pm_okI (own : Nat) (ini : Bool) (maxL pc : Nat) (j : pm_J) : Bool := match j with
  | (i, n, c, a, b, d, sw) => match i with
    | .iconst v => decide (n = 1) && decide (Int32.ofInt v = c)
    | .bipush v => decide (n = 2) && decide ((Int8.ofInt v).toInt32 = c)
    | .sipush v => decide (n = 3) && decide ((Int16.ofInt v).toInt32 = c)
    | .ldc idx => decide (n = 2) && (match pm_find (pm_ct own) idx with
      | some z => decide (z.1 = c)
      | none => false)
    | .ldc_w idx => decide (n = 3) && (match pm_find (pm_ct own) idx with
      | some z => decide (z.1 = c)
      | none => false)
    | .ldc2_w idx => decide (n = 3) && (match pm_find (pm_lt own) idx with
      | some z => decide (z.1 = c)
      | none => false)
    | .lconst v => decide (n = 1) && decide (Int64.ofNat v.val = c.toInt64)
    | .iload _ => decide (n = 2)
    | .iload_n _ => decide (n = 1)
    | .lload _ => decide (n = 2)
    | .lload_n _ => decide (n = 1)
    | .aload _ => decide (n = 2)
    | .aload_n _ => decide (n = 1)
    | .istore k => decide (n = 2) && decide (k < maxL)
    | .istore_n k => decide (n = 1) && decide (k.val < maxL)
    | .lstore k => decide (n = 2) && decide (k + 1 < maxL)
    | .lstore_n k => decide (n = 1) && decide (k.val + 1 < maxL)
    | .astore k => decide (n = 2) && decide (k < maxL)
    | .astore_n k => decide (n = 1) && decide (k.val < maxL)
    | .iinc k v => decide (n = 3) && decide (k < maxL) && decide (Int32.ofInt v = c)
    | .goto o => decide ((pc : Int) + o = (a : Int)) && decide (n = 3)
    | .if_icmp _ o => decide (n = 3) && decide ((pc : Int) + o = (a : Int))
    | .ifCond _ o => decide (n = 3) && decide ((pc : Int) + o = (a : Int))
    | .tableswitch dft lo hi offs => decide ((pc : Int) + dft = (a : Int)) && decide (hi + 1 = lo + (offs.toList.length : Int)) && pm_swok pc lo offs.toList sw
    | .lookupswitch dft ps => decide ((pc : Int) + dft = (a : Int)) && (ps.toList.zip (ps.toList.drop 1)).all (fun (a, next) => a.1 < next.1) && pm_lkok pc ps.toList sw
    | .getfield idx => decide (n = 3) && pm_okF own idx a b d
    | .putfield idx => decide (n = 3) && pm_okF own idx a b d && pm_okP own idx ini
    | .getstatic idx => decide (n = 3) && (match pm_find (pm_sl own) idx with
      | some z => decide (z.1 = a)
      | none => false)
    | .newarray t => decide (n = 2) && (match t with
      | .int => decide (a = 0)
      | .boolean => decide (a = 1)
      | _ => false)
    | .anewarray idx => decide (n = 3) && (match pm_find (pm_nl own) idx with
      | some z => decide (z.1 = 4)
      | none => false)
    | .multianewarray idx dm => decide (n = 4) && decide (dm = 2) && decide (own = 3) && decide (idx = 11)
    | .new idx => decide (n = 3) && (match pm_find (pm_nl own) idx with
      | some z => decide (z.1 = a)
      | none => false)
    | .invokestatic idx => decide (n = 3) && (match d with
      | 4 => (pm_find (pm_al own) idx).isSome
      | 5 => (pm_find (pm_xl own) idx).isSome
      | 6 => (pm_find (pm_yl own) idx).isSome
      | d => pm_okM own idx a b d 0)
    | .invokevirtual idx => decide (n = 3) && pm_okM own idx a b d 1
    | .invokespecial idx => decide (n = 3) && (match d with
      | 3 => (pm_find (pm_ol own) idx).isSome
      | d => pm_okM own idx a b d 2)
    | _ => decide (n = 1)
def pm_codeW (m : pm_T) (M : pm_M) : Bool := decide (M.1 = m.2.2.2.2.2.2.1) && decide (M.2.1 = pm_rk m.2.2.2.1) && M.2.2.2.all (fun e => decide (decode m.2.1 e.1 = .ok (e.2.1, e.2.2.1)) && pm_okI m.2.2.2.2.2.2.1 (decide (m.2.2.2.2.1 = 2)) m.2.2.1 e.1 e.2)
def pm_ms0 : List pm_M := [K_Eggs_init, K_Rows_init, K_Tape_init, K_Shop_init, K_Acts_init, K_Ways_init, K_BeltOrder_init, K_Asks_init, K_Eggs_row, K_Rows_isRow, K_Rows_isLane, K_Eggs_found, K_Rows_make, K_Eggs_fine, K_Eggs_set, K_Rows_findingAt, K_Rows_isMissing, K_Rows_reaches, K_Rows_put, K_Eggs_copy, K_Rows_areOfOneLane, K_Rows_carry, K_Eggs_drop, K_Rows_lose, K_Eggs_feed, K_Tape_append, K_Eggs_shop, K_Tape_read, K_Tape_readLaw, K_Tape_readSign, K_Tape_readNumber, K_Shop_open]
def pm_ms1 : List pm_M := [K_Tape_readThing, K_Tape_readSort, K_Kinds_byLetter, K_Shop_add, K_Shop_layAllOnBelt, K_Shop_become, K_Acts_forget, K_Eggs_fault, K_Eggs_undo, K_Acts_takeBack, K_Shop_swapFirstTwo, K_Shop_countAt, K_Shop_bitsAt, K_Integer_bitCount, K_Shop_thingAt, K_Shop_put, K_Eggs_beeps, K_Shop_stands, K_Shop_topOf, K_Acts_keep, K_Shop_beepOnce, K_Eggs_pack, K_Shop_hasBag, K_Eggs_moveTop, K_Eggs_move, K_Shop_lay, K_Shop_overladenBits, K_Shop_loadOn, K_Shop_bitsAbove, K_Kinds_press, K_Shop_bearsOf, K_Kinds_bears]
def pm_ms2 : List pm_M := [K_Eggs_layBy, K_Eggs_putIn, K_Shop_hasThing, K_Eggs_takeOut, K_Eggs_swap, K_Eggs_thing, K_Shop_pressOf, K_Shop_isCrushed, K_Shop_isWarm, K_Eggs_bag, K_Shop_weighs, K_Shop_isTorn, K_Eggs_stand, K_Shop_warmBits, K_Eggs_least, K_Ways_seekLeast, K_Ways_begin, K_Ways_queueFromTop, K_Ways_enqueue, K_Ways_queueLaidBy, K_Ways_packAllBut, K_Shop_heaviest, K_Ways_goOn, K_Ways_isBetter, K_Ways_keep, K_Ways_bagsToTry, K_Ways_lay, K_Ways_lift, K_Ways_bagFor, K_Eggs_torn, K_Ways_seekTorn, K_Ways_fewestTorn]
def pm_ms3 : List pm_M := [K_Ways_tornNow, K_Eggs_give, K_Ways_seekGive, K_Ways_tryWithout, K_Eggs_order, K_BeltOrder_seek, K_BeltOrder_weigh, K_BeltOrder_fewestFrom, K_BeltOrder_crushedBy, K_BeltOrder_thingAt, K_BeltOrder_firstOf, K_Eggs_top, K_Shop_harmlessOn, K_Shop_leastSpareAt, K_Eggs_spare, K_Eggs_beside, K_Shop_bitsBelow, K_Eggs_even, K_Shop_lightest, K_Eggs_astray, K_Clues_missing, K_Clues_isWeighed, K_Eggs_heavy, K_Clues_weights, K_Eggs_who, K_Clues_softs, K_Clues_isBroken, K_Clues_kinds, K_Eggs_colds, K_Shop_coldPairs, K_Shop_isColdPair, K_Shop_firstColdPair]
def pm_ms4 : List pm_M := [K_Eggs_tears, K_Odds_part, K_Odds_casesOf, K_Odds_comeHome, K_Odds_casesIn, K_Odds_tearingCases, K_Odds_allCases, K_Eggs_drawn, K_Shop_goTrip, K_Shop_weighsInAll, K_Eggs_image, K_Eggs_restore, K_Eggs_kind, K_Eggs_as, K_Kinds_isA, K_Eggs_ask, K_Asks_answer, K_Asks_gives, K_Asks_leave, K_Eggs_trace, K_Asks_traced, K_Eggs_count, K_Rows_present, K_Eggs_status, K_Model_init, K_Model_row, K_Model_isRow, K_Model_in, K_Model_finding, K_Model_set, K_Model_copy, K_Model_drop]
def pm_ms5 : List pm_M := [K_Model_feed, K_Model_fault, K_Model_shop, K_Model_begin, K_Model_nextToken, K_Model_isLetter, K_Model_must, K_Model_bad, K_Model_number, K_Model_mustSign, K_Model_isSort, K_Model_kindBy, K_Model_readThing, K_Model_failed, K_Model_beeps, K_Model_isThere, K_Model_keep, K_Model_beep, K_Model_firstOf, K_Model_of, K_Model_comes, K_Model_things, K_Model_bits, K_Model_pack, K_Model_isBag, K_Model_topOf, K_Model_packs, K_Model_crush, K_Model_loadOf, K_Model_isAbove, K_Model_presses, K_Model_bears]
def pm_ms6 : List pm_M := [K_Model_layBy, K_Model_putIn, K_Model_isThing, K_Model_takeOut, K_Model_swap, K_Model_undo, K_Model_thing, K_Model_isWarm, K_Model_bag, K_Model_weighs, K_Model_isTorn, K_Model_stand, K_Model_broken, K_Model_least, K_Model_seekLeast, K_Model_lineUp, K_Model_waysOf, K_Model_layWay, K_Model_layThen, K_Model_bagBy, K_Model_heaviest, K_Model_torn, K_Model_give, K_Model_order, K_Model_nextRow, K_Model_top, K_Model_spare, K_Model_beside, K_Model_even, K_Model_astray, K_Model_rowFound, K_Model_weighSo]
def pm_ms7 : List pm_M := [K_Model_heavy, K_Model_who, K_Model_brokenSo, K_Model_colds, K_Model_tears, K_Model_drawn, K_Model_allWeigh, K_Model_image, K_Model_restore, K_Model_kind, K_Model_as, K_Model_isOf, K_Model_ask, K_Model_sizeOf, K_Model_softSize, K_Model_began, K_Model_plainSize, K_Model_markOf, K_Model_trace, K_Model_count, K_Model_status]
def pm_ms : List pm_M := pm_ms0 ++ pm_ms1 ++ pm_ms2 ++ pm_ms3 ++ pm_ms4 ++ pm_ms5 ++ pm_ms6 ++ pm_ms7
theorem pm_cw0_0 : ((pm_mt0.drop 0).take 8 |>.zip ((pm_ms0.drop 0).take 8)).all (fun z => pm_codeW z.1 z.2) = true := by decide +kernel
theorem pm_cw0_1 : ((pm_mt0.drop 8).take 8 |>.zip ((pm_ms0.drop 8).take 8)).all (fun z => pm_codeW z.1 z.2) = true := by decide +kernel
theorem pm_cw0_2 : ((pm_mt0.drop 16).take 8 |>.zip ((pm_ms0.drop 16).take 8)).all (fun z => pm_codeW z.1 z.2) = true := by decide +kernel
theorem pm_cw0_3 : ((pm_mt0.drop 24).take 8 |>.zip ((pm_ms0.drop 24).take 8)).all (fun z => pm_codeW z.1 z.2) = true := by decide +kernel
theorem pm_cw1_0 : ((pm_mt1.drop 0).take 8 |>.zip ((pm_ms1.drop 0).take 8)).all (fun z => pm_codeW z.1 z.2) = true := by decide +kernel
theorem pm_cw1_1 : ((pm_mt1.drop 8).take 8 |>.zip ((pm_ms1.drop 8).take 8)).all (fun z => pm_codeW z.1 z.2) = true := by decide +kernel
theorem pm_cw1_2 : ((pm_mt1.drop 16).take 8 |>.zip ((pm_ms1.drop 16).take 8)).all (fun z => pm_codeW z.1 z.2) = true := by decide +kernel
theorem pm_cw1_3 : ((pm_mt1.drop 24).take 8 |>.zip ((pm_ms1.drop 24).take 8)).all (fun z => pm_codeW z.1 z.2) = true := by decide +kernel
theorem pm_cw2_0 : ((pm_mt2.drop 0).take 8 |>.zip ((pm_ms2.drop 0).take 8)).all (fun z => pm_codeW z.1 z.2) = true := by decide +kernel
theorem pm_cw2_1 : ((pm_mt2.drop 8).take 8 |>.zip ((pm_ms2.drop 8).take 8)).all (fun z => pm_codeW z.1 z.2) = true := by decide +kernel
theorem pm_cw2_2 : ((pm_mt2.drop 16).take 8 |>.zip ((pm_ms2.drop 16).take 8)).all (fun z => pm_codeW z.1 z.2) = true := by decide +kernel
theorem pm_cw2_3 : ((pm_mt2.drop 24).take 8 |>.zip ((pm_ms2.drop 24).take 8)).all (fun z => pm_codeW z.1 z.2) = true := by decide +kernel
theorem pm_cw3_0 : ((pm_mt3.drop 0).take 8 |>.zip ((pm_ms3.drop 0).take 8)).all (fun z => pm_codeW z.1 z.2) = true := by decide +kernel
theorem pm_cw3_1 : ((pm_mt3.drop 8).take 8 |>.zip ((pm_ms3.drop 8).take 8)).all (fun z => pm_codeW z.1 z.2) = true := by decide +kernel
theorem pm_cw3_2 : ((pm_mt3.drop 16).take 8 |>.zip ((pm_ms3.drop 16).take 8)).all (fun z => pm_codeW z.1 z.2) = true := by decide +kernel
theorem pm_cw3_3 : ((pm_mt3.drop 24).take 8 |>.zip ((pm_ms3.drop 24).take 8)).all (fun z => pm_codeW z.1 z.2) = true := by decide +kernel
theorem pm_cw4_0 : ((pm_mt4.drop 0).take 8 |>.zip ((pm_ms4.drop 0).take 8)).all (fun z => pm_codeW z.1 z.2) = true := by decide +kernel
theorem pm_cw4_1 : ((pm_mt4.drop 8).take 8 |>.zip ((pm_ms4.drop 8).take 8)).all (fun z => pm_codeW z.1 z.2) = true := by decide +kernel
theorem pm_cw4_2 : ((pm_mt4.drop 16).take 8 |>.zip ((pm_ms4.drop 16).take 8)).all (fun z => pm_codeW z.1 z.2) = true := by decide +kernel
theorem pm_cw4_3 : ((pm_mt4.drop 24).take 8 |>.zip ((pm_ms4.drop 24).take 8)).all (fun z => pm_codeW z.1 z.2) = true := by decide +kernel
theorem pm_cw5_0 : ((pm_mt5.drop 0).take 8 |>.zip ((pm_ms5.drop 0).take 8)).all (fun z => pm_codeW z.1 z.2) = true := by decide +kernel
theorem pm_cw5_1 : ((pm_mt5.drop 8).take 8 |>.zip ((pm_ms5.drop 8).take 8)).all (fun z => pm_codeW z.1 z.2) = true := by decide +kernel
theorem pm_cw5_2 : ((pm_mt5.drop 16).take 8 |>.zip ((pm_ms5.drop 16).take 8)).all (fun z => pm_codeW z.1 z.2) = true := by decide +kernel
theorem pm_cw5_3 : ((pm_mt5.drop 24).take 8 |>.zip ((pm_ms5.drop 24).take 8)).all (fun z => pm_codeW z.1 z.2) = true := by decide +kernel
theorem pm_cw6_0 : ((pm_mt6.drop 0).take 8 |>.zip ((pm_ms6.drop 0).take 8)).all (fun z => pm_codeW z.1 z.2) = true := by decide +kernel
theorem pm_cw6_1 : ((pm_mt6.drop 8).take 8 |>.zip ((pm_ms6.drop 8).take 8)).all (fun z => pm_codeW z.1 z.2) = true := by decide +kernel
theorem pm_cw6_2 : ((pm_mt6.drop 16).take 8 |>.zip ((pm_ms6.drop 16).take 8)).all (fun z => pm_codeW z.1 z.2) = true := by decide +kernel
theorem pm_cw6_3 : ((pm_mt6.drop 24).take 8 |>.zip ((pm_ms6.drop 24).take 8)).all (fun z => pm_codeW z.1 z.2) = true := by decide +kernel
theorem pm_cw7_0 : ((pm_mt7.drop 0).take 8 |>.zip ((pm_ms7.drop 0).take 8)).all (fun z => pm_codeW z.1 z.2) = true := by decide +kernel
theorem pm_cw7_1 : ((pm_mt7.drop 8).take 8 |>.zip ((pm_ms7.drop 8).take 8)).all (fun z => pm_codeW z.1 z.2) = true := by decide +kernel
theorem pm_cw7_2 : ((pm_mt7.drop 16).take 8 |>.zip ((pm_ms7.drop 16).take 8)).all (fun z => pm_codeW z.1 z.2) = true := by decide +kernel
