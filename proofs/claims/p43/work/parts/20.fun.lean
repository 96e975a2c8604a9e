def f_X12_append_L2 (v1 : Int32) : Nat → (Nat → Int32) → (Nat → Int32) → Int32 → Option ((Nat → Int32) × (Nat → Int32))
  | 0, _, _, _ => none
  | fu + 1, hb, tp, v2 =>
    if v2 < 0 then
    some (hb, tp)
    else
    if (hb 7) < 0 then
    f_X12_append_L2 v1 fu hb tp (v2 + (-8))
    else
    if (2000 : Int32) ≤ (hb 7) then
    f_X12_append_L2 v1 fu hb tp (v2 + (-8))
    else
    (q_ix (hb 7) 2000).bind fun j4 =>
    f_X12_append_L2 v1 fu (q_up hb 7 ((hb 7) + (1 : Int32))) (q_up tp j4 ((v1 >>> (v2 &&& 31)).toInt8.toInt32).toInt8.toInt32) (v2 + (-8))
def f_X12_append (hb : Nat → Int32) (tp : Nat → Int32) (x1 : Int32) : Option ((Nat → Int32) × (Nat → Int32)) :=
  (f_X12_append_L2 x1 4096 hb tp (24 : Int32)).bind fun r5 =>
  some (r5.1, r5.2)
def f_X12_feed (hb : Nat → Int32) (tp : Nat → Int32) (x1 : Int32) (x2 : Int32) (x3 : Int32) (x4 : Int32) (x5 : Int32) : Option ((Int32 ⊕ String) × (Nat → Int32) × (Nat → Int32)) :=
  if (hb 7) ≤ (1980 : Int32) then
  (f_X12_append hb tp x1).bind fun r2 =>
  (f_X12_append r2.1 r2.2 x2).bind fun r3 =>
  (f_X12_append r3.1 r3.2 x3).bind fun r4 =>
  (f_X12_append r4.1 r4.2 x4).bind fun r5 =>
  (f_X12_append r5.1 r5.2 x5).bind fun r6 =>
  some (.inl (r6.1 7), r6.1, r6.2)
  else
  some (.inr "java/lang/IllegalStateException", hb, tp)
def f_X12_trim (hb : Nat → Int32) (x1 : Int32) : Option ((Int32 ⊕ String) × (Nat → Int32)) :=
  if x1 < 0 then
  some (.inr "java/lang/IllegalArgumentException", hb)
  else
  if x1 ≤ (hb 7) then
  some (.inl x1, (q_up hb 7 x1))
  else
  some (.inr "java/lang/IllegalArgumentException", hb)
def f_X12_errorAt (hb : Nat → Int32) : Option (Int32) :=
  some ((hb 8))
def f_X12_hooks (pn : Nat → Int32) : Option (Int32) :=
  some ((pn 3))
def f_X12_steps (pn : Nat → Int32) : Option (Int32) :=
  some ((pn 4))
def f_X12_placesOfHalf (pn : Nat → Int32) : Option (Int32) :=
  some ((pn 0))
def f_X12_stepsGoneBy (bn : Nat → Int32) : Option (Int32) :=
  some ((bn 10))
def f_X12_stepsRefused (bn : Nat → Int32) : Option (Int32) :=
  some ((bn 11))
def f_X12_workingHalf (bn : Nat → Int32) : Option (Int32) :=
  some ((bn 9))
def f_X12_usedPlaces (bn : Nat → Int32) : Option (Int32) :=
  some ((bn 8))
def f_X5_at (lo : Nat → Int32) (lr : Nat → Int32) (x1 : Int32) : Option (Int32) :=
  if x1 < 0 then
  some ((-1 : Int32))
  else
  if (lo 1) ≤ x1 then
  some ((-1 : Int32))
  else
  if (64 : Int32) ≤ x1 then
  some ((-1 : Int32))
  else
  (q_ix x1 64).bind fun j4 =>
  some ((lr j4))
def f_X5_usedCount_L4 (lo : Nat → Int32) (lr : Nat → Int32) : Nat → Int32 → Int32 → Option (Int32)
  | 0, _, _ => none
  | fu + 1, v1, v2 =>
    if (lo 1) ≤ v2 then
    some (v1)
    else
    (f_X5_at lo lr v2).bind fun r2 =>
    if r2 = (-1 : Int32) then
    f_X5_usedCount_L4 lo lr fu v1 (v2 + 1)
    else
    f_X5_usedCount_L4 lo lr fu (v1 + 1) (v2 + 1)
def f_X5_usedCount (lo : Nat → Int32) (lr : Nat → Int32) : Option (Int32) :=
  (f_X5_usedCount_L4 lo lr 4096 (0 : Int32) (0 : Int32)).bind fun r4 =>
  some (r4)
def f_X12_usedInLoft (lo : Nat → Int32) (lr : Nat → Int32) : Option (Int32) :=
  (f_X5_usedCount lo lr).bind fun r1 =>
  some (r1)
def f_X5_widestGap_L6 (lo : Nat → Int32) (lr : Nat → Int32) : Nat → Int32 → Int32 → Int32 → Option (Int32)
  | 0, _, _, _ => none
  | fu + 1, v1, v2, v3 =>
    if (lo 1) ≤ v3 then
    some (v1)
    else
    (f_X5_at lo lr v3).bind fun r2 =>
    if ¬ r2 = (-1 : Int32) then
    f_X5_widestGap_L6 lo lr fu (q_max v1 (0 : Int32)) (0 : Int32) (v3 + 1)
    else
    f_X5_widestGap_L6 lo lr fu (q_max v1 (v2 + (1 : Int32))) (v2 + (1 : Int32)) (v3 + 1)
def f_X5_widestGap (lo : Nat → Int32) (lr : Nat → Int32) : Option (Int32) :=
  (f_X5_widestGap_L6 lo lr 4096 (0 : Int32) (0 : Int32) (0 : Int32)).bind fun r4 =>
  some (r4)
def f_X12_longestGap (lo : Nat → Int32) (lr : Nat → Int32) : Option (Int32) :=
  (f_X5_widestGap lo lr).bind fun r1 =>
  some (r1)
def f_X2_baleCount (bn : Nat → Int32) (lo : Nat → Int32) : Option (Int32) :=
  some (((bn 7) + (lo 2)))
def f_X12_bales (bn : Nat → Int32) (lo : Nat → Int32) : Option (Int32) :=
  (f_X2_baleCount bn lo).bind fun r1 =>
  some (r1)
def f_X12_balesInLoft (lo : Nat → Int32) : Option (Int32) :=
  some ((lo 2))
def f_X4_clear (li : Nat → Int32) (nd : Nat → Int32) : Option ((Nat → Int32) × (Nat → Int32)) :=
  some ((q_up li 2 (0 : Int32)), (q_fil 128 (-1 : Int32) nd))
def f_X2_held (hk : Nat → Int32) (x1 : Int32) : Option (Int32) :=
  if x1 < 0 then
  some ((-1 : Int32))
  else
  if (6 : Int32) ≤ x1 then
  some ((-1 : Int32))
  else
  (q_ix x1 6).bind fun j3 =>
  some ((hk j3))
def f_X4_add (li : Nat → Int32) (nr : Nat → Int32) (nd : Nat → Int32) (x1 : Int32) (x2 : Int32) : Option (Bool × (Nat → Int32) × (Nat → Int32) × (Nat → Int32)) :=
  if x1 < 0 then
  some (false, li, nr, nd)
  else
  if (128 : Int32) ≤ x1 then
  some (false, li, nr, nd)
  else
  if (li 2) < 0 then
  some (false, li, nr, nd)
  else
  if (li 2) < (128 : Int32) then
  (q_ix x1 128).bind fun j5 =>
  if (nd j5) = (-1 : Int32) then
  (q_ix x1 128).bind fun j7 =>
  (q_ix (li 2) 128).bind fun j8 =>
  some (true, (q_up li 2 ((li 2) + (1 : Int32))), (q_up nr j8 x1), (q_up nd j7 x2))
  else
  some (false, li, nr, nd)
  else
  some (false, li, nr, nd)
def f_X4_length (li : Nat → Int32) : Option (Int32) :=
  some ((li 2))
def f_X4_at (li : Nat → Int32) (nr : Nat → Int32) (x1 : Int32) : Option (Int32) :=
  if x1 < 0 then
  some ((-1 : Int32))
  else
  if (li 2) ≤ x1 then
  some ((-1 : Int32))
  else
  if (128 : Int32) ≤ x1 then
  some ((-1 : Int32))
  else
  (q_ix x1 128).bind fun j4 =>
  some ((nr j4))
def f_X1_ropes (rc : Nat → Int32) (x1 : Int32) : Option (Int32) :=
  if x1 < 0 then
  some ((0 : Int32))
  else
  if (128 : Int32) ≤ x1 then
  some ((0 : Int32))
  else
  (q_ix x1 128).bind fun j3 =>
  some ((rc j3))
def f_X1_hasRope (rc : Nat → Int32) (x1 : Int32) (x2 : Int32) : Option (Bool) :=
  if x1 < 0 then
  some (false)
  else
  if (128 : Int32) ≤ x1 then
  some (false)
  else
  if x2 < 0 then
  some (false)
  else
  if (3 : Int32) ≤ x2 then
  some (false)
  else
  (q_ix x1 128).bind fun j5 =>
  if (rc j5) ≤ x2 then
  some (false)
  else
  some (true)
def f_X1_lead (rc : Nat → Int32) (ld : Nat → Int32) (x1 : Int32) (x2 : Int32) : Option (Int32) :=
  (f_X1_hasRope rc x1 x2).bind fun r1 =>
  if (q_bz r1) = 0 then
  some ((-1 : Int32))
  else
  (q_ix ((x1 * (3 : Int32)) + x2) 384).bind fun j3 =>
  some ((ld j3))
def f_X4_ropesTo (nd : Nat → Int32) (x1 : Int32) : Option (Int32) :=
  if x1 < 0 then
  some ((-1 : Int32))
  else
  if (128 : Int32) ≤ x1 then
  some ((-1 : Int32))
  else
  (q_ix x1 128).bind fun j3 =>
  some ((nd j3))
def f_X2_followLine_L17 (rc : Nat → Int32) (ld : Nat → Int32) (v2 : Int32) : Nat → (Nat → Int32) → (Nat → Int32) → (Nat → Int32) → Int32 → Option ((Nat → Int32) × (Nat → Int32) × (Nat → Int32))
  | 0, _, _, _, _ => none
  | fu + 1, li, nr, nd, v3 =>
    (f_X1_ropes rc v2).bind fun r1 =>
    if r1 ≤ v3 then
    some (li, nr, nd)
    else
    (f_X1_lead rc ld v2 v3).bind fun r3 =>
    (f_X4_ropesTo nd v2).bind fun r4 =>
    (f_X4_add li nr nd r3 (r4 + (1 : Int32))).bind fun r5 =>
    f_X2_followLine_L17 rc ld v2 fu r5.2.1 r5.2.2.1 r5.2.2.2 (v3 + 1)
def f_X2_followLine_L2 (rc : Nat → Int32) (ld : Nat → Int32) : Nat → (Nat → Int32) → (Nat → Int32) → (Nat → Int32) → Int32 → Option ((Nat → Int32) × (Nat → Int32) × (Nat → Int32))
  | 0, _, _, _, _ => none
  | fu + 1, li, nr, nd, v1 =>
    if (128 : Int32) ≤ v1 then
    some (li, nr, nd)
    else
    (f_X4_length li).bind fun r7 =>
    if r7 ≤ v1 then
    some (li, nr, nd)
    else
    (f_X4_at li nr v1).bind fun r9 =>
    (f_X2_followLine_L17 rc ld r9 4096 li nr nd (0 : Int32)).bind fun r10 =>
    f_X2_followLine_L2 rc ld fu r10.1 r10.2.1 r10.2.2 (v1 + 1)
def f_X2_followLine (rc : Nat → Int32) (ld : Nat → Int32) (li : Nat → Int32) (nr : Nat → Int32) (nd : Nat → Int32) : Option ((Nat → Int32) × (Nat → Int32) × (Nat → Int32)) :=
  (f_X2_followLine_L2 rc ld 4096 li nr nd (0 : Int32)).bind fun r11 =>
  some (r11.1, r11.2.1, r11.2.2)
def f_X2_findReached_L5 (hk : Nat → Int32) : Nat → (Nat → Int32) → (Nat → Int32) → (Nat → Int32) → Int32 → Option ((Nat → Int32) × (Nat → Int32) × (Nat → Int32))
  | 0, _, _, _, _ => none
  | fu + 1, li, nr, nd, v1 =>
    if (6 : Int32) ≤ v1 then
    some (li, nr, nd)
    else
    (f_X2_held hk v1).bind fun r2 =>
    (f_X4_add li nr nd r2 (0 : Int32)).bind fun r3 =>
    f_X2_findReached_L5 hk fu r3.2.1 r3.2.2.1 r3.2.2.2 (v1 + 1)
def f_X2_findReached (rc : Nat → Int32) (ld : Nat → Int32) (li : Nat → Int32) (nr : Nat → Int32) (nd : Nat → Int32) (hk : Nat → Int32) : Option ((Nat → Int32) × (Nat → Int32) × (Nat → Int32)) :=
  (f_X4_clear li nd).bind fun r4 =>
  (f_X2_findReached_L5 hk 4096 r4.1 nr r4.2 (0 : Int32)).bind fun r5 =>
  (f_X2_followLine rc ld r5.1 r5.2.1 r5.2.2).bind fun r6 =>
  some (r6.1, r6.2.1, r6.2.2)
def f_X2_uselessCount (bn : Nat → Int32) (rc : Nat → Int32) (ld : Nat → Int32) (lo : Nat → Int32) (li : Nat → Int32) (nr : Nat → Int32) (nd : Nat → Int32) (hk : Nat → Int32) : Option (Int32 × (Nat → Int32) × (Nat → Int32) × (Nat → Int32)) :=
  (f_X2_findReached rc ld li nr nd hk).bind fun r1 =>
  (f_X2_baleCount bn lo).bind fun r2 =>
  (f_X4_length r1.1).bind fun r3 =>
  some ((r2 - r3), r1.1, r1.2.1, r1.2.2)
def f_X12_uselessBales (bn : Nat → Int32) (rc : Nat → Int32) (ld : Nat → Int32) (lo : Nat → Int32) (li : Nat → Int32) (nr : Nat → Int32) (nd : Nat → Int32) (hk : Nat → Int32) : Option (Int32 × (Nat → Int32) × (Nat → Int32) × (Nat → Int32)) :=
  (f_X2_uselessCount bn rc ld lo li nr nd hk).bind fun r1 =>
  some (r1.1, r1.2.1, r1.2.2.1, r1.2.2.2)
def f_X12_copyings (bn : Nat → Int32) : Option (Int32) :=
  some ((bn 12))
def f_X12_balesPromoted (bn : Nat → Int32) : Option (Int32) :=
  some ((bn 13))
def f_X12_balesGone (bn : Nat → Int32) : Option (Int32) :=
  some ((bn 14))
def f_X12_checkHook (pn : Nat → Int32) (x1 : Int32) : Option ((Unit ⊕ String)) :=
  if x1 < 0 then
  some (.inr "java/lang/IndexOutOfBoundsException")
  else
  if x1 < (pn 3) then
  some (.inl ())
  else
  some (.inr "java/lang/IndexOutOfBoundsException")
def f_X12_holdsBale (pn : Nat → Int32) (hk : Nat → Int32) (x1 : Int32) : Option ((Bool ⊕ String)) :=
  (f_X12_checkHook pn x1).bind fun r1 =>
  q_sm r1
  (fun v2 =>
  (f_X2_held hk x1).bind fun r5 =>
  if r5 = (-1 : Int32) then
  some (.inl false)
  else
  some (.inl true))
  (fun e3 => some (.inr e3))
def f_X12_heldBale (pn : Nat → Int32) (hk : Nat → Int32) (x1 : Int32) : Option ((Int32 ⊕ String)) :=
  (f_X12_checkHook pn x1).bind fun r1 =>
  q_sm r1
  (fun v2 =>
  (f_X2_held hk x1).bind fun r5 =>
  if ¬ r5 = (-1 : Int32) then
  some (.inl r5)
  else
  some (.inr "java/lang/IllegalStateException"))
  (fun e3 => some (.inr e3))
def f_X1_place (pl : Nat → Int32) (x1 : Int32) : Option (Int32) :=
  if x1 < 0 then
  some ((0 : Int32))
  else
  if (128 : Int32) ≤ x1 then
  some ((0 : Int32))
  else
  (q_ix x1 128).bind fun j3 =>
  some ((pl j3))
def f_X12_placeOf (pn : Nat → Int32) (pl : Nat → Int32) (hk : Nat → Int32) (x1 : Int32) : Option ((Int32 ⊕ String)) :=
  (f_X12_heldBale pn hk x1).bind fun r1 =>
  q_sm r1
  (fun v2 =>
  (f_X1_place pl v2).bind fun r5 =>
  some (.inl r5))
  (fun e3 => some (.inr e3))
def f_X1_size (sz : Nat → Int32) (x1 : Int32) : Option (Int32) :=
  if x1 < 0 then
  some ((0 : Int32))
  else
  if (128 : Int32) ≤ x1 then
  some ((0 : Int32))
  else
  (q_ix x1 128).bind fun j3 =>
  some ((sz j3))
def f_X12_sizeOf (pn : Nat → Int32) (sz : Nat → Int32) (hk : Nat → Int32) (x1 : Int32) : Option ((Int32 ⊕ String)) :=
  (f_X12_heldBale pn hk x1).bind fun r1 =>
  q_sm r1
  (fun v2 =>
  (f_X1_size sz v2).bind fun r5 =>
  some (.inl r5))
  (fun e3 => some (.inr e3))
def f_X12_ropesOf (pn : Nat → Int32) (rc : Nat → Int32) (hk : Nat → Int32) (x1 : Int32) : Option ((Int32 ⊕ String)) :=
  (f_X12_heldBale pn hk x1).bind fun r1 =>
  q_sm r1
  (fun v2 =>
  (f_X1_ropes rc v2).bind fun r5 =>
  some (.inl r5))
  (fun e3 => some (.inr e3))
def f_X1_age (ag : Nat → Int32) (x1 : Int32) : Option (Int32) :=
  if x1 < 0 then
  some ((0 : Int32))
  else
  if (128 : Int32) ≤ x1 then
  some ((0 : Int32))
  else
  (q_ix x1 128).bind fun j3 =>
  some ((ag j3))
def f_X12_ageOf (pn : Nat → Int32) (ag : Nat → Int32) (hk : Nat → Int32) (x1 : Int32) : Option ((Int32 ⊕ String)) :=
  (f_X12_heldBale pn hk x1).bind fun r1 =>
  q_sm r1
  (fun v2 =>
  (f_X1_age ag v2).bind fun r5 =>
  some (.inl r5))
  (fun e3 => some (.inr e3))
def f_X1_liesInLoft (ly : Nat → Int32) (x1 : Int32) : Option (Bool) :=
  if x1 < 0 then
  some (false)
  else
  if (128 : Int32) ≤ x1 then
  some (false)
  else
  (q_ix x1 128).bind fun j3 =>
  if ¬ (ly j3) = (2 : Int32) then
  some (false)
  else
  some (true)
def f_X12_isInLoft (pn : Nat → Int32) (ly : Nat → Int32) (hk : Nat → Int32) (x1 : Int32) : Option ((Bool ⊕ String)) :=
  (f_X12_heldBale pn hk x1).bind fun r1 =>
  q_sm r1
  (fun v2 =>
  (f_X1_liesInLoft ly v2).bind fun r5 =>
  some (.inl r5))
  (fun e3 => some (.inr e3))
def f_X12_ropeLeads (pn : Nat → Int32) (rc : Nat → Int32) (ld : Nat → Int32) (hk : Nat → Int32) (x1 : Int32) (x2 : Int32) : Option ((Bool ⊕ String)) :=
  (f_X12_heldBale pn hk x1).bind fun r1 =>
  q_sm r1
  (fun v2 =>
  (f_X1_hasRope rc v2 x2).bind fun r5 =>
  if ¬ (q_bz r5) = 0 then
  (f_X1_lead rc ld v2 x2).bind fun r7 =>
  if r7 = (-1 : Int32) then
  some (.inl false)
  else
  some (.inl true)
  else
  some (.inr "java/lang/IllegalStateException"))
  (fun e3 => some (.inr e3))
def f_X2_sameHeld (hk : Nat → Int32) (x1 : Int32) (x2 : Int32) : Option (Bool) :=
  if x1 < 0 then
  some (false)
  else
  if (6 : Int32) ≤ x1 then
  some (false)
  else
  if x2 < 0 then
  some (false)
  else
  if (6 : Int32) ≤ x2 then
  some (false)
  else
  (q_ix x1 6).bind fun j5 =>
  if (hk j5) = (-1 : Int32) then
  some (false)
  else
  (q_ix x1 6).bind fun j7 =>
  (q_ix x2 6).bind fun j8 =>
  if ¬ (hk j7) = (hk j8) then
  some (false)
  else
  some (true)
def f_X12_holdSame (pn : Nat → Int32) (hk : Nat → Int32) (x1 : Int32) (x2 : Int32) : Option ((Bool ⊕ String)) :=
  (f_X12_checkHook pn x1).bind fun r1 =>
  q_sm r1
  (fun v2 =>
  (f_X12_checkHook pn x2).bind fun r5 =>
  q_sm r5
  (fun v6 =>
  (f_X2_sameHeld hk x1 x2).bind fun r9 =>
  some (.inl r9))
  (fun e7 => some (.inr e7)))
  (fun e3 => some (.inr e3))
def f_X2_ropesAway (rc : Nat → Int32) (ld : Nat → Int32) (li : Nat → Int32) (nr : Nat → Int32) (nd : Nat → Int32) (x1 : Int32) (x2 : Int32) : Option (Int32 × (Nat → Int32) × (Nat → Int32) × (Nat → Int32)) :=
  (f_X4_clear li nd).bind fun r1 =>
  (f_X4_add r1.1 nr r1.2 x1 (0 : Int32)).bind fun r2 =>
  (f_X2_followLine rc ld r2.2.1 r2.2.2.1 r2.2.2.2).bind fun r3 =>
  (f_X4_ropesTo r3.2.2 x2).bind fun r4 =>
  some (r4, r3.1, r3.2.1, r3.2.2)
def f_X12_ropesBetween (pn : Nat → Int32) (rc : Nat → Int32) (ld : Nat → Int32) (li : Nat → Int32) (nr : Nat → Int32) (nd : Nat → Int32) (hk : Nat → Int32) (x1 : Int32) (x2 : Int32) : Option ((Int32 ⊕ String) × (Nat → Int32) × (Nat → Int32) × (Nat → Int32)) :=
  (f_X12_checkHook pn x1).bind fun r1 =>
  q_sm r1
  (fun v2 =>
  (f_X12_checkHook pn x2).bind fun r5 =>
  q_sm r5
  (fun v6 =>
  (f_X12_heldBale pn hk x1).bind fun r9 =>
  q_sm r9
  (fun v10 =>
  (f_X12_heldBale pn hk x2).bind fun r13 =>
  q_sm r13
  (fun v14 =>
  (f_X2_ropesAway rc ld li nr nd v10 v14).bind fun r17 =>
  some (.inl r17.1, r17.2.1, r17.2.2.1, r17.2.2.2))
  (fun e15 => some (.inr e15, li, nr, nd)))
  (fun e11 => some (.inr e11, li, nr, nd)))
  (fun e7 => some (.inr e7, li, nr, nd)))
  (fun e3 => some (.inr e3, li, nr, nd))
def f_X2_freePlaces (pn : Nat → Int32) (bn : Nat → Int32) : Option (Int32) :=
  some (((pn 0) - (bn 8)))
def f_X1_liesInHalf (ly : Nat → Int32) (x1 : Int32) : Option (Bool) :=
  if x1 < 0 then
  some (false)
  else
  if (128 : Int32) ≤ x1 then
  some (false)
  else
  (q_ix x1 128).bind fun j3 =>
  if ¬ (ly j3) = (1 : Int32) then
  some (false)
  else
  some (true)
def f_X5_gapFor_L4 (lo : Nat → Int32) (lr : Nat → Int32) (v1 : Int32) : Nat → Int32 → Int32 → Option (Nat × Int32 × Int32)
  | 0, _, _ => none
  | fu + 1, v2, v3 =>
    if (lo 1) ≤ v3 then
    some (0, 0, 0)
    else
    if (64 : Int32) ≤ v3 then
    some (0, 0, 0)
    else
    (q_ix v3 64).bind fun j3 =>
    if ¬ (lr j3) = (-1 : Int32) then
    if (0 : Int32) < v1 then
    f_X5_gapFor_L4 lo lr v1 fu (0 : Int32) (v3 + 1)
    else
    some (1, (0 : Int32), v3)
    else
    if (v2 + (1 : Int32)) < v1 then
    f_X5_gapFor_L4 lo lr v1 fu (v2 + (1 : Int32)) (v3 + 1)
    else
    some (1, (v2 + (1 : Int32)), v3)
def f_X5_gapFor (lo : Nat → Int32) (lr : Nat → Int32) (x1 : Int32) : Option (Int32) :=
  (f_X5_gapFor_L4 lo lr x1 4096 (0 : Int32) (0 : Int32)).bind fun r7 =>
  if r7.1 = 0 then
  some ((-1 : Int32))
  else
  some (((r7.2.2 + (1 : Int32)) - r7.2.1))
def f_X1_copyTo (pl : Nat → Int32) (ag : Nat → Int32) (x1 : Int32) (x2 : Int32) : Option ((Nat → Int32) × (Nat → Int32)) :=
  if x1 < 0 then
  some (pl, ag)
  else
  if (128 : Int32) ≤ x1 then
  some (pl, ag)
  else
  (q_ix x1 128).bind fun j3 =>
  (q_ix x1 128).bind fun j4 =>
  (q_ix x1 128).bind fun j5 =>
  some ((q_up pl j3 x2), (q_up ag j5 ((ag j4) + (1 : Int32))))
def f_X2_layInRow (bn : Nat → Int32) (rw : Nat → Int32) (x1 : Int32) (x2 : Int32) : Option ((Nat → Int32) × (Nat → Int32)) :=
  if (bn 7) < 0 then
  some (bn, rw)
  else
  if (64 : Int32) ≤ (bn 7) then
  some (bn, rw)
  else
  (q_ix (bn 7) 64).bind fun j3 =>
  some ((q_up (q_up bn 7 ((bn 7) + (1 : Int32))) 8 (((q_up bn 7 ((bn 7) + (1 : Int32))) 8) + x2)), (q_up rw j3 x1))
def f_X1_promoteTo (ly : Nat → Int32) (pl : Nat → Int32) (x1 : Int32) (x2 : Int32) : Option ((Nat → Int32) × (Nat → Int32)) :=
  if x1 < 0 then
  some (ly, pl)
  else
  if (128 : Int32) ≤ x1 then
  some (ly, pl)
  else
  (q_ix x1 128).bind fun j3 =>
  (q_ix x1 128).bind fun j4 =>
  some ((q_up ly j4 (2 : Int32)), (q_up pl j3 x2))
def f_X5_lay_L2 (lo : Nat → Int32) (v1 : Int32) (v2 : Int32) (v3 : Int32) : Nat → (Nat → Int32) → Int32 → Option ((Nat → Int32))
  | 0, _, _ => none
  | fu + 1, lr, v4 =>
    if v3 ≤ v4 then
    some (lr)
    else
    if (v2 + v4) < 0 then
    f_X5_lay_L2 lo v1 v2 v3 fu lr (v4 + 1)
    else
    if (lo 1) ≤ (v2 + v4) then
    f_X5_lay_L2 lo v1 v2 v3 fu lr (v4 + 1)
    else
    if (64 : Int32) ≤ (v2 + v4) then
    f_X5_lay_L2 lo v1 v2 v3 fu lr (v4 + 1)
    else
    (q_ix (v2 + v4) 64).bind fun j5 =>
    f_X5_lay_L2 lo v1 v2 v3 fu (q_up lr j5 v1) (v4 + 1)
def f_X5_lay (lo : Nat → Int32) (lr : Nat → Int32) (x1 : Int32) (x2 : Int32) (x3 : Int32) : Option ((Nat → Int32) × (Nat → Int32)) :=
  (f_X5_lay_L2 lo x1 x2 x3 4096 lr (0 : Int32)).bind fun r6 =>
  if ¬ x1 = (-1 : Int32) then
  some ((q_up lo 2 ((lo 2) + (1 : Int32))), r6)
  else
  some ((q_up lo 2 ((lo 2) + (-1 : Int32))), r6)
def f_X2_takeOver (pn : Nat → Int32) (bn : Nat → Int32) (ly : Nat → Int32) (pl : Nat → Int32) (sz : Nat → Int32) (ag : Nat → Int32) (lo : Nat → Int32) (lr : Nat → Int32) (li : Nat → Int32) (nr : Nat → Int32) (nd : Nat → Int32) (rw : Nat → Int32) (x1 : Int32) : Option ((Nat → Int32) × (Nat → Int32) × (Nat → Int32) × (Nat → Int32) × (Nat → Int32) × (Nat → Int32) × (Nat → Int32) × (Nat → Int32) × (Nat → Int32) × (Nat → Int32)) :=
  (f_X1_liesInHalf ly x1).bind fun r1 =>
  if (q_bz r1) = 0 then
  some (bn, ly, pl, ag, lo, lr, li, nr, nd, rw)
  else
  (f_X4_add li nr nd x1 (0 : Int32)).bind fun r3 =>
  if ¬ (q_bz r3.1) = 0 then
  (f_X1_size sz x1).bind fun r5 =>
  (f_X1_age ag x1).bind fun r6 =>
  if r6 < (pn 2) then
  if ¬ (-1 : Int32) = (-1 : Int32) then
  (f_X1_promoteTo ly pl x1 (-1 : Int32)).bind fun r9 =>
  (f_X5_lay lo lr x1 (-1 : Int32) r5).bind fun r10 =>
  some ((q_up bn 13 ((bn 13) + (1 : Int32))), r9.1, r9.2, ag, r10.1, r10.2, r3.2.1, r3.2.2.1, r3.2.2.2, rw)
  else
  (f_X1_copyTo pl ag x1 (bn 8)).bind fun r11 =>
  (f_X2_layInRow bn rw x1 r5).bind fun r12 =>
  some (r12.1, ly, r11.1, r11.2, lo, lr, r3.2.1, r3.2.2.1, r3.2.2.2, r12.2)
  else
  (f_X5_gapFor lo lr r5).bind fun r13 =>
  if ¬ r13 = (-1 : Int32) then
  (f_X1_promoteTo ly pl x1 r13).bind fun r15 =>
  (f_X5_lay lo lr x1 r13 r5).bind fun r16 =>
  some ((q_up bn 13 ((bn 13) + (1 : Int32))), r15.1, r15.2, ag, r16.1, r16.2, r3.2.1, r3.2.2.1, r3.2.2.2, rw)
  else
  (f_X1_copyTo pl ag x1 (bn 8)).bind fun r17 =>
  (f_X2_layInRow bn rw x1 r5).bind fun r18 =>
  some (r18.1, ly, r17.1, r17.2, lo, lr, r3.2.1, r3.2.2.1, r3.2.2.2, r18.2)
  else
  some (bn, ly, pl, ag, lo, lr, r3.2.1, r3.2.2.1, r3.2.2.2, rw)
def f_X2_loftBaleFrom (pl : Nat → Int32) (lo : Nat → Int32) (lr : Nat → Int32) (x1 : Int32) : Option (Int32) :=
  (f_X5_at lo lr x1).bind fun r1 =>
  if r1 = (-1 : Int32) then
  some ((-1 : Int32))
  else
  (f_X1_place pl r1).bind fun r3 =>
  if ¬ r3 = x1 then
  some ((-1 : Int32))
  else
  some (r1)
def f_X4_has (nd : Nat → Int32) (x1 : Int32) : Option (Bool) :=
  if x1 < 0 then
  some (false)
  else
  if (128 : Int32) ≤ x1 then
  some (false)
  else
  (q_ix x1 128).bind fun j3 =>
  if (nd j3) = (-1 : Int32) then
  some (false)
  else
  some (true)
def f_X1_remove (ly : Nat → Int32) (x1 : Int32) : Option ((Nat → Int32)) :=
  if x1 < 0 then
  some (ly)
  else
  if (128 : Int32) ≤ x1 then
  some (ly)
  else
  (q_ix x1 128).bind fun j3 =>
  some ((q_up ly j3 (0 : Int32)))
def f_X2_loseRest_L4 (nd : Nat → Int32) (ro : Nat → Int32) (v2 : Int32) : Nat → (Nat → Int32) → Int32 → Int32 → Option (Int32 × (Nat → Int32))
  | 0, _, _, _ => none
  | fu + 1, ly, v3, v4 =>
    if v2 ≤ v4 then
    some (v3, ly)
    else
    if (nI 64) ≤ v4 then
    some (v3, ly)
    else
    (q_ix v4 64).bind fun j3 =>
    (f_X4_has nd (ro j3)).bind fun r4 =>
    if ¬ (q_bz r4) = 0 then
    f_X2_loseRest_L4 nd ro v2 fu ly v3 (v4 + 1)
    else
    (q_ix v4 64).bind fun j6 =>
    (f_X1_remove ly (ro j6)).bind fun r7 =>
    f_X2_loseRest_L4 nd ro v2 fu r7 (v3 + 1) (v4 + 1)
def f_X2_loseRest (bn : Nat → Int32) (ly : Nat → Int32) (nd : Nat → Int32) (ro : Nat → Int32) (x2 : Int32) : Option (Int32 × (Nat → Int32) × (Nat → Int32)) :=
  (f_X2_loseRest_L4 nd ro x2 4096 ly (0 : Int32) (0 : Int32)).bind fun r8 =>
  some (r8.1, (q_up bn 14 ((bn 14) + r8.1)), r8.2)
def f_X2_copyHalf_L36 (pn : Nat → Int32) (sz : Nat → Int32) (hk : Nat → Int32) : Nat → (Nat → Int32) → (Nat → Int32) → (Nat → Int32) → (Nat → Int32) → (Nat → Int32) → (Nat → Int32) → (Nat → Int32) → (Nat → Int32) → (Nat → Int32) → (Nat → Int32) → Int32 → Option ((Nat → Int32) × (Nat → Int32) × (Nat → Int32) × (Nat → Int32) × (Nat → Int32) × (Nat → Int32) × (Nat → Int32) × (Nat → Int32) × (Nat → Int32) × (Nat → Int32))
  | 0, _, _, _, _, _, _, _, _, _, _, _ => none
  | fu + 1, bn, ly, pl, ag, lo, lr, li, nr, nd, rw, v3 =>
    if (6 : Int32) ≤ v3 then
    some (bn, ly, pl, ag, lo, lr, li, nr, nd, rw)
    else
    (f_X2_held hk v3).bind fun r2 =>
    (f_X2_takeOver pn bn ly pl sz ag lo lr li nr nd rw r2).bind fun r3 =>
    f_X2_copyHalf_L36 pn sz hk fu r3.1 r3.2.1 r3.2.2.1 r3.2.2.2.1 r3.2.2.2.2.1 r3.2.2.2.2.2.1 r3.2.2.2.2.2.2.1 r3.2.2.2.2.2.2.2.1 r3.2.2.2.2.2.2.2.2.1 r3.2.2.2.2.2.2.2.2.2 (v3 + 1)
def f_X2_copyHalf_L98 (pn : Nat → Int32) (sz : Nat → Int32) (rc : Nat → Int32) (ld : Nat → Int32) (v4 : Int32) : Nat → (Nat → Int32) → (Nat → Int32) → (Nat → Int32) → (Nat → Int32) → (Nat → Int32) → (Nat → Int32) → (Nat → Int32) → (Nat → Int32) → (Nat → Int32) → (Nat → Int32) → Int32 → Option ((Nat → Int32) × (Nat → Int32) × (Nat → Int32) × (Nat → Int32) × (Nat → Int32) × (Nat → Int32) × (Nat → Int32) × (Nat → Int32) × (Nat → Int32) × (Nat → Int32))
  | 0, _, _, _, _, _, _, _, _, _, _, _ => none
  | fu + 1, bn, ly, pl, ag, lo, lr, li, nr, nd, rw, v5 =>
    (f_X1_ropes rc v4).bind fun r4 =>
    if r4 ≤ v5 then
    some (bn, ly, pl, ag, lo, lr, li, nr, nd, rw)
    else
    (f_X1_lead rc ld v4 v5).bind fun r6 =>
    (f_X2_takeOver pn bn ly pl sz ag lo lr li nr nd rw r6).bind fun r7 =>
    f_X2_copyHalf_L98 pn sz rc ld v4 fu r7.1 r7.2.1 r7.2.2.1 r7.2.2.2.1 r7.2.2.2.2.1 r7.2.2.2.2.2.1 r7.2.2.2.2.2.2.1 r7.2.2.2.2.2.2.2.1 r7.2.2.2.2.2.2.2.2.1 r7.2.2.2.2.2.2.2.2.2 (v5 + 1)
def f_X2_copyHalf_L59 (pn : Nat → Int32) (sz : Nat → Int32) (rc : Nat → Int32) (ld : Nat → Int32) (v4 : Int32) : Nat → (Nat → Int32) → (Nat → Int32) → (Nat → Int32) → (Nat → Int32) → (Nat → Int32) → (Nat → Int32) → (Nat → Int32) → (Nat → Int32) → (Nat → Int32) → (Nat → Int32) → Int32 → Option ((Nat → Int32) × (Nat → Int32) × (Nat → Int32) × (Nat → Int32) × (Nat → Int32) × (Nat → Int32) × (Nat → Int32) × (Nat → Int32) × (Nat → Int32) × (Nat → Int32))
  | 0, _, _, _, _, _, _, _, _, _, _, _ => none
  | fu + 1, bn, ly, pl, ag, lo, lr, li, nr, nd, rw, v5 =>
    (f_X1_ropes rc v4).bind fun r8 =>
    if r8 ≤ v5 then
    some (bn, ly, pl, ag, lo, lr, li, nr, nd, rw)
    else
    (f_X4_has nd v4).bind fun r10 =>
    if ¬ (q_bz r10) = 0 then
    some (bn, ly, pl, ag, lo, lr, li, nr, nd, rw)
    else
    (f_X1_lead rc ld v4 v5).bind fun r12 =>
    (f_X2_takeOver pn bn ly pl sz ag lo lr li nr nd rw r12).bind fun r13 =>
    f_X2_copyHalf_L59 pn sz rc ld v4 fu r13.1 r13.2.1 r13.2.2.1 r13.2.2.2.1 r13.2.2.2.2.1 r13.2.2.2.2.2.1 r13.2.2.2.2.2.2.1 r13.2.2.2.2.2.2.2.1 r13.2.2.2.2.2.2.2.2.1 r13.2.2.2.2.2.2.2.2.2 (v5 + 1)
def f_X2_copyHalf_L83 (pn : Nat → Int32) (sz : Nat → Int32) (rc : Nat → Int32) (ld : Nat → Int32) : Nat → (Nat → Int32) → (Nat → Int32) → (Nat → Int32) → (Nat → Int32) → (Nat → Int32) → (Nat → Int32) → (Nat → Int32) → (Nat → Int32) → (Nat → Int32) → (Nat → Int32) → Int32 → Option ((Nat → Int32) × (Nat → Int32) × (Nat → Int32) × (Nat → Int32) × (Nat → Int32) × (Nat → Int32) × (Nat → Int32) × (Nat → Int32) × (Nat → Int32) × (Nat → Int32))
  | 0, _, _, _, _, _, _, _, _, _, _, _ => none
  | fu + 1, bn, ly, pl, ag, lo, lr, li, nr, nd, rw, v3 =>
    if (128 : Int32) ≤ v3 then
    some (bn, ly, pl, ag, lo, lr, li, nr, nd, rw)
    else
    (f_X4_length li).bind fun r15 =>
    if r15 ≤ v3 then
    some (bn, ly, pl, ag, lo, lr, li, nr, nd, rw)
    else
    (f_X4_at li nr v3).bind fun r17 =>
    (f_X2_copyHalf_L98 pn sz rc ld r17 4096 bn ly pl ag lo lr li nr nd rw (0 : Int32)).bind fun r18 =>
    f_X2_copyHalf_L83 pn sz rc ld fu r18.1 r18.2.1 r18.2.2.1 r18.2.2.2.1 r18.2.2.2.2.1 r18.2.2.2.2.2.1 r18.2.2.2.2.2.2.1 r18.2.2.2.2.2.2.2.1 r18.2.2.2.2.2.2.2.2.1 r18.2.2.2.2.2.2.2.2.2 (v3 + 1)
def f_X2_copyHalf_L48 (pn : Nat → Int32) (sz : Nat → Int32) (rc : Nat → Int32) (ld : Nat → Int32) : Nat → (Nat → Int32) → (Nat → Int32) → (Nat → Int32) → (Nat → Int32) → (Nat → Int32) → (Nat → Int32) → (Nat → Int32) → (Nat → Int32) → (Nat → Int32) → (Nat → Int32) → Int32 → Option ((Nat → Int32) × (Nat → Int32) × (Nat → Int32) × (Nat → Int32) × (Nat → Int32) × (Nat → Int32) × (Nat → Int32) × (Nat → Int32) × (Nat → Int32) × (Nat → Int32))
  | 0, _, _, _, _, _, _, _, _, _, _, _ => none
  | fu + 1, bn, ly, pl, ag, lo, lr, li, nr, nd, rw, v3 =>
    if (pn 1) ≤ v3 then
    some (bn, ly, pl, ag, lo, lr, li, nr, nd, rw)
    else
    (f_X2_loftBaleFrom pl lo lr v3).bind fun r20 =>
    (f_X2_copyHalf_L59 pn sz rc ld r20 4096 bn ly pl ag lo lr li nr nd rw (0 : Int32)).bind fun r21 =>
    f_X2_copyHalf_L48 pn sz rc ld fu r21.1 r21.2.1 r21.2.2.1 r21.2.2.2.1 r21.2.2.2.2.1 r21.2.2.2.2.2.1 r21.2.2.2.2.2.2.1 r21.2.2.2.2.2.2.2.1 r21.2.2.2.2.2.2.2.2.1 r21.2.2.2.2.2.2.2.2.2 (v3 + 1)
def f_X2_copyHalf (pn : Nat → Int32) (bn : Nat → Int32) (ly : Nat → Int32) (pl : Nat → Int32) (sz : Nat → Int32) (ag : Nat → Int32) (rc : Nat → Int32) (ld : Nat → Int32) (lo : Nat → Int32) (lr : Nat → Int32) (li : Nat → Int32) (nr : Nat → Int32) (nd : Nat → Int32) (hk : Nat → Int32) (rw : Nat → Int32) (ro : Nat → Int32) : Option (Int32 × (Nat → Int32) × (Nat → Int32) × (Nat → Int32) × (Nat → Int32) × (Nat → Int32) × (Nat → Int32) × (Nat → Int32) × (Nat → Int32) × (Nat → Int32) × (Nat → Int32) × (Nat → Int32)) :=
  (f_X4_clear li nd).bind fun r22 =>
  (f_X2_copyHalf_L36 pn sz hk 4096 (q_up (q_up (q_up (q_up bn 7 (0 : Int32)) 8 (0 : Int32)) 9 ((1 : Int32) - ((q_up (q_up bn 7 (0 : Int32)) 8 (0 : Int32)) 9))) 12 (((q_up (q_up (q_up bn 7 (0 : Int32)) 8 (0 : Int32)) 9 ((1 : Int32) - ((q_up (q_up bn 7 (0 : Int32)) 8 (0 : Int32)) 9))) 12) + (1 : Int32))) ly pl ag lo lr r22.1 nr r22.2 ro (0 : Int32)).bind fun r23 =>
  (f_X2_copyHalf_L48 pn sz rc ld 4096 r23.1 r23.2.1 r23.2.2.1 r23.2.2.2.1 r23.2.2.2.2.1 r23.2.2.2.2.2.1 r23.2.2.2.2.2.2.1 r23.2.2.2.2.2.2.2.1 r23.2.2.2.2.2.2.2.2.1 r23.2.2.2.2.2.2.2.2.2 (0 : Int32)).bind fun r24 =>
  (f_X2_copyHalf_L83 pn sz rc ld 4096 r24.1 r24.2.1 r24.2.2.1 r24.2.2.2.1 r24.2.2.2.2.1 r24.2.2.2.2.2.1 r24.2.2.2.2.2.2.1 r24.2.2.2.2.2.2.2.1 r24.2.2.2.2.2.2.2.2.1 r24.2.2.2.2.2.2.2.2.2 (0 : Int32)).bind fun r25 =>
  (f_X2_loseRest r25.1 r25.2.1 r25.2.2.2.2.2.2.2.2.1 rw (bn 7)).bind fun r26 =>
  some (r26.1, r26.2.1, r26.2.2, r25.2.2.1, r25.2.2.2.1, r25.2.2.2.2.1, r25.2.2.2.2.2.1, r25.2.2.2.2.2.2.1, r25.2.2.2.2.2.2.2.1, r25.2.2.2.2.2.2.2.2.1, r25.2.2.2.2.2.2.2.2.2, rw)
def f_X1_add_L2 (ly : Nat → Int32) : Nat → Int32 → Option (Nat × Int32)
  | 0, _ => none
  | fu + 1, v4 =>
    if (128 : Int32) ≤ v4 then
    some (0, 0)
    else
    (q_ix v4 128).bind fun j2 =>
    if ¬ (ly j2) = 0 then
    f_X1_add_L2 ly fu (v4 + 1)
    else
    some (1, v4)
def f_X1_add_L37 (v4 : Int32) : Nat → (Nat → Int32) → Int32 → Option ((Nat → Int32))
  | 0, _, _ => none
  | fu + 1, ld, v5 =>
    if (3 : Int32) ≤ v5 then
    some (ld)
    else
    (q_ix ((v4 * (3 : Int32)) + v5) 384).bind fun j5 =>
    f_X1_add_L37 v4 fu (q_up ld j5 (-1 : Int32)) (v5 + 1)
def f_X1_add (ly : Nat → Int32) (pl : Nat → Int32) (sz : Nat → Int32) (ag : Nat → Int32) (rc : Nat → Int32) (ld : Nat → Int32) (x1 : Int32) (x2 : Int32) (x3 : Int32) : Option (Int32 × (Nat → Int32) × (Nat → Int32) × (Nat → Int32) × (Nat → Int32) × (Nat → Int32) × (Nat → Int32)) :=
  (f_X1_add_L2 ly 4096 (0 : Int32)).bind fun r6 =>
  if r6.1 = 0 then
  some ((-1 : Int32), ly, pl, sz, ag, rc, ld)
  else
  (q_ix r6.2 128).bind fun j7 =>
  (q_ix r6.2 128).bind fun j8 =>
  (q_ix r6.2 128).bind fun j9 =>
  (q_ix r6.2 128).bind fun j10 =>
  (q_ix r6.2 128).bind fun j11 =>
  (f_X1_add_L37 r6.2 4096 ld (0 : Int32)).bind fun r12 =>
  some (r6.2, (q_up ly j7 (1 : Int32)), (q_up pl j8 x1), (q_up sz j9 x2), (q_up ag j10 (0 : Int32)), (q_up rc j11 x3), r12)
def f_X2_hold (hk : Nat → Int32) (x1 : Int32) (x2 : Int32) : Option ((Nat → Int32)) :=
  if x1 < 0 then
  some (hk)
  else
  if (6 : Int32) ≤ x1 then
  some (hk)
  else
  (q_ix x1 6).bind fun j3 =>
  some ((q_up hk j3 x2))
def f_X2_makeBale (pn : Nat → Int32) (bn : Nat → Int32) (ly : Nat → Int32) (pl : Nat → Int32) (sz : Nat → Int32) (ag : Nat → Int32) (rc : Nat → Int32) (ld : Nat → Int32) (lo : Nat → Int32) (lr : Nat → Int32) (li : Nat → Int32) (nr : Nat → Int32) (nd : Nat → Int32) (hk : Nat → Int32) (rw : Nat → Int32) (ro : Nat → Int32) (x1 : Int32) (x2 : Int32) (x3 : Int32) : Option (Bool × (Nat → Int32) × (Nat → Int32) × (Nat → Int32) × (Nat → Int32) × (Nat → Int32) × (Nat → Int32) × (Nat → Int32) × (Nat → Int32) × (Nat → Int32) × (Nat → Int32) × (Nat → Int32) × (Nat → Int32) × (Nat → Int32) × (Nat → Int32) × (Nat → Int32)) :=
  (f_X2_freePlaces pn bn).bind fun r1 =>
  if x2 ≤ r1 then
  (f_X2_freePlaces pn bn).bind fun r3 =>
  if x2 ≤ r3 then
  (f_X1_add ly pl sz ag rc ld (bn 8) x2 x3).bind fun r5 =>
  if ¬ r5.1 = (-1 : Int32) then
  (f_X2_hold hk x1 r5.1).bind fun r7 =>
  (f_X2_layInRow bn rw r5.1 x2).bind fun r8 =>
  some (true, r8.1, r5.2.1, r5.2.2.1, r5.2.2.2.1, r5.2.2.2.2.1, r5.2.2.2.2.2.1, r5.2.2.2.2.2.2, lo, lr, li, nr, nd, r7, r8.2, ro)
  else
  some (false, bn, r5.2.1, r5.2.2.1, r5.2.2.2.1, r5.2.2.2.2.1, r5.2.2.2.2.2.1, r5.2.2.2.2.2.2, lo, lr, li, nr, nd, hk, rw, ro)
  else
  some (false, bn, ly, pl, sz, ag, rc, ld, lo, lr, li, nr, nd, hk, rw, ro)
  else
  (f_X2_copyHalf pn bn ly pl sz ag rc ld lo lr li nr nd hk rw ro).bind fun r9 =>
  (f_X2_freePlaces pn r9.2.1).bind fun r10 =>
  if x2 ≤ r10 then
  (f_X1_add r9.2.2.1 r9.2.2.2.1 sz r9.2.2.2.2.1 rc ld (r9.2.1 8) x2 x3).bind fun r12 =>
  if ¬ r12.1 = (-1 : Int32) then
  (f_X2_hold hk x1 r12.1).bind fun r14 =>
  (f_X2_layInRow r9.2.1 r9.2.2.2.2.2.2.2.2.2.2.1 r12.1 x2).bind fun r15 =>
  some (true, r15.1, r12.2.1, r12.2.2.1, r12.2.2.2.1, r12.2.2.2.2.1, r12.2.2.2.2.2.1, r12.2.2.2.2.2.2, r9.2.2.2.2.2.1, r9.2.2.2.2.2.2.1, r9.2.2.2.2.2.2.2.1, r9.2.2.2.2.2.2.2.2.1, r9.2.2.2.2.2.2.2.2.2.1, r14, r15.2, r9.2.2.2.2.2.2.2.2.2.2.2)
  else
  some (false, r9.2.1, r12.2.1, r12.2.2.1, r12.2.2.2.1, r12.2.2.2.2.1, r12.2.2.2.2.2.1, r12.2.2.2.2.2.2, r9.2.2.2.2.2.1, r9.2.2.2.2.2.2.1, r9.2.2.2.2.2.2.2.1, r9.2.2.2.2.2.2.2.2.1, r9.2.2.2.2.2.2.2.2.2.1, hk, r9.2.2.2.2.2.2.2.2.2.2.1, r9.2.2.2.2.2.2.2.2.2.2.2)
  else
  some (false, r9.2.1, r9.2.2.1, r9.2.2.2.1, sz, r9.2.2.2.2.1, rc, ld, r9.2.2.2.2.2.1, r9.2.2.2.2.2.2.1, r9.2.2.2.2.2.2.2.1, r9.2.2.2.2.2.2.2.2.1, r9.2.2.2.2.2.2.2.2.2.1, hk, r9.2.2.2.2.2.2.2.2.2.2.1, r9.2.2.2.2.2.2.2.2.2.2.2)
def f_X12_make (pn : Nat → Int32) (bn : Nat → Int32) (ly : Nat → Int32) (pl : Nat → Int32) (sz : Nat → Int32) (ag : Nat → Int32) (rc : Nat → Int32) (ld : Nat → Int32) (lo : Nat → Int32) (lr : Nat → Int32) (li : Nat → Int32) (nr : Nat → Int32) (nd : Nat → Int32) (hk : Nat → Int32) (rw : Nat → Int32) (ro : Nat → Int32) (x1 : Int32) (x2 : Int32) (x3 : Int32) : Option ((Int32 ⊕ String) × (Nat → Int32) × (Nat → Int32) × (Nat → Int32) × (Nat → Int32) × (Nat → Int32) × (Nat → Int32) × (Nat → Int32) × (Nat → Int32) × (Nat → Int32) × (Nat → Int32) × (Nat → Int32) × (Nat → Int32) × (Nat → Int32) × (Nat → Int32) × (Nat → Int32)) :=
  (f_X12_checkHook pn x1).bind fun r1 =>
  q_sm r1
  (fun v2 =>
  if x2 < (1 : Int32) then
  some (.inr "java/lang/IllegalArgumentException", bn, ly, pl, sz, ag, rc, ld, lo, lr, li, nr, nd, hk, rw, ro)
  else
  if (9 : Int32) < x2 then
  some (.inr "java/lang/IllegalArgumentException", bn, ly, pl, sz, ag, rc, ld, lo, lr, li, nr, nd, hk, rw, ro)
  else
  if x3 < 0 then
  some (.inr "java/lang/IllegalArgumentException", bn, ly, pl, sz, ag, rc, ld, lo, lr, li, nr, nd, hk, rw, ro)
  else
  if x3 ≤ (3 : Int32) then
  (f_X2_makeBale pn bn ly pl sz ag rc ld lo lr li nr nd hk rw ro x1 x2 x3).bind fun r9 =>
  if ¬ (q_bz r9.1) = 0 then
  (f_X2_held r9.2.2.2.2.2.2.2.2.2.2.2.2.2.1 x1).bind fun r11 =>
  (f_X1_place r9.2.2.2.1 r11).bind fun r12 =>
  some (.inl r12, r9.2.1, r9.2.2.1, r9.2.2.2.1, r9.2.2.2.2.1, r9.2.2.2.2.2.1, r9.2.2.2.2.2.2.1, r9.2.2.2.2.2.2.2.1, r9.2.2.2.2.2.2.2.2.1, r9.2.2.2.2.2.2.2.2.2.1, r9.2.2.2.2.2.2.2.2.2.2.1, r9.2.2.2.2.2.2.2.2.2.2.2.1, r9.2.2.2.2.2.2.2.2.2.2.2.2.1, r9.2.2.2.2.2.2.2.2.2.2.2.2.2.1, r9.2.2.2.2.2.2.2.2.2.2.2.2.2.2.1, r9.2.2.2.2.2.2.2.2.2.2.2.2.2.2.2)
  else
  some (.inr "java/lang/IllegalStateException", r9.2.1, r9.2.2.1, r9.2.2.2.1, r9.2.2.2.2.1, r9.2.2.2.2.2.1, r9.2.2.2.2.2.2.1, r9.2.2.2.2.2.2.2.1, r9.2.2.2.2.2.2.2.2.1, r9.2.2.2.2.2.2.2.2.2.1, r9.2.2.2.2.2.2.2.2.2.2.1, r9.2.2.2.2.2.2.2.2.2.2.2.1, r9.2.2.2.2.2.2.2.2.2.2.2.2.1, r9.2.2.2.2.2.2.2.2.2.2.2.2.2.1, r9.2.2.2.2.2.2.2.2.2.2.2.2.2.2.1, r9.2.2.2.2.2.2.2.2.2.2.2.2.2.2.2)
  else
  some (.inr "java/lang/IllegalArgumentException", bn, ly, pl, sz, ag, rc, ld, lo, lr, li, nr, nd, hk, rw, ro))
  (fun e3 => some (.inr e3, bn, ly, pl, sz, ag, rc, ld, lo, lr, li, nr, nd, hk, rw, ro))
def f_X1_setLead (rc : Nat → Int32) (ld : Nat → Int32) (x1 : Int32) (x2 : Int32) (x3 : Int32) : Option ((Nat → Int32)) :=
  (f_X1_hasRope rc x1 x2).bind fun r1 =>
  if (q_bz r1) = 0 then
  some (ld)
  else
  (q_ix ((x1 * (3 : Int32)) + x2) 384).bind fun j3 =>
  some ((q_up ld j3 x3))
def f_X2_tieRope (rc : Nat → Int32) (ld : Nat → Int32) (hk : Nat → Int32) (x1 : Int32) (x2 : Int32) (x3 : Int32) : Option (Bool × (Nat → Int32)) :=
  (f_X2_held hk x1).bind fun r1 =>
  (f_X2_held hk x3).bind fun r2 =>
  if r2 = (-1 : Int32) then
  some (false, ld)
  else
  (f_X1_hasRope rc r1 x2).bind fun r4 =>
  if ¬ (q_bz r4) = 0 then
  (f_X2_held hk x3).bind fun r6 =>
  (f_X1_setLead rc ld r1 x2 r6).bind fun r7 =>
  some (true, r7)
  else
  some (false, ld)
def f_X1_leadCount_L4 (rc : Nat → Int32) (ld : Nat → Int32) (v1 : Int32) : Nat → Int32 → Int32 → Option (Int32)
  | 0, _, _ => none
  | fu + 1, v2, v3 =>
    (f_X1_ropes rc v1).bind fun r1 =>
    if r1 ≤ v3 then
    some (v2)
    else
    (f_X1_lead rc ld v1 v3).bind fun r3 =>
    if r3 = (-1 : Int32) then
    f_X1_leadCount_L4 rc ld v1 fu v2 (v3 + 1)
    else
    f_X1_leadCount_L4 rc ld v1 fu (v2 + 1) (v3 + 1)
def f_X1_leadCount (rc : Nat → Int32) (ld : Nat → Int32) (x1 : Int32) : Option (Int32) :=
  (f_X1_leadCount_L4 rc ld x1 4096 (0 : Int32) (0 : Int32)).bind fun r5 =>
  some (r5)
def f_X12_tie (pn : Nat → Int32) (rc : Nat → Int32) (ld : Nat → Int32) (hk : Nat → Int32) (x1 : Int32) (x2 : Int32) (x3 : Int32) : Option ((Int32 ⊕ String) × (Nat → Int32)) :=
  (f_X12_checkHook pn x1).bind fun r1 =>
  q_sm r1
  (fun v2 =>
  (f_X12_checkHook pn x3).bind fun r5 =>
  q_sm r5
  (fun v6 =>
  (f_X2_tieRope rc ld hk x1 x2 x3).bind fun r9 =>
  if ¬ (q_bz r9.1) = 0 then
  (f_X2_held hk x1).bind fun r11 =>
  (f_X1_leadCount rc r9.2 r11).bind fun r12 =>
  some (.inl r12, r9.2)
  else
  some (.inr "java/lang/IllegalStateException", r9.2))
  (fun e7 => some (.inr e7, ld)))
  (fun e3 => some (.inr e3, ld))
def f_X2_followRope (rc : Nat → Int32) (ld : Nat → Int32) (hk : Nat → Int32) (x1 : Int32) (x2 : Int32) (x3 : Int32) : Option (Bool × (Nat → Int32)) :=
  (f_X2_held hk x2).bind fun r1 =>
  (f_X1_lead rc ld r1 x3).bind fun r2 =>
  if ¬ r2 = (-1 : Int32) then
  (f_X2_hold hk x1 r2).bind fun r4 =>
  some (true, r4)
  else
  some (false, hk)
def f_X12_follow (pn : Nat → Int32) (pl : Nat → Int32) (rc : Nat → Int32) (ld : Nat → Int32) (hk : Nat → Int32) (x1 : Int32) (x2 : Int32) (x3 : Int32) : Option ((Int32 ⊕ String) × (Nat → Int32)) :=
  (f_X12_checkHook pn x1).bind fun r1 =>
  q_sm r1
  (fun v2 =>
  (f_X12_checkHook pn x2).bind fun r5 =>
  q_sm r5
  (fun v6 =>
  (f_X2_followRope rc ld hk x1 x2 x3).bind fun r9 =>
  if ¬ (q_bz r9.1) = 0 then
  (f_X2_held r9.2 x1).bind fun r11 =>
  (f_X1_place pl r11).bind fun r12 =>
  some (.inl r12, r9.2)
  else
  some (.inr "java/lang/IllegalStateException", r9.2))
  (fun e7 => some (.inr e7, hk)))
  (fun e3 => some (.inr e3, hk))
def f_X2_dropBale (hk : Nat → Int32) (x1 : Int32) : Option (Bool × (Nat → Int32)) :=
  (f_X2_held hk x1).bind fun r1 =>
  if ¬ r1 = (-1 : Int32) then
  (f_X2_hold hk x1 (-1 : Int32)).bind fun r3 =>
  some (true, r3)
  else
  some (false, hk)
def f_X12_drop (pn : Nat → Int32) (bn : Nat → Int32) (rc : Nat → Int32) (ld : Nat → Int32) (lo : Nat → Int32) (li : Nat → Int32) (nr : Nat → Int32) (nd : Nat → Int32) (hk : Nat → Int32) (x1 : Int32) : Option ((Int32 ⊕ String) × (Nat → Int32) × (Nat → Int32) × (Nat → Int32) × (Nat → Int32)) :=
  (f_X12_checkHook pn x1).bind fun r1 =>
  q_sm r1
  (fun v2 =>
  (f_X2_dropBale hk x1).bind fun r5 =>
  if ¬ (q_bz r5.1) = 0 then
  (f_X2_uselessCount bn rc ld lo li nr nd r5.2).bind fun r7 =>
  some (.inl r7.1, r7.2.1, r7.2.2.1, r7.2.2.2, r5.2)
  else
  some (.inr "java/lang/IllegalStateException", li, nr, nd, r5.2))
  (fun e3 => some (.inr e3, li, nr, nd, hk))
def f_X12_copyNow (pn : Nat → Int32) (bn : Nat → Int32) (ly : Nat → Int32) (pl : Nat → Int32) (sz : Nat → Int32) (ag : Nat → Int32) (rc : Nat → Int32) (ld : Nat → Int32) (lo : Nat → Int32) (lr : Nat → Int32) (li : Nat → Int32) (nr : Nat → Int32) (nd : Nat → Int32) (hk : Nat → Int32) (rw : Nat → Int32) (ro : Nat → Int32) : Option (Int32 × (Nat → Int32) × (Nat → Int32) × (Nat → Int32) × (Nat → Int32) × (Nat → Int32) × (Nat → Int32) × (Nat → Int32) × (Nat → Int32) × (Nat → Int32) × (Nat → Int32) × (Nat → Int32)) :=
  (f_X2_copyHalf pn bn ly pl sz ag rc ld lo lr li nr nd hk rw ro).bind fun r1 =>
  some (r1.1, r1.2.1, r1.2.2.1, r1.2.2.2.1, r1.2.2.2.2.1, r1.2.2.2.2.2.1, r1.2.2.2.2.2.2.1, r1.2.2.2.2.2.2.2.1, r1.2.2.2.2.2.2.2.2.1, r1.2.2.2.2.2.2.2.2.2.1, r1.2.2.2.2.2.2.2.2.2.2.1, r1.2.2.2.2.2.2.2.2.2.2.2)
def f_X1_isGone (ly : Nat → Int32) (x1 : Int32) : Option (Bool) :=
  if x1 < 0 then
  some (true)
  else
  if (128 : Int32) ≤ x1 then
  some (true)
  else
  (q_ix x1 128).bind fun j3 =>
  if ¬ (ly j3) = 0 then
  some (false)
  else
  some (true)
def f_X1_untieFromGone_L7 (ly : Nat → Int32) (rc : Nat → Int32) (v1 : Int32) : Nat → (Nat → Int32) → Int32 → Option ((Nat → Int32))
  | 0, _, _ => none
  | fu + 1, ld, v2 =>
    (f_X1_ropes rc v1).bind fun r1 =>
    if r1 ≤ v2 then
    some (ld)
    else
    (f_X1_lead rc ld v1 v2).bind fun r3 =>
    (f_X1_isGone ly r3).bind fun r4 =>
    if (q_bz r4) = 0 then
    f_X1_untieFromGone_L7 ly rc v1 fu ld (v2 + 1)
    else
    (f_X1_setLead rc ld v1 v2 (-1 : Int32)).bind fun r6 =>
    f_X1_untieFromGone_L7 ly rc v1 fu r6 (v2 + 1)
def f_X1_untieFromGone_L2 (ly : Nat → Int32) (rc : Nat → Int32) : Nat → (Nat → Int32) → Int32 → Option ((Nat → Int32))
  | 0, _, _ => none
  | fu + 1, ld, v1 =>
    if (128 : Int32) ≤ v1 then
    some (ld)
    else
    (f_X1_untieFromGone_L7 ly rc v1 4096 ld (0 : Int32)).bind fun r8 =>
    f_X1_untieFromGone_L2 ly rc fu r8 (v1 + 1)
def f_X1_untieFromGone (ly : Nat → Int32) (rc : Nat → Int32) (ld : Nat → Int32) : Option ((Nat → Int32)) :=
  (f_X1_untieFromGone_L2 ly rc 4096 ld (0 : Int32)).bind fun r9 =>
  some (r9)
def f_X2_sweep_L6 (pn : Nat → Int32) (pl : Nat → Int32) (sz : Nat → Int32) (nd : Nat → Int32) : Nat → (Nat → Int32) → (Nat → Int32) → (Nat → Int32) → Int32 → Int32 → Option (Int32 × (Nat → Int32) × (Nat → Int32) × (Nat → Int32))
  | 0, _, _, _, _, _ => none
  | fu + 1, ly, lo, lr, v1, v2 =>
    if (pn 1) ≤ v2 then
    some (v1, ly, lo, lr)
    else
    (f_X2_loftBaleFrom pl lo lr v2).bind fun r2 =>
    if r2 = (-1 : Int32) then
    f_X2_sweep_L6 pn pl sz nd fu ly lo lr v1 (v2 + 1)
    else
    (f_X4_has nd r2).bind fun r4 =>
    if ¬ (q_bz r4) = 0 then
    f_X2_sweep_L6 pn pl sz nd fu ly lo lr v1 (v2 + 1)
    else
    (f_X1_size sz r2).bind fun r6 =>
    (f_X5_lay lo lr (-1 : Int32) v2 r6).bind fun r7 =>
    (f_X1_remove ly r2).bind fun r8 =>
    f_X2_sweep_L6 pn pl sz nd fu r8 r7.1 r7.2 (v1 + 1) (v2 + 1)
def f_X2_sweep (pn : Nat → Int32) (bn : Nat → Int32) (ly : Nat → Int32) (pl : Nat → Int32) (sz : Nat → Int32) (rc : Nat → Int32) (ld : Nat → Int32) (lo : Nat → Int32) (lr : Nat → Int32) (li : Nat → Int32) (nr : Nat → Int32) (nd : Nat → Int32) (hk : Nat → Int32) : Option (Int32 × (Nat → Int32) × (Nat → Int32) × (Nat → Int32) × (Nat → Int32) × (Nat → Int32) × (Nat → Int32) × (Nat → Int32) × (Nat → Int32)) :=
  (f_X2_findReached rc ld li nr nd hk).bind fun r9 =>
  (f_X2_sweep_L6 pn pl sz r9.2.2 4096 ly lo lr (0 : Int32) (0 : Int32)).bind fun r10 =>
  (f_X1_untieFromGone r10.2.1 rc ld).bind fun r11 =>
  some (r10.1, (q_up bn 14 ((bn 14) + r10.1)), r10.2.1, r11, r10.2.2.1, r10.2.2.2, r9.1, r9.2.1, r9.2.2)
def f_X12_sweepLoft (pn : Nat → Int32) (bn : Nat → Int32) (ly : Nat → Int32) (pl : Nat → Int32) (sz : Nat → Int32) (rc : Nat → Int32) (ld : Nat → Int32) (lo : Nat → Int32) (lr : Nat → Int32) (li : Nat → Int32) (nr : Nat → Int32) (nd : Nat → Int32) (hk : Nat → Int32) : Option (Int32 × (Nat → Int32) × (Nat → Int32) × (Nat → Int32) × (Nat → Int32) × (Nat → Int32) × (Nat → Int32) × (Nat → Int32) × (Nat → Int32)) :=
  (f_X2_sweep pn bn ly pl sz rc ld lo lr li nr nd hk).bind fun r1 =>
  some (r1.1, r1.2.1, r1.2.2.1, r1.2.2.2.1, r1.2.2.2.2.1, r1.2.2.2.2.2.1, r1.2.2.2.2.2.2.1, r1.2.2.2.2.2.2.2.1, r1.2.2.2.2.2.2.2.2)
def f_X12_checkWork (pn : Nat → Int32) (x1 : Int32) : Option ((Unit ⊕ String)) :=
  if x1 < (1 : Int32) then
  some (.inr "java/lang/IllegalArgumentException")
  else
  if x1 ≤ (100 : Int32) then
  if ¬ (pn 4) = 0 then
  some (.inl ())
  else
  some (.inr "java/lang/IllegalStateException")
  else
  some (.inr "java/lang/IllegalArgumentException")
def f_X6_stepWith (x1 : Int32) : Option (Nat) :=
  (q_ix (q_min (q_max x1 (0 : Int32)) (19 : Int32)) 20).bind fun j1 =>
  some (j1)
def f_X10_hasTest (T1 : Nat → Nat → Int32) (x0 : Nat) : Option (Bool) :=
  (q_t20 x0).bind fun ug0 =>
  if (T1 x0 7) ≤ (T1 x0 6) then
  some (false)
  else
  some (true)
def f_X6_isOrder (pn : Nat → Int32) (x1 : Int32) : Option (Bool) :=
  if x1 < 0 then
  some (false)
  else
  if (pn 5) ≤ x1 then
  some (false)
  else
  if (400 : Int32) ≤ x1 then
  some (false)
  else
  some (true)
def f_X6_order (pn : Nat → Int32) (od : Nat → Option Nat) (x1 : Int32) : Option (Nat) :=
  (f_X6_isOrder pn x1).bind fun r1 =>
  if (q_bz r1) = 0 then
  some (1)
  else
  (q_ix x1 400).bind fun j3 =>
  q_on (od j3)
  (some (1))
  (fun b4 =>
  some (b4))
def f_X6_orderNumber (pn : Nat → Int32) (nu : Nat → Int32) (x1 : Int32) : Option (Int32) :=
  (f_X6_isOrder pn x1).bind fun r1 =>
  if (q_bz r1) = 0 then
  some ((0 : Int32))
  else
  (q_ix x1 400).bind fun j3 =>
  some ((nu j3))
def f_X8_pop (rk : Nat → Int32) (sk : Nat → Int32) : Option (Int32 × (Nat → Int32)) :=
  if (rk 1) ≤ 0 then
  some ((0 : Int32), rk)
  else
  if (rk 1) ≤ (400 : Int32) then
  (q_ix ((q_up rk 1 ((rk 1) - (1 : Int32))) 1) 400).bind fun j3 =>
  some ((sk j3), (q_up rk 1 ((rk 1) - (1 : Int32))))
  else
  some ((0 : Int32), rk)
def f_X8_push (rk : Nat → Int32) (sk : Nat → Int32) (x1 : Int32) : Option ((Nat → Int32) × (Nat → Int32)) :=
  if (rk 1) < 0 then
  some (rk, sk)
  else
  if (400 : Int32) ≤ (rk 1) then
  some (rk, sk)
  else
  (q_ix (rk 1) 400).bind fun j3 =>
  some ((q_up rk 1 ((rk 1) + (1 : Int32))), (q_up sk j3 x1))
def f_X8_one (x0 : Bool) : Option (Int32) :=
  if (q_bz x0) = 0 then
  some ((0 : Int32))
  else
  some ((1 : Int32))
def f_X8_value (pn : Nat → Int32) (bn : Nat → Int32) (sz : Nat → Int32) (ag : Nat → Int32) (lo : Nat → Int32) (hk : Nat → Int32) (x1 : Nat) (x2 : Int32) : Option (Int32) :=
  (q_e49 x1).bind fun ug1 =>
  (q_ix (nI x1) 49).bind fun j1 =>
  if (q_sw j1) = 7 then
  (f_X2_held hk x2).bind fun r2 =>
  if r2 = (-1 : Int32) then
  (f_X8_one false).bind fun r4 =>
  some (r4)
  else
  (f_X8_one true).bind fun r5 =>
  some (r5)
  else
  if (q_sw j1) = 8 then
  (f_X2_sameHeld hk (x2 / (6 : Int32)) (x2 - x2 / (6 : Int32) * (6 : Int32))).bind fun r6 =>
  (f_X8_one r6).bind fun r7 =>
  some (r7)
  else
  if (q_sw j1) = 9 then
  some (x2)
  else
  if (q_sw j1) = 10 then
  some ((bn 10))
  else
  if (q_sw j1) = 11 then
  some ((bn 8))
  else
  if (q_sw j1) = 12 then
  (f_X2_freePlaces pn bn).bind fun r8 =>
  some (r8)
  else
  if (q_sw j1) = 13 then
  some ((bn 12))
  else
  if (q_sw j1) = 14 then
  (f_X2_baleCount bn lo).bind fun r9 =>
  some (r9)
  else
  if (q_sw j1) = 15 then
  (f_X2_held hk x2).bind fun r10 =>
  (f_X1_size sz r10).bind fun r11 =>
  some (r11)
  else
  if (q_sw j1) = 16 then
  (f_X2_held hk x2).bind fun r12 =>
  (f_X1_age ag r12).bind fun r13 =>
  some (r13)
  else
  (f_X2_sameHeld hk (x2 / (6 : Int32)) (x2 - x2 / (6 : Int32) * (6 : Int32))).bind fun r14 =>
  (f_X8_one r14).bind fun r15 =>
  some (r15)
def f_X8_joined (x0 : Nat) (x1 : Int32) (x2 : Int32) : Option (Int32) :=
  (q_e49 x0).bind fun ug0 =>
  (q_ix (nI x0) 49).bind fun j1 =>
  if (q_sw j1) = 17 then
  some ((x1 - x2))
  else
  if (q_sw j1) = 18 then
  some ((0 : Int32))
  else
  if (q_sw j1) = 19 then
  some ((q_min x1 x2))
  else
  if (q_sw j1) = 20 then
  some ((q_max x1 x2))
  else
  if (q_sw j1) = 21 then
  some ((0 : Int32))
  else
  if (q_sw j1) = 22 then
  some ((x1 + x2))
  else
  if (q_sw j1) = 23 then
  some ((x1 * x2))
  else
  if (q_sw j1) = 24 then
  if ¬ x2 = 0 then
  (q_nz x2).bind fun u3 =>
  some ((x1 / x2))
  else
  some ((0 : Int32))
  else
  if (q_sw j1) = 25 then
  if x2 ≤ x1 then
  (f_X8_one false).bind fun r6 =>
  some (r6)
  else
  (f_X8_one true).bind fun r7 =>
  some (r7)
  else
  if (q_sw j1) = 26 then
  if x1 ≤ x2 then
  (f_X8_one false).bind fun r9 =>
  some (r9)
  else
  (f_X8_one true).bind fun r10 =>
  some (r10)
  else
  if (q_sw j1) = 27 then
  if ¬ x1 = x2 then
  (f_X8_one false).bind fun r12 =>
  some (r12)
  else
  (f_X8_one true).bind fun r13 =>
  some (r13)
  else
  if (q_sw j1) = 28 then
  if x2 < x1 then
  (f_X8_one false).bind fun r15 =>
  some (r15)
  else
  (f_X8_one true).bind fun r16 =>
  some (r16)
  else
  if (q_sw j1) = 29 then
  if x1 < x2 then
  (f_X8_one false).bind fun r18 =>
  some (r18)
  else
  (f_X8_one true).bind fun r19 =>
  some (r19)
  else
  if (q_sw j1) = 30 then
  some ((x1 &&& x2))
  else
  if (q_sw j1) = 31 then
  some ((x1 ||| x2))
  else
  some ((0 : Int32))
def f_X8_obey (pn : Nat → Int32) (bn : Nat → Int32) (sz : Nat → Int32) (ag : Nat → Int32) (lo : Nat → Int32) (hk : Nat → Int32) (rk : Nat → Int32) (sk : Nat → Int32) (x2 : Nat) (x3 : Int32) : Option ((Nat → Int32) × (Nat → Int32)) :=
  (q_e49 x2).bind fun ug2 =>
  (q_ix (nI x2) 49).bind fun j1 =>
  if (q_sw j1) = 5 then
  (f_X8_pop rk sk).bind fun r2 =>
  (f_X8_push r2.2 sk ((1 : Int32) - r2.1)).bind fun r3 =>
  some (r3.1, r3.2)
  else
  if (q_sw j1) = 6 then
  (f_X8_pop rk sk).bind fun r4 =>
  (f_X8_pop r4.2 sk).bind fun r5 =>
  (f_X8_joined x2 r5.1 r4.1).bind fun r6 =>
  (f_X8_push r5.2 sk r6).bind fun r7 =>
  some (r7.1, r7.2)
  else
  if (q_sw j1) = 7 then
  (f_X8_value pn bn sz ag lo hk x2 x3).bind fun r8 =>
  (f_X8_push rk sk r8).bind fun r9 =>
  some (r9.1, r9.2)
  else
  if (q_sw j1) = 8 then
  (f_X8_value pn bn sz ag lo hk x2 x3).bind fun r10 =>
  (f_X8_push rk sk r10).bind fun r11 =>
  some (r11.1, r11.2)
  else
  if (q_sw j1) = 9 then
  (f_X8_value pn bn sz ag lo hk x2 x3).bind fun r12 =>
  (f_X8_push rk sk r12).bind fun r13 =>
  some (r13.1, r13.2)
  else
  if (q_sw j1) = 10 then
  (f_X8_value pn bn sz ag lo hk x2 x3).bind fun r14 =>
  (f_X8_push rk sk r14).bind fun r15 =>
  some (r15.1, r15.2)
  else
  if (q_sw j1) = 11 then
  (f_X8_value pn bn sz ag lo hk x2 x3).bind fun r16 =>
  (f_X8_push rk sk r16).bind fun r17 =>
  some (r17.1, r17.2)
  else
  if (q_sw j1) = 12 then
  (f_X8_value pn bn sz ag lo hk x2 x3).bind fun r18 =>
  (f_X8_push rk sk r18).bind fun r19 =>
  some (r19.1, r19.2)
  else
  if (q_sw j1) = 13 then
  (f_X8_value pn bn sz ag lo hk x2 x3).bind fun r20 =>
  (f_X8_push rk sk r20).bind fun r21 =>
  some (r21.1, r21.2)
  else
  if (q_sw j1) = 14 then
  (f_X8_value pn bn sz ag lo hk x2 x3).bind fun r22 =>
  (f_X8_push rk sk r22).bind fun r23 =>
  some (r23.1, r23.2)
  else
  if (q_sw j1) = 15 then
  (f_X8_value pn bn sz ag lo hk x2 x3).bind fun r24 =>
  (f_X8_push rk sk r24).bind fun r25 =>
  some (r25.1, r25.2)
  else
  if (q_sw j1) = 16 then
  (f_X8_value pn bn sz ag lo hk x2 x3).bind fun r26 =>
  (f_X8_push rk sk r26).bind fun r27 =>
  some (r27.1, r27.2)
  else
  if (q_sw j1) = 17 then
  (f_X8_pop rk sk).bind fun r28 =>
  (f_X8_pop r28.2 sk).bind fun r29 =>
  (f_X8_joined x2 r29.1 r28.1).bind fun r30 =>
  (f_X8_push r29.2 sk r30).bind fun r31 =>
  some (r31.1, r31.2)
  else
  if (q_sw j1) = 18 then
  (f_X8_pop rk sk).bind fun r32 =>
  (f_X8_pop r32.2 sk).bind fun r33 =>
  (f_X8_joined x2 r33.1 r32.1).bind fun r34 =>
  (f_X8_push r33.2 sk r34).bind fun r35 =>
  some (r35.1, r35.2)
  else
  if (q_sw j1) = 19 then
  (f_X8_pop rk sk).bind fun r36 =>
  (f_X8_pop r36.2 sk).bind fun r37 =>
  (f_X8_joined x2 r37.1 r36.1).bind fun r38 =>
  (f_X8_push r37.2 sk r38).bind fun r39 =>
  some (r39.1, r39.2)
  else
  if (q_sw j1) = 20 then
  (f_X8_pop rk sk).bind fun r40 =>
  (f_X8_pop r40.2 sk).bind fun r41 =>
  (f_X8_joined x2 r41.1 r40.1).bind fun r42 =>
  (f_X8_push r41.2 sk r42).bind fun r43 =>
  some (r43.1, r43.2)
  else
  if (q_sw j1) = 21 then
  (f_X8_pop rk sk).bind fun r44 =>
  (f_X8_push r44.2 sk (-r44.1)).bind fun r45 =>
  some (r45.1, r45.2)
  else
  (f_X8_pop rk sk).bind fun r46 =>
  (f_X8_pop r46.2 sk).bind fun r47 =>
  (f_X8_joined x2 r47.1 r46.1).bind fun r48 =>
  (f_X8_push r47.2 sk r48).bind fun r49 =>
  some (r49.1, r49.2)
def f_X8_reckon_L5 (pn : Nat → Int32) (nu : Nat → Int32) (bn : Nat → Int32) (sz : Nat → Int32) (ag : Nat → Int32) (lo : Nat → Int32) (hk : Nat → Int32) (od : Nat → Option Nat) (v2 : Int32) (v3 : Int32) : Nat → (Nat → Int32) → (Nat → Int32) → Int32 → Option ((Nat → Int32) × (Nat → Int32))
  | 0, _, _, _ => none
  | fu + 1, rk, sk, v4 =>
    if (400 : Int32) ≤ v4 then
    some (rk, sk)
    else
    if v3 ≤ (v2 + v4) then
    some (rk, sk)
    else
    (f_X6_order pn od (v2 + v4)).bind fun r3 =>
    (q_e49 r3).bind fun u4 =>
    (f_X6_orderNumber pn nu (v2 + v4)).bind fun r6 =>
    (f_X8_obey pn bn sz ag lo hk rk sk r3 r6).bind fun r7 =>
    f_X8_reckon_L5 pn nu bn sz ag lo hk od v2 v3 fu r7.1 r7.2 (v4 + 1)
def f_X8_reckon (pn : Nat → Int32) (nu : Nat → Int32) (bn : Nat → Int32) (sz : Nat → Int32) (ag : Nat → Int32) (lo : Nat → Int32) (hk : Nat → Int32) (rk : Nat → Int32) (sk : Nat → Int32) (od : Nat → Option Nat) (x2 : Int32) (x3 : Int32) : Option (Int32 × (Nat → Int32) × (Nat → Int32)) :=
  (f_X8_reckon_L5 pn nu bn sz ag lo hk od x2 x3 4096 (q_up rk 1 (0 : Int32)) sk (0 : Int32)).bind fun r8 =>
  (f_X8_pop r8.1 r8.2).bind fun r9 =>
  some (r9.1, r9.2, r8.2)
def f_X2_untieRope (rc : Nat → Int32) (ld : Nat → Int32) (hk : Nat → Int32) (x1 : Int32) (x2 : Int32) : Option (Bool × (Nat → Int32)) :=
  (f_X2_held hk x1).bind fun r1 =>
  (f_X1_hasRope rc r1 x2).bind fun r2 =>
  if ¬ (q_bz r2) = 0 then
  (f_X1_setLead rc ld r1 x2 (-1 : Int32)).bind fun r4 =>
  some (true, r4)
  else
  some (false, ld)
def f_X3_perform (pn : Nat → Int32) (nu : Nat → Int32) (bn : Nat → Int32) (ly : Nat → Int32) (pl : Nat → Int32) (sz : Nat → Int32) (ag : Nat → Int32) (rc : Nat → Int32) (ld : Nat → Int32) (lo : Nat → Int32) (lr : Nat → Int32) (li : Nat → Int32) (nr : Nat → Int32) (nd : Nat → Int32) (hk : Nat → Int32) (rw : Nat → Int32) (ro : Nat → Int32) (rk : Nat → Int32) (sk : Nat → Int32) (od : Nat → Option Nat) (T1 : Nat → Nat → Int32) (K1 : Nat → Nat → Option Nat) (x2 : Nat) : Option (Bool × (Nat → Int32) × (Nat → Int32) × (Nat → Int32) × (Nat → Int32) × (Nat → Int32) × (Nat → Int32) × (Nat → Int32) × (Nat → Int32) × (Nat → Int32) × (Nat → Int32) × (Nat → Int32) × (Nat → Int32) × (Nat → Int32) × (Nat → Int32) × (Nat → Int32) × (Nat → Int32) × (Nat → Int32)) :=
  (q_t20 x2).bind fun ug2 =>
  q_on (K1 x2 0)
  none
  (fun b1 =>
  (q_ix (nI b1) 49).bind fun j4 =>
  if (q_sw j4) = 32 then
  (f_X8_reckon pn nu bn sz ag lo hk rk sk od (T1 x2 4) (T1 x2 5)).bind fun r5 =>
  (f_X2_makeBale pn bn ly pl sz ag rc ld lo lr li nr nd hk rw ro (T1 x2 1) (q_min (q_max r5.1 (1 : Int32)) (9 : Int32)) (T1 x2 3)).bind fun r6 =>
  some (r6.1, r6.2.1, r6.2.2.1, r6.2.2.2.1, r6.2.2.2.2.1, r6.2.2.2.2.2.1, r6.2.2.2.2.2.2.1, r6.2.2.2.2.2.2.2.1, r6.2.2.2.2.2.2.2.2.1, r6.2.2.2.2.2.2.2.2.2.1, r6.2.2.2.2.2.2.2.2.2.2.1, r6.2.2.2.2.2.2.2.2.2.2.2.1, r6.2.2.2.2.2.2.2.2.2.2.2.2.1, r6.2.2.2.2.2.2.2.2.2.2.2.2.2.1, r6.2.2.2.2.2.2.2.2.2.2.2.2.2.2.1, r6.2.2.2.2.2.2.2.2.2.2.2.2.2.2.2, r5.2.1, r5.2.2)
  else
  if (q_sw j4) = 33 then
  (f_X2_tieRope rc ld hk (T1 x2 1) (T1 x2 3) (T1 x2 2)).bind fun r7 =>
  some (r7.1, bn, ly, pl, sz, ag, rc, r7.2, lo, lr, li, nr, nd, hk, rw, ro, rk, sk)
  else
  if (q_sw j4) = 34 then
  (f_X2_untieRope rc ld hk (T1 x2 1) (T1 x2 3)).bind fun r8 =>
  some (r8.1, bn, ly, pl, sz, ag, rc, r8.2, lo, lr, li, nr, nd, hk, rw, ro, rk, sk)
  else
  if (q_sw j4) = 35 then
  (f_X2_followRope rc ld hk (T1 x2 1) (T1 x2 2) (T1 x2 3)).bind fun r9 =>
  some (r9.1, bn, ly, pl, sz, ag, rc, ld, lo, lr, li, nr, nd, r9.2, rw, ro, rk, sk)
  else
  (f_X2_dropBale hk (T1 x2 1)).bind fun r10 =>
  some (r10.1, bn, ly, pl, sz, ag, rc, ld, lo, lr, li, nr, nd, r10.2, rw, ro, rk, sk))
def f_X3_passNext (pn : Nat → Int32) (nu : Nat → Int32) (bn : Nat → Int32) (ly : Nat → Int32) (pl : Nat → Int32) (sz : Nat → Int32) (ag : Nat → Int32) (rc : Nat → Int32) (ld : Nat → Int32) (lo : Nat → Int32) (lr : Nat → Int32) (li : Nat → Int32) (nr : Nat → Int32) (nd : Nat → Int32) (hk : Nat → Int32) (rw : Nat → Int32) (ro : Nat → Int32) (rk : Nat → Int32) (sk : Nat → Int32) (od : Nat → Option Nat) (T1 : Nat → Nat → Int32) (K1 : Nat → Nat → Option Nat) : Option (Bool × (Nat → Int32) × (Nat → Int32) × (Nat → Int32) × (Nat → Int32) × (Nat → Int32) × (Nat → Int32) × (Nat → Int32) × (Nat → Int32) × (Nat → Int32) × (Nat → Int32) × (Nat → Int32) × (Nat → Int32) × (Nat → Int32) × (Nat → Int32) × (Nat → Int32) × (Nat → Int32) × (Nat → Int32)) :=
  if 0 < (pn 4) then
  (q_nz (pn 4)).bind fun u2 =>
  (f_X6_stepWith ((bn 10) - (bn 10) / (pn 4) * (pn 4))).bind fun r4 =>
  (q_t20 r4).bind fun u5 =>
  (f_X10_hasTest T1 r4).bind fun r7 =>
  if (q_bz r7) = 0 then
  if (1 : Int32) = 0 then
  if (1 : Int32) = 0 then
  some (false, (q_up bn 10 ((bn 10) + (1 : Int32))), ly, pl, sz, ag, rc, ld, lo, lr, li, nr, nd, hk, rw, ro, rk, sk)
  else
  if ¬ (0 : Int32) = 0 then
  some (false, (q_up bn 10 ((bn 10) + (1 : Int32))), ly, pl, sz, ag, rc, ld, lo, lr, li, nr, nd, hk, rw, ro, rk, sk)
  else
  some (false, (q_up (q_up bn 11 ((bn 11) + (1 : Int32))) 10 (((q_up bn 11 ((bn 11) + (1 : Int32))) 10) + (1 : Int32))), ly, pl, sz, ag, rc, ld, lo, lr, li, nr, nd, hk, rw, ro, rk, sk)
  else
  (f_X3_perform pn nu bn ly pl sz ag rc ld lo lr li nr nd hk rw ro rk sk od T1 K1 r4).bind fun r12 =>
  if (q_bz r12.1) = 0 then
  if (1 : Int32) = 0 then
  some (false, (q_up r12.2.1 10 ((r12.2.1 10) + (1 : Int32))), r12.2.2.1, r12.2.2.2.1, r12.2.2.2.2.1, r12.2.2.2.2.2.1, r12.2.2.2.2.2.2.1, r12.2.2.2.2.2.2.2.1, r12.2.2.2.2.2.2.2.2.1, r12.2.2.2.2.2.2.2.2.2.1, r12.2.2.2.2.2.2.2.2.2.2.1, r12.2.2.2.2.2.2.2.2.2.2.2.1, r12.2.2.2.2.2.2.2.2.2.2.2.2.1, r12.2.2.2.2.2.2.2.2.2.2.2.2.2.1, r12.2.2.2.2.2.2.2.2.2.2.2.2.2.2.1, r12.2.2.2.2.2.2.2.2.2.2.2.2.2.2.2.1, r12.2.2.2.2.2.2.2.2.2.2.2.2.2.2.2.2.1, r12.2.2.2.2.2.2.2.2.2.2.2.2.2.2.2.2.2)
  else
  if ¬ (0 : Int32) = 0 then
  some (false, (q_up r12.2.1 10 ((r12.2.1 10) + (1 : Int32))), r12.2.2.1, r12.2.2.2.1, r12.2.2.2.2.1, r12.2.2.2.2.2.1, r12.2.2.2.2.2.2.1, r12.2.2.2.2.2.2.2.1, r12.2.2.2.2.2.2.2.2.1, r12.2.2.2.2.2.2.2.2.2.1, r12.2.2.2.2.2.2.2.2.2.2.1, r12.2.2.2.2.2.2.2.2.2.2.2.1, r12.2.2.2.2.2.2.2.2.2.2.2.2.1, r12.2.2.2.2.2.2.2.2.2.2.2.2.2.1, r12.2.2.2.2.2.2.2.2.2.2.2.2.2.2.1, r12.2.2.2.2.2.2.2.2.2.2.2.2.2.2.2.1, r12.2.2.2.2.2.2.2.2.2.2.2.2.2.2.2.2.1, r12.2.2.2.2.2.2.2.2.2.2.2.2.2.2.2.2.2)
  else
  some (false, (q_up (q_up r12.2.1 11 ((r12.2.1 11) + (1 : Int32))) 10 (((q_up r12.2.1 11 ((r12.2.1 11) + (1 : Int32))) 10) + (1 : Int32))), r12.2.2.1, r12.2.2.2.1, r12.2.2.2.2.1, r12.2.2.2.2.2.1, r12.2.2.2.2.2.2.1, r12.2.2.2.2.2.2.2.1, r12.2.2.2.2.2.2.2.2.1, r12.2.2.2.2.2.2.2.2.2.1, r12.2.2.2.2.2.2.2.2.2.2.1, r12.2.2.2.2.2.2.2.2.2.2.2.1, r12.2.2.2.2.2.2.2.2.2.2.2.2.1, r12.2.2.2.2.2.2.2.2.2.2.2.2.2.1, r12.2.2.2.2.2.2.2.2.2.2.2.2.2.2.1, r12.2.2.2.2.2.2.2.2.2.2.2.2.2.2.2.1, r12.2.2.2.2.2.2.2.2.2.2.2.2.2.2.2.2.1, r12.2.2.2.2.2.2.2.2.2.2.2.2.2.2.2.2.2)
  else
  if (1 : Int32) = 0 then
  some (true, (q_up r12.2.1 10 ((r12.2.1 10) + (1 : Int32))), r12.2.2.1, r12.2.2.2.1, r12.2.2.2.2.1, r12.2.2.2.2.2.1, r12.2.2.2.2.2.2.1, r12.2.2.2.2.2.2.2.1, r12.2.2.2.2.2.2.2.2.1, r12.2.2.2.2.2.2.2.2.2.1, r12.2.2.2.2.2.2.2.2.2.2.1, r12.2.2.2.2.2.2.2.2.2.2.2.1, r12.2.2.2.2.2.2.2.2.2.2.2.2.1, r12.2.2.2.2.2.2.2.2.2.2.2.2.2.1, r12.2.2.2.2.2.2.2.2.2.2.2.2.2.2.1, r12.2.2.2.2.2.2.2.2.2.2.2.2.2.2.2.1, r12.2.2.2.2.2.2.2.2.2.2.2.2.2.2.2.2.1, r12.2.2.2.2.2.2.2.2.2.2.2.2.2.2.2.2.2)
  else
  if ¬ (1 : Int32) = 0 then
  some (true, (q_up r12.2.1 10 ((r12.2.1 10) + (1 : Int32))), r12.2.2.1, r12.2.2.2.1, r12.2.2.2.2.1, r12.2.2.2.2.2.1, r12.2.2.2.2.2.2.1, r12.2.2.2.2.2.2.2.1, r12.2.2.2.2.2.2.2.2.1, r12.2.2.2.2.2.2.2.2.2.1, r12.2.2.2.2.2.2.2.2.2.2.1, r12.2.2.2.2.2.2.2.2.2.2.2.1, r12.2.2.2.2.2.2.2.2.2.2.2.2.1, r12.2.2.2.2.2.2.2.2.2.2.2.2.2.1, r12.2.2.2.2.2.2.2.2.2.2.2.2.2.2.1, r12.2.2.2.2.2.2.2.2.2.2.2.2.2.2.2.1, r12.2.2.2.2.2.2.2.2.2.2.2.2.2.2.2.2.1, r12.2.2.2.2.2.2.2.2.2.2.2.2.2.2.2.2.2)
  else
  some (true, (q_up (q_up r12.2.1 11 ((r12.2.1 11) + (1 : Int32))) 10 (((q_up r12.2.1 11 ((r12.2.1 11) + (1 : Int32))) 10) + (1 : Int32))), r12.2.2.1, r12.2.2.2.1, r12.2.2.2.2.1, r12.2.2.2.2.2.1, r12.2.2.2.2.2.2.1, r12.2.2.2.2.2.2.2.1, r12.2.2.2.2.2.2.2.2.1, r12.2.2.2.2.2.2.2.2.2.1, r12.2.2.2.2.2.2.2.2.2.2.1, r12.2.2.2.2.2.2.2.2.2.2.2.1, r12.2.2.2.2.2.2.2.2.2.2.2.2.1, r12.2.2.2.2.2.2.2.2.2.2.2.2.2.1, r12.2.2.2.2.2.2.2.2.2.2.2.2.2.2.1, r12.2.2.2.2.2.2.2.2.2.2.2.2.2.2.2.1, r12.2.2.2.2.2.2.2.2.2.2.2.2.2.2.2.2.1, r12.2.2.2.2.2.2.2.2.2.2.2.2.2.2.2.2.2)
  else
  (f_X8_reckon pn nu bn sz ag lo hk rk sk od (T1 r4 6) (T1 r4 7)).bind fun r18 =>
  if ¬ r18.1 = (1 : Int32) then
  if (0 : Int32) = 0 then
  if (0 : Int32) = 0 then
  some (false, (q_up bn 10 ((bn 10) + (1 : Int32))), ly, pl, sz, ag, rc, ld, lo, lr, li, nr, nd, hk, rw, ro, r18.2.1, r18.2.2)
  else
  if ¬ (0 : Int32) = 0 then
  some (false, (q_up bn 10 ((bn 10) + (1 : Int32))), ly, pl, sz, ag, rc, ld, lo, lr, li, nr, nd, hk, rw, ro, r18.2.1, r18.2.2)
  else
  some (false, (q_up (q_up bn 11 ((bn 11) + (1 : Int32))) 10 (((q_up bn 11 ((bn 11) + (1 : Int32))) 10) + (1 : Int32))), ly, pl, sz, ag, rc, ld, lo, lr, li, nr, nd, hk, rw, ro, r18.2.1, r18.2.2)
  else
  (f_X3_perform pn nu bn ly pl sz ag rc ld lo lr li nr nd hk rw ro r18.2.1 r18.2.2 od T1 K1 r4).bind fun r23 =>
  if (q_bz r23.1) = 0 then
  if (0 : Int32) = 0 then
  some (false, (q_up r23.2.1 10 ((r23.2.1 10) + (1 : Int32))), r23.2.2.1, r23.2.2.2.1, r23.2.2.2.2.1, r23.2.2.2.2.2.1, r23.2.2.2.2.2.2.1, r23.2.2.2.2.2.2.2.1, r23.2.2.2.2.2.2.2.2.1, r23.2.2.2.2.2.2.2.2.2.1, r23.2.2.2.2.2.2.2.2.2.2.1, r23.2.2.2.2.2.2.2.2.2.2.2.1, r23.2.2.2.2.2.2.2.2.2.2.2.2.1, r23.2.2.2.2.2.2.2.2.2.2.2.2.2.1, r23.2.2.2.2.2.2.2.2.2.2.2.2.2.2.1, r23.2.2.2.2.2.2.2.2.2.2.2.2.2.2.2.1, r23.2.2.2.2.2.2.2.2.2.2.2.2.2.2.2.2.1, r23.2.2.2.2.2.2.2.2.2.2.2.2.2.2.2.2.2)
  else
  if ¬ (0 : Int32) = 0 then
  some (false, (q_up r23.2.1 10 ((r23.2.1 10) + (1 : Int32))), r23.2.2.1, r23.2.2.2.1, r23.2.2.2.2.1, r23.2.2.2.2.2.1, r23.2.2.2.2.2.2.1, r23.2.2.2.2.2.2.2.1, r23.2.2.2.2.2.2.2.2.1, r23.2.2.2.2.2.2.2.2.2.1, r23.2.2.2.2.2.2.2.2.2.2.1, r23.2.2.2.2.2.2.2.2.2.2.2.1, r23.2.2.2.2.2.2.2.2.2.2.2.2.1, r23.2.2.2.2.2.2.2.2.2.2.2.2.2.1, r23.2.2.2.2.2.2.2.2.2.2.2.2.2.2.1, r23.2.2.2.2.2.2.2.2.2.2.2.2.2.2.2.1, r23.2.2.2.2.2.2.2.2.2.2.2.2.2.2.2.2.1, r23.2.2.2.2.2.2.2.2.2.2.2.2.2.2.2.2.2)
  else
  some (false, (q_up (q_up r23.2.1 11 ((r23.2.1 11) + (1 : Int32))) 10 (((q_up r23.2.1 11 ((r23.2.1 11) + (1 : Int32))) 10) + (1 : Int32))), r23.2.2.1, r23.2.2.2.1, r23.2.2.2.2.1, r23.2.2.2.2.2.1, r23.2.2.2.2.2.2.1, r23.2.2.2.2.2.2.2.1, r23.2.2.2.2.2.2.2.2.1, r23.2.2.2.2.2.2.2.2.2.1, r23.2.2.2.2.2.2.2.2.2.2.1, r23.2.2.2.2.2.2.2.2.2.2.2.1, r23.2.2.2.2.2.2.2.2.2.2.2.2.1, r23.2.2.2.2.2.2.2.2.2.2.2.2.2.1, r23.2.2.2.2.2.2.2.2.2.2.2.2.2.2.1, r23.2.2.2.2.2.2.2.2.2.2.2.2.2.2.2.1, r23.2.2.2.2.2.2.2.2.2.2.2.2.2.2.2.2.1, r23.2.2.2.2.2.2.2.2.2.2.2.2.2.2.2.2.2)
  else
  if (0 : Int32) = 0 then
  some (true, (q_up r23.2.1 10 ((r23.2.1 10) + (1 : Int32))), r23.2.2.1, r23.2.2.2.1, r23.2.2.2.2.1, r23.2.2.2.2.2.1, r23.2.2.2.2.2.2.1, r23.2.2.2.2.2.2.2.1, r23.2.2.2.2.2.2.2.2.1, r23.2.2.2.2.2.2.2.2.2.1, r23.2.2.2.2.2.2.2.2.2.2.1, r23.2.2.2.2.2.2.2.2.2.2.2.1, r23.2.2.2.2.2.2.2.2.2.2.2.2.1, r23.2.2.2.2.2.2.2.2.2.2.2.2.2.1, r23.2.2.2.2.2.2.2.2.2.2.2.2.2.2.1, r23.2.2.2.2.2.2.2.2.2.2.2.2.2.2.2.1, r23.2.2.2.2.2.2.2.2.2.2.2.2.2.2.2.2.1, r23.2.2.2.2.2.2.2.2.2.2.2.2.2.2.2.2.2)
  else
  if ¬ (1 : Int32) = 0 then
  some (true, (q_up r23.2.1 10 ((r23.2.1 10) + (1 : Int32))), r23.2.2.1, r23.2.2.2.1, r23.2.2.2.2.1, r23.2.2.2.2.2.1, r23.2.2.2.2.2.2.1, r23.2.2.2.2.2.2.2.1, r23.2.2.2.2.2.2.2.2.1, r23.2.2.2.2.2.2.2.2.2.1, r23.2.2.2.2.2.2.2.2.2.2.1, r23.2.2.2.2.2.2.2.2.2.2.2.1, r23.2.2.2.2.2.2.2.2.2.2.2.2.1, r23.2.2.2.2.2.2.2.2.2.2.2.2.2.1, r23.2.2.2.2.2.2.2.2.2.2.2.2.2.2.1, r23.2.2.2.2.2.2.2.2.2.2.2.2.2.2.2.1, r23.2.2.2.2.2.2.2.2.2.2.2.2.2.2.2.2.1, r23.2.2.2.2.2.2.2.2.2.2.2.2.2.2.2.2.2)
  else
  some (true, (q_up (q_up r23.2.1 11 ((r23.2.1 11) + (1 : Int32))) 10 (((q_up r23.2.1 11 ((r23.2.1 11) + (1 : Int32))) 10) + (1 : Int32))), r23.2.2.1, r23.2.2.2.1, r23.2.2.2.2.1, r23.2.2.2.2.2.1, r23.2.2.2.2.2.2.1, r23.2.2.2.2.2.2.2.1, r23.2.2.2.2.2.2.2.2.1, r23.2.2.2.2.2.2.2.2.2.1, r23.2.2.2.2.2.2.2.2.2.2.1, r23.2.2.2.2.2.2.2.2.2.2.2.1, r23.2.2.2.2.2.2.2.2.2.2.2.2.1, r23.2.2.2.2.2.2.2.2.2.2.2.2.2.1, r23.2.2.2.2.2.2.2.2.2.2.2.2.2.2.1, r23.2.2.2.2.2.2.2.2.2.2.2.2.2.2.2.1, r23.2.2.2.2.2.2.2.2.2.2.2.2.2.2.2.2.1, r23.2.2.2.2.2.2.2.2.2.2.2.2.2.2.2.2.2)
  else
  if (1 : Int32) = 0 then
  if (1 : Int32) = 0 then
  some (false, (q_up bn 10 ((bn 10) + (1 : Int32))), ly, pl, sz, ag, rc, ld, lo, lr, li, nr, nd, hk, rw, ro, r18.2.1, r18.2.2)
  else
  if ¬ (0 : Int32) = 0 then
  some (false, (q_up bn 10 ((bn 10) + (1 : Int32))), ly, pl, sz, ag, rc, ld, lo, lr, li, nr, nd, hk, rw, ro, r18.2.1, r18.2.2)
  else
  some (false, (q_up (q_up bn 11 ((bn 11) + (1 : Int32))) 10 (((q_up bn 11 ((bn 11) + (1 : Int32))) 10) + (1 : Int32))), ly, pl, sz, ag, rc, ld, lo, lr, li, nr, nd, hk, rw, ro, r18.2.1, r18.2.2)
  else
  (f_X3_perform pn nu bn ly pl sz ag rc ld lo lr li nr nd hk rw ro r18.2.1 r18.2.2 od T1 K1 r4).bind fun r32 =>
  if (q_bz r32.1) = 0 then
  if (1 : Int32) = 0 then
  some (false, (q_up r32.2.1 10 ((r32.2.1 10) + (1 : Int32))), r32.2.2.1, r32.2.2.2.1, r32.2.2.2.2.1, r32.2.2.2.2.2.1, r32.2.2.2.2.2.2.1, r32.2.2.2.2.2.2.2.1, r32.2.2.2.2.2.2.2.2.1, r32.2.2.2.2.2.2.2.2.2.1, r32.2.2.2.2.2.2.2.2.2.2.1, r32.2.2.2.2.2.2.2.2.2.2.2.1, r32.2.2.2.2.2.2.2.2.2.2.2.2.1, r32.2.2.2.2.2.2.2.2.2.2.2.2.2.1, r32.2.2.2.2.2.2.2.2.2.2.2.2.2.2.1, r32.2.2.2.2.2.2.2.2.2.2.2.2.2.2.2.1, r32.2.2.2.2.2.2.2.2.2.2.2.2.2.2.2.2.1, r32.2.2.2.2.2.2.2.2.2.2.2.2.2.2.2.2.2)
  else
  if ¬ (0 : Int32) = 0 then
  some (false, (q_up r32.2.1 10 ((r32.2.1 10) + (1 : Int32))), r32.2.2.1, r32.2.2.2.1, r32.2.2.2.2.1, r32.2.2.2.2.2.1, r32.2.2.2.2.2.2.1, r32.2.2.2.2.2.2.2.1, r32.2.2.2.2.2.2.2.2.1, r32.2.2.2.2.2.2.2.2.2.1, r32.2.2.2.2.2.2.2.2.2.2.1, r32.2.2.2.2.2.2.2.2.2.2.2.1, r32.2.2.2.2.2.2.2.2.2.2.2.2.1, r32.2.2.2.2.2.2.2.2.2.2.2.2.2.1, r32.2.2.2.2.2.2.2.2.2.2.2.2.2.2.1, r32.2.2.2.2.2.2.2.2.2.2.2.2.2.2.2.1, r32.2.2.2.2.2.2.2.2.2.2.2.2.2.2.2.2.1, r32.2.2.2.2.2.2.2.2.2.2.2.2.2.2.2.2.2)
  else
  some (false, (q_up (q_up r32.2.1 11 ((r32.2.1 11) + (1 : Int32))) 10 (((q_up r32.2.1 11 ((r32.2.1 11) + (1 : Int32))) 10) + (1 : Int32))), r32.2.2.1, r32.2.2.2.1, r32.2.2.2.2.1, r32.2.2.2.2.2.1, r32.2.2.2.2.2.2.1, r32.2.2.2.2.2.2.2.1, r32.2.2.2.2.2.2.2.2.1, r32.2.2.2.2.2.2.2.2.2.1, r32.2.2.2.2.2.2.2.2.2.2.1, r32.2.2.2.2.2.2.2.2.2.2.2.1, r32.2.2.2.2.2.2.2.2.2.2.2.2.1, r32.2.2.2.2.2.2.2.2.2.2.2.2.2.1, r32.2.2.2.2.2.2.2.2.2.2.2.2.2.2.1, r32.2.2.2.2.2.2.2.2.2.2.2.2.2.2.2.1, r32.2.2.2.2.2.2.2.2.2.2.2.2.2.2.2.2.1, r32.2.2.2.2.2.2.2.2.2.2.2.2.2.2.2.2.2)
  else
  if (1 : Int32) = 0 then
  some (true, (q_up r32.2.1 10 ((r32.2.1 10) + (1 : Int32))), r32.2.2.1, r32.2.2.2.1, r32.2.2.2.2.1, r32.2.2.2.2.2.1, r32.2.2.2.2.2.2.1, r32.2.2.2.2.2.2.2.1, r32.2.2.2.2.2.2.2.2.1, r32.2.2.2.2.2.2.2.2.2.1, r32.2.2.2.2.2.2.2.2.2.2.1, r32.2.2.2.2.2.2.2.2.2.2.2.1, r32.2.2.2.2.2.2.2.2.2.2.2.2.1, r32.2.2.2.2.2.2.2.2.2.2.2.2.2.1, r32.2.2.2.2.2.2.2.2.2.2.2.2.2.2.1, r32.2.2.2.2.2.2.2.2.2.2.2.2.2.2.2.1, r32.2.2.2.2.2.2.2.2.2.2.2.2.2.2.2.2.1, r32.2.2.2.2.2.2.2.2.2.2.2.2.2.2.2.2.2)
  else
  if ¬ (1 : Int32) = 0 then
  some (true, (q_up r32.2.1 10 ((r32.2.1 10) + (1 : Int32))), r32.2.2.1, r32.2.2.2.1, r32.2.2.2.2.1, r32.2.2.2.2.2.1, r32.2.2.2.2.2.2.1, r32.2.2.2.2.2.2.2.1, r32.2.2.2.2.2.2.2.2.1, r32.2.2.2.2.2.2.2.2.2.1, r32.2.2.2.2.2.2.2.2.2.2.1, r32.2.2.2.2.2.2.2.2.2.2.2.1, r32.2.2.2.2.2.2.2.2.2.2.2.2.1, r32.2.2.2.2.2.2.2.2.2.2.2.2.2.1, r32.2.2.2.2.2.2.2.2.2.2.2.2.2.2.1, r32.2.2.2.2.2.2.2.2.2.2.2.2.2.2.2.1, r32.2.2.2.2.2.2.2.2.2.2.2.2.2.2.2.2.1, r32.2.2.2.2.2.2.2.2.2.2.2.2.2.2.2.2.2)
  else
  some (true, (q_up (q_up r32.2.1 11 ((r32.2.1 11) + (1 : Int32))) 10 (((q_up r32.2.1 11 ((r32.2.1 11) + (1 : Int32))) 10) + (1 : Int32))), r32.2.2.1, r32.2.2.2.1, r32.2.2.2.2.1, r32.2.2.2.2.2.1, r32.2.2.2.2.2.2.1, r32.2.2.2.2.2.2.2.1, r32.2.2.2.2.2.2.2.2.1, r32.2.2.2.2.2.2.2.2.2.1, r32.2.2.2.2.2.2.2.2.2.2.1, r32.2.2.2.2.2.2.2.2.2.2.2.1, r32.2.2.2.2.2.2.2.2.2.2.2.2.1, r32.2.2.2.2.2.2.2.2.2.2.2.2.2.1, r32.2.2.2.2.2.2.2.2.2.2.2.2.2.2.1, r32.2.2.2.2.2.2.2.2.2.2.2.2.2.2.2.1, r32.2.2.2.2.2.2.2.2.2.2.2.2.2.2.2.2.1, r32.2.2.2.2.2.2.2.2.2.2.2.2.2.2.2.2.2)
  else
  some (false, bn, ly, pl, sz, ag, rc, ld, lo, lr, li, nr, nd, hk, rw, ro, rk, sk)
def f_X3_goOn_L4 (pn : Nat → Int32) (nu : Nat → Int32) (od : Nat → Option Nat) (T1 : Nat → Nat → Int32) (K1 : Nat → Nat → Option Nat) (v2 : Int32) : Nat → (Nat → Int32) → (Nat → Int32) → (Nat → Int32) → (Nat → Int32) → (Nat → Int32) → (Nat → Int32) → (Nat → Int32) → (Nat → Int32) → (Nat → Int32) → (Nat → Int32) → (Nat → Int32) → (Nat → Int32) → (Nat → Int32) → (Nat → Int32) → (Nat → Int32) → (Nat → Int32) → (Nat → Int32) → Int32 → Int32 → Option (Int32 × (Nat → Int32) × (Nat → Int32) × (Nat → Int32) × (Nat → Int32) × (Nat → Int32) × (Nat → Int32) × (Nat → Int32) × (Nat → Int32) × (Nat → Int32) × (Nat → Int32) × (Nat → Int32) × (Nat → Int32) × (Nat → Int32) × (Nat → Int32) × (Nat → Int32) × (Nat → Int32) × (Nat → Int32))
  | 0, _, _, _, _, _, _, _, _, _, _, _, _, _, _, _, _, _, _, _ => none
  | fu + 1, bn, ly, pl, sz, ag, rc, ld, lo, lr, li, nr, nd, hk, rw, ro, rk, sk, v3, v4 =>
    if v2 ≤ v4 then
    some (v3, bn, ly, pl, sz, ag, rc, ld, lo, lr, li, nr, nd, hk, rw, ro, rk, sk)
    else
    (f_X3_passNext pn nu bn ly pl sz ag rc ld lo lr li nr nd hk rw ro rk sk od T1 K1).bind fun r2 =>
    if (q_bz r2.1) = 0 then
    f_X3_goOn_L4 pn nu od T1 K1 v2 fu r2.2.1 r2.2.2.1 r2.2.2.2.1 r2.2.2.2.2.1 r2.2.2.2.2.2.1 r2.2.2.2.2.2.2.1 r2.2.2.2.2.2.2.2.1 r2.2.2.2.2.2.2.2.2.1 r2.2.2.2.2.2.2.2.2.2.1 r2.2.2.2.2.2.2.2.2.2.2.1 r2.2.2.2.2.2.2.2.2.2.2.2.1 r2.2.2.2.2.2.2.2.2.2.2.2.2.1 r2.2.2.2.2.2.2.2.2.2.2.2.2.2.1 r2.2.2.2.2.2.2.2.2.2.2.2.2.2.2.1 r2.2.2.2.2.2.2.2.2.2.2.2.2.2.2.2.1 r2.2.2.2.2.2.2.2.2.2.2.2.2.2.2.2.2.1 r2.2.2.2.2.2.2.2.2.2.2.2.2.2.2.2.2.2 v3 (v4 + 1)
    else
    f_X3_goOn_L4 pn nu od T1 K1 v2 fu r2.2.1 r2.2.2.1 r2.2.2.2.1 r2.2.2.2.2.1 r2.2.2.2.2.2.1 r2.2.2.2.2.2.2.1 r2.2.2.2.2.2.2.2.1 r2.2.2.2.2.2.2.2.2.1 r2.2.2.2.2.2.2.2.2.2.1 r2.2.2.2.2.2.2.2.2.2.2.1 r2.2.2.2.2.2.2.2.2.2.2.2.1 r2.2.2.2.2.2.2.2.2.2.2.2.2.1 r2.2.2.2.2.2.2.2.2.2.2.2.2.2.1 r2.2.2.2.2.2.2.2.2.2.2.2.2.2.2.1 r2.2.2.2.2.2.2.2.2.2.2.2.2.2.2.2.1 r2.2.2.2.2.2.2.2.2.2.2.2.2.2.2.2.2.1 r2.2.2.2.2.2.2.2.2.2.2.2.2.2.2.2.2.2 (v3 + 1) (v4 + 1)
def f_X3_goOn (pn : Nat → Int32) (nu : Nat → Int32) (bn : Nat → Int32) (ly : Nat → Int32) (pl : Nat → Int32) (sz : Nat → Int32) (ag : Nat → Int32) (rc : Nat → Int32) (ld : Nat → Int32) (lo : Nat → Int32) (lr : Nat → Int32) (li : Nat → Int32) (nr : Nat → Int32) (nd : Nat → Int32) (hk : Nat → Int32) (rw : Nat → Int32) (ro : Nat → Int32) (rk : Nat → Int32) (sk : Nat → Int32) (od : Nat → Option Nat) (T1 : Nat → Nat → Int32) (K1 : Nat → Nat → Option Nat) (x2 : Int32) : Option (Int32 × (Nat → Int32) × (Nat → Int32) × (Nat → Int32) × (Nat → Int32) × (Nat → Int32) × (Nat → Int32) × (Nat → Int32) × (Nat → Int32) × (Nat → Int32) × (Nat → Int32) × (Nat → Int32) × (Nat → Int32) × (Nat → Int32) × (Nat → Int32) × (Nat → Int32) × (Nat → Int32) × (Nat → Int32)) :=
  (f_X3_goOn_L4 pn nu od T1 K1 x2 4096 bn ly pl sz ag rc ld lo lr li nr nd hk rw ro rk sk (0 : Int32) (0 : Int32)).bind fun r4 =>
  some (r4.1, r4.2.1, r4.2.2.1, r4.2.2.2.1, r4.2.2.2.2.1, r4.2.2.2.2.2.1, r4.2.2.2.2.2.2.1, r4.2.2.2.2.2.2.2.1, r4.2.2.2.2.2.2.2.2.1, r4.2.2.2.2.2.2.2.2.2.1, r4.2.2.2.2.2.2.2.2.2.2.1, r4.2.2.2.2.2.2.2.2.2.2.2.1, r4.2.2.2.2.2.2.2.2.2.2.2.2.1, r4.2.2.2.2.2.2.2.2.2.2.2.2.2.1, r4.2.2.2.2.2.2.2.2.2.2.2.2.2.2.1, r4.2.2.2.2.2.2.2.2.2.2.2.2.2.2.2.1, r4.2.2.2.2.2.2.2.2.2.2.2.2.2.2.2.2.1, r4.2.2.2.2.2.2.2.2.2.2.2.2.2.2.2.2.2)
def f_X12_work (pn : Nat → Int32) (nu : Nat → Int32) (bn : Nat → Int32) (ly : Nat → Int32) (pl : Nat → Int32) (sz : Nat → Int32) (ag : Nat → Int32) (rc : Nat → Int32) (ld : Nat → Int32) (lo : Nat → Int32) (lr : Nat → Int32) (li : Nat → Int32) (nr : Nat → Int32) (nd : Nat → Int32) (hk : Nat → Int32) (rw : Nat → Int32) (ro : Nat → Int32) (rk : Nat → Int32) (sk : Nat → Int32) (od : Nat → Option Nat) (T1 : Nat → Nat → Int32) (K1 : Nat → Nat → Option Nat) (x1 : Int32) : Option ((Int32 ⊕ String) × (Nat → Int32) × (Nat → Int32) × (Nat → Int32) × (Nat → Int32) × (Nat → Int32) × (Nat → Int32) × (Nat → Int32) × (Nat → Int32) × (Nat → Int32) × (Nat → Int32) × (Nat → Int32) × (Nat → Int32) × (Nat → Int32) × (Nat → Int32) × (Nat → Int32) × (Nat → Int32) × (Nat → Int32)) :=
  (f_X12_checkWork pn x1).bind fun r1 =>
  q_sm r1
  (fun v2 =>
  (f_X3_goOn pn nu bn ly pl sz ag rc ld lo lr li nr nd hk rw ro rk sk od T1 K1 x1).bind fun r5 =>
  some (.inl r5.1, r5.2.1, r5.2.2.1, r5.2.2.2.1, r5.2.2.2.2.1, r5.2.2.2.2.2.1, r5.2.2.2.2.2.2.1, r5.2.2.2.2.2.2.2.1, r5.2.2.2.2.2.2.2.2.1, r5.2.2.2.2.2.2.2.2.2.1, r5.2.2.2.2.2.2.2.2.2.2.1, r5.2.2.2.2.2.2.2.2.2.2.2.1, r5.2.2.2.2.2.2.2.2.2.2.2.2.1, r5.2.2.2.2.2.2.2.2.2.2.2.2.2.1, r5.2.2.2.2.2.2.2.2.2.2.2.2.2.2.1, r5.2.2.2.2.2.2.2.2.2.2.2.2.2.2.2.1, r5.2.2.2.2.2.2.2.2.2.2.2.2.2.2.2.2.1, r5.2.2.2.2.2.2.2.2.2.2.2.2.2.2.2.2.2))
  (fun e3 => some (.inr e3, bn, ly, pl, sz, ag, rc, ld, lo, lr, li, nr, nd, hk, rw, ro, rk, sk))
def f_X1_imitate (ly : Nat → Int32) (pl : Nat → Int32) (sz : Nat → Int32) (ag : Nat → Int32) (rc : Nat → Int32) (ld : Nat → Int32) (lyt : Nat → Int32) (plt : Nat → Int32) (szt : Nat → Int32) (agt : Nat → Int32) (rct : Nat → Int32) (ldt : Nat → Int32) : Option ((Nat → Int32) × (Nat → Int32) × (Nat → Int32) × (Nat → Int32) × (Nat → Int32) × (Nat → Int32)) :=
  some ((q_cp ly lyt 128), (q_cp pl plt 128), (q_cp sz szt 128), (q_cp ag agt 128), (q_cp rc rct 128), (q_cp ld ldt 384))
def f_X5_imitate (lo : Nat → Int32) (lr : Nat → Int32) (lot : Nat → Int32) (lrt : Nat → Int32) : Option ((Nat → Int32) × (Nat → Int32)) :=
  some ((q_up (q_up lot 1 (lo 1)) 2 (lo 2)), (q_cp lr lrt 64))
def f_X2_imitate (bn : Nat → Int32) (ly : Nat → Int32) (pl : Nat → Int32) (sz : Nat → Int32) (ag : Nat → Int32) (rc : Nat → Int32) (ld : Nat → Int32) (lo : Nat → Int32) (lr : Nat → Int32) (hk : Nat → Int32) (rw : Nat → Int32) (bnt : Nat → Int32) (lyt : Nat → Int32) (plt : Nat → Int32) (szt : Nat → Int32) (agt : Nat → Int32) (rct : Nat → Int32) (ldt : Nat → Int32) (lot : Nat → Int32) (lrt : Nat → Int32) (hkt : Nat → Int32) (rwt : Nat → Int32) : Option ((Nat → Int32) × (Nat → Int32) × (Nat → Int32) × (Nat → Int32) × (Nat → Int32) × (Nat → Int32) × (Nat → Int32) × (Nat → Int32) × (Nat → Int32) × (Nat → Int32) × (Nat → Int32)) :=
  (f_X1_imitate ly pl sz ag rc ld lyt plt szt agt rct ldt).bind fun r1 =>
  (f_X5_imitate lo lr lot lrt).bind fun r2 =>
  some ((q_up (q_up (q_up (q_up (q_up (q_up (q_up (q_up bnt 7 (bn 7)) 8 (bn 8)) 9 (bn 9)) 10 (bn 10)) 11 (bn 11)) 12 (bn 12)) 13 (bn 13)) 14 (bn 14)), r1.1, r1.2.1, r1.2.2.1, r1.2.2.2.1, r1.2.2.2.2.1, r1.2.2.2.2.2, r2.1, r2.2, (q_cp hk hkt 6), (q_cp rw rwt 64))
def f_X12_stepsUntilCopying_L13 (pn : Nat → Int32) (nu : Nat → Int32) (bn : Nat → Int32) (od : Nat → Option Nat) (T1 : Nat → Nat → Int32) (K1 : Nat → Nat → Option Nat) : Nat → (Nat → Int32) → (Nat → Int32) → (Nat → Int32) → (Nat → Int32) → (Nat → Int32) → (Nat → Int32) → (Nat → Int32) → (Nat → Int32) → (Nat → Int32) → (Nat → Int32) → (Nat → Int32) → (Nat → Int32) → (Nat → Int32) → (Nat → Int32) → (Nat → Int32) → (Nat → Int32) → (Nat → Int32) → Int32 → Option (Nat × Int32 × (Nat → Int32) × (Nat → Int32) × (Nat → Int32) × (Nat → Int32) × (Nat → Int32) × (Nat → Int32) × (Nat → Int32) × (Nat → Int32) × (Nat → Int32) × (Nat → Int32) × (Nat → Int32) × (Nat → Int32) × (Nat → Int32) × (Nat → Int32) × (Nat → Int32) × (Nat → Int32) × (Nat → Int32))
  | 0, _, _, _, _, _, _, _, _, _, _, _, _, _, _, _, _, _, _ => none
  | fu + 1, bnt, lyt, plt, szt, agt, rct, ldt, lot, lrt, li, nr, nd, hkt, rwt, ro, rk, sk, v1 =>
    if (100 : Int32) < v1 then
    some (0, 0, bnt, lyt, plt, szt, agt, rct, ldt, lot, lrt, li, nr, nd, hkt, rwt, ro, rk, sk)
    else
    (f_X3_goOn pn nu bnt lyt plt szt agt rct ldt lot lrt li nr nd hkt rwt ro rk sk od T1 K1 (1 : Int32)).bind fun r2 =>
    if (r2.2.1 12) = (bn 12) then
    f_X12_stepsUntilCopying_L13 pn nu bn od T1 K1 fu r2.2.1 r2.2.2.1 r2.2.2.2.1 r2.2.2.2.2.1 r2.2.2.2.2.2.1 r2.2.2.2.2.2.2.1 r2.2.2.2.2.2.2.2.1 r2.2.2.2.2.2.2.2.2.1 r2.2.2.2.2.2.2.2.2.2.1 r2.2.2.2.2.2.2.2.2.2.2.1 r2.2.2.2.2.2.2.2.2.2.2.2.1 r2.2.2.2.2.2.2.2.2.2.2.2.2.1 r2.2.2.2.2.2.2.2.2.2.2.2.2.2.1 r2.2.2.2.2.2.2.2.2.2.2.2.2.2.2.1 r2.2.2.2.2.2.2.2.2.2.2.2.2.2.2.2.1 r2.2.2.2.2.2.2.2.2.2.2.2.2.2.2.2.2.1 r2.2.2.2.2.2.2.2.2.2.2.2.2.2.2.2.2.2 (v1 + 1)
    else
    some (1, v1, r2.2.1, r2.2.2.1, r2.2.2.2.1, r2.2.2.2.2.1, r2.2.2.2.2.2.1, r2.2.2.2.2.2.2.1, r2.2.2.2.2.2.2.2.1, r2.2.2.2.2.2.2.2.2.1, r2.2.2.2.2.2.2.2.2.2.1, r2.2.2.2.2.2.2.2.2.2.2.1, r2.2.2.2.2.2.2.2.2.2.2.2.1, r2.2.2.2.2.2.2.2.2.2.2.2.2.1, r2.2.2.2.2.2.2.2.2.2.2.2.2.2.1, r2.2.2.2.2.2.2.2.2.2.2.2.2.2.2.1, r2.2.2.2.2.2.2.2.2.2.2.2.2.2.2.2.1, r2.2.2.2.2.2.2.2.2.2.2.2.2.2.2.2.2.1, r2.2.2.2.2.2.2.2.2.2.2.2.2.2.2.2.2.2)
def f_X12_stepsUntilCopying (pn : Nat → Int32) (nu : Nat → Int32) (bn : Nat → Int32) (ly : Nat → Int32) (pl : Nat → Int32) (sz : Nat → Int32) (ag : Nat → Int32) (rc : Nat → Int32) (ld : Nat → Int32) (lo : Nat → Int32) (lr : Nat → Int32) (hk : Nat → Int32) (rw : Nat → Int32) (bnt : Nat → Int32) (lyt : Nat → Int32) (plt : Nat → Int32) (szt : Nat → Int32) (agt : Nat → Int32) (rct : Nat → Int32) (ldt : Nat → Int32) (lot : Nat → Int32) (lrt : Nat → Int32) (li : Nat → Int32) (nr : Nat → Int32) (nd : Nat → Int32) (hkt : Nat → Int32) (rwt : Nat → Int32) (ro : Nat → Int32) (rk : Nat → Int32) (sk : Nat → Int32) (od : Nat → Option Nat) (T1 : Nat → Nat → Int32) (K1 : Nat → Nat → Option Nat) : Option (Int32 × (Nat → Int32) × (Nat → Int32) × (Nat → Int32) × (Nat → Int32) × (Nat → Int32) × (Nat → Int32) × (Nat → Int32) × (Nat → Int32) × (Nat → Int32) × (Nat → Int32) × (Nat → Int32) × (Nat → Int32) × (Nat → Int32) × (Nat → Int32) × (Nat → Int32) × (Nat → Int32) × (Nat → Int32)) :=
  if ¬ (pn 4) = 0 then
  (f_X2_imitate bn ly pl sz ag rc ld lo lr hk rw bnt lyt plt szt agt rct ldt lot lrt hkt rwt).bind fun r5 =>
  (f_X12_stepsUntilCopying_L13 pn nu bn od T1 K1 4096 r5.1 r5.2.1 r5.2.2.1 r5.2.2.2.1 r5.2.2.2.2.1 r5.2.2.2.2.2.1 r5.2.2.2.2.2.2.1 r5.2.2.2.2.2.2.2.1 r5.2.2.2.2.2.2.2.2.1 li nr nd r5.2.2.2.2.2.2.2.2.2.1 r5.2.2.2.2.2.2.2.2.2.2 ro rk sk (1 : Int32)).bind fun r6 =>
  if r6.1 = 0 then
  some ((-1 : Int32), r6.2.2.1, r6.2.2.2.1, r6.2.2.2.2.1, r6.2.2.2.2.2.1, r6.2.2.2.2.2.2.1, r6.2.2.2.2.2.2.2.1, r6.2.2.2.2.2.2.2.2.1, r6.2.2.2.2.2.2.2.2.2.1, r6.2.2.2.2.2.2.2.2.2.2.1, r6.2.2.2.2.2.2.2.2.2.2.2.1, r6.2.2.2.2.2.2.2.2.2.2.2.2.1, r6.2.2.2.2.2.2.2.2.2.2.2.2.2.1, r6.2.2.2.2.2.2.2.2.2.2.2.2.2.2.1, r6.2.2.2.2.2.2.2.2.2.2.2.2.2.2.2.1, r6.2.2.2.2.2.2.2.2.2.2.2.2.2.2.2.2.1, r6.2.2.2.2.2.2.2.2.2.2.2.2.2.2.2.2.2.1, r6.2.2.2.2.2.2.2.2.2.2.2.2.2.2.2.2.2.2)
  else
  some (r6.2.1, r6.2.2.1, r6.2.2.2.1, r6.2.2.2.2.1, r6.2.2.2.2.2.1, r6.2.2.2.2.2.2.1, r6.2.2.2.2.2.2.2.1, r6.2.2.2.2.2.2.2.2.1, r6.2.2.2.2.2.2.2.2.2.1, r6.2.2.2.2.2.2.2.2.2.2.1, r6.2.2.2.2.2.2.2.2.2.2.2.1, r6.2.2.2.2.2.2.2.2.2.2.2.2.1, r6.2.2.2.2.2.2.2.2.2.2.2.2.2.1, r6.2.2.2.2.2.2.2.2.2.2.2.2.2.2.1, r6.2.2.2.2.2.2.2.2.2.2.2.2.2.2.2.1, r6.2.2.2.2.2.2.2.2.2.2.2.2.2.2.2.2.1, r6.2.2.2.2.2.2.2.2.2.2.2.2.2.2.2.2.2.1, r6.2.2.2.2.2.2.2.2.2.2.2.2.2.2.2.2.2.2)
  else
  some ((-1 : Int32), bnt, lyt, plt, szt, agt, rct, ldt, lot, lrt, li, nr, nd, hkt, rwt, ro, rk, sk)
def f_X12_usedAfter (pn : Nat → Int32) (nu : Nat → Int32) (bn : Nat → Int32) (ly : Nat → Int32) (pl : Nat → Int32) (sz : Nat → Int32) (ag : Nat → Int32) (rc : Nat → Int32) (ld : Nat → Int32) (lo : Nat → Int32) (lr : Nat → Int32) (hk : Nat → Int32) (rw : Nat → Int32) (bnt : Nat → Int32) (lyt : Nat → Int32) (plt : Nat → Int32) (szt : Nat → Int32) (agt : Nat → Int32) (rct : Nat → Int32) (ldt : Nat → Int32) (lot : Nat → Int32) (lrt : Nat → Int32) (li : Nat → Int32) (nr : Nat → Int32) (nd : Nat → Int32) (hkt : Nat → Int32) (rwt : Nat → Int32) (ro : Nat → Int32) (rk : Nat → Int32) (sk : Nat → Int32) (od : Nat → Option Nat) (T1 : Nat → Nat → Int32) (K1 : Nat → Nat → Option Nat) (x1 : Int32) : Option ((Int32 ⊕ String) × (Nat → Int32) × (Nat → Int32) × (Nat → Int32) × (Nat → Int32) × (Nat → Int32) × (Nat → Int32) × (Nat → Int32) × (Nat → Int32) × (Nat → Int32) × (Nat → Int32) × (Nat → Int32) × (Nat → Int32) × (Nat → Int32) × (Nat → Int32) × (Nat → Int32) × (Nat → Int32) × (Nat → Int32)) :=
  (f_X12_checkWork pn x1).bind fun r1 =>
  q_sm r1
  (fun v2 =>
  (f_X2_imitate bn ly pl sz ag rc ld lo lr hk rw bnt lyt plt szt agt rct ldt lot lrt hkt rwt).bind fun r5 =>
  (f_X3_goOn pn nu r5.1 r5.2.1 r5.2.2.1 r5.2.2.2.1 r5.2.2.2.2.1 r5.2.2.2.2.2.1 r5.2.2.2.2.2.2.1 r5.2.2.2.2.2.2.2.1 r5.2.2.2.2.2.2.2.2.1 li nr nd r5.2.2.2.2.2.2.2.2.2.1 r5.2.2.2.2.2.2.2.2.2.2 ro rk sk od T1 K1 x1).bind fun r6 =>
  some (.inl (r6.2.1 8), r6.2.1, r6.2.2.1, r6.2.2.2.1, r6.2.2.2.2.1, r6.2.2.2.2.2.1, r6.2.2.2.2.2.2.1, r6.2.2.2.2.2.2.2.1, r6.2.2.2.2.2.2.2.2.1, r6.2.2.2.2.2.2.2.2.2.1, r6.2.2.2.2.2.2.2.2.2.2.1, r6.2.2.2.2.2.2.2.2.2.2.2.1, r6.2.2.2.2.2.2.2.2.2.2.2.2.1, r6.2.2.2.2.2.2.2.2.2.2.2.2.2.1, r6.2.2.2.2.2.2.2.2.2.2.2.2.2.2.1, r6.2.2.2.2.2.2.2.2.2.2.2.2.2.2.2.1, r6.2.2.2.2.2.2.2.2.2.2.2.2.2.2.2.2.1, r6.2.2.2.2.2.2.2.2.2.2.2.2.2.2.2.2.2))
  (fun e3 => some (.inr e3, bnt, lyt, plt, szt, agt, rct, ldt, lot, lrt, li, nr, nd, hkt, rwt, ro, rk, sk))
def f_X12_usedIfCopied (pn : Nat → Int32) (bn : Nat → Int32) (ly : Nat → Int32) (pl : Nat → Int32) (sz : Nat → Int32) (ag : Nat → Int32) (rc : Nat → Int32) (ld : Nat → Int32) (lo : Nat → Int32) (lr : Nat → Int32) (hk : Nat → Int32) (rw : Nat → Int32) (bnt : Nat → Int32) (lyt : Nat → Int32) (plt : Nat → Int32) (szt : Nat → Int32) (agt : Nat → Int32) (rct : Nat → Int32) (ldt : Nat → Int32) (lot : Nat → Int32) (lrt : Nat → Int32) (li : Nat → Int32) (nr : Nat → Int32) (nd : Nat → Int32) (hkt : Nat → Int32) (rwt : Nat → Int32) (ro : Nat → Int32) : Option (Int32 × (Nat → Int32) × (Nat → Int32) × (Nat → Int32) × (Nat → Int32) × (Nat → Int32) × (Nat → Int32) × (Nat → Int32) × (Nat → Int32) × (Nat → Int32) × (Nat → Int32) × (Nat → Int32) × (Nat → Int32) × (Nat → Int32) × (Nat → Int32) × (Nat → Int32)) :=
  (f_X2_imitate bn ly pl sz ag rc ld lo lr hk rw bnt lyt plt szt agt rct ldt lot lrt hkt rwt).bind fun r1 =>
  (f_X2_copyHalf pn r1.1 r1.2.1 r1.2.2.1 r1.2.2.2.1 r1.2.2.2.2.1 r1.2.2.2.2.2.1 r1.2.2.2.2.2.2.1 r1.2.2.2.2.2.2.2.1 r1.2.2.2.2.2.2.2.2.1 li nr nd r1.2.2.2.2.2.2.2.2.2.1 r1.2.2.2.2.2.2.2.2.2.2 ro).bind fun r2 =>
  some ((r2.2.1 8), r2.2.1, r2.2.2.1, r2.2.2.2.1, r1.2.2.2.1, r2.2.2.2.2.1, r1.2.2.2.2.2.1, r1.2.2.2.2.2.2.1, r2.2.2.2.2.2.1, r2.2.2.2.2.2.2.1, r2.2.2.2.2.2.2.2.1, r2.2.2.2.2.2.2.2.2.1, r2.2.2.2.2.2.2.2.2.2.1, r1.2.2.2.2.2.2.2.2.2.1, r2.2.2.2.2.2.2.2.2.2.2.1, r2.2.2.2.2.2.2.2.2.2.2.2)
def f_X12_digestOfCounts (pn : Nat → Int32) (bn : Nat → Int32) (rc : Nat → Int32) (ld : Nat → Int32) (lo : Nat → Int32) (lr : Nat → Int32) (li : Nat → Int32) (nr : Nat → Int32) (nd : Nat → Int32) (hk : Nat → Int32) : Option (Int64 × (Nat → Int32) × (Nat → Int32) × (Nat → Int32)) :=
  (f_X12_hooks pn).bind fun r1 =>
  (f_X12_steps pn).bind fun r2 =>
  (f_X12_placesOfHalf pn).bind fun r3 =>
  (f_X12_stepsGoneBy bn).bind fun r4 =>
  (f_X12_stepsRefused bn).bind fun r5 =>
  (f_X12_workingHalf bn).bind fun r6 =>
  (f_X12_usedPlaces bn).bind fun r7 =>
  (f_X12_usedInLoft lo lr).bind fun r8 =>
  (f_X12_longestGap lo lr).bind fun r9 =>
  (f_X12_bales bn lo).bind fun r10 =>
  (f_X12_balesInLoft lo).bind fun r11 =>
  (f_X2_uselessCount bn rc ld lo li nr nd hk).bind fun r12 =>
  (f_X12_copyings bn).bind fun r13 =>
  (f_X12_balesPromoted bn).bind fun r14 =>
  (f_X12_balesGone bn).bind fun r15 =>
  some ((((((((((((((((((((((((((((((((971 : Int64) * (31 : Int64)) + r1.toInt64) * (31 : Int64)) + r2.toInt64) * (31 : Int64)) + r3.toInt64) * (31 : Int64)) + r4.toInt64) * (31 : Int64)) + r5.toInt64) * (31 : Int64)) + r6.toInt64) * (31 : Int64)) + r7.toInt64) * (31 : Int64)) + r8.toInt64) * (31 : Int64)) + r9.toInt64) * (31 : Int64)) + r10.toInt64) * (31 : Int64)) + r11.toInt64) * (31 : Int64)) + r12.1.toInt64) * (31 : Int64)) + r13.toInt64) * (31 : Int64)) + r14.toInt64) * (31 : Int64)) + r15.toInt64), r12.2.1, r12.2.2.1, r12.2.2.2)
def f_X2_inRow (bn : Nat → Int32) (rw : Nat → Int32) (x1 : Int32) : Option (Int32) :=
  if x1 < 0 then
  some ((-1 : Int32))
  else
  if (bn 7) ≤ x1 then
  some ((-1 : Int32))
  else
  if (64 : Int32) ≤ x1 then
  some ((-1 : Int32))
  else
  (q_ix x1 64).bind fun j4 =>
  some ((rw j4))
def f_X12_digestOfLead (ly : Nat → Int32) (pl : Nat → Int32) (x1 : Int32) : Option (Int32) :=
  if ¬ x1 = (-1 : Int32) then
  (f_X1_place pl x1).bind fun r2 =>
  (f_X1_liesInLoft ly x1).bind fun r3 =>
  if (q_bz r3) = 0 then
  some (((1 : Int32) + r2))
  else
  some ((((1 : Int32) + r2) + (100 : Int32)))
  else
  some ((0 : Int32))
def f_X12_digestWithBale_L44 (ly : Nat → Int32) (pl : Nat → Int32) (rc : Nat → Int32) (ld : Nat → Int32) (v3 : Int32) : Nat → Int64 → Int32 → Option (Int64)
  | 0, _, _ => none
  | fu + 1, v5, v7 =>
    (f_X1_ropes rc v3).bind fun r1 =>
    if r1 ≤ v7 then
    some (v5)
    else
    (f_X1_lead rc ld v3 v7).bind fun r3 =>
    (f_X12_digestOfLead ly pl r3).bind fun r4 =>
    f_X12_digestWithBale_L44 ly pl rc ld v3 fu ((v5 * (31 : Int64)) + r4.toInt64) (v7 + 1)
def f_X12_digestWithBale (ly : Nat → Int32) (pl : Nat → Int32) (sz : Nat → Int32) (ag : Nat → Int32) (rc : Nat → Int32) (ld : Nat → Int32) (x1 : Int64) (x2 : Int32) : Option (Int64) :=
  (f_X1_place pl x2).bind fun r5 =>
  (f_X1_size sz x2).bind fun r6 =>
  (f_X1_age ag x2).bind fun r7 =>
  (f_X1_ropes rc x2).bind fun r8 =>
  (f_X12_digestWithBale_L44 ly pl rc ld x2 4096 ((((((((x1 * (31 : Int64)) + r5.toInt64) * (31 : Int64)) + r6.toInt64) * (31 : Int64)) + r7.toInt64) * (31 : Int64)) + r8.toInt64) (0 : Int32)).bind fun r9 =>
  some (r9)
def f_X12_digest_L5 (bn : Nat → Int32) (ly : Nat → Int32) (pl : Nat → Int32) (sz : Nat → Int32) (ag : Nat → Int32) (rc : Nat → Int32) (ld : Nat → Int32) (rw : Nat → Int32) : Nat → Int64 → Int32 → Option (Int64)
  | 0, _, _ => none
  | fu + 1, v1, v3 =>
    if (bn 7) ≤ v3 then
    some (v1)
    else
    (f_X2_inRow bn rw v3).bind fun r2 =>
    (f_X12_digestWithBale ly pl sz ag rc ld v1 r2).bind fun r3 =>
    f_X12_digest_L5 bn ly pl sz ag rc ld rw fu r3 (v3 + 1)
def f_X12_digest_L44 (pn : Nat → Int32) (ly : Nat → Int32) (pl : Nat → Int32) (hk : Nat → Int32) : Nat → Int64 → Int32 → Option (Int64)
  | 0, _, _ => none
  | fu + 1, v1, v3 =>
    if (pn 3) ≤ v3 then
    some (v1)
    else
    (f_X2_held hk v3).bind fun r5 =>
    (f_X12_digestOfLead ly pl r5).bind fun r6 =>
    f_X12_digest_L44 pn ly pl hk fu ((v1 * (31 : Int64)) + r6.toInt64) (v3 + 1)
def f_X12_digest_L22 (pn : Nat → Int32) (ly : Nat → Int32) (pl : Nat → Int32) (sz : Nat → Int32) (ag : Nat → Int32) (rc : Nat → Int32) (ld : Nat → Int32) (lo : Nat → Int32) (lr : Nat → Int32) : Nat → Int64 → Int32 → Option (Int64)
  | 0, _, _ => none
  | fu + 1, v1, v3 =>
    if (pn 1) ≤ v3 then
    some (v1)
    else
    (f_X2_loftBaleFrom pl lo lr v3).bind fun r8 =>
    if r8 = (-1 : Int32) then
    f_X12_digest_L22 pn ly pl sz ag rc ld lo lr fu v1 (v3 + 1)
    else
    (f_X12_digestWithBale ly pl sz ag rc ld v1 r8).bind fun r10 =>
    f_X12_digest_L22 pn ly pl sz ag rc ld lo lr fu r10 (v3 + 1)
def f_X12_digest (pn : Nat → Int32) (bn : Nat → Int32) (ly : Nat → Int32) (pl : Nat → Int32) (sz : Nat → Int32) (ag : Nat → Int32) (rc : Nat → Int32) (ld : Nat → Int32) (lo : Nat → Int32) (lr : Nat → Int32) (li : Nat → Int32) (nr : Nat → Int32) (nd : Nat → Int32) (hk : Nat → Int32) (rw : Nat → Int32) : Option (Int64 × (Nat → Int32) × (Nat → Int32) × (Nat → Int32)) :=
  (f_X12_digestOfCounts pn bn rc ld lo lr li nr nd hk).bind fun r11 =>
  (f_X12_digest_L5 bn ly pl sz ag rc ld rw 4096 r11.1 (0 : Int32)).bind fun r12 =>
  (f_X12_digest_L22 pn ly pl sz ag rc ld lo lr 4096 r12 (0 : Int32)).bind fun r13 =>
  (f_X12_digest_L44 pn ly pl hk 4096 r13 (0 : Int32)).bind fun r14 =>
  some (r14, r11.2.1, r11.2.2.1, r11.2.2.2)
def f_X11_at (tp : Nat → Int32) (tk : Nat → Int32) (x1 : Int32) : Option (Int32) :=
  if x1 < 0 then
  some ((0 : Int32))
  else
  if (tk 5) ≤ x1 then
  some ((0 : Int32))
  else
  if (2000 : Int32) ≤ x1 then
  some ((0 : Int32))
  else
  (q_ix x1 2000).bind fun j4 =>
  some ((tp j4))
def f_X11_behindBlanks_L2 (tp : Nat → Int32) (tk : Nat → Int32) : Nat → Int32 → Option (Int32)
  | 0, _ => none
  | fu + 1, v2 =>
    if (tk 5) ≤ v2 then
    some (v2)
    else
    (f_X11_at tp tk v2).bind fun r2 =>
    if r2 = (32 : Int32) then
    f_X11_behindBlanks_L2 tp tk fu (v2 + 1)
    else
    (f_X11_at tp tk v2).bind fun r4 =>
    if ¬ r4 = (10 : Int32) then
    some (v2)
    else
    f_X11_behindBlanks_L2 tp tk fu (v2 + 1)
def f_X11_behindBlanks (tp : Nat → Int32) (tk : Nat → Int32) (x1 : Int32) : Option (Int32) :=
  (f_X11_behindBlanks_L2 tp tk 4096 x1).bind fun r6 =>
  some (r6)
def f_X11_isLetter (x0 : Int32) : Option (Bool) :=
  if x0 < (97 : Int32) then
  some (false)
  else
  if (122 : Int32) < x0 then
  some (false)
  else
  some (true)
def f_X11_isDigit (x0 : Int32) : Option (Bool) :=
  if x0 < (48 : Int32) then
  some (false)
  else
  if (57 : Int32) < x0 then
  some (false)
  else
  some (true)
def f_X11_wordLength_L2 (tp : Nat → Int32) (tk : Nat → Int32) : Nat → Int32 → Option (Int32)
  | 0, _ => none
  | fu + 1, v2 =>
    if (tk 5) ≤ v2 then
    some (v2)
    else
    (f_X11_at tp tk v2).bind fun r2 =>
    (f_X11_isLetter r2).bind fun r3 =>
    if ¬ (q_bz r3) = 0 then
    f_X11_wordLength_L2 tp tk fu (v2 + 1)
    else
    (f_X11_at tp tk v2).bind fun r5 =>
    (f_X11_isDigit r5).bind fun r6 =>
    if (q_bz r6) = 0 then
    some (v2)
    else
    f_X11_wordLength_L2 tp tk fu (v2 + 1)
def f_X11_wordLength (tp : Nat → Int32) (tk : Nat → Int32) (x1 : Int32) : Option (Int32) :=
  (f_X11_wordLength_L2 tp tk 4096 x1).bind fun r8 =>
  some ((r8 - x1))
def f_X11_lengthWithin (x0 : Int32) (x1 : Int32) : Option (Int32) :=
  if x1 < x0 then
  some ((0 : Int32))
  else
  some (x0)
def f_X11_digitCount_L2 (tp : Nat → Int32) (tk : Nat → Int32) : Nat → Int32 → Option (Int32)
  | 0, _ => none
  | fu + 1, v2 =>
    if (tk 5) ≤ v2 then
    some (v2)
    else
    (f_X11_at tp tk v2).bind fun r2 =>
    (f_X11_isDigit r2).bind fun r3 =>
    if (q_bz r3) = 0 then
    some (v2)
    else
    f_X11_digitCount_L2 tp tk fu (v2 + 1)
def f_X11_digitCount (tp : Nat → Int32) (tk : Nat → Int32) (x1 : Int32) : Option (Int32) :=
  (f_X11_digitCount_L2 tp tk 4096 x1).bind fun r5 =>
  some ((r5 - x1))
def f_X11_isWritten_L2 (tp : Nat → Int32) (tk : Nat → Int32) (v1 : Nat) (v2 : Int32) : Nat → Int32 → Option (Nat)
  | 0, _ => none
  | fu + 1, v3 =>
    if (nI (q_str v1).length) ≤ v3 then
    some (0)
    else
    (f_X11_at tp tk (v2 + v3)).bind fun r2 =>
    (q_ix v3 (q_str v1).length).bind fun j3 =>
    if r2 = ((q_str v1).getD j3 0) then
    f_X11_isWritten_L2 tp tk v1 v2 fu (v3 + 1)
    else
    some (1)
def f_X11_isWritten (tp : Nat → Int32) (tk : Nat → Int32) (x1 : Nat) (x2 : Int32) : Option (Bool) :=
  (q_okstr x1).bind fun ug1 =>
  (f_X11_isWritten_L2 tp tk x1 x2 4096 (0 : Int32)).bind fun r5 =>
  if r5 = 0 then
  some (true)
  else
  some (false)
def f_X11_writtenSign_L7 (tp : Nat → Int32) (tk : Nat → Int32) (v1 : Int32) (v2 : Int32) (v4 : Int32) : Nat → Int32 → Option (Nat × Nat)
  | 0, _ => none
  | fu + 1, v5 =>
    if v4 ≤ v5 then
    some (0, 0)
    else
    (q_ix v5 49).bind fun j2 =>
    if ¬ (nI (q_str (100 + j2)).length) = v2 then
    f_X11_writtenSign_L7 tp tk v1 v2 v4 fu (v5 + 1)
    else
    (f_X11_isWritten tp tk (100 + j2) v1).bind fun r4 =>
    if (q_bz r4) = 0 then
    f_X11_writtenSign_L7 tp tk v1 v2 v4 fu (v5 + 1)
    else
    some (1, j2)
def f_X11_writtenSign (tp : Nat → Int32) (tk : Nat → Int32) (x1 : Int32) (x2 : Int32) : Option (Nat) :=
  (f_X11_writtenSign_L7 tp tk x1 x2 (nI 49) 4096 (0 : Int32)).bind fun r6 =>
  if r6.1 = 0 then
  some (1)
  else
  (q_e49 r6.2).bind fun u7 =>
  some (r6.2)
def f_X11_tokenLength (tp : Nat → Int32) (tk : Nat → Int32) (x1 : Int32) : Option (Int32) :=
  (f_X11_at tp tk x1).bind fun r1 =>
  (f_X11_isLetter r1).bind fun r2 =>
  if (q_bz r2) = 0 then
  (f_X11_at tp tk x1).bind fun r4 =>
  (f_X11_isDigit r4).bind fun r5 =>
  if (q_bz r5) = 0 then
  (f_X11_writtenSign tp tk x1 (2 : Int32)).bind fun r7 =>
  (q_e49 r7).bind fun u8 =>
  if r7 = 1 then
  (f_X11_writtenSign tp tk x1 (1 : Int32)).bind fun r11 =>
  (q_e49 r11).bind fun u12 =>
  if r11 = 1 then
  some ((0 : Int32))
  else
  some ((1 : Int32))
  else
  some ((2 : Int32))
  else
  (f_X11_digitCount tp tk x1).bind fun r15 =>
  (f_X11_lengthWithin r15 (6 : Int32)).bind fun r16 =>
  some (r16)
  else
  (f_X11_wordLength tp tk x1).bind fun r17 =>
  (f_X11_lengthWithin r17 (10 : Int32)).bind fun r18 =>
  some (r18)
def f_X11_tokenSign (tp : Nat → Int32) (tk : Nat → Int32) (x1 : Int32) (x2 : Int32) : Option (Nat) :=
  (f_X11_at tp tk x1).bind fun r1 =>
  (f_X11_isDigit r1).bind fun r2 =>
  if (q_bz r2) = 0 then
  (f_X11_writtenSign tp tk x1 x2).bind fun r4 =>
  (q_e49 r4).bind fun u5 =>
  if r4 = 1 then
  some (3)
  else
  some (r4)
  else
  some (2)
def f_X11_numberAt_L4 (tp : Nat → Int32) (tk : Nat → Int32) (v1 : Int32) (v2 : Int32) : Nat → Int32 → Int32 → Option (Int32)
  | 0, _, _ => none
  | fu + 1, v3, v4 =>
    if v2 ≤ v4 then
    some (v3)
    else
    (f_X11_at tp tk (v1 + v4)).bind fun r2 =>
    f_X11_numberAt_L4 tp tk v1 v2 fu (((v3 * (10 : Int32)) + r2) - (48 : Int32)) (v4 + 1)
def f_X11_numberAt (tp : Nat → Int32) (tk : Nat → Int32) (x1 : Int32) (x2 : Int32) : Option (Int32) :=
  (f_X11_numberAt_L4 tp tk x1 x2 4096 (0 : Int32) (0 : Int32)).bind fun r3 =>
  some (r3)
def f_X11_isSame_L2 (tp : Nat → Int32) (tk : Nat → Int32) (v1 : Int32) (v2 : Int32) (v3 : Int32) : Nat → Int32 → Option (Nat)
  | 0, _ => none
  | fu + 1, v4 =>
    if v3 ≤ v4 then
    some (0)
    else
    (f_X11_at tp tk (v1 + v4)).bind fun r2 =>
    (f_X11_at tp tk (v2 + v4)).bind fun r3 =>
    if r2 = r3 then
    f_X11_isSame_L2 tp tk v1 v2 v3 fu (v4 + 1)
    else
    some (1)
def f_X11_isSame (tp : Nat → Int32) (tk : Nat → Int32) (x1 : Int32) (x2 : Int32) (x3 : Int32) : Option (Bool) :=
  (f_X11_isSame_L2 tp tk x1 x2 x3 4096 (0 : Int32)).bind fun r5 =>
  if r5 = 0 then
  some (true)
  else
  some (false)
def f_X11_firstLike_L2 (tp : Nat → Int32) (tk : Nat → Int32) (ts : Nat → Int32) (tl : Nat → Int32) (tg : Nat → Option Nat) (v1 : Int32) (v2 : Int32) : Nat → Int32 → Option (Nat × Int32)
  | 0, _ => none
  | fu + 1, v3 =>
    if (tk 6) ≤ v3 then
    some (0, 0)
    else
    if (400 : Int32) < v3 then
    some (0, 0)
    else
    (q_ix v3 401).bind fun j3 =>
    q_on (tg j3)
    (if (0 : Int32) = 0 then
    f_X11_firstLike_L2 tp tk ts tl tg v1 v2 fu (v3 + 1)
    else
    (q_ix v3 401).bind fun j9 =>
    (f_X11_isSame tp tk (ts j9) v1 v2).bind fun r10 =>
    if (q_bz r10) = 0 then
    f_X11_firstLike_L2 tp tk ts tl tg v1 v2 fu (v3 + 1)
    else
    some (1, v3))
    (fun b4 =>
    if b4 = 3 then
    (q_ix v3 401).bind fun j13 =>
    if ¬ (tl j13) = v2 then
    if (0 : Int32) = 0 then
    f_X11_firstLike_L2 tp tk ts tl tg v1 v2 fu (v3 + 1)
    else
    (q_ix v3 401).bind fun j16 =>
    (f_X11_isSame tp tk (ts j16) v1 v2).bind fun r17 =>
    if (q_bz r17) = 0 then
    f_X11_firstLike_L2 tp tk ts tl tg v1 v2 fu (v3 + 1)
    else
    some (1, v3)
    else
    if (1 : Int32) = 0 then
    f_X11_firstLike_L2 tp tk ts tl tg v1 v2 fu (v3 + 1)
    else
    (q_ix v3 401).bind fun j20 =>
    (f_X11_isSame tp tk (ts j20) v1 v2).bind fun r21 =>
    if (q_bz r21) = 0 then
    f_X11_firstLike_L2 tp tk ts tl tg v1 v2 fu (v3 + 1)
    else
    some (1, v3)
    else
    if (0 : Int32) = 0 then
    f_X11_firstLike_L2 tp tk ts tl tg v1 v2 fu (v3 + 1)
    else
    (q_ix v3 401).bind fun j24 =>
    (f_X11_isSame tp tk (ts j24) v1 v2).bind fun r25 =>
    if (q_bz r25) = 0 then
    f_X11_firstLike_L2 tp tk ts tl tg v1 v2 fu (v3 + 1)
    else
    some (1, v3))
def f_X11_firstLike (tp : Nat → Int32) (tk : Nat → Int32) (ts : Nat → Int32) (tl : Nat → Int32) (tg : Nat → Option Nat) (x1 : Int32) (x2 : Int32) : Option (Int32) :=
  (f_X11_firstLike_L2 tp tk ts tl tg x1 x2 4096 (0 : Int32)).bind fun r27 =>
  if r27.1 = 0 then
  some ((tk 6))
  else
  some (r27.2)
def f_X11_valueOf (tp : Nat → Int32) (tk : Nat → Int32) (ts : Nat → Int32) (tl : Nat → Int32) (tg : Nat → Option Nat) (x1 : Nat) (x2 : Int32) (x3 : Int32) : Option (Int32) :=
  (q_e49 x1).bind fun ug1 =>
  if x1 = 2 then
  (f_X11_numberAt tp tk x2 x3).bind fun r2 =>
  some (r2)
  else
  if x1 = 3 then
  (f_X11_firstLike tp tk ts tl tg x2 x3).bind fun r4 =>
  some (r4)
  else
  some ((0 : Int32))
def f_X11_add (tp : Nat → Int32) (tk : Nat → Int32) (ts : Nat → Int32) (tl : Nat → Int32) (tv : Nat → Int32) (tg : Nat → Option Nat) (x1 : Nat) (x2 : Int32) (x3 : Int32) : Option ((Nat → Int32) × (Nat → Int32) × (Nat → Int32) × (Nat → Int32) × (Nat → Option Nat)) :=
  (q_e49 x1).bind fun ug1 =>
  if (tk 6) < 0 then
  some (tk, ts, tl, tv, tg)
  else
  if (400 : Int32) < (tk 6) then
  some (tk, ts, tl, tv, tg)
  else
  (q_ix (tk 6) 401).bind fun j3 =>
  (q_ix (tk 6) 401).bind fun j4 =>
  (q_ix (tk 6) 401).bind fun j5 =>
  (f_X11_valueOf tp tk (q_up ts j4 x2) (q_up tl j5 x3) (q_up tg j3 (some x1)) x1 x2 x3).bind fun r6 =>
  (q_ix (tk 6) 401).bind fun j7 =>
  some ((q_up tk 6 ((tk 6) + (1 : Int32))), (q_up ts j4 x2), (q_up tl j5 x3), (q_up tv j7 r6), (q_up tg j3 (some x1)))
def f_X11_split_L12 (tp : Nat → Int32) : Nat → (Nat → Int32) → (Nat → Int32) → (Nat → Int32) → (Nat → Int32) → (Nat → Option Nat) → Int32 → Int32 → Option (Nat × Int32 × (Nat → Int32) × (Nat → Int32) × (Nat → Int32) × (Nat → Int32) × (Nat → Option Nat))
  | 0, _, _, _, _, _, _, _ => none
  | fu + 1, tk, ts, tl, tv, tg, v2, v3 =>
    if (400 : Int32) ≤ v3 then
    some (0, v2, tk, ts, tl, tv, tg)
    else
    if (tk 5) ≤ v2 then
    some (0, v2, tk, ts, tl, tv, tg)
    else
    (f_X11_tokenLength tp tk v2).bind fun r3 =>
    if ¬ r3 = 0 then
    (f_X11_tokenSign tp tk v2 r3).bind fun r5 =>
    (q_e49 r5).bind fun u6 =>
    (f_X11_add tp tk ts tl tv tg r5 v2 r3).bind fun r8 =>
    (f_X11_behindBlanks tp r8.1 (v2 + r3)).bind fun r9 =>
    f_X11_split_L12 tp fu r8.1 r8.2.1 r8.2.2.1 r8.2.2.2.1 r8.2.2.2.2 r9 (v3 + 1)
    else
    some (1, v2, tk, ts, tl, tv, tg)
def f_X11_split (tp : Nat → Int32) (tk : Nat → Int32) (ts : Nat → Int32) (tl : Nat → Int32) (tv : Nat → Int32) (tg : Nat → Option Nat) (x1 : Int32) : Option ((Nat → Int32) × (Nat → Int32) × (Nat → Int32) × (Nat → Int32) × (Nat → Option Nat)) :=
  (f_X11_behindBlanks tp (q_up (q_up tk 5 x1) 6 (0 : Int32)) (0 : Int32)).bind fun r10 =>
  (f_X11_split_L12 tp 4096 (q_up (q_up tk 5 x1) 6 (0 : Int32)) ts tl tv tg r10 (0 : Int32)).bind fun r11 =>
  if r11.1 = 0 then
  if (r11.2.2.1 5) ≤ r11.2.1 then
  (f_X11_add tp r11.2.2.1 r11.2.2.2.1 r11.2.2.2.2.1 r11.2.2.2.2.2.1 r11.2.2.2.2.2.2 0 r11.2.1 (0 : Int32)).bind fun r13 =>
  some (r13.1, r13.2.1, r13.2.2.1, r13.2.2.2.1, r13.2.2.2.2)
  else
  (f_X11_add tp r11.2.2.1 r11.2.2.2.1 r11.2.2.2.2.1 r11.2.2.2.2.2.1 r11.2.2.2.2.2.2 1 r11.2.1 (0 : Int32)).bind fun r14 =>
  some (r14.1, r14.2.1, r14.2.2.1, r14.2.2.2.1, r14.2.2.2.2)
  else
  if (r11.2.2.1 5) ≤ r11.2.1 then
  (f_X11_add tp r11.2.2.1 r11.2.2.2.1 r11.2.2.2.2.1 r11.2.2.2.2.2.1 r11.2.2.2.2.2.2 0 r11.2.1 (0 : Int32)).bind fun r16 =>
  some (r16.1, r16.2.1, r16.2.2.1, r16.2.2.2.1, r16.2.2.2.2)
  else
  (f_X11_add tp r11.2.2.1 r11.2.2.2.1 r11.2.2.2.2.1 r11.2.2.2.2.2.1 r11.2.2.2.2.2.2 1 r11.2.1 (0 : Int32)).bind fun r17 =>
  some (r17.1, r17.2.1, r17.2.2.1, r17.2.2.2.1, r17.2.2.2.2)
def f_X6_clear (qn : Nat → Int32) : Option ((Nat → Int32)) :=
  some ((q_up (q_up (q_up (q_up (q_up (q_up qn 0 (16 : Int32)) 1 (16 : Int32)) 2 (2 : Int32)) 3 (0 : Int32)) 4 (0 : Int32)) 5 (0 : Int32)))
def f_X11_sign (tk : Nat → Int32) (tg : Nat → Option Nat) (x1 : Int32) : Option (Nat) :=
  if x1 < 0 then
  some (1)
  else
  if (tk 6) ≤ x1 then
  some (1)
  else
  if (400 : Int32) < x1 then
  some (1)
  else
  (q_ix x1 401).bind fun j4 =>
  q_on (tg j4)
  (some (1))
  (fun b5 =>
  some (b5))
def f_X7_sign (rd : Nat → Int32) (tk : Nat → Int32) (tg : Nat → Option Nat) : Option (Nat) :=
  if ¬ (rd 4) = (1 : Int32) then
  (f_X11_sign tk tg (rd 3)).bind fun r2 =>
  (q_e49 r2).bind fun u3 =>
  some (r2)
  else
  some (1)
def f_X7_isStep (x0 : Nat) : Option (Bool) :=
  (q_e49 x0).bind fun ug0 =>
  if x0 = 9 then
  some (true)
  else
  if x0 = 10 then
  some (true)
  else
  if x0 = 11 then
  some (true)
  else
  if x0 = 12 then
  some (true)
  else
  if x0 = 13 then
  some (true)
  else
  some (false)
def f_X7_fail (rd : Nat → Int32) : Option ((Nat → Int32)) :=
  if (rd 4) = (1 : Int32) then
  some (rd)
  else
  some ((q_up (q_up rd 4 (1 : Int32)) 5 ((q_up rd 4 (1 : Int32)) 3)))
def f_X7_takeDeeper (rd : Nat → Int32) (x1 : Int32) : Option (Bool × (Nat → Int32)) :=
  if x1 < (8 : Int32) then
  some (true, (q_up rd 3 ((rd 3) + (1 : Int32))))
  else
  (f_X7_fail rd).bind fun r2 =>
  some (false, r2)
def f_X7_take (rd : Nat → Int32) (tk : Nat → Int32) (tg : Nat → Option Nat) (x1 : Nat) : Option (Bool × (Nat → Int32)) :=
  (q_e49 x1).bind fun ug1 =>
  (f_X7_sign rd tk tg).bind fun r1 =>
  (q_e49 r1).bind fun u2 =>
  if r1 = x1 then
  some (true, (q_up rd 3 ((rd 3) + (1 : Int32))))
  else
  (f_X7_fail rd).bind fun r5 =>
  some (false, r5)
def f_X6_addOrder (qn : Nat → Int32) (qu : Nat → Int32) (qd : Nat → Option Nat) (x1 : Nat) (x2 : Int32) : Option ((Nat → Int32) × (Nat → Int32) × (Nat → Option Nat)) :=
  (q_e49 x1).bind fun ug1 =>
  if (qn 5) < 0 then
  some (qn, qu, qd)
  else
  if (400 : Int32) ≤ (qn 5) then
  some (qn, qu, qd)
  else
  (q_ix (qn 5) 400).bind fun j3 =>
  (q_ix (qn 5) 400).bind fun j4 =>
  some ((q_up qn 5 ((qn 5) + (1 : Int32))), (q_up qu j4 x2), (q_up qd j3 (some x1)))
def f_X7_readPair (r_readSum : (Nat → Int32) → (Nat → Int32) → (Nat → Int32) → (Nat → Int32) → (Nat → Int32) → (Nat → Int32) → (Nat → Option Nat) → (Nat → Option Nat) → Int32 → Option ((Nat → Int32) × (Nat → Int32) × (Nat → Int32) × (Nat → Option Nat))) (qn : Nat → Int32) (qu : Nat → Int32) (rd : Nat → Int32) (hn : Nat → Int32) (tk : Nat → Int32) (tv : Nat → Int32) (qd : Nat → Option Nat) (tg : Nat → Option Nat) (x1 : Nat) (x2 : Int32) : Option ((Nat → Int32) × (Nat → Int32) × (Nat → Int32) × (Nat → Option Nat)) :=
  (q_e49 x1).bind fun ug1 =>
  (f_X7_sign rd tk tg).bind fun r1 =>
  (q_e49 r1).bind fun u2 =>
  if r1 = 34 then
  (f_X7_takeDeeper rd x2).bind fun r5 =>
  if (q_bz r5.1) = 0 then
  some (qn, qu, r5.2, qd)
  else
  (r_readSum qn qu r5.2 hn tk tv qd tg (x2 + (1 : Int32))).bind fun r7 =>
  (f_X7_take r7.2.2.1 tk tg 39).bind fun r8 =>
  (r_readSum r7.1 r7.2.1 r8.2 hn tk tv r7.2.2.2 tg (x2 + (1 : Int32))).bind fun r9 =>
  (f_X7_take r9.2.2.1 tk tg 35).bind fun r10 =>
  (f_X6_addOrder r9.1 r9.2.1 r9.2.2.2 x1 (0 : Int32)).bind fun r11 =>
  some (r11.1, r11.2.1, r10.2, r11.2.2)
  else
  (f_X7_fail rd).bind fun r12 =>
  some (qn, qu, r12, qd)
def f_X11_value (tk : Nat → Int32) (tv : Nat → Int32) (x1 : Int32) : Option (Int32) :=
  if x1 < 0 then
  some ((0 : Int32))
  else
  if (tk 6) ≤ x1 then
  some ((0 : Int32))
  else
  if (400 : Int32) < x1 then
  some ((0 : Int32))
  else
  (q_ix x1 401).bind fun j4 =>
  some ((tv j4))
def f_X7_hookNamed_L2 (qn : Nat → Int32) (hn : Nat → Int32) (v1 : Int32) : Nat → Int32 → Option (Nat × Int32)
  | 0, _ => none
  | fu + 1, v2 =>
    if (qn 3) ≤ v2 then
    some (0, 0)
    else
    if (6 : Int32) ≤ v2 then
    some (0, 0)
    else
    (q_ix v2 6).bind fun j3 =>
    if ¬ (hn j3) = v1 then
    f_X7_hookNamed_L2 qn hn v1 fu (v2 + 1)
    else
    some (1, v2)
def f_X7_hookNamed (qn : Nat → Int32) (hn : Nat → Int32) (x1 : Int32) : Option (Int32) :=
  (f_X7_hookNamed_L2 qn hn x1 4096 (0 : Int32)).bind fun r5 =>
  if r5.1 = 0 then
  some ((-1 : Int32))
  else
  some (r5.2)
def f_X7_blame (rd : Nat → Int32) (x1 : Int32) (x2 : Int32) : Option ((Nat → Int32)) :=
  if ¬ (rd 4) = 0 then
  some (rd)
  else
  some ((q_up (q_up rd 4 x1) 5 x2))
def f_X7_readHook (qn : Nat → Int32) (rd : Nat → Int32) (hn : Nat → Int32) (tk : Nat → Int32) (tv : Nat → Int32) (tg : Nat → Option Nat) : Option (Int32 × (Nat → Int32)) :=
  (f_X7_sign rd tk tg).bind fun r1 =>
  (q_e49 r1).bind fun u2 =>
  if r1 = 3 then
  (f_X11_value tk tv (rd 3)).bind fun r5 =>
  (f_X7_hookNamed qn hn r5).bind fun r6 =>
  if ¬ r6 = (-1 : Int32) then
  some ((q_max r6 (0 : Int32)), (q_up rd 3 ((rd 3) + (1 : Int32))))
  else
  (f_X7_blame rd (3 : Int32) (rd 3)).bind fun r8 =>
  some ((q_max r6 (0 : Int32)), (q_up r8 3 ((r8 3) + (1 : Int32))))
  else
  (f_X7_fail rd).bind fun r9 =>
  some ((0 : Int32), r9)
def f_X7_readValue (r_readValue : (Nat → Int32) → (Nat → Int32) → (Nat → Int32) → (Nat → Int32) → (Nat → Int32) → (Nat → Int32) → (Nat → Option Nat) → (Nat → Option Nat) → Int32 → Option ((Nat → Int32) × (Nat → Int32) × (Nat → Int32) × (Nat → Option Nat))) (r_readSum : (Nat → Int32) → (Nat → Int32) → (Nat → Int32) → (Nat → Int32) → (Nat → Int32) → (Nat → Int32) → (Nat → Option Nat) → (Nat → Option Nat) → Int32 → Option ((Nat → Int32) × (Nat → Int32) × (Nat → Int32) × (Nat → Option Nat))) (qn : Nat → Int32) (qu : Nat → Int32) (rd : Nat → Int32) (hn : Nat → Int32) (tk : Nat → Int32) (tv : Nat → Int32) (qd : Nat → Option Nat) (tg : Nat → Option Nat) (x1 : Int32) : Option ((Nat → Int32) × (Nat → Int32) × (Nat → Int32) × (Nat → Option Nat)) :=
  (f_X7_sign rd tk tg).bind fun r1 =>
  (q_e49 r1).bind fun u2 =>
  (q_ix (nI r1) 49).bind fun j4 =>
  if (q_sw j4) = 9 then
  (f_X11_value tk tv (rd 3)).bind fun r5 =>
  (f_X6_addOrder qn qu qd r1 r5).bind fun r6 =>
  some (r6.1, r6.2.1, (q_up rd 3 ((rd 3) + (1 : Int32))), r6.2.2)
  else
  if (q_sw j4) = 10 then
  (f_X6_addOrder qn qu qd r1 (0 : Int32)).bind fun r7 =>
  some (r7.1, r7.2.1, (q_up rd 3 ((rd 3) + (1 : Int32))), r7.2.2)
  else
  if (q_sw j4) = 11 then
  (f_X6_addOrder qn qu qd r1 (0 : Int32)).bind fun r8 =>
  some (r8.1, r8.2.1, (q_up rd 3 ((rd 3) + (1 : Int32))), r8.2.2)
  else
  if (q_sw j4) = 12 then
  (f_X6_addOrder qn qu qd r1 (0 : Int32)).bind fun r9 =>
  some (r9.1, r9.2.1, (q_up rd 3 ((rd 3) + (1 : Int32))), r9.2.2)
  else
  if (q_sw j4) = 13 then
  (f_X6_addOrder qn qu qd r1 (0 : Int32)).bind fun r10 =>
  some (r10.1, r10.2.1, (q_up rd 3 ((rd 3) + (1 : Int32))), r10.2.2)
  else
  if (q_sw j4) = 14 then
  (f_X6_addOrder qn qu qd r1 (0 : Int32)).bind fun r11 =>
  some (r11.1, r11.2.1, (q_up rd 3 ((rd 3) + (1 : Int32))), r11.2.2)
  else
  if (q_sw j4) = 15 then
  (f_X7_take (q_up rd 3 ((rd 3) + (1 : Int32))) tk tg 18).bind fun r12 =>
  (f_X7_readHook qn r12.2 hn tk tv tg).bind fun r13 =>
  (f_X6_addOrder qn qu qd r1 r13.1).bind fun r14 =>
  some (r14.1, r14.2.1, r13.2, r14.2.2)
  else
  if (q_sw j4) = 16 then
  (f_X7_take (q_up rd 3 ((rd 3) + (1 : Int32))) tk tg 18).bind fun r15 =>
  (f_X7_readHook qn r15.2 hn tk tv tg).bind fun r16 =>
  (f_X6_addOrder qn qu qd r1 r16.1).bind fun r17 =>
  some (r17.1, r17.2.1, r16.2, r17.2.2)
  else
  if (q_sw j4) = 17 then
  (f_X7_takeDeeper rd x1).bind fun r18 =>
  if (q_bz r18.1) = 0 then
  some (qn, qu, r18.2, qd)
  else
  (r_readValue qn qu r18.2 hn tk tv qd tg (x1 + (1 : Int32))).bind fun r20 =>
  (f_X6_addOrder r20.1 r20.2.1 r20.2.2.2 4 (0 : Int32)).bind fun r21 =>
  some (r21.1, r21.2.1, r20.2.2.1, r21.2.2)
  else
  if (q_sw j4) = 18 then
  (f_X7_takeDeeper rd x1).bind fun r22 =>
  if (q_bz r22.1) = 0 then
  some (qn, qu, r22.2, qd)
  else
  (r_readSum qn qu r22.2 hn tk tv qd tg (x1 + (1 : Int32))).bind fun r24 =>
  (f_X7_take r24.2.2.1 tk tg 35).bind fun r25 =>
  some (r24.1, r24.2.1, r25.2, r24.2.2.2)
  else
  if (q_sw j4) = 19 then
  (f_X7_readPair r_readSum qn qu (q_up rd 3 ((rd 3) + (1 : Int32))) hn tk tv qd tg r1 x1).bind fun r26 =>
  some (r26.1, r26.2.1, r26.2.2.1, r26.2.2.2)
  else
  if (q_sw j4) = 20 then
  (f_X7_readPair r_readSum qn qu (q_up rd 3 ((rd 3) + (1 : Int32))) hn tk tv qd tg r1 x1).bind fun r27 =>
  some (r27.1, r27.2.1, r27.2.2.1, r27.2.2.2)
  else
  (f_X7_fail rd).bind fun r28 =>
  some (qn, qu, r28, qd)
def f_X7_readProduct_L5 (r_readValue : (Nat → Int32) → (Nat → Int32) → (Nat → Int32) → (Nat → Int32) → (Nat → Int32) → (Nat → Int32) → (Nat → Option Nat) → (Nat → Option Nat) → Int32 → Option ((Nat → Int32) × (Nat → Int32) × (Nat → Int32) × (Nat → Option Nat))) (r_readSum : (Nat → Int32) → (Nat → Int32) → (Nat → Int32) → (Nat → Int32) → (Nat → Int32) → (Nat → Int32) → (Nat → Option Nat) → (Nat → Option Nat) → Int32 → Option ((Nat → Int32) × (Nat → Int32) × (Nat → Int32) × (Nat → Option Nat))) (hn : Nat → Int32) (tk : Nat → Int32) (tv : Nat → Int32) (tg : Nat → Option Nat) (v1 : Int32) : Nat → (Nat → Int32) → (Nat → Int32) → (Nat → Int32) → (Nat → Option Nat) → Int32 → Option ((Nat → Int32) × (Nat → Int32) × (Nat → Int32) × (Nat → Option Nat))
  | 0, _, _, _, _, _ => none
  | fu + 1, qn, qu, rd, qd, v2 =>
    if (400 : Int32) ≤ v2 then
    some (qn, qu, rd, qd)
    else
    (f_X7_sign rd tk tg).bind fun r2 =>
    (q_e49 r2).bind fun u3 =>
    if r2 = 42 then
    (f_X7_sign rd tk tg).bind fun r6 =>
    (q_e49 r6).bind fun u7 =>
    (f_X7_readValue r_readValue r_readSum qn qu (q_up rd 3 ((rd 3) + (1 : Int32))) hn tk tv qd tg v1).bind fun r9 =>
    (f_X6_addOrder r9.1 r9.2.1 r9.2.2.2 r6 (0 : Int32)).bind fun r10 =>
    f_X7_readProduct_L5 r_readValue r_readSum hn tk tv tg v1 fu r10.1 r10.2.1 r9.2.2.1 r10.2.2 (v2 + 1)
    else
    (f_X7_sign rd tk tg).bind fun r11 =>
    (q_e49 r11).bind fun u12 =>
    if r11 = 43 then
    (f_X7_sign rd tk tg).bind fun r15 =>
    (q_e49 r15).bind fun u16 =>
    (f_X7_readValue r_readValue r_readSum qn qu (q_up rd 3 ((rd 3) + (1 : Int32))) hn tk tv qd tg v1).bind fun r18 =>
    (f_X6_addOrder r18.1 r18.2.1 r18.2.2.2 r15 (0 : Int32)).bind fun r19 =>
    f_X7_readProduct_L5 r_readValue r_readSum hn tk tv tg v1 fu r19.1 r19.2.1 r18.2.2.1 r19.2.2 (v2 + 1)
    else
    some (qn, qu, rd, qd)
def f_X7_readProduct (r_readValue : (Nat → Int32) → (Nat → Int32) → (Nat → Int32) → (Nat → Int32) → (Nat → Int32) → (Nat → Int32) → (Nat → Option Nat) → (Nat → Option Nat) → Int32 → Option ((Nat → Int32) × (Nat → Int32) × (Nat → Int32) × (Nat → Option Nat))) (r_readSum : (Nat → Int32) → (Nat → Int32) → (Nat → Int32) → (Nat → Int32) → (Nat → Int32) → (Nat → Int32) → (Nat → Option Nat) → (Nat → Option Nat) → Int32 → Option ((Nat → Int32) × (Nat → Int32) × (Nat → Int32) × (Nat → Option Nat))) (qn : Nat → Int32) (qu : Nat → Int32) (rd : Nat → Int32) (hn : Nat → Int32) (tk : Nat → Int32) (tv : Nat → Int32) (qd : Nat → Option Nat) (tg : Nat → Option Nat) (x1 : Int32) : Option ((Nat → Int32) × (Nat → Int32) × (Nat → Int32) × (Nat → Option Nat)) :=
  (f_X7_readValue r_readValue r_readSum qn qu rd hn tk tv qd tg x1).bind fun r20 =>
  (f_X7_readProduct_L5 r_readValue r_readSum hn tk tv tg x1 4096 r20.1 r20.2.1 r20.2.2.1 r20.2.2.2 (0 : Int32)).bind fun r21 =>
  some (r21.1, r21.2.1, r21.2.2.1, r21.2.2.2)
def f_X7_readSum_L5 (r_readValue : (Nat → Int32) → (Nat → Int32) → (Nat → Int32) → (Nat → Int32) → (Nat → Int32) → (Nat → Int32) → (Nat → Option Nat) → (Nat → Option Nat) → Int32 → Option ((Nat → Int32) × (Nat → Int32) × (Nat → Int32) × (Nat → Option Nat))) (r_readSum : (Nat → Int32) → (Nat → Int32) → (Nat → Int32) → (Nat → Int32) → (Nat → Int32) → (Nat → Int32) → (Nat → Option Nat) → (Nat → Option Nat) → Int32 → Option ((Nat → Int32) × (Nat → Int32) × (Nat → Int32) × (Nat → Option Nat))) (hn : Nat → Int32) (tk : Nat → Int32) (tv : Nat → Int32) (tg : Nat → Option Nat) (v1 : Int32) : Nat → (Nat → Int32) → (Nat → Int32) → (Nat → Int32) → (Nat → Option Nat) → Int32 → Option ((Nat → Int32) × (Nat → Int32) × (Nat → Int32) × (Nat → Option Nat))
  | 0, _, _, _, _, _ => none
  | fu + 1, qn, qu, rd, qd, v2 =>
    if (400 : Int32) ≤ v2 then
    some (qn, qu, rd, qd)
    else
    (f_X7_sign rd tk tg).bind fun r2 =>
    (q_e49 r2).bind fun u3 =>
    if r2 = 40 then
    (f_X7_sign rd tk tg).bind fun r6 =>
    (q_e49 r6).bind fun u7 =>
    (f_X7_readProduct r_readValue r_readSum qn qu (q_up rd 3 ((rd 3) + (1 : Int32))) hn tk tv qd tg v1).bind fun r9 =>
    (f_X6_addOrder r9.1 r9.2.1 r9.2.2.2 r6 (0 : Int32)).bind fun r10 =>
    f_X7_readSum_L5 r_readValue r_readSum hn tk tv tg v1 fu r10.1 r10.2.1 r9.2.2.1 r10.2.2 (v2 + 1)
    else
    (f_X7_sign rd tk tg).bind fun r11 =>
    (q_e49 r11).bind fun u12 =>
    if r11 = 41 then
    (f_X7_sign rd tk tg).bind fun r15 =>
    (q_e49 r15).bind fun u16 =>
    (f_X7_readProduct r_readValue r_readSum qn qu (q_up rd 3 ((rd 3) + (1 : Int32))) hn tk tv qd tg v1).bind fun r18 =>
    (f_X6_addOrder r18.1 r18.2.1 r18.2.2.2 r15 (0 : Int32)).bind fun r19 =>
    f_X7_readSum_L5 r_readValue r_readSum hn tk tv tg v1 fu r19.1 r19.2.1 r18.2.2.1 r19.2.2 (v2 + 1)
    else
    some (qn, qu, rd, qd)
def f_X7_readSum (r_readValue : (Nat → Int32) → (Nat → Int32) → (Nat → Int32) → (Nat → Int32) → (Nat → Int32) → (Nat → Int32) → (Nat → Option Nat) → (Nat → Option Nat) → Int32 → Option ((Nat → Int32) × (Nat → Int32) × (Nat → Int32) × (Nat → Option Nat))) (r_readSum : (Nat → Int32) → (Nat → Int32) → (Nat → Int32) → (Nat → Int32) → (Nat → Int32) → (Nat → Int32) → (Nat → Option Nat) → (Nat → Option Nat) → Int32 → Option ((Nat → Int32) × (Nat → Int32) × (Nat → Int32) × (Nat → Option Nat))) (qn : Nat → Int32) (qu : Nat → Int32) (rd : Nat → Int32) (hn : Nat → Int32) (tk : Nat → Int32) (tv : Nat → Int32) (qd : Nat → Option Nat) (tg : Nat → Option Nat) (x1 : Int32) : Option ((Nat → Int32) × (Nat → Int32) × (Nat → Int32) × (Nat → Option Nat)) :=
  (f_X7_readProduct r_readValue r_readSum qn qu rd hn tk tv qd tg x1).bind fun r20 =>
  (f_X7_readSum_L5 r_readValue r_readSum hn tk tv tg x1 4096 r20.1 r20.2.1 r20.2.2.1 r20.2.2.2 (0 : Int32)).bind fun r21 =>
  some (r21.1, r21.2.1, r21.2.2.1, r21.2.2.2)
def f_X7_readSame (qn : Nat → Int32) (qu : Nat → Int32) (rd : Nat → Int32) (hn : Nat → Int32) (tk : Nat → Int32) (tv : Nat → Int32) (qd : Nat → Option Nat) (tg : Nat → Option Nat) : Option ((Nat → Int32) × (Nat → Int32) × (Nat → Int32) × (Nat → Option Nat)) :=
  (f_X7_readHook qn rd hn tk tv tg).bind fun r1 =>
  (f_X7_readHook qn r1.2 hn tk tv tg).bind fun r2 =>
  (f_X6_addOrder qn qu qd 28 ((r1.1 * (6 : Int32)) + r2.1)).bind fun r3 =>
  some (r3.1, r3.2.1, r2.2, r3.2.2)
def f_X7_isRelation (x0 : Nat) : Option (Bool) :=
  (q_e49 x0).bind fun ug0 =>
  if x0 = 44 then
  some (true)
  else
  if x0 = 45 then
  some (true)
  else
  if x0 = 46 then
  some (true)
  else
  if x0 = 47 then
  some (true)
  else
  if x0 = 48 then
  some (true)
  else
  some (false)
def f_X7_readSingle (r_readSingle : (Nat → Int32) → (Nat → Int32) → (Nat → Int32) → (Nat → Int32) → (Nat → Int32) → (Nat → Int32) → (Nat → Option Nat) → (Nat → Option Nat) → Int32 → Option ((Nat → Int32) × (Nat → Int32) × (Nat → Int32) × (Nat → Option Nat))) (r_readTest : (Nat → Int32) → (Nat → Int32) → (Nat → Int32) → (Nat → Int32) → (Nat → Int32) → (Nat → Int32) → (Nat → Option Nat) → (Nat → Option Nat) → Int32 → Option ((Nat → Int32) × (Nat → Int32) × (Nat → Int32) × (Nat → Option Nat))) (r_readValue : (Nat → Int32) → (Nat → Int32) → (Nat → Int32) → (Nat → Int32) → (Nat → Int32) → (Nat → Int32) → (Nat → Option Nat) → (Nat → Option Nat) → Int32 → Option ((Nat → Int32) × (Nat → Int32) × (Nat → Int32) × (Nat → Option Nat))) (r_readSum : (Nat → Int32) → (Nat → Int32) → (Nat → Int32) → (Nat → Int32) → (Nat → Int32) → (Nat → Int32) → (Nat → Option Nat) → (Nat → Option Nat) → Int32 → Option ((Nat → Int32) × (Nat → Int32) × (Nat → Int32) × (Nat → Option Nat))) (qn : Nat → Int32) (qu : Nat → Int32) (rd : Nat → Int32) (hn : Nat → Int32) (tk : Nat → Int32) (tv : Nat → Int32) (qd : Nat → Option Nat) (tg : Nat → Option Nat) (x1 : Int32) : Option ((Nat → Int32) × (Nat → Int32) × (Nat → Int32) × (Nat → Option Nat)) :=
  (f_X7_sign rd tk tg).bind fun r1 =>
  (q_e49 r1).bind fun u2 =>
  (q_ix (nI r1) 49).bind fun j4 =>
  if (q_sw j4) = 5 then
  (f_X7_takeDeeper rd x1).bind fun r5 =>
  if (q_bz r5.1) = 0 then
  some (qn, qu, r5.2, qd)
  else
  (r_readSingle qn qu r5.2 hn tk tv qd tg (x1 + (1 : Int32))).bind fun r7 =>
  (f_X6_addOrder r7.1 r7.2.1 r7.2.2.2 29 (0 : Int32)).bind fun r8 =>
  some (r8.1, r8.2.1, r7.2.2.1, r8.2.2)
  else
  if (q_sw j4) = 6 then
  (f_X7_takeDeeper rd x1).bind fun r9 =>
  if (q_bz r9.1) = 0 then
  some (qn, qu, r9.2, qd)
  else
  (r_readTest qn qu r9.2 hn tk tv qd tg (x1 + (1 : Int32))).bind fun r11 =>
  (f_X7_take r11.2.2.1 tk tg 37).bind fun r12 =>
  some (r11.1, r11.2.1, r12.2, r11.2.2.2)
  else
  if (q_sw j4) = 7 then
  (f_X7_readHook qn (q_up rd 3 ((rd 3) + (1 : Int32))) hn tk tv tg).bind fun r13 =>
  (f_X6_addOrder qn qu qd 27 r13.1).bind fun r14 =>
  some (r14.1, r14.2.1, r13.2, r14.2.2)
  else
  if (q_sw j4) = 8 then
  (f_X7_readSame qn qu (q_up rd 3 ((rd 3) + (1 : Int32))) hn tk tv qd tg).bind fun r15 =>
  some (r15.1, r15.2.1, r15.2.2.1, r15.2.2.2)
  else
  (f_X7_readSum r_readValue r_readSum qn qu rd hn tk tv qd tg x1).bind fun r16 =>
  (f_X7_sign r16.2.2.1 tk tg).bind fun r17 =>
  (q_e49 r17).bind fun u18 =>
  (f_X7_isRelation r17).bind fun r20 =>
  if (q_bz r20) = 0 then
  (f_X7_fail r16.2.2.1).bind fun r22 =>
  some (r16.1, r16.2.1, r22, r16.2.2.2)
  else
  (f_X7_readSum r_readValue r_readSum r16.1 r16.2.1 (q_up r16.2.2.1 3 ((r16.2.2.1 3) + (1 : Int32))) hn tk tv r16.2.2.2 tg x1).bind fun r23 =>
  (f_X6_addOrder r23.1 r23.2.1 r23.2.2.2 r17 (0 : Int32)).bind fun r24 =>
  some (r24.1, r24.2.1, r23.2.2.1, r24.2.2)
def f_X7_readBoth_L5 (r_readSingle : (Nat → Int32) → (Nat → Int32) → (Nat → Int32) → (Nat → Int32) → (Nat → Int32) → (Nat → Int32) → (Nat → Option Nat) → (Nat → Option Nat) → Int32 → Option ((Nat → Int32) × (Nat → Int32) × (Nat → Int32) × (Nat → Option Nat))) (r_readTest : (Nat → Int32) → (Nat → Int32) → (Nat → Int32) → (Nat → Int32) → (Nat → Int32) → (Nat → Int32) → (Nat → Option Nat) → (Nat → Option Nat) → Int32 → Option ((Nat → Int32) × (Nat → Int32) × (Nat → Int32) × (Nat → Option Nat))) (r_readValue : (Nat → Int32) → (Nat → Int32) → (Nat → Int32) → (Nat → Int32) → (Nat → Int32) → (Nat → Int32) → (Nat → Option Nat) → (Nat → Option Nat) → Int32 → Option ((Nat → Int32) × (Nat → Int32) × (Nat → Int32) × (Nat → Option Nat))) (r_readSum : (Nat → Int32) → (Nat → Int32) → (Nat → Int32) → (Nat → Int32) → (Nat → Int32) → (Nat → Int32) → (Nat → Option Nat) → (Nat → Option Nat) → Int32 → Option ((Nat → Int32) × (Nat → Int32) × (Nat → Int32) × (Nat → Option Nat))) (hn : Nat → Int32) (tk : Nat → Int32) (tv : Nat → Int32) (tg : Nat → Option Nat) (v1 : Int32) : Nat → (Nat → Int32) → (Nat → Int32) → (Nat → Int32) → (Nat → Option Nat) → Int32 → Option ((Nat → Int32) × (Nat → Int32) × (Nat → Int32) × (Nat → Option Nat))
  | 0, _, _, _, _, _ => none
  | fu + 1, qn, qu, rd, qd, v2 =>
    if (400 : Int32) ≤ v2 then
    some (qn, qu, rd, qd)
    else
    (f_X7_sign rd tk tg).bind fun r2 =>
    (q_e49 r2).bind fun u3 =>
    if r2 = 30 then
    (f_X7_readSingle r_readSingle r_readTest r_readValue r_readSum qn qu (q_up rd 3 ((rd 3) + (1 : Int32))) hn tk tv qd tg v1).bind fun r6 =>
    (f_X6_addOrder r6.1 r6.2.1 r6.2.2.2 30 (0 : Int32)).bind fun r7 =>
    f_X7_readBoth_L5 r_readSingle r_readTest r_readValue r_readSum hn tk tv tg v1 fu r7.1 r7.2.1 r6.2.2.1 r7.2.2 (v2 + 1)
    else
    some (qn, qu, rd, qd)
def f_X7_readBoth (r_readSingle : (Nat → Int32) → (Nat → Int32) → (Nat → Int32) → (Nat → Int32) → (Nat → Int32) → (Nat → Int32) → (Nat → Option Nat) → (Nat → Option Nat) → Int32 → Option ((Nat → Int32) × (Nat → Int32) × (Nat → Int32) × (Nat → Option Nat))) (r_readTest : (Nat → Int32) → (Nat → Int32) → (Nat → Int32) → (Nat → Int32) → (Nat → Int32) → (Nat → Int32) → (Nat → Option Nat) → (Nat → Option Nat) → Int32 → Option ((Nat → Int32) × (Nat → Int32) × (Nat → Int32) × (Nat → Option Nat))) (r_readValue : (Nat → Int32) → (Nat → Int32) → (Nat → Int32) → (Nat → Int32) → (Nat → Int32) → (Nat → Int32) → (Nat → Option Nat) → (Nat → Option Nat) → Int32 → Option ((Nat → Int32) × (Nat → Int32) × (Nat → Int32) × (Nat → Option Nat))) (r_readSum : (Nat → Int32) → (Nat → Int32) → (Nat → Int32) → (Nat → Int32) → (Nat → Int32) → (Nat → Int32) → (Nat → Option Nat) → (Nat → Option Nat) → Int32 → Option ((Nat → Int32) × (Nat → Int32) × (Nat → Int32) × (Nat → Option Nat))) (qn : Nat → Int32) (qu : Nat → Int32) (rd : Nat → Int32) (hn : Nat → Int32) (tk : Nat → Int32) (tv : Nat → Int32) (qd : Nat → Option Nat) (tg : Nat → Option Nat) (x1 : Int32) : Option ((Nat → Int32) × (Nat → Int32) × (Nat → Int32) × (Nat → Option Nat)) :=
  (f_X7_readSingle r_readSingle r_readTest r_readValue r_readSum qn qu rd hn tk tv qd tg x1).bind fun r8 =>
  (f_X7_readBoth_L5 r_readSingle r_readTest r_readValue r_readSum hn tk tv tg x1 4096 r8.1 r8.2.1 r8.2.2.1 r8.2.2.2 (0 : Int32)).bind fun r9 =>
  some (r9.1, r9.2.1, r9.2.2.1, r9.2.2.2)
def f_X7_readTest_L5 (r_readSingle : (Nat → Int32) → (Nat → Int32) → (Nat → Int32) → (Nat → Int32) → (Nat → Int32) → (Nat → Int32) → (Nat → Option Nat) → (Nat → Option Nat) → Int32 → Option ((Nat → Int32) × (Nat → Int32) × (Nat → Int32) × (Nat → Option Nat))) (r_readTest : (Nat → Int32) → (Nat → Int32) → (Nat → Int32) → (Nat → Int32) → (Nat → Int32) → (Nat → Int32) → (Nat → Option Nat) → (Nat → Option Nat) → Int32 → Option ((Nat → Int32) × (Nat → Int32) × (Nat → Int32) × (Nat → Option Nat))) (r_readValue : (Nat → Int32) → (Nat → Int32) → (Nat → Int32) → (Nat → Int32) → (Nat → Int32) → (Nat → Int32) → (Nat → Option Nat) → (Nat → Option Nat) → Int32 → Option ((Nat → Int32) × (Nat → Int32) × (Nat → Int32) × (Nat → Option Nat))) (r_readSum : (Nat → Int32) → (Nat → Int32) → (Nat → Int32) → (Nat → Int32) → (Nat → Int32) → (Nat → Int32) → (Nat → Option Nat) → (Nat → Option Nat) → Int32 → Option ((Nat → Int32) × (Nat → Int32) × (Nat → Int32) × (Nat → Option Nat))) (hn : Nat → Int32) (tk : Nat → Int32) (tv : Nat → Int32) (tg : Nat → Option Nat) (v1 : Int32) : Nat → (Nat → Int32) → (Nat → Int32) → (Nat → Int32) → (Nat → Option Nat) → Int32 → Option ((Nat → Int32) × (Nat → Int32) × (Nat → Int32) × (Nat → Option Nat))
  | 0, _, _, _, _, _ => none
  | fu + 1, qn, qu, rd, qd, v2 =>
    if (400 : Int32) ≤ v2 then
    some (qn, qu, rd, qd)
    else
    (f_X7_sign rd tk tg).bind fun r2 =>
    (q_e49 r2).bind fun u3 =>
    if r2 = 31 then
    (f_X7_readBoth r_readSingle r_readTest r_readValue r_readSum qn qu (q_up rd 3 ((rd 3) + (1 : Int32))) hn tk tv qd tg v1).bind fun r6 =>
    (f_X6_addOrder r6.1 r6.2.1 r6.2.2.2 31 (0 : Int32)).bind fun r7 =>
    f_X7_readTest_L5 r_readSingle r_readTest r_readValue r_readSum hn tk tv tg v1 fu r7.1 r7.2.1 r6.2.2.1 r7.2.2 (v2 + 1)
    else
    some (qn, qu, rd, qd)
def f_X7_readTest (r_readSingle : (Nat → Int32) → (Nat → Int32) → (Nat → Int32) → (Nat → Int32) → (Nat → Int32) → (Nat → Int32) → (Nat → Option Nat) → (Nat → Option Nat) → Int32 → Option ((Nat → Int32) × (Nat → Int32) × (Nat → Int32) × (Nat → Option Nat))) (r_readTest : (Nat → Int32) → (Nat → Int32) → (Nat → Int32) → (Nat → Int32) → (Nat → Int32) → (Nat → Int32) → (Nat → Option Nat) → (Nat → Option Nat) → Int32 → Option ((Nat → Int32) × (Nat → Int32) × (Nat → Int32) × (Nat → Option Nat))) (r_readValue : (Nat → Int32) → (Nat → Int32) → (Nat → Int32) → (Nat → Int32) → (Nat → Int32) → (Nat → Int32) → (Nat → Option Nat) → (Nat → Option Nat) → Int32 → Option ((Nat → Int32) × (Nat → Int32) × (Nat → Int32) × (Nat → Option Nat))) (r_readSum : (Nat → Int32) → (Nat → Int32) → (Nat → Int32) → (Nat → Int32) → (Nat → Int32) → (Nat → Int32) → (Nat → Option Nat) → (Nat → Option Nat) → Int32 → Option ((Nat → Int32) × (Nat → Int32) × (Nat → Int32) × (Nat → Option Nat))) (qn : Nat → Int32) (qu : Nat → Int32) (rd : Nat → Int32) (hn : Nat → Int32) (tk : Nat → Int32) (tv : Nat → Int32) (qd : Nat → Option Nat) (tg : Nat → Option Nat) (x1 : Int32) : Option ((Nat → Int32) × (Nat → Int32) × (Nat → Int32) × (Nat → Option Nat)) :=
  (f_X7_readBoth r_readSingle r_readTest r_readValue r_readSum qn qu rd hn tk tv qd tg x1).bind fun r8 =>
  (f_X7_readTest_L5 r_readSingle r_readTest r_readValue r_readSum hn tk tv tg x1 4096 r8.1 r8.2.1 r8.2.2.1 r8.2.2.2 (0 : Int32)).bind fun r9 =>
  some (r9.1, r9.2.1, r9.2.2.1, r9.2.2.2)
def k_C : Nat → ((Nat → Int32) → (Nat → Int32) → (Nat → Int32) → (Nat → Int32) → (Nat → Int32) → (Nat → Int32) → (Nat → Option Nat) → (Nat → Option Nat) → Int32 → Option ((Nat → Int32) × (Nat → Int32) × (Nat → Int32) × (Nat → Option Nat))) × ((Nat → Int32) → (Nat → Int32) → (Nat → Int32) → (Nat → Int32) → (Nat → Int32) → (Nat → Int32) → (Nat → Option Nat) → (Nat → Option Nat) → Int32 → Option ((Nat → Int32) × (Nat → Int32) × (Nat → Int32) × (Nat → Option Nat))) × ((Nat → Int32) → (Nat → Int32) → (Nat → Int32) → (Nat → Int32) → (Nat → Int32) → (Nat → Int32) → (Nat → Option Nat) → (Nat → Option Nat) → Int32 → Option ((Nat → Int32) × (Nat → Int32) × (Nat → Int32) × (Nat → Option Nat))) × ((Nat → Int32) → (Nat → Int32) → (Nat → Int32) → (Nat → Int32) → (Nat → Int32) → (Nat → Int32) → (Nat → Option Nat) → (Nat → Option Nat) → Int32 → Option ((Nat → Int32) × (Nat → Int32) × (Nat → Int32) × (Nat → Option Nat)))
  | 0 => (fun _ _ _ _ _ _ _ _ _ => none, fun _ _ _ _ _ _ _ _ _ => none, fun _ _ _ _ _ _ _ _ _ => none, fun _ _ _ _ _ _ _ _ _ => none)
  | n + 1 => (f_X7_readValue (k_C n).1 (k_C n).2.1, f_X7_readSum (k_C n).1 (k_C n).2.1, f_X7_readSingle (k_C n).2.2.1 (k_C n).2.2.2 (k_C n).1 (k_C n).2.1, f_X7_readTest (k_C n).2.2.1 (k_C n).2.2.2 (k_C n).1 (k_C n).2.1)
def k_readValue (n : Nat) : (Nat → Int32) → (Nat → Int32) → (Nat → Int32) → (Nat → Int32) → (Nat → Int32) → (Nat → Int32) → (Nat → Option Nat) → (Nat → Option Nat) → Int32 → Option ((Nat → Int32) × (Nat → Int32) × (Nat → Int32) × (Nat → Option Nat)) := (k_C n).1
def k_readSum (n : Nat) : (Nat → Int32) → (Nat → Int32) → (Nat → Int32) → (Nat → Int32) → (Nat → Int32) → (Nat → Int32) → (Nat → Option Nat) → (Nat → Option Nat) → Int32 → Option ((Nat → Int32) × (Nat → Int32) × (Nat → Int32) × (Nat → Option Nat)) := (k_C n).2.1
def k_readSingle (n : Nat) : (Nat → Int32) → (Nat → Int32) → (Nat → Int32) → (Nat → Int32) → (Nat → Int32) → (Nat → Int32) → (Nat → Option Nat) → (Nat → Option Nat) → Int32 → Option ((Nat → Int32) × (Nat → Int32) × (Nat → Int32) × (Nat → Option Nat)) := (k_C n).2.2.1
def k_readTest (n : Nat) : (Nat → Int32) → (Nat → Int32) → (Nat → Int32) → (Nat → Int32) → (Nat → Int32) → (Nat → Int32) → (Nat → Option Nat) → (Nat → Option Nat) → Int32 → Option ((Nat → Int32) × (Nat → Int32) × (Nat → Int32) × (Nat → Option Nat)) := (k_C n).2.2.2
def f_X10_clear (T2 : Nat → Nat → Int32) (K2 : Nat → Nat → Option Nat) (x0 : Nat) (x1 : Nat) : Option ((Nat → Nat → Int32) × (Nat → Nat → Option Nat)) :=
  (q_t20 x0).bind fun ug0 =>
  (q_e49 x1).bind fun ug1 =>
  some ((q_u2 (q_u2 (q_u2 (q_u2 (q_u2 (q_u2 (q_u2 T2 x0 1 (0 : Int32)) x0 2 (0 : Int32)) x0 3 (0 : Int32)) x0 4 (0 : Int32)) x0 5 (0 : Int32)) x0 6 (0 : Int32)) x0 7 (0 : Int32)), (q_u2 K2 x0 0 (some x1)))
def f_X6_addStep (qn : Nat → Int32) (T2 : Nat → Nat → Int32) (K2 : Nat → Nat → Option Nat) (x1 : Nat) : Option (Nat × (Nat → Int32) × (Nat → Nat → Int32) × (Nat → Nat → Option Nat)) :=
  (q_e49 x1).bind fun ug1 =>
  (q_ix (q_min (q_max (qn 4) (0 : Int32)) (19 : Int32)) 20).bind fun j1 =>
  (f_X10_clear T2 K2 j1 x1).bind fun r2 =>
  (q_ix (q_min (q_max (qn 4) (0 : Int32)) (19 : Int32)) 20).bind fun j3 =>
  some (j3, (q_up qn 4 ((q_min (q_max (qn 4) (0 : Int32)) (19 : Int32)) + (1 : Int32))), r2.1, r2.2)
def f_X7_readNumber (rd : Nat → Int32) (tk : Nat → Int32) (tv : Nat → Int32) (tg : Nat → Option Nat) (x1 : Int32) (x2 : Int32) : Option (Int32 × (Nat → Int32)) :=
  (f_X7_take rd tk tg 2).bind fun r1 =>
  if ¬ (q_bz r1.1) = 0 then
  (f_X11_value tk tv ((r1.2 3) - (1 : Int32))).bind fun r3 =>
  if r3 < x1 then
  (f_X7_blame r1.2 (5 : Int32) ((r1.2 3) - (1 : Int32))).bind fun r5 =>
  some (x1, r5)
  else
  if r3 ≤ x2 then
  some (r3, r1.2)
  else
  (f_X7_blame r1.2 (5 : Int32) ((r1.2 3) - (1 : Int32))).bind fun r7 =>
  some (x1, r7)
  else
  some (x1, r1.2)
def f_X7_readRope (rd : Nat → Int32) (tk : Nat → Int32) (tv : Nat → Int32) (tg : Nat → Option Nat) (x1 : Nat) : Option (Int32 × (Nat → Int32)) :=
  (q_e49 x1).bind fun ug1 =>
  (f_X7_take rd tk tg x1).bind fun r1 =>
  (f_X7_readNumber r1.2 tk tv tg (0 : Int32) (3 : Int32)).bind fun r2 =>
  some (r2.1, r2.2)
def f_X7_readStep (qn : Nat → Int32) (qu : Nat → Int32) (rd : Nat → Int32) (hn : Nat → Int32) (tk : Nat → Int32) (tv : Nat → Int32) (qd : Nat → Option Nat) (tg : Nat → Option Nat) (T2 : Nat → Nat → Int32) (K2 : Nat → Nat → Option Nat) (x1 : Nat) : Option ((Nat → Int32) × (Nat → Int32) × (Nat → Int32) × (Nat → Option Nat) × (Nat → Nat → Int32) × (Nat → Nat → Option Nat)) :=
  (q_e49 x1).bind fun ug1 =>
  if (qn 4) < (20 : Int32) then
  (f_X6_addStep qn T2 K2 x1).bind fun r2 =>
  (q_t20 r2.1).bind fun u3 =>
  (f_X7_readHook r2.2.1 (q_up rd 3 ((rd 3) + (1 : Int32))) hn tk tv tg).bind fun r5 =>
  if x1 = 9 then
  (f_X7_take r5.2 tk tg 25).bind fun r7 =>
  (f_X7_readSum (k_readValue 12) (k_readSum 12) r2.2.1 qu r7.2 hn tk tv qd tg (0 : Int32)).bind fun r8 =>
  (f_X7_readRope r8.2.2.1 tk tv tg 14).bind fun r9 =>
  (f_X7_sign r9.2 tk tg).bind fun r10 =>
  (q_e49 r10).bind fun u11 =>
  if r10 = 19 then
  (f_X7_readTest (k_readSingle 12) (k_readTest 12) (k_readValue 12) (k_readSum 12) r8.1 r8.2.1 (q_up r9.2 3 ((r9.2 3) + (1 : Int32))) hn tk tv r8.2.2.2 tg (0 : Int32)).bind fun r14 =>
  some (r14.1, r14.2.1, r14.2.2.1, r14.2.2.2, (q_u2 (q_u2 (q_u2 (q_u2 (q_u2 (q_u2 r2.2.2.1 r2.1 1 r5.1) r2.1 4 (r2.2.1 5)) r2.1 5 (r8.1 5)) r2.1 3 r9.1) r2.1 6 (r8.1 5)) r2.1 7 (r14.1 5)), r2.2.2.2)
  else
  some (r8.1, r8.2.1, r9.2, r8.2.2.2, (q_u2 (q_u2 (q_u2 (q_u2 r2.2.2.1 r2.1 1 r5.1) r2.1 4 (r2.2.1 5)) r2.1 5 (r8.1 5)) r2.1 3 r9.1), r2.2.2.2)
  else
  if x1 = 10 then
  (f_X7_readRope r5.2 tk tv tg 15).bind fun r16 =>
  (f_X7_take r16.2 tk tg 16).bind fun r17 =>
  (f_X7_readHook r2.2.1 r17.2 hn tk tv tg).bind fun r18 =>
  (f_X7_sign r18.2 tk tg).bind fun r19 =>
  (q_e49 r19).bind fun u20 =>
  if r19 = 19 then
  (f_X7_readTest (k_readSingle 12) (k_readTest 12) (k_readValue 12) (k_readSum 12) r2.2.1 qu (q_up r18.2 3 ((r18.2 3) + (1 : Int32))) hn tk tv qd tg (0 : Int32)).bind fun r23 =>
  some (r23.1, r23.2.1, r23.2.2.1, r23.2.2.2, (q_u2 (q_u2 (q_u2 (q_u2 (q_u2 r2.2.2.1 r2.1 1 r5.1) r2.1 3 r16.1) r2.1 2 r18.1) r2.1 6 (r2.2.1 5)) r2.1 7 (r23.1 5)), r2.2.2.2)
  else
  some (r2.2.1, qu, r18.2, qd, (q_u2 (q_u2 (q_u2 r2.2.2.1 r2.1 1 r5.1) r2.1 3 r16.1) r2.1 2 r18.1), r2.2.2.2)
  else
  if x1 = 11 then
  (f_X7_readRope r5.2 tk tv tg 15).bind fun r25 =>
  (f_X7_sign r25.2 tk tg).bind fun r26 =>
  (q_e49 r26).bind fun u27 =>
  if r26 = 19 then
  (f_X7_readTest (k_readSingle 12) (k_readTest 12) (k_readValue 12) (k_readSum 12) r2.2.1 qu (q_up r25.2 3 ((r25.2 3) + (1 : Int32))) hn tk tv qd tg (0 : Int32)).bind fun r30 =>
  some (r30.1, r30.2.1, r30.2.2.1, r30.2.2.2, (q_u2 (q_u2 (q_u2 (q_u2 r2.2.2.1 r2.1 1 r5.1) r2.1 3 r25.1) r2.1 6 (r2.2.1 5)) r2.1 7 (r30.1 5)), r2.2.2.2)
  else
  some (r2.2.1, qu, r25.2, qd, (q_u2 (q_u2 r2.2.2.1 r2.1 1 r5.1) r2.1 3 r25.1), r2.2.2.2)
  else
  if x1 = 12 then
  (f_X7_take r5.2 tk tg 17).bind fun r32 =>
  (f_X7_readHook r2.2.1 r32.2 hn tk tv tg).bind fun r33 =>
  (f_X7_readRope r33.2 tk tv tg 15).bind fun r34 =>
  (f_X7_sign r34.2 tk tg).bind fun r35 =>
  (q_e49 r35).bind fun u36 =>
  if r35 = 19 then
  (f_X7_readTest (k_readSingle 12) (k_readTest 12) (k_readValue 12) (k_readSum 12) r2.2.1 qu (q_up r34.2 3 ((r34.2 3) + (1 : Int32))) hn tk tv qd tg (0 : Int32)).bind fun r39 =>
  some (r39.1, r39.2.1, r39.2.2.1, r39.2.2.2, (q_u2 (q_u2 (q_u2 (q_u2 (q_u2 r2.2.2.1 r2.1 1 r5.1) r2.1 2 r33.1) r2.1 3 r34.1) r2.1 6 (r2.2.1 5)) r2.1 7 (r39.1 5)), r2.2.2.2)
  else
  some (r2.2.1, qu, r34.2, qd, (q_u2 (q_u2 (q_u2 r2.2.2.1 r2.1 1 r5.1) r2.1 2 r33.1) r2.1 3 r34.1), r2.2.2.2)
  else
  (f_X7_sign r5.2 tk tg).bind fun r40 =>
  (q_e49 r40).bind fun u41 =>
  if r40 = 19 then
  (f_X7_readTest (k_readSingle 12) (k_readTest 12) (k_readValue 12) (k_readSum 12) r2.2.1 qu (q_up r5.2 3 ((r5.2 3) + (1 : Int32))) hn tk tv qd tg (0 : Int32)).bind fun r44 =>
  some (r44.1, r44.2.1, r44.2.2.1, r44.2.2.2, (q_u2 (q_u2 (q_u2 r2.2.2.1 r2.1 1 r5.1) r2.1 6 (r2.2.1 5)) r2.1 7 (r44.1 5)), r2.2.2.2)
  else
  some (r2.2.1, qu, r5.2, qd, (q_u2 r2.2.2.1 r2.1 1 r5.1), r2.2.2.2)
  else
  (f_X7_blame rd (4 : Int32) (rd 3)).bind fun r45 =>
  (f_X6_addStep qn T2 K2 x1).bind fun r46 =>
  (q_t20 r46.1).bind fun u47 =>
  (f_X7_readHook r46.2.1 (q_up r45 3 ((r45 3) + (1 : Int32))) hn tk tv tg).bind fun r49 =>
  if x1 = 9 then
  (f_X7_take r49.2 tk tg 25).bind fun r51 =>
  (f_X7_readSum (k_readValue 12) (k_readSum 12) r46.2.1 qu r51.2 hn tk tv qd tg (0 : Int32)).bind fun r52 =>
  (f_X7_readRope r52.2.2.1 tk tv tg 14).bind fun r53 =>
  (f_X7_sign r53.2 tk tg).bind fun r54 =>
  (q_e49 r54).bind fun u55 =>
  if r54 = 19 then
  (f_X7_readTest (k_readSingle 12) (k_readTest 12) (k_readValue 12) (k_readSum 12) r52.1 r52.2.1 (q_up r53.2 3 ((r53.2 3) + (1 : Int32))) hn tk tv r52.2.2.2 tg (0 : Int32)).bind fun r58 =>
  some (r58.1, r58.2.1, r58.2.2.1, r58.2.2.2, (q_u2 (q_u2 (q_u2 (q_u2 (q_u2 (q_u2 r46.2.2.1 r46.1 1 r49.1) r46.1 4 (r46.2.1 5)) r46.1 5 (r52.1 5)) r46.1 3 r53.1) r46.1 6 (r52.1 5)) r46.1 7 (r58.1 5)), r46.2.2.2)
  else
  some (r52.1, r52.2.1, r53.2, r52.2.2.2, (q_u2 (q_u2 (q_u2 (q_u2 r46.2.2.1 r46.1 1 r49.1) r46.1 4 (r46.2.1 5)) r46.1 5 (r52.1 5)) r46.1 3 r53.1), r46.2.2.2)
  else
  if x1 = 10 then
  (f_X7_readRope r49.2 tk tv tg 15).bind fun r60 =>
  (f_X7_take r60.2 tk tg 16).bind fun r61 =>
  (f_X7_readHook r46.2.1 r61.2 hn tk tv tg).bind fun r62 =>
  (f_X7_sign r62.2 tk tg).bind fun r63 =>
  (q_e49 r63).bind fun u64 =>
  if r63 = 19 then
  (f_X7_readTest (k_readSingle 12) (k_readTest 12) (k_readValue 12) (k_readSum 12) r46.2.1 qu (q_up r62.2 3 ((r62.2 3) + (1 : Int32))) hn tk tv qd tg (0 : Int32)).bind fun r67 =>
  some (r67.1, r67.2.1, r67.2.2.1, r67.2.2.2, (q_u2 (q_u2 (q_u2 (q_u2 (q_u2 r46.2.2.1 r46.1 1 r49.1) r46.1 3 r60.1) r46.1 2 r62.1) r46.1 6 (r46.2.1 5)) r46.1 7 (r67.1 5)), r46.2.2.2)
  else
  some (r46.2.1, qu, r62.2, qd, (q_u2 (q_u2 (q_u2 r46.2.2.1 r46.1 1 r49.1) r46.1 3 r60.1) r46.1 2 r62.1), r46.2.2.2)
  else
  if x1 = 11 then
  (f_X7_readRope r49.2 tk tv tg 15).bind fun r69 =>
  (f_X7_sign r69.2 tk tg).bind fun r70 =>
  (q_e49 r70).bind fun u71 =>
  if r70 = 19 then
  (f_X7_readTest (k_readSingle 12) (k_readTest 12) (k_readValue 12) (k_readSum 12) r46.2.1 qu (q_up r69.2 3 ((r69.2 3) + (1 : Int32))) hn tk tv qd tg (0 : Int32)).bind fun r74 =>
  some (r74.1, r74.2.1, r74.2.2.1, r74.2.2.2, (q_u2 (q_u2 (q_u2 (q_u2 r46.2.2.1 r46.1 1 r49.1) r46.1 3 r69.1) r46.1 6 (r46.2.1 5)) r46.1 7 (r74.1 5)), r46.2.2.2)
  else
  some (r46.2.1, qu, r69.2, qd, (q_u2 (q_u2 r46.2.2.1 r46.1 1 r49.1) r46.1 3 r69.1), r46.2.2.2)
  else
  if x1 = 12 then
  (f_X7_take r49.2 tk tg 17).bind fun r76 =>
  (f_X7_readHook r46.2.1 r76.2 hn tk tv tg).bind fun r77 =>
  (f_X7_readRope r77.2 tk tv tg 15).bind fun r78 =>
  (f_X7_sign r78.2 tk tg).bind fun r79 =>
  (q_e49 r79).bind fun u80 =>
  if r79 = 19 then
  (f_X7_readTest (k_readSingle 12) (k_readTest 12) (k_readValue 12) (k_readSum 12) r46.2.1 qu (q_up r78.2 3 ((r78.2 3) + (1 : Int32))) hn tk tv qd tg (0 : Int32)).bind fun r83 =>
  some (r83.1, r83.2.1, r83.2.2.1, r83.2.2.2, (q_u2 (q_u2 (q_u2 (q_u2 (q_u2 r46.2.2.1 r46.1 1 r49.1) r46.1 2 r77.1) r46.1 3 r78.1) r46.1 6 (r46.2.1 5)) r46.1 7 (r83.1 5)), r46.2.2.2)
  else
  some (r46.2.1, qu, r78.2, qd, (q_u2 (q_u2 (q_u2 r46.2.2.1 r46.1 1 r49.1) r46.1 2 r77.1) r46.1 3 r78.1), r46.2.2.2)
  else
  (f_X7_sign r49.2 tk tg).bind fun r84 =>
  (q_e49 r84).bind fun u85 =>
  if r84 = 19 then
  (f_X7_readTest (k_readSingle 12) (k_readTest 12) (k_readValue 12) (k_readSum 12) r46.2.1 qu (q_up r49.2 3 ((r49.2 3) + (1 : Int32))) hn tk tv qd tg (0 : Int32)).bind fun r88 =>
  some (r88.1, r88.2.1, r88.2.2.1, r88.2.2.2, (q_u2 (q_u2 (q_u2 r46.2.2.1 r46.1 1 r49.1) r46.1 6 (r46.2.1 5)) r46.1 7 (r88.1 5)), r46.2.2.2)
  else
  some (r46.2.1, qu, r49.2, qd, (q_u2 r46.2.2.1 r46.1 1 r49.1), r46.2.2.2)
def f_X7_readNewHook (qn : Nat → Int32) (rd : Nat → Int32) (hn : Nat → Int32) (tk : Nat → Int32) (tv : Nat → Int32) (tg : Nat → Option Nat) : Option ((Nat → Int32) × (Nat → Int32) × (Nat → Int32)) :=
  (f_X7_take rd tk tg 3).bind fun r1 =>
  if ¬ (q_bz r1.1) = 0 then
  (f_X11_value tk tv ((r1.2 3) - (1 : Int32))).bind fun r3 =>
  (f_X7_hookNamed qn hn r3).bind fun r4 =>
  if r4 = (-1 : Int32) then
  if (qn 3) < 0 then
  (f_X7_blame r1.2 (4 : Int32) ((r1.2 3) - (1 : Int32))).bind fun r7 =>
  some (qn, r7, hn)
  else
  if (qn 3) < (6 : Int32) then
  (q_ix (qn 3) 6).bind fun j9 =>
  some ((q_up qn 3 ((qn 3) + (1 : Int32))), r1.2, (q_up hn j9 r3))
  else
  (f_X7_blame r1.2 (4 : Int32) ((r1.2 3) - (1 : Int32))).bind fun r10 =>
  some (qn, r10, hn)
  else
  (f_X7_blame r1.2 (2 : Int32) ((r1.2 3) - (1 : Int32))).bind fun r11 =>
  some (qn, r11, hn)
  else
  some (qn, r1.2, hn)
def f_X7_readSetting (qn : Nat → Int32) (rd : Nat → Int32) (hn : Nat → Int32) (tk : Nat → Int32) (tv : Nat → Int32) (tg : Nat → Option Nat) : Option ((Nat → Int32) × (Nat → Int32) × (Nat → Int32)) :=
  (f_X7_sign rd tk tg).bind fun r1 =>
  (q_e49 r1).bind fun u2 =>
  (q_ix (nI r1) 49).bind fun j4 =>
  if (q_sw j4) = 1 then
  (f_X7_readNumber (q_up rd 3 ((rd 3) + (1 : Int32))) tk tv tg (8 : Int32) (64 : Int32)).bind fun r5 =>
  some ((q_up qn 0 r5.1), r5.2, hn)
  else
  if (q_sw j4) = 2 then
  (f_X7_readNumber (q_up rd 3 ((rd 3) + (1 : Int32))) tk tv tg (0 : Int32) (64 : Int32)).bind fun r6 =>
  some ((q_up qn 1 r6.1), r6.2, hn)
  else
  if (q_sw j4) = 3 then
  (f_X7_readNumber (q_up rd 3 ((rd 3) + (1 : Int32))) tk tv tg (0 : Int32) (5 : Int32)).bind fun r7 =>
  some ((q_up qn 2 r7.1), r7.2, hn)
  else
  if (q_sw j4) = 4 then
  (f_X7_readNewHook qn (q_up rd 3 ((rd 3) + (1 : Int32))) hn tk tv tg).bind fun r8 =>
  some (r8.1, r8.2.1, r8.2.2)
  else
  (f_X7_fail rd).bind fun r9 =>
  some (qn, r9, hn)
def f_X7_read_L18 (tk : Nat → Int32) (tv : Nat → Int32) (tg : Nat → Option Nat) : Nat → (Nat → Int32) → (Nat → Int32) → (Nat → Int32) → (Nat → Int32) → (Nat → Option Nat) → (Nat → Nat → Int32) → (Nat → Nat → Option Nat) → Int32 → Option ((Nat → Int32) × (Nat → Int32) × (Nat → Int32) × (Nat → Int32) × (Nat → Option Nat) × (Nat → Nat → Int32) × (Nat → Nat → Option Nat))
  | 0, _, _, _, _, _, _, _, _ => none
  | fu + 1, qn, qu, rd, hn, qd, T2, K2, v3 =>
    if (400 : Int32) < v3 then
    some (qn, qu, rd, hn, qd, T2, K2)
    else
    (f_X7_sign rd tk tg).bind fun r2 =>
    (q_e49 r2).bind fun u3 =>
    if r2 = 0 then
    some (qn, qu, rd, hn, qd, T2, K2)
    else
    if (rd 4) = (1 : Int32) then
    some (qn, qu, rd, hn, qd, T2, K2)
    else
    (f_X7_sign rd tk tg).bind fun r7 =>
    (q_e49 r7).bind fun u8 =>
    (f_X7_isStep r7).bind fun r10 =>
    if (q_bz r10) = 0 then
    (f_X7_readSetting qn rd hn tk tv tg).bind fun r12 =>
    (f_X7_take r12.2.1 tk tg 38).bind fun r13 =>
    f_X7_read_L18 tk tv tg fu r12.1 qu r13.2 r12.2.2 qd T2 K2 (v3 + 1)
    else
    (f_X7_sign rd tk tg).bind fun r14 =>
    (q_e49 r14).bind fun u15 =>
    (f_X7_readStep qn qu rd hn tk tv qd tg T2 K2 r14).bind fun r17 =>
    (f_X7_take r17.2.2.1 tk tg 38).bind fun r18 =>
    f_X7_read_L18 tk tv tg fu r17.1 r17.2.1 r18.2 hn r17.2.2.2.1 r17.2.2.2.2.1 r17.2.2.2.2.2 (v3 + 1)
def f_X7_read (tp : Nat → Int32) (qn : Nat → Int32) (qu : Nat → Int32) (rd : Nat → Int32) (hn : Nat → Int32) (tk : Nat → Int32) (ts : Nat → Int32) (tl : Nat → Int32) (tv : Nat → Int32) (qd : Nat → Option Nat) (tg : Nat → Option Nat) (T2 : Nat → Nat → Int32) (K2 : Nat → Nat → Option Nat) (x1 : Int32) : Option (Int32 × (Nat → Int32) × (Nat → Int32) × (Nat → Int32) × (Nat → Int32) × (Nat → Int32) × (Nat → Int32) × (Nat → Int32) × (Nat → Int32) × (Nat → Option Nat) × (Nat → Option Nat) × (Nat → Nat → Int32) × (Nat → Nat → Option Nat)) :=
  (f_X11_split tp tk ts tl tv tg x1).bind fun r19 =>
  (f_X6_clear qn).bind fun r20 =>
  (f_X7_read_L18 r19.1 r19.2.2.2.1 r19.2.2.2.2 4096 r20 qu (q_up (q_up rd 3 (0 : Int32)) 4 (0 : Int32)) hn qd T2 K2 (0 : Int32)).bind fun r21 =>
  some ((r21.2.2.1 4), r21.1, r21.2.1, r21.2.2.1, r21.2.2.2.1, r19.1, r19.2.1, r19.2.2.1, r19.2.2.2.1, r21.2.2.2.2.1, r19.2.2.2.2, r21.2.2.2.2.2.1, r21.2.2.2.2.2.2)
def f_X11_position (tk : Nat → Int32) (ts : Nat → Int32) (x1 : Int32) : Option (Int32) :=
  if x1 < 0 then
  some ((tk 5))
  else
  if (tk 6) ≤ x1 then
  some ((tk 5))
  else
  if (400 : Int32) < x1 then
  some ((tk 5))
  else
  (q_ix x1 401).bind fun j4 =>
  some ((ts j4))
def f_X7_position (rd : Nat → Int32) (tk : Nat → Int32) (ts : Nat → Int32) : Option (Int32) :=
  if ¬ (rd 4) = 0 then
  (f_X11_position tk ts (rd 5)).bind fun r2 =>
  some (r2)
  else
  some ((-1 : Int32))
def f_X1_clear (ly : Nat → Int32) : Option ((Nat → Int32)) :=
  some ((q_fil 128 (0 : Int32) ly))
def f_X5_clear (lo : Nat → Int32) (lr : Nat → Int32) (x1 : Int32) : Option ((Nat → Int32) × (Nat → Int32)) :=
  some ((q_up (q_up lo 1 (q_min (q_max x1 (0 : Int32)) (64 : Int32))) 2 (0 : Int32)), (q_fil 64 (-1 : Int32) lr))
def f_X2_begin (pn : Nat → Int32) (bn : Nat → Int32) (ly : Nat → Int32) (lo : Nat → Int32) (lr : Nat → Int32) (hk : Nat → Int32) : Option ((Nat → Int32) × (Nat → Int32) × (Nat → Int32) × (Nat → Int32) × (Nat → Int32)) :=
  (f_X1_clear ly).bind fun r1 =>
  (f_X5_clear lo lr (pn 1)).bind fun r2 =>
  some ((q_up (q_up (q_up (q_up (q_up (q_up (q_up (q_up bn 7 (0 : Int32)) 8 (0 : Int32)) 9 (0 : Int32)) 10 (0 : Int32)) 11 (0 : Int32)) 12 (0 : Int32)) 13 (0 : Int32)) 14 (0 : Int32)), r1, r2.1, r2.2, (q_fil 6 (-1 : Int32) hk))
def f_X15_thrown (md : Nat → Int32) : Option (Int32) :=
  some ((md 0))
def f_X15_no (md : Nat → Int32) (x1 : Int32) : Option (Int32 × (Nat → Int32)) :=
  some ((0 : Int32), (q_up md 0 x1))
def f_X15_feed_L36 (md : Nat → Int32) (ol : Nat → Int32) : Nat → (Nat → Int32) → Int32 → Option ((Nat → Int32))
  | 0, _, _ => none
  | fu + 1, mt, v7 =>
    if (20 : Int32) ≤ v7 then
    some (mt)
    else
    (q_ix (v7 / (4 : Int32)) 5).bind fun j2 =>
    (q_ix ((md 2) + v7) 2000).bind fun j3 =>
    f_X15_feed_L36 md ol fu (q_up mt j3 (((ol j2) >>> (((24 : Int32) - ((8 : Int32) * (v7 - v7 / (4 : Int32) * (4 : Int32)))) &&& 31)) &&& (255 : Int32))) (v7 + 1)
def f_X15_feed (md : Nat → Int32) (mt : Nat → Int32) (x1 : Int32) (x2 : Int32) (x3 : Int32) (x4 : Int32) (x5 : Int32) : Option (Int32 × (Nat → Int32) × (Nat → Int32)) :=
  if ((q_up md 0 (0 : Int32)) 2) ≤ (1980 : Int32) then
  (q_ix (0 : Int32) 5).bind fun j5 =>
  (q_ix (1 : Int32) 5).bind fun j6 =>
  (q_ix (2 : Int32) 5).bind fun j7 =>
  (q_ix (3 : Int32) 5).bind fun j8 =>
  (q_ix (4 : Int32) 5).bind fun j9 =>
  (f_X15_feed_L36 (q_up md 0 (0 : Int32)) (q_up (q_up (q_up (q_up (q_up (fun _ => 0) j5 x1) j6 x2) j7 x3) j8 x4) j9 x5) 4096 mt (0 : Int32)).bind fun r10 =>
  some (((q_up (q_up md 0 (0 : Int32)) 2 (((q_up md 0 (0 : Int32)) 2) + (20 : Int32))) 2), (q_up (q_up md 0 (0 : Int32)) 2 (((q_up md 0 (0 : Int32)) 2) + (20 : Int32))), r10)
  else
  (f_X15_no (q_up md 0 (0 : Int32)) (1 : Int32)).bind fun r11 =>
  some (r11.1, r11.2, mt)
def f_X15_isIn (x0 : Int32) (x1 : Int32) (x2 : Int32) : Option (Bool) :=
  if x0 < x1 then
  some (false)
  else
  if x2 < x0 then
  some (false)
  else
  some (true)
def f_X15_trim (md : Nat → Int32) (x1 : Int32) : Option (Int32 × (Nat → Int32)) :=
  (f_X15_isIn x1 (0 : Int32) ((q_up md 0 (0 : Int32)) 2)).bind fun r1 =>
  if ¬ (q_bz r1) = 0 then
  some (x1, (q_up (q_up md 0 (0 : Int32)) 2 x1))
  else
  (f_X15_no (q_up md 0 (0 : Int32)) (1 : Int32)).bind fun r3 =>
  some (r3.1, r3.2)
def f_X15_ok (md : Nat → Int32) (x1 : Int32) : Option (Int32 × (Nat → Int32)) :=
  some (x1, (q_up md 0 (0 : Int32)))
def f_X15_errorAt (md : Nat → Int32) : Option (Int32 × (Nat → Int32)) :=
  (f_X15_ok md (md 3)).bind fun r1 =>
  some (r1.1, r1.2)
def f_X15_hooks (md : Nat → Int32) (mp : Nat → Int32) : Option (Int32 × (Nat → Int32)) :=
  (f_X15_ok md (mp 0)).bind fun r1 =>
  some (r1.1, r1.2)
def f_X15_steps (md : Nat → Int32) (mp : Nat → Int32) : Option (Int32 × (Nat → Int32)) :=
  (f_X15_ok md (mp 4)).bind fun r1 =>
  some (r1.1, r1.2)
def f_X15_placesOfHalf (md : Nat → Int32) (mp : Nat → Int32) : Option (Int32 × (Nat → Int32)) :=
  (f_X15_ok md (mp 1)).bind fun r1 =>
  some (r1.1, r1.2)
def f_X15_stepsGoneBy (md : Nat → Int32) (st : Nat → Int32) : Option (Int32 × (Nat → Int32)) :=
  (f_X15_ok md (st 0)).bind fun r1 =>
  some (r1.1, r1.2)
def f_X15_stepsRefused (md : Nat → Int32) (st : Nat → Int32) : Option (Int32 × (Nat → Int32)) :=
  (f_X15_ok md (st 1)).bind fun r1 =>
  some (r1.1, r1.2)
def f_X15_workingHalf (md : Nat → Int32) (st : Nat → Int32) : Option (Int32 × (Nat → Int32)) :=
  (f_X15_ok md (st 2)).bind fun r1 =>
  some (r1.1, r1.2)
def f_X14_used_L4 (sw : Nat → Int32) (ss : Nat → Int32) (v1 : Int32) : Nat → Int32 → Int32 → Option (Int32)
  | 0, _, _ => none
  | fu + 1, v2, v3 =>
    if (136 : Int32) ≤ v3 then
    some (v2)
    else
    (q_ix v3 136).bind fun j2 =>
    if ¬ (sw j2) = v1 then
    f_X14_used_L4 sw ss v1 fu (v2 + (0 : Int32)) (v3 + 1)
    else
    (q_ix v3 136).bind fun j4 =>
    f_X14_used_L4 sw ss v1 fu (v2 + (ss j4)) (v3 + 1)
def f_X14_used (sw : Nat → Int32) (ss : Nat → Int32) (x1 : Int32) : Option (Int32) :=
  (f_X14_used_L4 sw ss x1 4096 (0 : Int32) (0 : Int32)).bind fun r5 =>
  some (r5)
def f_X15_usedPlaces (md : Nat → Int32) (sw : Nat → Int32) (ss : Nat → Int32) : Option (Int32 × (Nat → Int32)) :=
  (f_X14_used sw ss (1 : Int32)).bind fun r1 =>
  (f_X15_ok md r1).bind fun r2 =>
  some (r2.1, r2.2)
def f_X15_usedInLoft (md : Nat → Int32) (sw : Nat → Int32) (ss : Nat → Int32) : Option (Int32 × (Nat → Int32)) :=
  (f_X14_used sw ss (2 : Int32)).bind fun r1 =>
  (f_X15_ok md r1).bind fun r2 =>
  some (r2.1, r2.2)
def f_X14_at_L2 (sw : Nat → Int32) (sp : Nat → Int32) (ss : Nat → Int32) (v1 : Int32) (v2 : Int32) : Nat → Int32 → Option (Nat × Int32)
  | 0, _ => none
  | fu + 1, v3 =>
    if (136 : Int32) ≤ v3 then
    some (0, 0)
    else
    (q_ix v3 136).bind fun j2 =>
    if ¬ (sw j2) = v1 then
    f_X14_at_L2 sw sp ss v1 v2 fu (v3 + 1)
    else
    (q_ix v3 136).bind fun j4 =>
    if v2 < (sp j4) then
    f_X14_at_L2 sw sp ss v1 v2 fu (v3 + 1)
    else
    (q_ix v3 136).bind fun j6 =>
    (q_ix v3 136).bind fun j7 =>
    if ((sp j6) + (ss j7)) ≤ v2 then
    f_X14_at_L2 sw sp ss v1 v2 fu (v3 + 1)
    else
    some (1, v3)
def f_X14_at (sw : Nat → Int32) (sp : Nat → Int32) (ss : Nat → Int32) (x1 : Int32) (x2 : Int32) : Option (Int32) :=
  (f_X14_at_L2 sw sp ss x1 x2 4096 (0 : Int32)).bind fun r9 =>
  if r9.1 = 0 then
  some ((-1 : Int32))
  else
  some (r9.2)
def f_X14_emptyFrom_L2 (mp : Nat → Int32) (sw : Nat → Int32) (sp : Nat → Int32) (ss : Nat → Int32) (v1 : Int32) : Nat → Int32 → Option (Int32)
  | 0, _ => none
  | fu + 1, v2 =>
    if (mp 2) ≤ (v1 + v2) then
    some (v2)
    else
    (f_X14_at sw sp ss (2 : Int32) (v1 + v2)).bind fun r2 =>
    if ¬ r2 = (-1 : Int32) then
    some (v2)
    else
    f_X14_emptyFrom_L2 mp sw sp ss v1 fu (v2 + 1)
def f_X14_emptyFrom (mp : Nat → Int32) (sw : Nat → Int32) (sp : Nat → Int32) (ss : Nat → Int32) (x1 : Int32) : Option (Int32) :=
  (f_X14_emptyFrom_L2 mp sw sp ss x1 4096 (0 : Int32)).bind fun r4 =>
  some (r4)
def f_X14_longestGap_L4 (mp : Nat → Int32) (sw : Nat → Int32) (sp : Nat → Int32) (ss : Nat → Int32) : Nat → Int32 → Int32 → Option (Int32)
  | 0, _, _ => none
  | fu + 1, v1, v2 =>
    if (mp 2) ≤ v2 then
    some (v1)
    else
    (f_X14_emptyFrom mp sw sp ss v2).bind fun r2 =>
    f_X14_longestGap_L4 mp sw sp ss fu (q_max v1 r2) (v2 + 1)
def f_X14_longestGap (mp : Nat → Int32) (sw : Nat → Int32) (sp : Nat → Int32) (ss : Nat → Int32) : Option (Int32) :=
  (f_X14_longestGap_L4 mp sw sp ss 4096 (0 : Int32) (0 : Int32)).bind fun r3 =>
  some (r3)
def f_X15_longestGap (md : Nat → Int32) (mp : Nat → Int32) (sw : Nat → Int32) (sp : Nat → Int32) (ss : Nat → Int32) : Option (Int32 × (Nat → Int32)) :=
  (f_X14_longestGap mp sw sp ss).bind fun r1 =>
  (f_X15_ok md r1).bind fun r2 =>
  some (r2.1, r2.2)
def f_X14_bales_L4 (sw : Nat → Int32) (v1 : Int32) : Nat → Int32 → Int32 → Option (Int32)
  | 0, _, _ => none
  | fu + 1, v2, v3 =>
    if (136 : Int32) ≤ v3 then
    some (v2)
    else
    (q_ix v3 136).bind fun j2 =>
    if ¬ (sw j2) = v1 then
    f_X14_bales_L4 sw v1 fu (v2 + (0 : Int32)) (v3 + 1)
    else
    f_X14_bales_L4 sw v1 fu (v2 + (1 : Int32)) (v3 + 1)
def f_X14_bales (sw : Nat → Int32) (x1 : Int32) : Option (Int32) :=
  (f_X14_bales_L4 sw x1 4096 (0 : Int32) (0 : Int32)).bind fun r4 =>
  some (r4)
def f_X14_bales_ (sw : Nat → Int32) : Option (Int32) :=
  (f_X14_bales sw (1 : Int32)).bind fun r1 =>
  (f_X14_bales sw (2 : Int32)).bind fun r2 =>
  some ((r1 + r2))
def f_X15_bales (md : Nat → Int32) (sw : Nat → Int32) : Option (Int32 × (Nat → Int32)) :=
  (f_X14_bales_ sw).bind fun r1 =>
  (f_X15_ok md r1).bind fun r2 =>
  some (r2.1, r2.2)
def f_X15_balesInLoft (md : Nat → Int32) (sw : Nat → Int32) : Option (Int32 × (Nat → Int32)) :=
  (f_X14_bales sw (2 : Int32)).bind fun r1 =>
  (f_X15_ok md r1).bind fun r2 =>
  some (r2.1, r2.2)
def f_X14_forget_L6 : Nat → (Nat → Int32) → Int32 → Option ((Nat → Int32))
  | 0, _, _ => none
  | fu + 1, mi, v1 =>
    if (136 : Int32) ≤ v1 then
    some (mi)
    else
    (q_ix v1 136).bind fun j2 =>
    f_X14_forget_L6 fu (q_up mi j2 (0 : Int32)) (v1 + 1)
def f_X14_forget (md : Nat → Int32) (mi : Nat → Int32) : Option ((Nat → Int32) × (Nat → Int32)) :=
  (f_X14_forget_L6 4096 mi (0 : Int32)).bind fun r3 =>
  some ((q_up md 16 (0 : Int32)), r3)
def f_X14_comeTo (md : Nat → Int32) (mq : Nat → Int32) (mi : Nat → Int32) (x1 : Int32) : Option ((Nat → Int32) × (Nat → Int32) × (Nat → Int32)) :=
  if x1 = (-1 : Int32) then
  some (md, mq, mi)
  else
  (q_ix x1 136).bind fun j2 =>
  if (mi j2) = 0 then
  (q_ix x1 136).bind fun j4 =>
  (q_ix (md 16) 136).bind fun j5 =>
  some ((q_up md 16 ((md 16) + (1 : Int32))), (q_up mq j5 x1), (q_up mi j4 (1 : Int32)))
  else
  some (md, mq, mi)
def f_X14_reach_L4 (mp : Nat → Int32) (sh : Nat → Int32) : Nat → (Nat → Int32) → (Nat → Int32) → (Nat → Int32) → Int32 → Option ((Nat → Int32) × (Nat → Int32) × (Nat → Int32))
  | 0, _, _, _, _ => none
  | fu + 1, md, mq, mi, v1 =>
    if (mp 0) ≤ v1 then
    some (md, mq, mi)
    else
    (q_ix v1 6).bind fun j2 =>
    (f_X14_comeTo md mq mi (sh j2)).bind fun r3 =>
    f_X14_reach_L4 mp sh fu r3.1 r3.2.1 r3.2.2 (v1 + 1)
def f_X14_reach_L27 (sr : Nat → Int32) (sd : Nat → Int32) (v1 : Int32) : Nat → (Nat → Int32) → (Nat → Int32) → (Nat → Int32) → Int32 → Option ((Nat → Int32) × (Nat → Int32) × (Nat → Int32))
  | 0, _, _, _, _ => none
  | fu + 1, md, mq, mi, v2 =>
    (q_ix v1 136).bind fun j4 =>
    (q_ix (mq j4) 136).bind fun j5 =>
    if (sr j5) ≤ v2 then
    some (md, mq, mi)
    else
    (q_ix v1 136).bind fun j7 =>
    (q_ix (((3 : Int32) * (mq j7)) + v2) 408).bind fun j8 =>
    (f_X14_comeTo md mq mi (sd j8)).bind fun r9 =>
    f_X14_reach_L27 sr sd v1 fu r9.1 r9.2.1 r9.2.2 (v2 + 1)
def f_X14_reach_L20 (sr : Nat → Int32) (sd : Nat → Int32) : Nat → (Nat → Int32) → (Nat → Int32) → (Nat → Int32) → Int32 → Option ((Nat → Int32) × (Nat → Int32) × (Nat → Int32))
  | 0, _, _, _, _ => none
  | fu + 1, md, mq, mi, v1 =>
    if (md 16) ≤ v1 then
    some (md, mq, mi)
    else
    (f_X14_reach_L27 sr sd v1 4096 md mq mi (0 : Int32)).bind fun r11 =>
    f_X14_reach_L20 sr sd fu r11.1 r11.2.1 r11.2.2 (v1 + 1)
def f_X14_reach (md : Nat → Int32) (mp : Nat → Int32) (mq : Nat → Int32) (mi : Nat → Int32) (sh : Nat → Int32) (sr : Nat → Int32) (sd : Nat → Int32) : Option ((Nat → Int32) × (Nat → Int32) × (Nat → Int32)) :=
  (f_X14_forget md mi).bind fun r12 =>
  (f_X14_reach_L4 mp sh 4096 r12.1 mq r12.2 (0 : Int32)).bind fun r13 =>
  (f_X14_reach_L20 sr sd 4096 r13.1 r13.2.1 r13.2.2 (0 : Int32)).bind fun r14 =>
  some (r14.1, r14.2.1, r14.2.2)
def f_X14_useless (md : Nat → Int32) (mp : Nat → Int32) (mq : Nat → Int32) (mi : Nat → Int32) (sh : Nat → Int32) (sw : Nat → Int32) (sr : Nat → Int32) (sd : Nat → Int32) : Option (Int32 × (Nat → Int32) × (Nat → Int32) × (Nat → Int32)) :=
  (f_X14_reach md mp mq mi sh sr sd).bind fun r1 =>
  (f_X14_bales_ sw).bind fun r2 =>
  some ((r2 - (r1.1 16)), r1.1, r1.2.1, r1.2.2)
def f_X15_uselessBales (md : Nat → Int32) (mp : Nat → Int32) (mq : Nat → Int32) (mi : Nat → Int32) (sh : Nat → Int32) (sw : Nat → Int32) (sr : Nat → Int32) (sd : Nat → Int32) : Option (Int32 × (Nat → Int32) × (Nat → Int32) × (Nat → Int32)) :=
  (f_X14_useless md mp mq mi sh sw sr sd).bind fun r1 =>
  (f_X15_ok r1.2.1 r1.1).bind fun r2 =>
  some (r2.1, r2.2, r1.2.2.1, r1.2.2.2)
def f_X15_copyings (md : Nat → Int32) (st : Nat → Int32) : Option (Int32 × (Nat → Int32)) :=
  (f_X15_ok md (st 3)).bind fun r1 =>
  some (r1.1, r1.2)
def f_X15_balesPromoted (md : Nat → Int32) (st : Nat → Int32) : Option (Int32 × (Nat → Int32)) :=
  (f_X15_ok md (st 4)).bind fun r1 =>
  some (r1.1, r1.2)
def f_X15_balesGone (md : Nat → Int32) (st : Nat → Int32) : Option (Int32 × (Nat → Int32)) :=
  (f_X15_ok md (st 5)).bind fun r1 =>
  some (r1.1, r1.2)
def f_X15_isHook (mp : Nat → Int32) (x1 : Int32) : Option (Bool) :=
  (f_X15_isIn x1 (0 : Int32) ((mp 0) - (1 : Int32))).bind fun r1 =>
  some (r1)
def f_X15_isNot (md : Nat → Int32) (x1 : Int32) : Option (Bool × (Nat → Int32)) :=
  some (false, (q_up md 0 x1))
def f_X15_holdsBale (md : Nat → Int32) (mp : Nat → Int32) (sh : Nat → Int32) (x1 : Int32) : Option (Bool × (Nat → Int32)) :=
  (f_X15_isHook mp x1).bind fun r1 =>
  if (q_bz r1) = 0 then
  (f_X15_isNot (q_up md 0 (0 : Int32)) (1 : Int32)).bind fun r3 =>
  some (r3.1, r3.2)
  else
  (q_ix x1 6).bind fun j4 =>
  if (sh j4) = (-1 : Int32) then
  some (false, (q_up md 0 (0 : Int32)))
  else
  some (true, (q_up md 0 (0 : Int32)))
def f_X15_bale (md : Nat → Int32) (mp : Nat → Int32) (sh : Nat → Int32) (x1 : Int32) : Option (Int32 × (Nat → Int32)) :=
  (f_X15_isHook mp x1).bind fun r1 =>
  if ¬ (q_bz r1) = 0 then
  (q_ix x1 6).bind fun j3 =>
  if ¬ (sh j3) = (-1 : Int32) then
  if ¬ ((q_up md 0 (0 : Int32)) 0) = 0 then
  some ((-1 : Int32), (q_up md 0 (0 : Int32)))
  else
  (q_ix x1 6).bind fun j6 =>
  some ((sh j6), (q_up md 0 (0 : Int32)))
  else
  if ¬ ((q_up md 0 (2 : Int32)) 0) = 0 then
  some ((-1 : Int32), (q_up md 0 (2 : Int32)))
  else
  (q_ix x1 6).bind fun j8 =>
  some ((sh j8), (q_up md 0 (2 : Int32)))
  else
  if ¬ ((q_up md 0 (1 : Int32)) 0) = 0 then
  some ((-1 : Int32), (q_up md 0 (1 : Int32)))
  else
  (q_ix x1 6).bind fun j10 =>
  some ((sh j10), (q_up md 0 (1 : Int32)))
def f_X15_of (md : Nat → Int32) (mp : Nat → Int32) (sh : Nat → Int32) (sp : Nat → Int32) (x1 : Int32) : Option (Int32 × (Nat → Int32)) :=
  (f_X15_bale md mp sh x1).bind fun r1 =>
  if ¬ r1.1 = (-1 : Int32) then
  (q_ix r1.1 136).bind fun j3 =>
  some ((sp j3), r1.2)
  else
  some ((0 : Int32), r1.2)
def f_X15_placeOf (md : Nat → Int32) (mp : Nat → Int32) (sh : Nat → Int32) (sp : Nat → Int32) (x1 : Int32) : Option (Int32 × (Nat → Int32)) :=
  (f_X15_of md mp sh sp x1).bind fun r1 =>
  some (r1.1, r1.2)
def f_X15_of__2 (md : Nat → Int32) (mp : Nat → Int32) (sh : Nat → Int32) (ss : Nat → Int32) (x1 : Int32) : Option (Int32 × (Nat → Int32)) :=
  (f_X15_bale md mp sh x1).bind fun r1 =>
  if ¬ r1.1 = (-1 : Int32) then
  (q_ix r1.1 136).bind fun j3 =>
  some ((ss j3), r1.2)
  else
  some ((0 : Int32), r1.2)
def f_X15_sizeOf (md : Nat → Int32) (mp : Nat → Int32) (sh : Nat → Int32) (ss : Nat → Int32) (x1 : Int32) : Option (Int32 × (Nat → Int32)) :=
  (f_X15_of__2 md mp sh ss x1).bind fun r1 =>
  some (r1.1, r1.2)
def f_X15_of__3 (md : Nat → Int32) (mp : Nat → Int32) (sh : Nat → Int32) (sr : Nat → Int32) (x1 : Int32) : Option (Int32 × (Nat → Int32)) :=
  (f_X15_bale md mp sh x1).bind fun r1 =>
  if ¬ r1.1 = (-1 : Int32) then
  (q_ix r1.1 136).bind fun j3 =>
  some ((sr j3), r1.2)
  else
  some ((0 : Int32), r1.2)
def f_X15_ropesOf (md : Nat → Int32) (mp : Nat → Int32) (sh : Nat → Int32) (sr : Nat → Int32) (x1 : Int32) : Option (Int32 × (Nat → Int32)) :=
  (f_X15_of__3 md mp sh sr x1).bind fun r1 =>
  some (r1.1, r1.2)
def f_X15_of__4 (md : Nat → Int32) (mp : Nat → Int32) (sh : Nat → Int32) (sa : Nat → Int32) (x1 : Int32) : Option (Int32 × (Nat → Int32)) :=
  (f_X15_bale md mp sh x1).bind fun r1 =>
  if ¬ r1.1 = (-1 : Int32) then
  (q_ix r1.1 136).bind fun j3 =>
  some ((sa j3), r1.2)
  else
  some ((0 : Int32), r1.2)
def f_X15_ageOf (md : Nat → Int32) (mp : Nat → Int32) (sh : Nat → Int32) (sa : Nat → Int32) (x1 : Int32) : Option (Int32 × (Nat → Int32)) :=
  (f_X15_of__4 md mp sh sa x1).bind fun r1 =>
  some (r1.1, r1.2)
def f_X15_of__5 (md : Nat → Int32) (mp : Nat → Int32) (sh : Nat → Int32) (sw : Nat → Int32) (x1 : Int32) : Option (Int32 × (Nat → Int32)) :=
  (f_X15_bale md mp sh x1).bind fun r1 =>
  if ¬ r1.1 = (-1 : Int32) then
  (q_ix r1.1 136).bind fun j3 =>
  some ((sw j3), r1.2)
  else
  some ((0 : Int32), r1.2)
def f_X15_isInLoft (md : Nat → Int32) (mp : Nat → Int32) (sh : Nat → Int32) (sw : Nat → Int32) (x1 : Int32) : Option (Bool × (Nat → Int32)) :=
  (f_X15_of__5 md mp sh sw x1).bind fun r1 =>
  if ¬ r1.1 = (2 : Int32) then
  some (false, r1.2)
  else
  some (true, r1.2)
def f_X14_hasRope (sh : Nat → Int32) (sr : Nat → Int32) (x1 : Int32) (x2 : Int32) : Option (Bool) :=
  (q_ix x1 6).bind fun j1 =>
  if (sh j1) = (-1 : Int32) then
  some (false)
  else
  (q_ix x1 6).bind fun j3 =>
  (q_ix (sh j3) 136).bind fun j4 =>
  (f_X15_isIn x2 (0 : Int32) ((sr j4) - (1 : Int32))).bind fun r5 =>
  if (q_bz r5) = 0 then
  some (false)
  else
  some (true)
def f_X14_leadsTo (sh : Nat → Int32) (sd : Nat → Int32) (x1 : Int32) (x2 : Int32) : Option (Int32) :=
  (q_ix x1 6).bind fun j1 =>
  (q_ix (((3 : Int32) * (sh j1)) + x2) 408).bind fun j2 =>
  some ((sd j2))
def f_X15_ropeLeads (md : Nat → Int32) (mp : Nat → Int32) (sh : Nat → Int32) (sr : Nat → Int32) (sd : Nat → Int32) (x1 : Int32) (x2 : Int32) : Option (Bool × (Nat → Int32)) :=
  (f_X15_bale md mp sh x1).bind fun r1 =>
  if ¬ r1.1 = (-1 : Int32) then
  (f_X14_hasRope sh sr x1 x2).bind fun r3 =>
  if (q_bz r3) = 0 then
  (f_X15_isNot r1.2 (2 : Int32)).bind fun r5 =>
  some (r5.1, r5.2)
  else
  (f_X14_leadsTo sh sd x1 x2).bind fun r6 =>
  if r6 = (-1 : Int32) then
  some (false, r1.2)
  else
  some (true, r1.2)
  else
  some (false, r1.2)
def f_X15_holdSame (md : Nat → Int32) (mp : Nat → Int32) (sh : Nat → Int32) (x1 : Int32) (x2 : Int32) : Option (Bool × (Nat → Int32)) :=
  (f_X15_isHook mp x1).bind fun r1 =>
  if (q_bz r1) = 0 then
  (f_X15_isNot (q_up md 0 (0 : Int32)) (1 : Int32)).bind fun r3 =>
  some (r3.1, r3.2)
  else
  (f_X15_isHook mp x2).bind fun r4 =>
  if (q_bz r4) = 0 then
  (f_X15_isNot (q_up md 0 (0 : Int32)) (1 : Int32)).bind fun r6 =>
  some (r6.1, r6.2)
  else
  (q_ix x1 6).bind fun j7 =>
  if (sh j7) = (-1 : Int32) then
  some (false, (q_up md 0 (0 : Int32)))
  else
  (q_ix x1 6).bind fun j9 =>
  (q_ix x2 6).bind fun j10 =>
  if ¬ (sh j9) = (sh j10) then
  some (false, (q_up md 0 (0 : Int32)))
  else
  some (true, (q_up md 0 (0 : Int32)))
def f_X15_between_L30 (sr : Nat → Int32) (sd : Nat → Int32) (v5 : Int32) : Nat → (Nat → Int32) → (Nat → Int32) → (Nat → Int32) → (Nat → Int32) → Int32 → Option ((Nat → Int32) × (Nat → Int32) × (Nat → Int32) × (Nat → Int32))
  | 0, _, _, _, _, _ => none
  | fu + 1, md, mq, mi, ol, v6 =>
    (q_ix v5 136).bind fun j1 =>
    if (sr j1) ≤ v6 then
    some (md, mq, mi, ol)
    else
    (q_ix (((3 : Int32) * v5) + v6) 408).bind fun j3 =>
    if (sd j3) = (-1 : Int32) then
    f_X15_between_L30 sr sd v5 fu md mq mi ol (v6 + 1)
    else
    (q_ix (sd j3) 136).bind fun j5 =>
    if (mi j5) = 0 then
    (q_ix v5 136).bind fun j7 =>
    (q_ix (sd j3) 136).bind fun j8 =>
    (f_X14_comeTo md mq mi (sd j3)).bind fun r9 =>
    f_X15_between_L30 sr sd v5 fu r9.1 r9.2.1 r9.2.2 (q_up ol j8 ((ol j7) + (1 : Int32))) (v6 + 1)
    else
    f_X15_between_L30 sr sd v5 fu md mq mi ol (v6 + 1)
def f_X15_between_L12 (sr : Nat → Int32) (sd : Nat → Int32) (v2 : Int32) : Nat → (Nat → Int32) → (Nat → Int32) → (Nat → Int32) → (Nat → Int32) → Int32 → Option (Nat × Int32 × (Nat → Int32) × (Nat → Int32) × (Nat → Int32) × (Nat → Int32))
  | 0, _, _, _, _, _ => none
  | fu + 1, md, mq, mi, ol, v4 =>
    if (md 16) ≤ v4 then
    some (0, 0, md, mq, mi, ol)
    else
    (q_ix v4 136).bind fun j11 =>
    if ¬ (mq j11) = v2 then
    (f_X15_between_L30 sr sd (mq j11) 4096 md mq mi ol (0 : Int32)).bind fun r13 =>
    f_X15_between_L12 sr sd v2 fu r13.1 r13.2.1 r13.2.2.1 r13.2.2.2 (v4 + 1)
    else
    some (1, (mq j11), md, mq, mi, ol)
def f_X15_between (md : Nat → Int32) (mq : Nat → Int32) (mi : Nat → Int32) (sr : Nat → Int32) (sd : Nat → Int32) (x1 : Int32) (x2 : Int32) : Option (Int32 × (Nat → Int32) × (Nat → Int32) × (Nat → Int32)) :=
  (f_X14_forget md mi).bind fun r14 =>
  (f_X14_comeTo r14.1 mq r14.2 x1).bind fun r15 =>
  (f_X15_between_L12 sr sd x2 4096 r15.1 r15.2.1 r15.2.2 (fun _ => 0) (0 : Int32)).bind fun r16 =>
  if r16.1 = 0 then
  some ((-1 : Int32), r16.2.2.1, r16.2.2.2.1, r16.2.2.2.2.1)
  else
  (q_ix r16.2.1 136).bind fun j17 =>
  some ((r16.2.2.2.2.2 j17), r16.2.2.1, r16.2.2.2.1, r16.2.2.2.2.1)
def f_X15_ropesBetween (md : Nat → Int32) (mp : Nat → Int32) (mq : Nat → Int32) (mi : Nat → Int32) (sh : Nat → Int32) (sr : Nat → Int32) (sd : Nat → Int32) (x1 : Int32) (x2 : Int32) : Option (Int32 × (Nat → Int32) × (Nat → Int32) × (Nat → Int32)) :=
  (f_X15_isHook mp x1).bind fun r1 =>
  if (q_bz r1) = 0 then
  (f_X15_no (q_up md 0 (0 : Int32)) (1 : Int32)).bind fun r3 =>
  some (r3.1, r3.2, mq, mi)
  else
  (f_X15_isHook mp x2).bind fun r4 =>
  if ¬ (q_bz r4) = 0 then
  (q_ix x1 6).bind fun j6 =>
  if (sh j6) = (-1 : Int32) then
  (f_X15_no (q_up md 0 (0 : Int32)) (2 : Int32)).bind fun r8 =>
  some (r8.1, r8.2, mq, mi)
  else
  (q_ix x2 6).bind fun j9 =>
  if ¬ (sh j9) = (-1 : Int32) then
  (q_ix x1 6).bind fun j11 =>
  (q_ix x2 6).bind fun j12 =>
  (f_X15_between (q_up md 0 (0 : Int32)) mq mi sr sd (sh j11) (sh j12)).bind fun r13 =>
  some (r13.1, r13.2.1, r13.2.2.1, r13.2.2.2)
  else
  (f_X15_no (q_up md 0 (0 : Int32)) (2 : Int32)).bind fun r14 =>
  some (r14.1, r14.2, mq, mi)
  else
  (f_X15_no (q_up md 0 (0 : Int32)) (1 : Int32)).bind fun r15 =>
  some (r15.1, r15.2, mq, mi)
def f_X14_copy (sw : Nat → Int32) (ol : Nat → Int32) : Option ((Nat → Int32)) :=
  some ((q_cp sw ol 136))
def f_X14_gapFor_L2 (mp : Nat → Int32) (sw : Nat → Int32) (sp : Nat → Int32) (ss : Nat → Int32) (v1 : Int32) : Nat → Int32 → Option (Nat × Int32)
  | 0, _ => none
  | fu + 1, v2 =>
    if (mp 2) < (v2 + v1) then
    some (0, 0)
    else
    (f_X14_emptyFrom mp sw sp ss v2).bind fun r2 =>
    if r2 < v1 then
    f_X14_gapFor_L2 mp sw sp ss v1 fu (v2 + 1)
    else
    some (1, v2)
def f_X14_gapFor (mp : Nat → Int32) (sw : Nat → Int32) (sp : Nat → Int32) (ss : Nat → Int32) (x1 : Int32) : Option (Int32) :=
  (f_X14_gapFor_L2 mp sw sp ss x1 4096 (0 : Int32)).bind fun r4 =>
  if r4.1 = 0 then
  some ((-1 : Int32))
  else
  some (r4.2)
def f_X14_takeOver (md : Nat → Int32) (mp : Nat → Int32) (mq : Nat → Int32) (mi : Nat → Int32) (st : Nat → Int32) (sw : Nat → Int32) (sp : Nat → Int32) (ss : Nat → Int32) (sa : Nat → Int32) (ol : Nat → Int32) (x1 : Int32) (x2 : Int32) : Option (Int32 × (Nat → Int32) × (Nat → Int32) × (Nat → Int32) × (Nat → Int32) × (Nat → Int32) × (Nat → Int32) × (Nat → Int32)) :=
  if x1 = (-1 : Int32) then
  some (x2, md, mq, mi, st, sw, sp, sa)
  else
  (q_ix x1 136).bind fun j2 =>
  if ¬ (ol j2) = (1 : Int32) then
  some (x2, md, mq, mi, st, sw, sp, sa)
  else
  (q_ix x1 136).bind fun j4 =>
  if (mi j4) = 0 then
  (f_X14_comeTo md mq mi x1).bind fun r6 =>
  (q_ix x1 136).bind fun j7 =>
  if (sa j7) < (mp 3) then
  if (-1 : Int32) = (-1 : Int32) then
  (q_ix x1 136).bind fun j10 =>
  (q_ix x1 136).bind fun j11 =>
  (q_ix x1 136).bind fun j12 =>
  (q_ix x1 136).bind fun j13 =>
  (q_ix x1 136).bind fun j14 =>
  some ((x2 + (ss j14)), r6.1, r6.2.1, r6.2.2, st, (q_up sw j10 (1 : Int32)), (q_up sp j11 x2), (q_up sa j13 ((sa j12) + (1 : Int32))))
  else
  (q_ix x1 136).bind fun j15 =>
  (q_ix x1 136).bind fun j16 =>
  some (x2, r6.1, r6.2.1, r6.2.2, (q_up st 4 ((st 4) + (1 : Int32))), (q_up sw j15 (2 : Int32)), (q_up sp j16 (-1 : Int32)), sa)
  else
  (q_ix x1 136).bind fun j17 =>
  (f_X14_gapFor mp sw sp ss (ss j17)).bind fun r18 =>
  if r18 = (-1 : Int32) then
  (q_ix x1 136).bind fun j20 =>
  (q_ix x1 136).bind fun j21 =>
  (q_ix x1 136).bind fun j22 =>
  (q_ix x1 136).bind fun j23 =>
  (q_ix x1 136).bind fun j24 =>
  some ((x2 + (ss j24)), r6.1, r6.2.1, r6.2.2, st, (q_up sw j20 (1 : Int32)), (q_up sp j21 x2), (q_up sa j23 ((sa j22) + (1 : Int32))))
  else
  (q_ix x1 136).bind fun j25 =>
  (q_ix x1 136).bind fun j26 =>
  some (x2, r6.1, r6.2.1, r6.2.2, (q_up st 4 ((st 4) + (1 : Int32))), (q_up sw j25 (2 : Int32)), (q_up sp j26 r18), sa)
  else
  some (x2, md, mq, mi, st, sw, sp, sa)
def f_X14_takeRopes_L4 (mp : Nat → Int32) (ss : Nat → Int32) (sr : Nat → Int32) (sd : Nat → Int32) (ol : Nat → Int32) (v1 : Int32) : Nat → (Nat → Int32) → (Nat → Int32) → (Nat → Int32) → (Nat → Int32) → (Nat → Int32) → (Nat → Int32) → (Nat → Int32) → Int32 → Int32 → Option (Int32 × (Nat → Int32) × (Nat → Int32) × (Nat → Int32) × (Nat → Int32) × (Nat → Int32) × (Nat → Int32) × (Nat → Int32))
  | 0, _, _, _, _, _, _, _, _, _ => none
  | fu + 1, md, mq, mi, st, sw, sp, sa, v4, v5 =>
    (q_ix v1 136).bind fun j1 =>
    if (sr j1) ≤ v5 then
    some (v4, md, mq, mi, st, sw, sp, sa)
    else
    (q_ix (((3 : Int32) * v1) + v5) 408).bind fun j3 =>
    (f_X14_takeOver md mp mq mi st sw sp ss sa ol (sd j3) v4).bind fun r4 =>
    f_X14_takeRopes_L4 mp ss sr sd ol v1 fu r4.2.1 r4.2.2.1 r4.2.2.2.1 r4.2.2.2.2.1 r4.2.2.2.2.2.1 r4.2.2.2.2.2.2.1 r4.2.2.2.2.2.2.2 r4.1 (v5 + 1)
def f_X14_takeRopes (md : Nat → Int32) (mp : Nat → Int32) (mq : Nat → Int32) (mi : Nat → Int32) (st : Nat → Int32) (sw : Nat → Int32) (sp : Nat → Int32) (ss : Nat → Int32) (sr : Nat → Int32) (sa : Nat → Int32) (sd : Nat → Int32) (ol : Nat → Int32) (x1 : Int32) (x2 : Int32) : Option (Int32 × (Nat → Int32) × (Nat → Int32) × (Nat → Int32) × (Nat → Int32) × (Nat → Int32) × (Nat → Int32) × (Nat → Int32)) :=
  (f_X14_takeRopes_L4 mp ss sr sd ol x1 4096 md mq mi st sw sp sa x2 (0 : Int32)).bind fun r5 =>
  some (r5.1, r5.2.1, r5.2.2.1, r5.2.2.2.1, r5.2.2.2.2.1, r5.2.2.2.2.2.1, r5.2.2.2.2.2.2.1, r5.2.2.2.2.2.2.2)
def f_X14_copyAll_L16 (ol : Nat → Int32) : Nat → (Nat → Int32) → Int32 → Option ((Nat → Int32))
  | 0, _, _ => none
  | fu + 1, sw, v3 =>
    if (136 : Int32) ≤ v3 then
    some (sw)
    else
    (q_ix v3 136).bind fun j2 =>
    if ¬ (ol j2) = (1 : Int32) then
    f_X14_copyAll_L16 ol fu sw (v3 + 1)
    else
    (q_ix v3 136).bind fun j4 =>
    f_X14_copyAll_L16 ol fu (q_up sw j4 (0 : Int32)) (v3 + 1)
def f_X14_copyAll_L88 (mp : Nat → Int32) (ss : Nat → Int32) (sr : Nat → Int32) (sd : Nat → Int32) (ol : Nat → Int32) : Nat → (Nat → Int32) → (Nat → Int32) → (Nat → Int32) → (Nat → Int32) → (Nat → Int32) → (Nat → Int32) → (Nat → Int32) → Int32 → Int32 → Option ((Nat → Int32) × (Nat → Int32) × (Nat → Int32) × (Nat → Int32) × (Nat → Int32) × (Nat → Int32) × (Nat → Int32))
  | 0, _, _, _, _, _, _, _, _, _ => none
  | fu + 1, md, mq, mi, st, sw, sp, sa, v3, v4 =>
    if (md 16) ≤ v4 then
    some (md, mq, mi, st, sw, sp, sa)
    else
    (q_ix v4 136).bind fun j6 =>
    (f_X14_takeRopes md mp mq mi st sw sp ss sr sa sd ol (mq j6) v3).bind fun r7 =>
    f_X14_copyAll_L88 mp ss sr sd ol fu r7.2.1 r7.2.2.1 r7.2.2.2.1 r7.2.2.2.2.1 r7.2.2.2.2.2.1 r7.2.2.2.2.2.2.1 r7.2.2.2.2.2.2.2 r7.1 (v4 + 1)
def f_X14_copyAll_L35 (mp : Nat → Int32) (sh : Nat → Int32) (ss : Nat → Int32) (ol : Nat → Int32) : Nat → (Nat → Int32) → (Nat → Int32) → (Nat → Int32) → (Nat → Int32) → (Nat → Int32) → (Nat → Int32) → (Nat → Int32) → Int32 → Int32 → Option (Int32 × (Nat → Int32) × (Nat → Int32) × (Nat → Int32) × (Nat → Int32) × (Nat → Int32) × (Nat → Int32) × (Nat → Int32))
  | 0, _, _, _, _, _, _, _, _, _ => none
  | fu + 1, md, mq, mi, st, sw, sp, sa, v3, v4 =>
    if (mp 0) ≤ v4 then
    some (v3, md, mq, mi, st, sw, sp, sa)
    else
    (q_ix v4 6).bind fun j9 =>
    (f_X14_takeOver md mp mq mi st sw sp ss sa ol (sh j9) v3).bind fun r10 =>
    f_X14_copyAll_L35 mp sh ss ol fu r10.2.1 r10.2.2.1 r10.2.2.2.1 r10.2.2.2.2.1 r10.2.2.2.2.2.1 r10.2.2.2.2.2.2.1 r10.2.2.2.2.2.2.2 r10.1 (v4 + 1)
def f_X14_copyAll_L62 (mp : Nat → Int32) (ss : Nat → Int32) (sr : Nat → Int32) (sd : Nat → Int32) (ol : Nat → Int32) (v4 : Int32) : Nat → (Nat → Int32) → (Nat → Int32) → (Nat → Int32) → (Nat → Int32) → (Nat → Int32) → (Nat → Int32) → (Nat → Int32) → Int32 → Int32 → Option (Int32 × (Nat → Int32) × (Nat → Int32) × (Nat → Int32) × (Nat → Int32) × (Nat → Int32) × (Nat → Int32) × (Nat → Int32))
  | 0, _, _, _, _, _, _, _, _, _ => none
  | fu + 1, md, mq, mi, st, sw, sp, sa, v3, v5 =>
    if (136 : Int32) ≤ v5 then
    some (v3, md, mq, mi, st, sw, sp, sa)
    else
    (q_ix v5 136).bind fun j12 =>
    if ¬ (ol j12) = (2 : Int32) then
    f_X14_copyAll_L62 mp ss sr sd ol v4 fu md mq mi st sw sp sa v3 (v5 + 1)
    else
    (q_ix v5 136).bind fun j14 =>
    if ¬ (sp j14) = v4 then
    f_X14_copyAll_L62 mp ss sr sd ol v4 fu md mq mi st sw sp sa v3 (v5 + 1)
    else
    (f_X14_takeRopes md mp mq mi st sw sp ss sr sa sd ol v5 v3).bind fun r16 =>
    f_X14_copyAll_L62 mp ss sr sd ol v4 fu r16.2.1 r16.2.2.1 r16.2.2.2.1 r16.2.2.2.2.1 r16.2.2.2.2.2.1 r16.2.2.2.2.2.2.1 r16.2.2.2.2.2.2.2 r16.1 (v5 + 1)
def f_X14_copyAll_L54 (mp : Nat → Int32) (ss : Nat → Int32) (sr : Nat → Int32) (sd : Nat → Int32) (ol : Nat → Int32) : Nat → (Nat → Int32) → (Nat → Int32) → (Nat → Int32) → (Nat → Int32) → (Nat → Int32) → (Nat → Int32) → (Nat → Int32) → Int32 → Int32 → Option (Int32 × (Nat → Int32) × (Nat → Int32) × (Nat → Int32) × (Nat → Int32) × (Nat → Int32) × (Nat → Int32) × (Nat → Int32))
  | 0, _, _, _, _, _, _, _, _, _ => none
  | fu + 1, md, mq, mi, st, sw, sp, sa, v3, v4 =>
    if (mp 2) ≤ v4 then
    some (v3, md, mq, mi, st, sw, sp, sa)
    else
    (f_X14_copyAll_L62 mp ss sr sd ol v4 4096 md mq mi st sw sp sa v3 (0 : Int32)).bind fun r18 =>
    f_X14_copyAll_L54 mp ss sr sd ol fu r18.2.1 r18.2.2.1 r18.2.2.2.1 r18.2.2.2.2.1 r18.2.2.2.2.2.1 r18.2.2.2.2.2.2.1 r18.2.2.2.2.2.2.2 r18.1 (v4 + 1)
def f_X14_copyAll (md : Nat → Int32) (mp : Nat → Int32) (mq : Nat → Int32) (mi : Nat → Int32) (st : Nat → Int32) (sh : Nat → Int32) (sw : Nat → Int32) (sp : Nat → Int32) (ss : Nat → Int32) (sr : Nat → Int32) (sa : Nat → Int32) (sd : Nat → Int32) : Option (Int32 × (Nat → Int32) × (Nat → Int32) × (Nat → Int32) × (Nat → Int32) × (Nat → Int32) × (Nat → Int32) × (Nat → Int32)) :=
  (f_X14_copy sw (fun _ => 0)).bind fun r19 =>
  (f_X14_forget md mi).bind fun r20 =>
  (f_X14_bales sw (1 : Int32)).bind fun r21 =>
  (f_X14_copyAll_L16 r19 4096 sw (0 : Int32)).bind fun r22 =>
  (f_X14_copyAll_L35 mp sh ss r19 4096 r20.1 mq r20.2 st r22 sp sa (0 : Int32) (0 : Int32)).bind fun r23 =>
  (f_X14_copyAll_L54 mp ss sr sd r19 4096 r23.2.1 r23.2.2.1 r23.2.2.2.1 r23.2.2.2.2.1 r23.2.2.2.2.2.1 r23.2.2.2.2.2.2.1 r23.2.2.2.2.2.2.2 r23.1 (0 : Int32)).bind fun r24 =>
  (f_X14_copyAll_L88 mp ss sr sd r19 4096 r24.2.1 r24.2.2.1 r24.2.2.2.1 r24.2.2.2.2.1 r24.2.2.2.2.2.1 r24.2.2.2.2.2.2.1 r24.2.2.2.2.2.2.2 r24.1 (0 : Int32)).bind fun r25 =>
  some ((r21 - (r25.1 16)), r25.1, r25.2.1, r25.2.2.1, (q_up (q_up (q_up r25.2.2.2.1 2 ((1 : Int32) - (r25.2.2.2.1 2))) 3 (((q_up r25.2.2.2.1 2 ((1 : Int32) - (r25.2.2.2.1 2))) 3) + (1 : Int32))) 5 (((q_up (q_up r25.2.2.2.1 2 ((1 : Int32) - (r25.2.2.2.1 2))) 3 (((q_up r25.2.2.2.1 2 ((1 : Int32) - (r25.2.2.2.1 2))) 3) + (1 : Int32))) 5) + (r21 - (r25.1 16)))), r25.2.2.2.2.1, r25.2.2.2.2.2.1, r25.2.2.2.2.2.2)
def f_X14_make_L29 (sw : Nat → Int32) : Nat → Int32 → Option (Int32)
  | 0, _ => none
  | fu + 1, v5 =>
    (q_ix v5 136).bind fun j1 =>
    if (sw j1) = 0 then
    some (v5)
    else
    f_X14_make_L29 sw fu (v5 + 1)
def f_X14_make_L63 (v5 : Int32) : Nat → (Nat → Int32) → Int32 → Option ((Nat → Int32))
  | 0, _, _ => none
  | fu + 1, sd, v6 =>
    if (3 : Int32) ≤ v6 then
    some (sd)
    else
    (q_ix (((3 : Int32) * v5) + v6) 408).bind fun j4 =>
    f_X14_make_L63 v5 fu (q_up sd j4 (-1 : Int32)) (v6 + 1)
def f_X14_make (md : Nat → Int32) (mp : Nat → Int32) (mq : Nat → Int32) (mi : Nat → Int32) (st : Nat → Int32) (sh : Nat → Int32) (sw : Nat → Int32) (sp : Nat → Int32) (ss : Nat → Int32) (sr : Nat → Int32) (sa : Nat → Int32) (sd : Nat → Int32) (x1 : Int32) (x2 : Int32) (x3 : Int32) : Option (Bool × (Nat → Int32) × (Nat → Int32) × (Nat → Int32) × (Nat → Int32) × (Nat → Int32) × (Nat → Int32) × (Nat → Int32) × (Nat → Int32) × (Nat → Int32) × (Nat → Int32) × (Nat → Int32)) :=
  (f_X14_used sw ss (1 : Int32)).bind fun r5 =>
  if x2 ≤ ((mp 1) - r5) then
  (f_X14_used sw ss (1 : Int32)).bind fun r7 =>
  if x2 ≤ ((mp 1) - r7) then
  (f_X14_make_L29 sw 4096 (0 : Int32)).bind fun r9 =>
  (q_ix r9 136).bind fun j10 =>
  (q_ix r9 136).bind fun j11 =>
  (q_ix r9 136).bind fun j12 =>
  (q_ix r9 136).bind fun j13 =>
  (q_ix r9 136).bind fun j14 =>
  (f_X14_make_L63 r9 4096 sd (0 : Int32)).bind fun r15 =>
  (q_ix x1 6).bind fun j16 =>
  some (true, md, mq, mi, st, (q_up sh j16 r9), (q_up sw j10 (1 : Int32)), (q_up sp j11 r7), (q_up ss j12 x2), (q_up sr j13 x3), (q_up sa j14 (0 : Int32)), r15)
  else
  some (false, md, mq, mi, st, sh, sw, sp, ss, sr, sa, sd)
  else
  (f_X14_copyAll md mp mq mi st sh sw sp ss sr sa sd).bind fun r17 =>
  (f_X14_used r17.2.2.2.2.2.1 ss (1 : Int32)).bind fun r18 =>
  if x2 ≤ ((mp 1) - r18) then
  (f_X14_make_L29 r17.2.2.2.2.2.1 4096 (0 : Int32)).bind fun r20 =>
  (q_ix r20 136).bind fun j21 =>
  (q_ix r20 136).bind fun j22 =>
  (q_ix r20 136).bind fun j23 =>
  (q_ix r20 136).bind fun j24 =>
  (q_ix r20 136).bind fun j25 =>
  (f_X14_make_L63 r20 4096 sd (0 : Int32)).bind fun r26 =>
  (q_ix x1 6).bind fun j27 =>
  some (true, r17.2.1, r17.2.2.1, r17.2.2.2.1, r17.2.2.2.2.1, (q_up sh j27 r20), (q_up r17.2.2.2.2.2.1 j21 (1 : Int32)), (q_up r17.2.2.2.2.2.2.1 j22 r18), (q_up ss j23 x2), (q_up sr j24 x3), (q_up r17.2.2.2.2.2.2.2 j25 (0 : Int32)), r26)
  else
  some (false, r17.2.1, r17.2.2.1, r17.2.2.2.1, r17.2.2.2.2.1, sh, r17.2.2.2.2.2.1, r17.2.2.2.2.2.2.1, ss, sr, r17.2.2.2.2.2.2.2, sd)
def f_X15_make (md : Nat → Int32) (mp : Nat → Int32) (mq : Nat → Int32) (mi : Nat → Int32) (st : Nat → Int32) (sh : Nat → Int32) (sw : Nat → Int32) (sp : Nat → Int32) (ss : Nat → Int32) (sr : Nat → Int32) (sa : Nat → Int32) (sd : Nat → Int32) (x1 : Int32) (x2 : Int32) (x3 : Int32) : Option (Int32 × (Nat → Int32) × (Nat → Int32) × (Nat → Int32) × (Nat → Int32) × (Nat → Int32) × (Nat → Int32) × (Nat → Int32) × (Nat → Int32) × (Nat → Int32) × (Nat → Int32) × (Nat → Int32)) :=
  (f_X15_isHook mp x1).bind fun r1 =>
  if ¬ (q_bz r1) = 0 then
  (f_X15_isIn x2 (1 : Int32) (9 : Int32)).bind fun r3 =>
  if (q_bz r3) = 0 then
  (f_X15_no (q_up md 0 (0 : Int32)) (2 : Int32)).bind fun r5 =>
  some (r5.1, r5.2, mq, mi, st, sh, sw, sp, ss, sr, sa, sd)
  else
  (f_X15_isIn x3 (0 : Int32) (3 : Int32)).bind fun r6 =>
  if ¬ (q_bz r6) = 0 then
  (f_X14_make (q_up md 0 (0 : Int32)) mp mq mi st sh sw sp ss sr sa sd x1 x2 x3).bind fun r8 =>
  if (q_bz r8.1) = 0 then
  (f_X15_no r8.2.1 (3 : Int32)).bind fun r10 =>
  some (r10.1, r10.2, r8.2.2.1, r8.2.2.2.1, r8.2.2.2.2.1, r8.2.2.2.2.2.1, r8.2.2.2.2.2.2.1, r8.2.2.2.2.2.2.2.1, r8.2.2.2.2.2.2.2.2.1, r8.2.2.2.2.2.2.2.2.2.1, r8.2.2.2.2.2.2.2.2.2.2.1, r8.2.2.2.2.2.2.2.2.2.2.2)
  else
  (q_ix x1 6).bind fun j11 =>
  (q_ix (r8.2.2.2.2.2.1 j11) 136).bind fun j12 =>
  some ((r8.2.2.2.2.2.2.2.1 j12), r8.2.1, r8.2.2.1, r8.2.2.2.1, r8.2.2.2.2.1, r8.2.2.2.2.2.1, r8.2.2.2.2.2.2.1, r8.2.2.2.2.2.2.2.1, r8.2.2.2.2.2.2.2.2.1, r8.2.2.2.2.2.2.2.2.2.1, r8.2.2.2.2.2.2.2.2.2.2.1, r8.2.2.2.2.2.2.2.2.2.2.2)
  else
  (f_X15_no (q_up md 0 (0 : Int32)) (2 : Int32)).bind fun r13 =>
  some (r13.1, r13.2, mq, mi, st, sh, sw, sp, ss, sr, sa, sd)
  else
  (f_X15_no (q_up md 0 (0 : Int32)) (1 : Int32)).bind fun r14 =>
  some (r14.1, r14.2, mq, mi, st, sh, sw, sp, ss, sr, sa, sd)
def f_X14_tie (sh : Nat → Int32) (sr : Nat → Int32) (sd : Nat → Int32) (x1 : Int32) (x2 : Int32) (x3 : Int32) : Option (Bool × (Nat → Int32)) :=
  (f_X14_hasRope sh sr x1 x2).bind fun r1 =>
  if (q_bz r1) = 0 then
  some (false, sd)
  else
  (q_ix x3 6).bind fun j3 =>
  if ¬ (sh j3) = (-1 : Int32) then
  (q_ix x1 6).bind fun j5 =>
  (q_ix x3 6).bind fun j6 =>
  (q_ix (((3 : Int32) * (sh j5)) + x2) 408).bind fun j7 =>
  some (true, (q_up sd j7 (sh j6)))
  else
  some (false, sd)
def f_X15_tie_L30 (sh : Nat → Int32) (sr : Nat → Int32) (sd : Nat → Int32) (v1 : Int32) : Nat → Int32 → Int32 → Option (Int32)
  | 0, _, _ => none
  | fu + 1, v4, v5 =>
    (q_ix v1 6).bind fun j1 =>
    (q_ix (sh j1) 136).bind fun j2 =>
    if (sr j2) ≤ v5 then
    some (v4)
    else
    (f_X14_leadsTo sh sd v1 v5).bind fun r4 =>
    if ¬ r4 = (-1 : Int32) then
    f_X15_tie_L30 sh sr sd v1 fu (v4 + (1 : Int32)) (v5 + 1)
    else
    f_X15_tie_L30 sh sr sd v1 fu (v4 + (0 : Int32)) (v5 + 1)
def f_X15_tie (md : Nat → Int32) (mp : Nat → Int32) (sh : Nat → Int32) (sr : Nat → Int32) (sd : Nat → Int32) (x1 : Int32) (x2 : Int32) (x3 : Int32) : Option (Int32 × (Nat → Int32) × (Nat → Int32)) :=
  (f_X15_isHook mp x1).bind fun r6 =>
  if (q_bz r6) = 0 then
  (f_X15_no (q_up md 0 (0 : Int32)) (1 : Int32)).bind fun r8 =>
  some (r8.1, r8.2, sd)
  else
  (f_X15_isHook mp x3).bind fun r9 =>
  if ¬ (q_bz r9) = 0 then
  (f_X14_tie sh sr sd x1 x2 x3).bind fun r11 =>
  if ¬ (q_bz r11.1) = 0 then
  (f_X15_tie_L30 sh sr r11.2 x1 4096 (0 : Int32) (0 : Int32)).bind fun r13 =>
  some (r13, (q_up md 0 (0 : Int32)), r11.2)
  else
  (f_X15_no (q_up md 0 (0 : Int32)) (2 : Int32)).bind fun r14 =>
  some (r14.1, r14.2, r11.2)
  else
  (f_X15_no (q_up md 0 (0 : Int32)) (1 : Int32)).bind fun r15 =>
  some (r15.1, r15.2, sd)
def f_X14_follow (sh : Nat → Int32) (sr : Nat → Int32) (sd : Nat → Int32) (x1 : Int32) (x2 : Int32) (x3 : Int32) : Option (Bool × (Nat → Int32)) :=
  (f_X14_hasRope sh sr x2 x3).bind fun r1 =>
  if (q_bz r1) = 0 then
  some (false, sh)
  else
  (f_X14_leadsTo sh sd x2 x3).bind fun r3 =>
  if ¬ r3 = (-1 : Int32) then
  (f_X14_leadsTo sh sd x2 x3).bind fun r5 =>
  (q_ix x1 6).bind fun j6 =>
  some (true, (q_up sh j6 r5))
  else
  some (false, sh)
def f_X15_follow (md : Nat → Int32) (mp : Nat → Int32) (sh : Nat → Int32) (sp : Nat → Int32) (sr : Nat → Int32) (sd : Nat → Int32) (x1 : Int32) (x2 : Int32) (x3 : Int32) : Option (Int32 × (Nat → Int32) × (Nat → Int32)) :=
  (f_X15_isHook mp x1).bind fun r1 =>
  if (q_bz r1) = 0 then
  (f_X15_no (q_up md 0 (0 : Int32)) (1 : Int32)).bind fun r3 =>
  some (r3.1, r3.2, sh)
  else
  (f_X15_isHook mp x2).bind fun r4 =>
  if ¬ (q_bz r4) = 0 then
  (f_X14_follow sh sr sd x1 x2 x3).bind fun r6 =>
  if (q_bz r6.1) = 0 then
  (f_X15_no (q_up md 0 (0 : Int32)) (2 : Int32)).bind fun r8 =>
  some (r8.1, r8.2, r6.2)
  else
  (q_ix x1 6).bind fun j9 =>
  (q_ix (r6.2 j9) 136).bind fun j10 =>
  some ((sp j10), (q_up md 0 (0 : Int32)), r6.2)
  else
  (f_X15_no (q_up md 0 (0 : Int32)) (1 : Int32)).bind fun r11 =>
  some (r11.1, r11.2, sh)
def f_X14_drop (sh : Nat → Int32) (x1 : Int32) : Option (Bool × (Nat → Int32)) :=
  (q_ix x1 6).bind fun j1 =>
  if ¬ (sh j1) = (-1 : Int32) then
  (q_ix x1 6).bind fun j3 =>
  some (true, (q_up sh j3 (-1 : Int32)))
  else
  some (false, sh)
def f_X15_drop (md : Nat → Int32) (mp : Nat → Int32) (mq : Nat → Int32) (mi : Nat → Int32) (sh : Nat → Int32) (sw : Nat → Int32) (sr : Nat → Int32) (sd : Nat → Int32) (x1 : Int32) : Option (Int32 × (Nat → Int32) × (Nat → Int32) × (Nat → Int32) × (Nat → Int32)) :=
  (f_X15_isHook mp x1).bind fun r1 =>
  if ¬ (q_bz r1) = 0 then
  (f_X14_drop sh x1).bind fun r3 =>
  if (q_bz r3.1) = 0 then
  (f_X15_no (q_up md 0 (0 : Int32)) (2 : Int32)).bind fun r5 =>
  some (r5.1, r5.2, mq, mi, r3.2)
  else
  (f_X14_useless (q_up md 0 (0 : Int32)) mp mq mi r3.2 sw sr sd).bind fun r6 =>
  some (r6.1, r6.2.1, r6.2.2.1, r6.2.2.2, r3.2)
  else
  (f_X15_no (q_up md 0 (0 : Int32)) (1 : Int32)).bind fun r7 =>
  some (r7.1, r7.2, mq, mi, sh)
def f_X15_copyNow (md : Nat → Int32) (mp : Nat → Int32) (mq : Nat → Int32) (mi : Nat → Int32) (st : Nat → Int32) (sh : Nat → Int32) (sw : Nat → Int32) (sp : Nat → Int32) (ss : Nat → Int32) (sr : Nat → Int32) (sa : Nat → Int32) (sd : Nat → Int32) : Option (Int32 × (Nat → Int32) × (Nat → Int32) × (Nat → Int32) × (Nat → Int32) × (Nat → Int32) × (Nat → Int32) × (Nat → Int32)) :=
  (f_X14_copyAll md mp mq mi st sh sw sp ss sr sa sd).bind fun r1 =>
  (f_X15_ok r1.2.1 r1.1).bind fun r2 =>
  some (r2.1, r2.2, r1.2.2.1, r1.2.2.2.1, r1.2.2.2.2.1, r1.2.2.2.2.2.1, r1.2.2.2.2.2.2.1, r1.2.2.2.2.2.2.2)
def f_X14_sweep_L32 (sw : Nat → Int32) : Nat → (Nat → Int32) → Int32 → Option ((Nat → Int32))
  | 0, _, _ => none
  | fu + 1, sd, v2 =>
    if (408 : Int32) ≤ v2 then
    some (sd)
    else
    (q_ix v2 408).bind fun j2 =>
    if (sd j2) = (-1 : Int32) then
    f_X14_sweep_L32 sw fu sd (v2 + 1)
    else
    (q_ix v2 408).bind fun j4 =>
    (q_ix (sd j4) 136).bind fun j5 =>
    if ¬ (sw j5) = 0 then
    f_X14_sweep_L32 sw fu sd (v2 + 1)
    else
    (q_ix v2 408).bind fun j7 =>
    f_X14_sweep_L32 sw fu (q_up sd j7 (-1 : Int32)) (v2 + 1)
def f_X14_sweep_L6 (mi : Nat → Int32) : Nat → (Nat → Int32) → Int32 → Int32 → Option (Int32 × (Nat → Int32))
  | 0, _, _, _ => none
  | fu + 1, sw, v1, v2 =>
    if (136 : Int32) ≤ v2 then
    some (v1, sw)
    else
    (q_ix v2 136).bind fun j9 =>
    if ¬ (sw j9) = (2 : Int32) then
    f_X14_sweep_L6 mi fu sw v1 (v2 + 1)
    else
    (q_ix v2 136).bind fun j11 =>
    if (mi j11) = 0 then
    (q_ix v2 136).bind fun j13 =>
    f_X14_sweep_L6 mi fu (q_up sw j13 (0 : Int32)) (v1 + 1) (v2 + 1)
    else
    f_X14_sweep_L6 mi fu sw v1 (v2 + 1)
def f_X14_sweep (md : Nat → Int32) (mp : Nat → Int32) (mq : Nat → Int32) (mi : Nat → Int32) (st : Nat → Int32) (sh : Nat → Int32) (sw : Nat → Int32) (sr : Nat → Int32) (sd : Nat → Int32) : Option (Int32 × (Nat → Int32) × (Nat → Int32) × (Nat → Int32) × (Nat → Int32) × (Nat → Int32) × (Nat → Int32)) :=
  (f_X14_reach md mp mq mi sh sr sd).bind fun r14 =>
  (f_X14_sweep_L6 r14.2.2 4096 sw (0 : Int32) (0 : Int32)).bind fun r15 =>
  (f_X14_sweep_L32 r15.2 4096 sd (0 : Int32)).bind fun r16 =>
  some (r15.1, r14.1, r14.2.1, r14.2.2, (q_up st 5 ((st 5) + r15.1)), r15.2, r16)
def f_X15_sweepLoft (md : Nat → Int32) (mp : Nat → Int32) (mq : Nat → Int32) (mi : Nat → Int32) (st : Nat → Int32) (sh : Nat → Int32) (sw : Nat → Int32) (sr : Nat → Int32) (sd : Nat → Int32) : Option (Int32 × (Nat → Int32) × (Nat → Int32) × (Nat → Int32) × (Nat → Int32) × (Nat → Int32) × (Nat → Int32)) :=
  (f_X14_sweep md mp mq mi st sh sw sr sd).bind fun r1 =>
  (f_X15_ok r1.2.1 r1.1).bind fun r2 =>
  some (r2.1, r2.2, r1.2.2.1, r1.2.2.2.1, r1.2.2.2.2.1, r1.2.2.2.2.2.1, r1.2.2.2.2.2.2)
def f_X15_taken (x0 : Int32) : Option (Int32) :=
  if x0 = 5 then
  some ((1 : Int32))
  else
  if x0 = 6 then
  some ((-1 : Int32))
  else
  if x0 = 7 then
  some ((-1 : Int32))
  else
  if x0 = 8 then
  some ((-1 : Int32))
  else
  if x0 = 9 then
  some ((-1 : Int32))
  else
  if x0 = 10 then
  some ((-1 : Int32))
  else
  if x0 = 11 then
  some ((-1 : Int32))
  else
  if x0 = 12 then
  some ((-1 : Int32))
  else
  if x0 = 13 then
  some ((-1 : Int32))
  else
  if x0 = 14 then
  some ((-1 : Int32))
  else
  if x0 = 15 then
  some ((-1 : Int32))
  else
  if x0 = 16 then
  some ((0 : Int32))
  else
  if x0 = 17 then
  some ((0 : Int32))
  else
  if x0 = 18 then
  some ((0 : Int32))
  else
  if x0 = 19 then
  some ((0 : Int32))
  else
  if x0 = 20 then
  some ((0 : Int32))
  else
  if x0 = 21 then
  some ((1 : Int32))
  else
  if x0 = 22 then
  some ((1 : Int32))
  else
  if x0 = 23 then
  some ((2 : Int32))
  else
  if x0 = 24 then
  some ((-1 : Int32))
  else
  if x0 = 25 then
  some ((-1 : Int32))
  else
  if x0 = 26 then
  some ((-1 : Int32))
  else
  if x0 = 27 then
  some ((-1 : Int32))
  else
  if x0 = 28 then
  some ((-1 : Int32))
  else
  if x0 = 29 then
  some ((-1 : Int32))
  else
  if x0 = 30 then
  some ((-1 : Int32))
  else
  if x0 = 31 then
  some ((-1 : Int32))
  else
  if x0 = 32 then
  some ((1 : Int32))
  else
  some ((-1 : Int32))
def f_X14_pushed (mp : Nat → Int32) (pc : Nat → Int32) (st : Nat → Int32) (sh : Nat → Int32) (sw : Nat → Int32) (ss : Nat → Int32) (sa : Nat → Int32) (x1 : Int32) (x2 : Int32) : Option (Int32) :=
  (q_ix x2 800).bind fun j1 =>
  if x1 = 5 then
  (q_ix (pc j1) 6).bind fun j2 =>
  if ¬ (sh j2) = (-1 : Int32) then
  (q_ix (pc j1) 6).bind fun j4 =>
  (q_ix (sh j4) 136).bind fun j5 =>
  some ((ss j5))
  else
  some ((0 : Int32))
  else
  if x1 = 6 then
  some ((pc j1))
  else
  if x1 = 7 then
  some ((pc j1))
  else
  if x1 = 8 then
  some ((pc j1))
  else
  if x1 = 9 then
  some ((pc j1))
  else
  if x1 = 10 then
  some ((pc j1))
  else
  if x1 = 11 then
  some ((pc j1))
  else
  if x1 = 12 then
  some ((pc j1))
  else
  if x1 = 13 then
  some ((pc j1))
  else
  if x1 = 14 then
  some ((pc j1))
  else
  if x1 = 15 then
  some ((pc j1))
  else
  if x1 = 16 then
  some ((st 0))
  else
  if x1 = 17 then
  (f_X14_used sw ss (1 : Int32)).bind fun r6 =>
  some (r6)
  else
  if x1 = 18 then
  (f_X14_used sw ss (1 : Int32)).bind fun r7 =>
  some (((mp 1) - r7))
  else
  if x1 = 19 then
  some ((st 3))
  else
  if x1 = 20 then
  (f_X14_bales_ sw).bind fun r8 =>
  some (r8)
  else
  if x1 = 21 then
  (q_ix (pc j1) 6).bind fun j9 =>
  if ¬ (sh j9) = (-1 : Int32) then
  (q_ix (pc j1) 6).bind fun j11 =>
  (q_ix (sh j11) 136).bind fun j12 =>
  some ((sa j12))
  else
  some ((0 : Int32))
  else
  if x1 = 22 then
  (q_ix (pc j1) 6).bind fun j13 =>
  if ¬ (sh j13) = (-1 : Int32) then
  some ((1 : Int32))
  else
  some ((0 : Int32))
  else
  if x1 = 23 then
  (q_ix (pc j1) 6).bind fun j15 =>
  if (sh j15) = (-1 : Int32) then
  some ((0 : Int32))
  else
  (q_ix (pc j1) 6).bind fun j17 =>
  (q_ix (x2 + (1 : Int32)) 800).bind fun j18 =>
  (q_ix (pc j18) 6).bind fun j19 =>
  if ¬ (sh j17) = (sh j19) then
  some ((0 : Int32))
  else
  some ((1 : Int32))
  else
  some ((pc j1))
def f_X15_both (x0 : Int32) (x1 : Int32) (x2 : Int32) : Option (Int32) :=
  if x0 = 25 then
  some ((x1 &&& x2))
  else
  if x0 = 26 then
  some ((x1 ||| x2))
  else
  if x0 = 27 then
  some ((q_min x1 x2))
  else
  if x0 = 28 then
  some ((q_max x1 x2))
  else
  if x0 = 29 then
  some ((x1 ||| x2))
  else
  if x0 = 30 then
  some ((x1 ||| x2))
  else
  if x0 = 31 then
  some ((x1 ||| x2))
  else
  if x0 = 32 then
  some ((x1 ||| x2))
  else
  if x0 = 33 then
  some ((x1 ||| x2))
  else
  if x0 = 34 then
  some ((x1 + x2))
  else
  if x0 = 35 then
  some ((x1 - x2))
  else
  if x0 = 36 then
  some ((x1 * x2))
  else
  if x0 = 37 then
  if ¬ x2 = 0 then
  (q_nz x2).bind fun u2 =>
  some ((x1 / x2))
  else
  some ((0 : Int32))
  else
  if x0 = 38 then
  if x2 ≤ x1 then
  some ((0 : Int32))
  else
  some ((1 : Int32))
  else
  if x0 = 39 then
  if x1 ≤ x2 then
  some ((0 : Int32))
  else
  some ((1 : Int32))
  else
  if x0 = 40 then
  some ((x1 ||| x2))
  else
  if x0 = 41 then
  some ((x1 ||| x2))
  else
  if x0 = 42 then
  if ¬ x1 = x2 then
  some ((0 : Int32))
  else
  some ((1 : Int32))
  else
  if x0 = 43 then
  if x2 < x1 then
  some ((0 : Int32))
  else
  some ((1 : Int32))
  else
  if x0 = 44 then
  if x1 < x2 then
  some ((0 : Int32))
  else
  some ((1 : Int32))
  else
  some ((x1 ||| x2))
def f_X14_carryOut_L4 (mp : Nat → Int32) (pc : Nat → Int32) (st : Nat → Int32) (sh : Nat → Int32) (sw : Nat → Int32) (ss : Nat → Int32) (sa : Nat → Int32) (v2 : Int32) : Nat → (Nat → Int32) → Int32 → Int32 → Option ((Nat → Int32))
  | 0, _, _, _ => none
  | fu + 1, ms, v3, v4 =>
    if v2 ≤ v4 then
    some (ms)
    else
    (q_ix v4 800).bind fun j2 =>
    (f_X15_taken (pc j2)).bind fun r3 =>
    if r3 < 0 then
    if (pc j2) = (33 : Int32) then
    if ¬ (pc j2) = (33 : Int32) then
    (q_ix v3 400).bind fun j7 =>
    (q_ix v3 400).bind fun j8 =>
    f_X14_carryOut_L4 mp pc st sh sw ss sa v2 fu (q_up ms j8 ((1 : Int32) - (ms j7))) v3 (v4 + 1)
    else
    (q_ix v3 400).bind fun j9 =>
    (q_ix v3 400).bind fun j10 =>
    f_X14_carryOut_L4 mp pc st sh sw ss sa v2 fu (q_up ms j10 (-(ms j9))) v3 (v4 + 1)
    else
    if ¬ (pc j2) = (24 : Int32) then
    (q_ix (v3 + (-1)) 400).bind fun j12 =>
    (q_ix ((v3 + (-1)) + (1 : Int32)) 400).bind fun j13 =>
    (f_X15_both (pc j2) (ms j12) (ms j13)).bind fun r14 =>
    (q_ix (v3 + (-1)) 400).bind fun j15 =>
    f_X14_carryOut_L4 mp pc st sh sw ss sa v2 fu (q_up ms j15 r14) (v3 + (-1)) (v4 + 1)
    else
    if ¬ (pc j2) = (33 : Int32) then
    (q_ix v3 400).bind fun j17 =>
    (q_ix v3 400).bind fun j18 =>
    f_X14_carryOut_L4 mp pc st sh sw ss sa v2 fu (q_up ms j18 ((1 : Int32) - (ms j17))) v3 (v4 + 1)
    else
    (q_ix v3 400).bind fun j19 =>
    (q_ix v3 400).bind fun j20 =>
    f_X14_carryOut_L4 mp pc st sh sw ss sa v2 fu (q_up ms j20 (-(ms j19))) v3 (v4 + 1)
    else
    (f_X14_pushed mp pc st sh sw ss sa (pc j2) (v4 + 1)).bind fun r21 =>
    (q_ix (v3 + 1) 400).bind fun j22 =>
    f_X14_carryOut_L4 mp pc st sh sw ss sa v2 fu (q_up ms j22 r21) (v3 + 1) ((v4 + 1) + r3)
def f_X14_carryOut (mp : Nat → Int32) (pc : Nat → Int32) (ms : Nat → Int32) (st : Nat → Int32) (sh : Nat → Int32) (sw : Nat → Int32) (ss : Nat → Int32) (sa : Nat → Int32) (x1 : Int32) (x2 : Int32) : Option (Int32 × (Nat → Int32)) :=
  (f_X14_carryOut_L4 mp pc st sh sw ss sa x2 4096 ms (-1 : Int32) x1).bind fun r23 =>
  (q_ix (0 : Int32) 400).bind fun j24 =>
  some ((r23 j24), r23)
def f_X14_untie (sh : Nat → Int32) (sr : Nat → Int32) (sd : Nat → Int32) (x1 : Int32) (x2 : Int32) : Option (Bool × (Nat → Int32)) :=
  (f_X14_hasRope sh sr x1 x2).bind fun r1 =>
  if ¬ (q_bz r1) = 0 then
  (q_ix x1 6).bind fun j3 =>
  (q_ix (((3 : Int32) * (sh j3)) + x2) 408).bind fun j4 =>
  some (true, (q_up sd j4 (-1 : Int32)))
  else
  some (false, sd)
def f_X14_isDone (md : Nat → Int32) (mp : Nat → Int32) (pd : Nat → Int32) (po : Nat → Int32) (pq : Nat → Int32) (pr : Nat → Int32) (ps : Nat → Int32) (pt : Nat → Int32) (pc : Nat → Int32) (ms : Nat → Int32) (mq : Nat → Int32) (mi : Nat → Int32) (st : Nat → Int32) (sh : Nat → Int32) (sw : Nat → Int32) (sp : Nat → Int32) (ss : Nat → Int32) (sr : Nat → Int32) (sa : Nat → Int32) (sd : Nat → Int32) (x1 : Int32) : Option (Bool × (Nat → Int32) × (Nat → Int32) × (Nat → Int32) × (Nat → Int32) × (Nat → Int32) × (Nat → Int32) × (Nat → Int32) × (Nat → Int32) × (Nat → Int32) × (Nat → Int32) × (Nat → Int32) × (Nat → Int32)) :=
  (q_ix x1 20).bind fun j1 =>
  if (pd j1) = 4 then
  (q_ix x1 20).bind fun j2 =>
  (q_ix x1 21).bind fun j3 =>
  (q_ix x1 21).bind fun j4 =>
  (f_X14_carryOut mp pc ms st sh sw ss sa (ps j3) (pt j4)).bind fun r5 =>
  (q_ix x1 20).bind fun j6 =>
  (f_X14_make md mp mq mi st sh sw sp ss sr sa sd (po j2) (q_max (1 : Int32) (q_min (9 : Int32) r5.1)) (pr j6)).bind fun r7 =>
  some (r7.1, r7.2.1, r5.2, r7.2.2.1, r7.2.2.2.1, r7.2.2.2.2.1, r7.2.2.2.2.2.1, r7.2.2.2.2.2.2.1, r7.2.2.2.2.2.2.2.1, r7.2.2.2.2.2.2.2.2.1, r7.2.2.2.2.2.2.2.2.2.1, r7.2.2.2.2.2.2.2.2.2.2.1, r7.2.2.2.2.2.2.2.2.2.2.2)
  else
  if (pd j1) = 5 then
  (q_ix x1 20).bind fun j8 =>
  (f_X14_drop sh (po j8)).bind fun r9 =>
  some (r9.1, md, ms, mq, mi, st, r9.2, sw, sp, ss, sr, sa, sd)
  else
  if (pd j1) = 6 then
  (q_ix x1 20).bind fun j10 =>
  (f_X14_drop sh (po j10)).bind fun r11 =>
  some (r11.1, md, ms, mq, mi, st, r11.2, sw, sp, ss, sr, sa, sd)
  else
  if (pd j1) = 7 then
  (q_ix x1 20).bind fun j12 =>
  (q_ix x1 20).bind fun j13 =>
  (q_ix x1 20).bind fun j14 =>
  (f_X14_tie sh sr sd (po j12) (pr j13) (pq j14)).bind fun r15 =>
  some (r15.1, md, ms, mq, mi, st, sh, sw, sp, ss, sr, sa, r15.2)
  else
  if (pd j1) = 8 then
  (q_ix x1 20).bind fun j16 =>
  (f_X14_drop sh (po j16)).bind fun r17 =>
  some (r17.1, md, ms, mq, mi, st, r17.2, sw, sp, ss, sr, sa, sd)
  else
  if (pd j1) = 9 then
  (q_ix x1 20).bind fun j18 =>
  (f_X14_drop sh (po j18)).bind fun r19 =>
  some (r19.1, md, ms, mq, mi, st, r19.2, sw, sp, ss, sr, sa, sd)
  else
  if (pd j1) = 10 then
  (q_ix x1 20).bind fun j20 =>
  (q_ix x1 20).bind fun j21 =>
  (f_X14_untie sh sr sd (po j20) (pr j21)).bind fun r22 =>
  some (r22.1, md, ms, mq, mi, st, sh, sw, sp, ss, sr, sa, r22.2)
  else
  if (pd j1) = 11 then
  (q_ix x1 20).bind fun j23 =>
  (q_ix x1 20).bind fun j24 =>
  (q_ix x1 20).bind fun j25 =>
  (f_X14_follow sh sr sd (po j23) (pq j24) (pr j25)).bind fun r26 =>
  some (r26.1, md, ms, mq, mi, st, r26.2, sw, sp, ss, sr, sa, sd)
  else
  (q_ix x1 20).bind fun j27 =>
  (f_X14_drop sh (po j27)).bind fun r28 =>
  some (r28.1, md, ms, mq, mi, st, r28.2, sw, sp, ss, sr, sa, sd)
def f_X14_goOn (md : Nat → Int32) (mp : Nat → Int32) (pd : Nat → Int32) (po : Nat → Int32) (pq : Nat → Int32) (pr : Nat → Int32) (ps : Nat → Int32) (pt : Nat → Int32) (pe : Nat → Int32) (pc : Nat → Int32) (ms : Nat → Int32) (mq : Nat → Int32) (mi : Nat → Int32) (st : Nat → Int32) (sh : Nat → Int32) (sw : Nat → Int32) (sp : Nat → Int32) (ss : Nat → Int32) (sr : Nat → Int32) (sa : Nat → Int32) (sd : Nat → Int32) : Option (Bool × (Nat → Int32) × (Nat → Int32) × (Nat → Int32) × (Nat → Int32) × (Nat → Int32) × (Nat → Int32) × (Nat → Int32) × (Nat → Int32) × (Nat → Int32) × (Nat → Int32) × (Nat → Int32) × (Nat → Int32)) :=
  (q_nz (mp 4)).bind fun u1 =>
  (q_ix ((st 0) - (st 0) / (mp 4) * (mp 4)) 21).bind fun j3 =>
  (q_ix ((st 0) - (st 0) / (mp 4) * (mp 4)) 21).bind fun j4 =>
  if (pt j3) = (pe j4) then
  if (1 : Int32) = 0 then
  if (1 : Int32) = 0 then
  some (false, md, ms, mq, mi, (q_up (q_up st 0 ((st 0) + (1 : Int32))) 1 (((q_up st 0 ((st 0) + (1 : Int32))) 1) + (0 : Int32))), sh, sw, sp, ss, sr, sa, sd)
  else
  if ¬ (0 : Int32) = 0 then
  some (false, md, ms, mq, mi, (q_up (q_up st 0 ((st 0) + (1 : Int32))) 1 (((q_up st 0 ((st 0) + (1 : Int32))) 1) + (0 : Int32))), sh, sw, sp, ss, sr, sa, sd)
  else
  some (false, md, ms, mq, mi, (q_up (q_up st 0 ((st 0) + (1 : Int32))) 1 (((q_up st 0 ((st 0) + (1 : Int32))) 1) + (1 : Int32))), sh, sw, sp, ss, sr, sa, sd)
  else
  (f_X14_isDone md mp pd po pq pr ps pt pc ms mq mi st sh sw sp ss sr sa sd ((st 0) - (st 0) / (mp 4) * (mp 4))).bind fun r9 =>
  if (q_bz r9.1) = 0 then
  if (1 : Int32) = 0 then
  some (false, r9.2.1, r9.2.2.1, r9.2.2.2.1, r9.2.2.2.2.1, (q_up (q_up r9.2.2.2.2.2.1 0 ((r9.2.2.2.2.2.1 0) + (1 : Int32))) 1 (((q_up r9.2.2.2.2.2.1 0 ((r9.2.2.2.2.2.1 0) + (1 : Int32))) 1) + (0 : Int32))), r9.2.2.2.2.2.2.1, r9.2.2.2.2.2.2.2.1, r9.2.2.2.2.2.2.2.2.1, r9.2.2.2.2.2.2.2.2.2.1, r9.2.2.2.2.2.2.2.2.2.2.1, r9.2.2.2.2.2.2.2.2.2.2.2.1, r9.2.2.2.2.2.2.2.2.2.2.2.2)
  else
  if ¬ (0 : Int32) = 0 then
  some (false, r9.2.1, r9.2.2.1, r9.2.2.2.1, r9.2.2.2.2.1, (q_up (q_up r9.2.2.2.2.2.1 0 ((r9.2.2.2.2.2.1 0) + (1 : Int32))) 1 (((q_up r9.2.2.2.2.2.1 0 ((r9.2.2.2.2.2.1 0) + (1 : Int32))) 1) + (0 : Int32))), r9.2.2.2.2.2.2.1, r9.2.2.2.2.2.2.2.1, r9.2.2.2.2.2.2.2.2.1, r9.2.2.2.2.2.2.2.2.2.1, r9.2.2.2.2.2.2.2.2.2.2.1, r9.2.2.2.2.2.2.2.2.2.2.2.1, r9.2.2.2.2.2.2.2.2.2.2.2.2)
  else
  some (false, r9.2.1, r9.2.2.1, r9.2.2.2.1, r9.2.2.2.2.1, (q_up (q_up r9.2.2.2.2.2.1 0 ((r9.2.2.2.2.2.1 0) + (1 : Int32))) 1 (((q_up r9.2.2.2.2.2.1 0 ((r9.2.2.2.2.2.1 0) + (1 : Int32))) 1) + (1 : Int32))), r9.2.2.2.2.2.2.1, r9.2.2.2.2.2.2.2.1, r9.2.2.2.2.2.2.2.2.1, r9.2.2.2.2.2.2.2.2.2.1, r9.2.2.2.2.2.2.2.2.2.2.1, r9.2.2.2.2.2.2.2.2.2.2.2.1, r9.2.2.2.2.2.2.2.2.2.2.2.2)
  else
  if (1 : Int32) = 0 then
  some (true, r9.2.1, r9.2.2.1, r9.2.2.2.1, r9.2.2.2.2.1, (q_up (q_up r9.2.2.2.2.2.1 0 ((r9.2.2.2.2.2.1 0) + (1 : Int32))) 1 (((q_up r9.2.2.2.2.2.1 0 ((r9.2.2.2.2.2.1 0) + (1 : Int32))) 1) + (0 : Int32))), r9.2.2.2.2.2.2.1, r9.2.2.2.2.2.2.2.1, r9.2.2.2.2.2.2.2.2.1, r9.2.2.2.2.2.2.2.2.2.1, r9.2.2.2.2.2.2.2.2.2.2.1, r9.2.2.2.2.2.2.2.2.2.2.2.1, r9.2.2.2.2.2.2.2.2.2.2.2.2)
  else
  if ¬ (1 : Int32) = 0 then
  some (true, r9.2.1, r9.2.2.1, r9.2.2.2.1, r9.2.2.2.2.1, (q_up (q_up r9.2.2.2.2.2.1 0 ((r9.2.2.2.2.2.1 0) + (1 : Int32))) 1 (((q_up r9.2.2.2.2.2.1 0 ((r9.2.2.2.2.2.1 0) + (1 : Int32))) 1) + (0 : Int32))), r9.2.2.2.2.2.2.1, r9.2.2.2.2.2.2.2.1, r9.2.2.2.2.2.2.2.2.1, r9.2.2.2.2.2.2.2.2.2.1, r9.2.2.2.2.2.2.2.2.2.2.1, r9.2.2.2.2.2.2.2.2.2.2.2.1, r9.2.2.2.2.2.2.2.2.2.2.2.2)
  else
  some (true, r9.2.1, r9.2.2.1, r9.2.2.2.1, r9.2.2.2.2.1, (q_up (q_up r9.2.2.2.2.2.1 0 ((r9.2.2.2.2.2.1 0) + (1 : Int32))) 1 (((q_up r9.2.2.2.2.2.1 0 ((r9.2.2.2.2.2.1 0) + (1 : Int32))) 1) + (1 : Int32))), r9.2.2.2.2.2.2.1, r9.2.2.2.2.2.2.2.1, r9.2.2.2.2.2.2.2.2.1, r9.2.2.2.2.2.2.2.2.2.1, r9.2.2.2.2.2.2.2.2.2.2.1, r9.2.2.2.2.2.2.2.2.2.2.2.1, r9.2.2.2.2.2.2.2.2.2.2.2.2)
  else
  (q_ix ((st 0) - (st 0) / (mp 4) * (mp 4)) 21).bind fun j15 =>
  (q_ix ((st 0) - (st 0) / (mp 4) * (mp 4)) 21).bind fun j16 =>
  (f_X14_carryOut mp pc ms st sh sw ss sa (pt j15) (pe j16)).bind fun r17 =>
  if ¬ r17.1 = (1 : Int32) then
  if (0 : Int32) = 0 then
  if (0 : Int32) = 0 then
  some (false, md, r17.2, mq, mi, (q_up (q_up st 0 ((st 0) + (1 : Int32))) 1 (((q_up st 0 ((st 0) + (1 : Int32))) 1) + (0 : Int32))), sh, sw, sp, ss, sr, sa, sd)
  else
  if ¬ (0 : Int32) = 0 then
  some (false, md, r17.2, mq, mi, (q_up (q_up st 0 ((st 0) + (1 : Int32))) 1 (((q_up st 0 ((st 0) + (1 : Int32))) 1) + (0 : Int32))), sh, sw, sp, ss, sr, sa, sd)
  else
  some (false, md, r17.2, mq, mi, (q_up (q_up st 0 ((st 0) + (1 : Int32))) 1 (((q_up st 0 ((st 0) + (1 : Int32))) 1) + (1 : Int32))), sh, sw, sp, ss, sr, sa, sd)
  else
  (f_X14_isDone md mp pd po pq pr ps pt pc r17.2 mq mi st sh sw sp ss sr sa sd ((st 0) - (st 0) / (mp 4) * (mp 4))).bind fun r22 =>
  if (q_bz r22.1) = 0 then
  if (0 : Int32) = 0 then
  some (false, r22.2.1, r22.2.2.1, r22.2.2.2.1, r22.2.2.2.2.1, (q_up (q_up r22.2.2.2.2.2.1 0 ((r22.2.2.2.2.2.1 0) + (1 : Int32))) 1 (((q_up r22.2.2.2.2.2.1 0 ((r22.2.2.2.2.2.1 0) + (1 : Int32))) 1) + (0 : Int32))), r22.2.2.2.2.2.2.1, r22.2.2.2.2.2.2.2.1, r22.2.2.2.2.2.2.2.2.1, r22.2.2.2.2.2.2.2.2.2.1, r22.2.2.2.2.2.2.2.2.2.2.1, r22.2.2.2.2.2.2.2.2.2.2.2.1, r22.2.2.2.2.2.2.2.2.2.2.2.2)
  else
  if ¬ (0 : Int32) = 0 then
  some (false, r22.2.1, r22.2.2.1, r22.2.2.2.1, r22.2.2.2.2.1, (q_up (q_up r22.2.2.2.2.2.1 0 ((r22.2.2.2.2.2.1 0) + (1 : Int32))) 1 (((q_up r22.2.2.2.2.2.1 0 ((r22.2.2.2.2.2.1 0) + (1 : Int32))) 1) + (0 : Int32))), r22.2.2.2.2.2.2.1, r22.2.2.2.2.2.2.2.1, r22.2.2.2.2.2.2.2.2.1, r22.2.2.2.2.2.2.2.2.2.1, r22.2.2.2.2.2.2.2.2.2.2.1, r22.2.2.2.2.2.2.2.2.2.2.2.1, r22.2.2.2.2.2.2.2.2.2.2.2.2)
  else
  some (false, r22.2.1, r22.2.2.1, r22.2.2.2.1, r22.2.2.2.2.1, (q_up (q_up r22.2.2.2.2.2.1 0 ((r22.2.2.2.2.2.1 0) + (1 : Int32))) 1 (((q_up r22.2.2.2.2.2.1 0 ((r22.2.2.2.2.2.1 0) + (1 : Int32))) 1) + (1 : Int32))), r22.2.2.2.2.2.2.1, r22.2.2.2.2.2.2.2.1, r22.2.2.2.2.2.2.2.2.1, r22.2.2.2.2.2.2.2.2.2.1, r22.2.2.2.2.2.2.2.2.2.2.1, r22.2.2.2.2.2.2.2.2.2.2.2.1, r22.2.2.2.2.2.2.2.2.2.2.2.2)
  else
  if (0 : Int32) = 0 then
  some (true, r22.2.1, r22.2.2.1, r22.2.2.2.1, r22.2.2.2.2.1, (q_up (q_up r22.2.2.2.2.2.1 0 ((r22.2.2.2.2.2.1 0) + (1 : Int32))) 1 (((q_up r22.2.2.2.2.2.1 0 ((r22.2.2.2.2.2.1 0) + (1 : Int32))) 1) + (0 : Int32))), r22.2.2.2.2.2.2.1, r22.2.2.2.2.2.2.2.1, r22.2.2.2.2.2.2.2.2.1, r22.2.2.2.2.2.2.2.2.2.1, r22.2.2.2.2.2.2.2.2.2.2.1, r22.2.2.2.2.2.2.2.2.2.2.2.1, r22.2.2.2.2.2.2.2.2.2.2.2.2)
  else
  if ¬ (1 : Int32) = 0 then
  some (true, r22.2.1, r22.2.2.1, r22.2.2.2.1, r22.2.2.2.2.1, (q_up (q_up r22.2.2.2.2.2.1 0 ((r22.2.2.2.2.2.1 0) + (1 : Int32))) 1 (((q_up r22.2.2.2.2.2.1 0 ((r22.2.2.2.2.2.1 0) + (1 : Int32))) 1) + (0 : Int32))), r22.2.2.2.2.2.2.1, r22.2.2.2.2.2.2.2.1, r22.2.2.2.2.2.2.2.2.1, r22.2.2.2.2.2.2.2.2.2.1, r22.2.2.2.2.2.2.2.2.2.2.1, r22.2.2.2.2.2.2.2.2.2.2.2.1, r22.2.2.2.2.2.2.2.2.2.2.2.2)
  else
  some (true, r22.2.1, r22.2.2.1, r22.2.2.2.1, r22.2.2.2.2.1, (q_up (q_up r22.2.2.2.2.2.1 0 ((r22.2.2.2.2.2.1 0) + (1 : Int32))) 1 (((q_up r22.2.2.2.2.2.1 0 ((r22.2.2.2.2.2.1 0) + (1 : Int32))) 1) + (1 : Int32))), r22.2.2.2.2.2.2.1, r22.2.2.2.2.2.2.2.1, r22.2.2.2.2.2.2.2.2.1, r22.2.2.2.2.2.2.2.2.2.1, r22.2.2.2.2.2.2.2.2.2.2.1, r22.2.2.2.2.2.2.2.2.2.2.2.1, r22.2.2.2.2.2.2.2.2.2.2.2.2)
  else
  if (1 : Int32) = 0 then
  if (1 : Int32) = 0 then
  some (false, md, r17.2, mq, mi, (q_up (q_up st 0 ((st 0) + (1 : Int32))) 1 (((q_up st 0 ((st 0) + (1 : Int32))) 1) + (0 : Int32))), sh, sw, sp, ss, sr, sa, sd)
  else
  if ¬ (0 : Int32) = 0 then
  some (false, md, r17.2, mq, mi, (q_up (q_up st 0 ((st 0) + (1 : Int32))) 1 (((q_up st 0 ((st 0) + (1 : Int32))) 1) + (0 : Int32))), sh, sw, sp, ss, sr, sa, sd)
  else
  some (false, md, r17.2, mq, mi, (q_up (q_up st 0 ((st 0) + (1 : Int32))) 1 (((q_up st 0 ((st 0) + (1 : Int32))) 1) + (1 : Int32))), sh, sw, sp, ss, sr, sa, sd)
  else
  (f_X14_isDone md mp pd po pq pr ps pt pc r17.2 mq mi st sh sw sp ss sr sa sd ((st 0) - (st 0) / (mp 4) * (mp 4))).bind fun r31 =>
  if (q_bz r31.1) = 0 then
  if (1 : Int32) = 0 then
  some (false, r31.2.1, r31.2.2.1, r31.2.2.2.1, r31.2.2.2.2.1, (q_up (q_up r31.2.2.2.2.2.1 0 ((r31.2.2.2.2.2.1 0) + (1 : Int32))) 1 (((q_up r31.2.2.2.2.2.1 0 ((r31.2.2.2.2.2.1 0) + (1 : Int32))) 1) + (0 : Int32))), r31.2.2.2.2.2.2.1, r31.2.2.2.2.2.2.2.1, r31.2.2.2.2.2.2.2.2.1, r31.2.2.2.2.2.2.2.2.2.1, r31.2.2.2.2.2.2.2.2.2.2.1, r31.2.2.2.2.2.2.2.2.2.2.2.1, r31.2.2.2.2.2.2.2.2.2.2.2.2)
  else
  if ¬ (0 : Int32) = 0 then
  some (false, r31.2.1, r31.2.2.1, r31.2.2.2.1, r31.2.2.2.2.1, (q_up (q_up r31.2.2.2.2.2.1 0 ((r31.2.2.2.2.2.1 0) + (1 : Int32))) 1 (((q_up r31.2.2.2.2.2.1 0 ((r31.2.2.2.2.2.1 0) + (1 : Int32))) 1) + (0 : Int32))), r31.2.2.2.2.2.2.1, r31.2.2.2.2.2.2.2.1, r31.2.2.2.2.2.2.2.2.1, r31.2.2.2.2.2.2.2.2.2.1, r31.2.2.2.2.2.2.2.2.2.2.1, r31.2.2.2.2.2.2.2.2.2.2.2.1, r31.2.2.2.2.2.2.2.2.2.2.2.2)
  else
  some (false, r31.2.1, r31.2.2.1, r31.2.2.2.1, r31.2.2.2.2.1, (q_up (q_up r31.2.2.2.2.2.1 0 ((r31.2.2.2.2.2.1 0) + (1 : Int32))) 1 (((q_up r31.2.2.2.2.2.1 0 ((r31.2.2.2.2.2.1 0) + (1 : Int32))) 1) + (1 : Int32))), r31.2.2.2.2.2.2.1, r31.2.2.2.2.2.2.2.1, r31.2.2.2.2.2.2.2.2.1, r31.2.2.2.2.2.2.2.2.2.1, r31.2.2.2.2.2.2.2.2.2.2.1, r31.2.2.2.2.2.2.2.2.2.2.2.1, r31.2.2.2.2.2.2.2.2.2.2.2.2)
  else
  if (1 : Int32) = 0 then
  some (true, r31.2.1, r31.2.2.1, r31.2.2.2.1, r31.2.2.2.2.1, (q_up (q_up r31.2.2.2.2.2.1 0 ((r31.2.2.2.2.2.1 0) + (1 : Int32))) 1 (((q_up r31.2.2.2.2.2.1 0 ((r31.2.2.2.2.2.1 0) + (1 : Int32))) 1) + (0 : Int32))), r31.2.2.2.2.2.2.1, r31.2.2.2.2.2.2.2.1, r31.2.2.2.2.2.2.2.2.1, r31.2.2.2.2.2.2.2.2.2.1, r31.2.2.2.2.2.2.2.2.2.2.1, r31.2.2.2.2.2.2.2.2.2.2.2.1, r31.2.2.2.2.2.2.2.2.2.2.2.2)
  else
  if ¬ (1 : Int32) = 0 then
  some (true, r31.2.1, r31.2.2.1, r31.2.2.2.1, r31.2.2.2.2.1, (q_up (q_up r31.2.2.2.2.2.1 0 ((r31.2.2.2.2.2.1 0) + (1 : Int32))) 1 (((q_up r31.2.2.2.2.2.1 0 ((r31.2.2.2.2.2.1 0) + (1 : Int32))) 1) + (0 : Int32))), r31.2.2.2.2.2.2.1, r31.2.2.2.2.2.2.2.1, r31.2.2.2.2.2.2.2.2.1, r31.2.2.2.2.2.2.2.2.2.1, r31.2.2.2.2.2.2.2.2.2.2.1, r31.2.2.2.2.2.2.2.2.2.2.2.1, r31.2.2.2.2.2.2.2.2.2.2.2.2)
  else
  some (true, r31.2.1, r31.2.2.1, r31.2.2.2.1, r31.2.2.2.2.1, (q_up (q_up r31.2.2.2.2.2.1 0 ((r31.2.2.2.2.2.1 0) + (1 : Int32))) 1 (((q_up r31.2.2.2.2.2.1 0 ((r31.2.2.2.2.2.1 0) + (1 : Int32))) 1) + (1 : Int32))), r31.2.2.2.2.2.2.1, r31.2.2.2.2.2.2.2.1, r31.2.2.2.2.2.2.2.2.1, r31.2.2.2.2.2.2.2.2.2.1, r31.2.2.2.2.2.2.2.2.2.2.1, r31.2.2.2.2.2.2.2.2.2.2.2.1, r31.2.2.2.2.2.2.2.2.2.2.2.2)
def f_X14_goOn__L4 (mp : Nat → Int32) (pd : Nat → Int32) (po : Nat → Int32) (pq : Nat → Int32) (pr : Nat → Int32) (ps : Nat → Int32) (pt : Nat → Int32) (pe : Nat → Int32) (pc : Nat → Int32) (v1 : Int32) : Nat → (Nat → Int32) → (Nat → Int32) → (Nat → Int32) → (Nat → Int32) → (Nat → Int32) → (Nat → Int32) → (Nat → Int32) → (Nat → Int32) → (Nat → Int32) → (Nat → Int32) → (Nat → Int32) → (Nat → Int32) → Int32 → Int32 → Option (Int32 × (Nat → Int32) × (Nat → Int32) × (Nat → Int32) × (Nat → Int32) × (Nat → Int32) × (Nat → Int32) × (Nat → Int32) × (Nat → Int32) × (Nat → Int32) × (Nat → Int32) × (Nat → Int32) × (Nat → Int32))
  | 0, _, _, _, _, _, _, _, _, _, _, _, _, _, _ => none
  | fu + 1, md, ms, mq, mi, st, sh, sw, sp, ss, sr, sa, sd, v2, v3 =>
    if v1 ≤ v3 then
    some (v2, md, ms, mq, mi, st, sh, sw, sp, ss, sr, sa, sd)
    else
    (f_X14_goOn md mp pd po pq pr ps pt pe pc ms mq mi st sh sw sp ss sr sa sd).bind fun r2 =>
    if (q_bz r2.1) = 0 then
    f_X14_goOn__L4 mp pd po pq pr ps pt pe pc v1 fu r2.2.1 r2.2.2.1 r2.2.2.2.1 r2.2.2.2.2.1 r2.2.2.2.2.2.1 r2.2.2.2.2.2.2.1 r2.2.2.2.2.2.2.2.1 r2.2.2.2.2.2.2.2.2.1 r2.2.2.2.2.2.2.2.2.2.1 r2.2.2.2.2.2.2.2.2.2.2.1 r2.2.2.2.2.2.2.2.2.2.2.2.1 r2.2.2.2.2.2.2.2.2.2.2.2.2 (v2 + (0 : Int32)) (v3 + 1)
    else
    f_X14_goOn__L4 mp pd po pq pr ps pt pe pc v1 fu r2.2.1 r2.2.2.1 r2.2.2.2.1 r2.2.2.2.2.1 r2.2.2.2.2.2.1 r2.2.2.2.2.2.2.1 r2.2.2.2.2.2.2.2.1 r2.2.2.2.2.2.2.2.2.1 r2.2.2.2.2.2.2.2.2.2.1 r2.2.2.2.2.2.2.2.2.2.2.1 r2.2.2.2.2.2.2.2.2.2.2.2.1 r2.2.2.2.2.2.2.2.2.2.2.2.2 (v2 + (1 : Int32)) (v3 + 1)
def f_X14_goOn_ (md : Nat → Int32) (mp : Nat → Int32) (pd : Nat → Int32) (po : Nat → Int32) (pq : Nat → Int32) (pr : Nat → Int32) (ps : Nat → Int32) (pt : Nat → Int32) (pe : Nat → Int32) (pc : Nat → Int32) (ms : Nat → Int32) (mq : Nat → Int32) (mi : Nat → Int32) (st : Nat → Int32) (sh : Nat → Int32) (sw : Nat → Int32) (sp : Nat → Int32) (ss : Nat → Int32) (sr : Nat → Int32) (sa : Nat → Int32) (sd : Nat → Int32) (x1 : Int32) : Option (Int32 × (Nat → Int32) × (Nat → Int32) × (Nat → Int32) × (Nat → Int32) × (Nat → Int32) × (Nat → Int32) × (Nat → Int32) × (Nat → Int32) × (Nat → Int32) × (Nat → Int32) × (Nat → Int32) × (Nat → Int32)) :=
  (f_X14_goOn__L4 mp pd po pq pr ps pt pe pc x1 101 md ms mq mi st sh sw sp ss sr sa sd (0 : Int32) (0 : Int32)).bind fun r4 =>
  some (r4.1, r4.2.1, r4.2.2.1, r4.2.2.2.1, r4.2.2.2.2.1, r4.2.2.2.2.2.1, r4.2.2.2.2.2.2.1, r4.2.2.2.2.2.2.2.1, r4.2.2.2.2.2.2.2.2.1, r4.2.2.2.2.2.2.2.2.2.1, r4.2.2.2.2.2.2.2.2.2.2.1, r4.2.2.2.2.2.2.2.2.2.2.2.1, r4.2.2.2.2.2.2.2.2.2.2.2.2)
def f_X15_work (md : Nat → Int32) (mp : Nat → Int32) (pd : Nat → Int32) (po : Nat → Int32) (pq : Nat → Int32) (pr : Nat → Int32) (ps : Nat → Int32) (pt : Nat → Int32) (pe : Nat → Int32) (pc : Nat → Int32) (ms : Nat → Int32) (mq : Nat → Int32) (mi : Nat → Int32) (st : Nat → Int32) (sh : Nat → Int32) (sw : Nat → Int32) (sp : Nat → Int32) (ss : Nat → Int32) (sr : Nat → Int32) (sa : Nat → Int32) (sd : Nat → Int32) (x1 : Int32) : Option (Int32 × (Nat → Int32) × (Nat → Int32) × (Nat → Int32) × (Nat → Int32) × (Nat → Int32) × (Nat → Int32) × (Nat → Int32) × (Nat → Int32) × (Nat → Int32) × (Nat → Int32) × (Nat → Int32) × (Nat → Int32)) :=
  (f_X15_isIn x1 (1 : Int32) (100 : Int32)).bind fun r1 =>
  if ¬ (q_bz r1) = 0 then
  if ¬ (mp 4) = 0 then
  (f_X14_goOn_ (q_up md 0 (0 : Int32)) mp pd po pq pr ps pt pe pc ms mq mi st sh sw sp ss sr sa sd x1).bind fun r4 =>
  some (r4.1, r4.2.1, r4.2.2.1, r4.2.2.2.1, r4.2.2.2.2.1, r4.2.2.2.2.2.1, r4.2.2.2.2.2.2.1, r4.2.2.2.2.2.2.2.1, r4.2.2.2.2.2.2.2.2.1, r4.2.2.2.2.2.2.2.2.2.1, r4.2.2.2.2.2.2.2.2.2.2.1, r4.2.2.2.2.2.2.2.2.2.2.2.1, r4.2.2.2.2.2.2.2.2.2.2.2.2)
  else
  (f_X15_no (q_up md 0 (0 : Int32)) (2 : Int32)).bind fun r5 =>
  some (r5.1, r5.2, ms, mq, mi, st, sh, sw, sp, ss, sr, sa, sd)
  else
  (f_X15_no (q_up md 0 (0 : Int32)) (1 : Int32)).bind fun r6 =>
  some (r6.1, r6.2, ms, mq, mi, st, sh, sw, sp, ss, sr, sa, sd)
def f_X14_copy__2 (sh : Nat → Int32) (sht : Nat → Int32) : Option ((Nat → Int32)) :=
  some ((q_cp sh sht 6))
def f_X14_copy__3 (sw : Nat → Int32) (swt : Nat → Int32) : Option ((Nat → Int32)) :=
  some ((q_cp sw swt 136))
def f_X14_copy__4 (sp : Nat → Int32) (spt : Nat → Int32) : Option ((Nat → Int32)) :=
  some ((q_cp sp spt 136))
def f_X14_copy__5 (ss : Nat → Int32) (sst : Nat → Int32) : Option ((Nat → Int32)) :=
  some ((q_cp ss sst 136))
def f_X14_copy__6 (sr : Nat → Int32) (srt : Nat → Int32) : Option ((Nat → Int32)) :=
  some ((q_cp sr srt 136))
def f_X14_copy__7 (sa : Nat → Int32) (sat : Nat → Int32) : Option ((Nat → Int32)) :=
  some ((q_cp sa sat 136))
def f_X14_copy__8 (sd : Nat → Int32) (sdt : Nat → Int32) : Option ((Nat → Int32)) :=
  some ((q_cp sd sdt 408))
def f_X14_become (st : Nat → Int32) (sh : Nat → Int32) (sw : Nat → Int32) (sp : Nat → Int32) (ss : Nat → Int32) (sr : Nat → Int32) (sa : Nat → Int32) (sd : Nat → Int32) (stt : Nat → Int32) (sht : Nat → Int32) (swt : Nat → Int32) (spt : Nat → Int32) (sst : Nat → Int32) (srt : Nat → Int32) (sat : Nat → Int32) (sdt : Nat → Int32) : Option ((Nat → Int32) × (Nat → Int32) × (Nat → Int32) × (Nat → Int32) × (Nat → Int32) × (Nat → Int32) × (Nat → Int32) × (Nat → Int32)) :=
  (f_X14_copy__2 sh sht).bind fun r1 =>
  (f_X14_copy__3 sw swt).bind fun r2 =>
  (f_X14_copy__4 sp spt).bind fun r3 =>
  (f_X14_copy__5 ss sst).bind fun r4 =>
  (f_X14_copy__6 sr srt).bind fun r5 =>
  (f_X14_copy__7 sa sat).bind fun r6 =>
  (f_X14_copy__8 sd sdt).bind fun r7 =>
  some ((q_up (q_up (q_up (q_up (q_up (q_up stt 0 (st 0)) 1 (st 1)) 2 (st 2)) 3 (st 3)) 4 (st 4)) 5 (st 5)), r1, r2, r3, r4, r5, r6, r7)
def f_X15_stepsUntilCopying_L11 (mp : Nat → Int32) (pd : Nat → Int32) (po : Nat → Int32) (pq : Nat → Int32) (pr : Nat → Int32) (ps : Nat → Int32) (pt : Nat → Int32) (pe : Nat → Int32) (pc : Nat → Int32) (st : Nat → Int32) : Nat → (Nat → Int32) → (Nat → Int32) → (Nat → Int32) → (Nat → Int32) → (Nat → Int32) → (Nat → Int32) → (Nat → Int32) → (Nat → Int32) → (Nat → Int32) → (Nat → Int32) → (Nat → Int32) → (Nat → Int32) → Int32 → Option (Nat × Int32 × (Nat → Int32) × (Nat → Int32) × (Nat → Int32) × (Nat → Int32) × (Nat → Int32) × (Nat → Int32) × (Nat → Int32) × (Nat → Int32) × (Nat → Int32) × (Nat → Int32) × (Nat → Int32) × (Nat → Int32))
  | 0, _, _, _, _, _, _, _, _, _, _, _, _, _ => none
  | fu + 1, md, ms, mq, mi, stt, sht, swt, spt, sst, srt, sat, sdt, v1 =>
    if (100 : Int32) < v1 then
    some (0, 0, md, ms, mq, mi, stt, sht, swt, spt, sst, srt, sat, sdt)
    else
    if (mp 4) ≤ 0 then
    some (0, 0, md, ms, mq, mi, stt, sht, swt, spt, sst, srt, sat, sdt)
    else
    (f_X14_goOn md mp pd po pq pr ps pt pe pc ms mq mi stt sht swt spt sst srt sat sdt).bind fun r3 =>
    if (r3.2.2.2.2.2.1 3) ≤ (st 3) then
    f_X15_stepsUntilCopying_L11 mp pd po pq pr ps pt pe pc st fu r3.2.1 r3.2.2.1 r3.2.2.2.1 r3.2.2.2.2.1 r3.2.2.2.2.2.1 r3.2.2.2.2.2.2.1 r3.2.2.2.2.2.2.2.1 r3.2.2.2.2.2.2.2.2.1 r3.2.2.2.2.2.2.2.2.2.1 r3.2.2.2.2.2.2.2.2.2.2.1 r3.2.2.2.2.2.2.2.2.2.2.2.1 r3.2.2.2.2.2.2.2.2.2.2.2.2 (v1 + 1)
    else
    some (1, v1, r3.2.1, r3.2.2.1, r3.2.2.2.1, r3.2.2.2.2.1, r3.2.2.2.2.2.1, r3.2.2.2.2.2.2.1, r3.2.2.2.2.2.2.2.1, r3.2.2.2.2.2.2.2.2.1, r3.2.2.2.2.2.2.2.2.2.1, r3.2.2.2.2.2.2.2.2.2.2.1, r3.2.2.2.2.2.2.2.2.2.2.2.1, r3.2.2.2.2.2.2.2.2.2.2.2.2)
def f_X15_stepsUntilCopying (md : Nat → Int32) (mp : Nat → Int32) (pd : Nat → Int32) (po : Nat → Int32) (pq : Nat → Int32) (pr : Nat → Int32) (ps : Nat → Int32) (pt : Nat → Int32) (pe : Nat → Int32) (pc : Nat → Int32) (ms : Nat → Int32) (mq : Nat → Int32) (mi : Nat → Int32) (st : Nat → Int32) (sh : Nat → Int32) (sw : Nat → Int32) (sp : Nat → Int32) (ss : Nat → Int32) (sr : Nat → Int32) (sa : Nat → Int32) (sd : Nat → Int32) (stt : Nat → Int32) (sht : Nat → Int32) (swt : Nat → Int32) (spt : Nat → Int32) (sst : Nat → Int32) (srt : Nat → Int32) (sat : Nat → Int32) (sdt : Nat → Int32) : Option (Int32 × (Nat → Int32) × (Nat → Int32) × (Nat → Int32) × (Nat → Int32) × (Nat → Int32) × (Nat → Int32) × (Nat → Int32) × (Nat → Int32) × (Nat → Int32) × (Nat → Int32) × (Nat → Int32) × (Nat → Int32)) :=
  (f_X14_become st sh sw sp ss sr sa sd stt sht swt spt sst srt sat sdt).bind fun r5 =>
  (f_X15_stepsUntilCopying_L11 mp pd po pq pr ps pt pe pc st 101 (q_up md 0 (0 : Int32)) ms mq mi r5.1 r5.2.1 r5.2.2.1 r5.2.2.2.1 r5.2.2.2.2.1 r5.2.2.2.2.2.1 r5.2.2.2.2.2.2.1 r5.2.2.2.2.2.2.2 (1 : Int32)).bind fun r6 =>
  if r6.1 = 0 then
  some ((-1 : Int32), r6.2.2.1, r6.2.2.2.1, r6.2.2.2.2.1, r6.2.2.2.2.2.1, r6.2.2.2.2.2.2.1, r6.2.2.2.2.2.2.2.1, r6.2.2.2.2.2.2.2.2.1, r6.2.2.2.2.2.2.2.2.2.1, r6.2.2.2.2.2.2.2.2.2.2.1, r6.2.2.2.2.2.2.2.2.2.2.2.1, r6.2.2.2.2.2.2.2.2.2.2.2.2.1, r6.2.2.2.2.2.2.2.2.2.2.2.2.2)
  else
  some (r6.2.1, r6.2.2.1, r6.2.2.2.1, r6.2.2.2.2.1, r6.2.2.2.2.2.1, r6.2.2.2.2.2.2.1, r6.2.2.2.2.2.2.2.1, r6.2.2.2.2.2.2.2.2.1, r6.2.2.2.2.2.2.2.2.2.1, r6.2.2.2.2.2.2.2.2.2.2.1, r6.2.2.2.2.2.2.2.2.2.2.2.1, r6.2.2.2.2.2.2.2.2.2.2.2.2.1, r6.2.2.2.2.2.2.2.2.2.2.2.2.2)
def f_X15_usedAfter (md : Nat → Int32) (mp : Nat → Int32) (pd : Nat → Int32) (po : Nat → Int32) (pq : Nat → Int32) (pr : Nat → Int32) (ps : Nat → Int32) (pt : Nat → Int32) (pe : Nat → Int32) (pc : Nat → Int32) (ms : Nat → Int32) (mq : Nat → Int32) (mi : Nat → Int32) (st : Nat → Int32) (sh : Nat → Int32) (sw : Nat → Int32) (sp : Nat → Int32) (ss : Nat → Int32) (sr : Nat → Int32) (sa : Nat → Int32) (sd : Nat → Int32) (stt : Nat → Int32) (sht : Nat → Int32) (swt : Nat → Int32) (spt : Nat → Int32) (sst : Nat → Int32) (srt : Nat → Int32) (sat : Nat → Int32) (sdt : Nat → Int32) (x1 : Int32) : Option (Int32 × (Nat → Int32) × (Nat → Int32) × (Nat → Int32) × (Nat → Int32) × (Nat → Int32) × (Nat → Int32) × (Nat → Int32) × (Nat → Int32) × (Nat → Int32) × (Nat → Int32) × (Nat → Int32) × (Nat → Int32)) :=
  (f_X15_isIn x1 (1 : Int32) (100 : Int32)).bind fun r1 =>
  if ¬ (q_bz r1) = 0 then
  if ¬ (mp 4) = 0 then
  (f_X14_become st sh sw sp ss sr sa sd stt sht swt spt sst srt sat sdt).bind fun r4 =>
  (f_X14_goOn_ (q_up md 0 (0 : Int32)) mp pd po pq pr ps pt pe pc ms mq mi r4.1 r4.2.1 r4.2.2.1 r4.2.2.2.1 r4.2.2.2.2.1 r4.2.2.2.2.2.1 r4.2.2.2.2.2.2.1 r4.2.2.2.2.2.2.2 x1).bind fun r5 =>
  (f_X14_used r5.2.2.2.2.2.2.2.1 r5.2.2.2.2.2.2.2.2.2.1 (1 : Int32)).bind fun r6 =>
  some (r6, r5.2.1, r5.2.2.1, r5.2.2.2.1, r5.2.2.2.2.1, r5.2.2.2.2.2.1, r5.2.2.2.2.2.2.1, r5.2.2.2.2.2.2.2.1, r5.2.2.2.2.2.2.2.2.1, r5.2.2.2.2.2.2.2.2.2.1, r5.2.2.2.2.2.2.2.2.2.2.1, r5.2.2.2.2.2.2.2.2.2.2.2.1, r5.2.2.2.2.2.2.2.2.2.2.2.2)
  else
  (f_X15_no (q_up md 0 (0 : Int32)) (2 : Int32)).bind fun r7 =>
  some (r7.1, r7.2, ms, mq, mi, stt, sht, swt, spt, sst, srt, sat, sdt)
  else
  (f_X15_no (q_up md 0 (0 : Int32)) (1 : Int32)).bind fun r8 =>
  some (r8.1, r8.2, ms, mq, mi, stt, sht, swt, spt, sst, srt, sat, sdt)
def f_X15_usedIfCopied (md : Nat → Int32) (mp : Nat → Int32) (mq : Nat → Int32) (mi : Nat → Int32) (st : Nat → Int32) (sh : Nat → Int32) (sw : Nat → Int32) (sp : Nat → Int32) (ss : Nat → Int32) (sr : Nat → Int32) (sa : Nat → Int32) (sd : Nat → Int32) (stt : Nat → Int32) (sht : Nat → Int32) (swt : Nat → Int32) (spt : Nat → Int32) (sst : Nat → Int32) (srt : Nat → Int32) (sat : Nat → Int32) (sdt : Nat → Int32) : Option (Int32 × (Nat → Int32) × (Nat → Int32) × (Nat → Int32) × (Nat → Int32) × (Nat → Int32) × (Nat → Int32) × (Nat → Int32) × (Nat → Int32) × (Nat → Int32) × (Nat → Int32) × (Nat → Int32)) :=
  (f_X14_become st sh sw sp ss sr sa sd stt sht swt spt sst srt sat sdt).bind fun r1 =>
  (f_X14_copyAll (q_up md 0 (0 : Int32)) mp mq mi r1.1 r1.2.1 r1.2.2.1 r1.2.2.2.1 r1.2.2.2.2.1 r1.2.2.2.2.2.1 r1.2.2.2.2.2.2.1 r1.2.2.2.2.2.2.2).bind fun r2 =>
  (f_X14_used r2.2.2.2.2.2.1 r1.2.2.2.2.1 (1 : Int32)).bind fun r3 =>
  some (r3, r2.2.1, r2.2.2.1, r2.2.2.2.1, r2.2.2.2.2.1, r1.2.1, r2.2.2.2.2.2.1, r2.2.2.2.2.2.2.1, r1.2.2.2.2.1, r1.2.2.2.2.2.1, r2.2.2.2.2.2.2.2, r1.2.2.2.2.2.2.2)
def f_X15_code (sw : Nat → Int32) (sp : Nat → Int32) (x1 : Int32) : Option (Int32) :=
  if ¬ x1 = (-1 : Int32) then
  (q_ix x1 136).bind fun j2 =>
  (q_ix x1 136).bind fun j3 =>
  if ¬ (sw j3) = (2 : Int32) then
  some ((((sp j2) + (1 : Int32)) + (0 : Int32)))
  else
  some ((((sp j2) + (1 : Int32)) + (100 : Int32)))
  else
  some ((0 : Int32))
def f_X15_digestOf_L60 (sw : Nat → Int32) (sp : Nat → Int32) (sr : Nat → Int32) (sd : Nat → Int32) (v8 : Int32) : Nat → Int64 → Int32 → Option (Int64)
  | 0, _, _ => none
  | fu + 1, v5, v9 =>
    (q_ix v8 136).bind fun j1 =>
    if (sr j1) ≤ v9 then
    some (v5)
    else
    (q_ix (((3 : Int32) * v8) + v9) 408).bind fun j3 =>
    (f_X15_code sw sp (sd j3)).bind fun r4 =>
    f_X15_digestOf_L60 sw sp sr sd v8 fu ((v5 * (31 : Int64)) + r4.toInt64) (v9 + 1)
def f_X15_digestOf_L4 (sw : Nat → Int32) (sp : Nat → Int32) (ss : Nat → Int32) (sr : Nat → Int32) (sa : Nat → Int32) (sd : Nat → Int32) (v3 : Int32) (v4 : Int32) : Nat → Int64 → Int32 → Option (Int64)
  | 0, _, _ => none
  | fu + 1, v5, v7 =>
    if v4 ≤ v7 then
    some (v5)
    else
    (f_X14_at sw sp ss v3 v7).bind fun r6 =>
    if r6 = (-1 : Int32) then
    f_X15_digestOf_L4 sw sp ss sr sa sd v3 v4 fu v5 (v7 + 1)
    else
    (q_ix r6 136).bind fun j8 =>
    if (sp j8) = v7 then
    (q_ix r6 136).bind fun j10 =>
    (q_ix r6 136).bind fun j11 =>
    (q_ix r6 136).bind fun j12 =>
    (f_X15_digestOf_L60 sw sp sr sd r6 4096 ((((((((v5 * (31 : Int64)) + v7.toInt64) * (31 : Int64)) + ((ss j10).toInt64)) * (31 : Int64)) + ((sa j11).toInt64)) * (31 : Int64)) + ((sr j12).toInt64)) (0 : Int32)).bind fun r13 =>
    f_X15_digestOf_L4 sw sp ss sr sa sd v3 v4 fu r13 (v7 + 1)
    else
    f_X15_digestOf_L4 sw sp ss sr sa sd v3 v4 fu v5 (v7 + 1)
def f_X15_digestOf (sw : Nat → Int32) (sp : Nat → Int32) (ss : Nat → Int32) (sr : Nat → Int32) (sa : Nat → Int32) (sd : Nat → Int32) (x1 : Int64) (x2 : Int32) (x3 : Int32) : Option (Int64) :=
  (f_X15_digestOf_L4 sw sp ss sr sa sd x2 x3 4096 x1 (0 : Int32)).bind fun r14 =>
  some (r14)
def f_X15_digest_L108 (ol : Nat → Int32) (v5 : Int32) : Nat → Int64 → Int32 → Option (Int64)
  | 0, _, _ => none
  | fu + 1, v2, v6 =>
    if v5 ≤ v6 then
    some (v2)
    else
    (q_ix v6 15).bind fun j2 =>
    f_X15_digest_L108 ol v5 fu ((v2 * (31 : Int64)) + ((ol j2).toInt64)) (v6 + 1)
def f_X15_digest_L142 (mp : Nat → Int32) (sh : Nat → Int32) (sw : Nat → Int32) (sp : Nat → Int32) : Nat → Int64 → Int32 → Option (Int64)
  | 0, _, _ => none
  | fu + 1, v2, v4 =>
    if (mp 0) ≤ v4 then
    some (v2)
    else
    (q_ix v4 6).bind fun j4 =>
    (f_X15_code sw sp (sh j4)).bind fun r5 =>
    f_X15_digest_L142 mp sh sw sp fu ((v2 * (31 : Int64)) + r5.toInt64) (v4 + 1)
def f_X15_digest (md : Nat → Int32) (mp : Nat → Int32) (mq : Nat → Int32) (mi : Nat → Int32) (st : Nat → Int32) (sh : Nat → Int32) (sw : Nat → Int32) (sp : Nat → Int32) (ss : Nat → Int32) (sr : Nat → Int32) (sa : Nat → Int32) (sd : Nat → Int32) : Option (Int64 × (Nat → Int32) × (Nat → Int32) × (Nat → Int32)) :=
  (q_ix (0 : Int32) 15).bind fun j6 =>
  (q_ix (1 : Int32) 15).bind fun j7 =>
  (q_ix (2 : Int32) 15).bind fun j8 =>
  (q_ix (3 : Int32) 15).bind fun j9 =>
  (q_ix (4 : Int32) 15).bind fun j10 =>
  (q_ix (5 : Int32) 15).bind fun j11 =>
  (f_X14_used sw ss (1 : Int32)).bind fun r12 =>
  (q_ix (6 : Int32) 15).bind fun j13 =>
  (f_X14_used sw ss (2 : Int32)).bind fun r14 =>
  (q_ix (7 : Int32) 15).bind fun j15 =>
  (f_X14_longestGap mp sw sp ss).bind fun r16 =>
  (q_ix (8 : Int32) 15).bind fun j17 =>
  (f_X14_bales_ sw).bind fun r18 =>
  (q_ix (9 : Int32) 15).bind fun j19 =>
  (f_X14_bales sw (2 : Int32)).bind fun r20 =>
  (q_ix (10 : Int32) 15).bind fun j21 =>
  (f_X14_useless (q_up md 0 (0 : Int32)) mp mq mi sh sw sr sd).bind fun r22 =>
  (q_ix (11 : Int32) 15).bind fun j23 =>
  (q_ix (12 : Int32) 15).bind fun j24 =>
  (q_ix (13 : Int32) 15).bind fun j25 =>
  (q_ix (14 : Int32) 15).bind fun j26 =>
  (f_X15_digest_L108 (q_up (q_up (q_up (q_up (q_up (q_up (q_up (q_up (q_up (q_up (q_up (q_up (q_up (q_up (q_up (fun _ => 0) j6 (mp 0)) j7 (mp 4)) j8 (mp 1)) j9 (st 0)) j10 (st 1)) j11 (st 2)) j13 r12) j15 r14) j17 r16) j19 r18) j21 r20) j23 r22.1) j24 (st 3)) j25 (st 4)) j26 (st 5)) (nI 15) 4096 (971 : Int64) (0 : Int32)).bind fun r27 =>
  (f_X15_digestOf sw sp ss sr sa sd r27 (1 : Int32) (mp 1)).bind fun r28 =>
  (f_X15_digestOf sw sp ss sr sa sd r28 (2 : Int32) (mp 2)).bind fun r29 =>
  (f_X15_digest_L142 mp sh sw sp 4096 r29 (0 : Int32)).bind fun r30 =>
  some (r30, r22.2.1, r22.2.2.1, r22.2.2.2)
def f_X14_begin_L32 : Nat → (Nat → Int32) → Int32 → Option ((Nat → Int32))
  | 0, _, _ => none
  | fu + 1, sw, v1 =>
    if (136 : Int32) ≤ v1 then
    some (sw)
    else
    (q_ix v1 136).bind fun j2 =>
    f_X14_begin_L32 fu (q_up sw j2 (0 : Int32)) (v1 + 1)
def f_X14_begin_L20 : Nat → (Nat → Int32) → Int32 → Option ((Nat → Int32))
  | 0, _, _ => none
  | fu + 1, sh, v1 =>
    if (6 : Int32) ≤ v1 then
    some (sh)
    else
    (q_ix v1 6).bind fun j4 =>
    f_X14_begin_L20 fu (q_up sh j4 (-1 : Int32)) (v1 + 1)
def f_X14_begin (st : Nat → Int32) (sh : Nat → Int32) (sw : Nat → Int32) : Option ((Nat → Int32) × (Nat → Int32) × (Nat → Int32)) :=
  (f_X14_begin_L20 4096 sh (0 : Int32)).bind fun r5 =>
  (f_X14_begin_L32 4096 sw (0 : Int32)).bind fun r6 =>
  some ((q_up (q_up (q_up (q_up (q_up (q_up st 0 (0 : Int32)) 1 (0 : Int32)) 2 (0 : Int32)) 3 (0 : Int32)) 4 (0 : Int32)) 5 (0 : Int32)), r5, r6)
def f_X15_byteOf (md : Nat → Int32) (mt : Nat → Int32) (x1 : Int32) : Option (Int32) :=
  if (md 2) ≤ x1 then
  some ((-1 : Int32))
  else
  (q_ix x1 2000).bind fun j2 =>
  some ((mt j2))
def f_X15_isLetter (x0 : Int32) : Option (Bool) :=
  if x0 < (97 : Int32) then
  some (false)
  else
  if (122 : Int32) < x0 then
  some (false)
  else
  some (true)
def f_X15_isDigit (x0 : Int32) : Option (Bool) :=
  if x0 < (48 : Int32) then
  some (false)
  else
  if (57 : Int32) < x0 then
  some (false)
  else
  some (true)
def f_X15_word_L18 (mt : Nat → Int32) (v1 : Int32) (v2 : Int32) (v3 : Int32) : Nat → Bool → Int32 → Option (Bool)
  | 0, _, _ => none
  | fu + 1, v4, v5 =>
    if (q_bz v4) = 0 then
    some (v4)
    else
    if v2 ≤ v5 then
    some (v4)
    else
    (q_ix v3 29).bind fun j3 =>
    (q_ix v5 (q_str (150 + j3)).length).bind fun j4 =>
    (q_ix (v1 + v5) 2000).bind fun j5 =>
    if ¬ ((q_str (150 + j3)).getD j4 0) = (mt j5) then
    f_X15_word_L18 mt v1 v2 v3 fu false (v5 + 1)
    else
    f_X15_word_L18 mt v1 v2 v3 fu true (v5 + 1)
def f_X15_word_L2 (mt : Nat → Int32) (v1 : Int32) (v2 : Int32) : Nat → Int32 → Option (Nat × Int32)
  | 0, _ => none
  | fu + 1, v3 =>
    if (nI 29) ≤ v3 then
    some (0, 0)
    else
    (q_ix v3 29).bind fun j8 =>
    if ¬ (nI (q_str (150 + j8)).length) = v2 then
    (f_X15_word_L18 mt v1 v2 v3 4096 false (0 : Int32)).bind fun r10 =>
    if (q_bz r10) = 0 then
    f_X15_word_L2 mt v1 v2 fu (v3 + 1)
    else
    some (1, v3)
    else
    (f_X15_word_L18 mt v1 v2 v3 4096 true (0 : Int32)).bind fun r12 =>
    if (q_bz r12) = 0 then
    f_X15_word_L2 mt v1 v2 fu (v3 + 1)
    else
    some (1, v3)
def f_X15_word (mt : Nat → Int32) (x1 : Int32) (x2 : Int32) : Option (Int32) :=
  (f_X15_word_L2 mt x1 x2 4096 (0 : Int32)).bind fun r14 =>
  if r14.1 = 0 then
  some ((40 : Int32))
  else
  some (r14.2)
def f_X15_kindAt_L19 (md : Nat → Int32) (mt : Nat → Int32) (v3 : Int32) : Nat → Int32 → Option (Int32)
  | 0, _ => none
  | fu + 1, v4 =>
    (f_X15_byteOf md mt v4).bind fun r1 =>
    (f_X15_isDigit r1).bind fun r2 =>
    if ¬ (q_bz r2) = 0 then
    f_X15_kindAt_L19 md mt v3 fu (v4 + 1)
    else
    (f_X15_isLetter v3).bind fun r4 =>
    if (q_bz r4) = 0 then
    some (v4)
    else
    (f_X15_byteOf md mt v4).bind fun r6 =>
    (f_X15_isLetter r6).bind fun r7 =>
    if (q_bz r7) = 0 then
    some (v4)
    else
    f_X15_kindAt_L19 md mt v3 fu (v4 + 1)
def f_X15_kindAt (md : Nat → Int32) (mt : Nat → Int32) (mm : Nat → Int32) (x1 : Int32) (x2 : Int32) : Option (Int32 × (Nat → Int32)) :=
  (f_X15_byteOf md mt x1).bind fun r9 =>
  if ¬ r9 = (-1 : Int32) then
  (f_X15_isLetter r9).bind fun r11 =>
  if ¬ (q_bz r11) = 0 then
  (f_X15_kindAt_L19 md mt r9 4096 (x1 + (1 : Int32))).bind fun r13 =>
  (q_ix x2 401).bind fun j14 =>
  (f_X15_isLetter r9).bind fun r15 =>
  if (q_bz r15) = 0 then
  if (r13 - x1) ≤ (6 : Int32) then
  (f_X15_isLetter r9).bind fun r18 =>
  if (q_bz r18) = 0 then
  some ((41 : Int32), (q_up mm j14 (r13 - x1)))
  else
  (f_X15_word mt x1 (r13 - x1)).bind fun r20 =>
  some (r20, (q_up mm j14 (r13 - x1)))
  else
  some ((901 : Int32), (q_up mm j14 (r13 - x1)))
  else
  if (r13 - x1) ≤ (10 : Int32) then
  (f_X15_isLetter r9).bind fun r22 =>
  if (q_bz r22) = 0 then
  some ((41 : Int32), (q_up mm j14 (r13 - x1)))
  else
  (f_X15_word mt x1 (r13 - x1)).bind fun r24 =>
  some (r24, (q_up mm j14 (r13 - x1)))
  else
  some ((901 : Int32), (q_up mm j14 (r13 - x1)))
  else
  (f_X15_isDigit r9).bind fun r25 =>
  if (q_bz r25) = 0 then
  if r9 = (60 : Int32) then
  (f_X15_byteOf md mt (x1 + (1 : Int32))).bind fun r28 =>
  if ¬ r28 = (61 : Int32) then
  if (0 : Int32) = 0 then
  (q_ix x2 401).bind fun j31 =>
  if (0 : Int32) = 0 then
  if r9 ≤ 0 then
  some ((901 : Int32), (q_up mm j31 (1 : Int32)))
  else
  if (128 : Int32) ≤ r9 then
  some ((901 : Int32), (q_up mm j31 (1 : Int32)))
  else
  if (q_sidx (q_str 180) 0 ((r9.toUInt32 % 65536).toInt32)) < 0 then
  some ((901 : Int32), (q_up mm j31 (1 : Int32)))
  else
  some (((50 : Int32) + r9), (q_up mm j31 (1 : Int32)))
  else
  if ¬ r9 = (60 : Int32) then
  some ((301 : Int32), (q_up mm j31 (1 : Int32)))
  else
  some ((300 : Int32), (q_up mm j31 (1 : Int32)))
  else
  (q_ix x2 401).bind fun j37 =>
  if (0 : Int32) = 0 then
  if r9 ≤ 0 then
  some ((901 : Int32), (q_up mm j37 (2 : Int32)))
  else
  if (128 : Int32) ≤ r9 then
  some ((901 : Int32), (q_up mm j37 (2 : Int32)))
  else
  if (q_sidx (q_str 180) 0 ((r9.toUInt32 % 65536).toInt32)) < 0 then
  some ((901 : Int32), (q_up mm j37 (2 : Int32)))
  else
  some (((50 : Int32) + r9), (q_up mm j37 (2 : Int32)))
  else
  if ¬ r9 = (60 : Int32) then
  some ((301 : Int32), (q_up mm j37 (2 : Int32)))
  else
  some ((300 : Int32), (q_up mm j37 (2 : Int32)))
  else
  if (1 : Int32) = 0 then
  (q_ix x2 401).bind fun j44 =>
  if (1 : Int32) = 0 then
  if r9 ≤ 0 then
  some ((901 : Int32), (q_up mm j44 (1 : Int32)))
  else
  if (128 : Int32) ≤ r9 then
  some ((901 : Int32), (q_up mm j44 (1 : Int32)))
  else
  if (q_sidx (q_str 180) 0 ((r9.toUInt32 % 65536).toInt32)) < 0 then
  some ((901 : Int32), (q_up mm j44 (1 : Int32)))
  else
  some (((50 : Int32) + r9), (q_up mm j44 (1 : Int32)))
  else
  if ¬ r9 = (60 : Int32) then
  some ((301 : Int32), (q_up mm j44 (1 : Int32)))
  else
  some ((300 : Int32), (q_up mm j44 (1 : Int32)))
  else
  (q_ix x2 401).bind fun j50 =>
  if (1 : Int32) = 0 then
  if r9 ≤ 0 then
  some ((901 : Int32), (q_up mm j50 (2 : Int32)))
  else
  if (128 : Int32) ≤ r9 then
  some ((901 : Int32), (q_up mm j50 (2 : Int32)))
  else
  if (q_sidx (q_str 180) 0 ((r9.toUInt32 % 65536).toInt32)) < 0 then
  some ((901 : Int32), (q_up mm j50 (2 : Int32)))
  else
  some (((50 : Int32) + r9), (q_up mm j50 (2 : Int32)))
  else
  if ¬ r9 = (60 : Int32) then
  some ((301 : Int32), (q_up mm j50 (2 : Int32)))
  else
  some ((300 : Int32), (q_up mm j50 (2 : Int32)))
  else
  if ¬ r9 = (62 : Int32) then
  if (0 : Int32) = 0 then
  (q_ix x2 401).bind fun j58 =>
  if (0 : Int32) = 0 then
  if r9 ≤ 0 then
  some ((901 : Int32), (q_up mm j58 (1 : Int32)))
  else
  if (128 : Int32) ≤ r9 then
  some ((901 : Int32), (q_up mm j58 (1 : Int32)))
  else
  if (q_sidx (q_str 180) 0 ((r9.toUInt32 % 65536).toInt32)) < 0 then
  some ((901 : Int32), (q_up mm j58 (1 : Int32)))
  else
  some (((50 : Int32) + r9), (q_up mm j58 (1 : Int32)))
  else
  if ¬ r9 = (60 : Int32) then
  some ((301 : Int32), (q_up mm j58 (1 : Int32)))
  else
  some ((300 : Int32), (q_up mm j58 (1 : Int32)))
  else
  (q_ix x2 401).bind fun j64 =>
  if (0 : Int32) = 0 then
  if r9 ≤ 0 then
  some ((901 : Int32), (q_up mm j64 (2 : Int32)))
  else
  if (128 : Int32) ≤ r9 then
  some ((901 : Int32), (q_up mm j64 (2 : Int32)))
  else
  if (q_sidx (q_str 180) 0 ((r9.toUInt32 % 65536).toInt32)) < 0 then
  some ((901 : Int32), (q_up mm j64 (2 : Int32)))
  else
  some (((50 : Int32) + r9), (q_up mm j64 (2 : Int32)))
  else
  if ¬ r9 = (60 : Int32) then
  some ((301 : Int32), (q_up mm j64 (2 : Int32)))
  else
  some ((300 : Int32), (q_up mm j64 (2 : Int32)))
  else
  (f_X15_byteOf md mt (x1 + (1 : Int32))).bind fun r70 =>
  if ¬ r70 = (61 : Int32) then
  if (0 : Int32) = 0 then
  (q_ix x2 401).bind fun j73 =>
  if (0 : Int32) = 0 then
  if r9 ≤ 0 then
  some ((901 : Int32), (q_up mm j73 (1 : Int32)))
  else
  if (128 : Int32) ≤ r9 then
  some ((901 : Int32), (q_up mm j73 (1 : Int32)))
  else
  if (q_sidx (q_str 180) 0 ((r9.toUInt32 % 65536).toInt32)) < 0 then
  some ((901 : Int32), (q_up mm j73 (1 : Int32)))
  else
  some (((50 : Int32) + r9), (q_up mm j73 (1 : Int32)))
  else
  if ¬ r9 = (60 : Int32) then
  some ((301 : Int32), (q_up mm j73 (1 : Int32)))
  else
  some ((300 : Int32), (q_up mm j73 (1 : Int32)))
  else
  (q_ix x2 401).bind fun j79 =>
  if (0 : Int32) = 0 then
  if r9 ≤ 0 then
  some ((901 : Int32), (q_up mm j79 (2 : Int32)))
  else
  if (128 : Int32) ≤ r9 then
  some ((901 : Int32), (q_up mm j79 (2 : Int32)))
  else
  if (q_sidx (q_str 180) 0 ((r9.toUInt32 % 65536).toInt32)) < 0 then
  some ((901 : Int32), (q_up mm j79 (2 : Int32)))
  else
  some (((50 : Int32) + r9), (q_up mm j79 (2 : Int32)))
  else
  if ¬ r9 = (60 : Int32) then
  some ((301 : Int32), (q_up mm j79 (2 : Int32)))
  else
  some ((300 : Int32), (q_up mm j79 (2 : Int32)))
  else
  if (1 : Int32) = 0 then
  (q_ix x2 401).bind fun j86 =>
  if (1 : Int32) = 0 then
  if r9 ≤ 0 then
  some ((901 : Int32), (q_up mm j86 (1 : Int32)))
  else
  if (128 : Int32) ≤ r9 then
  some ((901 : Int32), (q_up mm j86 (1 : Int32)))
  else
  if (q_sidx (q_str 180) 0 ((r9.toUInt32 % 65536).toInt32)) < 0 then
  some ((901 : Int32), (q_up mm j86 (1 : Int32)))
  else
  some (((50 : Int32) + r9), (q_up mm j86 (1 : Int32)))
  else
  if ¬ r9 = (60 : Int32) then
  some ((301 : Int32), (q_up mm j86 (1 : Int32)))
  else
  some ((300 : Int32), (q_up mm j86 (1 : Int32)))
  else
  (q_ix x2 401).bind fun j92 =>
  if (1 : Int32) = 0 then
  if r9 ≤ 0 then
  some ((901 : Int32), (q_up mm j92 (2 : Int32)))
  else
  if (128 : Int32) ≤ r9 then
  some ((901 : Int32), (q_up mm j92 (2 : Int32)))
  else
  if (q_sidx (q_str 180) 0 ((r9.toUInt32 % 65536).toInt32)) < 0 then
  some ((901 : Int32), (q_up mm j92 (2 : Int32)))
  else
  some (((50 : Int32) + r9), (q_up mm j92 (2 : Int32)))
  else
  if ¬ r9 = (60 : Int32) then
  some ((301 : Int32), (q_up mm j92 (2 : Int32)))
  else
  some ((300 : Int32), (q_up mm j92 (2 : Int32)))
  else
  (f_X15_kindAt_L19 md mt r9 4096 (x1 + (1 : Int32))).bind fun r98 =>
  (q_ix x2 401).bind fun j99 =>
  (f_X15_isLetter r9).bind fun r100 =>
  if (q_bz r100) = 0 then
  if (r98 - x1) ≤ (6 : Int32) then
  (f_X15_isLetter r9).bind fun r103 =>
  if (q_bz r103) = 0 then
  some ((41 : Int32), (q_up mm j99 (r98 - x1)))
  else
  (f_X15_word mt x1 (r98 - x1)).bind fun r105 =>
  some (r105, (q_up mm j99 (r98 - x1)))
  else
  some ((901 : Int32), (q_up mm j99 (r98 - x1)))
  else
  if (r98 - x1) ≤ (10 : Int32) then
  (f_X15_isLetter r9).bind fun r107 =>
  if (q_bz r107) = 0 then
  some ((41 : Int32), (q_up mm j99 (r98 - x1)))
  else
  (f_X15_word mt x1 (r98 - x1)).bind fun r109 =>
  some (r109, (q_up mm j99 (r98 - x1)))
  else
  some ((901 : Int32), (q_up mm j99 (r98 - x1)))
  else
  some ((900 : Int32), mm)
def f_X15_cut_L7 (md : Nat → Int32) (mt : Nat → Int32) : Nat → Int32 → Option (Int32)
  | 0, _ => none
  | fu + 1, v1 =>
    (f_X15_byteOf md mt v1).bind fun r1 =>
    if r1 = (32 : Int32) then
    f_X15_cut_L7 md mt fu (v1 + 1)
    else
    (f_X15_byteOf md mt v1).bind fun r3 =>
    if ¬ r3 = (10 : Int32) then
    some (v1)
    else
    f_X15_cut_L7 md mt fu (v1 + 1)
def f_X15_cut_L4 (md : Nat → Int32) (mt : Nat → Int32) : Nat → (Nat → Int32) → (Nat → Int32) → (Nat → Int32) → (Nat → Int32) → (Nat → Int32) → Int32 → Int32 → Option (Nat × (Nat → Int32) × (Nat → Int32) × (Nat → Int32) × (Nat → Int32) × (Nat → Int32))
  | 0, _, _, _, _, _, _, _ => none
  | fu + 1, kn, mf, mm, mr, me, v1, v2 =>
    if (400 : Int32) < v2 then
    some (0, kn, mf, mm, mr, me)
    else
    (f_X15_cut_L7 md mt 4096 v1).bind fun r6 =>
    (q_ix v2 401).bind fun j7 =>
    (q_ix v2 401).bind fun j8 =>
    (q_ix v2 401).bind fun j9 =>
    (f_X15_kindAt md mt mm r6 v2).bind fun r10 =>
    (q_ix v2 401).bind fun j11 =>
    if ¬ v2 = (400 : Int32) then
    (q_ix v2 401).bind fun j13 =>
    if ((q_up kn j11 r10.1) j13) < (900 : Int32) then
    (q_ix v2 401).bind fun j15 =>
    f_X15_cut_L4 md mt fu (q_up kn j11 r10.1) (q_up mf j7 r6) r10.2 (q_up mr j8 (0 : Int32)) (q_up me j9 (0 : Int32)) (r6 + (r10.2 j15)) (v2 + 1)
    else
    some (1, (q_up kn j11 r10.1), (q_up mf j7 r6), r10.2, (q_up mr j8 (0 : Int32)), (q_up me j9 (0 : Int32)))
    else
    (q_ix v2 401).bind fun j16 =>
    if ((q_up kn j11 r10.1) j16) = (900 : Int32) then
    (q_ix v2 401).bind fun j18 =>
    if ((q_up kn j11 r10.1) j18) < (900 : Int32) then
    (q_ix v2 401).bind fun j20 =>
    f_X15_cut_L4 md mt fu (q_up kn j11 r10.1) (q_up mf j7 r6) r10.2 (q_up mr j8 (0 : Int32)) (q_up me j9 (0 : Int32)) (r6 + (r10.2 j20)) (v2 + 1)
    else
    some (1, (q_up kn j11 r10.1), (q_up mf j7 r6), r10.2, (q_up mr j8 (0 : Int32)), (q_up me j9 (0 : Int32)))
    else
    (q_ix v2 401).bind fun j21 =>
    (q_ix v2 401).bind fun j22 =>
    if ((q_up (q_up kn j11 r10.1) j21 (901 : Int32)) j22) < (900 : Int32) then
    (q_ix v2 401).bind fun j24 =>
    f_X15_cut_L4 md mt fu (q_up (q_up kn j11 r10.1) j21 (901 : Int32)) (q_up mf j7 r6) r10.2 (q_up mr j8 (0 : Int32)) (q_up me j9 (0 : Int32)) (r6 + (r10.2 j24)) (v2 + 1)
    else
    some (1, (q_up (q_up kn j11 r10.1) j21 (901 : Int32)), (q_up mf j7 r6), r10.2, (q_up mr j8 (0 : Int32)), (q_up me j9 (0 : Int32)))
def f_X15_cut (md : Nat → Int32) (mt : Nat → Int32) (kn : Nat → Int32) (mf : Nat → Int32) (mm : Nat → Int32) (mr : Nat → Int32) (me : Nat → Int32) : Option ((Nat → Int32) × (Nat → Int32) × (Nat → Int32) × (Nat → Int32) × (Nat → Int32)) :=
  (f_X15_cut_L4 md mt 4096 kn mf mm mr me (0 : Int32) (0 : Int32)).bind fun r25 =>
  if r25.1 = 0 then
  some (r25.2.1, r25.2.2.1, r25.2.2.2.1, r25.2.2.2.2.1, r25.2.2.2.2.2)
  else
  some (r25.2.1, r25.2.2.1, r25.2.2.2.1, r25.2.2.2.2.1, r25.2.2.2.2.2)
def f_X15_is (md : Nat → Int32) (kn : Nat → Int32) (x1 : Int32) : Option (Bool) :=
  (q_ix (md 9) 401).bind fun j1 =>
  if ¬ (kn j1) = x1 then
  some (false)
  else
  some (true)
def f_X15_isSign (md : Nat → Int32) (kn : Nat → Int32) (x1 : Int32) : Option (Bool) :=
  (q_ix (md 9) 401).bind fun j1 =>
  if ¬ (kn j1) = ((50 : Int32) + x1) then
  some (false)
  else
  some (true)
def f_X15_isDeeper (md : Nat → Int32) : Option (Bool × (Nat → Int32)) :=
  if ¬ (md 10) = (8 : Int32) then
  some (true, (q_up (q_up md 10 ((md 10) + (1 : Int32))) 9 (((q_up md 10 ((md 10) + (1 : Int32))) 9) + (1 : Int32))))
  else
  some (false, md)
def f_X15_eat (md : Nat → Int32) (kn : Nat → Int32) (x1 : Int32) : Option (Bool × (Nat → Int32)) :=
  (f_X15_is md kn x1).bind fun r1 =>
  if ¬ (q_bz r1) = 0 then
  some (true, (q_up md 9 ((md 9) + (1 : Int32))))
  else
  some (false, md)
def f_X15_eatSign (md : Nat → Int32) (kn : Nat → Int32) (x1 : Int32) : Option (Bool × (Nat → Int32)) :=
  (f_X15_eat md kn ((50 : Int32) + x1)).bind fun r1 =>
  some (r1.1, r1.2)
def f_X15_put (mp : Nat → Int32) (pc : Nat → Int32) (x1 : Int32) : Option ((Nat → Int32) × (Nat → Int32)) :=
  (q_ix (mp 14) 800).bind fun j1 =>
  some ((q_up mp 14 ((mp 14) + (1 : Int32))), (q_up pc j1 x1))
def f_X15_isInside (r_isSum : (Nat → Int32) → (Nat → Int32) → (Nat → Int32) → (Nat → Int32) → (Nat → Int32) → (Nat → Int32) → (Nat → Int32) → (Nat → Int32) → (Nat → Int32) → Option (Bool × (Nat → Int32) × (Nat → Int32) × (Nat → Int32) × (Nat → Int32) × (Nat → Int32))) (md : Nat → Int32) (mt : Nat → Int32) (kn : Nat → Int32) (mf : Nat → Int32) (mm : Nat → Int32) (mr : Nat → Int32) (mp : Nat → Int32) (pc : Nat → Int32) (pw : Nat → Int32) (x1 : Int32) (x2 : Bool) : Option (Bool × (Nat → Int32) × (Nat → Int32) × (Nat → Int32) × (Nat → Int32) × (Nat → Int32)) :=
  (f_X15_isSign md kn (40 : Int32)).bind fun r1 =>
  if (q_bz r1) = 0 then
  some (false, md, mr, mp, pc, pw)
  else
  (f_X15_isDeeper md).bind fun r3 =>
  if (q_bz r3.1) = 0 then
  some (false, r3.2, mr, mp, pc, pw)
  else
  (r_isSum r3.2 mt kn mf mm mr mp pc pw).bind fun r5 =>
  if (q_bz r5.1) = 0 then
  some (false, r5.2.1, r5.2.2.1, r5.2.2.2.1, r5.2.2.2.2.1, r5.2.2.2.2.2)
  else
  if (q_bz x2) = 0 then
  if (q_bz x2) = 0 then
  (f_X15_eatSign (q_up r5.2.1 10 ((r5.2.1 10) - (1 : Int32))) kn (41 : Int32)).bind fun r9 =>
  some (r9.1, r9.2, r5.2.2.1, r5.2.2.2.1, r5.2.2.2.2.1, r5.2.2.2.2.2)
  else
  (f_X15_put r5.2.2.2.1 r5.2.2.2.2.1 x1).bind fun r10 =>
  (f_X15_eatSign (q_up r5.2.1 10 ((r5.2.1 10) - (1 : Int32))) kn (41 : Int32)).bind fun r11 =>
  some (r11.1, r11.2, r5.2.2.1, r10.1, r10.2, r5.2.2.2.2.2)
  else
  (f_X15_eatSign r5.2.1 kn (44 : Int32)).bind fun r12 =>
  if (q_bz r12.1) = 0 then
  some (false, r12.2, r5.2.2.1, r5.2.2.2.1, r5.2.2.2.2.1, r5.2.2.2.2.2)
  else
  (r_isSum r12.2 mt kn mf mm r5.2.2.1 r5.2.2.2.1 r5.2.2.2.2.1 r5.2.2.2.2.2).bind fun r14 =>
  if ¬ (q_bz r14.1) = 0 then
  if (q_bz x2) = 0 then
  (f_X15_eatSign (q_up r14.2.1 10 ((r14.2.1 10) - (1 : Int32))) kn (41 : Int32)).bind fun r17 =>
  some (r17.1, r17.2, r14.2.2.1, r14.2.2.2.1, r14.2.2.2.2.1, r14.2.2.2.2.2)
  else
  (f_X15_put r14.2.2.2.1 r14.2.2.2.2.1 x1).bind fun r18 =>
  (f_X15_eatSign (q_up r14.2.1 10 ((r14.2.1 10) - (1 : Int32))) kn (41 : Int32)).bind fun r19 =>
  some (r19.1, r19.2, r14.2.2.1, r18.1, r18.2, r14.2.2.2.2.2)
  else
  some (false, r14.2.1, r14.2.2.1, r14.2.2.2.1, r14.2.2.2.2.1, r14.2.2.2.2.2)
def f_X15_numberAt_L4 (mt : Nat → Int32) (mf : Nat → Int32) (mm : Nat → Int32) (v1 : Int32) : Nat → Int32 → Int32 → Option (Int32)
  | 0, _, _ => none
  | fu + 1, v2, v3 =>
    (q_ix v1 401).bind fun j1 =>
    if (mm j1) ≤ v3 then
    some (v2)
    else
    (q_ix v1 401).bind fun j3 =>
    (q_ix ((mf j3) + v3) 2000).bind fun j4 =>
    f_X15_numberAt_L4 mt mf mm v1 fu ((((10 : Int32) * v2) + (mt j4)) - (48 : Int32)) (v3 + 1)
def f_X15_numberAt (mt : Nat → Int32) (mf : Nat → Int32) (mm : Nat → Int32) (x1 : Int32) : Option (Int32) :=
  (f_X15_numberAt_L4 mt mf mm x1 4096 (0 : Int32) (0 : Int32)).bind fun r5 =>
  some (r5)
def f_X15_eatAs (md : Nat → Int32) (kn : Nat → Int32) (mr : Nat → Int32) (x1 : Int32) (x2 : Int32) : Option (Bool × (Nat → Int32) × (Nat → Int32)) :=
  (q_ix (md 9) 401).bind fun j1 =>
  (f_X15_eat md kn x1).bind fun r2 =>
  some (r2.1, r2.2, (q_up mr j1 x2))
def f_X15_isName (md : Nat → Int32) (kn : Nat → Int32) (mr : Nat → Int32) (mp : Nat → Int32) (pc : Nat → Int32) (pw : Nat → Int32) (x1 : Int32) : Option (Bool × (Nat → Int32) × (Nat → Int32) × (Nat → Int32) × (Nat → Int32) × (Nat → Int32)) :=
  (q_ix (mp 16) 400).bind fun j1 =>
  (f_X15_put (q_up mp 16 ((mp 16) + (1 : Int32))) pc (md 9)).bind fun r2 =>
  (f_X15_eatAs md kn mr (40 : Int32) x1).bind fun r3 =>
  some (r3.1, r3.2.1, r3.2.2, r2.1, r2.2, (q_up pw j1 (mp 14)))
def f_X15_isValue (r_isValue : (Nat → Int32) → (Nat → Int32) → (Nat → Int32) → (Nat → Int32) → (Nat → Int32) → (Nat → Int32) → (Nat → Int32) → (Nat → Int32) → (Nat → Int32) → Option (Bool × (Nat → Int32) × (Nat → Int32) × (Nat → Int32) × (Nat → Int32) × (Nat → Int32))) (r_isSum : (Nat → Int32) → (Nat → Int32) → (Nat → Int32) → (Nat → Int32) → (Nat → Int32) → (Nat → Int32) → (Nat → Int32) → (Nat → Int32) → (Nat → Int32) → Option (Bool × (Nat → Int32) × (Nat → Int32) × (Nat → Int32) × (Nat → Int32) × (Nat → Int32))) (md : Nat → Int32) (mt : Nat → Int32) (kn : Nat → Int32) (mf : Nat → Int32) (mm : Nat → Int32) (mr : Nat → Int32) (mp : Nat → Int32) (pc : Nat → Int32) (pw : Nat → Int32) : Option (Bool × (Nat → Int32) × (Nat → Int32) × (Nat → Int32) × (Nat → Int32) × (Nat → Int32)) :=
  (q_ix (md 9) 401).bind fun j1 =>
  (f_X15_is md kn (41 : Int32)).bind fun r2 =>
  if (q_bz r2) = 0 then
  if (kn j1) < (16 : Int32) then
  (f_X15_is md kn (5 : Int32)).bind fun r5 =>
  if ¬ (q_bz r5) = 0 then
  (f_X15_put mp pc (kn j1)).bind fun r7 =>
  (f_X15_eat (q_up md 9 ((md 9) + (1 : Int32))) kn (13 : Int32)).bind fun r8 =>
  if (q_bz r8.1) = 0 then
  some (false, r8.2, mr, r7.1, r7.2, pw)
  else
  (f_X15_isName r8.2 kn mr r7.1 r7.2 pw (5 : Int32)).bind fun r10 =>
  if (q_bz r10.1) = 0 then
  some (false, r10.2.1, r10.2.2.1, r10.2.2.2.1, r10.2.2.2.2.1, r10.2.2.2.2.2)
  else
  some (true, r10.2.1, r10.2.2.1, r10.2.2.2.1, r10.2.2.2.2.1, r10.2.2.2.2.2)
  else
  (f_X15_is md kn (21 : Int32)).bind fun r12 =>
  if (q_bz r12) = 0 then
  (f_X15_isSign md kn (45 : Int32)).bind fun r14 =>
  if (q_bz r14) = 0 then
  (f_X15_eat md kn (27 : Int32)).bind fun r16 =>
  if ¬ (q_bz r16.1) = 0 then
  (f_X15_isInside r_isSum r16.2 mt kn mf mm mr mp pc pw (kn j1) true).bind fun r18 =>
  some (r18.1, r18.2.1, r18.2.2.1, r18.2.2.2.1, r18.2.2.2.2.1, r18.2.2.2.2.2)
  else
  (f_X15_eat r16.2 kn (28 : Int32)).bind fun r19 =>
  if (q_bz r19.1) = 0 then
  (f_X15_isInside r_isSum r19.2 mt kn mf mm mr mp pc pw (kn j1) false).bind fun r21 =>
  some (r21.1, r21.2.1, r21.2.2.1, r21.2.2.2.1, r21.2.2.2.2.1, r21.2.2.2.2.2)
  else
  (f_X15_isInside r_isSum r19.2 mt kn mf mm mr mp pc pw (kn j1) true).bind fun r22 =>
  some (r22.1, r22.2.1, r22.2.2.1, r22.2.2.2.1, r22.2.2.2.2.1, r22.2.2.2.2.2)
  else
  (f_X15_isDeeper md).bind fun r23 =>
  if (q_bz r23.1) = 0 then
  some (false, r23.2, mr, mp, pc, pw)
  else
  (r_isValue r23.2 mt kn mf mm mr mp pc pw).bind fun r25 =>
  if ¬ (q_bz r25.1) = 0 then
  (f_X15_put r25.2.2.2.1 r25.2.2.2.2.1 (33 : Int32)).bind fun r27 =>
  some (true, (q_up r25.2.1 10 ((r25.2.1 10) - (1 : Int32))), r25.2.2.1, r27.1, r27.2, r25.2.2.2.2.2)
  else
  some (false, r25.2.1, r25.2.2.1, r25.2.2.2.1, r25.2.2.2.2.1, r25.2.2.2.2.2)
  else
  (f_X15_put mp pc (kn j1)).bind fun r28 =>
  (f_X15_eat (q_up md 9 ((md 9) + (1 : Int32))) kn (13 : Int32)).bind fun r29 =>
  if (q_bz r29.1) = 0 then
  some (false, r29.2, mr, r28.1, r28.2, pw)
  else
  (f_X15_isName r29.2 kn mr r28.1 r28.2 pw (5 : Int32)).bind fun r31 =>
  if (q_bz r31.1) = 0 then
  some (false, r31.2.1, r31.2.2.1, r31.2.2.2.1, r31.2.2.2.2.1, r31.2.2.2.2.2)
  else
  some (true, r31.2.1, r31.2.2.1, r31.2.2.2.1, r31.2.2.2.2.1, r31.2.2.2.2.2)
  else
  if (20 : Int32) < (kn j1) then
  (f_X15_is md kn (5 : Int32)).bind fun r34 =>
  if ¬ (q_bz r34) = 0 then
  (f_X15_put mp pc (kn j1)).bind fun r36 =>
  (f_X15_eat (q_up md 9 ((md 9) + (1 : Int32))) kn (13 : Int32)).bind fun r37 =>
  if (q_bz r37.1) = 0 then
  some (false, r37.2, mr, r36.1, r36.2, pw)
  else
  (f_X15_isName r37.2 kn mr r36.1 r36.2 pw (5 : Int32)).bind fun r39 =>
  if (q_bz r39.1) = 0 then
  some (false, r39.2.1, r39.2.2.1, r39.2.2.2.1, r39.2.2.2.2.1, r39.2.2.2.2.2)
  else
  some (true, r39.2.1, r39.2.2.1, r39.2.2.2.1, r39.2.2.2.2.1, r39.2.2.2.2.2)
  else
  (f_X15_is md kn (21 : Int32)).bind fun r41 =>
  if (q_bz r41) = 0 then
  (f_X15_isSign md kn (45 : Int32)).bind fun r43 =>
  if (q_bz r43) = 0 then
  (f_X15_eat md kn (27 : Int32)).bind fun r45 =>
  if ¬ (q_bz r45.1) = 0 then
  (f_X15_isInside r_isSum r45.2 mt kn mf mm mr mp pc pw (kn j1) true).bind fun r47 =>
  some (r47.1, r47.2.1, r47.2.2.1, r47.2.2.2.1, r47.2.2.2.2.1, r47.2.2.2.2.2)
  else
  (f_X15_eat r45.2 kn (28 : Int32)).bind fun r48 =>
  if (q_bz r48.1) = 0 then
  (f_X15_isInside r_isSum r48.2 mt kn mf mm mr mp pc pw (kn j1) false).bind fun r50 =>
  some (r50.1, r50.2.1, r50.2.2.1, r50.2.2.2.1, r50.2.2.2.2.1, r50.2.2.2.2.2)
  else
  (f_X15_isInside r_isSum r48.2 mt kn mf mm mr mp pc pw (kn j1) true).bind fun r51 =>
  some (r51.1, r51.2.1, r51.2.2.1, r51.2.2.2.1, r51.2.2.2.2.1, r51.2.2.2.2.2)
  else
  (f_X15_isDeeper md).bind fun r52 =>
  if (q_bz r52.1) = 0 then
  some (false, r52.2, mr, mp, pc, pw)
  else
  (r_isValue r52.2 mt kn mf mm mr mp pc pw).bind fun r54 =>
  if ¬ (q_bz r54.1) = 0 then
  (f_X15_put r54.2.2.2.1 r54.2.2.2.2.1 (33 : Int32)).bind fun r56 =>
  some (true, (q_up r54.2.1 10 ((r54.2.1 10) - (1 : Int32))), r54.2.2.1, r56.1, r56.2, r54.2.2.2.2.2)
  else
  some (false, r54.2.1, r54.2.2.1, r54.2.2.2.1, r54.2.2.2.2.1, r54.2.2.2.2.2)
  else
  (f_X15_put mp pc (kn j1)).bind fun r57 =>
  (f_X15_eat (q_up md 9 ((md 9) + (1 : Int32))) kn (13 : Int32)).bind fun r58 =>
  if (q_bz r58.1) = 0 then
  some (false, r58.2, mr, r57.1, r57.2, pw)
  else
  (f_X15_isName r58.2 kn mr r57.1 r57.2 pw (5 : Int32)).bind fun r60 =>
  if (q_bz r60.1) = 0 then
  some (false, r60.2.1, r60.2.2.1, r60.2.2.2.1, r60.2.2.2.2.1, r60.2.2.2.2.2)
  else
  some (true, r60.2.1, r60.2.2.1, r60.2.2.2.1, r60.2.2.2.2.1, r60.2.2.2.2.2)
  else
  (f_X15_put mp pc (kn j1)).bind fun r62 =>
  some (true, (q_up md 9 ((md 9) + (1 : Int32))), mr, r62.1, r62.2, pw)
  else
  (f_X15_put mp pc (32 : Int32)).bind fun r63 =>
  (f_X15_numberAt mt mf mm (md 9)).bind fun r64 =>
  (f_X15_put r63.1 r63.2 r64).bind fun r65 =>
  some (true, (q_up md 9 ((md 9) + (1 : Int32))), mr, r65.1, r65.2, pw)
def f_X15_isProduct_L5 (r_isValue : (Nat → Int32) → (Nat → Int32) → (Nat → Int32) → (Nat → Int32) → (Nat → Int32) → (Nat → Int32) → (Nat → Int32) → (Nat → Int32) → (Nat → Int32) → Option (Bool × (Nat → Int32) × (Nat → Int32) × (Nat → Int32) × (Nat → Int32) × (Nat → Int32))) (r_isSum : (Nat → Int32) → (Nat → Int32) → (Nat → Int32) → (Nat → Int32) → (Nat → Int32) → (Nat → Int32) → (Nat → Int32) → (Nat → Int32) → (Nat → Int32) → Option (Bool × (Nat → Int32) × (Nat → Int32) × (Nat → Int32) × (Nat → Int32) × (Nat → Int32))) (mt : Nat → Int32) (kn : Nat → Int32) (mf : Nat → Int32) (mm : Nat → Int32) : Nat → (Nat → Int32) → (Nat → Int32) → (Nat → Int32) → (Nat → Int32) → (Nat → Int32) → Option (Nat × (Nat → Int32) × (Nat → Int32) × (Nat → Int32) × (Nat → Int32) × (Nat → Int32))
  | 0, _, _, _, _, _ => none
  | fu + 1, md, mr, mp, pc, pw =>
    (f_X15_isSign md kn (42 : Int32)).bind fun r1 =>
    if ¬ (q_bz r1) = 0 then
    (f_X15_isSign md kn (42 : Int32)).bind fun r3 =>
    if (q_bz r3) = 0 then
    (f_X15_isValue r_isValue r_isSum (q_up md 9 ((md 9) + (1 : Int32))) mt kn mf mm mr mp pc pw).bind fun r5 =>
    if ¬ (q_bz r5.1) = 0 then
    (f_X15_put r5.2.2.2.1 r5.2.2.2.2.1 (37 : Int32)).bind fun r7 =>
    f_X15_isProduct_L5 r_isValue r_isSum mt kn mf mm fu r5.2.1 r5.2.2.1 r7.1 r7.2 r5.2.2.2.2.2
    else
    some (1, r5.2.1, r5.2.2.1, r5.2.2.2.1, r5.2.2.2.2.1, r5.2.2.2.2.2)
    else
    (f_X15_isValue r_isValue r_isSum (q_up md 9 ((md 9) + (1 : Int32))) mt kn mf mm mr mp pc pw).bind fun r8 =>
    if ¬ (q_bz r8.1) = 0 then
    (f_X15_put r8.2.2.2.1 r8.2.2.2.2.1 (36 : Int32)).bind fun r10 =>
    f_X15_isProduct_L5 r_isValue r_isSum mt kn mf mm fu r8.2.1 r8.2.2.1 r10.1 r10.2 r8.2.2.2.2.2
    else
    some (1, r8.2.1, r8.2.2.1, r8.2.2.2.1, r8.2.2.2.2.1, r8.2.2.2.2.2)
    else
    (f_X15_isSign md kn (47 : Int32)).bind fun r11 =>
    if (q_bz r11) = 0 then
    some (0, md, mr, mp, pc, pw)
    else
    (f_X15_isSign md kn (42 : Int32)).bind fun r13 =>
    if (q_bz r13) = 0 then
    (f_X15_isValue r_isValue r_isSum (q_up md 9 ((md 9) + (1 : Int32))) mt kn mf mm mr mp pc pw).bind fun r15 =>
    if ¬ (q_bz r15.1) = 0 then
    (f_X15_put r15.2.2.2.1 r15.2.2.2.2.1 (37 : Int32)).bind fun r17 =>
    f_X15_isProduct_L5 r_isValue r_isSum mt kn mf mm fu r15.2.1 r15.2.2.1 r17.1 r17.2 r15.2.2.2.2.2
    else
    some (1, r15.2.1, r15.2.2.1, r15.2.2.2.1, r15.2.2.2.2.1, r15.2.2.2.2.2)
    else
    (f_X15_isValue r_isValue r_isSum (q_up md 9 ((md 9) + (1 : Int32))) mt kn mf mm mr mp pc pw).bind fun r18 =>
    if ¬ (q_bz r18.1) = 0 then
    (f_X15_put r18.2.2.2.1 r18.2.2.2.2.1 (36 : Int32)).bind fun r20 =>
    f_X15_isProduct_L5 r_isValue r_isSum mt kn mf mm fu r18.2.1 r18.2.2.1 r20.1 r20.2 r18.2.2.2.2.2
    else
    some (1, r18.2.1, r18.2.2.1, r18.2.2.2.1, r18.2.2.2.2.1, r18.2.2.2.2.2)
def f_X15_isProduct (r_isValue : (Nat → Int32) → (Nat → Int32) → (Nat → Int32) → (Nat → Int32) → (Nat → Int32) → (Nat → Int32) → (Nat → Int32) → (Nat → Int32) → (Nat → Int32) → Option (Bool × (Nat → Int32) × (Nat → Int32) × (Nat → Int32) × (Nat → Int32) × (Nat → Int32))) (r_isSum : (Nat → Int32) → (Nat → Int32) → (Nat → Int32) → (Nat → Int32) → (Nat → Int32) → (Nat → Int32) → (Nat → Int32) → (Nat → Int32) → (Nat → Int32) → Option (Bool × (Nat → Int32) × (Nat → Int32) × (Nat → Int32) × (Nat → Int32) × (Nat → Int32))) (md : Nat → Int32) (mt : Nat → Int32) (kn : Nat → Int32) (mf : Nat → Int32) (mm : Nat → Int32) (mr : Nat → Int32) (mp : Nat → Int32) (pc : Nat → Int32) (pw : Nat → Int32) : Option (Bool × (Nat → Int32) × (Nat → Int32) × (Nat → Int32) × (Nat → Int32) × (Nat → Int32)) :=
  (f_X15_isValue r_isValue r_isSum md mt kn mf mm mr mp pc pw).bind fun r21 =>
  if ¬ (q_bz r21.1) = 0 then
  (f_X15_isProduct_L5 r_isValue r_isSum mt kn mf mm 4096 r21.2.1 r21.2.2.1 r21.2.2.2.1 r21.2.2.2.2.1 r21.2.2.2.2.2).bind fun r23 =>
  if r23.1 = 0 then
  some (true, r23.2.1, r23.2.2.1, r23.2.2.2.1, r23.2.2.2.2.1, r23.2.2.2.2.2)
  else
  some (false, r23.2.1, r23.2.2.1, r23.2.2.2.1, r23.2.2.2.2.1, r23.2.2.2.2.2)
  else
  some (false, r21.2.1, r21.2.2.1, r21.2.2.2.1, r21.2.2.2.2.1, r21.2.2.2.2.2)
def f_X15_isSum_L5 (r_isValue : (Nat → Int32) → (Nat → Int32) → (Nat → Int32) → (Nat → Int32) → (Nat → Int32) → (Nat → Int32) → (Nat → Int32) → (Nat → Int32) → (Nat → Int32) → Option (Bool × (Nat → Int32) × (Nat → Int32) × (Nat → Int32) × (Nat → Int32) × (Nat → Int32))) (r_isSum : (Nat → Int32) → (Nat → Int32) → (Nat → Int32) → (Nat → Int32) → (Nat → Int32) → (Nat → Int32) → (Nat → Int32) → (Nat → Int32) → (Nat → Int32) → Option (Bool × (Nat → Int32) × (Nat → Int32) × (Nat → Int32) × (Nat → Int32) × (Nat → Int32))) (mt : Nat → Int32) (kn : Nat → Int32) (mf : Nat → Int32) (mm : Nat → Int32) : Nat → (Nat → Int32) → (Nat → Int32) → (Nat → Int32) → (Nat → Int32) → (Nat → Int32) → Option (Nat × (Nat → Int32) × (Nat → Int32) × (Nat → Int32) × (Nat → Int32) × (Nat → Int32))
  | 0, _, _, _, _, _ => none
  | fu + 1, md, mr, mp, pc, pw =>
    (f_X15_isSign md kn (43 : Int32)).bind fun r1 =>
    if ¬ (q_bz r1) = 0 then
    (f_X15_isSign md kn (43 : Int32)).bind fun r3 =>
    if (q_bz r3) = 0 then
    (f_X15_isProduct r_isValue r_isSum (q_up md 9 ((md 9) + (1 : Int32))) mt kn mf mm mr mp pc pw).bind fun r5 =>
    if ¬ (q_bz r5.1) = 0 then
    (f_X15_put r5.2.2.2.1 r5.2.2.2.2.1 (35 : Int32)).bind fun r7 =>
    f_X15_isSum_L5 r_isValue r_isSum mt kn mf mm fu r5.2.1 r5.2.2.1 r7.1 r7.2 r5.2.2.2.2.2
    else
    some (1, r5.2.1, r5.2.2.1, r5.2.2.2.1, r5.2.2.2.2.1, r5.2.2.2.2.2)
    else
    (f_X15_isProduct r_isValue r_isSum (q_up md 9 ((md 9) + (1 : Int32))) mt kn mf mm mr mp pc pw).bind fun r8 =>
    if ¬ (q_bz r8.1) = 0 then
    (f_X15_put r8.2.2.2.1 r8.2.2.2.2.1 (34 : Int32)).bind fun r10 =>
    f_X15_isSum_L5 r_isValue r_isSum mt kn mf mm fu r8.2.1 r8.2.2.1 r10.1 r10.2 r8.2.2.2.2.2
    else
    some (1, r8.2.1, r8.2.2.1, r8.2.2.2.1, r8.2.2.2.2.1, r8.2.2.2.2.2)
    else
    (f_X15_isSign md kn (45 : Int32)).bind fun r11 =>
    if (q_bz r11) = 0 then
    some (0, md, mr, mp, pc, pw)
    else
    (f_X15_isSign md kn (43 : Int32)).bind fun r13 =>
    if (q_bz r13) = 0 then
    (f_X15_isProduct r_isValue r_isSum (q_up md 9 ((md 9) + (1 : Int32))) mt kn mf mm mr mp pc pw).bind fun r15 =>
    if ¬ (q_bz r15.1) = 0 then
    (f_X15_put r15.2.2.2.1 r15.2.2.2.2.1 (35 : Int32)).bind fun r17 =>
    f_X15_isSum_L5 r_isValue r_isSum mt kn mf mm fu r15.2.1 r15.2.2.1 r17.1 r17.2 r15.2.2.2.2.2
    else
    some (1, r15.2.1, r15.2.2.1, r15.2.2.2.1, r15.2.2.2.2.1, r15.2.2.2.2.2)
    else
    (f_X15_isProduct r_isValue r_isSum (q_up md 9 ((md 9) + (1 : Int32))) mt kn mf mm mr mp pc pw).bind fun r18 =>
    if ¬ (q_bz r18.1) = 0 then
    (f_X15_put r18.2.2.2.1 r18.2.2.2.2.1 (34 : Int32)).bind fun r20 =>
    f_X15_isSum_L5 r_isValue r_isSum mt kn mf mm fu r18.2.1 r18.2.2.1 r20.1 r20.2 r18.2.2.2.2.2
    else
    some (1, r18.2.1, r18.2.2.1, r18.2.2.2.1, r18.2.2.2.2.1, r18.2.2.2.2.2)
def f_X15_isSum (r_isValue : (Nat → Int32) → (Nat → Int32) → (Nat → Int32) → (Nat → Int32) → (Nat → Int32) → (Nat → Int32) → (Nat → Int32) → (Nat → Int32) → (Nat → Int32) → Option (Bool × (Nat → Int32) × (Nat → Int32) × (Nat → Int32) × (Nat → Int32) × (Nat → Int32))) (r_isSum : (Nat → Int32) → (Nat → Int32) → (Nat → Int32) → (Nat → Int32) → (Nat → Int32) → (Nat → Int32) → (Nat → Int32) → (Nat → Int32) → (Nat → Int32) → Option (Bool × (Nat → Int32) × (Nat → Int32) × (Nat → Int32) × (Nat → Int32) × (Nat → Int32))) (md : Nat → Int32) (mt : Nat → Int32) (kn : Nat → Int32) (mf : Nat → Int32) (mm : Nat → Int32) (mr : Nat → Int32) (mp : Nat → Int32) (pc : Nat → Int32) (pw : Nat → Int32) : Option (Bool × (Nat → Int32) × (Nat → Int32) × (Nat → Int32) × (Nat → Int32) × (Nat → Int32)) :=
  (f_X15_isProduct r_isValue r_isSum md mt kn mf mm mr mp pc pw).bind fun r21 =>
  if ¬ (q_bz r21.1) = 0 then
  (f_X15_isSum_L5 r_isValue r_isSum mt kn mf mm 4096 r21.2.1 r21.2.2.1 r21.2.2.2.1 r21.2.2.2.2.1 r21.2.2.2.2.2).bind fun r23 =>
  if r23.1 = 0 then
  some (true, r23.2.1, r23.2.2.1, r23.2.2.2.1, r23.2.2.2.2.1, r23.2.2.2.2.2)
  else
  some (false, r23.2.1, r23.2.2.1, r23.2.2.2.1, r23.2.2.2.2.1, r23.2.2.2.2.2)
  else
  some (false, r21.2.1, r21.2.2.1, r21.2.2.2.1, r21.2.2.2.2.1, r21.2.2.2.2.2)
def f_X15_isNamed (md : Nat → Int32) (kn : Nat → Int32) (mr : Nat → Int32) (mp : Nat → Int32) (pc : Nat → Int32) (pw : Nat → Int32) (x1 : Int32) : Option (Bool × (Nat → Int32) × (Nat → Int32) × (Nat → Int32) × (Nat → Int32) × (Nat → Int32)) :=
  (q_ix (md 9) 401).bind fun j1 =>
  (f_X15_put mp pc (kn j1)).bind fun r2 =>
  (f_X15_isName (q_up md 9 ((md 9) + (1 : Int32))) kn mr r2.1 r2.2 pw x1).bind fun r3 =>
  some (r3.1, r3.2.1, r3.2.2.1, r3.2.2.2.1, r3.2.2.2.2.1, r3.2.2.2.2.2)
def f_X15_isSingle (r_isSingle : (Nat → Int32) → (Nat → Int32) → (Nat → Int32) → (Nat → Int32) → (Nat → Int32) → (Nat → Int32) → (Nat → Int32) → (Nat → Int32) → (Nat → Int32) → Option (Bool × (Nat → Int32) × (Nat → Int32) × (Nat → Int32) × (Nat → Int32) × (Nat → Int32))) (r_isTest : (Nat → Int32) → (Nat → Int32) → (Nat → Int32) → (Nat → Int32) → (Nat → Int32) → (Nat → Int32) → (Nat → Int32) → (Nat → Int32) → (Nat → Int32) → Option (Bool × (Nat → Int32) × (Nat → Int32) × (Nat → Int32) × (Nat → Int32) × (Nat → Int32))) (r_isValue : (Nat → Int32) → (Nat → Int32) → (Nat → Int32) → (Nat → Int32) → (Nat → Int32) → (Nat → Int32) → (Nat → Int32) → (Nat → Int32) → (Nat → Int32) → Option (Bool × (Nat → Int32) × (Nat → Int32) × (Nat → Int32) × (Nat → Int32) × (Nat → Int32))) (r_isSum : (Nat → Int32) → (Nat → Int32) → (Nat → Int32) → (Nat → Int32) → (Nat → Int32) → (Nat → Int32) → (Nat → Int32) → (Nat → Int32) → (Nat → Int32) → Option (Bool × (Nat → Int32) × (Nat → Int32) × (Nat → Int32) × (Nat → Int32) × (Nat → Int32))) (md : Nat → Int32) (mt : Nat → Int32) (kn : Nat → Int32) (mf : Nat → Int32) (mm : Nat → Int32) (mr : Nat → Int32) (mp : Nat → Int32) (pc : Nat → Int32) (pw : Nat → Int32) : Option (Bool × (Nat → Int32) × (Nat → Int32) × (Nat → Int32) × (Nat → Int32) × (Nat → Int32)) :=
  (f_X15_is md kn (24 : Int32)).bind fun r1 =>
  if (q_bz r1) = 0 then
  (f_X15_isSign md kn (91 : Int32)).bind fun r3 =>
  if (q_bz r3) = 0 then
  (f_X15_is md kn (22 : Int32)).bind fun r5 =>
  if (q_bz r5) = 0 then
  (f_X15_is md kn (23 : Int32)).bind fun r7 =>
  if (q_bz r7) = 0 then
  (f_X15_isSum r_isValue r_isSum md mt kn mf mm mr mp pc pw).bind fun r9 =>
  if ¬ (q_bz r9.1) = 0 then
  (f_X15_isSign r9.2.1 kn (60 : Int32)).bind fun r11 =>
  if (q_bz r11) = 0 then
  (f_X15_isSign r9.2.1 kn (62 : Int32)).bind fun r13 =>
  if (q_bz r13) = 0 then
  (f_X15_isSign r9.2.1 kn (61 : Int32)).bind fun r15 =>
  if (q_bz r15) = 0 then
  (f_X15_is r9.2.1 kn (300 : Int32)).bind fun r17 =>
  if (q_bz r17) = 0 then
  (f_X15_is r9.2.1 kn (301 : Int32)).bind fun r19 =>
  if (q_bz r19) = 0 then
  if ¬ (-1 : Int32) = (-1 : Int32) then
  (f_X15_isSum r_isValue r_isSum (q_up r9.2.1 9 ((r9.2.1 9) + (1 : Int32))) mt kn mf mm r9.2.2.1 r9.2.2.2.1 r9.2.2.2.2.1 r9.2.2.2.2.2).bind fun r22 =>
  if ¬ (q_bz r22.1) = 0 then
  (f_X15_put r22.2.2.2.1 r22.2.2.2.2.1 (-1 : Int32)).bind fun r24 =>
  some (true, r22.2.1, r22.2.2.1, r24.1, r24.2, r22.2.2.2.2.2)
  else
  some (false, r22.2.1, r22.2.2.1, r22.2.2.2.1, r22.2.2.2.2.1, r22.2.2.2.2.2)
  else
  some (false, r9.2.1, r9.2.2.1, r9.2.2.2.1, r9.2.2.2.2.1, r9.2.2.2.2.2)
  else
  if ¬ (44 : Int32) = (-1 : Int32) then
  (f_X15_isSum r_isValue r_isSum (q_up r9.2.1 9 ((r9.2.1 9) + (1 : Int32))) mt kn mf mm r9.2.2.1 r9.2.2.2.1 r9.2.2.2.2.1 r9.2.2.2.2.2).bind fun r26 =>
  if ¬ (q_bz r26.1) = 0 then
  (f_X15_put r26.2.2.2.1 r26.2.2.2.2.1 (44 : Int32)).bind fun r28 =>
  some (true, r26.2.1, r26.2.2.1, r28.1, r28.2, r26.2.2.2.2.2)
  else
  some (false, r26.2.1, r26.2.2.1, r26.2.2.2.1, r26.2.2.2.2.1, r26.2.2.2.2.2)
  else
  some (false, r9.2.1, r9.2.2.1, r9.2.2.2.1, r9.2.2.2.2.1, r9.2.2.2.2.2)
  else
  if ¬ (43 : Int32) = (-1 : Int32) then
  (f_X15_isSum r_isValue r_isSum (q_up r9.2.1 9 ((r9.2.1 9) + (1 : Int32))) mt kn mf mm r9.2.2.1 r9.2.2.2.1 r9.2.2.2.2.1 r9.2.2.2.2.2).bind fun r30 =>
  if ¬ (q_bz r30.1) = 0 then
  (f_X15_put r30.2.2.2.1 r30.2.2.2.2.1 (43 : Int32)).bind fun r32 =>
  some (true, r30.2.1, r30.2.2.1, r32.1, r32.2, r30.2.2.2.2.2)
  else
  some (false, r30.2.1, r30.2.2.1, r30.2.2.2.1, r30.2.2.2.2.1, r30.2.2.2.2.2)
  else
  some (false, r9.2.1, r9.2.2.1, r9.2.2.2.1, r9.2.2.2.2.1, r9.2.2.2.2.2)
  else
  if ¬ (42 : Int32) = (-1 : Int32) then
  (f_X15_isSum r_isValue r_isSum (q_up r9.2.1 9 ((r9.2.1 9) + (1 : Int32))) mt kn mf mm r9.2.2.1 r9.2.2.2.1 r9.2.2.2.2.1 r9.2.2.2.2.2).bind fun r34 =>
  if ¬ (q_bz r34.1) = 0 then
  (f_X15_put r34.2.2.2.1 r34.2.2.2.2.1 (42 : Int32)).bind fun r36 =>
  some (true, r34.2.1, r34.2.2.1, r36.1, r36.2, r34.2.2.2.2.2)
  else
  some (false, r34.2.1, r34.2.2.1, r34.2.2.2.1, r34.2.2.2.2.1, r34.2.2.2.2.2)
  else
  some (false, r9.2.1, r9.2.2.1, r9.2.2.2.1, r9.2.2.2.2.1, r9.2.2.2.2.2)
  else
  if ¬ (39 : Int32) = (-1 : Int32) then
  (f_X15_isSum r_isValue r_isSum (q_up r9.2.1 9 ((r9.2.1 9) + (1 : Int32))) mt kn mf mm r9.2.2.1 r9.2.2.2.1 r9.2.2.2.2.1 r9.2.2.2.2.2).bind fun r38 =>
  if ¬ (q_bz r38.1) = 0 then
  (f_X15_put r38.2.2.2.1 r38.2.2.2.2.1 (39 : Int32)).bind fun r40 =>
  some (true, r38.2.1, r38.2.2.1, r40.1, r40.2, r38.2.2.2.2.2)
  else
  some (false, r38.2.1, r38.2.2.1, r38.2.2.2.1, r38.2.2.2.2.1, r38.2.2.2.2.2)
  else
  some (false, r9.2.1, r9.2.2.1, r9.2.2.2.1, r9.2.2.2.2.1, r9.2.2.2.2.2)
  else
  if ¬ (38 : Int32) = (-1 : Int32) then
  (f_X15_isSum r_isValue r_isSum (q_up r9.2.1 9 ((r9.2.1 9) + (1 : Int32))) mt kn mf mm r9.2.2.1 r9.2.2.2.1 r9.2.2.2.2.1 r9.2.2.2.2.2).bind fun r42 =>
  if ¬ (q_bz r42.1) = 0 then
  (f_X15_put r42.2.2.2.1 r42.2.2.2.2.1 (38 : Int32)).bind fun r44 =>
  some (true, r42.2.1, r42.2.2.1, r44.1, r44.2, r42.2.2.2.2.2)
  else
  some (false, r42.2.1, r42.2.2.1, r42.2.2.2.1, r42.2.2.2.2.1, r42.2.2.2.2.2)
  else
  some (false, r9.2.1, r9.2.2.1, r9.2.2.2.1, r9.2.2.2.2.1, r9.2.2.2.2.2)
  else
  some (false, r9.2.1, r9.2.2.1, r9.2.2.2.1, r9.2.2.2.2.1, r9.2.2.2.2.2)
  else
  (f_X15_isNamed md kn mr mp pc pw (5 : Int32)).bind fun r45 =>
  if (q_bz r45.1) = 0 then
  some (false, r45.2.1, r45.2.2.1, r45.2.2.2.1, r45.2.2.2.2.1, r45.2.2.2.2.2)
  else
  (f_X15_isName r45.2.1 kn r45.2.2.1 r45.2.2.2.1 r45.2.2.2.2.1 r45.2.2.2.2.2 (5 : Int32)).bind fun r47 =>
  if (q_bz r47.1) = 0 then
  some (false, r47.2.1, r47.2.2.1, r47.2.2.2.1, r47.2.2.2.2.1, r47.2.2.2.2.2)
  else
  some (true, r47.2.1, r47.2.2.1, r47.2.2.2.1, r47.2.2.2.2.1, r47.2.2.2.2.2)
  else
  (f_X15_isNamed md kn mr mp pc pw (5 : Int32)).bind fun r49 =>
  some (r49.1, r49.2.1, r49.2.2.1, r49.2.2.2.1, r49.2.2.2.2.1, r49.2.2.2.2.2)
  else
  (f_X15_isDeeper md).bind fun r50 =>
  if (q_bz r50.1) = 0 then
  some (false, r50.2, mr, mp, pc, pw)
  else
  (r_isTest r50.2 mt kn mf mm mr mp pc pw).bind fun r52 =>
  if ¬ (q_bz r52.1) = 0 then
  (f_X15_eatSign (q_up r52.2.1 10 ((r52.2.1 10) - (1 : Int32))) kn (93 : Int32)).bind fun r54 =>
  some (r54.1, r54.2, r52.2.2.1, r52.2.2.2.1, r52.2.2.2.2.1, r52.2.2.2.2.2)
  else
  some (false, r52.2.1, r52.2.2.1, r52.2.2.2.1, r52.2.2.2.2.1, r52.2.2.2.2.2)
  else
  (f_X15_isDeeper md).bind fun r55 =>
  if (q_bz r55.1) = 0 then
  some (false, r55.2, mr, mp, pc, pw)
  else
  (r_isSingle r55.2 mt kn mf mm mr mp pc pw).bind fun r57 =>
  if ¬ (q_bz r57.1) = 0 then
  (f_X15_put r57.2.2.2.1 r57.2.2.2.2.1 (24 : Int32)).bind fun r59 =>
  some (true, (q_up r57.2.1 10 ((r57.2.1 10) - (1 : Int32))), r57.2.2.1, r59.1, r59.2, r57.2.2.2.2.2)
  else
  some (false, r57.2.1, r57.2.2.1, r57.2.2.2.1, r57.2.2.2.2.1, r57.2.2.2.2.2)
def f_X15_isBoth_L5 (r_isSingle : (Nat → Int32) → (Nat → Int32) → (Nat → Int32) → (Nat → Int32) → (Nat → Int32) → (Nat → Int32) → (Nat → Int32) → (Nat → Int32) → (Nat → Int32) → Option (Bool × (Nat → Int32) × (Nat → Int32) × (Nat → Int32) × (Nat → Int32) × (Nat → Int32))) (r_isTest : (Nat → Int32) → (Nat → Int32) → (Nat → Int32) → (Nat → Int32) → (Nat → Int32) → (Nat → Int32) → (Nat → Int32) → (Nat → Int32) → (Nat → Int32) → Option (Bool × (Nat → Int32) × (Nat → Int32) × (Nat → Int32) × (Nat → Int32) × (Nat → Int32))) (r_isValue : (Nat → Int32) → (Nat → Int32) → (Nat → Int32) → (Nat → Int32) → (Nat → Int32) → (Nat → Int32) → (Nat → Int32) → (Nat → Int32) → (Nat → Int32) → Option (Bool × (Nat → Int32) × (Nat → Int32) × (Nat → Int32) × (Nat → Int32) × (Nat → Int32))) (r_isSum : (Nat → Int32) → (Nat → Int32) → (Nat → Int32) → (Nat → Int32) → (Nat → Int32) → (Nat → Int32) → (Nat → Int32) → (Nat → Int32) → (Nat → Int32) → Option (Bool × (Nat → Int32) × (Nat → Int32) × (Nat → Int32) × (Nat → Int32) × (Nat → Int32))) (mt : Nat → Int32) (kn : Nat → Int32) (mf : Nat → Int32) (mm : Nat → Int32) : Nat → (Nat → Int32) → (Nat → Int32) → (Nat → Int32) → (Nat → Int32) → (Nat → Int32) → Option (Nat × (Nat → Int32) × (Nat → Int32) × (Nat → Int32) × (Nat → Int32) × (Nat → Int32))
  | 0, _, _, _, _, _ => none
  | fu + 1, md, mr, mp, pc, pw =>
    (f_X15_eat md kn (25 : Int32)).bind fun r1 =>
    if (q_bz r1.1) = 0 then
    some (0, r1.2, mr, mp, pc, pw)
    else
    (f_X15_isSingle r_isSingle r_isTest r_isValue r_isSum r1.2 mt kn mf mm mr mp pc pw).bind fun r3 =>
    if ¬ (q_bz r3.1) = 0 then
    (f_X15_put r3.2.2.2.1 r3.2.2.2.2.1 (25 : Int32)).bind fun r5 =>
    f_X15_isBoth_L5 r_isSingle r_isTest r_isValue r_isSum mt kn mf mm fu r3.2.1 r3.2.2.1 r5.1 r5.2 r3.2.2.2.2.2
    else
    some (1, r3.2.1, r3.2.2.1, r3.2.2.2.1, r3.2.2.2.2.1, r3.2.2.2.2.2)
def f_X15_isBoth (r_isSingle : (Nat → Int32) → (Nat → Int32) → (Nat → Int32) → (Nat → Int32) → (Nat → Int32) → (Nat → Int32) → (Nat → Int32) → (Nat → Int32) → (Nat → Int32) → Option (Bool × (Nat → Int32) × (Nat → Int32) × (Nat → Int32) × (Nat → Int32) × (Nat → Int32))) (r_isTest : (Nat → Int32) → (Nat → Int32) → (Nat → Int32) → (Nat → Int32) → (Nat → Int32) → (Nat → Int32) → (Nat → Int32) → (Nat → Int32) → (Nat → Int32) → Option (Bool × (Nat → Int32) × (Nat → Int32) × (Nat → Int32) × (Nat → Int32) × (Nat → Int32))) (r_isValue : (Nat → Int32) → (Nat → Int32) → (Nat → Int32) → (Nat → Int32) → (Nat → Int32) → (Nat → Int32) → (Nat → Int32) → (Nat → Int32) → (Nat → Int32) → Option (Bool × (Nat → Int32) × (Nat → Int32) × (Nat → Int32) × (Nat → Int32) × (Nat → Int32))) (r_isSum : (Nat → Int32) → (Nat → Int32) → (Nat → Int32) → (Nat → Int32) → (Nat → Int32) → (Nat → Int32) → (Nat → Int32) → (Nat → Int32) → (Nat → Int32) → Option (Bool × (Nat → Int32) × (Nat → Int32) × (Nat → Int32) × (Nat → Int32) × (Nat → Int32))) (md : Nat → Int32) (mt : Nat → Int32) (kn : Nat → Int32) (mf : Nat → Int32) (mm : Nat → Int32) (mr : Nat → Int32) (mp : Nat → Int32) (pc : Nat → Int32) (pw : Nat → Int32) : Option (Bool × (Nat → Int32) × (Nat → Int32) × (Nat → Int32) × (Nat → Int32) × (Nat → Int32)) :=
  (f_X15_isSingle r_isSingle r_isTest r_isValue r_isSum md mt kn mf mm mr mp pc pw).bind fun r6 =>
  if ¬ (q_bz r6.1) = 0 then
  (f_X15_isBoth_L5 r_isSingle r_isTest r_isValue r_isSum mt kn mf mm 4096 r6.2.1 r6.2.2.1 r6.2.2.2.1 r6.2.2.2.2.1 r6.2.2.2.2.2).bind fun r8 =>
  if r8.1 = 0 then
  some (true, r8.2.1, r8.2.2.1, r8.2.2.2.1, r8.2.2.2.2.1, r8.2.2.2.2.2)
  else
  some (false, r8.2.1, r8.2.2.1, r8.2.2.2.1, r8.2.2.2.2.1, r8.2.2.2.2.2)
  else
  some (false, r6.2.1, r6.2.2.1, r6.2.2.2.1, r6.2.2.2.2.1, r6.2.2.2.2.2)
def f_X15_isTest_L5 (r_isSingle : (Nat → Int32) → (Nat → Int32) → (Nat → Int32) → (Nat → Int32) → (Nat → Int32) → (Nat → Int32) → (Nat → Int32) → (Nat → Int32) → (Nat → Int32) → Option (Bool × (Nat → Int32) × (Nat → Int32) × (Nat → Int32) × (Nat → Int32) × (Nat → Int32))) (r_isTest : (Nat → Int32) → (Nat → Int32) → (Nat → Int32) → (Nat → Int32) → (Nat → Int32) → (Nat → Int32) → (Nat → Int32) → (Nat → Int32) → (Nat → Int32) → Option (Bool × (Nat → Int32) × (Nat → Int32) × (Nat → Int32) × (Nat → Int32) × (Nat → Int32))) (r_isValue : (Nat → Int32) → (Nat → Int32) → (Nat → Int32) → (Nat → Int32) → (Nat → Int32) → (Nat → Int32) → (Nat → Int32) → (Nat → Int32) → (Nat → Int32) → Option (Bool × (Nat → Int32) × (Nat → Int32) × (Nat → Int32) × (Nat → Int32) × (Nat → Int32))) (r_isSum : (Nat → Int32) → (Nat → Int32) → (Nat → Int32) → (Nat → Int32) → (Nat → Int32) → (Nat → Int32) → (Nat → Int32) → (Nat → Int32) → (Nat → Int32) → Option (Bool × (Nat → Int32) × (Nat → Int32) × (Nat → Int32) × (Nat → Int32) × (Nat → Int32))) (mt : Nat → Int32) (kn : Nat → Int32) (mf : Nat → Int32) (mm : Nat → Int32) : Nat → (Nat → Int32) → (Nat → Int32) → (Nat → Int32) → (Nat → Int32) → (Nat → Int32) → Option (Nat × (Nat → Int32) × (Nat → Int32) × (Nat → Int32) × (Nat → Int32) × (Nat → Int32))
  | 0, _, _, _, _, _ => none
  | fu + 1, md, mr, mp, pc, pw =>
    (f_X15_eat md kn (26 : Int32)).bind fun r1 =>
    if (q_bz r1.1) = 0 then
    some (0, r1.2, mr, mp, pc, pw)
    else
    (f_X15_isBoth r_isSingle r_isTest r_isValue r_isSum r1.2 mt kn mf mm mr mp pc pw).bind fun r3 =>
    if ¬ (q_bz r3.1) = 0 then
    (f_X15_put r3.2.2.2.1 r3.2.2.2.2.1 (26 : Int32)).bind fun r5 =>
    f_X15_isTest_L5 r_isSingle r_isTest r_isValue r_isSum mt kn mf mm fu r3.2.1 r3.2.2.1 r5.1 r5.2 r3.2.2.2.2.2
    else
    some (1, r3.2.1, r3.2.2.1, r3.2.2.2.1, r3.2.2.2.2.1, r3.2.2.2.2.2)
def f_X15_isTest (r_isSingle : (Nat → Int32) → (Nat → Int32) → (Nat → Int32) → (Nat → Int32) → (Nat → Int32) → (Nat → Int32) → (Nat → Int32) → (Nat → Int32) → (Nat → Int32) → Option (Bool × (Nat → Int32) × (Nat → Int32) × (Nat → Int32) × (Nat → Int32) × (Nat → Int32))) (r_isTest : (Nat → Int32) → (Nat → Int32) → (Nat → Int32) → (Nat → Int32) → (Nat → Int32) → (Nat → Int32) → (Nat → Int32) → (Nat → Int32) → (Nat → Int32) → Option (Bool × (Nat → Int32) × (Nat → Int32) × (Nat → Int32) × (Nat → Int32) × (Nat → Int32))) (r_isValue : (Nat → Int32) → (Nat → Int32) → (Nat → Int32) → (Nat → Int32) → (Nat → Int32) → (Nat → Int32) → (Nat → Int32) → (Nat → Int32) → (Nat → Int32) → Option (Bool × (Nat → Int32) × (Nat → Int32) × (Nat → Int32) × (Nat → Int32) × (Nat → Int32))) (r_isSum : (Nat → Int32) → (Nat → Int32) → (Nat → Int32) → (Nat → Int32) → (Nat → Int32) → (Nat → Int32) → (Nat → Int32) → (Nat → Int32) → (Nat → Int32) → Option (Bool × (Nat → Int32) × (Nat → Int32) × (Nat → Int32) × (Nat → Int32) × (Nat → Int32))) (md : Nat → Int32) (mt : Nat → Int32) (kn : Nat → Int32) (mf : Nat → Int32) (mm : Nat → Int32) (mr : Nat → Int32) (mp : Nat → Int32) (pc : Nat → Int32) (pw : Nat → Int32) : Option (Bool × (Nat → Int32) × (Nat → Int32) × (Nat → Int32) × (Nat → Int32) × (Nat → Int32)) :=
  (f_X15_isBoth r_isSingle r_isTest r_isValue r_isSum md mt kn mf mm mr mp pc pw).bind fun r6 =>
  if ¬ (q_bz r6.1) = 0 then
  (f_X15_isTest_L5 r_isSingle r_isTest r_isValue r_isSum mt kn mf mm 4096 r6.2.1 r6.2.2.1 r6.2.2.2.1 r6.2.2.2.2.1 r6.2.2.2.2.2).bind fun r8 =>
  if r8.1 = 0 then
  some (true, r8.2.1, r8.2.2.1, r8.2.2.2.1, r8.2.2.2.2.1, r8.2.2.2.2.2)
  else
  some (false, r8.2.1, r8.2.2.1, r8.2.2.2.1, r8.2.2.2.2.1, r8.2.2.2.2.2)
  else
  some (false, r6.2.1, r6.2.2.1, r6.2.2.2.1, r6.2.2.2.2.1, r6.2.2.2.2.2)
def k_P : Nat → ((Nat → Int32) → (Nat → Int32) → (Nat → Int32) → (Nat → Int32) → (Nat → Int32) → (Nat → Int32) → (Nat → Int32) → (Nat → Int32) → (Nat → Int32) → Option (Bool × (Nat → Int32) × (Nat → Int32) × (Nat → Int32) × (Nat → Int32) × (Nat → Int32))) × ((Nat → Int32) → (Nat → Int32) → (Nat → Int32) → (Nat → Int32) → (Nat → Int32) → (Nat → Int32) → (Nat → Int32) → (Nat → Int32) → (Nat → Int32) → Option (Bool × (Nat → Int32) × (Nat → Int32) × (Nat → Int32) × (Nat → Int32) × (Nat → Int32))) × ((Nat → Int32) → (Nat → Int32) → (Nat → Int32) → (Nat → Int32) → (Nat → Int32) → (Nat → Int32) → (Nat → Int32) → (Nat → Int32) → (Nat → Int32) → Option (Bool × (Nat → Int32) × (Nat → Int32) × (Nat → Int32) × (Nat → Int32) × (Nat → Int32))) × ((Nat → Int32) → (Nat → Int32) → (Nat → Int32) → (Nat → Int32) → (Nat → Int32) → (Nat → Int32) → (Nat → Int32) → (Nat → Int32) → (Nat → Int32) → Option (Bool × (Nat → Int32) × (Nat → Int32) × (Nat → Int32) × (Nat → Int32) × (Nat → Int32)))
  | 0 => (fun _ _ _ _ _ _ _ _ _ => none, fun _ _ _ _ _ _ _ _ _ => none, fun _ _ _ _ _ _ _ _ _ => none, fun _ _ _ _ _ _ _ _ _ => none)
  | n + 1 => (f_X15_isValue (k_P n).1 (k_P n).2.1, f_X15_isSum (k_P n).1 (k_P n).2.1, f_X15_isSingle (k_P n).2.2.1 (k_P n).2.2.2 (k_P n).1 (k_P n).2.1, f_X15_isTest (k_P n).2.2.1 (k_P n).2.2.2 (k_P n).1 (k_P n).2.1)
def k_isValue (n : Nat) : (Nat → Int32) → (Nat → Int32) → (Nat → Int32) → (Nat → Int32) → (Nat → Int32) → (Nat → Int32) → (Nat → Int32) → (Nat → Int32) → (Nat → Int32) → Option (Bool × (Nat → Int32) × (Nat → Int32) × (Nat → Int32) × (Nat → Int32) × (Nat → Int32)) := (k_P n).1
def k_isSum (n : Nat) : (Nat → Int32) → (Nat → Int32) → (Nat → Int32) → (Nat → Int32) → (Nat → Int32) → (Nat → Int32) → (Nat → Int32) → (Nat → Int32) → (Nat → Int32) → Option (Bool × (Nat → Int32) × (Nat → Int32) × (Nat → Int32) × (Nat → Int32) × (Nat → Int32)) := (k_P n).2.1
def k_isSingle (n : Nat) : (Nat → Int32) → (Nat → Int32) → (Nat → Int32) → (Nat → Int32) → (Nat → Int32) → (Nat → Int32) → (Nat → Int32) → (Nat → Int32) → (Nat → Int32) → Option (Bool × (Nat → Int32) × (Nat → Int32) × (Nat → Int32) × (Nat → Int32) × (Nat → Int32)) := (k_P n).2.2.1
def k_isTest (n : Nat) : (Nat → Int32) → (Nat → Int32) → (Nat → Int32) → (Nat → Int32) → (Nat → Int32) → (Nat → Int32) → (Nat → Int32) → (Nat → Int32) → (Nat → Int32) → Option (Bool × (Nat → Int32) × (Nat → Int32) × (Nat → Int32) × (Nat → Int32) × (Nat → Int32)) := (k_P n).2.2.2
def f_X15_isRope (md : Nat → Int32) (kn : Nat → Int32) (mr : Nat → Int32) : Option (Bool × (Nat → Int32) × (Nat → Int32)) :=
  (f_X15_eat md kn (8 : Int32)).bind fun r1 =>
  if (q_bz r1.1) = 0 then
  some (false, r1.2, mr)
  else
  (f_X15_eatAs r1.2 kn mr (41 : Int32) (9 : Int32)).bind fun r3 =>
  if (q_bz r3.1) = 0 then
  some (false, r3.2.1, r3.2.2)
  else
  some (true, r3.2.1, r3.2.2)
def f_X15_isRest (md : Nat → Int32) (mt : Nat → Int32) (kn : Nat → Int32) (mf : Nat → Int32) (mm : Nat → Int32) (mr : Nat → Int32) (mp : Nat → Int32) (pc : Nat → Int32) (pw : Nat → Int32) (x1 : Int32) : Option (Bool × (Nat → Int32) × (Nat → Int32) × (Nat → Int32) × (Nat → Int32) × (Nat → Int32)) :=
  if x1 = 4 then
  (f_X15_eat md kn (5 : Int32)).bind fun r1 =>
  if (q_bz r1.1) = 0 then
  some (false, r1.2, mr, mp, pc, pw)
  else
  (f_X15_isSum (k_isValue 12) (k_isSum 12) r1.2 mt kn mf mm mr mp pc pw).bind fun r3 =>
  if (q_bz r3.1) = 0 then
  some (false, r3.2.1, r3.2.2.1, r3.2.2.2.1, r3.2.2.2.2.1, r3.2.2.2.2.2)
  else
  (f_X15_eat r3.2.1 kn (6 : Int32)).bind fun r5 =>
  if (q_bz r5.1) = 0 then
  some (false, r5.2, r3.2.2.1, r3.2.2.2.1, r3.2.2.2.2.1, r3.2.2.2.2.2)
  else
  (f_X15_eatAs r5.2 kn r3.2.2.1 (41 : Int32) (9 : Int32)).bind fun r7 =>
  if (q_bz r7.1) = 0 then
  some (false, r7.2.1, r7.2.2, r3.2.2.2.1, r3.2.2.2.2.1, r3.2.2.2.2.2)
  else
  some (true, r7.2.1, r7.2.2, r3.2.2.2.1, r3.2.2.2.2.1, r3.2.2.2.2.2)
  else
  if x1 = 5 then
  some (true, md, mr, mp, pc, pw)
  else
  if x1 = 6 then
  some (true, md, mr, mp, pc, pw)
  else
  if x1 = 7 then
  (f_X15_isRope md kn mr).bind fun r9 =>
  if (q_bz r9.1) = 0 then
  some (false, r9.2.1, r9.2.2, mp, pc, pw)
  else
  (f_X15_eat r9.2.1 kn (9 : Int32)).bind fun r11 =>
  if (q_bz r11.1) = 0 then
  some (false, r11.2, r9.2.2, mp, pc, pw)
  else
  (f_X15_eatAs r11.2 kn r9.2.2 (40 : Int32) (4 : Int32)).bind fun r13 =>
  if (q_bz r13.1) = 0 then
  some (false, r13.2.1, r13.2.2, mp, pc, pw)
  else
  some (true, r13.2.1, r13.2.2, mp, pc, pw)
  else
  if x1 = 8 then
  some (true, md, mr, mp, pc, pw)
  else
  if x1 = 9 then
  some (true, md, mr, mp, pc, pw)
  else
  if x1 = 10 then
  (f_X15_isRope md kn mr).bind fun r15 =>
  some (r15.1, r15.2.1, r15.2.2, mp, pc, pw)
  else
  if x1 = 11 then
  (f_X15_eat md kn (12 : Int32)).bind fun r16 =>
  if (q_bz r16.1) = 0 then
  some (false, r16.2, mr, mp, pc, pw)
  else
  (f_X15_eatAs r16.2 kn mr (40 : Int32) (4 : Int32)).bind fun r18 =>
  if (q_bz r18.1) = 0 then
  some (false, r18.2.1, r18.2.2, mp, pc, pw)
  else
  (f_X15_isRope r18.2.1 kn r18.2.2).bind fun r20 =>
  if (q_bz r20.1) = 0 then
  some (false, r20.2.1, r20.2.2, mp, pc, pw)
  else
  some (true, r20.2.1, r20.2.2, mp, pc, pw)
  else
  some (true, md, mr, mp, pc, pw)
def f_X15_isStep (md : Nat → Int32) (mt : Nat → Int32) (kn : Nat → Int32) (mf : Nat → Int32) (mm : Nat → Int32) (mr : Nat → Int32) (mp : Nat → Int32) (ps : Nat → Int32) (pt : Nat → Int32) (pe : Nat → Int32) (pc : Nat → Int32) (pw : Nat → Int32) (x1 : Int32) : Option (Bool × (Nat → Int32) × (Nat → Int32) × (Nat → Int32) × (Nat → Int32) × (Nat → Int32) × (Nat → Int32) × (Nat → Int32) × (Nat → Int32)) :=
  (q_ix (md 9) 401).bind fun j1 =>
  (f_X15_eatAs (q_up md 9 ((md 9) + (1 : Int32))) kn (q_up mr j1 (2 : Int32)) (40 : Int32) (3 : Int32)).bind fun r2 =>
  if ¬ (q_bz r2.1) = 0 then
  (q_ix (q_min (mp 5) (20 : Int32)) 21).bind fun j4 =>
  (f_X15_isRest r2.2.1 mt kn mf mm r2.2.2 (q_up mp 5 ((mp 5) + (1 : Int32))) pc pw x1).bind fun r5 =>
  if ¬ (q_bz r5.1) = 0 then
  (q_ix (q_min (mp 5) (20 : Int32)) 21).bind fun j7 =>
  (f_X15_eat r5.2.1 kn (15 : Int32)).bind fun r8 =>
  if (q_bz r8.1) = 0 then
  (q_ix (q_min (mp 5) (20 : Int32)) 21).bind fun j10 =>
  some (true, r8.2, r5.2.2.1, r5.2.2.2.1, (q_up ps j4 ((q_up mp 5 ((mp 5) + (1 : Int32))) 14)), (q_up pt j7 (r5.2.2.2.1 14)), (q_up pe j10 (r5.2.2.2.1 14)), r5.2.2.2.2.1, r5.2.2.2.2.2)
  else
  (f_X15_isTest (k_isSingle 12) (k_isTest 12) (k_isValue 12) (k_isSum 12) r8.2 mt kn mf mm r5.2.2.1 r5.2.2.2.1 r5.2.2.2.2.1 r5.2.2.2.2.2).bind fun r11 =>
  if ¬ (q_bz r11.1) = 0 then
  (q_ix (q_min (mp 5) (20 : Int32)) 21).bind fun j13 =>
  some (true, r11.2.1, r11.2.2.1, r11.2.2.2.1, (q_up ps j4 ((q_up mp 5 ((mp 5) + (1 : Int32))) 14)), (q_up pt j7 (r5.2.2.2.1 14)), (q_up pe j13 (r11.2.2.2.1 14)), r11.2.2.2.2.1, r11.2.2.2.2.2)
  else
  some (false, r11.2.1, r11.2.2.1, r11.2.2.2.1, (q_up ps j4 ((q_up mp 5 ((mp 5) + (1 : Int32))) 14)), (q_up pt j7 (r5.2.2.2.1 14)), pe, r11.2.2.2.2.1, r11.2.2.2.2.2)
  else
  some (false, r5.2.1, r5.2.2.1, r5.2.2.2.1, (q_up ps j4 ((q_up mp 5 ((mp 5) + (1 : Int32))) 14)), pt, pe, r5.2.2.2.2.1, r5.2.2.2.2.2)
  else
  some (false, r2.2.1, r2.2.2, (q_up mp 5 ((mp 5) + (1 : Int32))), ps, pt, pe, pc, pw)
def f_X15_isLine (md : Nat → Int32) (mt : Nat → Int32) (kn : Nat → Int32) (mf : Nat → Int32) (mm : Nat → Int32) (mr : Nat → Int32) (mp : Nat → Int32) (ps : Nat → Int32) (pt : Nat → Int32) (pe : Nat → Int32) (pc : Nat → Int32) (pw : Nat → Int32) : Option (Bool × (Nat → Int32) × (Nat → Int32) × (Nat → Int32) × (Nat → Int32) × (Nat → Int32) × (Nat → Int32) × (Nat → Int32) × (Nat → Int32)) :=
  (q_ix (md 9) 401).bind fun j1 =>
  if (kn j1) = (4 : Int32) then
  (f_X15_isStep md mt kn mf mm mr mp ps pt pe pc pw (kn j1)).bind fun r3 =>
  some (r3.1, r3.2.1, r3.2.2.1, r3.2.2.2.1, r3.2.2.2.2.1, r3.2.2.2.2.2.1, r3.2.2.2.2.2.2.1, r3.2.2.2.2.2.2.2.1, r3.2.2.2.2.2.2.2.2)
  else
  if (kn j1) = (7 : Int32) then
  (f_X15_isStep md mt kn mf mm mr mp ps pt pe pc pw (kn j1)).bind fun r5 =>
  some (r5.1, r5.2.1, r5.2.2.1, r5.2.2.2.1, r5.2.2.2.2.1, r5.2.2.2.2.2.1, r5.2.2.2.2.2.2.1, r5.2.2.2.2.2.2.2.1, r5.2.2.2.2.2.2.2.2)
  else
  if (kn j1) = (10 : Int32) then
  (f_X15_isStep md mt kn mf mm mr mp ps pt pe pc pw (kn j1)).bind fun r7 =>
  some (r7.1, r7.2.1, r7.2.2.1, r7.2.2.2.1, r7.2.2.2.2.1, r7.2.2.2.2.2.1, r7.2.2.2.2.2.2.1, r7.2.2.2.2.2.2.2.1, r7.2.2.2.2.2.2.2.2)
  else
  if (kn j1) = (11 : Int32) then
  (f_X15_isStep md mt kn mf mm mr mp ps pt pe pc pw (kn j1)).bind fun r9 =>
  some (r9.1, r9.2.1, r9.2.2.1, r9.2.2.2.1, r9.2.2.2.2.1, r9.2.2.2.2.2.1, r9.2.2.2.2.2.2.1, r9.2.2.2.2.2.2.2.1, r9.2.2.2.2.2.2.2.2)
  else
  if ¬ (kn j1) = (14 : Int32) then
  if (kn j1) ≤ (3 : Int32) then
  if ¬ (kn j1) = (3 : Int32) then
  if ¬ (kn j1) = 0 then
  if ¬ (kn j1) = (1 : Int32) then
  (f_X15_eatAs (q_up md 9 ((md 9) + (1 : Int32))) kn mr (41 : Int32) (8 : Int32)).bind fun r15 =>
  some (r15.1, r15.2.1, r15.2.2, mp, ps, pt, pe, pc, pw)
  else
  (f_X15_eatAs (q_up md 9 ((md 9) + (1 : Int32))) kn mr (41 : Int32) (7 : Int32)).bind fun r16 =>
  some (r16.1, r16.2.1, r16.2.2, mp, ps, pt, pe, pc, pw)
  else
  (f_X15_eatAs (q_up md 9 ((md 9) + (1 : Int32))) kn mr (41 : Int32) (6 : Int32)).bind fun r17 =>
  some (r17.1, r17.2.1, r17.2.2, mp, ps, pt, pe, pc, pw)
  else
  (f_X15_eatAs (q_up md 9 ((md 9) + (1 : Int32))) kn mr (40 : Int32) (1 : Int32)).bind fun r18 =>
  some (r18.1, r18.2.1, r18.2.2, mp, ps, pt, pe, pc, pw)
  else
  some (false, md, mr, mp, ps, pt, pe, pc, pw)
  else
  (f_X15_isStep md mt kn mf mm mr mp ps pt pe pc pw (kn j1)).bind fun r19 =>
  some (r19.1, r19.2.1, r19.2.2.1, r19.2.2.2.1, r19.2.2.2.2.1, r19.2.2.2.2.2.1, r19.2.2.2.2.2.2.1, r19.2.2.2.2.2.2.2.1, r19.2.2.2.2.2.2.2.2)
def f_X15_isBarn_L0 (mt : Nat → Int32) (kn : Nat → Int32) (mf : Nat → Int32) (mm : Nat → Int32) : Nat → (Nat → Int32) → (Nat → Int32) → (Nat → Int32) → (Nat → Int32) → (Nat → Int32) → (Nat → Int32) → (Nat → Int32) → (Nat → Int32) → Option (Nat × (Nat → Int32) × (Nat → Int32) × (Nat → Int32) × (Nat → Int32) × (Nat → Int32) × (Nat → Int32) × (Nat → Int32) × (Nat → Int32))
  | 0, _, _, _, _, _, _, _, _ => none
  | fu + 1, md, mr, mp, ps, pt, pe, pc, pw =>
    (f_X15_is md kn (900 : Int32)).bind fun r1 =>
    if ¬ (q_bz r1) = 0 then
    some (0, md, mr, mp, ps, pt, pe, pc, pw)
    else
    (f_X15_isLine md mt kn mf mm mr mp ps pt pe pc pw).bind fun r3 =>
    if (q_bz r3.1) = 0 then
    some (1, r3.2.1, r3.2.2.1, r3.2.2.2.1, r3.2.2.2.2.1, r3.2.2.2.2.2.1, r3.2.2.2.2.2.2.1, r3.2.2.2.2.2.2.2.1, r3.2.2.2.2.2.2.2.2)
    else
    (f_X15_eatSign r3.2.1 kn (59 : Int32)).bind fun r5 =>
    if ¬ (q_bz r5.1) = 0 then
    f_X15_isBarn_L0 mt kn mf mm fu r5.2 r3.2.2.1 r3.2.2.2.1 r3.2.2.2.2.1 r3.2.2.2.2.2.1 r3.2.2.2.2.2.2.1 r3.2.2.2.2.2.2.2.1 r3.2.2.2.2.2.2.2.2
    else
    some (1, r5.2, r3.2.2.1, r3.2.2.2.1, r3.2.2.2.2.1, r3.2.2.2.2.2.1, r3.2.2.2.2.2.2.1, r3.2.2.2.2.2.2.2.1, r3.2.2.2.2.2.2.2.2)
def f_X15_isBarn (md : Nat → Int32) (mt : Nat → Int32) (kn : Nat → Int32) (mf : Nat → Int32) (mm : Nat → Int32) (mr : Nat → Int32) (mp : Nat → Int32) (ps : Nat → Int32) (pt : Nat → Int32) (pe : Nat → Int32) (pc : Nat → Int32) (pw : Nat → Int32) : Option (Bool × (Nat → Int32) × (Nat → Int32) × (Nat → Int32) × (Nat → Int32) × (Nat → Int32) × (Nat → Int32) × (Nat → Int32) × (Nat → Int32)) :=
  (f_X15_isBarn_L0 mt kn mf mm 4096 md mr mp ps pt pe pc pw).bind fun r7 =>
  if r7.1 = 0 then
  some (true, r7.2.1, r7.2.2.1, r7.2.2.2.1, r7.2.2.2.2.1, r7.2.2.2.2.2.1, r7.2.2.2.2.2.2.1, r7.2.2.2.2.2.2.2.1, r7.2.2.2.2.2.2.2.2)
  else
  some (false, r7.2.1, r7.2.2.1, r7.2.2.2.1, r7.2.2.2.2.1, r7.2.2.2.2.2.1, r7.2.2.2.2.2.2.1, r7.2.2.2.2.2.2.2.1, r7.2.2.2.2.2.2.2.2)
def f_X15_isSame_L13 (mt : Nat → Int32) (mf : Nat → Int32) (mm : Nat → Int32) (v1 : Int32) (v2 : Int32) : Nat → Int32 → Option (Nat)
  | 0, _ => none
  | fu + 1, v3 =>
    (q_ix v1 401).bind fun j1 =>
    if (mm j1) ≤ v3 then
    some (0)
    else
    (q_ix v1 401).bind fun j3 =>
    (q_ix ((mf j3) + v3) 2000).bind fun j4 =>
    (q_ix v2 401).bind fun j5 =>
    (q_ix ((mf j5) + v3) 2000).bind fun j6 =>
    if (mt j4) = (mt j6) then
    f_X15_isSame_L13 mt mf mm v1 v2 fu (v3 + 1)
    else
    some (1)
def f_X15_isSame (mt : Nat → Int32) (mf : Nat → Int32) (mm : Nat → Int32) (x1 : Int32) (x2 : Int32) : Option (Bool) :=
  (q_ix x1 401).bind fun j8 =>
  (q_ix x2 401).bind fun j9 =>
  if (mm j8) = (mm j9) then
  (f_X15_isSame_L13 mt mf mm x1 x2 4096 (0 : Int32)).bind fun r11 =>
  if r11 = 0 then
  some (true)
  else
  some (false)
  else
  some (false)
def f_X15_told_L4 (mt : Nat → Int32) (mf : Nat → Int32) (mm : Nat → Int32) (mr : Nat → Int32) (v1 : Int32) (v2 : Int32) : Nat → Int32 → Int32 → Option (Nat × Int32)
  | 0, _, _ => none
  | fu + 1, v3, v4 =>
    if v1 ≤ v4 then
    some (0, 0)
    else
    (q_ix v4 401).bind fun j2 =>
    if (mr j2) = v2 then
    (f_X15_isSame mt mf mm v4 v1).bind fun r4 =>
    if (q_bz r4) = 0 then
    f_X15_told_L4 mt mf mm mr v1 v2 fu (v3 + 1) (v4 + 1)
    else
    some (1, v3)
    else
    f_X15_told_L4 mt mf mm mr v1 v2 fu v3 (v4 + 1)
def f_X15_told (mt : Nat → Int32) (mf : Nat → Int32) (mm : Nat → Int32) (mr : Nat → Int32) (x1 : Int32) (x2 : Int32) : Option (Int32) :=
  (f_X15_told_L4 mt mf mm mr x1 x2 4096 (0 : Int32) (0 : Int32)).bind fun r6 =>
  if r6.1 = 0 then
  some ((-1 : Int32))
  else
  some (r6.2)
def f_X15_isNew (mt : Nat → Int32) (mf : Nat → Int32) (mm : Nat → Int32) (mr : Nat → Int32) (x1 : Int32) (x2 : Int32) (x3 : Int32) : Option (Int32) :=
  (q_ix x1 401).bind fun j1 =>
  (f_X15_told mt mf mm mr x1 (mr j1)).bind fun r2 =>
  if r2 = (-1 : Int32) then
  if ¬ x2 = x3 then
  some ((0 : Int32))
  else
  some ((4 : Int32))
  else
  some ((2 : Int32))
def f_X15_newHook (mt : Nat → Int32) (mf : Nat → Int32) (mm : Nat → Int32) (mr : Nat → Int32) (mp : Nat → Int32) (x1 : Int32) : Option (Int32 × (Nat → Int32)) :=
  (f_X15_isNew mt mf mm mr x1 (mp 0) (6 : Int32)).bind fun r1 =>
  if ¬ r1 = 0 then
  some (r1, (q_up mp 0 ((mp 0) + (0 : Int32))))
  else
  some (r1, (q_up mp 0 ((mp 0) + (1 : Int32))))
def f_X15_newStep (mp : Nat → Int32) (pd : Nat → Int32) (x1 : Int32) : Option (Int32 × (Nat → Int32) × (Nat → Int32)) :=
  if ¬ (mp 4) = (20 : Int32) then
  (q_ix (mp 4) 20).bind fun j2 =>
  some ((0 : Int32), (q_up mp 4 ((mp 4) + (1 : Int32))), (q_up pd j2 x1))
  else
  some ((4 : Int32), mp, pd)
def f_X15_look (mt : Nat → Int32) (mf : Nat → Int32) (mm : Nat → Int32) (mr : Nat → Int32) (me : Nat → Int32) (x1 : Int32) (x2 : Int32) : Option (Int32 × (Nat → Int32)) :=
  (f_X15_told mt mf mm mr x1 x2).bind fun r1 =>
  (q_ix x1 401).bind fun j2 =>
  (q_ix x1 401).bind fun j3 =>
  if ¬ ((q_up me j2 r1) j3) = (-1 : Int32) then
  some ((0 : Int32), (q_up me j2 r1))
  else
  some ((3 : Int32), (q_up me j2 r1))
def f_X15_ofStep (mt : Nat → Int32) (mf : Nat → Int32) (mm : Nat → Int32) (mr : Nat → Int32) (me : Nat → Int32) (mp : Nat → Int32) (po : Nat → Int32) (pq : Nat → Int32) (x1 : Int32) : Option (Int32 × (Nat → Int32) × (Nat → Int32) × (Nat → Int32)) :=
  (f_X15_look mt mf mm mr me x1 (1 : Int32)).bind fun r1 =>
  (q_ix x1 401).bind fun j2 =>
  if ¬ (mr j2) = (3 : Int32) then
  (q_ix x1 401).bind fun j4 =>
  (q_ix ((mp 4) - (1 : Int32)) 20).bind fun j5 =>
  some (r1.1, r1.2, po, (q_up pq j5 (r1.2 j4)))
  else
  (q_ix x1 401).bind fun j6 =>
  (q_ix ((mp 4) - (1 : Int32)) 20).bind fun j7 =>
  some (r1.1, r1.2, (q_up po j7 (r1.2 j6)), pq)
def f_X15_inRange (mt : Nat → Int32) (mf : Nat → Int32) (mm : Nat → Int32) (x1 : Int32) (x2 : Int32) (x3 : Int32) : Option (Int32) :=
  (f_X15_numberAt mt mf mm x1).bind fun r1 =>
  (f_X15_isIn r1 x2 x3).bind fun r2 =>
  if (q_bz r2) = 0 then
  some ((5 : Int32))
  else
  some ((0 : Int32))
def f_X15_number (mt : Nat → Int32) (mf : Nat → Int32) (mm : Nat → Int32) (mr : Nat → Int32) (mp : Nat → Int32) (pr : Nat → Int32) (x1 : Int32) : Option (Int32 × (Nat → Int32) × (Nat → Int32)) :=
  (f_X15_numberAt mt mf mm x1).bind fun r1 =>
  (q_ix x1 401).bind fun j2 =>
  if (mr j2) = 6 then
  (f_X15_inRange mt mf mm x1 (8 : Int32) (64 : Int32)).bind fun r3 =>
  some (r3, (q_up mp 1 r1), pr)
  else
  if (mr j2) = 7 then
  (f_X15_inRange mt mf mm x1 (0 : Int32) (64 : Int32)).bind fun r4 =>
  some (r4, (q_up mp 2 r1), pr)
  else
  if (mr j2) = 8 then
  (f_X15_inRange mt mf mm x1 (0 : Int32) (5 : Int32)).bind fun r5 =>
  some (r5, (q_up mp 3 r1), pr)
  else
  (q_ix ((mp 4) - (1 : Int32)) 20).bind fun j6 =>
  (f_X15_inRange mt mf mm x1 (0 : Int32) (3 : Int32)).bind fun r7 =>
  some (r7, mp, (q_up pr j6 r1))
def f_X15_errorOf (mt : Nat → Int32) (kn : Nat → Int32) (mf : Nat → Int32) (mm : Nat → Int32) (mr : Nat → Int32) (me : Nat → Int32) (mp : Nat → Int32) (pd : Nat → Int32) (po : Nat → Int32) (pq : Nat → Int32) (pr : Nat → Int32) (x1 : Int32) : Option (Int32 × (Nat → Int32) × (Nat → Int32) × (Nat → Int32) × (Nat → Int32) × (Nat → Int32) × (Nat → Int32)) :=
  (q_ix x1 401).bind fun j1 =>
  if (mr j1) = 0 then
  some ((0 : Int32), me, mp, pd, po, pq, pr)
  else
  if (mr j1) = 1 then
  (f_X15_newHook mt mf mm mr mp x1).bind fun r2 =>
  some (r2.1, me, r2.2, pd, po, pq, pr)
  else
  if (mr j1) = 2 then
  (q_ix x1 401).bind fun j3 =>
  (f_X15_newStep mp pd (kn j3)).bind fun r4 =>
  some (r4.1, me, r4.2.1, r4.2.2, po, pq, pr)
  else
  if (mr j1) = 3 then
  (f_X15_ofStep mt mf mm mr me mp po pq x1).bind fun r5 =>
  some (r5.1, r5.2.1, mp, pd, r5.2.2.1, r5.2.2.2, pr)
  else
  if (mr j1) = 4 then
  (f_X15_ofStep mt mf mm mr me mp po pq x1).bind fun r6 =>
  some (r6.1, r6.2.1, mp, pd, r6.2.2.1, r6.2.2.2, pr)
  else
  if (mr j1) = 5 then
  (f_X15_look mt mf mm mr me x1 (1 : Int32)).bind fun r7 =>
  some (r7.1, r7.2, mp, pd, po, pq, pr)
  else
  (f_X15_number mt mf mm mr mp pr x1).bind fun r8 =>
  some (r8.1, me, r8.2.1, pd, po, pq, r8.2.2)
