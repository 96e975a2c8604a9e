def f_X1_place (pl : Nat → Int32) (x1 : Int32) : Option (Int32) :=
  if x1 < 0 then
  some ((0 : Int32))
  else
  if (128 : Int32) ≤ x1 then
  some ((0 : Int32))
  else
  (q_ix x1 128).bind fun j3 =>
  some ((pl j3))
def f_X1_add_L2 (ly : Nat → Int32) : Nat → Int32 → Option (Nat × Int32)
  | 0, _ => none
  | fu + 1, v4 =>
    if (128 : Int32) ≤ v4 then
    some (0, 0)
    else
    (q_ix v4 128).bind fun j2 =>
    if ¬ (ly j2) = 0 then
    f_X1_add_L2 ly fu (v4 + 1)
    else
    some (1, v4)
def f_X1_add_L37 (v4 : Int32) : Nat → (Nat → Int32) → Int32 → Option ((Nat → Int32))
  | 0, _, _ => none
  | fu + 1, ld, v5 =>
    if (3 : Int32) ≤ v5 then
    some (ld)
    else
    (q_ix ((v4 * (3 : Int32)) + v5) 384).bind fun j5 =>
    f_X1_add_L37 v4 fu (q_up ld j5 (-1 : Int32)) (v5 + 1)
def f_X1_add (ly : Nat → Int32) (pl : Nat → Int32) (sz : Nat → Int32) (ag : Nat → Int32) (rc : Nat → Int32) (ld : Nat → Int32) (x1 : Int32) (x2 : Int32) (x3 : Int32) : Option (Int32 × (Nat → Int32) × (Nat → Int32) × (Nat → Int32) × (Nat → Int32) × (Nat → Int32) × (Nat → Int32)) :=
  (f_X1_add_L2 ly 4096 (0 : Int32)).bind fun r6 =>
  if r6.1 = 0 then
  some ((-1 : Int32), ly, pl, sz, ag, rc, ld)
  else
  (q_ix r6.2 128).bind fun j7 =>
  (q_ix r6.2 128).bind fun j8 =>
  (q_ix r6.2 128).bind fun j9 =>
  (q_ix r6.2 128).bind fun j10 =>
  (q_ix r6.2 128).bind fun j11 =>
  (f_X1_add_L37 r6.2 4096 ld (0 : Int32)).bind fun r12 =>
  some (r6.2, (q_up ly j7 (1 : Int32)), (q_up pl j8 x1), (q_up sz j9 x2), (q_up ag j10 (0 : Int32)), (q_up rc j11 x3), r12)
def f_X1_hasRope (rc : Nat → Int32) (x1 : Int32) (x2 : Int32) : Option (Bool) :=
  if x1 < 0 then
  some (false)
  else
  if (128 : Int32) ≤ x1 then
  some (false)
  else
  if x2 < 0 then
  some (false)
  else
  if (3 : Int32) ≤ x2 then
  some (false)
  else
  (q_ix x1 128).bind fun j5 =>
  if (rc j5) ≤ x2 then
  some (false)
  else
  some (true)
def f_X1_lead (rc : Nat → Int32) (ld : Nat → Int32) (x1 : Int32) (x2 : Int32) : Option (Int32) :=
  (f_X1_hasRope rc x1 x2).bind fun r1 =>
  if (q_bz r1) = 0 then
  some ((-1 : Int32))
  else
  (q_ix ((x1 * (3 : Int32)) + x2) 384).bind fun j3 =>
  some ((ld j3))
def f_X1_ropes (rc : Nat → Int32) (x1 : Int32) : Option (Int32) :=
  if x1 < 0 then
  some ((0 : Int32))
  else
  if (128 : Int32) ≤ x1 then
  some ((0 : Int32))
  else
  (q_ix x1 128).bind fun j3 =>
  some ((rc j3))
def f_X1_leadCount_L4 (rc : Nat → Int32) (ld : Nat → Int32) (v1 : Int32) : Nat → Int32 → Int32 → Option (Int32)
  | 0, _, _ => none
  | fu + 1, v2, v3 =>
    (f_X1_ropes rc v1).bind fun r1 =>
    if r1 ≤ v3 then
    some (v2)
    else
    (f_X1_lead rc ld v1 v3).bind fun r3 =>
    if r3 = (-1 : Int32) then
    f_X1_leadCount_L4 rc ld v1 fu v2 (v3 + 1)
    else
    f_X1_leadCount_L4 rc ld v1 fu (v2 + 1) (v3 + 1)
def f_X1_leadCount (rc : Nat → Int32) (ld : Nat → Int32) (x1 : Int32) : Option (Int32) :=
  (f_X1_leadCount_L4 rc ld x1 4096 (0 : Int32) (0 : Int32)).bind fun r5 =>
  some (r5)
def f_X1_isGone (ly : Nat → Int32) (x1 : Int32) : Option (Bool) :=
  if x1 < 0 then
  some (true)
  else
  if (128 : Int32) ≤ x1 then
  some (true)
  else
  (q_ix x1 128).bind fun j3 =>
  if ¬ (ly j3) = 0 then
  some (false)
  else
  some (true)
def f_X1_setLead (rc : Nat → Int32) (ld : Nat → Int32) (x1 : Int32) (x2 : Int32) (x3 : Int32) : Option ((Nat → Int32)) :=
  (f_X1_hasRope rc x1 x2).bind fun r1 =>
  if (q_bz r1) = 0 then
  some (ld)
  else
  (q_ix ((x1 * (3 : Int32)) + x2) 384).bind fun j3 =>
  some ((q_up ld j3 x3))
def f_X1_untieFromGone_L7 (ly : Nat → Int32) (rc : Nat → Int32) (v1 : Int32) : Nat → (Nat → Int32) → Int32 → Option ((Nat → Int32))
  | 0, _, _ => none
  | fu + 1, ld, v2 =>
    (f_X1_ropes rc v1).bind fun r1 =>
    if r1 ≤ v2 then
    some (ld)
    else
    (f_X1_lead rc ld v1 v2).bind fun r3 =>
    (f_X1_isGone ly r3).bind fun r4 =>
    if (q_bz r4) = 0 then
    f_X1_untieFromGone_L7 ly rc v1 fu ld (v2 + 1)
    else
    (f_X1_setLead rc ld v1 v2 (-1 : Int32)).bind fun r6 =>
    f_X1_untieFromGone_L7 ly rc v1 fu r6 (v2 + 1)
def f_X1_untieFromGone_L2 (ly : Nat → Int32) (rc : Nat → Int32) : Nat → (Nat → Int32) → Int32 → Option ((Nat → Int32))
  | 0, _, _ => none
  | fu + 1, ld, v1 =>
    if (128 : Int32) ≤ v1 then
    some (ld)
    else
    (f_X1_untieFromGone_L7 ly rc v1 4096 ld (0 : Int32)).bind fun r8 =>
    f_X1_untieFromGone_L2 ly rc fu r8 (v1 + 1)
def f_X1_untieFromGone (ly : Nat → Int32) (rc : Nat → Int32) (ld : Nat → Int32) : Option ((Nat → Int32)) :=
  (f_X1_untieFromGone_L2 ly rc 4096 ld (0 : Int32)).bind fun r9 =>
  some (r9)
def f_X1_size (sz : Nat → Int32) (x1 : Int32) : Option (Int32) :=
  if x1 < 0 then
  some ((0 : Int32))
  else
  if (128 : Int32) ≤ x1 then
  some ((0 : Int32))
  else
  (q_ix x1 128).bind fun j3 =>
  some ((sz j3))
def f_X1_age (ag : Nat → Int32) (x1 : Int32) : Option (Int32) :=
  if x1 < 0 then
  some ((0 : Int32))
  else
  if (128 : Int32) ≤ x1 then
  some ((0 : Int32))
  else
  (q_ix x1 128).bind fun j3 =>
  some ((ag j3))
def f_X1_liesInHalf (ly : Nat → Int32) (x1 : Int32) : Option (Bool) :=
  if x1 < 0 then
  some (false)
  else
  if (128 : Int32) ≤ x1 then
  some (false)
  else
  (q_ix x1 128).bind fun j3 =>
  if ¬ (ly j3) = (1 : Int32) then
  some (false)
  else
  some (true)
def f_X1_liesInLoft (ly : Nat → Int32) (x1 : Int32) : Option (Bool) :=
  if x1 < 0 then
  some (false)
  else
  if (128 : Int32) ≤ x1 then
  some (false)
  else
  (q_ix x1 128).bind fun j3 =>
  if ¬ (ly j3) = (2 : Int32) then
  some (false)
  else
  some (true)
def f_X1_remove (ly : Nat → Int32) (x1 : Int32) : Option ((Nat → Int32)) :=
  if x1 < 0 then
  some (ly)
  else
  if (128 : Int32) ≤ x1 then
  some (ly)
  else
  (q_ix x1 128).bind fun j3 =>
  some ((q_up ly j3 (0 : Int32)))
def f_X1_copyTo (pl : Nat → Int32) (ag : Nat → Int32) (x1 : Int32) (x2 : Int32) : Option ((Nat → Int32) × (Nat → Int32)) :=
  if x1 < 0 then
  some (pl, ag)
  else
  if (128 : Int32) ≤ x1 then
  some (pl, ag)
  else
  (q_ix x1 128).bind fun j3 =>
  (q_ix x1 128).bind fun j4 =>
  (q_ix x1 128).bind fun j5 =>
  some ((q_up pl j3 x2), (q_up ag j5 ((ag j4) + (1 : Int32))))
def f_X1_promoteTo (ly : Nat → Int32) (pl : Nat → Int32) (x1 : Int32) (x2 : Int32) : Option ((Nat → Int32) × (Nat → Int32)) :=
  if x1 < 0 then
  some (ly, pl)
  else
  if (128 : Int32) ≤ x1 then
  some (ly, pl)
  else
  (q_ix x1 128).bind fun j3 =>
  (q_ix x1 128).bind fun j4 =>
  some ((q_up ly j4 (2 : Int32)), (q_up pl j3 x2))
