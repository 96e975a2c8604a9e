def f_X15_read_L31 (mt : Nat → Int32) (kn : Nat → Int32) (mf : Nat → Int32) (mm : Nat → Int32) (mr : Nat → Int32) (v1 : Int32) : Nat → (Nat → Int32) → (Nat → Int32) → (Nat → Int32) → (Nat → Int32) → (Nat → Int32) → (Nat → Int32) → (Nat → Int32) → Option (Nat × Int32 × (Nat → Int32) × (Nat → Int32) × (Nat → Int32) × (Nat → Int32) × (Nat → Int32) × (Nat → Int32) × (Nat → Int32))
  | 0, _, _, _, _, _, _, _ => none
  | fu + 1, md, me, mp, pd, po, pq, pr =>
    if v1 ≤ (md 9) then
    some (0, 0, md, me, mp, pd, po, pq, pr)
    else
    (f_X15_errorOf mt kn mf mm mr me mp pd po pq pr (md 9)).bind fun r2 =>
    if ¬ r2.1 = 0 then
    some (1, r2.1, md, r2.2.1, r2.2.2.1, r2.2.2.2.1, r2.2.2.2.2.1, r2.2.2.2.2.2.1, r2.2.2.2.2.2.2)
    else
    f_X15_read_L31 mt kn mf mm mr v1 fu (q_up md 9 ((md 9) + (1 : Int32))) r2.2.1 r2.2.2.1 r2.2.2.2.1 r2.2.2.2.2.1 r2.2.2.2.2.2.1 r2.2.2.2.2.2.2
def f_X15_read_L61 (me : Nat → Int32) (mp : Nat → Int32) (pw : Nat → Int32) : Nat → (Nat → Int32) → Int32 → Option ((Nat → Int32))
  | 0, _, _ => none
  | fu + 1, pc, v2 =>
    if (mp 16) ≤ v2 then
    some (pc)
    else
    (q_ix v2 400).bind fun j5 =>
    (q_ix v2 400).bind fun j6 =>
    (q_ix (pw j6) 800).bind fun j7 =>
    (q_ix (pc j7) 401).bind fun j8 =>
    (q_ix (pw j5) 800).bind fun j9 =>
    f_X15_read_L61 me mp pw fu (q_up pc j9 (me j8)) (v2 + 1)
def f_X15_read (md : Nat → Int32) (mt : Nat → Int32) (kn : Nat → Int32) (mf : Nat → Int32) (mm : Nat → Int32) (mr : Nat → Int32) (me : Nat → Int32) (mp : Nat → Int32) (pd : Nat → Int32) (po : Nat → Int32) (pq : Nat → Int32) (pr : Nat → Int32) (ps : Nat → Int32) (pt : Nat → Int32) (pe : Nat → Int32) (pc : Nat → Int32) (pw : Nat → Int32) : Option (Int32 × (Nat → Int32) × (Nat → Int32) × (Nat → Int32) × (Nat → Int32) × (Nat → Int32) × (Nat → Int32) × (Nat → Int32) × (Nat → Int32) × (Nat → Int32) × (Nat → Int32) × (Nat → Int32) × (Nat → Int32) × (Nat → Int32) × (Nat → Int32) × (Nat → Int32) × (Nat → Int32)) :=
  (f_X15_cut md mt kn mf mm mr me).bind fun r10 =>
  (f_X15_isBarn (q_up (q_up md 9 (0 : Int32)) 10 (0 : Int32)) mt r10.1 r10.2.1 r10.2.2.1 r10.2.2.2.1 mp ps pt pe pc pw).bind fun r11 =>
  if ¬ (q_bz r11.1) = 0 then
  (f_X15_read_L31 mt r10.1 r10.2.1 r10.2.2.1 r11.2.2.1 (r11.2.1 9) 4096 (q_up r11.2.1 9 (0 : Int32)) r10.2.2.2.2 r11.2.2.2.1 pd po pq pr).bind fun r13 =>
  if r13.1 = 0 then
  (f_X15_read_L61 r13.2.2.2.1 r13.2.2.2.2.1 r11.2.2.2.2.2.2.2.2 4096 r11.2.2.2.2.2.2.2.1 (0 : Int32)).bind fun r14 =>
  some ((0 : Int32), r13.2.2.1, r10.1, r10.2.1, r10.2.2.1, r11.2.2.1, r13.2.2.2.1, r13.2.2.2.2.1, r13.2.2.2.2.2.1, r13.2.2.2.2.2.2.1, r13.2.2.2.2.2.2.2.1, r13.2.2.2.2.2.2.2.2, r11.2.2.2.2.1, r11.2.2.2.2.2.1, r11.2.2.2.2.2.2.1, r14, r11.2.2.2.2.2.2.2.2)
  else
  (q_ix (r13.2.2.1 9) 401).bind fun j15 =>
  some (r13.2.1, (q_up r13.2.2.1 3 (r10.2.1 j15)), r10.1, r10.2.1, r10.2.2.1, r11.2.2.1, r13.2.2.2.1, r13.2.2.2.2.1, r13.2.2.2.2.2.1, r13.2.2.2.2.2.2.1, r13.2.2.2.2.2.2.2.1, r13.2.2.2.2.2.2.2.2, r11.2.2.2.2.1, r11.2.2.2.2.2.1, r11.2.2.2.2.2.2.1, r11.2.2.2.2.2.2.2.1, r11.2.2.2.2.2.2.2.2)
  else
  (q_ix (r11.2.1 9) 401).bind fun j16 =>
  some ((1 : Int32), (q_up r11.2.1 3 (r10.2.1 j16)), r10.1, r10.2.1, r10.2.2.1, r11.2.2.1, r10.2.2.2.2, r11.2.2.2.1, pd, po, pq, pr, r11.2.2.2.2.1, r11.2.2.2.2.2.1, r11.2.2.2.2.2.2.1, r11.2.2.2.2.2.2.2.1, r11.2.2.2.2.2.2.2.2)
