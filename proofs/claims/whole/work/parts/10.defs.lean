def f_Jxe99ae_isNaN_b9ae7 (N : Nat) (S : Hp) (w0 : UInt64) : Option (Int32 × Hp) :=
  if (Op.cmpValue (FP.dcmp w0 w0) CmpOp.l) = 0 then (some ((0 : Int32), S)) else (some ((1 : Int32), S))
def f_Jxe99ae_doubleToLongBits_ccdee (N : Nat) (S : Hp) (w0 : UInt64) : Option (Int64 × Hp) :=
  cl (f_Jxe99ae_isNaN_b9ae7 N S w0) fun r10 S10 => if r10 = 0 then (some ((UInt64.toInt64 w0), S10)) else (some ((9221120237041090560 : Int64), S10))
def f_X0_init (N : Nat) (S : Hp) (z : Nat) (a0 : Nat) : Option (Unit × Hp × Nat) :=
  gd (ok ((sNew S z 9 6)) a0 0) <| bd (sI (sR (sNew S z 9 6) a0 0 (some z)) a0 1 (0 : Int32)) fun S12 => some ((), S12, (z + 1))
def f_X0_dropOldest_b17 (N : Nat) (a0 : Nat) (K17 : Hp → Nat → Int32 → Option (Unit × Hp)) (S : Hp) (p1 : Nat) (v2 : Int32) : Option (Unit × Hp) :=
  gd (ok S a0 0) <| nn (hR S a0 0) fun r17 => gd (ok S r17 9) <| if (nI (hN S r17)) ≤ v2 then (gd (inb ((nI (hN S r17)) - (1 : Int32)) (hN S r17)) <| gd (ok S p1 4) <| bd (sR S r17 ((nI (hN S r17)) - (1 : Int32)).toNatClampNeg (some p1)) fun S22 => nn (hR S22 a0 0) fun r27 => gd (ok S22 r27 9) <| bd (sI S22 a0 1 ((nI (hN S22 r27)) - (1 : Int32))) fun S29 => some ((), S29)) else (gd (inb v2 (hN S r17)) <| nn (hR S r17 v2.toNatClampNeg) fun r37 => gd (inb (v2 - (1 : Int32)) (hN S r17)) <| gd (ok S r37 4) <| bd (sR S r17 (v2 - (1 : Int32)).toNatClampNeg (some r37)) fun S40 => K17 S40 p1 ((v2 + (1 : Int32))))
def f_X0_dropOldest_l17 (N : Nat) (a0 : Nat) : Nat → Hp → Nat → Int32 → Option (Unit × Hp)
  | 0, _, _, _ => none
  | k + 1, S, p1, v2 => f_X0_dropOldest_b17 N a0 (f_X0_dropOldest_l17 N a0 k) S p1 v2
def f_X0_dropOldest (N : Nat) (S : Hp) (a0 : Nat) : Option (Unit × Hp) :=
  gd (ok S a0 0) <| nn (hR S a0 0) fun r11 => gd (ok S r11 9) <| if (nI (hN S r11)) ≤ 0 then (some ((), S)) else (gd (inb (0 : Int32) (hN S r11)) <| nn (hR S r11 (0 : Int32).toNatClampNeg) fun r15 => f_X0_dropOldest_l17 N a0 N S r15 ((1 : Int32)))
def f_X1_init (N : Nat) (S : Hp) (z : Nat) (a0 : Nat) : Option (Unit × Hp × Nat) :=
  gd (ok ((sNew S z 8 12)) a0 1) <| bd (sI (sR (sNew S z 8 12) a0 0 (some z)) a0 1 (0 : Int32)) fun S12 => bd (sI (sI S12 a0 2 (2 : Int32)) a0 3 (0 : Int32)) fun S14 => bd (sI (sI S14 a0 4 (0 : Int32)) a0 5 (0 : Int32)) fun S16 => some ((), S16, (z + 1))
def f_X4_init (N : Nat) (S : Hp) (z : Nat) (a0 : Nat) : Option (Unit × Hp × Nat) :=
  cz (f_X1_init N ((sNew S z 1 0)) ((z + 1)) z) fun _ S11 z11 => gd (ok S11 a0 4) <| bd (sI (sI (sR S11 a0 0 (some z)) a0 1 (9 : Int32)) a0 2 (0 : Int32)) fun S13 => bd (sI (sI S13 a0 3 (0 : Int32)) a0 4 (1 : Int32)) fun S15 => bd (sI (sI S15 a0 5 (-1 : Int32)) a0 6 (-1 : Int32)) fun S17 => bd (sI (sI S17 a0 7 (0 : Int32)) a0 8 (0 : Int32)) fun S19 => some ((), (sI S19 a0 9 (0 : Int32)), z11)
def f_X1_copy_b46 (N : Nat) (a0 : Nat) (a1 : Nat) (S : Hp) : Option (Unit × Hp) :=
  gd (ok S a1 1) <| gd (ok S a0 1) <| some ((), (sI S a0 1 (hI S a1 1)))
def f_X1_copy_b2 (N : Nat) (a0 : Nat) (a1 : Nat) (K2 : Hp → Int32 → Option (Unit × Hp)) (S : Hp) (v2 : Int32) : Option (Unit × Hp) :=
  gd (ok S a1 1) <| if (hI S a1 1) ≤ v2 then (f_X1_copy_b46 N a0 a1 S) else (nn (hR S a1 0) fun r12 => gd (ok S r12 8) <| if (nI (hN S r12)) ≤ v2 then (f_X1_copy_b46 N a0 a1 S) else (gd (ok S a0 1) <| nn (hR S a0 0) fun r16 => gd (ok S r16 8) <| if (nI (hN S r16)) ≤ v2 then (f_X1_copy_b46 N a0 a1 S) else (gd (inb v2 (hN S r12)) <| gd (inb v2 (hN S r16)) <| bd (sI S r16 v2.toNatClampNeg (hI S r12 v2.toNatClampNeg)) fun S21 => K2 S21 ((v2 + (1 : Int32))))))
def f_X1_copy_l2 (N : Nat) (a0 : Nat) (a1 : Nat) : Nat → Hp → Int32 → Option (Unit × Hp)
  | 0, _, _ => none
  | k + 1, S, v2 => f_X1_copy_b2 N a0 a1 (f_X1_copy_l2 N a0 a1 k) S v2
def f_X1_copy (N : Nat) (S : Hp) (a0 : Nat) (a1 : Nat) : Option (Unit × Hp) :=
  f_X1_copy_l2 N a0 a1 N S ((0 : Int32))
def f_X4_copyBoard (N : Nat) (S : Hp) (a0 : Nat) (a1 : Nat) : Option (Unit × Hp) :=
  gd (ok S a0 4) <| nn (hR S a0 0) fun r11 => gd (ok S a1 4) <| nn (hR S a1 0) fun r13 => gd (ok S r11 1) <| cl (f_X1_copy N S r11 r13) fun _ S15 => gd (ok S15 a1 4) <| gd (ok S15 a0 4) <| bd (sI (sI S15 a0 1 (hI S15 a1 1)) a0 2 (hI ((sI S15 a0 1 (hI S15 a1 1))) a1 2)) fun S18 => gd (isB (hI ((sI S18 a0 3 (hI S18 a1 3))) a1 4)) <| bd (sI (sI S18 a0 3 (hI S18 a1 3)) a0 4 (hI ((sI S18 a0 3 (hI S18 a1 3))) a1 4)) fun S22 => bd (sI (sI S22 a0 5 (hI S22 a1 5)) a0 6 (hI ((sI S22 a0 5 (hI S22 a1 5))) a1 6)) fun S25 => some ((), S25)
def f_X4_copyAll (N : Nat) (S : Hp) (a0 : Nat) (a1 : Nat) : Option (Unit × Hp) :=
  gd (ok S a0 4) <| cl (f_X4_copyBoard N S a0 a1) fun _ S11 => gd (ok S11 a1 4) <| gd (ok S11 a0 4) <| bd (sI (sI S11 a0 7 (hI S11 a1 7)) a0 8 (hI ((sI S11 a0 7 (hI S11 a1 7))) a1 8)) fun S14 => some ((), (sI S14 a0 9 (hI S14 a1 9)))
def f_X0_save_b67 (N : Nat) (a0 : Nat) (a1 : Nat) (S : Hp) (z : Nat) (p2 : Nat) : Option (Unit × Hp × Nat) :=
  gd (ok S p2 4) <| cl (f_X4_copyAll N S p2 a1) fun _ S35 => gd (ok S35 a0 0) <| some ((), (sI S35 a0 1 ((hI S35 a0 1) + (1 : Int32))), z)
def f_X0_save_b16 (N : Nat) (a0 : Nat) (a1 : Nat) (S : Hp) (z : Nat) : Option (Unit × Hp × Nat) :=
  gd (ok S a0 0) <| if (hI S a0 1) < 0 then (some ((), S, z)) else (nn (hR S a0 0) fun r17 => gd (ok S r17 9) <| if (nI (hN S r17)) ≤ (hI S a0 1) then (some ((), S, z)) else (gd (inb (hI S a0 1) (hN S r17)) <| nz (hR S r17 (hI S a0 1).toNatClampNeg) (cz (f_X4_init N ((sNew S z 4 0)) ((z + 1)) z) fun _ S23 z23 => gd (ok S23 a0 0) <| nn (hR S23 a0 0) fun r25 => gd (ok S23 r25 9) <| gd (inb (hI S23 a0 1) (hN S23 r25)) <| gd (ok S23 z 4) <| bd (sR S23 r25 (hI S23 a0 1).toNatClampNeg (some z)) fun S29 => f_X0_save_b67 N a0 a1 S29 z23 z) fun r21 => f_X0_save_b67 N a0 a1 S z r21))
def f_X0_save (N : Nat) (S : Hp) (z : Nat) (a0 : Nat) (a1 : Nat) : Option (Unit × Hp × Nat) :=
  gd (ok S a0 0) <| nn (hR S a0 0) fun r11 => gd (ok S r11 9) <| if (hI S a0 1) < (nI (hN S r11)) then (f_X0_save_b16 N a0 a1 S z) else (cl (f_X0_dropOldest N S a0) fun _ S14 => f_X0_save_b16 N a0 a1 S14 z)
def f_X0_goBack (N : Nat) (S : Hp) (a0 : Nat) (a1 : Nat) : Option (Unit × Hp) :=
  gd (ok S a0 0) <| if (hI S a0 1) ≤ 0 then (some ((), S)) else (nn (hR S a0 0) fun r12 => gd (ok S r12 9) <| if (nI (hN S r12)) < (hI S a0 1) then (some ((), S)) else (gd (inb (hI ((sI S a0 1 ((hI S a0 1) - (1 : Int32)))) a0 1) (hN ((sI S a0 1 ((hI S a0 1) - (1 : Int32)))) r12)) <| nz (hR ((sI S a0 1 ((hI S a0 1) - (1 : Int32)))) r12 (hI ((sI S a0 1 ((hI S a0 1) - (1 : Int32)))) a0 1).toNatClampNeg) (some ((), (sI S a0 1 ((hI S a0 1) - (1 : Int32))))) fun r16 => gd (ok ((sI S a0 1 ((hI S a0 1) - (1 : Int32)))) a1 4) <| cl (f_X4_copyAll N ((sI S a0 1 ((hI S a0 1) - (1 : Int32)))) a1 r16) fun _ S18 => some ((), S18)))
def f_X1_has (N : Nat) (S : Hp) (a0 : Nat) (x1 : Int32) : Option (Int32 × Hp) :=
  if x1 < 0 then (some ((0 : Int32), S)) else (gd (ok S a0 1) <| if (hI S a0 1) ≤ x1 then (some ((0 : Int32), S)) else (nn (hR S a0 0) fun r13 => gd (ok S r13 8) <| if (nI (hN S r13)) ≤ x1 then (some ((0 : Int32), S)) else (some ((1 : Int32), S))))
def f_X1_maskOf (N : Nat) (S : Hp) (a0 : Nat) (x1 : Int32) : Option (Int32 × Hp) :=
  if x1 < 0 then (some ((0 : Int32), S)) else (gd (ok S a0 1) <| if (hI S a0 1) ≤ x1 then (some ((0 : Int32), S)) else (nn (hR S a0 0) fun r13 => gd (ok S r13 8) <| if (nI (hN S r13)) ≤ x1 then (some ((0 : Int32), S)) else (gd (inb x1 (hN S r13)) <| some ((hI S r13 x1.toNatClampNeg), S))))
def f_X1_put (N : Nat) (S : Hp) (a0 : Nat) (x1 : Int32) : Option (Unit × Hp) :=
  gd (ok S a0 1) <| if (hI S a0 1) < 0 then (some ((), S)) else (nn (hR S a0 0) fun r12 => gd (ok S r12 8) <| if (nI (hN S r12)) ≤ (hI S a0 1) then (some ((), S)) else (gd (inb (hI S a0 1) (hN S r12)) <| bd (sI (sI S r12 (hI S a0 1).toNatClampNeg x1) a0 1 ((hI ((sI S r12 (hI S a0 1).toNatClampNeg x1)) a0 1) + (1 : Int32))) fun S16 => some ((), S16)))
def f_X1_drop_b49 (N : Nat) (a0 : Nat) (x1 : Int32) (S : Hp) : Option (Unit × Hp) :=
  gd (ok S a0 1) <| some ((), (sI S a0 1 ((hI S a0 1) - (1 : Int32))))
def f_X1_drop_b12 (N : Nat) (a0 : Nat) (x1 : Int32) (K12 : Hp → Int32 → Option (Unit × Hp)) (S : Hp) (v2 : Int32) : Option (Unit × Hp) :=
  gd (ok S a0 1) <| if (hI S a0 1) ≤ v2 then (f_X1_drop_b49 N a0 x1 S) else (nn (hR S a0 0) fun r15 => gd (ok S r15 8) <| if (nI (hN S r15)) ≤ v2 then (f_X1_drop_b49 N a0 x1 S) else (gd (inb v2 (hN S r15)) <| gd (inb (v2 - (1 : Int32)) (hN S r15)) <| bd (sI S r15 (v2 - (1 : Int32)).toNatClampNeg (hI S r15 v2.toNatClampNeg)) fun S20 => K12 S20 ((v2 + (1 : Int32)))))
def f_X1_drop_l12 (N : Nat) (a0 : Nat) (x1 : Int32) : Nat → Hp → Int32 → Option (Unit × Hp)
  | 0, _, _ => none
  | k + 1, S, v2 => f_X1_drop_b12 N a0 x1 (f_X1_drop_l12 N a0 x1 k) S v2
def f_X1_drop (N : Nat) (S : Hp) (a0 : Nat) (x1 : Int32) : Option (Unit × Hp) :=
  gd (ok S a0 1) <| cl (f_X1_has N S a0 x1) fun r11 S11 => if r11 = 0 then (some ((), S11)) else (f_X1_drop_l12 N a0 x1 N S11 ((x1 + (1 : Int32))))
def f_X1_areSame_b15 (N : Nat) (a0 : Nat) (a1 : Nat) (K15 : Hp → Int32 → Option (Int32 × Hp)) (S : Hp) (v2 : Int32) : Option (Int32 × Hp) :=
  gd (ok S a0 1) <| if (hI S a0 1) ≤ v2 then (some ((1 : Int32), S)) else (nn (hR S a0 0) fun r15 => gd (ok S r15 8) <| if (nI (hN S r15)) ≤ v2 then (some ((1 : Int32), S)) else (gd (ok S a1 1) <| nn (hR S a1 0) fun r19 => gd (ok S r19 8) <| if (nI (hN S r19)) ≤ v2 then (some ((1 : Int32), S)) else (gd (inb v2 (hN S r15)) <| gd (inb v2 (hN S r19)) <| if (hI S r15 v2.toNatClampNeg) = (hI S r19 v2.toNatClampNeg) then (K15 S ((v2 + (1 : Int32)))) else (some ((0 : Int32), S)))))
def f_X1_areSame_l15 (N : Nat) (a0 : Nat) (a1 : Nat) : Nat → Hp → Int32 → Option (Int32 × Hp)
  | 0, _, _ => none
  | k + 1, S, v2 => f_X1_areSame_b15 N a0 a1 (f_X1_areSame_l15 N a0 a1 k) S v2
def f_X1_areSame (N : Nat) (S : Hp) (a0 : Nat) (a1 : Nat) : Option (Int32 × Hp) :=
  gd (ok S a0 1) <| gd (ok S a1 1) <| if (hI S a0 1) = (hI S a1 1) then (f_X1_areSame_l15 N a0 a1 N S ((0 : Int32))) else (some ((0 : Int32), S))
def f_X1_survey_b167 (N : Nat) (a0 : Nat) (x1 : Int32) (x2 : Int32) (S : Hp) (s0 : Int32) (s1 : Nat) : Option (Unit × Hp) :=
  gd (ok S s1 1) <| some ((), (sI S s1 2 s0))
def f_X1_survey_b151 (N : Nat) (a0 : Nat) (x1 : Int32) (x2 : Int32) (S : Hp) (v3 : Int32) (s0 : Int32) (s1 : Nat) : Option (Unit × Hp) :=
  gd (ok S s1 1) <| if v3 = 0 then (gd (ok ((sI S s1 2 s0)) a0 1) <| f_X1_survey_b167 N a0 x1 x2 ((sI S s1 2 s0)) ((hI ((sI S s1 2 s0)) a0 2)) a0) else (f_X1_survey_b167 N a0 x1 x2 ((sI S s1 2 s0)) ((1 : Int32)) a0)
def f_X1_survey_b138 (N : Nat) (a0 : Nat) (x1 : Int32) (x2 : Int32) (S : Hp) (v3 : Int32) : Option (Unit × Hp) :=
  gd (ok S a0 1) <| if (hI S a0 3) = 0 then (f_X1_survey_b151 N a0 x1 x2 S v3 ((2 : Int32)) a0) else (f_X1_survey_b151 N a0 x1 x2 S v3 ((0 : Int32)) a0)
def f_X1_survey_b128 (N : Nat) (a0 : Nat) (x1 : Int32) (x2 : Int32) (K20 : Hp → Int32 → Int32 → Option (Unit × Hp)) (S : Hp) (v3 : Int32) (v4 : Int32) (s0 : Int32) (s1 : Int32) (s2 : Nat) : Option (Unit × Hp) :=
  gd (ok S s2 1) <| K20 ((sI S s2 5 (s1 ||| s0))) v3 ((v4 + (1 : Int32)))
def f_X1_survey_b110 (N : Nat) (a0 : Nat) (x1 : Int32) (x2 : Int32) (K20 : Hp → Int32 → Int32 → Option (Unit × Hp)) (S : Hp) (v4 : Int32) (v5 : Int32) (v6 : Int32) (s0 : Int32) : Option (Unit × Hp) :=
  gd (ok S a0 1) <| if v6 = (1 : Int32) then (f_X1_survey_b128 N a0 x1 x2 K20 S s0 v4 v5 ((hI S a0 5)) a0) else (f_X1_survey_b128 N a0 x1 x2 K20 S s0 v4 ((0 : Int32)) ((hI S a0 5)) a0)
def f_X1_survey_b105 (N : Nat) (a0 : Nat) (x1 : Int32) (x2 : Int32) (K20 : Hp → Int32 → Int32 → Option (Unit × Hp)) (S : Hp) (v4 : Int32) (v5 : Int32) (v6 : Int32) : Option (Unit × Hp) :=
  f_X1_survey_b110 N a0 x1 x2 K20 S v4 v5 v6 ((1 : Int32))
def f_X1_survey_b20 (N : Nat) (a0 : Nat) (x1 : Int32) (x2 : Int32) (K20 : Hp → Int32 → Int32 → Option (Unit × Hp)) (S : Hp) (v3 : Int32) (v4 : Int32) : Option (Unit × Hp) :=
  gd (ok S a0 1) <| if (hI S a0 1) ≤ v4 then (f_X1_survey_b138 N a0 x1 x2 S v3) else (nn (hR S a0 0) fun r15 => gd (ok S r15 8) <| if (nI (hN S r15)) ≤ v4 then (f_X1_survey_b138 N a0 x1 x2 S v3) else (gd (inb v4 (hN S r15)) <| if ((hI S r15 v4.toNatClampNeg) &&& x2) = 0 then (bd ((hI S r15 v4.toNatClampNeg) &&& (x1 ^^^ (-1 : Int32))) fun e20 => bd (sI (sI S a0 3 ((hI S a0 3) + (1 : Int32))) a0 4 ((hI ((sI S a0 3 ((hI S a0 3) + (1 : Int32)))) a0 4) + ((1024 : Int32) >>> ((bitc e20) &&& 31)))) fun S21 => if v3 = 0 then (if (bitc e20) = 0 then (f_X1_survey_b105 N a0 x1 x2 K20 S21 v4 e20 ((bitc e20))) else (f_X1_survey_b110 N a0 x1 x2 K20 S21 v4 e20 ((bitc e20)) ((0 : Int32)))) else (f_X1_survey_b105 N a0 x1 x2 K20 S21 v4 e20 ((bitc e20)))) else (K20 S v3 ((v4 + (1 : Int32))))))
def f_X1_survey_l20 (N : Nat) (a0 : Nat) (x1 : Int32) (x2 : Int32) : Nat → Hp → Int32 → Int32 → Option (Unit × Hp)
  | 0, _, _, _ => none
  | k + 1, S, v3, v4 => f_X1_survey_b20 N a0 x1 x2 (f_X1_survey_l20 N a0 x1 x2 k) S v3 v4
def f_X1_survey (N : Nat) (S : Hp) (a0 : Nat) (x1 : Int32) (x2 : Int32) : Option (Unit × Hp) :=
  gd (ok S a0 1) <| bd (sI (sI (sI S a0 3 (0 : Int32)) a0 4 (0 : Int32)) a0 5 (0 : Int32)) fun S11 => f_X1_survey_l20 N a0 x1 x2 N S11 ((0 : Int32)) ((0 : Int32))
def f_X1_weightWith_b6 (N : Nat) (a0 : Nat) (x1 : Int32) (x2 : Int32) (x3 : Int32) (K6 : Hp → Int32 → Int32 → Option (Int32 × Hp)) (S : Hp) (v4 : Int32) (v5 : Int32) : Option (Int32 × Hp) :=
  gd (ok S a0 1) <| if (hI S a0 1) ≤ v5 then (some (v4, S)) else (nn (hR S a0 0) fun r12 => gd (ok S r12 8) <| if (nI (hN S r12)) ≤ v5 then (some (v4, S)) else (gd (inb v5 (hN S r12)) <| if ((hI S r12 v5.toNatClampNeg) &&& ((1 : Int32) <<< (x1 &&& 31))) = 0 then (K6 S v4 ((v5 + (1 : Int32)))) else (if ((hI S r12 v5.toNatClampNeg) &&& x3) = 0 then (bd (v4 + ((1024 : Int32) >>> ((bitc (((hI S r12 v5.toNatClampNeg) &&& (x2 ^^^ (-1 : Int32))))) &&& 31))) fun e18 => K6 S e18 ((v5 + (1 : Int32)))) else (K6 S v4 ((v5 + (1 : Int32)))))))
def f_X1_weightWith_l6 (N : Nat) (a0 : Nat) (x1 : Int32) (x2 : Int32) (x3 : Int32) : Nat → Hp → Int32 → Int32 → Option (Int32 × Hp)
  | 0, _, _, _ => none
  | k + 1, S, v4, v5 => f_X1_weightWith_b6 N a0 x1 x2 x3 (f_X1_weightWith_l6 N a0 x1 x2 x3 k) S v4 v5
def f_X1_weightWith (N : Nat) (S : Hp) (a0 : Nat) (x1 : Int32) (x2 : Int32) (x3 : Int32) : Option (Int32 × Hp) :=
  f_X1_weightWith_l6 N a0 x1 x2 x3 N S ((0 : Int32)) ((0 : Int32))
def f_X1_aliveWith_b5 (N : Nat) (a0 : Nat) (x1 : Int32) (x2 : Int32) (K5 : Hp → Int32 → Int32 → Option (Int32 × Hp)) (S : Hp) (v3 : Int32) (v4 : Int32) : Option (Int32 × Hp) :=
  gd (ok S a0 1) <| if (hI S a0 1) ≤ v4 then (some (v3, S)) else (nn (hR S a0 0) fun r12 => gd (ok S r12 8) <| if (nI (hN S r12)) ≤ v4 then (some (v3, S)) else (gd (inb v4 (hN S r12)) <| if ((hI S r12 v4.toNatClampNeg) &&& ((1 : Int32) <<< (x1 &&& 31))) = 0 then (K5 S v3 ((v4 + (1 : Int32)))) else (if ((hI S r12 v4.toNatClampNeg) &&& x2) = 0 then (K5 S ((v3 + (1 : Int32))) ((v4 + (1 : Int32)))) else (K5 S v3 ((v4 + (1 : Int32)))))))
def f_X1_aliveWith_l5 (N : Nat) (a0 : Nat) (x1 : Int32) (x2 : Int32) : Nat → Hp → Int32 → Int32 → Option (Int32 × Hp)
  | 0, _, _, _ => none
  | k + 1, S, v3, v4 => f_X1_aliveWith_b5 N a0 x1 x2 (f_X1_aliveWith_l5 N a0 x1 x2 k) S v3 v4
def f_X1_aliveWith (N : Nat) (S : Hp) (a0 : Nat) (x1 : Int32) (x2 : Int32) : Option (Int32 × Hp) :=
  f_X1_aliveWith_l5 N a0 x1 x2 N S ((0 : Int32)) ((0 : Int32))
def f_X2_init (N : Nat) (S : Hp) (z : Nat) (a0 : Nat) : Option (Unit × Hp × Nat) :=
  cz (f_X1_init N ((sNew S z 1 0)) ((z + 1)) z) fun _ S11 z11 => gd (ok S11 a0 2) <| bd (sI (sI (sR S11 a0 0 (some z)) a0 1 (0 : Int32)) a0 2 (0 : Int32)) fun S13 => gd (ok ((sNew S13 z11 8 5)) a0 2) <| bd (sI (sR (sNew S13 z11 8 5) a0 3 (some z11)) a0 4 (0 : Int32)) fun S17 => some ((), (sI S17 a0 5 (1 : Int32)), (z11 + 1))
def f_X2_needsPair_b40 (N : Nat) (a0 : Nat) (x1 : Int32) (S : Hp) : Option (Int32 × Hp) :=
  gd (ok S a0 2) <| if (x1 &&& (hI S a0 2)) = 0 then (some ((1 : Int32), S)) else (some ((0 : Int32), S))
def f_X2_needsPair_b2 (N : Nat) (a0 : Nat) (x1 : Int32) (K2 : Hp → Int32 → Option (Int32 × Hp)) (S : Hp) (v2 : Int32) : Option (Int32 × Hp) :=
  gd (ok S a0 2) <| if (hI S a0 4) ≤ v2 then (f_X2_needsPair_b40 N a0 x1 S) else (nn (hR S a0 3) fun r12 => gd (ok S r12 8) <| if (nI (hN S r12)) ≤ v2 then (f_X2_needsPair_b40 N a0 x1 S) else (gd (inb v2 (hN S r12)) <| if ((hI S r12 v2.toNatClampNeg) &&& (x1 ^^^ (-1 : Int32))) = 0 then (some ((0 : Int32), S)) else (K2 S ((v2 + (1 : Int32))))))
def f_X2_needsPair_l2 (N : Nat) (a0 : Nat) (x1 : Int32) : Nat → Hp → Int32 → Option (Int32 × Hp)
  | 0, _, _ => none
  | k + 1, S, v2 => f_X2_needsPair_b2 N a0 x1 (f_X2_needsPair_l2 N a0 x1 k) S v2
def f_X2_needsPair (N : Nat) (S : Hp) (a0 : Nat) (x1 : Int32) : Option (Int32 × Hp) :=
  f_X2_needsPair_l2 N a0 x1 N S ((0 : Int32))
def f_X2_isHopeless_b2 (N : Nat) (a0 : Nat) (x1 : Int32) (x2 : Int32) (K2 : Hp → Int32 → Option (Int32 × Hp)) (S : Hp) (v3 : Int32) : Option (Int32 × Hp) :=
  if (12 : Int32) ≤ v3 then (some ((0 : Int32), S)) else (gd (ok S a0 2) <| nn (hR S a0 0) fun r12 => gd (ok S r12 1) <| cl (f_X1_maskOf N S r12 v3) fun r14 S14 => if r14 = 0 then (K2 S14 ((v3 + (1 : Int32)))) else (if (2 : Int32) ≤ (bitc ((r14 &&& (x2 ^^^ (-1 : Int32))))) then (K2 S14 ((v3 + (1 : Int32)))) else (gd (ok S14 a0 2) <| cl (f_X2_needsPair N S14 a0 r14) fun r18 S18 => if r18 = 0 then (K2 S18 ((v3 + (1 : Int32)))) else (some ((1 : Int32), S18)))))
def f_X2_isHopeless_l2 (N : Nat) (a0 : Nat) (x1 : Int32) (x2 : Int32) : Nat → Hp → Int32 → Option (Int32 × Hp)
  | 0, _, _ => none
  | k + 1, S, v3 => f_X2_isHopeless_b2 N a0 x1 x2 (f_X2_isHopeless_l2 N a0 x1 x2 k) S v3
def f_X2_isHopeless (N : Nat) (S : Hp) (a0 : Nat) (x1 : Int32) (x2 : Int32) : Option (Int32 × Hp) :=
  f_X2_isHopeless_l2 N a0 x1 x2 N S x1
def f_X2_pairBy (pf : Hp → Nat → Int32 → Int32 → Option (Int32 × Hp)) (N : Nat) (S : Hp) (a0 : Nat) (x1 : Int32) (x2 : Int32) (x3 : Int32) : Option (Int32 × Hp) :=
  gd (ok S a0 2) <| if (hI S a0 4) < 0 then (some ((0 : Int32), S)) else (nn (hR S a0 3) fun r12 => gd (ok S r12 8) <| if (hI S a0 4) < (nI (hN S r12)) then (gd (inb (hI S a0 4) (hN S r12)) <| bd (sI (sI S r12 (hI S a0 4).toNatClampNeg x1) a0 4 ((hI ((sI S r12 (hI S a0 4).toNatClampNeg x1)) a0 4) + (1 : Int32))) fun S16 => cl (pf S16 a0 ((x2 + (1 : Int32))) ((x3 ||| x1))) fun r21 S21 => if r21 = 0 then (gd (ok S21 a0 2) <| some ((0 : Int32), (sI S21 a0 4 ((hI S21 a0 4) - (1 : Int32))))) else (some ((1 : Int32), S21))) else (some ((0 : Int32), S)))
def f_X2_pairFromB_b73 (pf : Hp → Nat → Int32 → Int32 → Option (Int32 × Hp)) (N : Nat) (a0 : Nat) (x1 : Int32) (x2 : Int32) (K60 : Hp → Int32 → Int32 → Option (Int32 × Hp)) (K73 : Hp → Int32 → Int32 → Int32 → Option (Int32 × Hp)) (S : Hp) (v4 : Int32) (v5 : Int32) (v6 : Int32) : Option (Int32 × Hp) :=
  if (10 : Int32) ≤ v6 then (K60 S v4 ((v5 + (1 : Int32)))) else (bd (((1 : Int32) <<< (v5 &&& 31)) ||| ((1 : Int32) <<< (v6 &&& 31))) fun e31 => if (v4 &&& e31) = e31 then (gd (ok S a0 2) <| cl (f_X2_pairBy pf N S a0 e31 x1 x2) fun r34 S34 => if r34 = 0 then (K73 S34 v4 v5 ((v6 + (1 : Int32)))) else (some ((1 : Int32), S34))) else (K73 S v4 v5 ((v6 + (1 : Int32)))))
def f_X2_pairFromB_l73 (pf : Hp → Nat → Int32 → Int32 → Option (Int32 × Hp)) (N : Nat) (a0 : Nat) (x1 : Int32) (x2 : Int32) (K60 : Hp → Int32 → Int32 → Option (Int32 × Hp)) : Nat → Hp → Int32 → Int32 → Int32 → Option (Int32 × Hp)
  | 0, _, _, _, _ => none
  | k + 1, S, v4, v5, v6 => f_X2_pairFromB_b73 pf N a0 x1 x2 K60 (f_X2_pairFromB_l73 pf N a0 x1 x2 K60 k) S v4 v5 v6
def f_X2_pairFromB_b60 (pf : Hp → Nat → Int32 → Int32 → Option (Int32 × Hp)) (N : Nat) (a0 : Nat) (x1 : Int32) (x2 : Int32) (K60 : Hp → Int32 → Int32 → Option (Int32 × Hp)) (S : Hp) (v4 : Int32) (v5 : Int32) : Option (Int32 × Hp) :=
  if (10 : Int32) ≤ v5 then (some ((0 : Int32), S)) else (f_X2_pairFromB_l73 pf N a0 x1 x2 K60 N S v4 v5 ((v5 + (1 : Int32))))
def f_X2_pairFromB_l60 (pf : Hp → Nat → Int32 → Int32 → Option (Int32 × Hp)) (N : Nat) (a0 : Nat) (x1 : Int32) (x2 : Int32) : Nat → Hp → Int32 → Int32 → Option (Int32 × Hp)
  | 0, _, _, _ => none
  | k + 1, S, v4, v5 => f_X2_pairFromB_b60 pf N a0 x1 x2 (f_X2_pairFromB_l60 pf N a0 x1 x2 k) S v4 v5
def f_X2_pairFromB (pf : Hp → Nat → Int32 → Int32 → Option (Int32 × Hp)) (N : Nat) (S : Hp) (a0 : Nat) (x1 : Int32) (x2 : Int32) : Option (Int32 × Hp) :=
  gd (ok S a0 2) <| nn (hR S a0 0) fun r11 => gd (ok S r11 1) <| cl (f_X1_has N S r11 x1) fun r13 S13 => if r13 = 0 then (some ((1 : Int32), S13)) else (gd (ok S13 a0 2) <| nn (hR S13 a0 0) fun r16 => gd (ok S13 r16 1) <| cl (f_X1_maskOf N S13 r16 x1) fun r18 S18 => gd (ok S18 a0 2) <| cl (f_X2_needsPair N S18 a0 r18) fun r20 S20 => if r20 = 0 then (gd (ok S20 a0 2) <| cl (pf S20 a0 ((x1 + (1 : Int32))) x2) fun r27 S27 => gd (isB r27) <| some (r27, S27)) else (gd (ok S20 a0 2) <| cl (f_X2_isHopeless N S20 a0 x1 x2) fun r23 S23 => if r23 = 0 then (bd (r18 &&& (x2 ^^^ (-1 : Int32))) fun e25 => f_X2_pairFromB_l60 pf N a0 x1 x2 N S23 e25 ((0 : Int32))) else (some ((0 : Int32), S23))))
def f_X2_pairFromD (N : Nat) : Nat → Hp → Nat → Int32 → Int32 → Option (Int32 × Hp)
  | 0, _, _, _, _ => none
  | d + 1, S, a0, x1, x2 => f_X2_pairFromB (f_X2_pairFromD N d) N S a0 x1 x2
def f_X2_pairFrom (N : Nat) (S : Hp) (a0 : Nat) (x1 : Int32) (x2 : Int32) : Option (Int32 × Hp) := f_X2_pairFromD N 14 S a0 x1 x2
def f_X2_lookAt_b36 (N : Nat) (a0 : Nat) (a1 : Nat) (S : Hp) : Option (Unit × Hp) :=
  gd (ok S a0 2) <| nn (hR S a0 0) fun r20 => gd (ok S a1 4) <| nn (hR S a1 0) fun r22 => gd (ok S r20 1) <| cl (f_X1_copy N S r20 r22) fun _ S24 => gd (ok S24 a1 4) <| gd (ok S24 a0 2) <| bd (sI (sI S24 a0 1 (hI S24 a1 2)) a0 2 (hI ((sI S24 a0 1 (hI S24 a1 2))) a1 3)) fun S27 => cl (f_X2_pairFrom N ((sI S27 a0 4 (0 : Int32))) a0 ((0 : Int32)) (((hI ((sI S27 a0 4 (0 : Int32))) a0 1) ||| (hI ((sI S27 a0 4 (0 : Int32))) a0 2)))) fun r30 S30 => gd (ok S30 a0 2) <| gd (isB r30) <| some ((), (sI S30 a0 5 r30))
def f_X2_lookAt (N : Nat) (S : Hp) (a0 : Nat) (a1 : Nat) : Option (Unit × Hp) :=
  gd (ok S a0 2) <| gd (ok S a1 4) <| if (hI S a0 1) = (hI S a1 2) then (if (hI S a0 2) = (hI S a1 3) then (nn (hR S a0 0) fun r14 => nn (hR S a1 0) fun r15 => gd (ok S r14 1) <| cl (f_X1_areSame N S r14 r15) fun r17 S17 => if r17 = 0 then (f_X2_lookAt_b36 N a0 a1 S17) else (some ((), S17))) else (f_X2_lookAt_b36 N a0 a1 S)) else (f_X2_lookAt_b36 N a0 a1 S)
def f_X6_lowestOf_b2 (N : Nat) (x0 : Int32) (K2 : Hp → Int32 → Option (Int32 × Hp)) (S : Hp) (v1 : Int32) : Option (Int32 × Hp) :=
  if (10 : Int32) ≤ v1 then (some ((-1 : Int32), S)) else (if (x0 &&& ((1 : Int32) <<< (v1 &&& 31))) = 0 then (K2 S ((v1 + (1 : Int32)))) else (some (v1, S)))
def f_X6_lowestOf_l2 (N : Nat) (x0 : Int32) : Nat → Hp → Int32 → Option (Int32 × Hp)
  | 0, _, _ => none
  | k + 1, S, v1 => f_X6_lowestOf_b2 N x0 (f_X6_lowestOf_l2 N x0 k) S v1
def f_X6_lowestOf (N : Nat) (S : Hp) (x0 : Int32) : Option (Int32 × Hp) :=
  f_X6_lowestOf_l2 N x0 N S ((0 : Int32))
def f_X2_otherOf_b2 (N : Nat) (a0 : Nat) (x1 : Int32) (K2 : Hp → Int32 → Option (Int32 × Hp)) (S : Hp) (v2 : Int32) : Option (Int32 × Hp) :=
  gd (ok S a0 2) <| if (hI S a0 4) ≤ v2 then (some ((-1 : Int32), S)) else (nn (hR S a0 3) fun r12 => gd (ok S r12 8) <| if (nI (hN S r12)) ≤ v2 then (some ((-1 : Int32), S)) else (gd (inb v2 (hN S r12)) <| if ((hI S r12 v2.toNatClampNeg) &&& ((1 : Int32) <<< (x1 &&& 31))) = 0 then (K2 S ((v2 + (1 : Int32)))) else (cl (f_X6_lowestOf N S (((hI S r12 v2.toNatClampNeg) &&& (((1 : Int32) <<< (x1 &&& 31)) ^^^ (-1 : Int32))))) fun r17 S17 => some (r17, S17))))
def f_X2_otherOf_l2 (N : Nat) (a0 : Nat) (x1 : Int32) : Nat → Hp → Int32 → Option (Int32 × Hp)
  | 0, _, _ => none
  | k + 1, S, v2 => f_X2_otherOf_b2 N a0 x1 (f_X2_otherOf_l2 N a0 x1 k) S v2
def f_X2_otherOf (N : Nat) (S : Hp) (a0 : Nat) (x1 : Int32) : Option (Int32 × Hp) :=
  f_X2_otherOf_l2 N a0 x1 N S ((0 : Int32))
def f_X3_init_b88 (N : Nat) (a0 : Nat) (K51 : Hp → Nat → Int32 → Int32 → Option (Unit × Hp × Nat)) (K59 : Hp → Nat → Int32 → Int32 → Int32 → Option (Unit × Hp × Nat)) (S : Hp) (z : Nat) (v1 : Int32) (v2 : Int32) (v3 : Int32) (s0 : Int32) (s1 : Int32) (s2 : Int32) (s3 : Nat) : Option (Unit × Hp × Nat) :=
  gd (ok S s3 8) <| gd (inb s2 (hN S s3)) <| K59 ((sI S s3 s2.toNatClampNeg (s1 + s0))) z v1 v2 ((v3 + (1 : Int32)))
def f_X3_init_b59 (N : Nat) (a0 : Nat) (K51 : Hp → Nat → Int32 → Int32 → Option (Unit × Hp × Nat)) (K59 : Hp → Nat → Int32 → Int32 → Int32 → Option (Unit × Hp × Nat)) (S : Hp) (z : Nat) (v1 : Int32) (v2 : Int32) (v3 : Int32) : Option (Unit × Hp × Nat) :=
  gd (ok S a0 3) <| nn (hR S a0 5) fun r25 => gd (ok S r25 8) <| if (nI (hN S r25)) ≤ v3 then (K51 S z ((v1 * (3 : Int32))) ((v2 + (1 : Int32)))) else (gd (inb v3 (hN S r25)) <| if (v3 &&& ((1 : Int32) <<< (v2 &&& 31))) = 0 then (f_X3_init_b88 N a0 K51 K59 S z v1 v2 v3 ((0 : Int32)) ((hI S r25 v3.toNatClampNeg)) v3 r25) else (f_X3_init_b88 N a0 K51 K59 S z v1 v2 v3 v1 ((hI S r25 v3.toNatClampNeg)) v3 r25))
def f_X3_init_l59 (N : Nat) (a0 : Nat) (K51 : Hp → Nat → Int32 → Int32 → Option (Unit × Hp × Nat)) : Nat → Hp → Nat → Int32 → Int32 → Int32 → Option (Unit × Hp × Nat)
  | 0, _, _, _, _, _ => none
  | k + 1, S, z, v1, v2, v3 => f_X3_init_b59 N a0 K51 (f_X3_init_l59 N a0 K51 k) S z v1 v2 v3
def f_X3_init_b51 (N : Nat) (a0 : Nat) (K51 : Hp → Nat → Int32 → Int32 → Option (Unit × Hp × Nat)) (S : Hp) (z : Nat) (v1 : Int32) (v2 : Int32) : Option (Unit × Hp × Nat) :=
  if (10 : Int32) ≤ v2 then (some ((), S, z)) else (f_X3_init_l59 N a0 K51 N S z v1 v2 ((0 : Int32)))
def f_X3_init_l51 (N : Nat) (a0 : Nat) : Nat → Hp → Nat → Int32 → Int32 → Option (Unit × Hp × Nat)
  | 0, _, _, _, _ => none
  | k + 1, S, z, v1, v2 => f_X3_init_b51 N a0 (f_X3_init_l51 N a0 k) S z v1 v2
def f_X3_init (N : Nat) (S : Hp) (z : Nat) (a0 : Nat) : Option (Unit × Hp × Nat) :=
  cz (f_X1_init N ((sNew S z 1 0)) ((z + 1)) z) fun _ S11 z11 => gd (ok S11 a0 3) <| bd (sI (sI (sR S11 a0 0 (some z)) a0 1 (0 : Int32)) a0 2 (1 : Int32)) fun S13 => gd (ok ((sNew S13 z11 8 59049)) a0 3) <| bd (sI (sR (sNew S13 z11 8 59049) a0 3 (some z11)) a0 4 (1 : Int32)) fun S17 => gd (ok ((sNew S17 ((z11 + 1)) 8 1024)) a0 3) <| bd (sR (sNew S17 ((z11 + 1)) 8 1024) a0 5 (some (z11 + 1))) fun S21 => f_X3_init_l51 N a0 N S21 (((z11 + 1) + 1)) ((1 : Int32)) ((0 : Int32))
def f_X4_allCells (N : Nat) (S : Hp) (a0 : Nat) : Option (Int32 × Hp) :=
  gd (ok S a0 4) <| some ((((1 : Int32) <<< ((hI S a0 1) &&& 31)) - (1 : Int32)), S)
def f_X3_prepare_b82 (N : Nat) (a0 : Nat) (a1 : Nat) (S : Hp) (v3 : Int32) : Option (Unit × Hp) :=
  gd (ok S a0 3) <| nn (hR S a0 0) fun r29 => gd (ok S a1 4) <| nn (hR S a1 0) fun r31 => gd (ok S r29 1) <| cl (f_X1_copy N S r29 r31) fun _ S33 => gd (ok S33 a1 4) <| cl (f_X4_allCells N S33 a1) fun r35 S35 => gd (ok S35 a0 3) <| gd (isB v3) <| bd (sI (sI (sI S35 a0 1 r35) a0 2 v3) a0 4 ((hI ((sI (sI S35 a0 1 r35) a0 2 v3)) a0 4) + (1 : Int32))) fun S38 => some ((), S38)
def f_X3_prepare_b61 (N : Nat) (a0 : Nat) (a1 : Nat) (S : Hp) (v3 : Int32) (s0 : Int32) : Option (Unit × Hp) :=
  if s0 = 0 then (f_X3_prepare_b82 N a0 a1 S v3) else (gd (ok S a0 3) <| nn (hR S a0 0) fun r22 => gd (ok S a1 4) <| nn (hR S a1 0) fun r24 => gd (ok S r22 1) <| cl (f_X1_areSame N S r22 r24) fun r26 S26 => if r26 = 0 then (f_X3_prepare_b82 N a0 a1 S26 v3) else (some ((), S26)))
def f_X3_prepare_b60 (N : Nat) (a0 : Nat) (a1 : Nat) (S : Hp) (v3 : Int32) : Option (Unit × Hp) :=
  f_X3_prepare_b61 N a0 a1 S v3 ((0 : Int32))
def f_X3_prepare_b36 (N : Nat) (a0 : Nat) (a1 : Nat) (S : Hp) (s0 : Int32) : Option (Unit × Hp) :=
  gd (ok S a0 3) <| gd (ok S a1 4) <| cl (f_X4_allCells N S a1) fun r16 S16 => if (hI S a0 1) = r16 then (gd (ok S16 a0 3) <| if (hI S16 a0 2) = s0 then (f_X3_prepare_b61 N a0 a1 S16 s0 ((1 : Int32))) else (f_X3_prepare_b60 N a0 a1 S16 s0)) else (f_X3_prepare_b60 N a0 a1 S16 s0)
def f_X3_prepare_b28 (N : Nat) (a0 : Nat) (a1 : Nat) (S : Hp) (s0 : Int32) (s1 : Int32) : Option (Unit × Hp) :=
  if s1 = s0 then (f_X3_prepare_b36 N a0 a1 S ((1 : Int32))) else (f_X3_prepare_b36 N a0 a1 S ((0 : Int32)))
def f_X3_prepare (N : Nat) (S : Hp) (a0 : Nat) (a1 : Nat) : Option (Unit × Hp) :=
  gd (ok S a1 4) <| bd (bitc (((hI S a1 2) ||| (hI S a1 3)))) fun e11 => if (e11 &&& (1 : Int32)) = 0 then (f_X3_prepare_b28 N a0 a1 S ((1 : Int32)) ((hI S a1 4))) else (f_X3_prepare_b28 N a0 a1 S ((0 : Int32)) ((hI S a1 4)))
def f_X3_placeOf_b31 (N : Nat) (a0 : Nat) (x1 : Int32) (x2 : Int32) (S : Hp) (s0 : Int32) : Option (Int32 × Hp) :=
  if s0 = 0 then (some ((-1 : Int32), S)) else (gd (ok S a0 3) <| nn (hR S a0 5) fun r19 => gd (ok S r19 8) <| gd (inb x1 (hN S r19)) <| gd (inb x2 (hN S r19)) <| some (((hI S r19 x1.toNatClampNeg) + ((2 : Int32) * (hI S r19 x2.toNatClampNeg))), S))
def f_X3_placeOf_b30 (N : Nat) (a0 : Nat) (x1 : Int32) (x2 : Int32) (S : Hp) : Option (Int32 × Hp) :=
  f_X3_placeOf_b31 N a0 x1 x2 S ((0 : Int32))
def f_X3_placeOf (N : Nat) (S : Hp) (a0 : Nat) (x1 : Int32) (x2 : Int32) : Option (Int32 × Hp) :=
  if x1 < 0 then (f_X3_placeOf_b30 N a0 x1 x2 S) else (gd (ok S a0 3) <| nn (hR S a0 5) fun r12 => gd (ok S r12 8) <| if (nI (hN S r12)) ≤ x1 then (f_X3_placeOf_b30 N a0 x1 x2 S) else (if x2 < 0 then (f_X3_placeOf_b30 N a0 x1 x2 S) else (if (nI (hN S r12)) ≤ x2 then (f_X3_placeOf_b30 N a0 x1 x2 S) else (f_X3_placeOf_b31 N a0 x1 x2 S ((1 : Int32))))))
def f_X3_recall_b18 (N : Nat) (a0 : Nat) (x1 : Int32) (S : Hp) (s0 : Int32) : Option (Int32 × Hp) :=
  if s0 = 0 then (some ((-2 : Int32), S)) else (gd (ok S a0 3) <| nn (hR S a0 3) fun r17 => gd (ok S r17 8) <| gd (inb x1 (hN S r17)) <| if ((hI S r17 x1.toNatClampNeg) >>> ((4 : Int32) &&& 31)) = (hI S a0 4) then (some ((((hI S r17 x1.toNatClampNeg) &&& (15 : Int32)) - (1 : Int32)), S)) else (some ((-2 : Int32), S)))
def f_X3_recall_b17 (N : Nat) (a0 : Nat) (x1 : Int32) (S : Hp) : Option (Int32 × Hp) :=
  f_X3_recall_b18 N a0 x1 S ((0 : Int32))
def f_X3_recall (N : Nat) (S : Hp) (a0 : Nat) (x1 : Int32) : Option (Int32 × Hp) :=
  if x1 < 0 then (f_X3_recall_b17 N a0 x1 S) else (gd (ok S a0 3) <| nn (hR S a0 3) fun r12 => gd (ok S r12 8) <| if (nI (hN S r12)) ≤ x1 then (f_X3_recall_b17 N a0 x1 S) else (f_X3_recall_b18 N a0 x1 S ((1 : Int32))))
def f_X3_keep (N : Nat) (S : Hp) (a0 : Nat) (x1 : Int32) (x2 : Int32) : Option (Unit × Hp) :=
  if x1 < 0 then (some ((), S)) else (gd (ok S a0 3) <| nn (hR S a0 3) fun r12 => gd (ok S r12 8) <| if (nI (hN S r12)) ≤ x1 then (some ((), S)) else (gd (inb x1 (hN S r12)) <| bd (sI S r12 x1.toNatClampNeg (((hI S a0 4) <<< ((4 : Int32) &&& 31)) ||| ((x2 + (1 : Int32)) &&& (15 : Int32)))) fun S16 => some ((), S16)))
def f_X3_shortest_b30 (se : Hp → Nat → Int32 → Int32 → Int32 → Int32 → Option (Int32 × Hp)) (N : Nat) (a0 : Nat) (x1 : Int32) (x2 : Int32) (x3 : Int32) (K30 : Hp → Int32 → Int32 → Int32 → Option (Int32 × Hp)) (S : Hp) (v4 : Int32) (v5 : Int32) (v6 : Int32) : Option (Int32 × Hp) :=
  if (10 : Int32) ≤ v6 then (some (v5, S)) else (if (v4 &&& ((1 : Int32) <<< (v6 &&& 31))) = 0 then (K30 S v4 v5 ((v6 + (1 : Int32)))) else (gd (ok S a0 3) <| cl (se S a0 ((x1 ||| ((1 : Int32) <<< (v6 &&& 31)))) x2 ((0 : Int32)) ((x3 + (1 : Int32)))) fun r18 S18 => if r18 = (-1 : Int32) then (K30 S18 v4 v5 ((v6 + (1 : Int32)))) else (if v5 = (-1 : Int32) then (K30 S18 v4 ((r18 + (1 : Int32))) ((v6 + (1 : Int32)))) else (if v5 ≤ (r18 + (1 : Int32)) then (K30 S18 v4 v5 ((v6 + (1 : Int32)))) else (K30 S18 v4 ((r18 + (1 : Int32))) ((v6 + (1 : Int32))))))))
def f_X3_shortest_l30 (se : Hp → Nat → Int32 → Int32 → Int32 → Int32 → Option (Int32 × Hp)) (N : Nat) (a0 : Nat) (x1 : Int32) (x2 : Int32) (x3 : Int32) : Nat → Hp → Int32 → Int32 → Int32 → Option (Int32 × Hp)
  | 0, _, _, _, _ => none
  | k + 1, S, v4, v5, v6 => f_X3_shortest_b30 se N a0 x1 x2 x3 (f_X3_shortest_l30 se N a0 x1 x2 x3 k) S v4 v5 v6
def f_X3_shortest (se : Hp → Nat → Int32 → Int32 → Int32 → Int32 → Option (Int32 × Hp)) (N : Nat) (S : Hp) (a0 : Nat) (x1 : Int32) (x2 : Int32) (x3 : Int32) : Option (Int32 × Hp) :=
  gd (ok S a0 3) <| nn (hR S a0 0) fun r11 => gd (ok S r11 1) <| if (hI S r11 5) = 0 then (bd ((hI S a0 1) &&& ((x1 ||| x2) ^^^ (-1 : Int32))) fun e14 => f_X3_shortest_l30 se N a0 x1 x2 x3 N S e14 ((-1 : Int32)) ((0 : Int32))) else (some ((1 : Int32), S))
def f_X3_longest_b63 (se : Hp → Nat → Int32 → Int32 → Int32 → Int32 → Option (Int32 × Hp)) (N : Nat) (a0 : Nat) (x1 : Int32) (x2 : Int32) (x3 : Int32) (K63 : Hp → Int32 → Int32 → Int32 → Option (Int32 × Hp)) (S : Hp) (v5 : Int32) (v6 : Int32) (v7 : Int32) : Option (Int32 × Hp) :=
  if (10 : Int32) ≤ v7 then (some (v6, S)) else (if (v5 &&& ((1 : Int32) <<< (v7 &&& 31))) = 0 then (K63 S v5 v6 ((v7 + (1 : Int32)))) else (gd (ok S a0 3) <| cl (se S a0 x1 ((x2 ||| ((1 : Int32) <<< (v7 &&& 31)))) ((1 : Int32)) ((x3 + (1 : Int32)))) fun r20 S20 => if r20 = (-1 : Int32) then (some ((-1 : Int32), S20)) else (bd (imax v6 (r20 + (1 : Int32))) fun e22 => K63 S20 v5 e22 ((v7 + (1 : Int32))))))
def f_X3_longest_l63 (se : Hp → Nat → Int32 → Int32 → Int32 → Int32 → Option (Int32 × Hp)) (N : Nat) (a0 : Nat) (x1 : Int32) (x2 : Int32) (x3 : Int32) : Nat → Hp → Int32 → Int32 → Int32 → Option (Int32 × Hp)
  | 0, _, _, _, _ => none
  | k + 1, S, v5, v6, v7 => f_X3_longest_b63 se N a0 x1 x2 x3 (f_X3_longest_l63 se N a0 x1 x2 x3 k) S v5 v6 v7
def f_X3_longest (se : Hp → Nat → Int32 → Int32 → Int32 → Int32 → Option (Int32 × Hp)) (N : Nat) (S : Hp) (a0 : Nat) (x1 : Int32) (x2 : Int32) (x3 : Int32) : Option (Int32 × Hp) :=
  gd (ok S a0 3) <| nn (hR S a0 0) fun r11 => gd (ok S r11 1) <| if (1024 : Int32) ≤ (hI S r11 4) then (if (bitc ((hI S r11 5))) ≤ (1 : Int32) then (if (hI S r11 5) = 0 then (bd ((hI S a0 1) &&& ((x1 ||| x2) ^^^ (-1 : Int32))) fun e16 => f_X3_longest_l63 se N a0 x1 x2 x3 N S e16 ((0 : Int32)) ((0 : Int32))) else (f_X3_longest_l63 se N a0 x1 x2 x3 N S ((hI S r11 5)) ((0 : Int32)) ((0 : Int32)))) else (some ((2 : Int32), S))) else (some ((-1 : Int32), S))
def f_X3_searchB_b99 (se : Hp → Nat → Int32 → Int32 → Int32 → Int32 → Option (Int32 × Hp)) (N : Nat) (a0 : Nat) (x1 : Int32) (x2 : Int32) (x3 : Int32) (x4 : Int32) (S : Hp) (v5 : Int32) (v6 : Int32) : Option (Int32 × Hp) :=
  gd (ok S a0 3) <| cl (f_X3_keep N S a0 v5 v6) fun _ S29 => some (v6, S29)
def f_X3_searchB_b67 (se : Hp → Nat → Int32 → Int32 → Int32 → Int32 → Option (Int32 × Hp)) (N : Nat) (a0 : Nat) (x1 : Int32) (x2 : Int32) (x3 : Int32) (x4 : Int32) (S : Hp) (v5 : Int32) (s0 : Int32) : Option (Int32 × Hp) :=
  f_X3_searchB_b99 se N a0 x1 x2 x3 x4 S v5 s0
def f_X3_searchB (se : Hp → Nat → Int32 → Int32 → Int32 → Int32 → Option (Int32 × Hp)) (N : Nat) (S : Hp) (a0 : Nat) (x1 : Int32) (x2 : Int32) (x3 : Int32) (x4 : Int32) : Option (Int32 × Hp) :=
  if x4 ≤ (10 : Int32) then (gd (ok S a0 3) <| cl (f_X3_placeOf N S a0 x1 x2) fun r12 S12 => gd (ok S12 a0 3) <| cl (f_X3_recall N S12 a0 r12) fun r14 S14 => if r14 = (-2 : Int32) then (gd (ok S14 a0 3) <| nn (hR S14 a0 0) fun r17 => gd (ok S14 r17 1) <| cl (f_X1_survey N S14 r17 x1 x2) fun _ S19 => gd (ok S19 a0 3) <| nn (hR S19 a0 0) fun r21 => gd (ok S19 r21 1) <| if (hI S19 r21 2) = 0 then (if x3 = 0 then (cl (f_X3_longest se N S19 a0 x1 x2 x4) fun r25 S25 => f_X3_searchB_b99 se N a0 x1 x2 x3 x4 S25 r12 r25) else (cl (f_X3_shortest se N S19 a0 x1 x2 x4) fun r26 S26 => f_X3_searchB_b99 se N a0 x1 x2 x3 x4 S26 r12 r26)) else (if (hI S19 r21 2) = (1 : Int32) then (f_X3_searchB_b67 se N a0 x1 x2 x3 x4 S19 r12 ((0 : Int32))) else (f_X3_searchB_b67 se N a0 x1 x2 x3 x4 S19 r12 ((-1 : Int32))))) else (some (r14, S14))) else (some ((-1 : Int32), S))
def f_X3_searchD (N : Nat) : Nat → Hp → Nat → Int32 → Int32 → Int32 → Int32 → Option (Int32 × Hp)
  | 0, _, _, _, _, _, _ => none
  | d + 1, S, a0, x1, x2, x3, x4 => f_X3_searchB (f_X3_searchD N d) N S a0 x1 x2 x3 x4
def f_X3_search (N : Nat) (S : Hp) (a0 : Nat) (x1 : Int32) (x2 : Int32) (x3 : Int32) (x4 : Int32) : Option (Int32 × Hp) := f_X3_searchD N 13 S a0 x1 x2 x3 x4
def f_X3_lengthOf (N : Nat) (S : Hp) (a0 : Nat) (a1 : Nat) : Option (Int32 × Hp) :=
  gd (ok S a0 3) <| cl (f_X3_prepare N S a0 a1) fun _ S11 => gd (ok S11 a1 4) <| gd (ok S11 a0 3) <| cl (f_X3_search N S11 a0 ((hI S11 a1 2)) ((hI S11 a1 3)) ((hI S11 a1 4)) ((0 : Int32))) fun r14 S14 => some (r14, S14)
def f_X4_freeCells (N : Nat) (S : Hp) (a0 : Nat) : Option (Int32 × Hp) :=
  gd (ok S a0 4) <| cl (f_X4_allCells N S a0) fun r11 S11 => gd (ok S11 a0 4) <| some ((r11 &&& (((hI S11 a0 2) ||| (hI S11 a0 3)) ^^^ (-1 : Int32))), S11)
def f_X3_rankOf (N : Nat) (S : Hp) (x0 : Int32) (x1 : Int32) : Option (Int32 × Hp) :=
  if x1 = 0 then (if x0 = (-1 : Int32) then (some ((100 : Int32), S)) else (some (x0, S))) else (if x0 = (-1 : Int32) then (some ((0 : Int32), S)) else (some (((100 : Int32) - x0), S)))
def f_X3_bestMove_b98 (N : Nat) (a0 : Nat) (a1 : Nat) (K24 : Hp → Int32 → Int32 → Int32 → Int32 → Int32 → Option (Int32 × Hp)) (S : Hp) (v2 : Int32) (v3 : Int32) (v4 : Int32) (v5 : Int32) (v6 : Int32) (s0 : Int32) (s1 : Int32) (s2 : Int32) (s3 : Nat) : Option (Int32 × Hp) :=
  gd (ok S s3 3) <| cl (f_X3_search N S s3 s2 s1 s0 ((1 : Int32))) fun r25 S25 => cl (f_X3_rankOf N S25 r25 v2) fun r26 S26 => if r26 ≤ v5 then (K24 S26 v2 v3 v4 v5 ((v6 + (1 : Int32)))) else (K24 S26 v2 v3 v6 r26 ((v6 + (1 : Int32))))
def f_X3_bestMove_b82 (N : Nat) (a0 : Nat) (a1 : Nat) (K24 : Hp → Int32 → Int32 → Int32 → Int32 → Int32 → Option (Int32 × Hp)) (S : Hp) (v2 : Int32) (v3 : Int32) (v4 : Int32) (v5 : Int32) (v6 : Int32) (v8 : Int32) (s0 : Int32) : Option (Int32 × Hp) :=
  if v2 = 0 then (f_X3_bestMove_b98 N a0 a1 K24 S v2 v3 v4 v5 v6 ((1 : Int32)) s0 v8 a0) else (f_X3_bestMove_b98 N a0 a1 K24 S v2 v3 v4 v5 v6 ((0 : Int32)) s0 v8 a0)
def f_X3_bestMove_b62 (N : Nat) (a0 : Nat) (a1 : Nat) (K24 : Hp → Int32 → Int32 → Int32 → Int32 → Int32 → Option (Int32 × Hp)) (S : Hp) (v2 : Int32) (v3 : Int32) (v4 : Int32) (v5 : Int32) (v6 : Int32) (v7 : Int32) (s0 : Int32) : Option (Int32 × Hp) :=
  if v2 = 0 then (gd (ok S a1 4) <| f_X3_bestMove_b82 N a0 a1 K24 S v2 v3 v4 v5 v6 s0 (((hI S a1 3) ||| v7))) else (gd (ok S a1 4) <| f_X3_bestMove_b82 N a0 a1 K24 S v2 v3 v4 v5 v6 s0 ((hI S a1 3)))
def f_X3_bestMove_b24 (N : Nat) (a0 : Nat) (a1 : Nat) (K24 : Hp → Int32 → Int32 → Int32 → Int32 → Int32 → Option (Int32 × Hp)) (S : Hp) (v2 : Int32) (v3 : Int32) (v4 : Int32) (v5 : Int32) (v6 : Int32) : Option (Int32 × Hp) :=
  if (10 : Int32) ≤ v6 then (some (v4, S)) else (bd (v3 &&& ((1 : Int32) <<< (v6 &&& 31))) fun e15 => if e15 = 0 then (K24 S v2 v3 v4 v5 ((v6 + (1 : Int32)))) else (if v2 = 0 then (gd (ok S a1 4) <| f_X3_bestMove_b62 N a0 a1 K24 S v2 v3 v4 v5 v6 e15 ((hI S a1 2))) else (gd (ok S a1 4) <| f_X3_bestMove_b62 N a0 a1 K24 S v2 v3 v4 v5 v6 e15 (((hI S a1 2) ||| e15)))))
def f_X3_bestMove_l24 (N : Nat) (a0 : Nat) (a1 : Nat) : Nat → Hp → Int32 → Int32 → Int32 → Int32 → Int32 → Option (Int32 × Hp)
  | 0, _, _, _, _, _, _ => none
  | k + 1, S, v2, v3, v4, v5, v6 => f_X3_bestMove_b24 N a0 a1 (f_X3_bestMove_l24 N a0 a1 k) S v2 v3 v4 v5 v6
def f_X3_bestMove (N : Nat) (S : Hp) (a0 : Nat) (a1 : Nat) : Option (Int32 × Hp) :=
  gd (ok S a0 3) <| cl (f_X3_prepare N S a0 a1) fun _ S11 => gd (ok S11 a1 4) <| cl (f_X4_freeCells N S11 a1) fun r13 S13 => f_X3_bestMove_l24 N a0 a1 N S13 ((hI S11 a1 4)) r13 ((-1 : Int32)) ((-1 : Int32)) ((0 : Int32))
def f_X4_forgetLatest (N : Nat) (S : Hp) (a0 : Nat) : Option (Unit × Hp) :=
  gd (ok S a0 4) <| bd (sI (sI S a0 5 (-1 : Int32)) a0 6 (-1 : Int32)) fun S11 => some ((), S11)
def f_X4_freeAll (N : Nat) (S : Hp) (a0 : Nat) (x1 : Int32) : Option (Unit × Hp) :=
  gd (ok S a0 4) <| gd (isB x1) <| bd (sI (sI (sI S a0 2 (0 : Int32)) a0 3 (0 : Int32)) a0 4 x1) fun S12 => cl (f_X4_forgetLatest N S12 a0) fun _ S14 => some ((), S14)
def f_X4_winner (N : Nat) (S : Hp) (a0 : Nat) : Option (Int32 × Hp) :=
  gd (ok S a0 4) <| nn (hR S a0 0) fun r11 => gd (ok S r11 1) <| cl (f_X1_survey N S r11 ((hI S a0 2)) ((hI S a0 3))) fun _ S13 => gd (ok S13 a0 4) <| nn (hR S13 a0 0) fun r15 => gd (ok S13 r15 1) <| some ((hI S13 r15 2), S13)
def f_X4_occupy_b109 (N : Nat) (a0 : Nat) (x1 : Int32) (x2 : Int32) (S : Hp) (s0 : Int32) (s1 : Int32) (s2 : Nat) : Option (Unit × Hp) :=
  gd (ok S s2 4) <| some ((), (sI S s2 9 (s1 + s0)))
def f_X4_occupy_b90 (N : Nat) (a0 : Nat) (x1 : Int32) (x2 : Int32) (S : Hp) (v3 : Int32) (s0 : Int32) (s1 : Int32) (s2 : Nat) : Option (Unit × Hp) :=
  gd (ok S s2 4) <| gd (ok ((sI S s2 8 (s1 + s0))) a0 4) <| if v3 = (2 : Int32) then (f_X4_occupy_b109 N a0 x1 x2 ((sI S s2 8 (s1 + s0))) ((1 : Int32)) ((hI ((sI S s2 8 (s1 + s0))) a0 9)) a0) else (f_X4_occupy_b109 N a0 x1 x2 ((sI S s2 8 (s1 + s0))) ((0 : Int32)) ((hI ((sI S s2 8 (s1 + s0))) a0 9)) a0)
def f_X4_occupy_b47 (N : Nat) (a0 : Nat) (x1 : Int32) (x2 : Int32) (S : Hp) (s0 : Int32) (s1 : Nat) : Option (Unit × Hp) :=
  gd (ok S s1 4) <| gd (isB s0) <| gd (ok ((sI S s1 4 s0)) a0 4) <| bd (sI (sI (sI (sI S s1 4 s0) a0 5 x1) a0 6 x2) a0 7 ((hI ((sI (sI (sI S s1 4 s0) a0 5 x1) a0 6 x2)) a0 7) + (1 : Int32))) fun S21 => cl (f_X4_winner N S21 a0) fun r24 S24 => gd (ok S24 a0 4) <| if r24 = (1 : Int32) then (f_X4_occupy_b90 N a0 x1 x2 S24 r24 ((1 : Int32)) ((hI S24 a0 8)) a0) else (f_X4_occupy_b90 N a0 x1 x2 S24 r24 ((0 : Int32)) ((hI S24 a0 8)) a0)
def f_X4_occupy_b34 (N : Nat) (a0 : Nat) (x1 : Int32) (x2 : Int32) (S : Hp) : Option (Unit × Hp) :=
  gd (ok S a0 4) <| if (hI S a0 4) = 0 then (f_X4_occupy_b47 N a0 x1 x2 S ((1 : Int32)) a0) else (f_X4_occupy_b47 N a0 x1 x2 S ((0 : Int32)) a0)
def f_X4_occupy (N : Nat) (S : Hp) (a0 : Nat) (x1 : Int32) (x2 : Int32) : Option (Unit × Hp) :=
  gd (ok S a0 4) <| if (hI S a0 4) = 0 then (bd (sI S a0 3 ((hI S a0 3) ||| ((1 : Int32) <<< (x1 &&& 31)))) fun S12 => f_X4_occupy_b34 N a0 x1 x2 S12) else (bd (sI S a0 2 ((hI S a0 2) ||| ((1 : Int32) <<< (x1 &&& 31)))) fun S14 => f_X4_occupy_b34 N a0 x1 x2 S14)
def f_X4_hasCell (N : Nat) (S : Hp) (a0 : Nat) (x1 : Int32) : Option (Int32 × Hp) :=
  if x1 < 0 then (some ((0 : Int32), S)) else (gd (ok S a0 4) <| if (hI S a0 1) ≤ x1 then (some ((0 : Int32), S)) else (some ((1 : Int32), S)))
def f_X4_isFree (N : Nat) (S : Hp) (a0 : Nat) (x1 : Int32) : Option (Int32 × Hp) :=
  gd (ok S a0 4) <| cl (f_X4_freeCells N S a0) fun r11 S11 => if (r11 &&& ((1 : Int32) <<< (x1 &&& 31))) = 0 then (some ((0 : Int32), S11)) else (some ((1 : Int32), S11))
def f_X4_ownerOf (N : Nat) (S : Hp) (a0 : Nat) (x1 : Int32) : Option (Int32 × Hp) :=
  gd (ok S a0 4) <| cl (f_X4_isFree N S a0 x1) fun r11 S11 => if r11 = 0 then (gd (ok S11 a0 4) <| if ((hI S11 a0 2) &&& ((1 : Int32) <<< (x1 &&& 31))) = 0 then (some ((2 : Int32), S11)) else (some ((1 : Int32), S11))) else (some ((0 : Int32), S11))
def f_X4_mover (N : Nat) (S : Hp) (a0 : Nat) : Option (Int32 × Hp) :=
  gd (ok S a0 4) <| if (hI S a0 4) = 0 then (some ((2 : Int32), S)) else (some ((1 : Int32), S))
def f_X4_weight (N : Nat) (S : Hp) (a0 : Nat) : Option (Int32 × Hp) :=
  gd (ok S a0 4) <| nn (hR S a0 0) fun r11 => gd (ok S r11 1) <| cl (f_X1_survey N S r11 ((hI S a0 2)) ((hI S a0 3))) fun _ S13 => gd (ok S13 a0 4) <| nn (hR S13 a0 0) fun r15 => gd (ok S13 r15 1) <| some ((hI S13 r15 4), S13)
def f_X4_forcedReply (N : Nat) (S : Hp) (a0 : Nat) : Option (Int32 × Hp) :=
  gd (ok S a0 4) <| nn (hR S a0 0) fun r11 => gd (ok S r11 1) <| cl (f_X1_survey N S r11 ((hI S a0 2)) ((hI S a0 3))) fun _ S13 => gd (ok S13 a0 4) <| nn (hR S13 a0 0) fun r15 => gd (ok S13 r15 1) <| cl (f_X6_lowestOf N S13 ((hI S13 r15 5))) fun r17 S17 => some (r17, S17)
def f_X4_dangerOf (N : Nat) (S : Hp) (a0 : Nat) (x1 : Int32) : Option (Int32 × Hp) :=
  gd (ok S a0 4) <| cl (f_X4_isFree N S a0 x1) fun r11 S11 => if r11 = 0 then (some ((0 : Int32), S11)) else (gd (ok S11 a0 4) <| nn (hR S11 a0 0) fun r14 => gd (ok S11 r14 1) <| cl (f_X1_weightWith N S11 r14 x1 ((hI S11 a0 2)) ((hI S11 a0 3))) fun r16 S16 => some (r16, S16))
def f_X4_mostDangerous_b12 (N : Nat) (a0 : Nat) (K12 : Hp → Int32 → Int32 → Int32 → Int32 → Option (Int32 × Hp)) (S : Hp) (v1 : Int32) (v2 : Int32) (v3 : Int32) (v4 : Int32) : Option (Int32 × Hp) :=
  if (10 : Int32) ≤ v4 then (some (v2, S)) else (if (v1 &&& ((1 : Int32) <<< (v4 &&& 31))) = 0 then (K12 S v1 v2 v3 ((v4 + (1 : Int32)))) else (gd (ok S a0 4) <| nn (hR S a0 0) fun r15 => gd (ok S r15 1) <| cl (f_X1_weightWith N S r15 v4 ((hI S a0 2)) ((hI S a0 3))) fun r17 S17 => if r17 ≤ v3 then (K12 S17 v1 v2 v3 ((v4 + (1 : Int32)))) else (K12 S17 v1 v4 r17 ((v4 + (1 : Int32))))))
def f_X4_mostDangerous_l12 (N : Nat) (a0 : Nat) : Nat → Hp → Int32 → Int32 → Int32 → Int32 → Option (Int32 × Hp)
  | 0, _, _, _, _, _ => none
  | k + 1, S, v1, v2, v3, v4 => f_X4_mostDangerous_b12 N a0 (f_X4_mostDangerous_l12 N a0 k) S v1 v2 v3 v4
def f_X4_mostDangerous (N : Nat) (S : Hp) (a0 : Nat) : Option (Int32 × Hp) :=
  gd (ok S a0 4) <| cl (f_X4_freeCells N S a0) fun r11 S11 => f_X4_mostDangerous_l12 N a0 N S11 r11 ((-1 : Int32)) ((-1 : Int32)) ((0 : Int32))
def f_X5_init (N : Nat) (S : Hp) (z : Nat) (a0 : Nat) : Option (Unit × Hp × Nat) :=
  gd (ok ((sNew S z 8 60)) a0 5) <| bd (sI (sR (sNew S z 8 60) a0 0 (some z)) a0 1 (0 : Int32)) fun S12 => some ((), S12, (z + 1))
def f_X5_put (N : Nat) (S : Hp) (a0 : Nat) (x1 : Int32) : Option (Unit × Hp) :=
  gd (ok S a0 5) <| if (hI S a0 1) < 0 then (some ((), S)) else (nn (hR S a0 0) fun r12 => gd (ok S r12 8) <| if (nI (hN S r12)) ≤ (hI S a0 1) then (some ((), S)) else (gd (inb (hI S a0 1) (hN S r12)) <| bd (sI (sI S r12 (hI S a0 1).toNatClampNeg x1) a0 1 ((hI ((sI S r12 (hI S a0 1).toNatClampNeg x1)) a0 1) + (1 : Int32))) fun S16 => some ((), S16)))
def f_X5_errorAt_b52 (N : Nat) (a0 : Nat) (x1 : Int32) (K4 : Hp → Int32 → Int32 → Option (Int32 × Hp)) (S : Hp) (v2 : Int32) (v3 : Int32) (v4 : Int32) : Option (Int32 × Hp) :=
  if v4 < v2 then (some (v3, S)) else (if x1 ≤ v4 then (some (v3, S)) else (K4 S ((v4 + (1 : Int32))) ((v3 + (1 : Int32)))))
def f_X5_errorAt_b4 (N : Nat) (a0 : Nat) (x1 : Int32) (K4 : Hp → Int32 → Int32 → Option (Int32 × Hp)) (S : Hp) (v2 : Int32) (v3 : Int32) : Option (Int32 × Hp) :=
  gd (ok S a0 5) <| if (hI S a0 1) ≤ v3 then (some ((hI S a0 1), S)) else (nn (hR S a0 0) fun r12 => gd (ok S r12 8) <| if (nI (hN S r12)) ≤ v3 then (some ((hI S a0 1), S)) else (gd (inb v3 (hN S r12)) <| bd ((hI S r12 v3.toNatClampNeg) - (48 : Int32)) fun e16 => if (hI S r12 v3.toNatClampNeg) = (59 : Int32) then (if v2 ≤ 0 then (f_X5_errorAt_b52 N a0 x1 K4 S v2 v3 e16) else (K4 S ((0 : Int32)) ((v3 + (1 : Int32))))) else (f_X5_errorAt_b52 N a0 x1 K4 S v2 v3 e16)))
def f_X5_errorAt_l4 (N : Nat) (a0 : Nat) (x1 : Int32) : Nat → Hp → Int32 → Int32 → Option (Int32 × Hp)
  | 0, _, _, _ => none
  | k + 1, S, v2, v3 => f_X5_errorAt_b4 N a0 x1 (f_X5_errorAt_l4 N a0 x1 k) S v2 v3
def f_X5_errorAt (N : Nat) (S : Hp) (a0 : Nat) (x1 : Int32) : Option (Int32 × Hp) :=
  f_X5_errorAt_l4 N a0 x1 N S ((0 : Int32)) ((0 : Int32))
def f_X5_isComplete (N : Nat) (S : Hp) (a0 : Nat) (x1 : Int32) : Option (Int32 × Hp) :=
  gd (ok S a0 5) <| if (hI S a0 1) ≤ 0 then (some ((0 : Int32), S)) else (nn (hR S a0 0) fun r12 => gd (ok S r12 8) <| if (hI S a0 1) ≤ (nI (hN S r12)) then (gd (inb ((hI S a0 1) - (1 : Int32)) (hN S r12)) <| if (hI S r12 ((hI S a0 1) - (1 : Int32)).toNatClampNeg) = (59 : Int32) then (some ((0 : Int32), S)) else (cl (f_X5_errorAt N S a0 x1) fun r17 S17 => gd (ok S17 a0 5) <| if r17 = (hI S17 a0 1) then (some ((1 : Int32), S17)) else (some ((0 : Int32), S17)))) else (some ((0 : Int32), S)))
def f_X5_rows_b4 (N : Nat) (a0 : Nat) (K4 : Hp → Int32 → Int32 → Option (Int32 × Hp)) (S : Hp) (v1 : Int32) (v2 : Int32) : Option (Int32 × Hp) :=
  gd (ok S a0 5) <| if (hI S a0 1) ≤ v2 then (some (v1, S)) else (nn (hR S a0 0) fun r12 => gd (ok S r12 8) <| if (nI (hN S r12)) ≤ v2 then (some (v1, S)) else (gd (inb v2 (hN S r12)) <| if (hI S r12 v2.toNatClampNeg) = (59 : Int32) then (K4 S ((v1 + (1 : Int32))) ((v2 + (1 : Int32)))) else (K4 S v1 ((v2 + (1 : Int32))))))
def f_X5_rows_l4 (N : Nat) (a0 : Nat) : Nat → Hp → Int32 → Int32 → Option (Int32 × Hp)
  | 0, _, _, _ => none
  | k + 1, S, v1, v2 => f_X5_rows_b4 N a0 (f_X5_rows_l4 N a0 k) S v1 v2
def f_X5_rows (N : Nat) (S : Hp) (a0 : Nat) : Option (Int32 × Hp) :=
  f_X5_rows_l4 N a0 N S ((1 : Int32)) ((0 : Int32))
def f_X5_addTo_b62 (N : Nat) (a0 : Nat) (a1 : Nat) (S : Hp) (v2 : Int32) : Option (Unit × Hp) :=
  gd (ok S a1 1) <| cl (f_X1_put N S a1 v2) fun _ S21 => some ((), S21)
def f_X5_addTo_b4 (N : Nat) (a0 : Nat) (a1 : Nat) (K4 : Hp → Int32 → Int32 → Option (Unit × Hp)) (S : Hp) (v2 : Int32) (v3 : Int32) : Option (Unit × Hp) :=
  gd (ok S a0 5) <| if (hI S a0 1) ≤ v3 then (f_X5_addTo_b62 N a0 a1 S v2) else (nn (hR S a0 0) fun r12 => gd (ok S r12 8) <| if (nI (hN S r12)) ≤ v3 then (f_X5_addTo_b62 N a0 a1 S v2) else (gd (inb v3 (hN S r12)) <| if (hI S r12 v3.toNatClampNeg) = (59 : Int32) then (gd (ok S a1 1) <| cl (f_X1_put N S a1 v2) fun _ S19 => K4 S19 ((0 : Int32)) ((v3 + (1 : Int32)))) else (bd (v2 ||| ((1 : Int32) <<< (((hI S r12 v3.toNatClampNeg) - (48 : Int32)) &&& 31))) fun e17 => K4 S e17 ((v3 + (1 : Int32))))))
def f_X5_addTo_l4 (N : Nat) (a0 : Nat) (a1 : Nat) : Nat → Hp → Int32 → Int32 → Option (Unit × Hp)
  | 0, _, _, _ => none
  | k + 1, S, v2, v3 => f_X5_addTo_b4 N a0 a1 (f_X5_addTo_l4 N a0 a1 k) S v2 v3
def f_X5_addTo (N : Nat) (S : Hp) (a0 : Nat) (a1 : Nat) : Option (Unit × Hp) :=
  f_X5_addTo_l4 N a0 a1 N S ((0 : Int32)) ((0 : Int32))
def f_X5_hashOnto_b15 (N : Nat) (a0 : Nat) (y1 : Int64) (K15 : Hp → Int64 → Int32 → Option (Int64 × Hp)) (S : Hp) (l3 : Int64) (v5 : Int32) : Option (Int64 × Hp) :=
  gd (ok S a0 5) <| if (hI S a0 1) ≤ v5 then (some (l3, S)) else (nn (hR S a0 0) fun r14 => gd (ok S r14 8) <| if (nI (hN S r14)) ≤ v5 then (some (l3, S)) else (gd (inb v5 (hN S r14)) <| bd (((31 : Int64) * l3) + (Int32.toInt64 (hI S r14 v5.toNatClampNeg))) fun e18 => K15 S e18 ((v5 + (1 : Int32)))))
def f_X5_hashOnto_l15 (N : Nat) (a0 : Nat) (y1 : Int64) : Nat → Hp → Int64 → Int32 → Option (Int64 × Hp)
  | 0, _, _, _ => none
  | k + 1, S, l3, v5 => f_X5_hashOnto_b15 N a0 y1 (f_X5_hashOnto_l15 N a0 y1 k) S l3 v5
def f_X5_hashOnto (N : Nat) (S : Hp) (a0 : Nat) (y1 : Int64) : Option (Int64 × Hp) :=
  gd (ok S a0 5) <| bd (((31 : Int64) * y1) + (Int32.toInt64 (hI S a0 1))) fun e11 => f_X5_hashOnto_l15 N a0 y1 N S e11 ((0 : Int32))
def f_X6_init (N : Nat) (S : Hp) (z : Nat) (a0 : Nat) : Option (Unit × Hp × Nat) :=
  cz (f_X4_init N ((sNew S z 4 0)) ((z + 1)) z) fun _ S11 z11 => gd (ok S11 a0 6) <| cz (f_X4_init N ((sNew (sR S11 a0 0 (some z)) z11 4 0)) ((z11 + 1)) z11) fun _ S14 z14 => gd (ok S14 a0 6) <| cz (f_X0_init N ((sNew (sR S14 a0 1 (some z11)) z14 0 0)) ((z14 + 1)) z14) fun _ S17 z17 => gd (ok S17 a0 6) <| gd (ok ((sNew (sR S17 a0 2 (some z14)) z17 9 2)) a0 6) <| bd (sR (sNew (sR S17 a0 2 (some z14)) z17 9 2) a0 3 (some z17)) fun S21 => cz (f_X5_init N ((sNew S21 ((z17 + 1)) 5 0)) (((z17 + 1) + 1)) ((z17 + 1))) fun _ S24 z24 => gd (ok S24 a0 6) <| cz (f_X2_init N ((sNew (sR S24 a0 4 (some (z17 + 1))) z24 2 0)) ((z24 + 1)) z24) fun _ S27 z27 => gd (ok S27 a0 6) <| cz (f_X3_init N ((sNew (sR S27 a0 5 (some z24)) z27 3 0)) ((z27 + 1)) z27) fun _ S30 z30 => gd (ok S30 a0 6) <| some ((), (sR S30 a0 6 (some z27)), z30)
def f_X6_begin_b11 (N : Nat) (a0 : Nat) (x1 : Int32) (S : Hp) (z : Nat) : Option (Int32 × Hp × Nat) :=
  none
def f_X6_begin (N : Nat) (S : Hp) (z : Nat) (a0 : Nat) (x1 : Int32) : Option (Int32 × Hp × Nat) :=
  if x1 < (2 : Int32) then (f_X6_begin_b11 N a0 x1 S z) else (if x1 ≤ (10 : Int32) then (gd (ok S a0 6) <| nn (hR S a0 2) fun r13 => nn (hR S a0 0) fun r14 => gd (ok S r13 0) <| cz (f_X0_save N S z r13 r14) fun _ S16 z16 => gd (ok S16 a0 6) <| nn (hR S16 a0 0) fun r18 => gd (ok S16 r18 4) <| nn (hR ((sI S16 r18 1 x1)) r18 0) fun r20 => gd (ok ((sI S16 r18 1 x1)) r20 1) <| cl (f_X4_freeAll N ((sI (sI S16 r18 1 x1) r20 1 (0 : Int32))) r18 ((1 : Int32))) fun _ S22 => some ((hI S16 r18 1), S22, z16)) else (f_X6_begin_b11 N a0 x1 S z))
def f_X6_addLine_b18 (N : Nat) (a0 : Nat) (x1 : Int32) (S : Hp) (z : Nat) : Option (Int32 × Hp × Nat) :=
  none
def f_X6_addLine (N : Nat) (S : Hp) (z : Nat) (a0 : Nat) (x1 : Int32) : Option (Int32 × Hp × Nat) :=
  if x1 = 0 then (f_X6_addLine_b18 N a0 x1 S z) else (gd (ok S a0 6) <| nn (hR S a0 0) fun r12 => gd (ok S r12 4) <| cl (f_X4_allCells N S r12) fun r14 S14 => if (x1 &&& (r14 ^^^ (-1 : Int32))) = 0 then (gd (ok S14 a0 6) <| nn (hR S14 a0 0) fun r17 => gd (ok S14 r17 4) <| nn (hR S14 r17 0) fun r19 => gd (ok S14 r19 1) <| if (hI S14 r19 1) < (12 : Int32) then (nn (hR S14 a0 2) fun r22 => gd (ok S14 r22 0) <| cz (f_X0_save N S14 z r22 r17) fun _ S24 z24 => gd (ok S24 a0 6) <| nn (hR S24 a0 0) fun r26 => gd (ok S24 r26 4) <| nn (hR S24 r26 0) fun r28 => gd (ok S24 r28 1) <| cl (f_X1_put N S24 r28 x1) fun _ S30 => gd (ok S30 a0 6) <| nn (hR S30 a0 0) fun r32 => gd (ok S30 r32 4) <| nn (hR S30 r32 0) fun r34 => gd (ok S30 r34 1) <| some (((hI S30 r34 1) - (1 : Int32)), S30, z24)) else (none)) else (f_X6_addLine_b18 N a0 x1 S14 z))
def f_X6_removeLine (N : Nat) (S : Hp) (z : Nat) (a0 : Nat) (x1 : Int32) : Option (Int32 × Hp × Nat) :=
  gd (ok S a0 6) <| nn (hR S a0 0) fun r11 => gd (ok S r11 4) <| nn (hR S r11 0) fun r13 => gd (ok S r13 1) <| cl (f_X1_has N S r13 x1) fun r15 S15 => if r15 = 0 then (none) else (gd (ok S15 a0 6) <| nn (hR S15 a0 2) fun r18 => nn (hR S15 a0 0) fun r19 => gd (ok S15 r18 0) <| cz (f_X0_save N S15 z r18 r19) fun _ S21 z21 => gd (ok S21 a0 6) <| nn (hR S21 a0 0) fun r23 => gd (ok S21 r23 4) <| nn (hR S21 r23 0) fun r25 => gd (ok S21 r25 1) <| cl (f_X1_maskOf N S21 r25 x1) fun r27 S27 => gd (ok S27 a0 6) <| nn (hR S27 a0 0) fun r29 => gd (ok S27 r29 4) <| nn (hR S27 r29 0) fun r31 => gd (ok S27 r31 1) <| cl (f_X1_drop N S27 r31 x1) fun _ S33 => some (r27, S33, z21))
def f_X6_clear (N : Nat) (S : Hp) (z : Nat) (a0 : Nat) (x1 : Int32) : Option (Int32 × Hp × Nat) :=
  gd (ok S a0 6) <| nn (hR S a0 2) fun r11 => nn (hR S a0 0) fun r12 => gd (ok S r11 0) <| cz (f_X0_save N S z r11 r12) fun _ S14 z14 => gd (ok S14 a0 6) <| nn (hR S14 a0 0) fun r16 => gd (ok S14 r16 4) <| bd (bitc (((hI S14 r16 2) ||| (hI S14 r16 3)))) fun e18 => cl (f_X4_freeAll N S14 r16 x1) fun _ S19 => some (e18, S19, z14)
def f_X6_otherInPairing (N : Nat) (S : Hp) (a0 : Nat) (x1 : Int32) : Option (Int32 × Hp) :=
  gd (ok S a0 6) <| nn (hR S a0 5) fun r11 => nn (hR S a0 0) fun r12 => gd (ok S r11 2) <| cl (f_X2_lookAt N S r11 r12) fun _ S14 => gd (ok S14 a0 6) <| nn (hR S14 a0 5) fun r16 => gd (ok S14 r16 2) <| cl (f_X2_otherOf N S14 r16 x1) fun r18 S18 => some (r18, S18)
def f_X6_move_b42 (N : Nat) (a0 : Nat) (x1 : Int32) (S : Hp) (z : Nat) : Option (Int32 × Hp × Nat) :=
  none
def f_X6_move (N : Nat) (S : Hp) (z : Nat) (a0 : Nat) (x1 : Int32) : Option (Int32 × Hp × Nat) :=
  gd (ok S a0 6) <| nn (hR S a0 0) fun r11 => gd (ok S r11 4) <| cl (f_X4_hasCell N S r11 x1) fun r13 S13 => if r13 = 0 then (none) else (gd (ok S13 a0 6) <| nn (hR S13 a0 0) fun r16 => gd (ok S13 r16 4) <| cl (f_X4_winner N S13 r16) fun r18 S18 => if r18 = 0 then (gd (ok S18 a0 6) <| nn (hR S18 a0 0) fun r21 => gd (ok S18 r21 4) <| cl (f_X4_isFree N S18 r21 x1) fun r23 S23 => if r23 = 0 then (f_X6_move_b42 N a0 x1 S23 z) else (gd (ok S23 a0 6) <| nn (hR S23 a0 2) fun r26 => nn (hR S23 a0 0) fun r27 => gd (ok S23 r26 0) <| cz (f_X0_save N S23 z r26 r27) fun _ S29 z29 => gd (ok S29 a0 6) <| nn (hR S29 a0 0) fun r31 => cl (f_X6_otherInPairing N S29 a0 x1) fun r32 S32 => gd (ok S32 r31 4) <| cl (f_X4_occupy N S32 r31 x1 r32) fun _ S34 => gd (ok S34 a0 6) <| nn (hR S34 a0 0) fun r36 => gd (ok S34 r36 4) <| cl (f_X4_winner N S34 r36) fun r38 S38 => some (r38, S38, z29))) else (f_X6_move_b42 N a0 x1 S18 z))
def f_X6_skip_b50 (N : Nat) (a0 : Nat) (S : Hp) (z : Nat) (s0 : Int32) (s1 : Nat) : Option (Int32 × Hp × Nat) :=
  gd (ok S s1 4) <| gd (isB s0) <| gd (ok ((sI S s1 4 s0)) a0 6) <| nn (hR ((sI S s1 4 s0)) a0 0) fun r27 => gd (ok ((sI S s1 4 s0)) r27 4) <| cl (f_X4_forgetLatest N ((sI S s1 4 s0)) r27) fun _ S29 => gd (ok S29 a0 6) <| nn (hR S29 a0 0) fun r31 => gd (ok S29 r31 4) <| cl (f_X4_mover N S29 r31) fun r33 S33 => some (r33, S33, z)
def f_X6_skip (N : Nat) (S : Hp) (z : Nat) (a0 : Nat) : Option (Int32 × Hp × Nat) :=
  gd (ok S a0 6) <| nn (hR S a0 0) fun r11 => gd (ok S r11 4) <| cl (f_X4_winner N S r11) fun r13 S13 => if r13 = 0 then (gd (ok S13 a0 6) <| nn (hR S13 a0 2) fun r16 => nn (hR S13 a0 0) fun r17 => gd (ok S13 r16 0) <| cz (f_X0_save N S13 z r16 r17) fun _ S19 z19 => gd (ok S19 a0 6) <| nn (hR S19 a0 0) fun r21 => gd (ok S19 r21 4) <| if (hI S19 r21 4) = 0 then (f_X6_skip_b50 N a0 S19 z19 ((1 : Int32)) r21) else (f_X6_skip_b50 N a0 S19 z19 ((0 : Int32)) r21)) else (none)
def f_X6_isRule (N : Nat) (S : Hp) (x0 : Int32) : Option (Int32 × Hp) :=
  if x0 < 0 then (some ((0 : Int32), S)) else (if (3 : Int32) < x0 then (some ((0 : Int32), S)) else (some ((1 : Int32), S)))
def f_X6_cellBy_b44 (N : Nat) (a0 : Nat) (x1 : Int32) (a2 : Nat) (S : Hp) : Option (Int32 × Hp) :=
  gd (ok S a2 4) <| cl (f_X4_forcedReply N S a2) fun r23 S23 => if r23 = (-1 : Int32) then (gd (ok S23 a2 4) <| cl (f_X4_mostDangerous N S23 a2) fun r26 S26 => some (r26, S26)) else (some (r23, S23))
def f_X6_cellBy (N : Nat) (S : Hp) (a0 : Nat) (x1 : Int32) (a2 : Nat) : Option (Int32 × Hp) :=
  if x1 = 0 then (gd (ok S a2 4) <| cl (f_X4_freeCells N S a2) fun r20 S20 => cl (f_X6_lowestOf N S20 r20) fun r21 S21 => some (r21, S21)) else (if x1 = (3 : Int32) then (gd (ok S a0 6) <| nn (hR S a0 6) fun r16 => gd (ok S r16 3) <| cl (f_X3_bestMove N S r16 a2) fun r18 S18 => some (r18, S18)) else (if x1 = (2 : Int32) then (gd (ok S a2 4) <| if (hI S a2 6) = (-1 : Int32) then (f_X6_cellBy_b44 N a0 x1 a2 S) else (some ((hI S a2 6), S))) else (f_X6_cellBy_b44 N a0 x1 a2 S)))
def f_X6_goOn_b30 (N : Nat) (a0 : Nat) (a1 : Nat) (x2 : Int32) (x3 : Int32) (x4 : Int32) (K3 : Hp → Int32 → Option (Int32 × Hp)) (S : Hp) (v5 : Int32) (s0 : Int32) (s1 : Nat) : Option (Int32 × Hp) :=
  gd (ok S s1 6) <| cl (f_X6_cellBy N S s1 s0 a1) fun r17 S17 => gd (ok S17 a0 6) <| nn (hR S17 a0 5) fun r19 => gd (ok S17 r19 2) <| cl (f_X2_lookAt N S17 r19 a1) fun _ S21 => gd (ok S21 a0 6) <| nn (hR S21 a0 5) fun r23 => gd (ok S21 r23 2) <| cl (f_X2_otherOf N S21 r23 r17) fun r25 S25 => gd (ok S25 a1 4) <| cl (f_X4_occupy N S25 a1 r17 r25) fun _ S27 => K3 S27 ((v5 + (1 : Int32)))
def f_X6_goOn_b3 (N : Nat) (a0 : Nat) (a1 : Nat) (x2 : Int32) (x3 : Int32) (x4 : Int32) (K3 : Hp → Int32 → Option (Int32 × Hp)) (S : Hp) (v5 : Int32) : Option (Int32 × Hp) :=
  if x4 ≤ v5 then (some (v5, S)) else (gd (ok S a1 4) <| cl (f_X4_winner N S a1) fun r12 S12 => if r12 = 0 then (gd (ok S12 a1 4) <| if (hI S12 a1 4) = 0 then (f_X6_goOn_b30 N a0 a1 x2 x3 x4 K3 S12 v5 x3 a0) else (f_X6_goOn_b30 N a0 a1 x2 x3 x4 K3 S12 v5 x2 a0)) else (some (v5, S12)))
def f_X6_goOn_l3 (N : Nat) (a0 : Nat) (a1 : Nat) (x2 : Int32) (x3 : Int32) (x4 : Int32) : Nat → Hp → Int32 → Option (Int32 × Hp)
  | 0, _, _ => none
  | k + 1, S, v5 => f_X6_goOn_b3 N a0 a1 x2 x3 x4 (f_X6_goOn_l3 N a0 a1 x2 x3 x4 k) S v5
def f_X6_goOn (N : Nat) (S : Hp) (a0 : Nat) (a1 : Nat) (x2 : Int32) (x3 : Int32) (x4 : Int32) : Option (Int32 × Hp) :=
  f_X6_goOn_l3 N a0 a1 x2 x3 x4 N S ((0 : Int32))
def f_X6_play_b25 (N : Nat) (a0 : Nat) (x1 : Int32) (x2 : Int32) (x3 : Int32) (S : Hp) (z : Nat) : Option (Int32 × Hp × Nat) :=
  none
def f_X6_play (N : Nat) (S : Hp) (z : Nat) (a0 : Nat) (x1 : Int32) (x2 : Int32) (x3 : Int32) : Option (Int32 × Hp × Nat) :=
  cl (f_X6_isRule N S x1) fun r10 S10 => if r10 = 0 then (f_X6_play_b25 N a0 x1 x2 x3 S10 z) else (cl (f_X6_isRule N S10 x2) fun r12 S12 => if r12 = 0 then (f_X6_play_b25 N a0 x1 x2 x3 S12 z) else (if x3 < (1 : Int32) then (f_X6_play_b25 N a0 x1 x2 x3 S12 z) else (if x3 ≤ (10 : Int32) then (gd (ok S12 a0 6) <| nn (hR S12 a0 0) fun r17 => gd (ok S12 r17 4) <| cl (f_X4_winner N S12 r17) fun r19 S19 => if r19 = 0 then (gd (ok S19 a0 6) <| nn (hR S19 a0 2) fun r22 => nn (hR S19 a0 0) fun r23 => gd (ok S19 r22 0) <| cz (f_X0_save N S19 z r22 r23) fun _ S25 z25 => gd (ok S25 a0 6) <| nn (hR S25 a0 0) fun r27 => cl (f_X6_goOn N S25 a0 r27 x1 x2 x3) fun r28 S28 => some (r28, S28, z25)) else (none)) else (f_X6_play_b25 N a0 x1 x2 x3 S12 z))))
def f_X6_append_b12 (N : Nat) (a0 : Nat) (x1 : Int32) (S : Hp) : Option (Int32 × Hp) :=
  none
def f_X6_append (N : Nat) (S : Hp) (a0 : Nat) (x1 : Int32) : Option (Int32 × Hp) :=
  if x1 < (33 : Int32) then (f_X6_append_b12 N a0 x1 S) else (if x1 ≤ (126 : Int32) then (gd (ok S a0 6) <| nn (hR S a0 4) fun r13 => gd (ok S r13 5) <| if (hI S r13 1) < (60 : Int32) then (cl (f_X5_put N S r13 x1) fun _ S16 => gd (ok S16 a0 6) <| nn (hR S16 a0 4) fun r18 => gd (ok S16 r18 5) <| some ((hI S16 r18 1), S16)) else (none)) else (f_X6_append_b12 N a0 x1 S))
def f_X6_clearBuffer (N : Nat) (S : Hp) (a0 : Nat) : Option (Int32 × Hp) :=
  gd (ok S a0 6) <| nn (hR S a0 4) fun r11 => gd (ok S r11 5) <| some ((hI S r11 1), (sI S r11 1 (0 : Int32)))
def f_X6_firstError (N : Nat) (S : Hp) (a0 : Nat) : Option (Int32 × Hp) :=
  gd (ok S a0 6) <| nn (hR S a0 4) fun r11 => nn (hR S a0 0) fun r12 => gd (ok S r12 4) <| gd (ok S r11 5) <| cl (f_X5_errorAt N S r11 ((hI S r12 1))) fun r15 S15 => some (r15, S15)
def f_X6_read (N : Nat) (S : Hp) (z : Nat) (a0 : Nat) : Option (Int32 × Hp × Nat) :=
  gd (ok S a0 6) <| nn (hR S a0 4) fun r11 => nn (hR S a0 0) fun r12 => gd (ok S r12 4) <| gd (ok S r11 5) <| cl (f_X5_isComplete N S r11 ((hI S r12 1))) fun r15 S15 => if r15 = 0 then (none) else (gd (ok S15 a0 6) <| nn (hR S15 a0 0) fun r18 => gd (ok S15 r18 4) <| nn (hR S15 r18 0) fun r20 => gd (ok S15 r20 1) <| nn (hR S15 a0 4) fun r22 => gd (ok S15 r22 5) <| cl (f_X5_rows N S15 r22) fun r24 S24 => if ((hI S15 r20 1) + r24) ≤ (12 : Int32) then (gd (ok S24 a0 6) <| nn (hR S24 a0 2) fun r27 => nn (hR S24 a0 0) fun r28 => gd (ok S24 r27 0) <| cz (f_X0_save N S24 z r27 r28) fun _ S30 z30 => gd (ok S30 a0 6) <| nn (hR S30 a0 4) fun r32 => nn (hR S30 a0 0) fun r33 => gd (ok S30 r33 4) <| nn (hR S30 r33 0) fun r35 => gd (ok S30 r32 5) <| cl (f_X5_addTo N S30 r32 r35) fun _ S37 => gd (ok S37 a0 6) <| nn (hR S37 a0 4) fun r39 => gd (ok S37 r39 5) <| nn (hR ((sI S37 r39 1 (0 : Int32))) a0 0) fun r41 => gd (ok ((sI S37 r39 1 (0 : Int32))) r41 4) <| nn (hR ((sI S37 r39 1 (0 : Int32))) r41 0) fun r43 => gd (ok ((sI S37 r39 1 (0 : Int32))) r43 1) <| some ((hI ((sI S37 r39 1 (0 : Int32))) r43 1), (sI S37 r39 1 (0 : Int32)), z30)) else (none))
def f_X6_isSnapshot (N : Nat) (S : Hp) (a0 : Nat) (x1 : Int32) : Option (Int32 × Hp) :=
  if x1 < 0 then (some ((0 : Int32), S)) else (gd (ok S a0 6) <| nn (hR S a0 3) fun r12 => gd (ok S r12 9) <| if (nI (hN S r12)) ≤ x1 then (some ((0 : Int32), S)) else (some ((1 : Int32), S)))
def f_X6_take_b44 (N : Nat) (a0 : Nat) (x1 : Int32) (S : Hp) (z : Nat) (p2 : Nat) : Option (Int32 × Hp × Nat) :=
  gd (ok S a0 6) <| nn (hR S a0 0) fun r26 => gd (ok S p2 4) <| cl (f_X4_copyBoard N S p2 r26) fun _ S28 => gd (ok S28 a0 6) <| nn (hR S28 a0 0) fun r30 => gd (ok S28 r30 4) <| nn (hR S28 r30 0) fun r32 => gd (ok S28 r32 1) <| some ((hI S28 r32 1), S28, z)
def f_X6_take (N : Nat) (S : Hp) (z : Nat) (a0 : Nat) (x1 : Int32) : Option (Int32 × Hp × Nat) :=
  gd (ok S a0 6) <| cl (f_X6_isSnapshot N S a0 x1) fun r11 S11 => if r11 = 0 then (none) else (gd (ok S11 a0 6) <| nn (hR S11 a0 3) fun r14 => gd (ok S11 r14 9) <| gd (inb x1 (hN S11 r14)) <| nz (hR S11 r14 x1.toNatClampNeg) (cz (f_X4_init N ((sNew S11 z 4 0)) ((z + 1)) z) fun _ S19 z19 => gd (ok S19 a0 6) <| nn (hR S19 a0 3) fun r21 => gd (ok S19 r21 9) <| gd (inb x1 (hN S19 r21)) <| gd (ok S19 z 4) <| f_X6_take_b44 N a0 x1 ((sR S19 r21 x1.toNatClampNeg (some z))) z19 z) fun r17 => f_X6_take_b44 N a0 x1 S11 z r17)
def f_X6_restore (N : Nat) (S : Hp) (z : Nat) (a0 : Nat) (x1 : Int32) : Option (Int32 × Hp × Nat) :=
  gd (ok S a0 6) <| cl (f_X6_isSnapshot N S a0 x1) fun r11 S11 => if r11 = 0 then (none) else (gd (ok S11 a0 6) <| nn (hR S11 a0 3) fun r14 => gd (ok S11 r14 9) <| gd (inb x1 (hN S11 r14)) <| nz (hR S11 r14 x1.toNatClampNeg) (none) fun r17 => nn (hR S11 a0 2) fun r18 => nn (hR S11 a0 0) fun r19 => gd (ok S11 r18 0) <| cz (f_X0_save N S11 z r18 r19) fun _ S21 z21 => gd (ok S21 a0 6) <| nn (hR S21 a0 0) fun r23 => gd (ok S21 r23 4) <| cl (f_X4_copyBoard N S21 r23 r17) fun _ S25 => gd (ok S25 a0 6) <| nn (hR S25 a0 0) fun r27 => gd (ok S25 r27 4) <| nn (hR S25 r27 0) fun r29 => gd (ok S25 r29 1) <| some ((hI S25 r29 1), S25, z21))
def f_X6_undo (N : Nat) (S : Hp) (a0 : Nat) : Option (Int32 × Hp) :=
  gd (ok S a0 6) <| nn (hR S a0 2) fun r11 => gd (ok S r11 0) <| if 0 < (hI S r11 1) then (nn (hR S a0 0) fun r14 => cl (f_X0_goBack N S r11 r14) fun _ S15 => gd (ok S15 a0 6) <| nn (hR S15 a0 2) fun r17 => gd (ok S15 r17 0) <| some ((hI S15 r17 1), S15)) else (none)
def f_X6_line_b33 (N : Nat) (a0 : Nat) (x1 : Int32) (x2 : Int32) (S : Hp) : Option (Int32 × Hp) :=
  none
def f_X6_line_b72 (N : Nat) (a0 : Nat) (x1 : Int32) (x2 : Int32) (S : Hp) (v3 : Int32) (s0 : Int32) : Option (Int32 × Hp) :=
  gd (ok S a0 6) <| nn (hR S a0 0) fun r30 => gd (ok S r30 4) <| cl (f_X4_freeCells N S r30) fun r32 S32 => if x2 = 0 then (some (v3, S32)) else (if x2 = 1 then (if s0 = 0 then (some ((0 : Int32), S32)) else (some ((1 : Int32), S32))) else (if x2 = 2 then (some ((bitc ((v3 &&& r32))), S32)) else (if x2 = 3 then (if s0 = 0 then (some (((1024 : Int32) >>> ((bitc ((v3 &&& r32))) &&& 31)), S32)) else (some ((0 : Int32), S32))) else (gd (ok S32 a0 6) <| nn (hR S32 a0 0) fun r40 => gd (ok S32 r40 4) <| some ((bitc ((v3 &&& (hI S32 r40 2)))), S32)))))
def f_X6_line (N : Nat) (S : Hp) (a0 : Nat) (x1 : Int32) (x2 : Int32) : Option (Int32 × Hp) :=
  gd (ok S a0 6) <| nn (hR S a0 0) fun r11 => gd (ok S r11 4) <| nn (hR S r11 0) fun r13 => gd (ok S r13 1) <| cl (f_X1_has N S r13 x1) fun r15 S15 => if r15 = 0 then (none) else (if x2 < 0 then (f_X6_line_b33 N a0 x1 x2 S15) else (if x2 < (5 : Int32) then (gd (ok S15 a0 6) <| nn (hR S15 a0 0) fun r20 => gd (ok S15 r20 4) <| nn (hR S15 r20 0) fun r22 => gd (ok S15 r22 1) <| cl (f_X1_maskOf N S15 r22 x1) fun r24 S24 => gd (ok S24 a0 6) <| nn (hR S24 a0 0) fun r26 => gd (ok S24 r26 4) <| if (r24 &&& (hI S24 r26 3)) = 0 then (f_X6_line_b72 N a0 x1 x2 S24 r24 ((0 : Int32))) else (f_X6_line_b72 N a0 x1 x2 S24 r24 ((1 : Int32)))) else (f_X6_line_b33 N a0 x1 x2 S15)))
def f_X6_cell_b30 (N : Nat) (a0 : Nat) (x1 : Int32) (x2 : Int32) (S : Hp) : Option (Int32 × Hp) :=
  none
def f_X6_cell (N : Nat) (S : Hp) (a0 : Nat) (x1 : Int32) (x2 : Int32) : Option (Int32 × Hp) :=
  gd (ok S a0 6) <| nn (hR S a0 0) fun r11 => gd (ok S r11 4) <| cl (f_X4_hasCell N S r11 x1) fun r13 S13 => if r13 = 0 then (none) else (if x2 < 0 then (f_X6_cell_b30 N a0 x1 x2 S13) else (if x2 < (4 : Int32) then (if x2 = 0 then (gd (ok S13 a0 6) <| nn (hR S13 a0 0) fun r18 => gd (ok S13 r18 4) <| cl (f_X4_ownerOf N S13 r18 x1) fun r20 S20 => some (r20, S20)) else (if x2 = 1 then (gd (ok S13 a0 6) <| nn (hR S13 a0 0) fun r23 => gd (ok S13 r23 4) <| cl (f_X4_dangerOf N S13 r23 x1) fun r25 S25 => some (r25, S25)) else (if x2 = 2 then (gd (ok S13 a0 6) <| cl (f_X6_otherInPairing N S13 a0 x1) fun r28 S28 => some (r28, S28)) else (gd (ok S13 a0 6) <| nn (hR S13 a0 0) fun r31 => gd (ok S13 r31 4) <| nn (hR S13 r31 0) fun r33 => gd (ok S13 r33 1) <| cl (f_X1_aliveWith N S13 r33 x1 ((hI S13 r31 3))) fun r35 S35 => some (r35, S35))))) else (f_X6_cell_b30 N a0 x1 x2 S13)))
def f_X6_reply (N : Nat) (S : Hp) (a0 : Nat) (x1 : Int32) : Option (Int32 × Hp) :=
  cl (f_X6_isRule N S x1) fun r10 S10 => if r10 = 0 then (none) else (gd (ok S10 a0 6) <| nn (hR S10 a0 0) fun r13 => gd (ok S10 r13 4) <| cl (f_X4_winner N S10 r13) fun r15 S15 => if r15 = 0 then (gd (ok S15 a0 6) <| nn (hR S15 a0 0) fun r18 => cl (f_X6_cellBy N S15 a0 x1 r18) fun r19 S19 => some (r19, S19)) else (some ((-1 : Int32), S15)))
def f_X6_solved_b9 (N : Nat) (a0 : Nat) (x1 : Int32) (S : Hp) : Option (Int32 × Hp) :=
  none
def f_X6_solved (N : Nat) (S : Hp) (a0 : Nat) (x1 : Int32) : Option (Int32 × Hp) :=
  if x1 < 0 then (f_X6_solved_b9 N a0 x1 S) else (if x1 < (2 : Int32) then (gd (ok S a0 6) <| nn (hR S a0 0) fun r13 => gd (ok S r13 4) <| cl (f_X4_winner N S r13) fun r15 S15 => if r15 = 0 then (gd (ok S15 a0 6) <| nn (hR S15 a0 6) fun r18 => nn (hR S15 a0 0) fun r19 => gd (ok S15 r18 3) <| cl (f_X3_lengthOf N S15 r18 r19) fun r21 S21 => if x1 = 0 then (if r21 = (-1 : Int32) then (some ((2 : Int32), S21)) else (some ((1 : Int32), S21))) else (if r21 = (-1 : Int32) then (gd (ok S21 a0 6) <| nn (hR S21 a0 0) fun r25 => gd (ok S21 r25 4) <| cl (f_X4_freeCells N S21 r25) fun r27 S27 => some ((bitc r27), S27)) else (some (r21, S21)))) else (if x1 = 0 then (some (r15, S15)) else (some ((0 : Int32), S15)))) else (f_X6_solved_b9 N a0 x1 S))
def f_X6_ifMoved (N : Nat) (S : Hp) (a0 : Nat) (x1 : Int32) : Option (Int32 × Hp) :=
  gd (ok S a0 6) <| nn (hR S a0 0) fun r11 => gd (ok S r11 4) <| cl (f_X4_hasCell N S r11 x1) fun r13 S13 => if r13 = 0 then (none) else (gd (ok S13 a0 6) <| nn (hR S13 a0 0) fun r16 => gd (ok S13 r16 4) <| cl (f_X4_winner N S13 r16) fun r18 S18 => if r18 = 0 then (gd (ok S18 a0 6) <| nn (hR S18 a0 0) fun r21 => gd (ok S18 r21 4) <| cl (f_X4_isFree N S18 r21 x1) fun r23 S23 => if r23 = 0 then (some ((-1 : Int32), S23)) else (gd (ok S23 a0 6) <| nn (hR S23 a0 1) fun r26 => nn (hR S23 a0 0) fun r27 => gd (ok S23 r26 4) <| cl (f_X4_copyBoard N S23 r26 r27) fun _ S29 => gd (ok S29 a0 6) <| nn (hR S29 a0 1) fun r31 => gd (ok S29 r31 4) <| cl (f_X4_occupy N S29 r31 x1 ((-1 : Int32))) fun _ S33 => gd (ok S33 a0 6) <| nn (hR S33 a0 6) fun r35 => nn (hR S33 a0 1) fun r36 => gd (ok S33 r35 3) <| cl (f_X3_lengthOf N S33 r35 r36) fun r38 S38 => if r38 = (-1 : Int32) then (some ((2 : Int32), S38)) else (some ((1 : Int32), S38)))) else (some ((-1 : Int32), S18)))
def f_X6_ifPlayed_b14 (N : Nat) (a0 : Nat) (x1 : Int32) (x2 : Int32) (S : Hp) : Option (Int32 × Hp) :=
  none
def f_X6_ifPlayed (N : Nat) (S : Hp) (a0 : Nat) (x1 : Int32) (x2 : Int32) : Option (Int32 × Hp) :=
  cl (f_X6_isRule N S x1) fun r10 S10 => if r10 = 0 then (f_X6_ifPlayed_b14 N a0 x1 x2 S10) else (cl (f_X6_isRule N S10 x2) fun r12 S12 => if r12 = 0 then (f_X6_ifPlayed_b14 N a0 x1 x2 S12) else (gd (ok S12 a0 6) <| nn (hR S12 a0 1) fun r15 => nn (hR S12 a0 0) fun r16 => gd (ok S12 r15 4) <| cl (f_X4_copyBoard N S12 r15 r16) fun _ S18 => gd (ok S18 a0 6) <| nn (hR S18 a0 1) fun r20 => cl (f_X6_goOn N S18 a0 r20 x1 x2 ((10 : Int32))) fun r21 S21 => gd (ok S21 a0 6) <| nn (hR S21 a0 1) fun r23 => gd (ok S21 r23 4) <| cl (f_X4_winner N S21 r23) fun r25 S25 => some (r25, S25)))
def f_X6_pairsInPairing (N : Nat) (S : Hp) (a0 : Nat) : Option (Int32 × Hp) :=
  gd (ok S a0 6) <| nn (hR S a0 5) fun r11 => nn (hR S a0 0) fun r12 => gd (ok S r11 2) <| cl (f_X2_lookAt N S r11 r12) fun _ S14 => gd (ok S14 a0 6) <| nn (hR S14 a0 5) fun r16 => gd (ok S14 r16 2) <| if (hI S14 r16 5) = 0 then (some ((-1 : Int32), S14)) else (some ((hI S14 r16 4), S14))
def f_X6_snapshotsTaken_b4 (N : Nat) (a0 : Nat) (K4 : Hp → Int32 → Int32 → Option (Int32 × Hp)) (S : Hp) (v1 : Int32) (v2 : Int32) : Option (Int32 × Hp) :=
  gd (ok S a0 6) <| nn (hR S a0 3) fun r11 => gd (ok S r11 9) <| if (nI (hN S r11)) ≤ v2 then (some (v1, S)) else (gd (inb v2 (hN S r11)) <| nz (hR S r11 v2.toNatClampNeg) (K4 S v1 ((v2 + (1 : Int32)))) fun r15 => K4 S ((v1 + (1 : Int32))) ((v2 + (1 : Int32))))
def f_X6_snapshotsTaken_l4 (N : Nat) (a0 : Nat) : Nat → Hp → Int32 → Int32 → Option (Int32 × Hp)
  | 0, _, _, _ => none
  | k + 1, S, v1, v2 => f_X6_snapshotsTaken_b4 N a0 (f_X6_snapshotsTaken_l4 N a0 k) S v1 v2
def f_X6_snapshotsTaken (N : Nat) (S : Hp) (a0 : Nat) : Option (Int32 × Hp) :=
  f_X6_snapshotsTaken_l4 N a0 N S ((0 : Int32)) ((0 : Int32))
def f_X6_count_b10 (N : Nat) (a0 : Nat) (x1 : Int32) (S : Hp) : Option (Int32 × Hp) :=
  none
def f_X6_count (N : Nat) (S : Hp) (a0 : Nat) (x1 : Int32) : Option (Int32 × Hp) :=
  if x1 < 0 then (f_X6_count_b10 N a0 x1 S) else (if x1 < (16 : Int32) then (gd (ok S a0 6) <| nn (hR S a0 0) fun r13 => gd (ok S r13 4) <| cl (f_X4_winner N S r13) fun r15 S15 => if x1 = 0 then (gd (ok S15 a0 6) <| nn (hR S15 a0 0) fun r17 => gd (ok S15 r17 4) <| some ((hI S15 r17 1), S15)) else (if x1 = 1 then (gd (ok S15 a0 6) <| nn (hR S15 a0 0) fun r21 => gd (ok S15 r21 4) <| nn (hR S15 r21 0) fun r23 => gd (ok S15 r23 1) <| some ((hI S15 r23 1), S15)) else (if x1 = 2 then (gd (ok S15 a0 6) <| nn (hR S15 a0 0) fun r27 => gd (ok S15 r27 4) <| nn (hR S15 r27 0) fun r29 => gd (ok S15 r29 1) <| some ((hI S15 r29 3), S15)) else (if x1 = 3 then (gd (ok S15 a0 6) <| nn (hR S15 a0 0) fun r33 => gd (ok S15 r33 4) <| nn (hR S15 r33 0) fun r35 => gd (ok S15 r35 1) <| some ((hI S15 r35 4), S15)) else (if x1 = 4 then (if r15 = 0 then (gd (ok S15 a0 6) <| nn (hR S15 a0 0) fun r40 => gd (ok S15 r40 4) <| cl (f_X4_mover N S15 r40) fun r42 S42 => some (r42, S42)) else (some ((0 : Int32), S15))) else (if x1 = 5 then (some (r15, S15)) else (if x1 = 6 then (gd (ok S15 a0 6) <| nn (hR S15 a0 0) fun r46 => gd (ok S15 r46 4) <| nn (hR S15 r46 0) fun r48 => gd (ok S15 r48 1) <| some ((hI S15 r48 5), S15)) else (if x1 = 7 then (if r15 = 0 then (gd (ok S15 a0 6) <| nn (hR S15 a0 0) fun r53 => gd (ok S15 r53 4) <| cl (f_X4_forcedReply N S15 r53) fun r55 S55 => some (r55, S55)) else (some ((-1 : Int32), S15))) else (if x1 = 8 then (gd (ok S15 a0 6) <| cl (f_X6_pairsInPairing N S15 a0) fun r58 S58 => some (r58, S58)) else (if x1 = 9 then (gd (ok S15 a0 6) <| nn (hR S15 a0 0) fun r61 => gd (ok S15 r61 4) <| cl (f_X4_freeCells N S15 r61) fun r63 S63 => some (r63, S63)) else (if x1 = 10 then (gd (ok S15 a0 6) <| nn (hR S15 a0 0) fun r66 => gd (ok S15 r66 4) <| some ((hI S15 r66 7), S15)) else (if x1 = 11 then (gd (ok S15 a0 6) <| nn (hR S15 a0 0) fun r70 => gd (ok S15 r70 4) <| some ((hI S15 r70 8), S15)) else (if x1 = 12 then (gd (ok S15 a0 6) <| nn (hR S15 a0 0) fun r74 => gd (ok S15 r74 4) <| some ((hI S15 r74 9), S15)) else (if x1 = 13 then (gd (ok S15 a0 6) <| nn (hR S15 a0 0) fun r78 => gd (ok S15 r78 4) <| some ((hI S15 r78 5), S15)) else (if x1 = 14 then (gd (ok S15 a0 6) <| cl (f_X6_snapshotsTaken N S15 a0) fun r82 S82 => some (r82, S82)) else (gd (ok S15 a0 6) <| nn (hR S15 a0 2) fun r85 => gd (ok S15 r85 0) <| some ((hI S15 r85 1), S15))))))))))))))))) else (f_X6_count_b10 N a0 x1 S))
def f_X6_weightShare (N : Nat) (S : Hp) (a0 : Nat) : Option (UInt64 × Hp) :=
  gd (ok S a0 6) <| nn (hR S a0 0) fun r11 => gd (ok S r11 4) <| cl (f_X4_weight N S r11) fun r13 S13 => gd (nanok (FP.ddiv (FP.i2d r13) (4652218415073722368 : UInt64))) <| some ((FP.ddiv (FP.i2d r13) (4652218415073722368 : UInt64)), S13)
def f_X6_shareBits_b10 (N : Nat) (x0 : Int32) (K10 : Hp → Int32 → Int32 → Option (Int64 × Hp)) (S : Hp) (v1 : Int32) (v2 : Int32) : Option (Int64 × Hp) :=
  if (14 : Int32) ≤ v2 then (bd (Int32.toInt64 (((1023 : Int32) + v1) - (10 : Int32))) fun e12 => bd ((Int32.toInt64 (x0 - ((1 : Int32) <<< (v1 &&& 31)))) <<< (Int32.toInt64 ((52 : Int32) - v1) &&& 63)) fun e13 => some (((e12 <<< (Int32.toInt64 (52 : Int32) &&& 63)) + e13), S)) else (if (x0 >>> (v2 &&& 31)) = 0 then (K10 S v1 ((v2 + (1 : Int32)))) else (K10 S v2 ((v2 + (1 : Int32)))))
def f_X6_shareBits_l10 (N : Nat) (x0 : Int32) : Nat → Hp → Int32 → Int32 → Option (Int64 × Hp)
  | 0, _, _, _ => none
  | k + 1, S, v1, v2 => f_X6_shareBits_b10 N x0 (f_X6_shareBits_l10 N x0 k) S v1 v2
def f_X6_shareBits (N : Nat) (S : Hp) (x0 : Int32) : Option (Int64 × Hp) :=
  if 0 < x0 then (f_X6_shareBits_l10 N x0 N S ((0 : Int32)) ((1 : Int32))) else (some ((0 : Int64), S))
def f_X6_digest_b147 (N : Nat) (a0 : Nat) (K147 : Hp → Int64 → Int32 → Option (Int64 × Hp)) (S : Hp) (l1 : Int64) (v3 : Int32) : Option (Int64 × Hp) :=
  if (3 : Int32) < v3 then (gd (ok S a0 6) <| cl (f_X6_solved N S a0 ((0 : Int32))) fun r30 S30 => bd (((31 : Int64) * l1) + (Int32.toInt64 r30)) fun e31 => gd (ok S30 a0 6) <| cl (f_X6_solved N S30 a0 ((1 : Int32))) fun r33 S33 => bd (((31 : Int64) * e31) + (Int32.toInt64 r33)) fun e34 => gd (ok S33 a0 6) <| cl (f_X6_ifPlayed N S33 a0 ((1 : Int32)) ((1 : Int32))) fun r36 S36 => bd (((31 : Int64) * e34) + (Int32.toInt64 r36)) fun e37 => gd (ok S36 a0 6) <| cl (f_X6_ifPlayed N S36 a0 ((1 : Int32)) ((2 : Int32))) fun r39 S39 => bd (((31 : Int64) * e37) + (Int32.toInt64 r39)) fun e40 => gd (ok S39 a0 6) <| cl (f_X6_ifPlayed N S39 a0 ((2 : Int32)) ((3 : Int32))) fun r42 S42 => bd (((31 : Int64) * e40) + (Int32.toInt64 r42)) fun e43 => gd (ok S42 a0 6) <| cl (f_X6_ifPlayed N S42 a0 ((3 : Int32)) ((1 : Int32))) fun r45 S45 => bd (((31 : Int64) * e43) + (Int32.toInt64 r45)) fun e46 => gd (ok S45 a0 6) <| nn (hR S45 a0 0) fun r48 => gd (ok S45 r48 4) <| cl (f_X4_weight N S45 r48) fun r50 S50 => cl (f_X6_shareBits N S50 r50) fun r51 S51 => bd (((31 : Int64) * e46) + r51) fun e52 => gd (ok S51 a0 6) <| nn (hR S51 a0 4) fun r54 => gd (ok S51 r54 5) <| cl (f_X5_hashOnto N S51 r54 e52) fun r56 S56 => some (r56, S56)) else (gd (ok S a0 6) <| cl (f_X6_reply N S a0 v3) fun r58 S58 => bd (((31 : Int64) * l1) + (Int32.toInt64 r58)) fun e59 => K147 S58 e59 ((v3 + (1 : Int32))))
def f_X6_digest_l147 (N : Nat) (a0 : Nat) : Nat → Hp → Int64 → Int32 → Option (Int64 × Hp)
  | 0, _, _, _ => none
  | k + 1, S, l1, v3 => f_X6_digest_b147 N a0 (f_X6_digest_l147 N a0 k) S l1 v3
def f_X6_digest_b99 (N : Nat) (a0 : Nat) (K85 : Hp → Int64 → Int32 → Option (Int64 × Hp)) (K99 : Hp → Int64 → Int32 → Int32 → Option (Int64 × Hp)) (S : Hp) (l1 : Int64) (v3 : Int32) (v4 : Int32) : Option (Int64 × Hp) :=
  if (4 : Int32) ≤ v4 then (gd (ok S a0 6) <| cl (f_X6_ifMoved N S a0 v3) fun r62 S62 => bd (((31 : Int64) * l1) + (Int32.toInt64 r62)) fun e63 => K85 S62 e63 ((v3 + (1 : Int32)))) else (gd (ok S a0 6) <| cl (f_X6_cell N S a0 v3 v4) fun r65 S65 => bd (((31 : Int64) * l1) + (Int32.toInt64 r65)) fun e66 => K99 S65 e66 v3 ((v4 + (1 : Int32))))
def f_X6_digest_l99 (N : Nat) (a0 : Nat) (K85 : Hp → Int64 → Int32 → Option (Int64 × Hp)) : Nat → Hp → Int64 → Int32 → Int32 → Option (Int64 × Hp)
  | 0, _, _, _, _ => none
  | k + 1, S, l1, v3, v4 => f_X6_digest_b99 N a0 K85 (f_X6_digest_l99 N a0 K85 k) S l1 v3 v4
def f_X6_digest_b85 (N : Nat) (a0 : Nat) (K85 : Hp → Int64 → Int32 → Option (Int64 × Hp)) (S : Hp) (l1 : Int64) (v3 : Int32) : Option (Int64 × Hp) :=
  gd (ok S a0 6) <| nn (hR S a0 0) fun r21 => gd (ok S r21 4) <| if (hI S r21 1) ≤ v3 then (f_X6_digest_l147 N a0 N S l1 ((0 : Int32))) else (f_X6_digest_l99 N a0 K85 N S l1 v3 ((0 : Int32)))
def f_X6_digest_l85 (N : Nat) (a0 : Nat) : Nat → Hp → Int64 → Int32 → Option (Int64 × Hp)
  | 0, _, _, _ => none
  | k + 1, S, l1, v3 => f_X6_digest_b85 N a0 (f_X6_digest_l85 N a0 k) S l1 v3
def f_X6_digest_b50 (N : Nat) (a0 : Nat) (K33 : Hp → Int64 → Int32 → Option (Int64 × Hp)) (K50 : Hp → Int64 → Int32 → Int32 → Option (Int64 × Hp)) (S : Hp) (l1 : Int64) (v3 : Int32) (v4 : Int32) : Option (Int64 × Hp) :=
  if (5 : Int32) ≤ v4 then (K33 S l1 ((v3 + (1 : Int32)))) else (gd (ok S a0 6) <| cl (f_X6_line N S a0 v3 v4) fun r26 S26 => bd (((31 : Int64) * l1) + (Int32.toInt64 r26)) fun e27 => K50 S26 e27 v3 ((v4 + (1 : Int32))))
def f_X6_digest_l50 (N : Nat) (a0 : Nat) (K33 : Hp → Int64 → Int32 → Option (Int64 × Hp)) : Nat → Hp → Int64 → Int32 → Int32 → Option (Int64 × Hp)
  | 0, _, _, _, _ => none
  | k + 1, S, l1, v3, v4 => f_X6_digest_b50 N a0 K33 (f_X6_digest_l50 N a0 K33 k) S l1 v3 v4
def f_X6_digest_b33 (N : Nat) (a0 : Nat) (K33 : Hp → Int64 → Int32 → Option (Int64 × Hp)) (S : Hp) (l1 : Int64) (v3 : Int32) : Option (Int64 × Hp) :=
  gd (ok S a0 6) <| nn (hR S a0 0) fun r15 => gd (ok S r15 4) <| nn (hR S r15 0) fun r17 => gd (ok S r17 1) <| if (hI S r17 1) ≤ v3 then (f_X6_digest_l85 N a0 N S l1 ((0 : Int32))) else (f_X6_digest_l50 N a0 K33 N S l1 v3 ((0 : Int32)))
def f_X6_digest_l33 (N : Nat) (a0 : Nat) : Nat → Hp → Int64 → Int32 → Option (Int64 × Hp)
  | 0, _, _, _ => none
  | k + 1, S, l1, v3 => f_X6_digest_b33 N a0 (f_X6_digest_l33 N a0 k) S l1 v3
def f_X6_digest_b6 (N : Nat) (a0 : Nat) (K6 : Hp → Int64 → Int32 → Option (Int64 × Hp)) (S : Hp) (l1 : Int64) (v3 : Int32) : Option (Int64 × Hp) :=
  if (16 : Int32) ≤ v3 then (f_X6_digest_l33 N a0 N S l1 ((0 : Int32))) else (gd (ok S a0 6) <| cl (f_X6_count N S a0 v3) fun r12 S12 => bd (((31 : Int64) * l1) + (Int32.toInt64 r12)) fun e13 => K6 S12 e13 ((v3 + (1 : Int32))))
def f_X6_digest_l6 (N : Nat) (a0 : Nat) : Nat → Hp → Int64 → Int32 → Option (Int64 × Hp)
  | 0, _, _, _ => none
  | k + 1, S, l1, v3 => f_X6_digest_b6 N a0 (f_X6_digest_l6 N a0 k) S l1 v3
def f_X6_digest (N : Nat) (S : Hp) (a0 : Nat) : Option (Int64 × Hp) :=
  f_X6_digest_l6 N a0 N S ((2503 : Int64)) ((0 : Int32))
def f_X7_init (N : Nat) (S : Hp) (z : Nat) (a0 : Nat) : Option (Unit × Hp × Nat) :=
  gd (ok ((sNew S z 8 22)) a0 7) <| gd (ok ((sNew (sR (sNew S z 8 22) a0 0 (some z)) ((z + 1)) 8 132)) a0 7) <| bd (sR (sNew (sR (sNew S z 8 22) a0 0 (some z)) ((z + 1)) 8 132) a0 2 (some (z + 1))) fun S14 => gd (ok ((sNew S14 (((z + 1) + 1)) 8 44)) a0 7) <| bd (sR (sNew S14 (((z + 1) + 1)) 8 44) a0 3 (some ((z + 1) + 1))) fun S18 => gd (ok ((sNew S18 ((((z + 1) + 1) + 1)) 8 2)) a0 7) <| bd (sR (sNew S18 ((((z + 1) + 1) + 1)) 8 2) a0 4 (some (((z + 1) + 1) + 1))) fun S22 => gd (ok ((sNew S22 (((((z + 1) + 1) + 1) + 1)) 8 60)) a0 7) <| bd (sR (sNew S22 (((((z + 1) + 1) + 1) + 1)) 8 60) a0 6 (some ((((z + 1) + 1) + 1) + 1))) fun S26 => gd (ok ((sNew S26 ((((((z + 1) + 1) + 1) + 1) + 1)) 8 10)) a0 7) <| bd (sR (sNew S26 ((((((z + 1) + 1) + 1) + 1) + 1)) 8 10) a0 8 (some (((((z + 1) + 1) + 1) + 1) + 1))) fun S30 => gd (ok ((sNew S30 (((((((z + 1) + 1) + 1) + 1) + 1) + 1)) 8 12)) a0 7) <| bd (sR (sNew S30 (((((((z + 1) + 1) + 1) + 1) + 1) + 1)) 8 12) a0 9 (some ((((((z + 1) + 1) + 1) + 1) + 1) + 1))) fun S34 => gd (ok ((sNew S34 ((((((((z + 1) + 1) + 1) + 1) + 1) + 1) + 1)) 8 12)) a0 7) <| bd (sR (sNew S34 ((((((((z + 1) + 1) + 1) + 1) + 1) + 1) + 1)) 8 12) a0 10 (some (((((((z + 1) + 1) + 1) + 1) + 1) + 1) + 1))) fun S38 => gd (ok ((sNew S38 (((((((((z + 1) + 1) + 1) + 1) + 1) + 1) + 1) + 1)) 8 12)) a0 7) <| bd (sR (sNew S38 (((((((((z + 1) + 1) + 1) + 1) + 1) + 1) + 1) + 1)) 8 12) a0 13 (some ((((((((z + 1) + 1) + 1) + 1) + 1) + 1) + 1) + 1))) fun S42 => gd (ok ((sNew S42 ((((((((((z + 1) + 1) + 1) + 1) + 1) + 1) + 1) + 1) + 1)) 8 118098)) a0 7) <| bd (sR (sNew S42 ((((((((((z + 1) + 1) + 1) + 1) + 1) + 1) + 1) + 1) + 1)) 8 118098) a0 14 (some (((((((((z + 1) + 1) + 1) + 1) + 1) + 1) + 1) + 1) + 1))) fun S46 => gd (ok ((sNew S46 (((((((((((z + 1) + 1) + 1) + 1) + 1) + 1) + 1) + 1) + 1) + 1)) 8 118098)) a0 7) <| bd (sR (sNew S46 (((((((((((z + 1) + 1) + 1) + 1) + 1) + 1) + 1) + 1) + 1) + 1)) 8 118098) a0 15 (some ((((((((((z + 1) + 1) + 1) + 1) + 1) + 1) + 1) + 1) + 1) + 1))) fun S50 => gd (ok ((sNew S50 ((((((((((((z + 1) + 1) + 1) + 1) + 1) + 1) + 1) + 1) + 1) + 1) + 1)) 8 32)) a0 7) <| bd (sR (sNew S50 ((((((((((((z + 1) + 1) + 1) + 1) + 1) + 1) + 1) + 1) + 1) + 1) + 1)) 8 32) a0 16 (some (((((((((((z + 1) + 1) + 1) + 1) + 1) + 1) + 1) + 1) + 1) + 1) + 1))) fun S54 => gd (ok ((sNew S54 (((((((((((((z + 1) + 1) + 1) + 1) + 1) + 1) + 1) + 1) + 1) + 1) + 1) + 1)) 8 22)) a0 7) <| bd (sR (sNew S54 (((((((((((((z + 1) + 1) + 1) + 1) + 1) + 1) + 1) + 1) + 1) + 1) + 1) + 1)) 8 22) a0 18 (some ((((((((((((z + 1) + 1) + 1) + 1) + 1) + 1) + 1) + 1) + 1) + 1) + 1) + 1))) fun S58 => nn (hR S58 a0 0) fun r60 => gd (ok S58 r60 8) <| gd (inb (0 : Int32) (hN S58 r60)) <| bd (sI S58 r60 (0 : Int32).toNatClampNeg (9 : Int32)) fun S63 => gd (inb (1 : Int32) (hN S63 r60)) <| bd (sI S63 r60 (1 : Int32).toNatClampNeg (1 : Int32)) fun S69 => gd (inb (5 : Int32) (hN S69 r60)) <| bd (sI S69 r60 (5 : Int32).toNatClampNeg (-1 : Int32)) fun S76 => gd (inb (6 : Int32) (hN S76 r60)) <| bd (sI S76 r60 (6 : Int32).toNatClampNeg (-1 : Int32)) fun S84 => some ((), S84, (((((((((((((z + 1) + 1) + 1) + 1) + 1) + 1) + 1) + 1) + 1) + 1) + 1) + 1) + 1))
def f_X7_thrown (N : Nat) (S : Hp) (a0 : Nat) : Option (Int32 × Hp) :=
  gd (ok S a0 7) <| some ((hI S a0 7), S)
def f_X7_within (N : Nat) (S : Hp) (x0 : Int32) (x1 : Int32) (x2 : Int32) : Option (Int32 × Hp) :=
  if x0 < x1 then (some ((0 : Int32), S)) else (if x2 < x0 then (some ((0 : Int32), S)) else (some ((1 : Int32), S)))
def f_X7_save_b52 (N : Nat) (a0 : Nat) (K52 : Hp → Int32 → Option (Unit × Hp)) (S : Hp) (v1 : Int32) : Option (Unit × Hp) :=
  if (22 : Int32) ≤ v1 then (gd (ok S a0 7) <| some ((), (sI S a0 1 ((hI S a0 1) + (1 : Int32))))) else (gd (ok S a0 7) <| nn (hR S a0 2) fun r15 => nn (hR S a0 0) fun r16 => gd (ok S r16 8) <| gd (inb v1 (hN S r16)) <| gd (ok S r15 8) <| gd (inb (((22 : Int32) * (hI S a0 1)) + v1) (hN S r15)) <| bd (sI S r15 (((22 : Int32) * (hI S a0 1)) + v1).toNatClampNeg (hI S r16 v1.toNatClampNeg)) fun S21 => K52 S21 ((v1 + (1 : Int32))))
def f_X7_save_l52 (N : Nat) (a0 : Nat) : Nat → Hp → Int32 → Option (Unit × Hp)
  | 0, _, _ => none
  | k + 1, S, v1 => f_X7_save_b52 N a0 (f_X7_save_l52 N a0 k) S v1
def f_X7_save_b12 (N : Nat) (a0 : Nat) (K12 : Hp → Int32 → Option (Unit × Hp)) (S : Hp) (v1 : Int32) : Option (Unit × Hp) :=
  if (132 : Int32) ≤ v1 then (gd (ok S a0 7) <| f_X7_save_l52 N a0 N ((sI S a0 1 ((hI S a0 1) - (1 : Int32)))) ((0 : Int32))) else (gd (ok S a0 7) <| nn (hR S a0 2) fun r32 => gd (ok S r32 8) <| gd (inb v1 (hN S r32)) <| gd (inb (v1 - (22 : Int32)) (hN S r32)) <| bd (sI S r32 (v1 - (22 : Int32)).toNatClampNeg (hI S r32 v1.toNatClampNeg)) fun S36 => K12 S36 ((v1 + (1 : Int32))))
def f_X7_save_l12 (N : Nat) (a0 : Nat) : Nat → Hp → Int32 → Option (Unit × Hp)
  | 0, _, _ => none
  | k + 1, S, v1 => f_X7_save_b12 N a0 (f_X7_save_l12 N a0 k) S v1
def f_X7_save (N : Nat) (S : Hp) (a0 : Nat) : Option (Unit × Hp) :=
  gd (ok S a0 7) <| if (hI S a0 1) = (6 : Int32) then (f_X7_save_l12 N a0 N S ((22 : Int32))) else (f_X7_save_l52 N a0 N S ((0 : Int32)))
def f_X7_has (N : Nat) (S : Hp) (x0 : Int32) (x1 : Int32) : Option (Int32 × Hp) :=
  if ((x0 >>> (x1 &&& 31)) &&& (1 : Int32)) = (1 : Int32) then (some ((1 : Int32), S)) else (some ((0 : Int32), S))
def f_X7_ones_b4 (N : Nat) (x0 : Int32) (K4 : Hp → Int32 → Int32 → Option (Int32 × Hp)) (S : Hp) (v1 : Int32) (v2 : Int32) : Option (Int32 × Hp) :=
  if (10 : Int32) ≤ v2 then (some (v1, S)) else (bd (v1 + ((x0 >>> (v2 &&& 31)) &&& (1 : Int32))) fun e11 => K4 S e11 ((v2 + (1 : Int32))))
def f_X7_ones_l4 (N : Nat) (x0 : Int32) : Nat → Hp → Int32 → Int32 → Option (Int32 × Hp)
  | 0, _, _, _ => none
  | k + 1, S, v1, v2 => f_X7_ones_b4 N x0 (f_X7_ones_l4 N x0 k) S v1 v2
def f_X7_ones (N : Nat) (S : Hp) (x0 : Int32) : Option (Int32 × Hp) :=
  f_X7_ones_l4 N x0 N S ((0 : Int32)) ((0 : Int32))
def f_X7_isCell (N : Nat) (S : Hp) (a0 : Nat) (x1 : Int32) : Option (Int32 × Hp) :=
  gd (ok S a0 7) <| nn (hR S a0 0) fun r11 => gd (ok S r11 8) <| gd (inb (0 : Int32) (hN S r11)) <| cl (f_X7_within N S x1 ((0 : Int32)) (((hI S r11 (0 : Int32).toNatClampNeg) - (1 : Int32)))) fun r14 S14 => gd (isB r14) <| some (r14, S14)
def f_X7_isLine (N : Nat) (S : Hp) (a0 : Nat) (x1 : Int32) : Option (Int32 × Hp) :=
  gd (ok S a0 7) <| nn (hR S a0 0) fun r11 => gd (ok S r11 8) <| gd (inb (2 : Int32) (hN S r11)) <| cl (f_X7_within N S x1 ((0 : Int32)) (((hI S r11 (2 : Int32).toNatClampNeg) - (1 : Int32)))) fun r14 S14 => gd (isB r14) <| some (r14, S14)
def f_X7_maker (N : Nat) (S : Hp) (a0 : Nat) : Option (Int32 × Hp) :=
  gd (ok S a0 7) <| nn (hR S a0 0) fun r11 => gd (ok S r11 8) <| gd (inb (3 : Int32) (hN S r11)) <| some ((hI S r11 (3 : Int32).toNatClampNeg), S)
def f_X7_breaker (N : Nat) (S : Hp) (a0 : Nat) : Option (Int32 × Hp) :=
  gd (ok S a0 7) <| nn (hR S a0 0) fun r11 => gd (ok S r11 8) <| gd (inb (4 : Int32) (hN S r11)) <| some ((hI S r11 (4 : Int32).toNatClampNeg), S)
def f_X7_free (N : Nat) (S : Hp) (a0 : Nat) : Option (Int32 × Hp) :=
  gd (ok S a0 7) <| nn (hR S a0 0) fun r11 => gd (ok S r11 8) <| gd (inb (0 : Int32) (hN S r11)) <| cl (f_X7_maker N S a0) fun r14 S14 => gd (ok S14 a0 7) <| cl (f_X7_breaker N S14 a0) fun r16 S16 => some ((((((1 : Int32) <<< ((hI S r11 (0 : Int32).toNatClampNeg) &&& 31)) - (1 : Int32)) &&& (r14 ^^^ (-1 : Int32))) &&& (r16 ^^^ (-1 : Int32))), S16)
def f_X7_isDead (N : Nat) (S : Hp) (a0 : Nat) (x1 : Int32) : Option (Int32 × Hp) :=
  gd (ok S a0 7) <| nn (hR S a0 0) fun r11 => gd (ok S r11 8) <| gd (inb ((10 : Int32) + x1) (hN S r11)) <| cl (f_X7_breaker N S a0) fun r14 S14 => if ((hI S r11 ((10 : Int32) + x1).toNatClampNeg) &&& r14) = 0 then (some ((0 : Int32), S14)) else (some ((1 : Int32), S14))
def f_X7_freeOf (N : Nat) (S : Hp) (a0 : Nat) (x1 : Int32) : Option (Int32 × Hp) :=
  gd (ok S a0 7) <| nn (hR S a0 0) fun r11 => gd (ok S r11 8) <| gd (inb ((10 : Int32) + x1) (hN S r11)) <| cl (f_X7_free N S a0) fun r14 S14 => some (((hI S r11 ((10 : Int32) + x1).toNatClampNeg) &&& r14), S14)
def f_X7_weightOf (N : Nat) (S : Hp) (a0 : Nat) (x1 : Int32) : Option (Int32 × Hp) :=
  gd (ok S a0 7) <| cl (f_X7_isDead N S a0 x1) fun r11 S11 => if r11 = 0 then (gd (ok S11 a0 7) <| cl (f_X7_freeOf N S11 a0 x1) fun r14 S14 => cl (f_X7_ones N S14 r14) fun r15 S15 => some (((1024 : Int32) >>> (r15 &&& 31)), S15)) else (some ((0 : Int32), S11))
def f_X7_winner_b5 (N : Nat) (a0 : Nat) (x1 : Int32) (x2 : Int32) (K5 : Hp → Int32 → Int32 → Option (Int32 × Hp)) (S : Hp) (v3 : Int32) (v4 : Int32) : Option (Int32 × Hp) :=
  gd (ok S a0 7) <| nn (hR S a0 0) fun r11 => gd (ok S r11 8) <| gd (inb (2 : Int32) (hN S r11)) <| if (hI S r11 (2 : Int32).toNatClampNeg) ≤ v4 then (if v3 = 0 then (some ((2 : Int32), S)) else (some ((0 : Int32), S))) else (gd (inb ((10 : Int32) + v4) (hN S r11)) <| bd (hI S r11 ((10 : Int32) + v4).toNatClampNeg) fun e17 => if (e17 &&& (x1 ^^^ (-1 : Int32))) = 0 then (some ((1 : Int32), S)) else (if v3 = 0 then (if (e17 &&& x2) = 0 then (K5 S ((1 : Int32)) ((v4 + (1 : Int32)))) else (K5 S ((0 : Int32)) ((v4 + (1 : Int32))))) else (K5 S ((1 : Int32)) ((v4 + (1 : Int32))))))
def f_X7_winner_l5 (N : Nat) (a0 : Nat) (x1 : Int32) (x2 : Int32) : Nat → Hp → Int32 → Int32 → Option (Int32 × Hp)
  | 0, _, _, _ => none
  | k + 1, S, v3, v4 => f_X7_winner_b5 N a0 x1 x2 (f_X7_winner_l5 N a0 x1 x2 k) S v3 v4
def f_X7_winner (N : Nat) (S : Hp) (a0 : Nat) (x1 : Int32) (x2 : Int32) : Option (Int32 × Hp) :=
  f_X7_winner_l5 N a0 x1 x2 N S ((0 : Int32)) ((0 : Int32))
def f_X7_winnerNow (N : Nat) (S : Hp) (a0 : Nat) : Option (Int32 × Hp) :=
  gd (ok S a0 7) <| cl (f_X7_maker N S a0) fun r11 S11 => gd (ok S11 a0 7) <| cl (f_X7_breaker N S11 a0) fun r13 S13 => gd (ok S13 a0 7) <| cl (f_X7_winner N S13 a0 r11 r13) fun r15 S15 => some (r15, S15)
def f_X7_weight_b4 (N : Nat) (a0 : Nat) (K4 : Hp → Int32 → Int32 → Option (Int32 × Hp)) (S : Hp) (v1 : Int32) (v2 : Int32) : Option (Int32 × Hp) :=
  gd (ok S a0 7) <| nn (hR S a0 0) fun r11 => gd (ok S r11 8) <| gd (inb (2 : Int32) (hN S r11)) <| if (hI S r11 (2 : Int32).toNatClampNeg) ≤ v2 then (some (v1, S)) else (cl (f_X7_weightOf N S a0 v2) fun r15 S15 => K4 S15 ((v1 + r15)) ((v2 + (1 : Int32))))
def f_X7_weight_l4 (N : Nat) (a0 : Nat) : Nat → Hp → Int32 → Int32 → Option (Int32 × Hp)
  | 0, _, _, _ => none
  | k + 1, S, v1, v2 => f_X7_weight_b4 N a0 (f_X7_weight_l4 N a0 k) S v1 v2
def f_X7_weight (N : Nat) (S : Hp) (a0 : Nat) : Option (Int32 × Hp) :=
  f_X7_weight_l4 N a0 N S ((0 : Int32)) ((0 : Int32))
def f_X7_danger_b4 (N : Nat) (a0 : Nat) (x1 : Int32) (K4 : Hp → Int32 → Int32 → Option (Int32 × Hp)) (S : Hp) (v2 : Int32) (v3 : Int32) : Option (Int32 × Hp) :=
  gd (ok S a0 7) <| nn (hR S a0 0) fun r11 => gd (ok S r11 8) <| gd (inb (2 : Int32) (hN S r11)) <| if (hI S r11 (2 : Int32).toNatClampNeg) ≤ v3 then (some (v2, S)) else (cl (f_X7_freeOf N S a0 v3) fun r15 S15 => cl (f_X7_has N S15 r15 x1) fun r16 S16 => if r16 = 0 then (K4 S16 ((v2 + (0 : Int32))) ((v3 + (1 : Int32)))) else (gd (ok S16 a0 7) <| cl (f_X7_weightOf N S16 a0 v3) fun r19 S19 => K4 S19 ((v2 + r19)) ((v3 + (1 : Int32)))))
def f_X7_danger_l4 (N : Nat) (a0 : Nat) (x1 : Int32) : Nat → Hp → Int32 → Int32 → Option (Int32 × Hp)
  | 0, _, _, _ => none
  | k + 1, S, v2, v3 => f_X7_danger_b4 N a0 x1 (f_X7_danger_l4 N a0 x1 k) S v2 v3
def f_X7_danger (N : Nat) (S : Hp) (a0 : Nat) (x1 : Int32) : Option (Int32 × Hp) :=
  f_X7_danger_l4 N a0 x1 N S ((0 : Int32)) ((0 : Int32))
def f_X7_threats_b4 (N : Nat) (a0 : Nat) (K4 : Hp → Int32 → Int32 → Option (Int32 × Hp)) (S : Hp) (v1 : Int32) (v2 : Int32) : Option (Int32 × Hp) :=
  gd (ok S a0 7) <| nn (hR S a0 0) fun r11 => gd (ok S r11 8) <| gd (inb (2 : Int32) (hN S r11)) <| if (hI S r11 (2 : Int32).toNatClampNeg) ≤ v2 then (some (v1, S)) else (cl (f_X7_isDead N S a0 v2) fun r15 S15 => if r15 = 0 then (gd (ok S15 a0 7) <| cl (f_X7_freeOf N S15 a0 v2) fun r18 S18 => cl (f_X7_ones N S18 r18) fun r19 S19 => if r19 = (1 : Int32) then (gd (ok S19 a0 7) <| cl (f_X7_freeOf N S19 a0 v2) fun r22 S22 => K4 S22 ((v1 ||| r22)) ((v2 + (1 : Int32)))) else (K4 S19 ((v1 ||| (0 : Int32))) ((v2 + (1 : Int32))))) else (K4 S15 ((v1 ||| (0 : Int32))) ((v2 + (1 : Int32)))))
def f_X7_threats_l4 (N : Nat) (a0 : Nat) : Nat → Hp → Int32 → Int32 → Option (Int32 × Hp)
  | 0, _, _, _ => none
  | k + 1, S, v1, v2 => f_X7_threats_b4 N a0 (f_X7_threats_l4 N a0 k) S v1 v2
def f_X7_threats (N : Nat) (S : Hp) (a0 : Nat) : Option (Int32 × Hp) :=
  f_X7_threats_l4 N a0 N S ((0 : Int32)) ((0 : Int32))
def f_X7_lowest_b22 (N : Nat) (a0 : Nat) (x1 : Int32) (S : Hp) (v2 : Int32) : Option (Int32 × Hp) :=
  if v2 = (10 : Int32) then (some ((-1 : Int32), S)) else (some (v2, S))
def f_X7_lowest_b2 (N : Nat) (a0 : Nat) (x1 : Int32) (K2 : Hp → Int32 → Option (Int32 × Hp)) (S : Hp) (v2 : Int32) : Option (Int32 × Hp) :=
  if (10 : Int32) ≤ v2 then (f_X7_lowest_b22 N a0 x1 S v2) else (cl (f_X7_has N S x1 v2) fun r11 S11 => if r11 = 0 then (K2 S11 ((v2 + (1 : Int32)))) else (f_X7_lowest_b22 N a0 x1 S11 v2))
def f_X7_lowest_l2 (N : Nat) (a0 : Nat) (x1 : Int32) : Nat → Hp → Int32 → Option (Int32 × Hp)
  | 0, _, _ => none
  | k + 1, S, v2 => f_X7_lowest_b2 N a0 x1 (f_X7_lowest_l2 N a0 x1 k) S v2
def f_X7_lowest (N : Nat) (S : Hp) (a0 : Nat) (x1 : Int32) : Option (Int32 × Hp) :=
  f_X7_lowest_l2 N a0 x1 N S ((0 : Int32))
def f_X7_forced (N : Nat) (S : Hp) (a0 : Nat) : Option (Int32 × Hp) :=
  gd (ok S a0 7) <| cl (f_X7_winnerNow N S a0) fun r11 S11 => if r11 = 0 then (gd (ok S11 a0 7) <| cl (f_X7_threats N S11 a0) fun r14 S14 => gd (ok S14 a0 7) <| cl (f_X7_lowest N S14 a0 r14) fun r16 S16 => some (r16, S16)) else (some ((-1 : Int32), S11))
def f_X7_hasPair_b4 (N : Nat) (a0 : Nat) (x1 : Int32) (K4 : Hp → Int32 → Int32 → Option (Int32 × Hp)) (S : Hp) (v2 : Int32) (v3 : Int32) : Option (Int32 × Hp) :=
  gd (ok S a0 7) <| nn (hR S a0 0) fun r11 => gd (ok S r11 8) <| gd (inb (0 : Int32) (hN S r11)) <| if (hI S r11 (0 : Int32).toNatClampNeg) ≤ v3 then (gd (isB v2) <| some (v2, S)) else (if v2 = 0 then (gd (inb ((10 : Int32) + x1) (hN S r11)) <| cl (f_X7_has N S ((hI S r11 ((10 : Int32) + x1).toNatClampNeg)) v3) fun r18 S18 => if r18 = 0 then (K4 S18 ((0 : Int32)) ((v3 + (1 : Int32)))) else (gd (ok S18 a0 7) <| nn (hR S18 a0 8) fun r21 => gd (ok S18 r21 8) <| gd (inb v3 (hN S18 r21)) <| if (hI S18 r21 v3.toNatClampNeg) = (-1 : Int32) then (K4 S18 ((0 : Int32)) ((v3 + (1 : Int32)))) else (nn (hR S18 a0 0) fun r25 => gd (ok S18 r25 8) <| gd (inb ((10 : Int32) + x1) (hN S18 r25)) <| cl (f_X7_has N S18 ((hI S18 r25 ((10 : Int32) + x1).toNatClampNeg)) ((hI S18 r21 v3.toNatClampNeg))) fun r28 S28 => if r28 = 0 then (K4 S28 ((0 : Int32)) ((v3 + (1 : Int32)))) else (K4 S28 ((1 : Int32)) ((v3 + (1 : Int32))))))) else (K4 S ((1 : Int32)) ((v3 + (1 : Int32)))))
def f_X7_hasPair_l4 (N : Nat) (a0 : Nat) (x1 : Int32) : Nat → Hp → Int32 → Int32 → Option (Int32 × Hp)
  | 0, _, _, _ => none
  | k + 1, S, v2, v3 => f_X7_hasPair_b4 N a0 x1 (f_X7_hasPair_l4 N a0 x1 k) S v2 v3
def f_X7_hasPair (N : Nat) (S : Hp) (a0 : Nat) (x1 : Int32) : Option (Int32 × Hp) :=
  f_X7_hasPair_l4 N a0 x1 N S ((0 : Int32)) ((0 : Int32))
def f_X7_isLoose (N : Nat) (S : Hp) (a0 : Nat) (x1 : Int32) (x2 : Int32) : Option (Int32 × Hp) :=
  gd (ok S a0 7) <| nn (hR S a0 0) fun r11 => gd (ok S r11 8) <| gd (inb (0 : Int32) (hN S r11)) <| if (hI S r11 (0 : Int32).toNatClampNeg) ≤ x2 then (some ((0 : Int32), S)) else (cl (f_X7_freeOf N S a0 x1) fun r15 S15 => cl (f_X7_has N S15 r15 x2) fun r16 S16 => if r16 = 0 then (some ((0 : Int32), S16)) else (gd (ok S16 a0 7) <| nn (hR S16 a0 8) fun r19 => gd (ok S16 r19 8) <| gd (inb x2 (hN S16 r19)) <| if (hI S16 r19 x2.toNatClampNeg) = (-1 : Int32) then (some ((1 : Int32), S16)) else (some ((0 : Int32), S16))))
def f_X7_unpair (N : Nat) (S : Hp) (a0 : Nat) (x1 : Int32) : Option (Unit × Hp) :=
  gd (ok S a0 7) <| nn (hR S a0 9) fun r11 => gd (ok S r11 8) <| gd (inb x1 (hN S r11)) <| if (hI S r11 x1.toNatClampNeg) = (-1 : Int32) then (some ((), S)) else (nn (hR S a0 8) fun r15 => gd (ok S r15 8) <| gd (inb (hI S r11 x1.toNatClampNeg) (hN S r15)) <| bd (sI S r15 (hI S r11 x1.toNatClampNeg).toNatClampNeg (-1 : Int32)) fun S18 => nn (hR S18 a0 10) fun r26 => gd (ok S18 r26 8) <| gd (inb x1 (hN S18 r26)) <| gd (inb (hI S18 r26 x1.toNatClampNeg) (hN S18 r15)) <| bd (sI S18 r15 (hI S18 r26 x1.toNatClampNeg).toNatClampNeg (-1 : Int32)) fun S30 => some ((), S30))
def f_X7_pairNext_b47 (N : Nat) (a0 : Nat) (x1 : Int32) (K47 : Hp → Int32 → Int32 → Option (Int32 × Hp)) (S : Hp) (v2 : Int32) (v3 : Int32) : Option (Int32 × Hp) :=
  gd (ok S a0 7) <| nn (hR S a0 0) fun r26 => gd (ok S r26 8) <| gd (inb (0 : Int32) (hN S r26)) <| if (hI S r26 (0 : Int32).toNatClampNeg) ≤ v2 then (nn (hR S a0 9) fun r30 => gd (ok S r30 8) <| gd (inb x1 (hN S r30)) <| some ((0 : Int32), (sI S r30 x1.toNatClampNeg (-1 : Int32)))) else (if (v3 + (1 : Int32)) < (hI S r26 (0 : Int32).toNatClampNeg) then (if (v3 + (1 : Int32)) ≤ v2 then (K47 S v2 ((v3 + (1 : Int32)))) else (cl (f_X7_isLoose N S a0 x1 v2) fun r35 S35 => if r35 = 0 then (K47 S35 v2 ((v3 + (1 : Int32)))) else (gd (ok S35 a0 7) <| cl (f_X7_isLoose N S35 a0 x1 ((v3 + (1 : Int32)))) fun r38 S38 => if r38 = 0 then (K47 S38 v2 ((v3 + (1 : Int32)))) else (gd (ok S38 a0 7) <| nn (hR S38 a0 9) fun r41 => gd (ok S38 r41 8) <| gd (inb x1 (hN S38 r41)) <| nn (hR ((sI S38 r41 x1.toNatClampNeg v2)) a0 10) fun r44 => gd (ok ((sI S38 r41 x1.toNatClampNeg v2)) r44 8) <| gd (inb x1 (hN ((sI S38 r41 x1.toNatClampNeg v2)) r44)) <| bd (sI (sI S38 r41 x1.toNatClampNeg v2) r44 x1.toNatClampNeg (v3 + (1 : Int32))) fun S47 => nn (hR S47 a0 8) fun r55 => gd (ok S47 r55 8) <| gd (inb v2 (hN S47 r55)) <| bd (sI S47 r55 v2.toNatClampNeg (v3 + (1 : Int32))) fun S58 => gd (inb (v3 + (1 : Int32)) (hN S58 r55)) <| bd (sI S58 r55 (v3 + (1 : Int32)).toNatClampNeg v2) fun S70 => some ((1 : Int32), S70))))) else (K47 S ((v2 + (1 : Int32))) ((v2 + (1 : Int32)))))
def f_X7_pairNext_l47 (N : Nat) (a0 : Nat) (x1 : Int32) : Nat → Hp → Int32 → Int32 → Option (Int32 × Hp)
  | 0, _, _, _ => none
  | k + 1, S, v2, v3 => f_X7_pairNext_b47 N a0 x1 (f_X7_pairNext_l47 N a0 x1 k) S v2 v3
def f_X7_pairNext_b41 (N : Nat) (a0 : Nat) (x1 : Int32) (S : Hp) (v2 : Int32) (s0 : Int32) : Option (Int32 × Hp) :=
  gd (ok S a0 7) <| cl (f_X7_unpair N S a0 x1) fun _ S24 => f_X7_pairNext_l47 N a0 x1 N S24 v2 s0
def f_X7_pairNext_b20 (N : Nat) (a0 : Nat) (x1 : Int32) (S : Hp) (s0 : Int32) : Option (Int32 × Hp) :=
  gd (ok S a0 7) <| nn (hR S a0 9) fun r16 => gd (ok S r16 8) <| gd (inb x1 (hN S r16)) <| if (hI S r16 x1.toNatClampNeg) = (-1 : Int32) then (f_X7_pairNext_b41 N a0 x1 S s0 ((0 : Int32))) else (nn (hR S a0 10) fun r20 => gd (ok S r20 8) <| gd (inb x1 (hN S r20)) <| f_X7_pairNext_b41 N a0 x1 S s0 ((hI S r20 x1.toNatClampNeg)))
def f_X7_pairNext (N : Nat) (S : Hp) (a0 : Nat) (x1 : Int32) : Option (Int32 × Hp) :=
  gd (ok S a0 7) <| nn (hR S a0 9) fun r11 => gd (ok S r11 8) <| gd (inb x1 (hN S r11)) <| if (hI S r11 x1.toNatClampNeg) = (-1 : Int32) then (f_X7_pairNext_b20 N a0 x1 S ((0 : Int32))) else (f_X7_pairNext_b20 N a0 x1 S ((hI S r11 x1.toNatClampNeg)))
def f_X7_triedAhead_b4 (N : Nat) (a0 : Nat) (x1 : Int32) (K4 : Hp → Int32 → Option (Int32 × Hp)) (S : Hp) (v2 : Int32) : Option (Int32 × Hp) :=
  if v2 < 0 then (some (v2, S)) else (gd (ok S a0 7) <| nn (hR S a0 9) fun r12 => gd (ok S r12 8) <| gd (inb v2 (hN S r12)) <| if (hI S r12 v2.toNatClampNeg) = (-1 : Int32) then (K4 S ((v2 + (-1 : Int32)))) else (some (v2, S)))
def f_X7_triedAhead_l4 (N : Nat) (a0 : Nat) (x1 : Int32) : Nat → Hp → Int32 → Option (Int32 × Hp)
  | 0, _, _ => none
  | k + 1, S, v2 => f_X7_triedAhead_b4 N a0 x1 (f_X7_triedAhead_l4 N a0 x1 k) S v2
def f_X7_triedAhead (N : Nat) (S : Hp) (a0 : Nat) (x1 : Int32) : Option (Int32 × Hp) :=
  f_X7_triedAhead_l4 N a0 x1 N S ((x1 - (1 : Int32)))
def f_X7_layPairing_b70 (N : Nat) (a0 : Nat) (K23 : Hp → Int32 → Option (Int32 × Hp)) (K70 : Hp → Int32 → Int32 → Option (Int32 × Hp)) (S : Hp) (v1 : Int32) (v2 : Int32) : Option (Int32 × Hp) :=
  if v2 = 0 then (gd (ok S a0 7) <| cl (f_X7_triedAhead N S a0 v1) fun r33 S33 => if 0 ≤ r33 then (gd (ok S33 a0 7) <| cl (f_X7_pairNext N S33 a0 r33) fun r36 S36 => K70 S36 r33 r36) else (some ((0 : Int32), S33))) else (K23 S ((v1 + (1 : Int32))))
def f_X7_layPairing_l70 (N : Nat) (a0 : Nat) (K23 : Hp → Int32 → Option (Int32 × Hp)) : Nat → Hp → Int32 → Int32 → Option (Int32 × Hp)
  | 0, _, _, _ => none
  | k + 1, S, v1, v2 => f_X7_layPairing_b70 N a0 K23 (f_X7_layPairing_l70 N a0 K23 k) S v1 v2
def f_X7_layPairing_b23 (N : Nat) (a0 : Nat) (K23 : Hp → Int32 → Option (Int32 × Hp)) (S : Hp) (v1 : Int32) : Option (Int32 × Hp) :=
  gd (ok S a0 7) <| nn (hR S a0 0) fun r16 => gd (ok S r16 8) <| gd (inb (2 : Int32) (hN S r16)) <| if (hI S r16 (2 : Int32).toNatClampNeg) ≤ v1 then (some ((1 : Int32), S)) else (nn (hR S a0 9) fun r20 => gd (ok S r20 8) <| gd (inb v1 (hN S r20)) <| cl (f_X7_isDead N ((sI S r20 v1.toNatClampNeg (-1 : Int32))) a0 v1) fun r23 S23 => if r23 = 0 then (gd (ok S23 a0 7) <| cl (f_X7_hasPair N S23 a0 v1) fun r26 S26 => if r26 = 0 then (gd (ok S26 a0 7) <| cl (f_X7_pairNext N S26 a0 v1) fun r29 S29 => if r29 = 0 then (f_X7_layPairing_l70 N a0 K23 N S29 v1 ((0 : Int32))) else (f_X7_layPairing_l70 N a0 K23 N S29 v1 ((1 : Int32)))) else (f_X7_layPairing_l70 N a0 K23 N S26 v1 ((1 : Int32)))) else (f_X7_layPairing_l70 N a0 K23 N S23 v1 ((1 : Int32))))
def f_X7_layPairing_l23 (N : Nat) (a0 : Nat) : Nat → Hp → Int32 → Option (Int32 × Hp)
  | 0, _, _ => none
  | k + 1, S, v1 => f_X7_layPairing_b23 N a0 (f_X7_layPairing_l23 N a0 k) S v1
def f_X7_layPairing_b2 (N : Nat) (a0 : Nat) (K2 : Hp → Int32 → Option (Int32 × Hp)) (S : Hp) (v1 : Int32) : Option (Int32 × Hp) :=
  if (10 : Int32) ≤ v1 then (f_X7_layPairing_l23 N a0 N S ((0 : Int32))) else (gd (ok S a0 7) <| nn (hR S a0 8) fun r12 => gd (ok S r12 8) <| gd (inb v1 (hN S r12)) <| K2 ((sI S r12 v1.toNatClampNeg (-1 : Int32))) ((v1 + (1 : Int32))))
def f_X7_layPairing_l2 (N : Nat) (a0 : Nat) : Nat → Hp → Int32 → Option (Int32 × Hp)
  | 0, _, _ => none
  | k + 1, S, v1 => f_X7_layPairing_b2 N a0 (f_X7_layPairing_l2 N a0 k) S v1
def f_X7_layPairing (N : Nat) (S : Hp) (a0 : Nat) : Option (Int32 × Hp) :=
  f_X7_layPairing_l2 N a0 N S ((0 : Int32))
def f_X7_partnerOf (N : Nat) (S : Hp) (a0 : Nat) (x1 : Int32) : Option (Int32 × Hp) :=
  gd (ok S a0 7) <| cl (f_X7_layPairing N S a0) fun r11 S11 => if r11 = 0 then (some ((-1 : Int32), S11)) else (gd (ok S11 a0 7) <| nn (hR S11 a0 8) fun r14 => gd (ok S11 r14 8) <| gd (inb x1 (hN S11 r14)) <| some ((hI S11 r14 x1.toNatClampNeg), S11))
def f_X7_pairs_b13 (N : Nat) (a0 : Nat) (K13 : Hp → Int32 → Int32 → Option (Int32 × Hp)) (S : Hp) (v1 : Int32) (v2 : Int32) : Option (Int32 × Hp) :=
  if (10 : Int32) ≤ v2 then (some (v1, S)) else (gd (ok S a0 7) <| nn (hR S a0 8) fun r15 => gd (ok S r15 8) <| gd (inb v2 (hN S r15)) <| if (hI S r15 v2.toNatClampNeg) ≤ v2 then (K13 S ((v1 + (0 : Int32))) ((v2 + (1 : Int32)))) else (K13 S ((v1 + (1 : Int32))) ((v2 + (1 : Int32)))))
def f_X7_pairs_l13 (N : Nat) (a0 : Nat) : Nat → Hp → Int32 → Int32 → Option (Int32 × Hp)
  | 0, _, _, _ => none
  | k + 1, S, v1, v2 => f_X7_pairs_b13 N a0 (f_X7_pairs_l13 N a0 k) S v1 v2
def f_X7_pairs (N : Nat) (S : Hp) (a0 : Nat) : Option (Int32 × Hp) :=
  gd (ok S a0 7) <| cl (f_X7_layPairing N S a0) fun r11 S11 => if r11 = 0 then (some ((-1 : Int32), S11)) else (f_X7_pairs_l13 N a0 N S11 ((0 : Int32)) ((0 : Int32)))
def f_X7_isSolved_b34 (N : Nat) (a0 : Nat) (K34 : Hp → Int32 → Int32 → Option (Int32 × Hp)) (S : Hp) (v1 : Int32) (v2 : Int32) : Option (Int32 × Hp) :=
  gd (ok S a0 7) <| nn (hR S a0 0) fun r18 => gd (ok S r18 8) <| gd (inb (2 : Int32) (hN S r18)) <| if (hI S r18 (2 : Int32).toNatClampNeg) ≤ v2 then (gd (isB v1) <| some (v1, S)) else (if v1 = 0 then (K34 S ((0 : Int32)) ((v2 + (1 : Int32)))) else (nn (hR S a0 13) fun r24 => gd (ok S r24 8) <| gd (inb v2 (hN S r24)) <| gd (inb ((10 : Int32) + v2) (hN S r18)) <| if (hI S r24 v2.toNatClampNeg) = (hI S r18 ((10 : Int32) + v2).toNatClampNeg) then (K34 S ((1 : Int32)) ((v2 + (1 : Int32)))) else (K34 S ((0 : Int32)) ((v2 + (1 : Int32))))))
def f_X7_isSolved_l34 (N : Nat) (a0 : Nat) : Nat → Hp → Int32 → Int32 → Option (Int32 × Hp)
  | 0, _, _, _ => none
  | k + 1, S, v1, v2 => f_X7_isSolved_b34 N a0 (f_X7_isSolved_l34 N a0 k) S v1 v2
def f_X7_isSolved (N : Nat) (S : Hp) (a0 : Nat) : Option (Int32 × Hp) :=
  gd (ok S a0 7) <| nn (hR S a0 0) fun r11 => gd (ok S r11 8) <| gd (inb (0 : Int32) (hN S r11)) <| if (hI S a0 11) = (hI S r11 (0 : Int32).toNatClampNeg) then (gd (inb (2 : Int32) (hN S r11)) <| if (hI S a0 12) = (hI S r11 (2 : Int32).toNatClampNeg) then (f_X7_isSolved_l34 N a0 N S ((1 : Int32)) ((0 : Int32))) else (f_X7_isSolved_l34 N a0 N S ((0 : Int32)) ((0 : Int32)))) else (f_X7_isSolved_l34 N a0 N S ((0 : Int32)) ((0 : Int32)))
def f_X7_power_b4 (N : Nat) (x0 : Int32) (K4 : Hp → Int32 → Int32 → Option (Int32 × Hp)) (S : Hp) (v1 : Int32) (v2 : Int32) : Option (Int32 × Hp) :=
  if x0 ≤ v2 then (some (v1, S)) else (K4 S ((v1 * (3 : Int32))) ((v2 + (1 : Int32))))
def f_X7_power_l4 (N : Nat) (x0 : Int32) : Nat → Hp → Int32 → Int32 → Option (Int32 × Hp)
  | 0, _, _, _ => none
  | k + 1, S, v1, v2 => f_X7_power_b4 N x0 (f_X7_power_l4 N x0 k) S v1 v2
def f_X7_power (N : Nat) (S : Hp) (x0 : Int32) : Option (Int32 × Hp) :=
  f_X7_power_l4 N x0 N S ((1 : Int32)) ((0 : Int32))
def f_X7_placeOf_b13 (N : Nat) (a0 : Nat) (x1 : Int32) (x2 : Int32) (x3 : Int32) (K13 : Hp → Int32 → Int32 → Option (Int32 × Hp)) (S : Hp) (v4 : Int32) (v5 : Int32) : Option (Int32 × Hp) :=
  if v5 < 0 then (some ((v4 + ((59049 : Int32) * (x3 - (1 : Int32)))), S)) else (cl (f_X7_has N S x1 v5) fun r16 S16 => if r16 = 0 then (cl (f_X7_has N S16 x2 v5) fun r18 S18 => if r18 = 0 then (bd (((3 : Int32) * v4) + (0 : Int32)) fun e20 => K13 S18 e20 ((v5 + (-1 : Int32)))) else (bd (((3 : Int32) * v4) + (2 : Int32)) fun e21 => K13 S18 e21 ((v5 + (-1 : Int32))))) else (bd (((3 : Int32) * v4) + (1 : Int32)) fun e22 => K13 S16 e22 ((v5 + (-1 : Int32)))))
def f_X7_placeOf_l13 (N : Nat) (a0 : Nat) (x1 : Int32) (x2 : Int32) (x3 : Int32) : Nat → Hp → Int32 → Int32 → Option (Int32 × Hp)
  | 0, _, _, _ => none
  | k + 1, S, v4, v5 => f_X7_placeOf_b13 N a0 x1 x2 x3 (f_X7_placeOf_l13 N a0 x1 x2 x3 k) S v4 v5
def f_X7_placeOf (N : Nat) (S : Hp) (a0 : Nat) (x1 : Int32) (x2 : Int32) (x3 : Int32) : Option (Int32 × Hp) :=
  gd (ok S a0 7) <| nn (hR S a0 0) fun r11 => gd (ok S r11 8) <| gd (inb (0 : Int32) (hN S r11)) <| bd ((hI S r11 (0 : Int32).toNatClampNeg) - (1 : Int32)) fun e14 => f_X7_placeOf_l13 N a0 x1 x2 x3 N S ((0 : Int32)) e14
def f_X7_solveAt_b240 (N : Nat) (a0 : Nat) (x1 : Int32) (x2 : Int32) (x3 : Int32) (S : Hp) (s0 : Int32) (s1 : Int32) (s2 : Nat) : Option (Unit × Hp) :=
  gd (ok S s2 8) <| gd (inb s1 (hN S s2)) <| some ((), (sI S s2 s1.toNatClampNeg s0))
def f_X7_solveAt_b239 (N : Nat) (a0 : Nat) (x1 : Int32) (x2 : Int32) (x3 : Int32) (S : Hp) (s0 : Int32) (s1 : Int32) (s2 : Int32) (s3 : Nat) : Option (Unit × Hp) :=
  f_X7_solveAt_b240 N a0 x1 x2 x3 S ((s1 + s0)) s2 s3
def f_X7_solveAt_b201 (N : Nat) (a0 : Nat) (x1 : Int32) (x2 : Int32) (x3 : Int32) (S : Hp) (v4 : Int32) (v5 : Int32) (v9 : Int32) (s0 : Int32) (s1 : Int32) (s2 : Nat) : Option (Unit × Hp) :=
  gd (ok S s2 8) <| gd (inb s1 (hN S s2)) <| gd (ok ((sI S s2 s1.toNatClampNeg s0)) a0 7) <| nn (hR ((sI S s2 s1.toNatClampNeg s0)) a0 15) fun r48 => nn (hR ((sI S s2 s1.toNatClampNeg s0)) a0 14) fun r49 => gd (ok ((sI S s2 s1.toNatClampNeg s0)) r49 8) <| gd (inb v9 (hN ((sI S s2 s1.toNatClampNeg s0)) r49)) <| if (hI ((sI S s2 s1.toNatClampNeg s0)) r49 v9.toNatClampNeg) = (2 : Int32) then (cl (f_X7_ones N ((sI S s2 s1.toNatClampNeg s0)) x3) fun r54 S54 => f_X7_solveAt_b240 N a0 x1 x2 x3 S54 r54 v9 r48) else (if x2 = (1 : Int32) then (f_X7_solveAt_b239 N a0 x1 x2 x3 ((sI S s2 s1.toNatClampNeg s0)) v4 ((1 : Int32)) v9 r48) else (f_X7_solveAt_b239 N a0 x1 x2 x3 ((sI S s2 s1.toNatClampNeg s0)) v5 ((1 : Int32)) v9 r48))
def f_X7_solveAt_b200 (N : Nat) (a0 : Nat) (x1 : Int32) (x2 : Int32) (x3 : Int32) (S : Hp) (v4 : Int32) (v5 : Int32) (v9 : Int32) (s0 : Int32) (s1 : Nat) : Option (Unit × Hp) :=
  f_X7_solveAt_b201 N a0 x1 x2 x3 S v4 v5 v9 ((2 : Int32)) s0 s1
def f_X7_solveAt_b196 (N : Nat) (a0 : Nat) (x1 : Int32) (x2 : Int32) (x3 : Int32) (S : Hp) (v4 : Int32) (v5 : Int32) (v9 : Int32) (s0 : Int32) (s1 : Nat) : Option (Unit × Hp) :=
  f_X7_solveAt_b201 N a0 x1 x2 x3 S v4 v5 v9 ((1 : Int32)) s0 s1
def f_X7_solveAt_b147 (N : Nat) (a0 : Nat) (x1 : Int32) (x2 : Int32) (x3 : Int32) (K19 : Hp → Int32 → Int32 → Int32 → Int32 → Int32 → Int32 → Option (Unit × Hp)) (S : Hp) (v4 : Int32) (v5 : Int32) (v6 : Int32) (v8 : Int32) (v9 : Int32) : Option (Unit × Hp) :=
  K19 S v4 v5 v6 ((0 : Int32)) ((v8 * (3 : Int32))) ((v9 + (1 : Int32)))
def f_X7_solveAt_b143 (N : Nat) (a0 : Nat) (x1 : Int32) (x2 : Int32) (x3 : Int32) (K19 : Hp → Int32 → Int32 → Int32 → Int32 → Int32 → Int32 → Option (Unit × Hp)) (S : Hp) (v4 : Int32) (v5 : Int32) (v6 : Int32) (v8 : Int32) (v9 : Int32) : Option (Unit × Hp) :=
  K19 S v4 v5 v6 ((1 : Int32)) ((v8 * (3 : Int32))) ((v9 + (1 : Int32)))
def f_X7_solveAt_b118 (N : Nat) (a0 : Nat) (x1 : Int32) (x2 : Int32) (x3 : Int32) (K19 : Hp → Int32 → Int32 → Int32 → Int32 → Int32 → Int32 → Option (Unit × Hp)) (S : Hp) (v4 : Int32) (v5 : Int32) (v6 : Int32) (v7 : Int32) (v8 : Int32) (v9 : Int32) (v10 : Int32) : Option (Unit × Hp) :=
  if v7 = 0 then (cl (f_X7_has N S x3 v9) fun r33 S33 => if r33 = 0 then (f_X7_solveAt_b147 N a0 x1 x2 x3 K19 S33 v4 v5 v6 v8 v9) else (gd (ok S33 a0 7) <| nn (hR S33 a0 14) fun r36 => gd (ok S33 r36 8) <| gd (inb v10 (hN S33 r36)) <| if (hI S33 r36 v10.toNatClampNeg) = (2 : Int32) then (f_X7_solveAt_b143 N a0 x1 x2 x3 K19 S33 v4 v5 v6 v8 v9) else (f_X7_solveAt_b147 N a0 x1 x2 x3 K19 S33 v4 v5 v6 v8 v9))) else (f_X7_solveAt_b143 N a0 x1 x2 x3 K19 S v4 v5 v6 v8 v9)
def f_X7_solveAt_b116 (N : Nat) (a0 : Nat) (x1 : Int32) (x2 : Int32) (x3 : Int32) (K19 : Hp → Int32 → Int32 → Int32 → Int32 → Int32 → Int32 → Option (Unit × Hp)) (S : Hp) (v4 : Int32) (v6 : Int32) (v7 : Int32) (v8 : Int32) (v9 : Int32) (v10 : Int32) (s0 : Int32) : Option (Unit × Hp) :=
  f_X7_solveAt_b118 N a0 x1 x2 x3 K19 S v4 s0 v6 v7 v8 v9 v10
def f_X7_solveAt_b90 (N : Nat) (a0 : Nat) (x1 : Int32) (x2 : Int32) (x3 : Int32) (K19 : Hp → Int32 → Int32 → Int32 → Int32 → Int32 → Int32 → Option (Unit × Hp)) (S : Hp) (v5 : Int32) (v6 : Int32) (v7 : Int32) (v8 : Int32) (v9 : Int32) (v10 : Int32) (s0 : Int32) : Option (Unit × Hp) :=
  gd (ok S a0 7) <| nn (hR S a0 15) fun r41 => gd (ok S r41 8) <| gd (inb v10 (hN S r41)) <| if (hI S r41 v10.toNatClampNeg) ≤ v5 then (f_X7_solveAt_b116 N a0 x1 x2 x3 K19 S s0 v6 v7 v8 v9 v10 v5) else (f_X7_solveAt_b116 N a0 x1 x2 x3 K19 S s0 v6 v7 v8 v9 v10 ((hI S r41 v10.toNatClampNeg)))
def f_X7_solveAt_b19 (N : Nat) (a0 : Nat) (x1 : Int32) (x2 : Int32) (x3 : Int32) (K19 : Hp → Int32 → Int32 → Int32 → Int32 → Int32 → Int32 → Option (Unit × Hp)) (S : Hp) (v4 : Int32) (v5 : Int32) (v6 : Int32) (v7 : Int32) (v8 : Int32) (v9 : Int32) : Option (Unit × Hp) :=
  gd (ok S a0 7) <| nn (hR S a0 0) fun r11 => gd (ok S r11 8) <| gd (inb (0 : Int32) (hN S r11)) <| if (hI S r11 (0 : Int32).toNatClampNeg) ≤ v9 then (bd (x1 + ((59049 : Int32) * (x2 - (1 : Int32)))) fun e15 => nn (hR S a0 14) fun r16 => if x2 = (1 : Int32) then (if v6 = 0 then (f_X7_solveAt_b200 N a0 x1 x2 x3 S v4 v5 e15 e15 r16) else (f_X7_solveAt_b196 N a0 x1 x2 x3 S v4 v5 e15 e15 r16)) else (if v7 = 0 then (f_X7_solveAt_b196 N a0 x1 x2 x3 S v4 v5 e15 e15 r16) else (f_X7_solveAt_b200 N a0 x1 x2 x3 S v4 v5 e15 e15 r16))) else (bd ((x1 + v8) + ((59049 : Int32) * ((2 : Int32) - x2))) fun e20 => cl (f_X7_has N S x3 v9) fun r21 S21 => if r21 = 0 then (f_X7_solveAt_b118 N a0 x1 x2 x3 K19 S21 v4 v5 v6 v7 v8 v9 e20) else (gd (ok S21 a0 7) <| nn (hR S21 a0 14) fun r24 => gd (ok S21 r24 8) <| gd (inb e20 (hN S21 r24)) <| if (hI S21 r24 e20.toNatClampNeg) = (1 : Int32) then (nn (hR S21 a0 15) fun r28 => gd (ok S21 r28 8) <| gd (inb e20 (hN S21 r28)) <| if v4 ≤ (hI S21 r28 e20.toNatClampNeg) then (f_X7_solveAt_b90 N a0 x1 x2 x3 K19 S21 v5 ((1 : Int32)) v7 v8 v9 e20 v4) else (f_X7_solveAt_b90 N a0 x1 x2 x3 K19 S21 v5 ((1 : Int32)) v7 v8 v9 e20 ((hI S21 r28 e20.toNatClampNeg)))) else (f_X7_solveAt_b118 N a0 x1 x2 x3 K19 S21 v4 v5 v6 v7 v8 v9 e20)))
def f_X7_solveAt_l19 (N : Nat) (a0 : Nat) (x1 : Int32) (x2 : Int32) (x3 : Int32) : Nat → Hp → Int32 → Int32 → Int32 → Int32 → Int32 → Int32 → Option (Unit × Hp)
  | 0, _, _, _, _, _, _, _ => none
  | k + 1, S, v4, v5, v6, v7, v8, v9 => f_X7_solveAt_b19 N a0 x1 x2 x3 (f_X7_solveAt_l19 N a0 x1 x2 x3 k) S v4 v5 v6 v7 v8 v9
def f_X7_solveAt (N : Nat) (S : Hp) (a0 : Nat) (x1 : Int32) (x2 : Int32) (x3 : Int32) : Option (Unit × Hp) :=
  f_X7_solveAt_l19 N a0 x1 x2 x3 N S ((22 : Int32)) ((0 : Int32)) ((0 : Int32)) ((0 : Int32)) x2 ((0 : Int32))
def f_X7_solveAll_b234 (N : Nat) (a0 : Nat) (K73 : Hp → Int32 → Option (Unit × Hp)) (K179 : Hp → Int32 → Int32 → Int32 → Int32 → Option (Unit × Hp)) (S : Hp) (v1 : Int32) (v5 : Int32) (v6 : Int32) (v7 : Int32) (s0 : Int32) (s1 : Int32) (s2 : Nat) : Option (Unit × Hp) :=
  gd (ok S s2 8) <| gd (inb s1 (hN S s2)) <| K179 ((sI S s2 s1.toNatClampNeg s0)) v1 v5 v6 ((v7 + (1 : Int32)))
def f_X7_solveAll_b179 (N : Nat) (a0 : Nat) (K73 : Hp → Int32 → Option (Unit × Hp)) (K179 : Hp → Int32 → Int32 → Int32 → Int32 → Option (Unit × Hp)) (S : Hp) (v1 : Int32) (v5 : Int32) (v6 : Int32) (v7 : Int32) : Option (Unit × Hp) :=
  if (3 : Int32) ≤ v7 then (K73 S ((v1 + (-1 : Int32)))) else (if v5 ≤ 0 then (gd (ok S a0 7) <| cl (f_X7_solveAt N S a0 v1 v7 v6) fun _ S66 => K179 S66 v1 v5 v6 ((v7 + (1 : Int32)))) else (gd (ok S a0 7) <| nn (hR S a0 14) fun r68 => gd (ok S r68 8) <| gd (inb (v1 + ((59049 : Int32) * (v7 - (1 : Int32)))) (hN S r68)) <| bd (sI S r68 (v1 + ((59049 : Int32) * (v7 - (1 : Int32)))).toNatClampNeg v5) fun S71 => nn (hR S71 a0 15) fun r76 => if v5 = (1 : Int32) then (f_X7_solveAll_b234 N a0 K73 K179 S71 v1 v5 v6 v7 ((0 : Int32)) ((v1 + ((59049 : Int32) * (v7 - (1 : Int32))))) r76) else (cl (f_X7_ones N S71 v6) fun r78 S78 => f_X7_solveAll_b234 N a0 K73 K179 S78 v1 v5 v6 v7 r78 ((v1 + ((59049 : Int32) * (v7 - (1 : Int32))))) r76)))
def f_X7_solveAll_l179 (N : Nat) (a0 : Nat) (K73 : Hp → Int32 → Option (Unit × Hp)) : Nat → Hp → Int32 → Int32 → Int32 → Int32 → Option (Unit × Hp)
  | 0, _, _, _, _, _ => none
  | k + 1, S, v1, v5, v6, v7 => f_X7_solveAll_b179 N a0 K73 (f_X7_solveAll_l179 N a0 K73 k) S v1 v5 v6 v7
def f_X7_solveAll_b134 (N : Nat) (a0 : Nat) (K73 : Hp → Int32 → Option (Unit × Hp)) (K87 : Hp → Int32 → Int32 → Int32 → Int32 → Int32 → Option (Unit × Hp)) (S : Hp) (v1 : Int32) (v2 : Int32) (v4 : Int32) (v5 : Int32) (s0 : Int32) (s1 : Int32) : Option (Unit × Hp) :=
  K87 S v1 v2 ((s1 ||| s0)) ((v4 / (3 : Int32))) ((v5 + (1 : Int32)))
def f_X7_solveAll_b115 (N : Nat) (a0 : Nat) (K73 : Hp → Int32 → Option (Unit × Hp)) (K87 : Hp → Int32 → Int32 → Int32 → Int32 → Int32 → Option (Unit × Hp)) (S : Hp) (v1 : Int32) (v3 : Int32) (v4 : Int32) (v5 : Int32) (s0 : Int32) (s1 : Int32) : Option (Unit × Hp) :=
  if (v4 - v4 / (3 : Int32) * (3 : Int32)) = (2 : Int32) then (f_X7_solveAll_b134 N a0 K73 K87 S v1 ((s1 ||| s0)) v4 v5 (((1 : Int32) <<< (v5 &&& 31))) v3) else (f_X7_solveAll_b134 N a0 K73 K87 S v1 ((s1 ||| s0)) v4 v5 ((0 : Int32)) v3)
def f_X7_solveAll_b87 (N : Nat) (a0 : Nat) (K73 : Hp → Int32 → Option (Unit × Hp)) (K87 : Hp → Int32 → Int32 → Int32 → Int32 → Int32 → Option (Unit × Hp)) (S : Hp) (v1 : Int32) (v2 : Int32) (v3 : Int32) (v4 : Int32) (v5 : Int32) : Option (Unit × Hp) :=
  gd (ok S a0 7) <| nn (hR S a0 0) fun r51 => gd (ok S r51 8) <| gd (inb (0 : Int32) (hN S r51)) <| if (hI S r51 (0 : Int32).toNatClampNeg) ≤ v5 then (cl (f_X7_winner N S a0 v2 v3) fun r55 S55 => gd (ok S55 a0 7) <| nn (hR S55 a0 0) fun r57 => gd (ok S55 r57 8) <| gd (inb (0 : Int32) (hN S55 r57)) <| bd (((((1 : Int32) <<< ((hI S55 r57 (0 : Int32).toNatClampNeg) &&& 31)) - (1 : Int32)) &&& (v2 ^^^ (-1 : Int32))) &&& (v3 ^^^ (-1 : Int32))) fun e60 => f_X7_solveAll_l179 N a0 K73 N S55 v1 r55 e60 ((1 : Int32))) else (if (v4 - v4 / (3 : Int32) * (3 : Int32)) = (1 : Int32) then (f_X7_solveAll_b115 N a0 K73 K87 S v1 v3 v4 v5 (((1 : Int32) <<< (v5 &&& 31))) v2) else (f_X7_solveAll_b115 N a0 K73 K87 S v1 v3 v4 v5 ((0 : Int32)) v2))
def f_X7_solveAll_l87 (N : Nat) (a0 : Nat) (K73 : Hp → Int32 → Option (Unit × Hp)) : Nat → Hp → Int32 → Int32 → Int32 → Int32 → Int32 → Option (Unit × Hp)
  | 0, _, _, _, _, _, _ => none
  | k + 1, S, v1, v2, v3, v4, v5 => f_X7_solveAll_b87 N a0 K73 (f_X7_solveAll_l87 N a0 K73 k) S v1 v2 v3 v4 v5
def f_X7_solveAll_b73 (N : Nat) (a0 : Nat) (K73 : Hp → Int32 → Option (Unit × Hp)) (S : Hp) (v1 : Int32) : Option (Unit × Hp) :=
  if v1 < 0 then (some ((), S)) else (f_X7_solveAll_l87 N a0 K73 N S v1 ((0 : Int32)) ((0 : Int32)) v1 ((0 : Int32)))
def f_X7_solveAll_l73 (N : Nat) (a0 : Nat) : Nat → Hp → Int32 → Option (Unit × Hp)
  | 0, _, _ => none
  | k + 1, S, v1 => f_X7_solveAll_b73 N a0 (f_X7_solveAll_l73 N a0 k) S v1
def f_X7_solveAll_b30 (N : Nat) (a0 : Nat) (K30 : Hp → Int32 → Option (Unit × Hp)) (S : Hp) (v1 : Int32) : Option (Unit × Hp) :=
  gd (ok S a0 7) <| nn (hR S a0 0) fun r30 => gd (ok S r30 8) <| gd (inb (2 : Int32) (hN S r30)) <| if (hI S r30 (2 : Int32).toNatClampNeg) ≤ v1 then (gd (inb (0 : Int32) (hN S r30)) <| cl (f_X7_power N S ((hI S r30 (0 : Int32).toNatClampNeg))) fun r35 S35 => f_X7_solveAll_l73 N a0 N S35 ((r35 - (1 : Int32)))) else (nn (hR S a0 13) fun r36 => gd (inb ((10 : Int32) + v1) (hN S r30)) <| gd (ok S r36 8) <| gd (inb v1 (hN S r36)) <| bd (sI S r36 v1.toNatClampNeg (hI S r30 ((10 : Int32) + v1).toNatClampNeg)) fun S40 => K30 S40 ((v1 + (1 : Int32))))
def f_X7_solveAll_l30 (N : Nat) (a0 : Nat) : Nat → Hp → Int32 → Option (Unit × Hp)
  | 0, _, _ => none
  | k + 1, S, v1 => f_X7_solveAll_b30 N a0 (f_X7_solveAll_l30 N a0 k) S v1
def f_X7_solveAll (N : Nat) (S : Hp) (a0 : Nat) : Option (Unit × Hp) :=
  gd (ok S a0 7) <| cl (f_X7_isSolved N S a0) fun r11 S11 => if r11 = 0 then (gd (ok S11 a0 7) <| nn (hR S11 a0 0) fun r14 => gd (ok S11 r14 8) <| gd (inb (0 : Int32) (hN S11 r14)) <| bd (sI S11 a0 11 (hI S11 r14 (0 : Int32).toNatClampNeg)) fun S17 => gd (inb (2 : Int32) (hN S17 r14)) <| bd (sI S17 a0 12 (hI S17 r14 (2 : Int32).toNatClampNeg)) fun S23 => f_X7_solveAll_l30 N a0 N S23 ((0 : Int32))) else (some ((), S11))
def f_X7_placeBehind_b44 (N : Nat) (a0 : Nat) (x1 : Int32) (S : Hp) (s0 : Int32) (s1 : Int32) (s2 : Int32) (s3 : Nat) : Option (Int32 × Hp) :=
  gd (ok S a0 7) <| nn (hR S a0 0) fun r26 => gd (ok S r26 8) <| gd (inb (1 : Int32) (hN S r26)) <| gd (ok S s3 7) <| cl (f_X7_placeOf N S s3 s2 ((s1 ||| s0)) (((3 : Int32) - (hI S r26 (1 : Int32).toNatClampNeg)))) fun r30 S30 => some (r30, S30)
def f_X7_placeBehind_b24 (N : Nat) (a0 : Nat) (x1 : Int32) (S : Hp) (v2 : Int32) (s0 : Int32) (s1 : Int32) (s2 : Nat) : Option (Int32 × Hp) :=
  gd (ok S a0 7) <| cl (f_X7_breaker N S a0) fun r19 S19 => gd (ok S19 a0 7) <| nn (hR S19 a0 0) fun r21 => gd (ok S19 r21 8) <| gd (inb (1 : Int32) (hN S19 r21)) <| if (hI S19 r21 (1 : Int32).toNatClampNeg) = (2 : Int32) then (f_X7_placeBehind_b44 N a0 x1 S19 v2 r19 ((s1 ||| s0)) s2) else (f_X7_placeBehind_b44 N a0 x1 S19 ((0 : Int32)) r19 ((s1 ||| s0)) s2)
def f_X7_placeBehind (N : Nat) (S : Hp) (a0 : Nat) (x1 : Int32) : Option (Int32 × Hp) :=
  bd ((1 : Int32) <<< (x1 &&& 31)) fun e10 => gd (ok S a0 7) <| cl (f_X7_maker N S a0) fun r12 S12 => gd (ok S12 a0 7) <| nn (hR S12 a0 0) fun r14 => gd (ok S12 r14 8) <| gd (inb (1 : Int32) (hN S12 r14)) <| if (hI S12 r14 (1 : Int32).toNatClampNeg) = (1 : Int32) then (f_X7_placeBehind_b24 N a0 x1 S12 e10 e10 r12 a0) else (f_X7_placeBehind_b24 N a0 x1 S12 e10 ((0 : Int32)) r12 a0)
def f_X7_isBetter_b56 (N : Nat) (a0 : Nat) (x1 : Int32) (x2 : Int32) (S : Hp) (v3 : Int32) (v4 : Int32) (v5 : Int32) (s0 : Int32) : Option (Int32 × Hp) :=
  if v5 = s0 then (gd (ok S a0 7) <| nn (hR S a0 0) fun r32 => gd (ok S r32 8) <| gd (inb (1 : Int32) (hN S r32)) <| if (hI S r32 (1 : Int32).toNatClampNeg) = (1 : Int32) then (if v5 = 0 then (some ((0 : Int32), S)) else (nn (hR S a0 15) fun r43 => gd (ok S r43 8) <| gd (inb v3 (hN S r43)) <| gd (inb v4 (hN S r43)) <| if (hI S r43 v4.toNatClampNeg) ≤ (hI S r43 v3.toNatClampNeg) then (some ((0 : Int32), S)) else (some ((1 : Int32), S)))) else (if v5 = 0 then (nn (hR S a0 15) fun r37 => gd (ok S r37 8) <| gd (inb v3 (hN S r37)) <| gd (inb v4 (hN S r37)) <| if (hI S r37 v3.toNatClampNeg) ≤ (hI S r37 v4.toNatClampNeg) then (some ((0 : Int32), S)) else (some ((1 : Int32), S))) else (some ((0 : Int32), S)))) else (gd (isB v5) <| some (v5, S))
def f_X7_isBetter_b33 (N : Nat) (a0 : Nat) (x1 : Int32) (x2 : Int32) (S : Hp) (v3 : Int32) (v4 : Int32) (s0 : Int32) : Option (Int32 × Hp) :=
  gd (ok S a0 7) <| nn (hR S a0 14) fun r23 => gd (ok S r23 8) <| gd (inb v4 (hN S r23)) <| nn (hR S a0 0) fun r26 => gd (ok S r26 8) <| gd (inb (1 : Int32) (hN S r26)) <| if (hI S r23 v4.toNatClampNeg) = (hI S r26 (1 : Int32).toNatClampNeg) then (f_X7_isBetter_b56 N a0 x1 x2 S v3 v4 s0 ((1 : Int32))) else (f_X7_isBetter_b56 N a0 x1 x2 S v3 v4 s0 ((0 : Int32)))
def f_X7_isBetter (N : Nat) (S : Hp) (a0 : Nat) (x1 : Int32) (x2 : Int32) : Option (Int32 × Hp) :=
  gd (ok S a0 7) <| cl (f_X7_placeBehind N S a0 x1) fun r11 S11 => gd (ok S11 a0 7) <| cl (f_X7_placeBehind N S11 a0 x2) fun r13 S13 => gd (ok S13 a0 7) <| nn (hR S13 a0 14) fun r15 => gd (ok S13 r15 8) <| gd (inb r11 (hN S13 r15)) <| nn (hR S13 a0 0) fun r18 => gd (ok S13 r18 8) <| gd (inb (1 : Int32) (hN S13 r18)) <| if (hI S13 r15 r11.toNatClampNeg) = (hI S13 r18 (1 : Int32).toNatClampNeg) then (f_X7_isBetter_b33 N a0 x1 x2 S13 r11 r13 ((1 : Int32))) else (f_X7_isBetter_b33 N a0 x1 x2 S13 r11 r13 ((0 : Int32)))
def f_X7_bestMove_b8 (N : Nat) (a0 : Nat) (K8 : Hp → Int32 → Int32 → Option (Int32 × Hp)) (S : Hp) (v1 : Int32) (v2 : Int32) : Option (Int32 × Hp) :=
  gd (ok S a0 7) <| nn (hR S a0 0) fun r13 => gd (ok S r13 8) <| gd (inb (0 : Int32) (hN S r13)) <| if (hI S r13 (0 : Int32).toNatClampNeg) ≤ v2 then (some (v1, S)) else (cl (f_X7_free N S a0) fun r17 S17 => cl (f_X7_has N S17 r17 v2) fun r18 S18 => if r18 = 0 then (K8 S18 v1 ((v2 + (1 : Int32)))) else (if v1 = (-1 : Int32) then (K8 S18 v2 ((v2 + (1 : Int32)))) else (gd (ok S18 a0 7) <| cl (f_X7_isBetter N S18 a0 v2 v1) fun r22 S22 => if r22 = 0 then (K8 S22 v1 ((v2 + (1 : Int32)))) else (K8 S22 v2 ((v2 + (1 : Int32)))))))
def f_X7_bestMove_l8 (N : Nat) (a0 : Nat) : Nat → Hp → Int32 → Int32 → Option (Int32 × Hp)
  | 0, _, _, _ => none
  | k + 1, S, v1, v2 => f_X7_bestMove_b8 N a0 (f_X7_bestMove_l8 N a0 k) S v1 v2
def f_X7_bestMove (N : Nat) (S : Hp) (a0 : Nat) : Option (Int32 × Hp) :=
  gd (ok S a0 7) <| cl (f_X7_solveAll N S a0) fun _ S11 => f_X7_bestMove_l8 N a0 N S11 ((-1 : Int32)) ((0 : Int32))
def f_X7_byDanger_b4 (N : Nat) (a0 : Nat) (K4 : Hp → Int32 → Int32 → Option (Int32 × Hp)) (S : Hp) (v1 : Int32) (v2 : Int32) : Option (Int32 × Hp) :=
  gd (ok S a0 7) <| nn (hR S a0 0) fun r11 => gd (ok S r11 8) <| gd (inb (0 : Int32) (hN S r11)) <| if (hI S r11 (0 : Int32).toNatClampNeg) ≤ v2 then (some (v1, S)) else (cl (f_X7_free N S a0) fun r15 S15 => cl (f_X7_has N S15 r15 v2) fun r16 S16 => if r16 = 0 then (K4 S16 v1 ((v2 + (1 : Int32)))) else (if v1 = (-1 : Int32) then (K4 S16 v2 ((v2 + (1 : Int32)))) else (gd (ok S16 a0 7) <| cl (f_X7_danger N S16 a0 v2) fun r20 S20 => gd (ok S20 a0 7) <| cl (f_X7_danger N S20 a0 v1) fun r22 S22 => if r20 ≤ r22 then (K4 S22 v1 ((v2 + (1 : Int32)))) else (K4 S22 v2 ((v2 + (1 : Int32)))))))
def f_X7_byDanger_l4 (N : Nat) (a0 : Nat) : Nat → Hp → Int32 → Int32 → Option (Int32 × Hp)
  | 0, _, _, _ => none
  | k + 1, S, v1, v2 => f_X7_byDanger_b4 N a0 (f_X7_byDanger_l4 N a0 k) S v1 v2
def f_X7_byDanger (N : Nat) (S : Hp) (a0 : Nat) : Option (Int32 × Hp) :=
  f_X7_byDanger_l4 N a0 N S ((-1 : Int32)) ((0 : Int32))
def f_X7_replyBy_b56 (N : Nat) (a0 : Nat) (x1 : Int32) (S : Hp) : Option (Int32 × Hp) :=
  gd (ok S a0 7) <| cl (f_X7_forced N S a0) fun r28 S28 => if r28 = (-1 : Int32) then (gd (ok S28 a0 7) <| cl (f_X7_byDanger N S28 a0) fun r33 S33 => some (r33, S33)) else (gd (ok S28 a0 7) <| cl (f_X7_forced N S28 a0) fun r31 S31 => some (r31, S31))
def f_X7_replyBy (N : Nat) (S : Hp) (a0 : Nat) (x1 : Int32) : Option (Int32 × Hp) :=
  gd (ok S a0 7) <| cl (f_X7_winnerNow N S a0) fun r11 S11 => if r11 ≤ 0 then (if x1 = 0 then (gd (ok S11 a0 7) <| cl (f_X7_free N S11 a0) fun r24 S24 => gd (ok S24 a0 7) <| cl (f_X7_lowest N S24 a0 r24) fun r26 S26 => some (r26, S26)) else (if x1 = (3 : Int32) then (gd (ok S11 a0 7) <| cl (f_X7_bestMove N S11 a0) fun r22 S22 => some (r22, S22)) else (if x1 = (2 : Int32) then (gd (ok S11 a0 7) <| nn (hR S11 a0 0) fun r17 => gd (ok S11 r17 8) <| gd (inb (6 : Int32) (hN S11 r17)) <| if (hI S11 r17 (6 : Int32).toNatClampNeg) = (-1 : Int32) then (f_X7_replyBy_b56 N a0 x1 S11) else (some ((hI S11 r17 (6 : Int32).toNatClampNeg), S11))) else (f_X7_replyBy_b56 N a0 x1 S11)))) else (some ((-1 : Int32), S11))
def f_X7_empties (N : Nat) (S : Hp) (a0 : Nat) (x1 : Int32) : Option (Unit × Hp) :=
  gd (ok S a0 7) <| nn (hR S a0 0) fun r11 => gd (ok S r11 8) <| gd (inb (1 : Int32) (hN S r11)) <| gd (inb (3 : Int32) (hN ((sI S r11 (1 : Int32).toNatClampNeg x1)) r11)) <| bd (sI (sI S r11 (1 : Int32).toNatClampNeg x1) r11 (3 : Int32).toNatClampNeg (0 : Int32)) fun S15 => gd (inb (4 : Int32) (hN S15 r11)) <| bd (sI S15 r11 (4 : Int32).toNatClampNeg (0 : Int32)) fun S22 => gd (inb (5 : Int32) (hN S22 r11)) <| bd (sI S22 r11 (5 : Int32).toNatClampNeg (-1 : Int32)) fun S30 => gd (inb (6 : Int32) (hN S30 r11)) <| bd (sI S30 r11 (6 : Int32).toNatClampNeg (-1 : Int32)) fun S39 => some ((), S39)
def f_X7_begin_b16 (N : Nat) (a0 : Nat) (x1 : Int32) (S : Hp) (s0 : Int32) (s1 : Nat) : Option (Int32 × Hp) :=
  gd (ok S s1 7) <| gd (ok ((sI S s1 7 s0)) a0 7) <| if (hI ((sI S s1 7 s0)) a0 7) ≤ 0 then (cl (f_X7_save N ((sI S s1 7 s0)) a0) fun _ S15 => gd (ok S15 a0 7) <| nn (hR S15 a0 0) fun r17 => gd (ok S15 r17 8) <| gd (inb (0 : Int32) (hN S15 r17)) <| bd (hI S15 r17 (0 : Int32).toNatClampNeg) fun e20 => gd (inb (2 : Int32) (hN ((sI S15 r17 (0 : Int32).toNatClampNeg x1)) r17)) <| bd (sI (sI S15 r17 (0 : Int32).toNatClampNeg x1) r17 (2 : Int32).toNatClampNeg (0 : Int32)) fun S22 => cl (f_X7_empties N S22 a0 ((1 : Int32))) fun _ S28 => some (e20, S28)) else (some ((0 : Int32), (sI S s1 7 s0)))
def f_X7_begin (N : Nat) (S : Hp) (a0 : Nat) (x1 : Int32) : Option (Int32 × Hp) :=
  cl (f_X7_within N S x1 ((2 : Int32)) ((10 : Int32))) fun r10 S10 => if r10 = 0 then (f_X7_begin_b16 N a0 x1 S10 ((1 : Int32)) a0) else (f_X7_begin_b16 N a0 x1 S10 ((0 : Int32)) a0)
def f_X7_addLine_b39 (N : Nat) (a0 : Nat) (x1 : Int32) (S : Hp) (s0 : Int32) (s1 : Nat) : Option (Int32 × Hp) :=
  gd (ok S s1 7) <| gd (ok ((sI S s1 7 s0)) a0 7) <| if (hI ((sI S s1 7 s0)) a0 7) ≤ 0 then (cl (f_X7_save N ((sI S s1 7 s0)) a0) fun _ S24 => gd (ok S24 a0 7) <| nn (hR S24 a0 0) fun r26 => gd (ok S24 r26 8) <| gd (inb (2 : Int32) (hN S24 r26)) <| gd (inb ((10 : Int32) + (hI S24 r26 (2 : Int32).toNatClampNeg)) (hN S24 r26)) <| bd (sI S24 r26 ((10 : Int32) + (hI S24 r26 (2 : Int32).toNatClampNeg)).toNatClampNeg x1) fun S30 => bd (sI S30 r26 (2 : Int32).toNatClampNeg ((hI S30 r26 (2 : Int32).toNatClampNeg) + (1 : Int32))) fun S36 => some (((hI S36 r26 (2 : Int32).toNatClampNeg) - (1 : Int32)), S36)) else (some ((0 : Int32), (sI S s1 7 s0)))
def f_X7_addLine (N : Nat) (S : Hp) (a0 : Nat) (x1 : Int32) : Option (Int32 × Hp) :=
  gd (ok S a0 7) <| nn (hR S a0 0) fun r11 => gd (ok S r11 8) <| gd (inb (0 : Int32) (hN S r11)) <| cl (f_X7_within N S x1 ((1 : Int32)) ((((1 : Int32) <<< ((hI S r11 (0 : Int32).toNatClampNeg) &&& 31)) - (1 : Int32)))) fun r14 S14 => if r14 = 0 then (f_X7_addLine_b39 N a0 x1 S14 ((1 : Int32)) a0) else (gd (ok S14 a0 7) <| nn (hR S14 a0 0) fun r17 => gd (ok S14 r17 8) <| gd (inb (2 : Int32) (hN S14 r17)) <| if (hI S14 r17 (2 : Int32).toNatClampNeg) = (12 : Int32) then (f_X7_addLine_b39 N a0 x1 S14 ((2 : Int32)) a0) else (f_X7_addLine_b39 N a0 x1 S14 ((0 : Int32)) a0))
def f_X7_removeLine_b52 (N : Nat) (a0 : Nat) (x1 : Int32) (K52 : Hp → Int32 → Int32 → Option (Int32 × Hp)) (S : Hp) (v2 : Int32) (v3 : Int32) : Option (Int32 × Hp) :=
  gd (ok S a0 7) <| nn (hR S a0 0) fun r30 => gd (ok S r30 8) <| gd (inb (2 : Int32) (hN S r30)) <| if (hI S r30 (2 : Int32).toNatClampNeg) ≤ v3 then (some (v2, S)) else (gd (inb (((10 : Int32) + v3) + (1 : Int32)) (hN S r30)) <| gd (inb ((10 : Int32) + v3) (hN S r30)) <| bd (sI S r30 ((10 : Int32) + v3).toNatClampNeg (hI S r30 (((10 : Int32) + v3) + (1 : Int32)).toNatClampNeg)) fun S36 => K52 S36 v2 ((v3 + (1 : Int32))))
def f_X7_removeLine_l52 (N : Nat) (a0 : Nat) (x1 : Int32) : Nat → Hp → Int32 → Int32 → Option (Int32 × Hp)
  | 0, _, _, _ => none
  | k + 1, S, v2, v3 => f_X7_removeLine_b52 N a0 x1 (f_X7_removeLine_l52 N a0 x1 k) S v2 v3
def f_X7_removeLine_b14 (N : Nat) (a0 : Nat) (x1 : Int32) (S : Hp) (s0 : Int32) (s1 : Nat) : Option (Int32 × Hp) :=
  gd (ok S s1 7) <| gd (ok ((sI S s1 7 s0)) a0 7) <| if (hI ((sI S s1 7 s0)) a0 7) ≤ 0 then (cl (f_X7_save N ((sI S s1 7 s0)) a0) fun _ S16 => gd (ok S16 a0 7) <| nn (hR S16 a0 0) fun r18 => gd (ok S16 r18 8) <| gd (inb ((10 : Int32) + x1) (hN S16 r18)) <| bd (hI S16 r18 ((10 : Int32) + x1).toNatClampNeg) fun e21 => gd (inb (2 : Int32) (hN S16 r18)) <| bd (sI S16 r18 (2 : Int32).toNatClampNeg ((hI S16 r18 (2 : Int32).toNatClampNeg) - (1 : Int32))) fun S23 => f_X7_removeLine_l52 N a0 x1 N S23 e21 x1) else (some ((0 : Int32), (sI S s1 7 s0)))
def f_X7_removeLine (N : Nat) (S : Hp) (a0 : Nat) (x1 : Int32) : Option (Int32 × Hp) :=
  gd (ok S a0 7) <| cl (f_X7_isLine N S a0 x1) fun r11 S11 => if r11 = 0 then (f_X7_removeLine_b14 N a0 x1 S11 ((1 : Int32)) a0) else (f_X7_removeLine_b14 N a0 x1 S11 ((0 : Int32)) a0)
def f_X7_clear_b32 (N : Nat) (a0 : Nat) (x1 : Int32) (S : Hp) (v2 : Int32) (s0 : Int32) (s1 : Nat) : Option (Int32 × Hp) :=
  gd (ok S s1 7) <| cl (f_X7_empties N S s1 s0) fun _ S19 => some (v2, S19)
def f_X7_clear (N : Nat) (S : Hp) (a0 : Nat) (x1 : Int32) : Option (Int32 × Hp) :=
  gd (ok S a0 7) <| cl (f_X7_save N ((sI S a0 7 (0 : Int32))) a0) fun _ S11 => gd (ok S11 a0 7) <| cl (f_X7_maker N S11 a0) fun r13 S13 => gd (ok S13 a0 7) <| cl (f_X7_breaker N S13 a0) fun r15 S15 => cl (f_X7_ones N S15 ((r13 ||| r15))) fun r16 S16 => if x1 = 0 then (f_X7_clear_b32 N a0 x1 S16 r16 ((2 : Int32)) a0) else (f_X7_clear_b32 N a0 x1 S16 r16 ((1 : Int32)) a0)
def f_X7_moves (N : Nat) (S : Hp) (a0 : Nat) (x1 : Int32) : Option (Unit × Hp) :=
  gd (ok S a0 7) <| nn (hR S a0 0) fun r11 => cl (f_X7_partnerOf N S a0 x1) fun r12 S12 => gd (ok S12 r11 8) <| gd (inb (6 : Int32) (hN S12 r11)) <| gd (ok ((sI S12 r11 (6 : Int32).toNatClampNeg r12)) a0 7) <| nn (hR ((sI S12 r11 (6 : Int32).toNatClampNeg r12)) a0 0) fun r16 => gd (ok ((sI S12 r11 (6 : Int32).toNatClampNeg r12)) r16 8) <| gd (inb (1 : Int32) (hN ((sI S12 r11 (6 : Int32).toNatClampNeg r12)) r16)) <| gd (inb ((2 : Int32) + (hI ((sI S12 r11 (6 : Int32).toNatClampNeg r12)) r16 (1 : Int32).toNatClampNeg)) (hN ((sI S12 r11 (6 : Int32).toNatClampNeg r12)) r16)) <| bd (sI (sI S12 r11 (6 : Int32).toNatClampNeg r12) r16 ((2 : Int32) + (hI ((sI S12 r11 (6 : Int32).toNatClampNeg r12)) r16 (1 : Int32).toNatClampNeg)).toNatClampNeg ((hI ((sI S12 r11 (6 : Int32).toNatClampNeg r12)) r16 ((2 : Int32) + (hI ((sI S12 r11 (6 : Int32).toNatClampNeg r12)) r16 (1 : Int32).toNatClampNeg)).toNatClampNeg) ||| ((1 : Int32) <<< (x1 &&& 31)))) fun S20 => gd (inb (5 : Int32) (hN S20 r16)) <| bd (sI (sI S20 r16 (5 : Int32).toNatClampNeg x1) r16 (1 : Int32).toNatClampNeg ((3 : Int32) - (hI ((sI S20 r16 (5 : Int32).toNatClampNeg x1)) r16 (1 : Int32).toNatClampNeg))) fun S29 => gd (inb (7 : Int32) (hN S29 r16)) <| bd (sI S29 r16 (7 : Int32).toNatClampNeg ((hI S29 r16 (7 : Int32).toNatClampNeg) + (1 : Int32))) fun S39 => cl (f_X7_winnerNow N S39 a0) fun r49 S49 => if r49 ≤ 0 then (some ((), S49)) else (gd (ok S49 a0 7) <| nn (hR S49 a0 0) fun r52 => gd (ok S49 r52 8) <| gd (inb ((7 : Int32) + r49) (hN S49 r52)) <| bd (sI S49 r52 ((7 : Int32) + r49).toNatClampNeg ((hI S49 r52 ((7 : Int32) + r49).toNatClampNeg) + (1 : Int32))) fun S55 => some ((), S55))
def f_X7_move_b36 (N : Nat) (a0 : Nat) (x1 : Int32) (S : Hp) (s0 : Int32) (s1 : Nat) : Option (Int32 × Hp) :=
  gd (ok S s1 7) <| gd (ok ((sI S s1 7 s0)) a0 7) <| if (hI ((sI S s1 7 s0)) a0 7) ≤ 0 then (cl (f_X7_save N ((sI S s1 7 s0)) a0) fun _ S23 => gd (ok S23 a0 7) <| cl (f_X7_moves N S23 a0 x1) fun _ S25 => gd (ok S25 a0 7) <| cl (f_X7_winnerNow N S25 a0) fun r27 S27 => some (r27, S27)) else (some ((0 : Int32), (sI S s1 7 s0)))
def f_X7_move_b35 (N : Nat) (a0 : Nat) (x1 : Int32) (S : Hp) (s0 : Nat) : Option (Int32 × Hp) :=
  f_X7_move_b36 N a0 x1 S ((2 : Int32)) s0
def f_X7_move (N : Nat) (S : Hp) (a0 : Nat) (x1 : Int32) : Option (Int32 × Hp) :=
  gd (ok S a0 7) <| cl (f_X7_isCell N S a0 x1) fun r11 S11 => if r11 = 0 then (f_X7_move_b36 N a0 x1 S11 ((1 : Int32)) a0) else (gd (ok S11 a0 7) <| cl (f_X7_winnerNow N S11 a0) fun r14 S14 => if r14 = 0 then (gd (ok S14 a0 7) <| cl (f_X7_free N S14 a0) fun r17 S17 => cl (f_X7_has N S17 r17 x1) fun r18 S18 => if r18 = 0 then (f_X7_move_b35 N a0 x1 S18 a0) else (f_X7_move_b36 N a0 x1 S18 ((0 : Int32)) a0)) else (f_X7_move_b35 N a0 x1 S14 a0))
def f_X7_skip_b13 (N : Nat) (a0 : Nat) (S : Hp) (s0 : Int32) (s1 : Nat) : Option (Int32 × Hp) :=
  gd (ok S s1 7) <| gd (ok ((sI S s1 7 s0)) a0 7) <| if (hI ((sI S s1 7 s0)) a0 7) ≤ 0 then (cl (f_X7_save N ((sI S s1 7 s0)) a0) fun _ S16 => gd (ok S16 a0 7) <| nn (hR S16 a0 0) fun r18 => gd (ok S16 r18 8) <| gd (inb (1 : Int32) (hN S16 r18)) <| bd (sI S16 r18 (1 : Int32).toNatClampNeg ((3 : Int32) - (hI S16 r18 (1 : Int32).toNatClampNeg))) fun S21 => gd (inb (5 : Int32) (hN S21 r18)) <| bd (sI S21 r18 (5 : Int32).toNatClampNeg (-1 : Int32)) fun S27 => gd (inb (6 : Int32) (hN S27 r18)) <| bd (sI S27 r18 (6 : Int32).toNatClampNeg (-1 : Int32)) fun S34 => some ((hI S34 r18 (1 : Int32).toNatClampNeg), S34)) else (some ((0 : Int32), (sI S s1 7 s0)))
def f_X7_skip (N : Nat) (S : Hp) (a0 : Nat) : Option (Int32 × Hp) :=
  gd (ok S a0 7) <| cl (f_X7_winnerNow N S a0) fun r11 S11 => if r11 = 0 then (f_X7_skip_b13 N a0 S11 ((0 : Int32)) a0) else (f_X7_skip_b13 N a0 S11 ((1 : Int32)) a0)
def f_X7_isRule (N : Nat) (S : Hp) (x0 : Int32) : Option (Int32 × Hp) :=
  cl (f_X7_within N S x0 ((0 : Int32)) ((3 : Int32))) fun r10 S10 => gd (isB r10) <| some (r10, S10)
def f_X7_plays_b33 (N : Nat) (a0 : Nat) (x1 : Int32) (x2 : Int32) (x3 : Int32) (K3 : Hp → Int32 → Option (Int32 × Hp)) (S : Hp) (v4 : Int32) (s0 : Int32) (s1 : Nat) (s2 : Nat) : Option (Int32 × Hp) :=
  gd (ok S s1 7) <| cl (f_X7_replyBy N S s1 s0) fun r20 S20 => gd (ok S20 s2 7) <| cl (f_X7_moves N S20 s2 r20) fun _ S22 => K3 S22 ((v4 + (1 : Int32)))
def f_X7_plays_b3 (N : Nat) (a0 : Nat) (x1 : Int32) (x2 : Int32) (x3 : Int32) (K3 : Hp → Int32 → Option (Int32 × Hp)) (S : Hp) (v4 : Int32) : Option (Int32 × Hp) :=
  if x3 ≤ v4 then (some (v4, S)) else (gd (ok S a0 7) <| cl (f_X7_winnerNow N S a0) fun r12 S12 => if r12 = 0 then (gd (ok S12 a0 7) <| nn (hR S12 a0 0) fun r15 => gd (ok S12 r15 8) <| gd (inb (1 : Int32) (hN S12 r15)) <| if (hI S12 r15 (1 : Int32).toNatClampNeg) = (1 : Int32) then (f_X7_plays_b33 N a0 x1 x2 x3 K3 S12 v4 x1 a0 a0) else (f_X7_plays_b33 N a0 x1 x2 x3 K3 S12 v4 x2 a0 a0)) else (some (v4, S12)))
def f_X7_plays_l3 (N : Nat) (a0 : Nat) (x1 : Int32) (x2 : Int32) (x3 : Int32) : Nat → Hp → Int32 → Option (Int32 × Hp)
  | 0, _, _ => none
  | k + 1, S, v4 => f_X7_plays_b3 N a0 x1 x2 x3 (f_X7_plays_l3 N a0 x1 x2 x3 k) S v4
def f_X7_plays (N : Nat) (S : Hp) (a0 : Nat) (x1 : Int32) (x2 : Int32) (x3 : Int32) : Option (Int32 × Hp) :=
  f_X7_plays_l3 N a0 x1 x2 x3 N S ((0 : Int32))
def f_X7_play_b41 (N : Nat) (a0 : Nat) (x1 : Int32) (x2 : Int32) (x3 : Int32) (S : Hp) (s0 : Int32) (s1 : Nat) : Option (Int32 × Hp) :=
  gd (ok S s1 7) <| gd (ok ((sI S s1 7 s0)) a0 7) <| if (hI ((sI S s1 7 s0)) a0 7) ≤ 0 then (cl (f_X7_save N ((sI S s1 7 s0)) a0) fun _ S22 => gd (ok S22 a0 7) <| cl (f_X7_plays N S22 a0 x1 x2 x3) fun r24 S24 => some (r24, S24)) else (some ((0 : Int32), (sI S s1 7 s0)))
def f_X7_play_b25 (N : Nat) (a0 : Nat) (x1 : Int32) (x2 : Int32) (x3 : Int32) (S : Hp) (s0 : Nat) : Option (Int32 × Hp) :=
  f_X7_play_b41 N a0 x1 x2 x3 S ((1 : Int32)) s0
def f_X7_play (N : Nat) (S : Hp) (a0 : Nat) (x1 : Int32) (x2 : Int32) (x3 : Int32) : Option (Int32 × Hp) :=
  cl (f_X7_isRule N S x1) fun r10 S10 => if r10 = 0 then (f_X7_play_b25 N a0 x1 x2 x3 S10 a0) else (cl (f_X7_isRule N S10 x2) fun r12 S12 => if r12 = 0 then (f_X7_play_b25 N a0 x1 x2 x3 S12 a0) else (cl (f_X7_within N S12 x3 ((1 : Int32)) ((10 : Int32))) fun r14 S14 => if r14 = 0 then (f_X7_play_b25 N a0 x1 x2 x3 S14 a0) else (gd (ok S14 a0 7) <| cl (f_X7_winnerNow N S14 a0) fun r17 S17 => if r17 = 0 then (f_X7_play_b41 N a0 x1 x2 x3 S17 ((0 : Int32)) a0) else (f_X7_play_b41 N a0 x1 x2 x3 S17 ((2 : Int32)) a0))))
def f_X7_append_b30 (N : Nat) (a0 : Nat) (x1 : Int32) (S : Hp) (s0 : Int32) (s1 : Nat) : Option (Int32 × Hp) :=
  gd (ok S s1 7) <| gd (ok ((sI S s1 7 s0)) a0 7) <| if (hI ((sI S s1 7 s0)) a0 7) ≤ 0 then (nn (hR ((sI S s1 7 s0)) a0 6) fun r17 => gd (ok ((sI S s1 7 s0)) r17 8) <| gd (inb (hI ((sI S s1 7 s0)) a0 5) (hN ((sI S s1 7 s0)) r17)) <| bd (sI (sI S s1 7 s0) r17 (hI ((sI S s1 7 s0)) a0 5).toNatClampNeg x1) fun S20 => some ((hI ((sI S20 a0 5 ((hI S20 a0 5) + (1 : Int32)))) a0 5), (sI S20 a0 5 ((hI S20 a0 5) + (1 : Int32))))) else (some ((0 : Int32), (sI S s1 7 s0)))
def f_X7_append (N : Nat) (S : Hp) (a0 : Nat) (x1 : Int32) : Option (Int32 × Hp) :=
  cl (f_X7_within N S x1 ((33 : Int32)) ((126 : Int32))) fun r10 S10 => if r10 = 0 then (f_X7_append_b30 N a0 x1 S10 ((1 : Int32)) a0) else (gd (ok S10 a0 7) <| if (hI S10 a0 5) = (60 : Int32) then (f_X7_append_b30 N a0 x1 S10 ((2 : Int32)) a0) else (f_X7_append_b30 N a0 x1 S10 ((0 : Int32)) a0))
def f_X7_clearBuffer (N : Nat) (S : Hp) (a0 : Nat) : Option (Int32 × Hp) :=
  gd (ok S a0 7) <| bd (hI ((sI S a0 7 (0 : Int32))) a0 5) fun e11 => some (e11, (sI (sI S a0 7 (0 : Int32)) a0 5 (0 : Int32)))
def f_X7_takes_b99 (N : Nat) (a0 : Nat) (x1 : Int32) (S : Hp) (v2 : Int32) (s0 : Int32) (s1 : Int32) (s2 : Int32) (s3 : Nat) : Option (Int32 × Hp) :=
  gd (ok S s3 8) <| gd (inb s2 (hN S s3)) <| gd (isB v2) <| some (v2, (sI S s3 s2.toNatClampNeg (s1 ||| s0)))
def f_X7_takes_b74 (N : Nat) (a0 : Nat) (x1 : Int32) (S : Hp) (s0 : Int32) : Option (Int32 × Hp) :=
  gd (ok S a0 7) <| nn (hR S a0 16) fun r32 => gd (ok S r32 8) <| gd (inb (hI S a0 17) (hN S r32)) <| if s0 = 0 then (f_X7_takes_b99 N a0 x1 S s0 ((0 : Int32)) ((hI S r32 (hI S a0 17).toNatClampNeg)) ((hI S a0 17)) r32) else (f_X7_takes_b99 N a0 x1 S s0 (((1 : Int32) <<< ((x1 - (48 : Int32)) &&& 31))) ((hI S r32 (hI S a0 17).toNatClampNeg)) ((hI S a0 17)) r32)
def f_X7_takes_b73 (N : Nat) (a0 : Nat) (x1 : Int32) (S : Hp) : Option (Int32 × Hp) :=
  f_X7_takes_b74 N a0 x1 S ((0 : Int32))
def f_X7_takes_b40 (N : Nat) (a0 : Nat) (x1 : Int32) (S : Hp) : Option (Int32 × Hp) :=
  gd (ok S a0 7) <| cl (f_X7_isCell N S a0 ((x1 - (48 : Int32)))) fun r24 S24 => if r24 = 0 then (f_X7_takes_b73 N a0 x1 S24) else (gd (ok S24 a0 7) <| nn (hR S24 a0 16) fun r27 => gd (ok S24 r27 8) <| gd (inb (hI S24 a0 17) (hN S24 r27)) <| if ((1 : Int32) <<< ((x1 - (48 : Int32)) &&& 31)) ≤ (hI S24 r27 (hI S24 a0 17).toNatClampNeg) then (f_X7_takes_b73 N a0 x1 S24) else (f_X7_takes_b74 N a0 x1 S24 ((1 : Int32))))
def f_X7_takes (N : Nat) (S : Hp) (a0 : Nat) (x1 : Int32) : Option (Int32 × Hp) :=
  if x1 = (59 : Int32) then (gd (ok S a0 7) <| nn (hR S a0 16) fun r12 => gd (ok S r12 8) <| gd (inb (hI S a0 17) (hN S r12)) <| if (hI S r12 (hI S a0 17).toNatClampNeg) ≤ 0 then (f_X7_takes_b40 N a0 x1 S) else (gd (inb (hI ((sI S a0 17 ((hI S a0 17) + (1 : Int32)))) a0 17) (hN ((sI S a0 17 ((hI S a0 17) + (1 : Int32)))) r12)) <| bd (sI (sI S a0 17 ((hI S a0 17) + (1 : Int32))) r12 (hI ((sI S a0 17 ((hI S a0 17) + (1 : Int32)))) a0 17).toNatClampNeg (0 : Int32)) fun S17 => some ((1 : Int32), S17))) else (f_X7_takes_b40 N a0 x1 S)
def f_X7_rightUpTo_b14 (N : Nat) (a0 : Nat) (K14 : Hp → Int32 → Option (Int32 × Hp)) (S : Hp) (v1 : Int32) : Option (Int32 × Hp) :=
  gd (ok S a0 7) <| if (hI S a0 5) ≤ v1 then (some (v1, S)) else (nn (hR S a0 6) fun r21 => gd (ok S r21 8) <| gd (inb v1 (hN S r21)) <| cl (f_X7_takes N S a0 ((hI S r21 v1.toNatClampNeg))) fun r24 S24 => if r24 = 0 then (some (v1, S24)) else (K14 S24 ((v1 + (1 : Int32)))))
def f_X7_rightUpTo_l14 (N : Nat) (a0 : Nat) : Nat → Hp → Int32 → Option (Int32 × Hp)
  | 0, _, _ => none
  | k + 1, S, v1 => f_X7_rightUpTo_b14 N a0 (f_X7_rightUpTo_l14 N a0 k) S v1
def f_X7_rightUpTo (N : Nat) (S : Hp) (a0 : Nat) : Option (Int32 × Hp) :=
  gd (ok S a0 7) <| nn (hR ((sI S a0 17 (0 : Int32))) a0 16) fun r11 => gd (ok ((sI S a0 17 (0 : Int32))) r11 8) <| gd (inb (0 : Int32) (hN ((sI S a0 17 (0 : Int32))) r11)) <| bd (sI (sI S a0 17 (0 : Int32)) r11 (0 : Int32).toNatClampNeg (0 : Int32)) fun S14 => f_X7_rightUpTo_l14 N a0 N S14 ((0 : Int32))
def f_X7_firstError (N : Nat) (S : Hp) (a0 : Nat) : Option (Int32 × Hp) :=
  gd (ok S a0 7) <| cl (f_X7_rightUpTo N ((sI S a0 7 (0 : Int32))) a0) fun r11 S11 => some (r11, S11)
def f_X7_read_b84 (N : Nat) (a0 : Nat) (K84 : Hp → Int32 → Option (Int32 × Hp)) (S : Hp) (v2 : Int32) : Option (Int32 × Hp) :=
  gd (ok S a0 7) <| if (hI S a0 17) < v2 then (nn (hR S a0 0) fun r31 => gd (ok S r31 8) <| gd (inb (2 : Int32) (hN S r31)) <| some ((hI S r31 (2 : Int32).toNatClampNeg), S)) else (nn (hR S a0 0) fun r34 => gd (ok S r34 8) <| gd (inb (2 : Int32) (hN S r34)) <| nn (hR S a0 16) fun r37 => gd (ok S r37 8) <| gd (inb v2 (hN S r37)) <| gd (inb ((10 : Int32) + (hI S r34 (2 : Int32).toNatClampNeg)) (hN S r34)) <| bd (sI S r34 ((10 : Int32) + (hI S r34 (2 : Int32).toNatClampNeg)).toNatClampNeg (hI S r37 v2.toNatClampNeg)) fun S41 => bd (sI S41 r34 (2 : Int32).toNatClampNeg ((hI S41 r34 (2 : Int32).toNatClampNeg) + (1 : Int32))) fun S50 => K84 S50 ((v2 + (1 : Int32))))
def f_X7_read_l84 (N : Nat) (a0 : Nat) : Nat → Hp → Int32 → Option (Int32 × Hp)
  | 0, _, _ => none
  | k + 1, S, v2 => f_X7_read_b84 N a0 (f_X7_read_l84 N a0 k) S v2
def f_X7_read_b61 (N : Nat) (a0 : Nat) (S : Hp) (s0 : Int32) (s1 : Nat) : Option (Int32 × Hp) :=
  gd (ok S s1 7) <| gd (ok ((sI S s1 7 s0)) a0 7) <| if (hI ((sI S s1 7 s0)) a0 7) ≤ 0 then (cl (f_X7_save N ((sI S s1 7 s0)) a0) fun _ S27 => gd (ok S27 a0 7) <| f_X7_read_l84 N a0 N ((sI S27 a0 5 (0 : Int32))) ((0 : Int32))) else (some ((0 : Int32), (sI S s1 7 s0)))
def f_X7_read_b28 (N : Nat) (a0 : Nat) (S : Hp) (s0 : Int32) : Option (Int32 × Hp) :=
  if s0 = 0 then (f_X7_read_b61 N a0 S ((1 : Int32)) a0) else (gd (ok S a0 7) <| nn (hR S a0 0) fun r20 => gd (ok S r20 8) <| gd (inb (2 : Int32) (hN S r20)) <| if (((hI S r20 (2 : Int32).toNatClampNeg) + (hI S a0 17)) + (1 : Int32)) ≤ (12 : Int32) then (f_X7_read_b61 N a0 S ((0 : Int32)) a0) else (f_X7_read_b61 N a0 S ((2 : Int32)) a0))
def f_X7_read_b27 (N : Nat) (a0 : Nat) (S : Hp) : Option (Int32 × Hp) :=
  f_X7_read_b28 N a0 S ((0 : Int32))
def f_X7_read (N : Nat) (S : Hp) (a0 : Nat) : Option (Int32 × Hp) :=
  gd (ok S a0 7) <| cl (f_X7_rightUpTo N S a0) fun r11 S11 => gd (ok S11 a0 7) <| if r11 = (hI S11 a0 5) then (nn (hR S11 a0 16) fun r14 => gd (ok S11 r14 8) <| gd (inb (hI S11 a0 17) (hN S11 r14)) <| if (hI S11 r14 (hI S11 a0 17).toNatClampNeg) ≤ 0 then (f_X7_read_b27 N a0 S11) else (f_X7_read_b28 N a0 S11 ((1 : Int32)))) else (f_X7_read_b27 N a0 S11)
def f_X7_isSnapshot (N : Nat) (S : Hp) (x0 : Int32) : Option (Int32 × Hp) :=
  cl (f_X7_within N S x0 ((0 : Int32)) ((1 : Int32))) fun r10 S10 => gd (isB r10) <| some (r10, S10)
def f_X7_isKept (N : Nat) (S : Hp) (x0 : Int32) : Option (Int32 × Hp) :=
  if x0 < (7 : Int32) then (some ((1 : Int32), S)) else (if x0 < (10 : Int32) then (some ((0 : Int32), S)) else (some ((1 : Int32), S)))
def f_X7_take_b34 (N : Nat) (a0 : Nat) (x1 : Int32) (K34 : Hp → Int32 → Option (Int32 × Hp)) (S : Hp) (v2 : Int32) : Option (Int32 × Hp) :=
  if (22 : Int32) ≤ v2 then (gd (ok S a0 7) <| nn (hR S a0 0) fun r26 => gd (ok S r26 8) <| gd (inb (2 : Int32) (hN S r26)) <| some ((hI S r26 (2 : Int32).toNatClampNeg), S)) else (gd (ok S a0 7) <| nn (hR S a0 3) fun r30 => nn (hR S a0 0) fun r31 => gd (ok S r31 8) <| gd (inb v2 (hN S r31)) <| gd (ok S r30 8) <| gd (inb (((22 : Int32) * x1) + v2) (hN S r30)) <| bd (sI S r30 (((22 : Int32) * x1) + v2).toNatClampNeg (hI S r31 v2.toNatClampNeg)) fun S36 => K34 S36 ((v2 + (1 : Int32))))
def f_X7_take_l34 (N : Nat) (a0 : Nat) (x1 : Int32) : Nat → Hp → Int32 → Option (Int32 × Hp)
  | 0, _, _ => none
  | k + 1, S, v2 => f_X7_take_b34 N a0 x1 (f_X7_take_l34 N a0 x1 k) S v2
def f_X7_take_b13 (N : Nat) (a0 : Nat) (x1 : Int32) (S : Hp) (s0 : Int32) (s1 : Nat) : Option (Int32 × Hp) :=
  gd (ok S s1 7) <| gd (ok ((sI S s1 7 s0)) a0 7) <| if (hI ((sI S s1 7 s0)) a0 7) ≤ 0 then (nn (hR ((sI S s1 7 s0)) a0 4) fun r15 => gd (ok ((sI S s1 7 s0)) r15 8) <| gd (inb x1 (hN ((sI S s1 7 s0)) r15)) <| bd (sI (sI S s1 7 s0) r15 x1.toNatClampNeg (1 : Int32)) fun S18 => f_X7_take_l34 N a0 x1 N S18 ((0 : Int32))) else (some ((0 : Int32), (sI S s1 7 s0)))
def f_X7_take (N : Nat) (S : Hp) (a0 : Nat) (x1 : Int32) : Option (Int32 × Hp) :=
  cl (f_X7_isSnapshot N S x1) fun r10 S10 => if r10 = 0 then (f_X7_take_b13 N a0 x1 S10 ((1 : Int32)) a0) else (f_X7_take_b13 N a0 x1 S10 ((0 : Int32)) a0)
def f_X7_restore_b95 (N : Nat) (a0 : Nat) (x1 : Int32) (K57 : Hp → Int32 → Option (Int32 × Hp)) (S : Hp) (v2 : Int32) (s0 : Int32) (s1 : Int32) (s2 : Nat) : Option (Int32 × Hp) :=
  gd (ok S s2 8) <| gd (inb s1 (hN S s2)) <| K57 ((sI S s2 s1.toNatClampNeg s0)) ((v2 + (1 : Int32)))
def f_X7_restore_b57 (N : Nat) (a0 : Nat) (x1 : Int32) (K57 : Hp → Int32 → Option (Int32 × Hp)) (S : Hp) (v2 : Int32) : Option (Int32 × Hp) :=
  if (22 : Int32) ≤ v2 then (gd (ok S a0 7) <| nn (hR S a0 0) fun r25 => gd (ok S r25 8) <| gd (inb (2 : Int32) (hN S r25)) <| some ((hI S r25 (2 : Int32).toNatClampNeg), S)) else (gd (ok S a0 7) <| nn (hR S a0 0) fun r29 => cl (f_X7_isKept N S v2) fun r30 S30 => if r30 = 0 then (gd (ok S30 a0 7) <| nn (hR S30 a0 0) fun r33 => gd (ok S30 r33 8) <| gd (inb v2 (hN S30 r33)) <| f_X7_restore_b95 N a0 x1 K57 S30 v2 ((hI S30 r33 v2.toNatClampNeg)) v2 r29) else (gd (ok S30 a0 7) <| nn (hR S30 a0 3) fun r37 => gd (ok S30 r37 8) <| gd (inb (((22 : Int32) * x1) + v2) (hN S30 r37)) <| f_X7_restore_b95 N a0 x1 K57 S30 v2 ((hI S30 r37 (((22 : Int32) * x1) + v2).toNatClampNeg)) v2 r29))
def f_X7_restore_l57 (N : Nat) (a0 : Nat) (x1 : Int32) : Nat → Hp → Int32 → Option (Int32 × Hp)
  | 0, _, _ => none
  | k + 1, S, v2 => f_X7_restore_b57 N a0 x1 (f_X7_restore_l57 N a0 x1 k) S v2
def f_X7_restore_b42 (N : Nat) (a0 : Nat) (x1 : Int32) (S : Hp) : Option (Int32 × Hp) :=
  gd (ok S a0 7) <| if (hI S a0 7) ≤ 0 then (cl (f_X7_save N S a0) fun _ S21 => f_X7_restore_l57 N a0 x1 N S21 ((0 : Int32))) else (some ((0 : Int32), S))
def f_X7_restore_b39 (N : Nat) (a0 : Nat) (x1 : Int32) (S : Hp) (s0 : Int32) (s1 : Nat) : Option (Int32 × Hp) :=
  gd (ok S s1 7) <| f_X7_restore_b42 N a0 x1 ((sI S s1 7 s0))
def f_X7_restore_b13 (N : Nat) (a0 : Nat) (x1 : Int32) (S : Hp) (s0 : Int32) (s1 : Nat) : Option (Int32 × Hp) :=
  gd (ok S s1 7) <| gd (ok ((sI S s1 7 s0)) a0 7) <| if (hI ((sI S s1 7 s0)) a0 7) = 0 then (nn (hR ((sI S s1 7 s0)) a0 4) fun r15 => gd (ok ((sI S s1 7 s0)) r15 8) <| gd (inb x1 (hN ((sI S s1 7 s0)) r15)) <| if (hI ((sI S s1 7 s0)) r15 x1.toNatClampNeg) = (1 : Int32) then (f_X7_restore_b39 N a0 x1 ((sI S s1 7 s0)) ((0 : Int32)) a0) else (f_X7_restore_b39 N a0 x1 ((sI S s1 7 s0)) ((2 : Int32)) a0)) else (f_X7_restore_b42 N a0 x1 ((sI S s1 7 s0)))
def f_X7_restore (N : Nat) (S : Hp) (a0 : Nat) (x1 : Int32) : Option (Int32 × Hp) :=
  cl (f_X7_isSnapshot N S x1) fun r10 S10 => if r10 = 0 then (f_X7_restore_b13 N a0 x1 S10 ((1 : Int32)) a0) else (f_X7_restore_b13 N a0 x1 S10 ((0 : Int32)) a0)
def f_X7_undo_b37 (N : Nat) (a0 : Nat) (K37 : Hp → Int32 → Option (Int32 × Hp)) (S : Hp) (v1 : Int32) : Option (Int32 × Hp) :=
  if (22 : Int32) ≤ v1 then (gd (ok S a0 7) <| some ((hI S a0 1), S)) else (gd (ok S a0 7) <| nn (hR S a0 0) fun r21 => nn (hR S a0 2) fun r22 => gd (ok S r22 8) <| gd (inb (((22 : Int32) * (hI S a0 1)) + v1) (hN S r22)) <| gd (ok S r21 8) <| gd (inb v1 (hN S r21)) <| bd (sI S r21 v1.toNatClampNeg (hI S r22 (((22 : Int32) * (hI S a0 1)) + v1).toNatClampNeg)) fun S27 => K37 S27 ((v1 + (1 : Int32))))
def f_X7_undo_l37 (N : Nat) (a0 : Nat) : Nat → Hp → Int32 → Option (Int32 × Hp)
  | 0, _, _ => none
  | k + 1, S, v1 => f_X7_undo_b37 N a0 (f_X7_undo_l37 N a0 k) S v1
def f_X7_undo_b13 (N : Nat) (a0 : Nat) (S : Hp) (s0 : Int32) (s1 : Nat) : Option (Int32 × Hp) :=
  gd (ok S s1 7) <| gd (ok ((sI S s1 7 s0)) a0 7) <| if (hI ((sI S s1 7 s0)) a0 7) ≤ 0 then (bd (sI (sI S s1 7 s0) a0 1 ((hI ((sI S s1 7 s0)) a0 1) - (1 : Int32))) fun S15 => f_X7_undo_l37 N a0 N S15 ((0 : Int32))) else (some ((0 : Int32), (sI S s1 7 s0)))
def f_X7_undo (N : Nat) (S : Hp) (a0 : Nat) : Option (Int32 × Hp) :=
  gd (ok S a0 7) <| if (hI S a0 1) ≤ 0 then (f_X7_undo_b13 N a0 S ((1 : Int32)) a0) else (f_X7_undo_b13 N a0 S ((0 : Int32)) a0)
def f_X7_lineNow (N : Nat) (S : Hp) (a0 : Nat) (x1 : Int32) (x2 : Int32) : Option (Int32 × Hp) :=
  if x2 = 0 then (gd (ok S a0 7) <| nn (hR S a0 0) fun r11 => gd (ok S r11 8) <| gd (inb ((10 : Int32) + x1) (hN S r11)) <| some ((hI S r11 ((10 : Int32) + x1).toNatClampNeg), S)) else (if x2 = 1 then (gd (ok S a0 7) <| cl (f_X7_isDead N S a0 x1) fun r16 S16 => if r16 = 0 then (some ((0 : Int32), S16)) else (some ((1 : Int32), S16))) else (if x2 = 2 then (gd (ok S a0 7) <| cl (f_X7_freeOf N S a0 x1) fun r20 S20 => cl (f_X7_ones N S20 r20) fun r21 S21 => some (r21, S21)) else (if x2 = 3 then (gd (ok S a0 7) <| cl (f_X7_weightOf N S a0 x1) fun r24 S24 => some (r24, S24)) else (gd (ok S a0 7) <| nn (hR S a0 0) fun r27 => gd (ok S r27 8) <| gd (inb ((10 : Int32) + x1) (hN S r27)) <| cl (f_X7_maker N S a0) fun r30 S30 => cl (f_X7_ones N S30 (((hI S r27 ((10 : Int32) + x1).toNatClampNeg) &&& r30))) fun r31 S31 => some (r31, S31)))))
def f_X7_line_b27 (N : Nat) (a0 : Nat) (x1 : Int32) (x2 : Int32) (S : Hp) (s0 : Int32) (s1 : Nat) : Option (Int32 × Hp) :=
  gd (ok S s1 7) <| gd (ok ((sI S s1 7 s0)) a0 7) <| if (hI ((sI S s1 7 s0)) a0 7) ≤ 0 then (cl (f_X7_lineNow N ((sI S s1 7 s0)) a0 x1 x2) fun r18 S18 => some (r18, S18)) else (some ((0 : Int32), (sI S s1 7 s0)))
def f_X7_line (N : Nat) (S : Hp) (a0 : Nat) (x1 : Int32) (x2 : Int32) : Option (Int32 × Hp) :=
  gd (ok S a0 7) <| cl (f_X7_isLine N S a0 x1) fun r11 S11 => if r11 = 0 then (f_X7_line_b27 N a0 x1 x2 S11 ((1 : Int32)) a0) else (cl (f_X7_within N S11 x2 ((0 : Int32)) ((4 : Int32))) fun r13 S13 => if r13 = 0 then (f_X7_line_b27 N a0 x1 x2 S13 ((2 : Int32)) a0) else (f_X7_line_b27 N a0 x1 x2 S13 ((0 : Int32)) a0))
def f_X7_livelyWith_b4 (N : Nat) (a0 : Nat) (x1 : Int32) (K4 : Hp → Int32 → Int32 → Option (Int32 × Hp)) (S : Hp) (v2 : Int32) (v3 : Int32) : Option (Int32 × Hp) :=
  gd (ok S a0 7) <| nn (hR S a0 0) fun r11 => gd (ok S r11 8) <| gd (inb (2 : Int32) (hN S r11)) <| if (hI S r11 (2 : Int32).toNatClampNeg) ≤ v3 then (some (v2, S)) else (cl (f_X7_isDead N S a0 v3) fun r15 S15 => if r15 = 0 then (gd (ok S15 a0 7) <| nn (hR S15 a0 0) fun r18 => gd (ok S15 r18 8) <| gd (inb ((10 : Int32) + v3) (hN S15 r18)) <| cl (f_X7_has N S15 ((hI S15 r18 ((10 : Int32) + v3).toNatClampNeg)) x1) fun r21 S21 => if r21 = 0 then (K4 S21 ((v2 + (0 : Int32))) ((v3 + (1 : Int32)))) else (K4 S21 ((v2 + (1 : Int32))) ((v3 + (1 : Int32))))) else (K4 S15 ((v2 + (0 : Int32))) ((v3 + (1 : Int32)))))
def f_X7_livelyWith_l4 (N : Nat) (a0 : Nat) (x1 : Int32) : Nat → Hp → Int32 → Int32 → Option (Int32 × Hp)
  | 0, _, _, _ => none
  | k + 1, S, v2, v3 => f_X7_livelyWith_b4 N a0 x1 (f_X7_livelyWith_l4 N a0 x1 k) S v2 v3
def f_X7_livelyWith (N : Nat) (S : Hp) (a0 : Nat) (x1 : Int32) : Option (Int32 × Hp) :=
  f_X7_livelyWith_l4 N a0 x1 N S ((0 : Int32)) ((0 : Int32))
def f_X7_cellNow (N : Nat) (S : Hp) (a0 : Nat) (x1 : Int32) (x2 : Int32) : Option (Int32 × Hp) :=
  if x2 = 0 then (gd (ok S a0 7) <| cl (f_X7_maker N S a0) fun r11 S11 => cl (f_X7_has N S11 r11 x1) fun r12 S12 => if r12 = 0 then (gd (ok S12 a0 7) <| cl (f_X7_breaker N S12 a0) fun r15 S15 => cl (f_X7_has N S15 r15 x1) fun r16 S16 => if r16 = 0 then (some ((0 : Int32), S16)) else (some ((2 : Int32), S16))) else (some ((1 : Int32), S12))) else (if x2 = 1 then (gd (ok S a0 7) <| cl (f_X7_danger N S a0 x1) fun r20 S20 => some (r20, S20)) else (if x2 = 2 then (gd (ok S a0 7) <| cl (f_X7_partnerOf N S a0 x1) fun r23 S23 => some (r23, S23)) else (gd (ok S a0 7) <| cl (f_X7_livelyWith N S a0 x1) fun r26 S26 => some (r26, S26))))
def f_X7_cell_b27 (N : Nat) (a0 : Nat) (x1 : Int32) (x2 : Int32) (S : Hp) (s0 : Int32) (s1 : Nat) : Option (Int32 × Hp) :=
  gd (ok S s1 7) <| gd (ok ((sI S s1 7 s0)) a0 7) <| if (hI ((sI S s1 7 s0)) a0 7) ≤ 0 then (cl (f_X7_cellNow N ((sI S s1 7 s0)) a0 x1 x2) fun r18 S18 => some (r18, S18)) else (some ((0 : Int32), (sI S s1 7 s0)))
def f_X7_cell (N : Nat) (S : Hp) (a0 : Nat) (x1 : Int32) (x2 : Int32) : Option (Int32 × Hp) :=
  gd (ok S a0 7) <| cl (f_X7_isCell N S a0 x1) fun r11 S11 => if r11 = 0 then (f_X7_cell_b27 N a0 x1 x2 S11 ((1 : Int32)) a0) else (cl (f_X7_within N S11 x2 ((0 : Int32)) ((3 : Int32))) fun r13 S13 => if r13 = 0 then (f_X7_cell_b27 N a0 x1 x2 S13 ((2 : Int32)) a0) else (f_X7_cell_b27 N a0 x1 x2 S13 ((0 : Int32)) a0))
def f_X7_reply_b13 (N : Nat) (a0 : Nat) (x1 : Int32) (S : Hp) (s0 : Int32) (s1 : Nat) : Option (Int32 × Hp) :=
  gd (ok S s1 7) <| gd (ok ((sI S s1 7 s0)) a0 7) <| if (hI ((sI S s1 7 s0)) a0 7) ≤ 0 then (cl (f_X7_replyBy N ((sI S s1 7 s0)) a0 x1) fun r15 S15 => some (r15, S15)) else (some ((0 : Int32), (sI S s1 7 s0)))
def f_X7_reply (N : Nat) (S : Hp) (a0 : Nat) (x1 : Int32) : Option (Int32 × Hp) :=
  cl (f_X7_isRule N S x1) fun r10 S10 => if r10 = 0 then (f_X7_reply_b13 N a0 x1 S10 ((1 : Int32)) a0) else (f_X7_reply_b13 N a0 x1 S10 ((0 : Int32)) a0)
def f_X7_solvedNow (N : Nat) (S : Hp) (a0 : Nat) (x1 : Int32) : Option (Int32 × Hp) :=
  gd (ok S a0 7) <| cl (f_X7_winnerNow N S a0) fun r11 S11 => if r11 ≤ 0 then (gd (ok S11 a0 7) <| cl (f_X7_solveAll N S11 a0) fun _ S14 => gd (ok S14 a0 7) <| cl (f_X7_maker N S14 a0) fun r16 S16 => gd (ok S16 a0 7) <| cl (f_X7_breaker N S16 a0) fun r18 S18 => gd (ok S18 a0 7) <| nn (hR S18 a0 0) fun r20 => gd (ok S18 r20 8) <| gd (inb (1 : Int32) (hN S18 r20)) <| cl (f_X7_placeOf N S18 a0 r16 r18 ((hI S18 r20 (1 : Int32).toNatClampNeg))) fun r23 S23 => if x1 = 0 then (gd (ok S23 a0 7) <| nn (hR S23 a0 14) fun r30 => gd (ok S23 r30 8) <| gd (inb r23 (hN S23 r30)) <| some ((hI S23 r30 r23.toNatClampNeg), S23)) else (gd (ok S23 a0 7) <| nn (hR S23 a0 15) fun r26 => gd (ok S23 r26 8) <| gd (inb r23 (hN S23 r26)) <| some ((hI S23 r26 r23.toNatClampNeg), S23))) else (if x1 = 0 then (gd (ok S11 a0 7) <| cl (f_X7_winnerNow N S11 a0) fun r35 S35 => some (r35, S35)) else (some ((0 : Int32), S11)))
def f_X7_solved_b15 (N : Nat) (a0 : Nat) (x1 : Int32) (S : Hp) (s0 : Int32) (s1 : Nat) : Option (Int32 × Hp) :=
  gd (ok S s1 7) <| gd (ok ((sI S s1 7 s0)) a0 7) <| if (hI ((sI S s1 7 s0)) a0 7) ≤ 0 then (cl (f_X7_solvedNow N ((sI S s1 7 s0)) a0 x1) fun r15 S15 => some (r15, S15)) else (some ((0 : Int32), (sI S s1 7 s0)))
def f_X7_solved (N : Nat) (S : Hp) (a0 : Nat) (x1 : Int32) : Option (Int32 × Hp) :=
  cl (f_X7_within N S x1 ((0 : Int32)) ((1 : Int32))) fun r10 S10 => if r10 = 0 then (f_X7_solved_b15 N a0 x1 S10 ((1 : Int32)) a0) else (f_X7_solved_b15 N a0 x1 S10 ((0 : Int32)) a0)
def f_X7_movedThen (N : Nat) (S : Hp) (a0 : Nat) (x1 : Int32) : Option (Int32 × Hp) :=
  gd (ok S a0 7) <| cl (f_X7_winnerNow N S a0) fun r11 S11 => if 0 < r11 then (some ((-1 : Int32), S11)) else (gd (ok S11 a0 7) <| cl (f_X7_free N S11 a0) fun r14 S14 => cl (f_X7_has N S14 r14 x1) fun r15 S15 => if r15 = 0 then (some ((-1 : Int32), S15)) else (gd (ok S15 a0 7) <| cl (f_X7_solveAll N S15 a0) fun _ S18 => gd (ok S18 a0 7) <| nn (hR S18 a0 14) fun r20 => cl (f_X7_placeBehind N S18 a0 x1) fun r21 S21 => gd (ok S21 r20 8) <| gd (inb r21 (hN S21 r20)) <| some ((hI S21 r20 r21.toNatClampNeg), S21)))
def f_X7_ifMoved_b14 (N : Nat) (a0 : Nat) (x1 : Int32) (S : Hp) (s0 : Int32) (s1 : Nat) : Option (Int32 × Hp) :=
  gd (ok S s1 7) <| gd (ok ((sI S s1 7 s0)) a0 7) <| if (hI ((sI S s1 7 s0)) a0 7) ≤ 0 then (cl (f_X7_movedThen N ((sI S s1 7 s0)) a0 x1) fun r16 S16 => some (r16, S16)) else (some ((0 : Int32), (sI S s1 7 s0)))
def f_X7_ifMoved (N : Nat) (S : Hp) (a0 : Nat) (x1 : Int32) : Option (Int32 × Hp) :=
  gd (ok S a0 7) <| cl (f_X7_isCell N S a0 x1) fun r11 S11 => if r11 = 0 then (f_X7_ifMoved_b14 N a0 x1 S11 ((1 : Int32)) a0) else (f_X7_ifMoved_b14 N a0 x1 S11 ((0 : Int32)) a0)
def f_X7_playedThen_b44 (N : Nat) (a0 : Nat) (x1 : Int32) (x2 : Int32) (K44 : Hp → Int32 → Int32 → Option (Int32 × Hp)) (S : Hp) (v4 : Int32) (v5 : Int32) : Option (Int32 × Hp) :=
  if (22 : Int32) ≤ v5 then (some (v4, S)) else (gd (ok S a0 7) <| nn (hR S a0 0) fun r32 => nn (hR S a0 18) fun r33 => gd (ok S r33 8) <| gd (inb v5 (hN S r33)) <| gd (ok S r32 8) <| gd (inb v5 (hN S r32)) <| bd (sI S r32 v5.toNatClampNeg (hI S r33 v5.toNatClampNeg)) fun S38 => K44 S38 v4 ((v5 + (1 : Int32))))
def f_X7_playedThen_l44 (N : Nat) (a0 : Nat) (x1 : Int32) (x2 : Int32) : Nat → Hp → Int32 → Int32 → Option (Int32 × Hp)
  | 0, _, _, _ => none
  | k + 1, S, v4, v5 => f_X7_playedThen_b44 N a0 x1 x2 (f_X7_playedThen_l44 N a0 x1 x2 k) S v4 v5
def f_X7_playedThen_b2 (N : Nat) (a0 : Nat) (x1 : Int32) (x2 : Int32) (K2 : Hp → Int32 → Option (Int32 × Hp)) (S : Hp) (v3 : Int32) : Option (Int32 × Hp) :=
  if (22 : Int32) ≤ v3 then (gd (ok S a0 7) <| cl (f_X7_plays N S a0 x1 x2 ((10 : Int32))) fun r12 S12 => gd (ok S12 a0 7) <| cl (f_X7_winnerNow N S12 a0) fun r14 S14 => f_X7_playedThen_l44 N a0 x1 x2 N S14 r14 ((0 : Int32))) else (gd (ok S a0 7) <| nn (hR S a0 18) fun r16 => nn (hR S a0 0) fun r17 => gd (ok S r17 8) <| gd (inb v3 (hN S r17)) <| gd (ok S r16 8) <| gd (inb v3 (hN S r16)) <| bd (sI S r16 v3.toNatClampNeg (hI S r17 v3.toNatClampNeg)) fun S22 => K2 S22 ((v3 + (1 : Int32))))
def f_X7_playedThen_l2 (N : Nat) (a0 : Nat) (x1 : Int32) (x2 : Int32) : Nat → Hp → Int32 → Option (Int32 × Hp)
  | 0, _, _ => none
  | k + 1, S, v3 => f_X7_playedThen_b2 N a0 x1 x2 (f_X7_playedThen_l2 N a0 x1 x2 k) S v3
def f_X7_playedThen (N : Nat) (S : Hp) (a0 : Nat) (x1 : Int32) (x2 : Int32) : Option (Int32 × Hp) :=
  f_X7_playedThen_l2 N a0 x1 x2 N S ((0 : Int32))
def f_X7_ifPlayed_b20 (N : Nat) (a0 : Nat) (x1 : Int32) (x2 : Int32) (S : Hp) (s0 : Int32) (s1 : Nat) : Option (Int32 × Hp) :=
  gd (ok S s1 7) <| gd (ok ((sI S s1 7 s0)) a0 7) <| if (hI ((sI S s1 7 s0)) a0 7) ≤ 0 then (cl (f_X7_playedThen N ((sI S s1 7 s0)) a0 x1 x2) fun r17 S17 => some (r17, S17)) else (some ((0 : Int32), (sI S s1 7 s0)))
def f_X7_ifPlayed_b19 (N : Nat) (a0 : Nat) (x1 : Int32) (x2 : Int32) (S : Hp) (s0 : Nat) : Option (Int32 × Hp) :=
  f_X7_ifPlayed_b20 N a0 x1 x2 S ((1 : Int32)) s0
def f_X7_ifPlayed (N : Nat) (S : Hp) (a0 : Nat) (x1 : Int32) (x2 : Int32) : Option (Int32 × Hp) :=
  cl (f_X7_isRule N S x1) fun r10 S10 => if r10 = 0 then (f_X7_ifPlayed_b19 N a0 x1 x2 S10 a0) else (cl (f_X7_isRule N S10 x2) fun r12 S12 => if r12 = 0 then (f_X7_ifPlayed_b19 N a0 x1 x2 S12 a0) else (f_X7_ifPlayed_b20 N a0 x1 x2 S12 ((0 : Int32)) a0))
def f_X7_lively_b4 (N : Nat) (a0 : Nat) (K4 : Hp → Int32 → Int32 → Option (Int32 × Hp)) (S : Hp) (v1 : Int32) (v2 : Int32) : Option (Int32 × Hp) :=
  gd (ok S a0 7) <| nn (hR S a0 0) fun r11 => gd (ok S r11 8) <| gd (inb (2 : Int32) (hN S r11)) <| if (hI S r11 (2 : Int32).toNatClampNeg) ≤ v2 then (some (v1, S)) else (cl (f_X7_isDead N S a0 v2) fun r15 S15 => if r15 = 0 then (K4 S15 ((v1 + (1 : Int32))) ((v2 + (1 : Int32)))) else (K4 S15 ((v1 + (0 : Int32))) ((v2 + (1 : Int32)))))
def f_X7_lively_l4 (N : Nat) (a0 : Nat) : Nat → Hp → Int32 → Int32 → Option (Int32 × Hp)
  | 0, _, _, _ => none
  | k + 1, S, v1, v2 => f_X7_lively_b4 N a0 (f_X7_lively_l4 N a0 k) S v1 v2
def f_X7_lively (N : Nat) (S : Hp) (a0 : Nat) : Option (Int32 × Hp) :=
  f_X7_lively_l4 N a0 N S ((0 : Int32)) ((0 : Int32))
def f_X7_counted_b143 (N : Nat) (a0 : Nat) (x1 : Int32) (S : Hp) : Option (Int32 × Hp) :=
  gd (ok S a0 7) <| nn (hR S a0 0) fun r65 => gd (ok S r65 8) <| gd (inb (((7 : Int32) + x1) - (10 : Int32)) (hN S r65)) <| some ((hI S r65 (((7 : Int32) + x1) - (10 : Int32)).toNatClampNeg), S)
def f_X7_counted (N : Nat) (S : Hp) (a0 : Nat) (x1 : Int32) : Option (Int32 × Hp) :=
  if x1 = 0 then (gd (ok S a0 7) <| nn (hR S a0 0) fun r11 => gd (ok S r11 8) <| gd (inb (0 : Int32) (hN S r11)) <| some ((hI S r11 (0 : Int32).toNatClampNeg), S)) else (if x1 = 1 then (gd (ok S a0 7) <| nn (hR S a0 0) fun r16 => gd (ok S r16 8) <| gd (inb (2 : Int32) (hN S r16)) <| some ((hI S r16 (2 : Int32).toNatClampNeg), S)) else (if x1 = 2 then (gd (ok S a0 7) <| cl (f_X7_lively N S a0) fun r21 S21 => some (r21, S21)) else (if x1 = 3 then (gd (ok S a0 7) <| cl (f_X7_weight N S a0) fun r24 S24 => some (r24, S24)) else (if x1 = 4 then (gd (ok S a0 7) <| cl (f_X7_winnerNow N S a0) fun r27 S27 => if r27 = 0 then (gd (ok S27 a0 7) <| nn (hR S27 a0 0) fun r30 => gd (ok S27 r30 8) <| gd (inb (1 : Int32) (hN S27 r30)) <| some ((hI S27 r30 (1 : Int32).toNatClampNeg), S27)) else (some ((0 : Int32), S27))) else (if x1 = 5 then (gd (ok S a0 7) <| cl (f_X7_winnerNow N S a0) fun r35 S35 => some (r35, S35)) else (if x1 = 6 then (gd (ok S a0 7) <| cl (f_X7_threats N S a0) fun r38 S38 => some (r38, S38)) else (if x1 = 7 then (gd (ok S a0 7) <| cl (f_X7_forced N S a0) fun r41 S41 => some (r41, S41)) else (if x1 = 8 then (gd (ok S a0 7) <| cl (f_X7_pairs N S a0) fun r44 S44 => some (r44, S44)) else (if x1 = 9 then (gd (ok S a0 7) <| cl (f_X7_free N S a0) fun r47 S47 => some (r47, S47)) else (if x1 = 10 then (f_X7_counted_b143 N a0 x1 S) else (if x1 = 11 then (f_X7_counted_b143 N a0 x1 S) else (if x1 = 12 then (f_X7_counted_b143 N a0 x1 S) else (if x1 = 13 then (gd (ok S a0 7) <| nn (hR S a0 0) fun r53 => gd (ok S r53 8) <| gd (inb (5 : Int32) (hN S r53)) <| some ((hI S r53 (5 : Int32).toNatClampNeg), S)) else (if x1 = 14 then (gd (ok S a0 7) <| nn (hR S a0 4) fun r58 => gd (ok S r58 8) <| gd (inb (0 : Int32) (hN S r58)) <| gd (inb (1 : Int32) (hN S r58)) <| some (((hI S r58 (0 : Int32).toNatClampNeg) + (hI S r58 (1 : Int32).toNatClampNeg)), S)) else (gd (ok S a0 7) <| some ((hI S a0 1), S))))))))))))))))
def f_X7_count_b16 (N : Nat) (a0 : Nat) (x1 : Int32) (S : Hp) (s0 : Int32) (s1 : Nat) : Option (Int32 × Hp) :=
  gd (ok S s1 7) <| gd (ok ((sI S s1 7 s0)) a0 7) <| if (hI ((sI S s1 7 s0)) a0 7) ≤ 0 then (cl (f_X7_counted N ((sI S s1 7 s0)) a0 x1) fun r15 S15 => some (r15, S15)) else (some ((0 : Int32), (sI S s1 7 s0)))
def f_X7_count (N : Nat) (S : Hp) (a0 : Nat) (x1 : Int32) : Option (Int32 × Hp) :=
  cl (f_X7_within N S x1 ((0 : Int32)) ((15 : Int32))) fun r10 S10 => if r10 = 0 then (f_X7_count_b16 N a0 x1 S10 ((1 : Int32)) a0) else (f_X7_count_b16 N a0 x1 S10 ((0 : Int32)) a0)
def f_X7_share (N : Nat) (S : Hp) (a0 : Nat) : Option (UInt64 × Hp) :=
  gd (ok S a0 7) <| cl (f_X7_weight N S a0) fun r11 S11 => gd (nanok (FP.ddiv (FP.i2d r11) (4652218415073722368 : UInt64))) <| some ((FP.ddiv (FP.i2d r11) (4652218415073722368 : UInt64)), S11)
def f_X7_weightShare (N : Nat) (S : Hp) (a0 : Nat) : Option (UInt64 × Hp) :=
  gd (ok S a0 7) <| cl (f_X7_share N ((sI S a0 7 (0 : Int32))) a0) fun r11 S11 => some (r11, S11)
def f_X7_mix (N : Nat) (S : Hp) (a0 : Nat) (y1 : Int64) : Option (Unit × Hp) :=
  gd (ok S a0 7) <| bd (sJ S a0 19 (((31 : Int64) * (hJ S a0 19)) + y1)) fun S11 => some ((), S11)
def f_X7_digest_b232 (N : Nat) (a0 : Nat) (K232 : Hp → Int32 → Option (Int64 × Hp)) (S : Hp) (v1 : Int32) : Option (Int64 × Hp) :=
  gd (ok S a0 7) <| if (hI S a0 5) ≤ v1 then (some ((hJ S a0 19), S)) else (nn (hR S a0 6) fun r80 => gd (ok S r80 8) <| gd (inb v1 (hN S r80)) <| cl (f_X7_mix N S a0 ((Int32.toInt64 (hI S r80 v1.toNatClampNeg)))) fun _ S83 => K232 S83 ((v1 + (1 : Int32))))
def f_X7_digest_l232 (N : Nat) (a0 : Nat) : Nat → Hp → Int32 → Option (Int64 × Hp)
  | 0, _, _ => none
  | k + 1, S, v1 => f_X7_digest_b232 N a0 (f_X7_digest_l232 N a0 k) S v1
def f_X7_digest_b125 (N : Nat) (a0 : Nat) (K125 : Hp → Int32 → Option (Int64 × Hp)) (S : Hp) (v1 : Int32) : Option (Int64 × Hp) :=
  if (4 : Int32) ≤ v1 then (gd (ok S a0 7) <| cl (f_X7_solvedNow N S a0 ((0 : Int32))) fun r35 S35 => gd (ok S35 a0 7) <| cl (f_X7_mix N S35 a0 ((Int32.toInt64 r35))) fun _ S37 => gd (ok S37 a0 7) <| cl (f_X7_solvedNow N S37 a0 ((1 : Int32))) fun r39 S39 => gd (ok S39 a0 7) <| cl (f_X7_mix N S39 a0 ((Int32.toInt64 r39))) fun _ S41 => gd (ok S41 a0 7) <| cl (f_X7_playedThen N S41 a0 ((1 : Int32)) ((1 : Int32))) fun r43 S43 => gd (ok S43 a0 7) <| cl (f_X7_mix N S43 a0 ((Int32.toInt64 r43))) fun _ S45 => gd (ok S45 a0 7) <| cl (f_X7_playedThen N S45 a0 ((1 : Int32)) ((2 : Int32))) fun r47 S47 => gd (ok S47 a0 7) <| cl (f_X7_mix N S47 a0 ((Int32.toInt64 r47))) fun _ S49 => gd (ok S49 a0 7) <| cl (f_X7_playedThen N S49 a0 ((2 : Int32)) ((3 : Int32))) fun r51 S51 => gd (ok S51 a0 7) <| cl (f_X7_mix N S51 a0 ((Int32.toInt64 r51))) fun _ S53 => gd (ok S53 a0 7) <| cl (f_X7_playedThen N S53 a0 ((3 : Int32)) ((1 : Int32))) fun r55 S55 => gd (ok S55 a0 7) <| cl (f_X7_mix N S55 a0 ((Int32.toInt64 r55))) fun _ S57 => gd (ok S57 a0 7) <| cl (f_X7_share N S57 a0) fun r59 S59 => cl (f_Jxe99ae_doubleToLongBits_ccdee N S59 r59) fun r60 S60 => gd (ok S60 a0 7) <| cl (f_X7_mix N S60 a0 r60) fun _ S62 => gd (ok S62 a0 7) <| cl (f_X7_mix N S62 a0 ((Int32.toInt64 (hI S62 a0 5)))) fun _ S64 => f_X7_digest_l232 N a0 N S64 ((0 : Int32))) else (gd (ok S a0 7) <| cl (f_X7_replyBy N S a0 v1) fun r66 S66 => gd (ok S66 a0 7) <| cl (f_X7_mix N S66 a0 ((Int32.toInt64 r66))) fun _ S68 => K125 S68 ((v1 + (1 : Int32))))
def f_X7_digest_l125 (N : Nat) (a0 : Nat) : Nat → Hp → Int32 → Option (Int64 × Hp)
  | 0, _, _ => none
  | k + 1, S, v1 => f_X7_digest_b125 N a0 (f_X7_digest_l125 N a0 k) S v1
def f_X7_digest_b85 (N : Nat) (a0 : Nat) (K73 : Hp → Int32 → Option (Int64 × Hp)) (K85 : Hp → Int32 → Int32 → Option (Int64 × Hp)) (S : Hp) (v1 : Int32) (v2 : Int32) : Option (Int64 × Hp) :=
  if (4 : Int32) ≤ v2 then (gd (ok S a0 7) <| cl (f_X7_movedThen N S a0 v1) fun r71 S71 => gd (ok S71 a0 7) <| cl (f_X7_mix N S71 a0 ((Int32.toInt64 r71))) fun _ S73 => K73 S73 ((v1 + (1 : Int32)))) else (gd (ok S a0 7) <| cl (f_X7_cellNow N S a0 v1 v2) fun r75 S75 => gd (ok S75 a0 7) <| cl (f_X7_mix N S75 a0 ((Int32.toInt64 r75))) fun _ S77 => K85 S77 v1 ((v2 + (1 : Int32))))
def f_X7_digest_l85 (N : Nat) (a0 : Nat) (K73 : Hp → Int32 → Option (Int64 × Hp)) : Nat → Hp → Int32 → Int32 → Option (Int64 × Hp)
  | 0, _, _, _ => none
  | k + 1, S, v1, v2 => f_X7_digest_b85 N a0 K73 (f_X7_digest_l85 N a0 K73 k) S v1 v2
def f_X7_digest_b73 (N : Nat) (a0 : Nat) (K73 : Hp → Int32 → Option (Int64 × Hp)) (S : Hp) (v1 : Int32) : Option (Int64 × Hp) :=
  gd (ok S a0 7) <| nn (hR S a0 0) fun r29 => gd (ok S r29 8) <| gd (inb (0 : Int32) (hN S r29)) <| if (hI S r29 (0 : Int32).toNatClampNeg) ≤ v1 then (f_X7_digest_l125 N a0 N S ((0 : Int32))) else (f_X7_digest_l85 N a0 K73 N S v1 ((0 : Int32)))
def f_X7_digest_l73 (N : Nat) (a0 : Nat) : Nat → Hp → Int32 → Option (Int64 × Hp)
  | 0, _, _ => none
  | k + 1, S, v1 => f_X7_digest_b73 N a0 (f_X7_digest_l73 N a0 k) S v1
def f_X7_digest_b38 (N : Nat) (a0 : Nat) (K38 : Hp → Int32 → Option (Int64 × Hp)) (S : Hp) (v1 : Int32) : Option (Int64 × Hp) :=
  gd (ok S a0 7) <| nn (hR S a0 0) fun r19 => gd (ok S r19 8) <| gd (inb (2 : Int32) (hN S r19)) <| if ((5 : Int32) * (hI S r19 (2 : Int32).toNatClampNeg)) ≤ v1 then (f_X7_digest_l73 N a0 N S ((0 : Int32))) else (cl (f_X7_lineNow N S a0 ((v1 / (5 : Int32))) ((v1 - v1 / (5 : Int32) * (5 : Int32)))) fun r25 S25 => gd (ok S25 a0 7) <| cl (f_X7_mix N S25 a0 ((Int32.toInt64 r25))) fun _ S27 => K38 S27 ((v1 + (1 : Int32))))
def f_X7_digest_l38 (N : Nat) (a0 : Nat) : Nat → Hp → Int32 → Option (Int64 × Hp)
  | 0, _, _ => none
  | k + 1, S, v1 => f_X7_digest_b38 N a0 (f_X7_digest_l38 N a0 k) S v1
def f_X7_digest_b14 (N : Nat) (a0 : Nat) (K14 : Hp → Int32 → Option (Int64 × Hp)) (S : Hp) (v1 : Int32) : Option (Int64 × Hp) :=
  if (16 : Int32) ≤ v1 then (f_X7_digest_l38 N a0 N S ((0 : Int32))) else (gd (ok S a0 7) <| cl (f_X7_counted N S a0 v1) fun r15 S15 => gd (ok S15 a0 7) <| cl (f_X7_mix N S15 a0 ((Int32.toInt64 r15))) fun _ S17 => K14 S17 ((v1 + (1 : Int32))))
def f_X7_digest_l14 (N : Nat) (a0 : Nat) : Nat → Hp → Int32 → Option (Int64 × Hp)
  | 0, _, _ => none
  | k + 1, S, v1 => f_X7_digest_b14 N a0 (f_X7_digest_l14 N a0 k) S v1
def f_X7_digest (N : Nat) (S : Hp) (a0 : Nat) : Option (Int64 × Hp) :=
  gd (ok S a0 7) <| bd (sJ (sI S a0 7 (0 : Int32)) a0 19 (2503 : Int64)) fun S11 => f_X7_digest_l14 N a0 N S11 ((0 : Int32))
