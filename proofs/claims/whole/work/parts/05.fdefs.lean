def f_X0_copyFrom (S0 : ST_X0) (S1 : ST_X0) : Option (ST_X0) :=
  some ((va_cpy S1.1 S0.1 0 0 12), (va_cpy S1.2.1 S0.2.1 0 0 12), (va_cpy S1.2.2.1 S0.2.2.1 0 0 12), (va_cpy S1.2.2.2.1 S0.2.2.2.1 0 0 12), S1.2.2.2.2)
def f_X0_holds_b22 (S0 : ST_X0) : Option (Int32) :=
  some 0
def f_X0_holds (S0 : ST_X0) (p1 : Int32) : Option (Int32) :=
  if p1 < 0 then (f_X0_holds_b22 S0) else (if S0.2.2.2.2 ≤ p1 then (f_X0_holds_b22 S0) else (if 12 ≤ p1 then (f_X0_holds_b22 S0) else some 1))
def f_X0_add (S0 : ST_X0) (p1 : Int32) (p2 : Int32) (p3 : Int32) (p4 : Int32) : Option (Int32 × ST_X0) :=
  if S0.2.2.2.2 < 12 then (if inB S0.2.2.2.2 12 then (if inB S0.2.2.2.2 12 then (if inB S0.2.2.2.2 12 then (if inB S0.2.2.2.2 12 then (some (1, ((upd S0.1 (S0.2.2.2.2.toNatClampNeg) p1), (upd S0.2.1 (S0.2.2.2.2.toNatClampNeg) p2), (upd S0.2.2.1 (S0.2.2.2.2.toNatClampNeg) p3), (upd S0.2.2.2.1 (S0.2.2.2.2.toNatClampNeg) p4), S0.2.2.2.2 + 1))) else none) else none) else none) else none) else some (0, S0)
def f_X0_readBy_b36 (S0 : ST_X0) (k4 : Int32 → Int32 → Int32 → Option (Int32)) (v1 : Int32) (v2 : Int32) (v3 : Int32) : Option (Int32) :=
  k4 v1 v2 (v3 + 1)
def f_X0_readBy_b4 (S0 : ST_X0) : Nat → Int32 → Int32 → Int32 → Option (Int32)
  | 0, _, _, _ => none
  | fu + 1, v1, v2, v3 => if S0.2.2.2.2 ≤ v3 then some v2 else ((f_X0_holds S0 v3).bind fun r2 => if r2 = 0 then (f_X0_readBy_b36 S0 (f_X0_readBy_b4 S0 fu) v1 v2 v3) else (if inB v3 12 then (if (S0.2.2.2.1 v3.toNatClampNeg) = v1 then (f_X0_readBy_b36 S0 (f_X0_readBy_b4 S0 fu) v1 (v2 ||| (1 <<< (v3 &&& 31))) v3) else (f_X0_readBy_b36 S0 (f_X0_readBy_b4 S0 fu) v1 v2 v3)) else none))
def f_X0_readBy (S0 : ST_X0) (p1 : Int32) : Option (Int32) :=
  f_X0_readBy_b4 S0 4096 p1 0 0
def f_X0_cannotBothBe_b65 (S0 : ST_X0) : Option (Int32) :=
  some 0
def f_X0_cannotBothBe (S0 : ST_X0) (p1 : Int32) (p2 : Int32) : Option (Int32) :=
  (f_X0_holds S0 p1).bind fun r1 => if r1 = 0 then (f_X0_cannotBothBe_b65 S0) else ((f_X0_holds S0 p2).bind fun r3 => if r3 = 0 then (f_X0_cannotBothBe_b65 S0) else (if inB p1 12 then (if inB p2 12 then (if (S0.2.2.1 p1.toNatClampNeg) = (S0.2.2.1 p2.toNatClampNeg) then (if inB p1 12 then (if inB p2 12 then (if (S0.1 p1.toNatClampNeg) = (S0.1 p2.toNatClampNeg) then (if inB p1 12 then (if inB p2 12 then (if (S0.2.1 p1.toNatClampNeg) = (S0.2.1 p2.toNatClampNeg) then (f_X0_cannotBothBe_b65 S0) else some 1) else none) else none) else (f_X0_cannotBothBe_b65 S0)) else none) else none) else (f_X0_cannotBothBe_b65 S0)) else none) else none))
def f_X0_number (S0 : ST_X0) (p1 : Int32) : Option (Int32) :=
  (f_X0_holds S0 p1).bind fun r1 => if r1 = 0 then some 0 else (if inB p1 12 then some (S0.2.2.1 p1.toNatClampNeg) else none)
def f_X0_greatestNumber_b4 (S0 : ST_X0) : Nat → Int32 → Int32 → Option (Int32)
  | 0, _, _ => none
  | fu + 1, v1, v2 => if S0.2.2.2.2 ≤ v2 then some v1 else ((f_X0_number S0 v2).bind fun r2 => (f_X0_greatestNumber_b4 S0 fu) (if v1 < r2 then r2 else v1) (v2 + 1))
def f_X0_greatestNumber (S0 : ST_X0) : Option (Int32) :=
  f_X0_greatestNumber_b4 S0 4096 0 0
def f_X0_isFirstOfItsNumber_b2 (S0 : ST_X0) : Nat → Int32 → Int32 → Option (Int32)
  | 0, _, _ => none
  | fu + 1, v1, v2 => if v1 ≤ v2 then some 1 else ((f_X0_number S0 v2).bind fun r2 => (f_X0_number S0 v1).bind fun r3 => if r2 = r3 then some 0 else ((f_X0_isFirstOfItsNumber_b2 S0 fu) v1 (v2 + 1)))
def f_X0_isFirstOfItsNumber (S0 : ST_X0) (p1 : Int32) : Option (Int32) :=
  f_X0_isFirstOfItsNumber_b2 S0 4096 p1 0
def f_X0_unlikeNumbers_b23 (S0 : ST_X0) (k4 : Int32 → Int32 → Option (Int32)) (v1 : Int32) (v2 : Int32) : Option (Int32) :=
  k4 v1 (v2 + 1)
def f_X0_unlikeNumbers_b4 (S0 : ST_X0) : Nat → Int32 → Int32 → Option (Int32)
  | 0, _, _ => none
  | fu + 1, v1, v2 => if S0.2.2.2.2 ≤ v2 then some v1 else ((f_X0_isFirstOfItsNumber S0 v2).bind fun r2 => if r2 = 0 then (f_X0_unlikeNumbers_b23 S0 (f_X0_unlikeNumbers_b4 S0 fu) v1 v2) else (f_X0_unlikeNumbers_b23 S0 (f_X0_unlikeNumbers_b4 S0 fu) (v1 + 1) v2))
def f_X0_unlikeNumbers (S0 : ST_X0) : Option (Int32) :=
  f_X0_unlikeNumbers_b4 S0 4096 0 0
def f_X1_copyFrom (S0 : ST_X1) (S1 : ST_X1) : Option (ST_X1) :=
  some ((va_cpy S1.1 S0.1 0 0 7), (va_cpy S1.2.1 S0.2.1 0 0 7), (va_cpy S1.2.2.1 S0.2.2.1 0 0 7), (va_cpy S1.2.2.2.1 S0.2.2.2.1 0 0 7), (va_cpy S1.2.2.2.2.1 S0.2.2.2.2.1 0 0 49), S1.2.2.2.2.2.1, S1.2.2.2.2.2.2.1, S1.2.2.2.2.2.2.2.1, S1.2.2.2.2.2.2.2.2)
def f_X1_knows_b22 (S0 : ST_X1) : Option (Int32) :=
  some 0
def f_X1_knows (S0 : ST_X1) (p1 : Int32) : Option (Int32) :=
  if p1 < 0 then (f_X1_knows_b22 S0) else (if S0.2.2.2.2.2.1 ≤ p1 then (f_X1_knows_b22 S0) else (if 7 ≤ p1 then (f_X1_knows_b22 S0) else some 1))
def f_X1_number (S0 : ST_X1) (p1 : Int32) : Option (Int32) :=
  (f_X1_knows S0 p1).bind fun r1 => if r1 = 0 then some (-9) else (if inB p1 7 then some (S0.1 p1.toNatClampNeg) else none)
def f_X1_numbered_b2 (S0 : ST_X1) : Nat → Int32 → Int32 → Option (Int32)
  | 0, _, _ => none
  | fu + 1, v1, v2 => if S0.2.2.2.2.2.1 ≤ v2 then some (-9) else ((f_X1_number S0 v2).bind fun r2 => if r2 = v1 then some v2 else ((f_X1_numbered_b2 S0 fu) v1 (v2 + 1)))
def f_X1_numbered (S0 : ST_X1) (p1 : Int32) : Option (Int32) :=
  f_X1_numbered_b2 S0 4096 p1 0
def f_X2_sign_b27 (S0 : ST_X2) : Option (Int32) :=
  some (-1)
def f_X2_sign (S0 : ST_X2) (p1 : Int32) : Option (Int32) :=
  if p1 < 0 then (f_X2_sign_b27 S0) else (if S0.2 ≤ p1 then (f_X2_sign_b27 S0) else (if 64 ≤ p1 then (f_X2_sign_b27 S0) else (if inB p1 64 then some (S0.1 p1.toNatClampNeg) else none)))
def f_X2_digit (S0 : ST_X2) (p1 : Int32) : Option (Int32) :=
  (f_X2_sign S0 p1).bind fun r1 => some (r1 - 48)
def f_X2_number (S0 : ST_X2) (p1 : Int32) : Option (Int32) :=
  (f_X2_digit S0 p1).bind fun r1 => (f_X2_digit S0 (p1 + 1)).bind fun r2 => some ((10 * r1) + r2)
def f_X5_isPlace_b13 : Option (Int32) :=
  some 0
def f_X5_isPlace (p0 : Int32) : Option (Int32) :=
  if p0 < 0 then (f_X5_isPlace_b13) else (if 5 ≤ p0 then (f_X5_isPlace_b13) else some 1)
def f_J0_isLatin1_aae02_b17 (p0 : Nat) : Option (Int32) :=
  some 0
def f_J0_isLatin1_aae02 (p0 : Nat) : Option (Int32) :=
  if p0 < 6 then (if (1 : Int32) = 0 then (f_J0_isLatin1_aae02_b17 p0) else (if (0 : Int32) = 0 then some 1 else (f_J0_isLatin1_aae02_b17 p0))) else none
def f_J0_coder_7d493 (p0 : Nat) : Option (Int32) :=
  if p0 < 6 then (if (1 : Int32) = 0 then some 1 else some 0) else none
def f_J0_length_8abf5 (p0 : Nat) : Option (Int32) :=
  if p0 < 6 then ((f_J0_coder_7d493 p0).bind fun r1 => some ((Int32.ofNat (lenS.getD p0 0)) >>> (r1 &&& 31))) else none
def f_J1_canEncode_9a6ad_b15 : Option (Int32) :=
  some 0
def f_J1_canEncode_9a6ad (p0 : Int32) : Option (Int32) :=
  if p0 < 0 then (f_J1_canEncode_9a6ad_b15) else (if 255 < p0 then (f_J1_canEncode_9a6ad_b15) else some 1)
def f_J1_indexOfChar_4cfef_b7 (p0 : Nat) : Nat → Int32 → Int32 → Int32 → Option (Int32)
  | 0, _, _, _ => none
  | fu + 1, v3, v4, v5 => if v3 ≤ v5 then some (-1) else (if inB (v5) (lenS.getD p0 0) then (if ((bytS.getD p0 []).getD (v5).toNatClampNeg 0) = v4 then some v5 else ((f_J1_indexOfChar_4cfef_b7 p0 fu) v3 v4 (v5 + 1))) else none)
def f_J1_indexOfChar_4cfef (p0 : Nat) (p1 : Int32) (p2 : Int32) (p3 : Int32) : Option (Int32) :=
  if p0 < 6 then (f_J1_indexOfChar_4cfef_b7 p0 4096 p3 p1.toInt8.toInt32 p2) else none
def f_J1_indexOf_4cfef (p0 : Nat) (p1 : Int32) (p2 : Int32) (p3 : Int32) : Option (Int32) :=
  if p0 < 6 then ((f_J1_canEncode_9a6ad p1).bind fun r1 => if r1 = 0 then some (-1) else (if (if p2 < 0 then 0 else p2) < (if (Int32.ofNat (lenS.getD p0 0)) < p3 then (Int32.ofNat (lenS.getD p0 0)) else p3) then ((f_J1_indexOfChar_4cfef p0 p1 (if p2 < 0 then 0 else p2) (if (Int32.ofNat (lenS.getD p0 0)) < p3 then (Int32.ofNat (lenS.getD p0 0)) else p3)).bind fun r4 => some r4) else some (-1))) else none
def f_J0_indexOf_7cf53 (p0 : Nat) (p1 : Int32) (p2 : Int32) : Option (Int32) :=
  if p0 < 6 then ((f_J0_isLatin1_aae02 p0).bind fun r1 => if r1 = 0 then ((f_J0_length_8abf5 p0).bind fun r3 => none) else ((f_J0_length_8abf5 p0).bind fun r4 => (f_J1_indexOf_4cfef p0 p1 p2 r4).bind fun r5 => some r5)) else none
def f_J0_indexOf_0f7a4 (p0 : Nat) (p1 : Int32) : Option (Int32) :=
  if p0 < 6 then ((f_J0_indexOf_7cf53 p0 p1 0).bind fun r1 => some r1) else none
def f_X2_kind (S0 : ST_X2) (p1 : Int32) : Option (Int32) :=
  (f_X2_sign S0 p1).bind fun r1 => if 0 ≤ r1 then ((f_J0_indexOf_0f7a4 5 ((r1.toUInt32 % 65536).toInt32)).bind fun r3 => some r3) else some (-1)
def f_X1_takesEngine_b29 (S1 : ST_X2) (S0 : ST_X1) : Option (Int32 × ST_X1) :=
  some (0, S0)
def f_X1_takesEngine_b70 (S1 : ST_X2) (k34 : ST_X1 → Int32 → Int32 → Int32 → Option (Int32 × ST_X1)) (S0 : ST_X1) (v2 : Int32) (v3 : Int32) (v4 : Int32) (v5 : Int32) : Option (Int32 × ST_X1) :=
  if inB ((S0.2.2.2.2.2.1 * 7) + v4) 49 then (k34 (S0.1, S0.2.1, S0.2.2.1, S0.2.2.2.1, (upd S0.2.2.2.2.1 (((S0.2.2.2.2.2.1 * 7) + v4).toNatClampNeg) v5), S0.2.2.2.2.2.1, S0.2.2.2.2.2.2.1, S0.2.2.2.2.2.2.2.1, S0.2.2.2.2.2.2.2.2) v2 v3 (v4 + 1)) else none
def f_X1_takesEngine_b175 (S1 : ST_X2) (S0 : ST_X1) : Option (Int32 × ST_X1) :=
  some (1, (S0.1, S0.2.1, S0.2.2.1, S0.2.2.2.1, S0.2.2.2.2.1, S0.2.2.2.2.2.1 + 1, S0.2.2.2.2.2.2.1, S0.2.2.2.2.2.2.2.1, S0.2.2.2.2.2.2.2.2))
def f_X1_takesEngine_b34 (S1 : ST_X2) : Nat → ST_X1 → Int32 → Int32 → Int32 → Option (Int32 × ST_X1)
  | 0, _, _, _, _ => none
  | fu + 1, S0, v2, v3, v4 => if 7 ≤ v4 then (if inB S0.2.2.2.2.2.1 7 then ((f_X2_kind S1 (v2 + 3)).bind fun r4 => if inB S0.2.2.2.2.2.1 7 then ((f_X2_digit S1 (v2 + 4)).bind fun r6 => if inB S0.2.2.2.2.2.1 7 then (if inB S0.2.2.2.2.2.1 7 then (if inB S0.2.2.2.2.2.1 7 then (if ((upd S0.2.1 (S0.2.2.2.2.2.1.toNatClampNeg) r4) S0.2.2.2.2.2.1.toNatClampNeg) = 6 then (f_X1_takesEngine_b175 S1 ((upd S0.1 (S0.2.2.2.2.2.1.toNatClampNeg) v3), (upd S0.2.1 (S0.2.2.2.2.2.1.toNatClampNeg) r4), (upd S0.2.2.1 (S0.2.2.2.2.2.1.toNatClampNeg) r6), (upd S0.2.2.2.1 (S0.2.2.2.2.2.1.toNatClampNeg) (-9)), S0.2.2.2.2.1, S0.2.2.2.2.2.1, S0.2.2.2.2.2.2.1 ||| (1 <<< (S0.2.2.2.2.2.1 &&& 31)), S0.2.2.2.2.2.2.2.1, S0.2.2.2.2.2.2.2.2)) else (f_X1_takesEngine_b175 S1 ((upd S0.1 (S0.2.2.2.2.2.1.toNatClampNeg) v3), (upd S0.2.1 (S0.2.2.2.2.2.1.toNatClampNeg) r4), (upd S0.2.2.1 (S0.2.2.2.2.2.1.toNatClampNeg) r6), (upd S0.2.2.2.1 (S0.2.2.2.2.2.1.toNatClampNeg) (-9)), S0.2.2.2.2.1, S0.2.2.2.2.2.1, S0.2.2.2.2.2.2.1, S0.2.2.2.2.2.2.2.1, S0.2.2.2.2.2.2.2.2))) else none) else none) else none) else none) else none) else ((f_X2_digit S1 ((v2 + 5) + v4)).bind fun r11 => (f_X5_isPlace r11).bind fun r12 => if r12 = 0 then (if r11 = 9 then (f_X1_takesEngine_b70 S1 (f_X1_takesEngine_b34 S1 fu) S0 v2 v3 v4 r11) else some (0, S0)) else (f_X1_takesEngine_b70 S1 (f_X1_takesEngine_b34 S1 fu) S0 v2 v3 v4 r11))
def f_X1_takesEngine (S0 : ST_X1) (S1 : ST_X2) (p2 : Int32) : Option (Int32 × ST_X1) :=
  (f_X2_number S1 (p2 + 1)).bind fun r15 => if 7 ≤ S0.2.2.2.2.2.1 then (f_X1_takesEngine_b29 S1 S0) else (if r15 < 10 then (f_X1_takesEngine_b29 S1 S0) else (if r15 ≤ 99 then (f_X1_takesEngine_b34 S1 4096 S0 p2 r15 0) else (f_X1_takesEngine_b29 S1 S0)))
def f_X1_joins_b43 (S0 : ST_X1) : Option (Int32 × ST_X1) :=
  some (0, S0)
def f_X1_joins (S0 : ST_X1) (p1 : Int32) (p2 : Int32) : Option (Int32 × ST_X1) :=
  (f_X1_knows S0 p1).bind fun r1 => if r1 = 0 then (f_X1_joins_b43 S0) else ((f_X1_knows S0 p2).bind fun r3 => if r3 = 0 then (f_X1_joins_b43 S0) else (if p1 = p2 then (f_X1_joins_b43 S0) else (if inB p1 7 then (if (S0.2.2.2.1 p1.toNatClampNeg) = (-9) then (if inB p2 7 then (if (S0.2.2.2.1 p2.toNatClampNeg) = (-9) then (if inB p1 7 then (if inB p2 7 then (some (1, (S0.1, S0.2.1, S0.2.2.1, (upd (upd S0.2.2.2.1 (p1.toNatClampNeg) p2) (p2.toNatClampNeg) p1), S0.2.2.2.2.1, S0.2.2.2.2.2.1, S0.2.2.2.2.2.2.1, S0.2.2.2.2.2.2.2.1, S0.2.2.2.2.2.2.2.2))) else none) else none) else (f_X1_joins_b43 S0)) else none) else (f_X1_joins_b43 S0)) else none)))
def f_X1_bit (S0 : ST_X1) (p1 : Int32) : Option (Int32) :=
  (f_X1_knows S0 p1).bind fun r1 => if r1 = 0 then some 0 else (some (1 <<< (p1 &&& 31)))
def f_X1_takes_b79 (S1 : ST_X2) (S0 : ST_X1) : Option (Int32 × ST_X1) :=
  some (0, S0)
def f_X1_takes (S0 : ST_X1) (S1 : ST_X2) (p2 : Int32) : Option (Int32 × ST_X1) :=
  (f_X2_number S1 (p2 + 1)).bind fun r1 => (f_X1_numbered S0 r1).bind fun r2 => (f_X2_sign S1 p2).bind fun r3 => if r3 = 101 then (if r2 = (-9) then ((f_X1_takesEngine S0 S1 p2).bind fun r6 => if r6.1 = 0 then (f_X1_takes_b79 S1 r6.2) else some (1, r6.2)) else (f_X1_takes_b79 S1 S0)) else (if r3 = 102 then ((f_X1_bit S0 r2).bind fun r8 => if r2 = (-9) then (some (0, (S0.1, S0.2.1, S0.2.2.1, S0.2.2.2.1, S0.2.2.2.2.1, S0.2.2.2.2.2.1, S0.2.2.2.2.2.2.1, S0.2.2.2.2.2.2.2.1, S0.2.2.2.2.2.2.2.2 ||| r8))) else (some (1, (S0.1, S0.2.1, S0.2.2.1, S0.2.2.2.1, S0.2.2.2.2.1, S0.2.2.2.2.2.1, S0.2.2.2.2.2.2.1, S0.2.2.2.2.2.2.2.1, S0.2.2.2.2.2.2.2.2 ||| r8)))) else (if r3 = 106 then ((f_X2_number S1 (p2 + 3)).bind fun r10 => (f_X1_numbered S0 r10).bind fun r11 => (f_X1_joins S0 r2 r11).bind fun r12 => if r12.1 &&& 1 = r12.1 then some (r12.1, r12.2) else none) else (if r3 = 117 then ((f_X1_bit S0 r2).bind fun r14 => if r2 = (-9) then (some (0, (S0.1, S0.2.1, S0.2.2.1, S0.2.2.2.1, S0.2.2.2.2.1, S0.2.2.2.2.2.1, S0.2.2.2.2.2.2.1, S0.2.2.2.2.2.2.2.1 ||| r14, S0.2.2.2.2.2.2.2.2))) else (some (1, (S0.1, S0.2.1, S0.2.2.1, S0.2.2.2.1, S0.2.2.2.2.1, S0.2.2.2.2.2.1, S0.2.2.2.2.2.2.1, S0.2.2.2.2.2.2.2.1 ||| r14, S0.2.2.2.2.2.2.2.2)))) else some (0, S0))))
def f_X1_turnOf_b32 (S0 : ST_X1) : Option (Int32) :=
  some 9
def f_X1_turnOf (S0 : ST_X1) (p1 : Int32) (p2 : Int32) : Option (Int32) :=
  (f_X1_knows S0 p1).bind fun r1 => if r1 = 0 then (f_X1_turnOf_b32 S0) else (if p2 < 0 then (f_X1_turnOf_b32 S0) else (if 7 ≤ p2 then (f_X1_turnOf_b32 S0) else (if inB ((p1 * 7) + p2) 49 then (some (S0.2.2.2.2.1 ((p1 * 7) + p2).toNatClampNeg)) else none)))
def f_X1_placeOn_b12 (S0 : ST_X1) : Option (Int32) :=
  some 9
def f_X1_placeOn_b118 (S0 : ST_X1) (v6 : Int32) : Option (Int32) :=
  some v6
def f_X1_placeOn_b169 (S0 : ST_X1) (v4 : Int32) (w1 : Int32) : Option (Int32) :=
  (f_X1_turnOf S0 w1 v4).bind fun r1 => some r1
def f_X1_placeOn (S0 : ST_X1) (p1 : Int32) (p2 : Int32) : Option (Int32) :=
  (f_X1_knows S0 p1).bind fun r2 => if r2 = 0 then (f_X1_placeOn_b12 S0) else (if 0 ≤ p2 then (if inB p1 7 then ((f_X1_turnOf S0 p1 (p2 - p2 / 7 * 7)).bind fun r6 => if inB p1 7 then (if (S0.2.1 p1.toNatClampNeg) = 1 then (if (p2 - p2 / 7 * 7) < (S0.2.2.1 p1.toNatClampNeg) then some r6 else some 9) else (if (S0.2.1 p1.toNatClampNeg) = 2 then (if (S0.2.2.1 p1.toNatClampNeg) < 0 then (f_X1_placeOn_b118 S0 r6) else (if ¬ ((S0.2.2.1 p1.toNatClampNeg) + 2) = 0 then (if ((p2 / 7) - (p2 / 7) / ((S0.2.2.1 p1.toNatClampNeg) + 2) * ((S0.2.2.1 p1.toNatClampNeg) + 2)) = 0 then some 9 else (f_X1_placeOn_b118 S0 r6)) else none)) else (if (S0.2.1 p1.toNatClampNeg) = 3 then (some ((S0.2.2.1 p1.toNatClampNeg) - (S0.2.2.1 p1.toNatClampNeg) / 5 * 5)) else (if (S0.2.1 p1.toNatClampNeg) = 4 then (if (S0.2.2.1 p1.toNatClampNeg) ≤ (p2 / 7) then some 9 else some r6) else (if (S0.2.1 p1.toNatClampNeg) = 5 then (if ((p2 / 7) - (p2 / 7) / 2 * 2) = 0 then some r6 else ((f_X1_knows S0 (p1 + 1)).bind fun r15 => if r15 = 0 then (f_X1_placeOn_b169 S0 (p2 - p2 / 7 * 7) 0) else (f_X1_placeOn_b169 S0 (p2 - p2 / 7 * 7) (p1 + 1)))) else some r6))))) else none) else none) else (f_X1_placeOn_b12 S0))
def f_X1_passing_b34 (S0 : ST_X1) (k5 : Int32 → Int32 → Int32 → Int32 → Option (Int32)) (v1 : Int32) (v2 : Int32) (v3 : Int32) (v4 : Int32) : Option (Int32) :=
  k5 v1 v2 v3 (v4 + 1)
def f_X1_passing_b5 (S0 : ST_X1) : Nat → Int32 → Int32 → Int32 → Int32 → Option (Int32)
  | 0, _, _, _, _ => none
  | fu + 1, v1, v2, v3, v4 => if S0.2.2.2.2.2.1 ≤ v4 then some v3 else ((f_X1_placeOn S0 v4 v2).bind fun r2 => if r2 = v1 then ((f_X1_bit S0 v4).bind fun r4 => f_X1_passing_b34 S0 (f_X1_passing_b5 S0 fu) v1 v2 (v3 ||| r4) v4) else (f_X1_passing_b34 S0 (f_X1_passing_b5 S0 fu) v1 v2 v3 v4))
def f_X1_passing (S0 : ST_X1) (p1 : Int32) (p2 : Int32) : Option (Int32) :=
  f_X1_passing_b5 S0 4096 p1 p2 0 0
def f_X1_isOn_b33 (S0 : ST_X1) : Option (Int32) :=
  some 0
def f_X1_isOn (S0 : ST_X1) (p1 : Int32) (p2 : Int32) : Option (Int32) :=
  (f_X1_knows S0 p2).bind fun r1 => if r1 = 0 then (f_X1_isOn_b33 S0) else ((f_X1_bit S0 p2).bind fun r3 => if inB p2 7 then ((f_X1_bit S0 (S0.2.2.2.1 p2.toNatClampNeg)).bind fun r5 => if (p1 &&& (r3 ||| r5)) = 0 then (f_X1_isOn_b33 S0) else some 1) else none)
def f_X1_standIn_b34 (S0 : ST_X1) (v1 : Int32) : Option (Int32) :=
  some v1
def f_X1_standIn (S0 : ST_X1) (p1 : Int32) : Option (Int32) :=
  (f_X1_knows S0 p1).bind fun r1 => if r1 = 0 then (f_X1_standIn_b34 S0 p1) else (if inB p1 7 then ((f_X1_knows S0 (S0.2.2.2.1 p1.toNatClampNeg)).bind fun r4 => if r4 = 0 then (f_X1_standIn_b34 S0 p1) else (if inB p1 7 then (some (if (S0.2.2.2.1 p1.toNatClampNeg) < p1 then (S0.2.2.2.1 p1.toNatClampNeg) else p1)) else none)) else none)
def f_X1_newOf_b46 (S0 : ST_X1) (k4 : Int32 → Int32 → Int32 → Option (Int32)) (v1 : Int32) (v2 : Int32) (v3 : Int32) : Option (Int32) :=
  k4 v1 v2 (v3 + 1)
def f_X1_newOf_b4 (S0 : ST_X1) : Nat → Int32 → Int32 → Int32 → Option (Int32)
  | 0, _, _, _ => none
  | fu + 1, v1, v2, v3 => if S0.2.2.2.2.2.1 ≤ v3 then some v2 else ((f_X1_bit S0 v3).bind fun r2 => if (v1 &&& r2) = 0 then (f_X1_newOf_b46 S0 (f_X1_newOf_b4 S0 fu) v1 v2 v3) else ((f_X1_isOn S0 S0.2.2.2.2.2.2.2.1 v3).bind fun r4 => if r4 = 0 then ((f_X1_standIn S0 v3).bind fun r6 => (f_X1_bit S0 r6).bind fun r7 => f_X1_newOf_b46 S0 (f_X1_newOf_b4 S0 fu) v1 (v2 ||| r7) v3) else (f_X1_newOf_b46 S0 (f_X1_newOf_b4 S0 fu) v1 v2 v3)))
def f_X1_newOf (S0 : ST_X1) (p1 : Int32) : Option (Int32) :=
  f_X1_newOf_b4 S0 4096 p1 0 0
def f_J6_bitCount_0f7a4 (p0 : Int32) : Option (Int32) :=
  some ((((((((p0 - (((p0.toUInt32 >>> ((1 : Int32).toUInt32 &&& Int32.toUInt32 31)).toInt32) &&& 1431655765)) &&& 858993459) + ((((p0 - (((p0.toUInt32 >>> ((1 : Int32).toUInt32 &&& Int32.toUInt32 31)).toInt32) &&& 1431655765)).toUInt32 >>> ((2 : Int32).toUInt32 &&& Int32.toUInt32 31)).toInt32) &&& 858993459)) + (((((p0 - (((p0.toUInt32 >>> ((1 : Int32).toUInt32 &&& Int32.toUInt32 31)).toInt32) &&& 1431655765)) &&& 858993459) + ((((p0 - (((p0.toUInt32 >>> ((1 : Int32).toUInt32 &&& Int32.toUInt32 31)).toInt32) &&& 1431655765)).toUInt32 >>> ((2 : Int32).toUInt32 &&& Int32.toUInt32 31)).toInt32) &&& 858993459)).toUInt32 >>> ((4 : Int32).toUInt32 &&& Int32.toUInt32 31)).toInt32)) &&& 252645135) + (((((((p0 - (((p0.toUInt32 >>> ((1 : Int32).toUInt32 &&& Int32.toUInt32 31)).toInt32) &&& 1431655765)) &&& 858993459) + ((((p0 - (((p0.toUInt32 >>> ((1 : Int32).toUInt32 &&& Int32.toUInt32 31)).toInt32) &&& 1431655765)).toUInt32 >>> ((2 : Int32).toUInt32 &&& Int32.toUInt32 31)).toInt32) &&& 858993459)) + (((((p0 - (((p0.toUInt32 >>> ((1 : Int32).toUInt32 &&& Int32.toUInt32 31)).toInt32) &&& 1431655765)) &&& 858993459) + ((((p0 - (((p0.toUInt32 >>> ((1 : Int32).toUInt32 &&& Int32.toUInt32 31)).toInt32) &&& 1431655765)).toUInt32 >>> ((2 : Int32).toUInt32 &&& Int32.toUInt32 31)).toInt32) &&& 858993459)).toUInt32 >>> ((4 : Int32).toUInt32 &&& Int32.toUInt32 31)).toInt32)) &&& 252645135).toUInt32 >>> ((8 : Int32).toUInt32 &&& Int32.toUInt32 31)).toInt32)) + ((((((((p0 - (((p0.toUInt32 >>> ((1 : Int32).toUInt32 &&& Int32.toUInt32 31)).toInt32) &&& 1431655765)) &&& 858993459) + ((((p0 - (((p0.toUInt32 >>> ((1 : Int32).toUInt32 &&& Int32.toUInt32 31)).toInt32) &&& 1431655765)).toUInt32 >>> ((2 : Int32).toUInt32 &&& Int32.toUInt32 31)).toInt32) &&& 858993459)) + (((((p0 - (((p0.toUInt32 >>> ((1 : Int32).toUInt32 &&& Int32.toUInt32 31)).toInt32) &&& 1431655765)) &&& 858993459) + ((((p0 - (((p0.toUInt32 >>> ((1 : Int32).toUInt32 &&& Int32.toUInt32 31)).toInt32) &&& 1431655765)).toUInt32 >>> ((2 : Int32).toUInt32 &&& Int32.toUInt32 31)).toInt32) &&& 858993459)).toUInt32 >>> ((4 : Int32).toUInt32 &&& Int32.toUInt32 31)).toInt32)) &&& 252645135) + (((((((p0 - (((p0.toUInt32 >>> ((1 : Int32).toUInt32 &&& Int32.toUInt32 31)).toInt32) &&& 1431655765)) &&& 858993459) + ((((p0 - (((p0.toUInt32 >>> ((1 : Int32).toUInt32 &&& Int32.toUInt32 31)).toInt32) &&& 1431655765)).toUInt32 >>> ((2 : Int32).toUInt32 &&& Int32.toUInt32 31)).toInt32) &&& 858993459)) + (((((p0 - (((p0.toUInt32 >>> ((1 : Int32).toUInt32 &&& Int32.toUInt32 31)).toInt32) &&& 1431655765)) &&& 858993459) + ((((p0 - (((p0.toUInt32 >>> ((1 : Int32).toUInt32 &&& Int32.toUInt32 31)).toInt32) &&& 1431655765)).toUInt32 >>> ((2 : Int32).toUInt32 &&& Int32.toUInt32 31)).toInt32) &&& 858993459)).toUInt32 >>> ((4 : Int32).toUInt32 &&& Int32.toUInt32 31)).toInt32)) &&& 252645135).toUInt32 >>> ((8 : Int32).toUInt32 &&& Int32.toUInt32 31)).toInt32)).toUInt32 >>> ((16 : Int32).toUInt32 &&& Int32.toUInt32 31)).toInt32)) &&& 63)
def f_X1_worth (S0 : ST_X1) (p1 : Int32) : Option (Int32) :=
  (f_J6_bitCount_0f7a4 p1).bind fun r1 => (f_J6_bitCount_0f7a4 (p1 &&& S0.2.2.2.2.2.2.1)).bind fun r2 => some (r1 + r2)
def f_X1_worthOfAllNew (S0 : ST_X1) : Option (Int32) :=
  (f_X1_newOf S0 127).bind fun r1 => (f_X1_worth S0 r1).bind fun r2 => some r2
def f_X1_worthBeyondFriend_b48 (S0 : ST_X1) (k4 : Int32 → Int32 → Option (Int32)) (v1 : Int32) (v2 : Int32) : Option (Int32) :=
  k4 v1 (v2 + 1)
def f_X1_worthBeyondFriend_b4 (S0 : ST_X1) : Nat → Int32 → Int32 → Option (Int32)
  | 0, _, _ => none
  | fu + 1, v1, v2 => if S0.2.2.2.2.2.1 ≤ v2 then ((f_X1_worth S0 v1).bind fun r2 => some r2) else ((f_X1_isOn S0 S0.2.2.2.2.2.2.2.1 v2).bind fun r3 => if r3 = 0 then (f_X1_worthBeyondFriend_b48 S0 (f_X1_worthBeyondFriend_b4 S0 fu) v1 v2) else ((f_X1_isOn S0 S0.2.2.2.2.2.2.2.2 v2).bind fun r5 => if r5 = 0 then ((f_X1_standIn S0 v2).bind fun r7 => (f_X1_bit S0 r7).bind fun r8 => f_X1_worthBeyondFriend_b48 S0 (f_X1_worthBeyondFriend_b4 S0 fu) (v1 ||| r8) v2) else (f_X1_worthBeyondFriend_b48 S0 (f_X1_worthBeyondFriend_b4 S0 fu) v1 v2)))
def f_X1_worthBeyondFriend (S0 : ST_X1) : Option (Int32) :=
  f_X1_worthBeyondFriend_b4 S0 4096 0 0
def f_X2_add (S0 : ST_X2) (p1 : Int32) : Option (Int32 × ST_X2) :=
  if S0.2 < 64 then (if inB S0.2 64 then (some (1, ((upd S0.1 (S0.2.toNatClampNeg) p1), S0.2 + 1))) else none) else some (0, S0)
def f_X2_shapeFrom (p0 : Int32) : Option (Nat) :=
  if p0 = 101 then some 0 else (if p0 = 102 then some 3 else (if p0 = 106 then some 1 else (if p0 = 117 then some 2 else some 4)))
def f_J0_isEmpty_aae02 (p0 : Nat) : Option (Int32) :=
  if p0 < 6 then (if (Int32.ofNat (lenS.getD p0 0)) = 0 then some 1 else some 0) else none
def f_J3_checkIndex_8e157_b9 (v0 : Int32) (v1 : Int32) : Option (Int32) :=
  none
def f_J3_checkIndex_8e157 (p0 : Int32) (p1 : Int32) : Option (Int32) :=
  if p0 < 0 then (f_J3_checkIndex_8e157_b9 p0 p1) else (if p0 < p1 then some p0 else (f_J3_checkIndex_8e157_b9 p0 p1))
def f_J0_checkIndex_df160 (p0 : Int32) (p1 : Int32) : Option (Unit) :=
  (f_J3_checkIndex_8e157 p0 p1).bind fun r1 => some ()
def f_J1_charAt_3b067 (p0 : Nat) (p1 : Int32) : Option (Int32) :=
  if p0 < 6 then ((f_J0_checkIndex_df160 p1 (Int32.ofNat (lenS.getD p0 0))).bind fun r1 => if inB (p1) (lenS.getD p0 0) then (if (((((bytS.getD p0 []).getD (p1).toNatClampNeg 0) &&& 255).toUInt32 % 65536).toInt32).toUInt32.toUInt16.toUInt32.toInt32 = (((((bytS.getD p0 []).getD (p1).toNatClampNeg 0) &&& 255).toUInt32 % 65536).toInt32) then some (((((bytS.getD p0 []).getD (p1).toNatClampNeg 0) &&& 255).toUInt32 % 65536).toInt32) else none) else none) else none
def f_J0_charAt_5068e (p0 : Nat) (p1 : Int32) : Option (Int32) :=
  if p0 < 6 then ((f_J0_isLatin1_aae02 p0).bind fun r1 => if r1 = 0 then none else ((f_J1_charAt_3b067 p0 p1).bind fun r3 => if r3.toUInt32.toUInt16.toUInt32.toInt32 = r3 then some r3 else none)) else none
def f_X2_suits_b50 (S0 : ST_X2) : Option (Int32) :=
  some 0
def f_X2_suits (S0 : ST_X2) (p1 : Int32) (p2 : Int32) : Option (Int32) :=
  if p2 = 48 then ((f_X2_digit S0 p1).bind fun r2 => if r2 < 0 then (f_X2_suits_b50 S0) else ((f_X2_digit S0 p1).bind fun r4 => if 9 < r4 then (f_X2_suits_b50 S0) else some 1)) else (if p2 = 99 then ((f_X2_kind S0 p1).bind fun r6 => if r6 < 0 then some 0 else some 1) else ((f_X2_sign S0 p1).bind fun r8 => if r8 = p2 then some 1 else some 0))
def f_X2_stuckPlace_b22 (S0 : ST_X2) (k2 : Int32 → Option (Int32)) : Nat → Int32 → Nat → Int32 → Option (Int32)
  | 0, _, _, _ => none
  | fu + 1, v1, n2, v3 => if n2 < 6 then ((f_J0_length_8abf5 n2).bind fun r1 => if r1 ≤ v3 then (if (v1 + 1) < S0.2 then (k2 (v1 + 1)) else some (-1)) else ((f_J0_charAt_5068e n2 v3).bind fun r4 => (f_X2_suits S0 (v1 + 1) r4).bind fun r5 => if r5 = 0 then some (v1 + 1) else ((f_X2_stuckPlace_b22 S0 k2 fu) (v1 + 1) n2 (v3 + 1)))) else none
def f_X2_stuckPlace_b2 (S0 : ST_X2) : Nat → Int32 → Option (Int32)
  | 0, _ => none
  | fu + 1, v1 => (f_X2_sign S0 v1).bind fun r7 => (f_X2_shapeFrom r7).bind fun r8 => if r8 < 6 then ((f_J0_isEmpty_aae02 r8).bind fun r9 => if r9 = 0 then (f_X2_stuckPlace_b22 S0 (f_X2_stuckPlace_b2 S0 fu) 4096 v1 r8 1) else some v1) else none
def f_X2_stuckPlace (S0 : ST_X2) : Option (Int32) :=
  f_X2_stuckPlace_b2 S0 4096 0
def f_X4_newAt (S0 : ST_X4) (p1 : Int32) (p2 : Int32) : Option (Int32) :=
  (f_X1_passing S0.1 p1 p2).bind fun r1 => (f_X1_newOf S0.1 r1).bind fun r2 => some r2
def f_X3_keepIfBetter (S0 : ST_X3) (p1 : Int32) : Option (ST_X3) :=
  if p1 ≤ S0.2.2.2.1 then some S0 else (some (S0.1, S0.2.1, (va_cpy S0.2.1 S0.2.2.1 0 0 5), p1, S0.2.2.2.2))
def f_X3_extend_b14 (S1 : ST_X1) (kself : ST_X3 → ST_X1 → Int32 → Int32 → Int32 → Int32 → Option (ST_X3)) (S0 : ST_X3) (v5 : Int32) : Option (ST_X3) :=
  (f_X1_worth S1 v5).bind fun r1 => (f_X3_keepIfBetter S0 r1).bind fun r2 => some r2
def f_X3_extend_b112 (S1 : ST_X1) (kself : ST_X3 → ST_X1 → Int32 → Int32 → Int32 → Int32 → Option (ST_X3)) (k28 : ST_X3 → Int32 → Int32 → Int32 → Int32 → Int32 → Option (ST_X3)) (S0 : ST_X3) (v2 : Int32) (v3 : Int32) (v4 : Int32) (v5 : Int32) (v6 : Int32) : Option (ST_X3) :=
  k28 S0 v2 v3 v4 v5 (v6 + 1)
def f_X3_extend_b67 (S1 : ST_X1) (kself : ST_X3 → ST_X1 → Int32 → Int32 → Int32 → Int32 → Option (ST_X3)) (k28 : ST_X3 → Int32 → Int32 → Int32 → Int32 → Int32 → Option (ST_X3)) (S0 : ST_X3) (v2 : Int32) (v3 : Int32) (v4 : Int32) (v5 : Int32) (v6 : Int32) (w0 : Int32) : Option (ST_X3) :=
  if v4 < w0 then (f_X3_extend_b112 S1 kself k28 S0 v2 v3 v4 v5 v6) else (if inB v3 5 then (if inB ((v3 * 5) + v6) 25 then ((kself (S0.1, (upd S0.2.1 (v3.toNatClampNeg) v6), S0.2.2.1, S0.2.2.2.1, S0.2.2.2.2) S1 v2 (v3 + 1) (v4 - w0) (v5 ||| (S0.1 ((v3 * 5) + v6).toNatClampNeg))).bind fun r6 => f_X3_extend_b112 S1 kself k28 r6 v2 v3 v4 v5 v6) else none) else none)
def f_X3_extend_b28 (S1 : ST_X1) (kself : ST_X3 → ST_X1 → Int32 → Int32 → Int32 → Int32 → Option (ST_X3)) : Nat → ST_X3 → Int32 → Int32 → Int32 → Int32 → Int32 → Option (ST_X3)
  | 0, _, _, _, _, _, _ => none
  | fu + 1, S0, v2, v3, v4, v5, v6 => if 5 ≤ v6 then some S0 else (if S0.2.2.2.2 ≤ S0.2.2.2.1 then some S0 else (if v3 = 0 then (f_X3_extend_b67 S1 kself (f_X3_extend_b28 S1 kself fu) S0 v2 v3 v4 v5 v6 0) else (if inB (v3 - 1) 5 then (f_X3_extend_b67 S1 kself (f_X3_extend_b28 S1 kself fu) S0 v2 v3 v4 v5 v6 (if 0 ≤ (v6 - (S0.2.1 (v3 - 1).toNatClampNeg)) then (v6 - (S0.2.1 (v3 - 1).toNatClampNeg)) else 0 - (v6 - (S0.2.1 (v3 - 1).toNatClampNeg)))) else none)))
def f_X3_extend : Nat → ST_X3 → ST_X1 → Int32 → Int32 → Int32 → Int32 → Option (ST_X3)
  | 0, _, _, _, _, _, _ => none
  | fu + 1, S0, S1, p2, p3, p4, p5 => if p2 ≤ p3 then (f_X3_extend_b14 S1 (f_X3_extend fu) S0 p5) else (if 5 ≤ p3 then (f_X3_extend_b14 S1 (f_X3_extend fu) S0 p5) else (if 0 ≤ p3 then (f_X3_extend_b28 S1 (f_X3_extend fu) 4096 S0 p2 p3 p4 p5 0) else (f_X3_extend_b14 S1 (f_X3_extend fu) S0 p5)))
def f_X3_search_b66 (S1 : ST_X4) (S0 : ST_X3) (v2 : Int32) (v3 : Int32) (v4 : Int32) : Option (ST_X3) :=
  (f_X1_worth S1.1 v4).bind fun r1 => (f_X3_extend 8 (S0.1, S0.2.1, S0.2.2.1, (-1), r1) S1.1 v2 0 v3 0).bind fun r2 => some r2
def f_X3_search_b6 (S1 : ST_X4) : Nat → ST_X3 → Int32 → Int32 → Int32 → Int32 → Option (ST_X3)
  | 0, _, _, _, _, _ => none
  | fu + 1, S0, v2, v3, v4, v5 => if (v2 * 5) ≤ v5 then (f_X3_search_b66 S1 S0 v2 v3 v4) else (if 25 ≤ v5 then (f_X3_search_b66 S1 S0 v2 v3 v4) else ((f_X4_newAt S1 (v5 - v5 / 5 * 5) (S1.2.2 + (v5 / 5))).bind fun r5 => if inB v5 25 then (if inB v5 25 then ((f_X3_search_b6 S1 fu) ((upd S0.1 (v5.toNatClampNeg) r5), S0.2.1, S0.2.2.1, S0.2.2.2.1, S0.2.2.2.2) v2 v3 (v4 ||| ((upd S0.1 (v5.toNatClampNeg) r5) v5.toNatClampNeg)) (v5 + 1)) else none) else none))
def f_X3_search (S0 : ST_X3) (S1 : ST_X4) (p2 : Int32) (p3 : Int32) : Option (ST_X3) :=
  f_X3_search_b6 S1 4096 S0 p2 p3 0 0
def f_X4_copyFrom (S0 : ST_X4) (S1 : ST_X4) : Option (ST_X4) :=
  (f_X1_copyFrom S0.1 S1.1).bind fun r1 => (f_X0_copyFrom S0.2.1 S1.2.1).bind fun r2 => some (r1, r2, S1.2.2)
def f_X4_freshWorth_b5 (S0 : ST_X4) : Nat → Int32 → Int32 → Int32 → Int32 → Option (Int32)
  | 0, _, _, _, _ => none
  | fu + 1, v1, v2, v3, v4 => if v2 ≤ v4 then ((f_X1_worth S0.1 v3).bind fun r2 => some r2) else ((f_X4_newAt S0 v1 (S0.2.2 + v4)).bind fun r3 => (f_X4_freshWorth_b5 S0 fu) v1 v2 (v3 ||| r3) (v4 + 1))
def f_X4_freshWorth (S0 : ST_X4) (p1 : Int32) (p2 : Int32) : Option (Int32) :=
  f_X4_freshWorth_b5 S0 4096 p1 p2 0 0
def f_X4_drawnWorth_b8 (S0 : ST_X4) : Nat → Int32 → Int32 → Int32 → Int32 → Option (Int32)
  | 0, _, _, _, _ => none
  | fu + 1, v1, v3, v4, v5 => if v1 ≤ v5 then ((f_X1_worth S0.1 v4).bind fun r2 => some r2) else ((f_X4_newAt S0 (((((v3 * 1664525) + 1013904223) &&& 2147483647) / 256) - ((((v3 * 1664525) + 1013904223) &&& 2147483647) / 256) / 5 * 5) (S0.2.2 + v5)).bind fun r3 => (f_X4_drawnWorth_b8 S0 fu) v1 ((v3 * 1664525) + 1013904223) (v4 ||| r3) (v5 + 1))
def f_X4_drawnWorth (S0 : ST_X4) (p1 : Int32) (p2 : Int32) : Option (Int32) :=
  f_X4_drawnWorth_b8 S0 4096 p1 p2 0 0
def f_X4_daysUntil_b45 (S0 : ST_X4) (v3 : Int32) : Option (Int32) :=
  some v3
def f_X4_daysUntil_b47 (S0 : ST_X4) (k2 : Int32 → Int32 → Int32 → Option (Int32)) (v1 : Int32) (v2 : Int32) (v3 : Int32) : Option (Int32) :=
  k2 v1 v2 (v3 + 1)
def f_X4_daysUntil_b2 (S0 : ST_X4) : Nat → Int32 → Int32 → Int32 → Option (Int32)
  | 0, _, _, _ => none
  | fu + 1, v1, v2, v3 => if 60 < v3 then some (-9) else ((f_X1_placeOn S0.1 v1 (S0.2.2 + v3)).bind fun r2 => if v2 = (-1) then (if r2 = 9 then (f_X4_daysUntil_b47 S0 (f_X4_daysUntil_b2 S0 fu) v1 v2 v3) else (f_X4_daysUntil_b45 S0 v3)) else (if r2 = v2 then (f_X4_daysUntil_b45 S0 v3) else (f_X4_daysUntil_b47 S0 (f_X4_daysUntil_b2 S0 fu) v1 v2 v3)))
def f_X4_daysUntil (S0 : ST_X4) (p1 : Int32) (p2 : Int32) : Option (Int32) :=
  f_X4_daysUntil_b2 S0 4096 p1 p2 0
def f_X4_everWorth_b37 (S0 : ST_X4) (k4 : Int32 → Int32 → Option (Int32)) (v1 : Int32) (v2 : Int32) : Option (Int32) :=
  k4 v1 (v2 + 1)
def f_X4_everWorth_b4 (S0 : ST_X4) : Nat → Int32 → Int32 → Option (Int32)
  | 0, _, _ => none
  | fu + 1, v1, v2 => if S0.1.2.2.2.2.2.1 ≤ v2 then ((f_X1_newOf S0.1 v1).bind fun r2 => (f_X1_worth S0.1 r2).bind fun r3 => some r3) else ((f_X4_daysUntil S0 v2 (-1)).bind fun r4 => if r4 = (-9) then (f_X4_everWorth_b37 S0 (f_X4_everWorth_b4 S0 fu) v1 v2) else ((f_X1_bit S0.1 v2).bind fun r6 => f_X4_everWorth_b37 S0 (f_X4_everWorth_b4 S0 fu) (v1 ||| r6) v2))
def f_X4_everWorth (S0 : ST_X4) : Option (Int32) :=
  f_X4_everWorth_b4 S0 4096 0 0
def f_X4_goTogether_b3 (S0 : ST_X4) : Nat → Int32 → Int32 → Int32 → Int32 → Option (Int32)
  | 0, _, _, _, _ => none
  | fu + 1, v1, v2, v3, v4 => if v3 ≤ v4 then some 1 else ((f_X1_placeOn S0.1 v1 (S0.2.2 + v4)).bind fun r2 => (f_X1_placeOn S0.1 v2 (S0.2.2 + v4)).bind fun r3 => if r2 = r3 then ((f_X4_goTogether_b3 S0 fu) v1 v2 v3 (v4 + 1)) else some 0)
def f_X4_goTogether (S0 : ST_X4) (p1 : Int32) (p2 : Int32) (p3 : Int32) : Option (Int32) :=
  f_X4_goTogether_b3 S0 4096 p1 p2 p3 0
def f_X4_blurredFigure (p0 : Int32) : Option (Int32) :=
  if p0 = 8 then some 3 else some p0
def f_X4_blurred (p0 : Int32) : Option (Int32) :=
  (f_X4_blurredFigure (p0 / 10)).bind fun r1 => (f_X4_blurredFigure (p0 - p0 / 10 * 10)).bind fun r2 => some ((10 * r1) + r2)
def f_X4_fittingOnes_b121 (S0 : ST_X4) (k56 : Int32 → Int32 → Int32 → Int32 → Int32 → Option (Int32)) (v2 : Int32) (v3 : Int32) (v4 : Int32) (v5 : Int32) (v6 : Int32) : Option (Int32) :=
  k56 v2 v3 v4 v5 (v6 + 1)
def f_X4_fittingOnes_b104 (S0 : ST_X4) (k56 : Int32 → Int32 → Int32 → Int32 → Int32 → Option (Int32)) (v2 : Int32) (v3 : Int32) (v4 : Int32) (v5 : Int32) (v6 : Int32) : Option (Int32) :=
  (f_X1_bit S0.1 v6).bind fun r1 => f_X4_fittingOnes_b121 S0 k56 v2 v3 v4 (v5 ||| (v4 &&& r1)) v6
def f_X4_fittingOnes_b56 (S0 : ST_X4) : Nat → Int32 → Int32 → Int32 → Int32 → Int32 → Option (Int32)
  | 0, _, _, _, _, _ => none
  | fu + 1, v2, v3, v4, v5, v6 => if S0.1.2.2.2.2.2.1 ≤ v6 then some v5 else ((f_X1_number S0.1 v6).bind fun r3 => if v2 = 0 then ((f_X4_blurred r3).bind fun r5 => (f_X4_blurred v3).bind fun r6 => if r5 = r6 then (f_X4_fittingOnes_b104 S0 (f_X4_fittingOnes_b56 S0 fu) v2 v3 v4 v5 v6) else (f_X4_fittingOnes_b121 S0 (f_X4_fittingOnes_b56 S0 fu) v2 v3 v4 v5 v6)) else (if r3 = v3 then (f_X4_fittingOnes_b104 S0 (f_X4_fittingOnes_b56 S0 fu) v2 v3 v4 v5 v6) else (f_X4_fittingOnes_b121 S0 (f_X4_fittingOnes_b56 S0 fu) v2 v3 v4 v5 v6)))
def f_X4_fittingOnes (S0 : ST_X4) (p1 : Int32) (p2 : Int32) : Option (Int32) :=
  (f_X0_holds S0.2.1 p1).bind fun r9 => if r9 = 0 then some 0 else (if inB p1 12 then (if inB p1 12 then (if inB p1 12 then ((f_X1_passing S0.1 (S0.2.1.2.1 p1.toNatClampNeg) (S0.2.1.1 p1.toNatClampNeg)).bind fun r14 => f_X4_fittingOnes_b56 S0 4096 p2 (S0.2.1.2.2.1 p1.toNatClampNeg) r14 0 0) else none) else none) else none)
def f_X4_madeUpOnes_b30 (S0 : ST_X4) (k4 : Int32 → Int32 → Option (Int32)) (v1 : Int32) (v2 : Int32) : Option (Int32) :=
  k4 v1 (v2 + 1)
def f_X4_madeUpOnes_b4 (S0 : ST_X4) : Nat → Int32 → Int32 → Option (Int32)
  | 0, _, _ => none
  | fu + 1, v1, v2 => if S0.2.1.2.2.2.2 ≤ v2 then some v1 else ((f_X4_fittingOnes S0 v2 0).bind fun r2 => if r2 = 0 then (f_X4_madeUpOnes_b30 S0 (f_X4_madeUpOnes_b4 S0 fu) (v1 ||| (1 <<< (v2 &&& 31))) v2) else (f_X4_madeUpOnes_b30 S0 (f_X4_madeUpOnes_b4 S0 fu) v1 v2))
def f_X4_madeUpOnes (S0 : ST_X4) : Option (Int32) :=
  f_X4_madeUpOnes_b4 S0 4096 0 0
def f_X5_refuse_b23 (S0 : ST_X5) (v1 : Int32) : Option (Int32 × ST_X5) :=
  some (v1, S0)
def f_X5_refuse (S0 : ST_X5) (p1 : Int32) : Option (Int32 × ST_X5) :=
  if 0 ≤ p1 then (f_X5_refuse_b23 S0 p1) else (if p1 < (-6) then (f_X5_refuse_b23 S0 p1) else (if inB ((-p1) - 1) 6 then (if inB ((-p1) - 1) 6 then (f_X5_refuse_b23 (S0.1, S0.2.1, S0.2.2.1, S0.2.2.2.1, S0.2.2.2.2.1, S0.2.2.2.2.2.1, S0.2.2.2.2.2.2.1, S0.2.2.2.2.2.2.2.1, (upd S0.2.2.2.2.2.2.2.2 (((-p1) - 1).toNatClampNeg) ((S0.2.2.2.2.2.2.2.2 ((-p1) - 1).toNatClampNeg) + 1))) p1) else none) else none))
def f_X5_letter_b29 (S0 : ST_X5) : Option (Int32 × ST_X5) :=
  (f_X5_refuse S0 (-6)).bind fun r1 => some (r1.1, r1.2)
def f_X5_letter (S0 : ST_X5) (p1 : Int32) : Option (Int32 × ST_X5) :=
  if 0 ≤ p1 then (if 255 < p1 then (f_X5_letter_b29 S0) else ((f_X2_add S0.1 p1).bind fun r4 => if r4.1 = 0 then (f_X5_letter_b29 (r4.2, S0.2.1, S0.2.2.1, S0.2.2.2.1, S0.2.2.2.2.1, S0.2.2.2.2.2.1, S0.2.2.2.2.2.2.1, S0.2.2.2.2.2.2.2.1, S0.2.2.2.2.2.2.2.2)) else (some (r4.2.2, (r4.2, S0.2.1, S0.2.2.1, S0.2.2.2.1, S0.2.2.2.2.1, S0.2.2.2.2.2.1, S0.2.2.2.2.2.2.1, S0.2.2.2.2.2.2.2.1, S0.2.2.2.2.2.2.2.2))))) else ((f_X5_refuse S0 (-4)).bind fun r6 => some (r6.1, r6.2))
def f_X5_landTold_b94 (k39 : ST_X5 → Int32 → Int32 → Int32 → Option (Int32 × ST_X5)) (S0 : ST_X5) (v2 : Int32) (v3 : Int32) (v4 : Int32) : Option (Int32 × ST_X5) :=
  k39 S0 v2 v3 (v4 + 1)
def f_X5_landTold_b39 : Nat → ST_X5 → Int32 → Int32 → Int32 → Option (Int32 × ST_X5)
  | 0, _, _, _, _ => none
  | fu + 1, S0, v2, v3, v4 => if S0.1.2 ≤ v4 then ((f_X1_copyFrom S0.2.1.1 S0.2.2.2.2.1).bind fun r2 => some (v2, (S0.1, (r2, S0.2.1.2.1, S0.2.1.2.2), S0.2.2.1, S0.2.2.2.1, S0.2.2.2.2.1, S0.2.2.2.2.2.1, S0.2.2.2.2.2.2.1, S0.2.2.2.2.2.2.2.1, S0.2.2.2.2.2.2.2.2))) else ((f_X2_sign S0.1 v4).bind fun r3 => if r3 = 59 then ((f_X1_takes S0.2.2.2.2.1 S0.1 v3).bind fun r5 => if r5.1 = 0 then (some ((-2000) - v3, (S0.1, S0.2.1, S0.2.2.1, S0.2.2.2.1, r5.2, S0.2.2.2.2.2.1, S0.2.2.2.2.2.2.1, S0.2.2.2.2.2.2.2.1, S0.2.2.2.2.2.2.2.2))) else (f_X5_landTold_b94 (f_X5_landTold_b39 fu) (S0.1, S0.2.1, S0.2.2.1, S0.2.2.2.1, r5.2, S0.2.2.2.2.2.1, S0.2.2.2.2.2.2.1, S0.2.2.2.2.2.2.2.1, S0.2.2.2.2.2.2.2.2) (v2 + 1) (v4 + 1) v4)) else (f_X5_landTold_b94 (f_X5_landTold_b39 fu) S0 v2 v3 v4))
def f_X5_landTold (S0 : ST_X5) : Option (Int32 × ST_X5) :=
  (f_X2_stuckPlace S0.1).bind fun r7 => if r7 < 0 then ((f_X1_copyFrom S0.2.2.2.2.1 S0.2.1.1).bind fun r9 => f_X5_landTold_b39 4096 (S0.1, S0.2.1, S0.2.2.1, S0.2.2.2.1, r9, S0.2.2.2.2.2.1, S0.2.2.2.2.2.2.1, S0.2.2.2.2.2.2.2.1, S0.2.2.2.2.2.2.2.2) 0 0 0) else (some ((-1000) - r7, S0))
def f_X5_land (S0 : ST_X5) : Option (Int32 × ST_X5) :=
  (f_X5_landTold S0).bind fun r1 => some (r1.1, ((r1.2.1.1, 0), r1.2.2.1, r1.2.2.2.1, r1.2.2.2.2.1, r1.2.2.2.2.2.1, r1.2.2.2.2.2.2.1, r1.2.2.2.2.2.2.2.1, r1.2.2.2.2.2.2.2.2.1, r1.2.2.2.2.2.2.2.2.2))
def f_X5_engine (S0 : ST_X5) (p1 : Int32) (p2 : Int32) : Option (Int32 × ST_X5) :=
  (f_X1_knows S0.2.1.1 p1).bind fun r1 => if r1 = 0 then ((f_X5_refuse S0 (-1)).bind fun r11 => some (r11.1, r11.2)) else (if p2 = 0 then ((f_X1_number S0.2.1.1 p1).bind fun r4 => some (r4, S0)) else (if p2 = 1 then (if inB p1 7 then some (S0.2.1.1.2.1 p1.toNatClampNeg, S0) else none) else (if p2 = 2 then (if inB p1 7 then some (S0.2.1.1.2.2.1 p1.toNatClampNeg, S0) else none) else (if p2 = 3 then (if inB p1 7 then some (S0.2.1.1.2.2.2.1 p1.toNatClampNeg, S0) else none) else (if p2 = 4 then (some ((S0.2.1.1.2.2.2.2.2.2.2.1 >>> (p1 &&& 31)) &&& 1, S0)) else (if p2 = 5 then (some ((S0.2.1.1.2.2.2.2.2.2.2.2 >>> (p1 &&& 31)) &&& 1, S0)) else (if p2 = 6 then ((f_X1_isOn S0.2.1.1 S0.2.1.1.2.2.2.2.2.2.2.1 p1).bind fun r8 => if r8 = 0 then some (0, S0) else some (1, S0)) else ((f_X5_refuse S0 (-2)).bind fun r10 => some (r10.1, r10.2)))))))))
def f_X5_turn (S0 : ST_X5) (p1 : Int32) (p2 : Int32) : Option (Int32 × ST_X5) :=
  (f_X1_knows S0.2.1.1 p1).bind fun r1 => if r1 = 0 then ((f_X5_refuse S0 (-1)).bind fun r8 => some (r8.1, r8.2)) else (if 0 ≤ p2 then (if p2 < 7 then ((f_X1_turnOf S0.2.1.1 p1 p2).bind fun r5 => some (r5, S0)) else ((f_X5_refuse S0 (-6)).bind fun r6 => some (r6.1, r6.2))) else ((f_X5_refuse S0 (-4)).bind fun r7 => some (r7.1, r7.2)))
def f_X5_at (S0 : ST_X5) (p1 : Int32) (p2 : Int32) : Option (Int32 × ST_X5) :=
  (f_X1_knows S0.2.1.1 p1).bind fun r1 => if r1 = 0 then ((f_X5_refuse S0 (-1)).bind fun r8 => some (r8.1, r8.2)) else (if 0 ≤ p2 then (if p2 ≤ 1100 then ((f_X1_placeOn S0.2.1.1 p1 p2).bind fun r5 => some (r5, S0)) else ((f_X5_refuse S0 (-6)).bind fun r6 => some (r6.1, r6.2))) else ((f_X5_refuse S0 (-4)).bind fun r7 => some (r7.1, r7.2)))
def f_X5_pass (S0 : ST_X5) (p1 : Int32) (p2 : Int32) : Option (Int32 × ST_X5) :=
  (f_X5_isPlace p1).bind fun r1 => if r1 = 0 then ((f_X5_refuse S0 (-1)).bind fun r8 => some (r8.1, r8.2)) else (if 0 ≤ p2 then (if p2 ≤ 1100 then ((f_X1_passing S0.2.1.1 p1 p2).bind fun r5 => some (r5, S0)) else ((f_X5_refuse S0 (-6)).bind fun r6 => some (r6.1, r6.2))) else ((f_X5_refuse S0 (-4)).bind fun r7 => some (r7.1, r7.2)))
def f_X5_stand (S0 : ST_X5) (p1 : Int32) : Option (Int32 × ST_X5) :=
  (f_X5_isPlace p1).bind fun r1 => if r1 = 0 then ((f_X5_refuse S0 (-1)).bind fun r8 => some (r8.1, r8.2)) else (if S0.2.1.2.2 < 999 then ((f_X1_passing S0.2.1.1 p1 S0.2.1.2.2).bind fun r4 => (f_X1_newOf S0.2.1.1 r4).bind fun r5 => (f_X1_worth S0.2.1.1 r5).bind fun r6 => some (r6, (S0.1, ((S0.2.1.1.1, S0.2.1.1.2.1, S0.2.1.1.2.2.1, S0.2.1.1.2.2.2.1, S0.2.1.1.2.2.2.2.1, S0.2.1.1.2.2.2.2.2.1, S0.2.1.1.2.2.2.2.2.2.1, S0.2.1.1.2.2.2.2.2.2.2.1 ||| r4, S0.2.1.1.2.2.2.2.2.2.2.2), S0.2.1.2.1, S0.2.1.2.2 + 1), S0.2.2.1, S0.2.2.2.1, S0.2.2.2.2.1, S0.2.2.2.2.2.1, S0.2.2.2.2.2.2.1, S0.2.2.2.2.2.2.2.1, S0.2.2.2.2.2.2.2.2))) else ((f_X5_refuse S0 (-6)).bind fun r7 => some (r7.1, r7.2)))
def f_X5_rest_b33 (S0 : ST_X5) : Option (Int32 × ST_X5) :=
  (f_X5_refuse S0 (-6)).bind fun r1 => some (r1.1, r1.2)
def f_X5_rest (S0 : ST_X5) (p1 : Int32) : Option (Int32 × ST_X5) :=
  if 1 ≤ p1 then (if 60 < p1 then (f_X5_rest_b33 S0) else (if (S0.2.1.2.2 + p1) ≤ 999 then (some (S0.2.1.2.2 + p1, (S0.1, (S0.2.1.1, S0.2.1.2.1, S0.2.1.2.2 + p1), S0.2.2.1, S0.2.2.2.1, S0.2.2.2.2.1, S0.2.2.2.2.2.1, S0.2.2.2.2.2.2.1, S0.2.2.2.2.2.2.2.1, S0.2.2.2.2.2.2.2.2))) else (f_X5_rest_b33 S0))) else ((f_X5_refuse S0 (-4)).bind fun r5 => some (r5.1, r5.2))
def f_X5_underline_b31 (S0 : ST_X5) : Option (Int32 × ST_X5) :=
  (f_X5_refuse S0 (-2)).bind fun r1 => some (r1.1, r1.2)
def f_X5_underline (S0 : ST_X5) (p1 : Int32) (p2 : Int32) : Option (Int32 × ST_X5) :=
  (f_X1_knows S0.2.1.1 p1).bind fun r2 => if r2 = 0 then ((f_X5_refuse S0 (-1)).bind fun r6 => some (r6.1, r6.2)) else (if p2 < 0 then (f_X5_underline_b31 S0) else (if p2 ≤ 1 then (some ((S0.2.1.1.2.2.2.2.2.2.2.1 >>> (p1 &&& 31)) &&& 1, (S0.1, ((S0.2.1.1.1, S0.2.1.1.2.1, S0.2.1.1.2.2.1, S0.2.1.1.2.2.2.1, S0.2.1.1.2.2.2.2.1, S0.2.1.1.2.2.2.2.2.1, S0.2.1.1.2.2.2.2.2.2.1, (S0.2.1.1.2.2.2.2.2.2.2.1 &&& ((1 <<< (p1 &&& 31)) ^^^ (-1))) ||| (p2 <<< (p1 &&& 31)), S0.2.1.1.2.2.2.2.2.2.2.2), S0.2.1.2.1, S0.2.1.2.2), S0.2.2.1, S0.2.2.2.1, S0.2.2.2.2.1, S0.2.2.2.2.2.1, S0.2.2.2.2.2.2.1, S0.2.2.2.2.2.2.2.1, S0.2.2.2.2.2.2.2.2))) else (f_X5_underline_b31 S0)))
def f_X5_fresh (S0 : ST_X5) (p1 : Int32) (p2 : Int32) : Option (Int32 × ST_X5) :=
  (f_X5_isPlace p1).bind fun r1 => if r1 = 0 then ((f_X5_refuse S0 (-1)).bind fun r8 => some (r8.1, r8.2)) else (if 1 ≤ p2 then (if p2 ≤ 14 then ((f_X4_freshWorth S0.2.1 p1 p2).bind fun r5 => some (r5, S0)) else ((f_X5_refuse S0 (-6)).bind fun r6 => some (r6.1, r6.2))) else ((f_X5_refuse S0 (-4)).bind fun r7 => some (r7.1, r7.2)))
def f_X5_where_b62 (k32 : ST_X5 → Int32 → Int32 → Int32 → Int32 → Option (Int32 × ST_X5)) (S0 : ST_X5) (v1 : Int32) (v2 : Int32) (v3 : Int32) (v4 : Int32) : Option (Int32 × ST_X5) :=
  k32 S0 v1 v2 v3 (v4 + 1)
def f_X5_where_b32 : Nat → ST_X5 → Int32 → Int32 → Int32 → Int32 → Option (Int32 × ST_X5)
  | 0, _, _, _, _, _ => none
  | fu + 1, S0, v1, v2, v3, v4 => if 5 ≤ v4 then some (v2, S0) else ((f_X4_freshWorth S0.2.1 v4 v1).bind fun r2 => if r2 ≤ v3 then (f_X5_where_b62 (f_X5_where_b32 fu) S0 v1 v2 v3 v4) else (f_X5_where_b62 (f_X5_where_b32 fu) S0 v1 v4 r2 v4))
def f_X5_where (S0 : ST_X5) (p1 : Int32) : Option (Int32 × ST_X5) :=
  if 1 ≤ p1 then (if p1 ≤ 14 then (f_X5_where_b32 4096 S0 p1 0 (-1) 0) else ((f_X5_refuse S0 (-6)).bind fun r6 => some (r6.1, r6.2))) else ((f_X5_refuse S0 (-4)).bind fun r7 => some (r7.1, r7.2))
def f_X5_plan_b14 (S0 : ST_X5) : Option (Int32 × ST_X5) :=
  (f_X5_refuse S0 (-4)).bind fun r1 => some (r1.1, r1.2)
def f_X5_plan_b32 (S0 : ST_X5) : Option (Int32 × ST_X5) :=
  (f_X5_refuse S0 (-6)).bind fun r2 => some (r2.1, r2.2)
def f_X5_plan (S0 : ST_X5) (p1 : Int32) (p2 : Int32) (p3 : Int32) : Option (Int32 × ST_X5) :=
  if p1 < 1 then (f_X5_plan_b14 S0) else (if p2 < 0 then (f_X5_plan_b14 S0) else (if (-1) ≤ p3 then (if 5 < p1 then (f_X5_plan_b32 S0) else (if p2 ≤ 20 then (if p3 < p1 then ((f_X3_search S0.2.2.2.2.2.1 S0.2.1 p1 p2).bind fun r9 => if 0 ≤ p3 then (if inB p3 5 then (some (r9.2.2.1 p3.toNatClampNeg, (S0.1, S0.2.1, S0.2.2.1, S0.2.2.2.1, S0.2.2.2.2.1, r9, S0.2.2.2.2.2.2.1, S0.2.2.2.2.2.2.2.1, S0.2.2.2.2.2.2.2.2))) else none) else (some (r9.2.2.2.1, (S0.1, S0.2.1, S0.2.2.1, S0.2.2.2.1, S0.2.2.2.2.1, r9, S0.2.2.2.2.2.2.1, S0.2.2.2.2.2.2.2.1, S0.2.2.2.2.2.2.2.2)))) else (some ((-9), S0))) else (f_X5_plan_b32 S0))) else (f_X5_plan_b14 S0)))
def f_X5_await_b21 (S0 : ST_X5) : Option (Int32 × ST_X5) :=
  (f_X5_refuse S0 (-1)).bind fun r1 => some (r1.1, r1.2)
def f_X5_await (S0 : ST_X5) (p1 : Int32) (p2 : Int32) : Option (Int32 × ST_X5) :=
  (f_X1_knows S0.2.1.1 p1).bind fun r2 => if r2 = 0 then (f_X5_await_b21 S0) else ((f_X5_isPlace p2).bind fun r4 => if r4 = 0 then (f_X5_await_b21 S0) else ((f_X4_daysUntil S0.2.1 p1 p2).bind fun r6 => some (r6, S0)))
def f_X5_chase (S0 : ST_X5) (p1 : Int32) : Option (Int32 × ST_X5) :=
  (f_X1_knows S0.2.1.1 p1).bind fun r1 => if r1 = 0 then ((f_X5_refuse S0 (-1)).bind fun r4 => some (r4.1, r4.2)) else ((f_X4_daysUntil S0.2.1 p1 (-1)).bind fun r3 => some (r3, S0))
def f_X5_ever (S0 : ST_X5) : Option (Int32) :=
  (f_X4_everWorth S0.2.1).bind fun r1 => some r1
def f_X5_all_b19 : Nat → ST_X5 → Int32 → Int32 → Option (Int32 × ST_X5)
  | 0, _, _, _ => none
  | fu + 1, S0, v1, v2 => if 5 < v2 then (some ((-9), S0)) else ((f_X3_search S0.2.2.2.2.2.1 S0.2.1 v2 20).bind fun r2 => if r2.2.2.2.1 = v1 then (some (v2, (S0.1, S0.2.1, S0.2.2.1, S0.2.2.2.1, S0.2.2.2.2.1, r2, S0.2.2.2.2.2.2.1, S0.2.2.2.2.2.2.2.1, S0.2.2.2.2.2.2.2.2))) else ((f_X5_all_b19 fu) (S0.1, S0.2.1, S0.2.2.1, S0.2.2.2.1, S0.2.2.2.2.1, r2, S0.2.2.2.2.2.2.1, S0.2.2.2.2.2.2.2.1, S0.2.2.2.2.2.2.2.2) v1 (v2 + 1)))
def f_X5_all (S0 : ST_X5) : Option (Int32 × ST_X5) :=
  (f_X1_worthOfAllNew S0.2.1.1).bind fun r4 => if r4 = 0 then some (0, S0) else (f_X5_all_b19 4096 S0 r4 1)
def f_X5_reading_b18 (S0 : ST_X5) : Option (Int32 × ST_X5) :=
  (f_X5_refuse S0 (-1)).bind fun r1 => some (r1.1, r1.2)
def f_X5_reading_b34 (S0 : ST_X5) : Option (Int32 × ST_X5) :=
  (f_X5_refuse S0 (-4)).bind fun r2 => some (r2.1, r2.2)
def f_X5_reading_b72 (S0 : ST_X5) : Option (Int32 × ST_X5) :=
  (f_X5_refuse S0 (-6)).bind fun r3 => some (r3.1, r3.2)
def f_X5_reading (S0 : ST_X5) (p1 : Int32) (p2 : Int32) (p3 : Int32) (p4 : Int32) : Option (Int32 × ST_X5) :=
  (f_X5_isPlace p2).bind fun r4 => if r4 = 0 then (f_X5_reading_b18 S0) else (if p4 < 0 then (f_X5_reading_b18 S0) else (if p4 < 4 then (if p1 < 0 then (f_X5_reading_b34 S0) else (if 10 ≤ p3 then (if 1100 < p1 then (f_X5_reading_b72 S0) else (if 99 < p3 then (f_X5_reading_b72 S0) else ((f_X0_add S0.2.1.2.1 p1 p2 p3 p4).bind fun r12 => if r12.1 = 0 then (f_X5_reading_b72 (S0.1, (S0.2.1.1, r12.2, S0.2.1.2.2), S0.2.2.1, S0.2.2.2.1, S0.2.2.2.2.1, S0.2.2.2.2.2.1, S0.2.2.2.2.2.2.1, S0.2.2.2.2.2.2.2.1, S0.2.2.2.2.2.2.2.2)) else (some (r12.2.2.2.2.2, (S0.1, (S0.2.1.1, r12.2, S0.2.1.2.2), S0.2.2.1, S0.2.2.2.1, S0.2.2.2.2.1, S0.2.2.2.2.2.1, S0.2.2.2.2.2.2.1, S0.2.2.2.2.2.2.2.1, S0.2.2.2.2.2.2.2.2)))))) else (f_X5_reading_b34 S0))) else (f_X5_reading_b18 S0)))
def f_X5_forget (S0 : ST_X5) : Option (Int32 × ST_X5) :=
  if S0.2.1.2.1.2.2.2.2 = 0 then ((f_X5_refuse S0 (-3)).bind fun r2 => some (r2.1, r2.2)) else (some (S0.2.1.2.1.2.2.2.2 - 1, (S0.1, (S0.2.1.1, (S0.2.1.2.1.1, S0.2.1.2.1.2.1, S0.2.1.2.1.2.2.1, S0.2.1.2.1.2.2.2.1, S0.2.1.2.1.2.2.2.2 - 1), S0.2.1.2.2), S0.2.2.1, S0.2.2.2.1, S0.2.2.2.2.1, S0.2.2.2.2.2.1, S0.2.2.2.2.2.2.1, S0.2.2.2.2.2.2.2.1, S0.2.2.2.2.2.2.2.2)))
def f_X5_fitting_b18 (S0 : ST_X5) : Option (Int32 × ST_X5) :=
  (f_X5_refuse S0 (-1)).bind fun r1 => some (r1.1, r1.2)
def f_X5_fitting_b33 (S0 : ST_X5) : Option (Int32 × ST_X5) :=
  (f_X5_refuse S0 (-2)).bind fun r2 => some (r2.1, r2.2)
def f_X5_fitting_b55 (S0 : ST_X5) (w1 : Int32) (w2 : Int32) : Option (Int32 × ST_X5) :=
  (f_X4_fittingOnes S0.2.1 w1 w2).bind fun r3 => some (r3, S0)
def f_X5_fitting (S0 : ST_X5) (p1 : Int32) (p2 : Int32) : Option (Int32 × ST_X5) :=
  if p1 < 0 then (f_X5_fitting_b18 S0) else (if p1 < S0.2.1.2.1.2.2.2.2 then (if p2 < 0 then (f_X5_fitting_b33 S0) else (if p2 ≤ 1 then (if p2 = 1 then (f_X5_fitting_b55 S0 p1 1) else (f_X5_fitting_b55 S0 p1 0)) else (f_X5_fitting_b33 S0))) else (f_X5_fitting_b18 S0))
def f_X5_madeUp (S0 : ST_X5) : Option (Int32) :=
  (f_X4_madeUpOnes S0.2.1).bind fun r1 => some r1
def f_X5_liars_b64 (S0 : ST_X5) (k15 : Int32 → Int32 → Int32 → Int32 → Option (Int32)) (v1 : Int32) (v2 : Int32) (v3 : Int32) (v4 : Int32) : Option (Int32) :=
  k15 v1 v2 v3 (v4 + 1)
def f_X5_liars_b51 (S0 : ST_X5) (k15 : Int32 → Int32 → Int32 → Int32 → Option (Int32)) (v1 : Int32) (v2 : Int32) (v3 : Int32) (v4 : Int32) (v5 : Int32) : Option (Int32) :=
  if v5 = v2 then (f_X5_liars_b64 S0 k15 v1 v2 (v3 ||| (1 <<< (v4 &&& 31))) v4) else (f_X5_liars_b64 S0 k15 v1 v2 v3 v4)
def f_X5_liars_b15 (S0 : ST_X5) : Nat → Int32 → Int32 → Int32 → Int32 → Option (Int32)
  | 0, _, _, _, _ => none
  | fu + 1, v1, v2, v3, v4 => if 4 ≤ v4 then some v3 else ((f_X0_readBy S0.2.1.2.1 v4).bind fun r3 => (f_J6_bitCount_0f7a4 (v1 &&& r3)).bind fun r4 => if r4 ≤ v2 then (f_X5_liars_b51 S0 (f_X5_liars_b15 S0 fu) v1 v2 v3 v4 r4) else (f_X5_liars_b51 S0 (f_X5_liars_b15 S0 fu) v1 r4 0 v4 r4))
def f_X5_liars (S0 : ST_X5) : Option (Int32) :=
  (f_X4_madeUpOnes S0.2.1).bind fun r6 => f_X5_liars_b15 S0 4096 r6 1 0 0
def f_X5_clash_b9 (S0 : ST_X5) : Option (Int32 × ST_X5) :=
  (f_X5_refuse S0 (-2)).bind fun r1 => some (r1.1, r1.2)
def f_X5_clash_b86 (k20 : ST_X5 → Int32 → Int32 → Int32 → Option (Int32 × ST_X5)) (k39 : ST_X5 → Int32 → Int32 → Int32 → Int32 → Option (Int32 × ST_X5)) (S0 : ST_X5) (v1 : Int32) (v2 : Int32) (v3 : Int32) (v4 : Int32) : Option (Int32 × ST_X5) :=
  k39 S0 v1 v2 v3 (v4 + 1)
def f_X5_clash_b39 (k20 : ST_X5 → Int32 → Int32 → Int32 → Option (Int32 × ST_X5)) : Nat → ST_X5 → Int32 → Int32 → Int32 → Int32 → Option (Int32 × ST_X5)
  | 0, _, _, _, _, _ => none
  | fu + 1, S0, v1, v2, v3, v4 => if S0.2.1.2.1.2.2.2.2 ≤ v4 then (k20 S0 v1 v2 (v3 + 1)) else ((f_X0_cannotBothBe S0.2.1.2.1 v3 v4).bind fun r3 => if r3 = 0 then (f_X5_clash_b86 k20 (f_X5_clash_b39 k20 fu) S0 v1 v2 v3 v4) else (if v1 = 1 then (some ((12 * v3) + v4, S0)) else (f_X5_clash_b86 k20 (f_X5_clash_b39 k20 fu) S0 v1 (v2 + 1) v3 v4)))
def f_X5_clash_b20 : Nat → ST_X5 → Int32 → Int32 → Int32 → Option (Int32 × ST_X5)
  | 0, _, _, _, _ => none
  | fu + 1, S0, v1, v2, v3 => if S0.2.1.2.1.2.2.2.2 ≤ v3 then (if v1 = 1 then (some ((-9), S0)) else some (v2, S0)) else (f_X5_clash_b39 (f_X5_clash_b20 fu) 4096 S0 v1 v2 v3 (v3 + 1))
def f_X5_clash (S0 : ST_X5) (p1 : Int32) : Option (Int32 × ST_X5) :=
  if p1 < 0 then (f_X5_clash_b9 S0) else (if p1 ≤ 1 then (f_X5_clash_b20 4096 S0 p1 0 0) else (f_X5_clash_b9 S0))
def f_X5_sure_b40 (S0 : ST_X5) (k4 : Int32 → Int32 → Option (Int32)) (v1 : Int32) (v2 : Int32) : Option (Int32) :=
  k4 v1 (v2 + 1)
def f_X5_sure_b4 (S0 : ST_X5) : Nat → Int32 → Int32 → Option (Int32)
  | 0, _, _ => none
  | fu + 1, v1, v2 => if S0.2.1.2.1.2.2.2.2 ≤ v2 then some v1 else ((f_X4_fittingOnes S0.2.1 v2 0).bind fun r2 => (f_J6_bitCount_0f7a4 r2).bind fun r3 => if r3 = 1 then (f_X5_sure_b40 S0 (f_X5_sure_b4 S0 fu) (v1 ||| r2) v2) else (f_X5_sure_b40 S0 (f_X5_sure_b4 S0 fu) v1 v2))
def f_X5_sure (S0 : ST_X5) : Option (Int32) :=
  f_X5_sure_b4 S0 4096 0 0
def f_X5_pairs_b34 (S0 : ST_X5) : Option (Int32 × ST_X5) :=
  (f_X5_refuse S0 (-2)).bind fun r1 => some (r1.1, r1.2)
def f_X5_pairs_b114 (k46 : ST_X5 → Int32 → Int32 → Int32 → Int32 → Option (Int32 × ST_X5)) (k67 : ST_X5 → Int32 → Int32 → Int32 → Int32 → Int32 → Option (Int32 × ST_X5)) (S0 : ST_X5) (v1 : Int32) (v2 : Int32) (v3 : Int32) (v4 : Int32) (v5 : Int32) : Option (Int32 × ST_X5) :=
  k67 S0 v1 v2 v3 v4 (v5 + 1)
def f_X5_pairs_b67 (k46 : ST_X5 → Int32 → Int32 → Int32 → Int32 → Option (Int32 × ST_X5)) : Nat → ST_X5 → Int32 → Int32 → Int32 → Int32 → Int32 → Option (Int32 × ST_X5)
  | 0, _, _, _, _, _, _ => none
  | fu + 1, S0, v1, v2, v3, v4, v5 => if S0.2.1.1.2.2.2.2.2.1 ≤ v5 then (k46 S0 v1 v2 v3 (v4 + 1)) else ((f_X4_goTogether S0.2.1 v4 v5 v1).bind fun r3 => if r3 = 0 then (f_X5_pairs_b114 k46 (f_X5_pairs_b67 k46 fu) S0 v1 v2 v3 v4 v5) else (if v2 = 1 then (some ((10 * v4) + v5, S0)) else (f_X5_pairs_b114 k46 (f_X5_pairs_b67 k46 fu) S0 v1 v2 (v3 + 1) v4 v5)))
def f_X5_pairs_b46 : Nat → ST_X5 → Int32 → Int32 → Int32 → Int32 → Option (Int32 × ST_X5)
  | 0, _, _, _, _, _ => none
  | fu + 1, S0, v1, v2, v3, v4 => if S0.2.1.1.2.2.2.2.2.1 ≤ v4 then (if v2 = 1 then (some ((-9), S0)) else some (v3, S0)) else (f_X5_pairs_b67 (f_X5_pairs_b46 fu) 4096 S0 v1 v2 v3 v4 (v4 + 1))
def f_X5_pairs (S0 : ST_X5) (p1 : Int32) (p2 : Int32) : Option (Int32 × ST_X5) :=
  if 1 ≤ p1 then (if p1 ≤ 60 then (if p2 < 0 then (f_X5_pairs_b34 S0) else (if p2 ≤ 1 then (f_X5_pairs_b46 4096 S0 p1 p2 0 0) else (f_X5_pairs_b34 S0))) else ((f_X5_refuse S0 (-6)).bind fun r12 => some (r12.1, r12.2))) else ((f_X5_refuse S0 (-4)).bind fun r13 => some (r13.1, r13.2))
def f_X5_many (S0 : ST_X5) : Option (Int32) :=
  (f_X0_unlikeNumbers S0.2.1.2.1).bind fun r1 => if r1 = 0 then some 0 else ((f_X0_greatestNumber S0.2.1.2.1).bind fun r3 => if ¬ r1 = 0 then (some ((((r3 - 9) * (r1 + 1)) / r1) - 1)) else none)
def f_X5_more (S0 : ST_X5) : Option (Int32) :=
  (f_X1_worthBeyondFriend S0.2.1.1).bind fun r1 => some r1
def f_X5_seeds (S0 : ST_X5) (p1 : Int32) (p2 : Int32) : Option (Int32 × ST_X5) :=
  if 1 ≤ p1 then (if p1 ≤ 30 then ((f_X4_drawnWorth S0.2.1 p1 p2).bind fun r3 => some (r3, S0)) else ((f_X5_refuse S0 (-6)).bind fun r4 => some (r4.1, r4.2))) else ((f_X5_refuse S0 (-4)).bind fun r5 => some (r5.1, r5.2))
def f_X5_row_b26 (S0 : ST_X5) : Option (Int32 × ST_X5) :=
  (f_X5_refuse S0 (-6)).bind fun r1 => some (r1.1, r1.2)
def f_X5_row (S0 : ST_X5) (p1 : Int32) : Option (Int32 × ST_X5) :=
  if 0 ≤ p1 then (if 9 < p1 then (f_X5_row_b26 S0) else (if S0.2.2.2.2.2.2.2.1 < 14 then (if inB S0.2.2.2.2.2.2.2.1 14 then (some (S0.2.2.2.2.2.2.2.1 + 1, (S0.1, S0.2.1, S0.2.2.1, S0.2.2.2.1, S0.2.2.2.2.1, S0.2.2.2.2.2.1, (upd S0.2.2.2.2.2.2.1 (S0.2.2.2.2.2.2.2.1.toNatClampNeg) p1), S0.2.2.2.2.2.2.2.1 + 1, S0.2.2.2.2.2.2.2.2))) else none) else (f_X5_row_b26 S0))) else ((f_X5_refuse S0 (-4)).bind fun r6 => some (r6.1, r6.2))
def f_X5_judge_b80 (S0 : ST_X5) : Option (Int32 × ST_X5) :=
  some ((-9), S0)
def f_X5_judge_b32 : Nat → ST_X5 → Int32 → Int32 → Int32 → Option (Int32 × ST_X5)
  | 0, _, _, _, _ => none
  | fu + 1, S0, v1, v2, v3 => if v2 ≤ v3 then (f_X5_judge_b80 S0) else (if 14 ≤ v3 then (f_X5_judge_b80 S0) else (if inB v3 14 then ((f_X1_placeOn S0.2.1.1 v1 (S0.2.1.2.2 + v3)).bind fun r4 => if (S0.2.2.2.2.2.2.1 v3.toNatClampNeg) = r4 then ((f_X5_judge_b32 fu) S0 v1 v2 (v3 + 1)) else some (v3, S0)) else none))
def f_X5_judge (S0 : ST_X5) (p1 : Int32) : Option (Int32 × ST_X5) :=
  (f_X1_knows S0.2.1.1 p1).bind fun r6 => if r6 = 0 then ((f_X5_refuse S0 (-1)).bind fun r8 => some (r8.1, r8.2)) else (f_X5_judge_b32 4096 (S0.1, S0.2.1, S0.2.2.1, S0.2.2.2.1, S0.2.2.2.2.1, S0.2.2.2.2.2.1, S0.2.2.2.2.2.2.1, 0, S0.2.2.2.2.2.2.2.2) p1 S0.2.2.2.2.2.2.2.1 0)
def f_X5_image (S0 : ST_X5) : Option (Int32 × ST_X5) :=
  (f_X4_copyFrom S0.2.2.1 S0.2.1).bind fun r1 => some (S0.2.1.2.2, (S0.1, S0.2.1, r1, 1, S0.2.2.2.2.1, S0.2.2.2.2.2.1, S0.2.2.2.2.2.2.1, S0.2.2.2.2.2.2.2.1, S0.2.2.2.2.2.2.2.2))
def f_X5_on (S0 : ST_X5) : Option (Int32 × ST_X5) :=
  if S0.2.2.2.1 = 0 then ((f_X5_refuse S0 (-3)).bind fun r3 => some (r3.1, r3.2)) else ((f_X4_copyFrom S0.2.1 S0.2.2.1).bind fun r2 => some (r2.2.2, (S0.1, r2, S0.2.2.1, S0.2.2.2.1, S0.2.2.2.2.1, S0.2.2.2.2.2.1, S0.2.2.2.2.2.2.1, S0.2.2.2.2.2.2.2.1, S0.2.2.2.2.2.2.2.2)))
def f_X5_count_b154 (S0 : ST_X5) : Option (Int32) :=
  some (-9)
def f_X5_count (S0 : ST_X5) (p1 : Int32) : Option (Int32) :=
  if p1 = 0 then some S0.2.1.1.2.2.2.2.2.1 else (if p1 = 1 then some S0.2.1.2.2 else (if p1 = 2 then ((f_J6_bitCount_0f7a4 S0.2.1.1.2.2.2.2.2.2.2.1).bind fun r2 => some r2) else (if p1 = 3 then ((f_X1_worthOfAllNew S0.2.1.1).bind fun r3 => some r3) else (if p1 = 4 then some S0.2.1.2.1.2.2.2.2 else (if p1 = 5 then some S0.2.2.2.2.2.2.2.1 else (if p1 = 6 then some S0.1.2 else (if p1 = 7 then ((f_J6_bitCount_0f7a4 S0.2.1.1.2.2.2.2.2.2.2.2).bind fun r4 => some r4) else (if p1 ≤ 10 then (f_X5_count_b154 S0) else (if 16 < p1 then (f_X5_count_b154 S0) else (if inB (p1 - 11) 6 then (some (S0.2.2.2.2.2.2.2.2 (p1 - 11).toNatClampNeg)) else none))))))))))
def f_X6_refuse (S0 : ST_X6) (p1 : Int32) : Option (Int32 × ST_X6) :=
  if inB (-p1) 7 then (if inB (-p1) 7 then (some (p1, ((upd S0.1 ((-p1).toNatClampNeg) ((S0.1 (-p1).toNatClampNeg) + 1)), S0.2.1, S0.2.2.1, S0.2.2.2.1, S0.2.2.2.2.1, S0.2.2.2.2.2.1, S0.2.2.2.2.2.2.1, S0.2.2.2.2.2.2.2.1, S0.2.2.2.2.2.2.2.2.1, S0.2.2.2.2.2.2.2.2.2.1, S0.2.2.2.2.2.2.2.2.2.2.1, S0.2.2.2.2.2.2.2.2.2.2.2.1, S0.2.2.2.2.2.2.2.2.2.2.2.2.1, S0.2.2.2.2.2.2.2.2.2.2.2.2.2))) else none) else none
def f_X6_isIn_b13 : Option (Int32) :=
  some 0
def f_X6_isIn (p0 : Int32) (p1 : Int32) : Option (Int32) :=
  if p0 < 0 then (f_X6_isIn_b13) else (if p1 ≤ p0 then (f_X6_isIn_b13) else some 1)
def f_X6_within (p0 : Int32) (p1 : Int32) (p2 : Int32) : Option (Int32) :=
  if p1 ≤ p0 then (if p0 ≤ p2 then some 0 else some (-6)) else some (-4)
def f_X6_amount (p0 : Int32) : Option (Int32) :=
  if 0 ≤ p0 then some p0 else some (-p0)
def f_X6_copies_b2 (S0 : ST_A130) : Nat → ST_A130 → Int32 → Option (ST_A130)
  | 0, _, _ => none
  | fu + 1, S1, v2 => if 130 ≤ v2 then some S1 else (if inB v2 130 then (if inB v2 130 then ((f_X6_copies_b2 S0 fu) (upd S1 (v2.toNatClampNeg) (S0 v2.toNatClampNeg)) (v2 + 1)) else none) else none)
def f_X6_copies (S0 : ST_A130) (S1 : ST_A130) : Option (ST_A130) :=
  f_X6_copies_b2 S0 4096 S1 0
def f_X6_bits_b4 : Nat → Int32 → Int32 → Option (Int32)
  | 0, _, _ => none
  | fu + 1, v1, v2 => if v2 ≤ 0 then some v1 else ((f_X6_bits_b4 fu) (v1 + (v2 &&& 1)) (v2 >>> (1 &&& 31)))
def f_X6_bits (p0 : Int32) : Option (Int32) :=
  f_X6_bits_b4 4096 0 p0
def f_X6_isEngine (S0 : ST_X6) (p1 : Int32) : Option (Int32) :=
  (f_X6_isIn p1 (S0.2.1 0)).bind fun r1 => if r1 &&& 1 = r1 then some r1 else none
def f_X6_get (S0 : ST_X6) (p1 : Int32) (p2 : Int32) : Option (Int32) :=
  if inB ((5 + (11 * p1)) + p2) 130 then (some (S0.2.1 ((5 + (11 * p1)) + p2).toNatClampNeg)) else none
def f_X6_letter_b25 (S0 : ST_X6) (v1 : Int32) (v2 : Int32) : Option (Int32 × ST_X6) :=
  if v2 = 0 then (if inB S0.2.2.2.2.2.2.2.1 64 then (some (S0.2.2.2.2.2.2.2.1 + 1, (S0.1, S0.2.1, S0.2.2.1, S0.2.2.2.1, S0.2.2.2.2.1, (upd S0.2.2.2.2.2.1 (S0.2.2.2.2.2.2.2.1.toNatClampNeg) v1), S0.2.2.2.2.2.2.1, S0.2.2.2.2.2.2.2.1 + 1, S0.2.2.2.2.2.2.2.2.1, S0.2.2.2.2.2.2.2.2.2.1, S0.2.2.2.2.2.2.2.2.2.2.1, S0.2.2.2.2.2.2.2.2.2.2.2.1, S0.2.2.2.2.2.2.2.2.2.2.2.2.1, S0.2.2.2.2.2.2.2.2.2.2.2.2.2))) else none) else ((f_X6_refuse S0 v2).bind fun r3 => some (r3.1, r3.2))
def f_X6_letter (S0 : ST_X6) (p1 : Int32) : Option (Int32 × ST_X6) :=
  (f_X6_within p1 0 255).bind fun r4 => if r4 = 0 then (if S0.2.2.2.2.2.2.2.1 = 64 then (f_X6_letter_b25 S0 p1 (-6)) else (f_X6_letter_b25 S0 p1 r4)) else (f_X6_letter_b25 S0 p1 r4)
def f_X6_sign (S0 : ST_X6) : Option (Int32) :=
  if S0.2.2.2.2.2.2.2.1 ≤ S0.2.2.2.2.2.2.2.2.1 then some (-1) else (if inB S0.2.2.2.2.2.2.2.2.1 64 then some (S0.2.2.2.2.2.1 S0.2.2.2.2.2.2.2.2.1.toNatClampNeg) else none)
def f_X6_readsDigits_b9 : Nat → ST_X6 → Int32 → Int32 → Int32 → Option (Int32 × ST_X6)
  | 0, _, _, _, _ => none
  | fu + 1, S0, v1, v2, v3 => if v2 ≤ v3 then some (1, S0) else ((f_X6_sign S0).bind fun r2 => (f_X6_isIn (r2 - 48) 10).bind fun r3 => if r3 = 0 then some (0, S0) else (if inB v1 10 then ((f_X6_sign S0).bind fun r6 => if inB v1 10 then ((f_X6_readsDigits_b9 fu) (S0.1, S0.2.1, S0.2.2.1, S0.2.2.2.1, S0.2.2.2.2.1, S0.2.2.2.2.2.1, (upd S0.2.2.2.2.2.2.1 (v1.toNatClampNeg) (((10 * (S0.2.2.2.2.2.2.1 v1.toNatClampNeg)) + r6) - 48)), S0.2.2.2.2.2.2.2.1, S0.2.2.2.2.2.2.2.2.1 + 1, S0.2.2.2.2.2.2.2.2.2.1, S0.2.2.2.2.2.2.2.2.2.2.1, S0.2.2.2.2.2.2.2.2.2.2.2.1, S0.2.2.2.2.2.2.2.2.2.2.2.2.1, S0.2.2.2.2.2.2.2.2.2.2.2.2.2) v1 v2 (v3 + 1)) else none) else none))
def f_X6_readsDigits (S0 : ST_X6) (p1 : Int32) (p2 : Int32) : Option (Int32 × ST_X6) :=
  if inB p1 10 then (f_X6_readsDigits_b9 4096 (S0.1, S0.2.1, S0.2.2.1, S0.2.2.2.1, S0.2.2.2.2.1, S0.2.2.2.2.2.1, (upd S0.2.2.2.2.2.2.1 (p1.toNatClampNeg) 0), S0.2.2.2.2.2.2.2.1, S0.2.2.2.2.2.2.2.2.1, S0.2.2.2.2.2.2.2.2.2.1, S0.2.2.2.2.2.2.2.2.2.2.1, S0.2.2.2.2.2.2.2.2.2.2.2.1, S0.2.2.2.2.2.2.2.2.2.2.2.2.1, S0.2.2.2.2.2.2.2.2.2.2.2.2.2) p1 p2 0) else none
def f_X6_kindOf_b127 : Option (Int32) :=
  some (-9)
def f_X6_kindOf (p0 : Int32) : Option (Int32) :=
  if p0 = 97 then some 1 else (if p0 = 98 then (f_X6_kindOf_b127) else (if p0 = 99 then some 0 else (if p0 = 100 then (f_X6_kindOf_b127) else (if p0 = 101 then (f_X6_kindOf_b127) else (if p0 = 102 then (f_X6_kindOf_b127) else (if p0 = 103 then (f_X6_kindOf_b127) else (if p0 = 104 then (f_X6_kindOf_b127) else (if p0 = 105 then (f_X6_kindOf_b127) else (if p0 = 106 then (f_X6_kindOf_b127) else (if p0 = 107 then some 3 else (if p0 = 108 then (f_X6_kindOf_b127) else (if p0 = 109 then (f_X6_kindOf_b127) else (if p0 = 110 then some 6 else (if p0 = 111 then (f_X6_kindOf_b127) else (if p0 = 112 then (f_X6_kindOf_b127) else (if p0 = 113 then (f_X6_kindOf_b127) else (if p0 = 114 then (f_X6_kindOf_b127) else (if p0 = 115 then some 5 else (if p0 = 116 then (f_X6_kindOf_b127) else (if p0 = 117 then (f_X6_kindOf_b127) else (if p0 = 118 then (f_X6_kindOf_b127) else (if p0 = 119 then some 2 else (if p0 = 120 then some 4 else (f_X6_kindOf_b127))))))))))))))))))))))))
def f_X6_readsKind (S0 : ST_X6) : Option (Int32 × ST_X6) :=
  (f_X6_sign S0).bind fun r1 => (f_X6_kindOf r1).bind fun r2 => if 0 ≤ ((upd S0.2.2.2.2.2.2.1 1 r2) 1) then (some (1, (S0.1, S0.2.1, S0.2.2.1, S0.2.2.2.1, S0.2.2.2.2.1, S0.2.2.2.2.2.1, (upd S0.2.2.2.2.2.2.1 1 r2), S0.2.2.2.2.2.2.2.1, S0.2.2.2.2.2.2.2.2.1 + 1, S0.2.2.2.2.2.2.2.2.2.1, S0.2.2.2.2.2.2.2.2.2.2.1, S0.2.2.2.2.2.2.2.2.2.2.2.1, S0.2.2.2.2.2.2.2.2.2.2.2.2.1, S0.2.2.2.2.2.2.2.2.2.2.2.2.2))) else (some (0, (S0.1, S0.2.1, S0.2.2.1, S0.2.2.2.1, S0.2.2.2.2.1, S0.2.2.2.2.2.1, (upd S0.2.2.2.2.2.2.1 1 r2), S0.2.2.2.2.2.2.2.1, S0.2.2.2.2.2.2.2.2.1, S0.2.2.2.2.2.2.2.2.2.1, S0.2.2.2.2.2.2.2.2.2.2.1, S0.2.2.2.2.2.2.2.2.2.2.2.1, S0.2.2.2.2.2.2.2.2.2.2.2.2.1, S0.2.2.2.2.2.2.2.2.2.2.2.2.2)))
def f_X6_readsEngine_b25 (S0 : ST_X6) : Option (Int32 × ST_X6) :=
  some (0, S0)
def f_X6_readsEngine_b29 : Nat → ST_X6 → Int32 → Option (Int32 × ST_X6)
  | 0, _, _ => none
  | fu + 1, S0, v1 => if 7 ≤ v1 then some (1, S0) else ((f_X6_readsDigits S0 (3 + v1) 1).bind fun r2 => if r2.1 = 0 then some (0, r2.2) else ((f_X6_readsEngine_b29 fu) r2.2 (v1 + 1)))
def f_X6_readsEngine (S0 : ST_X6) : Option (Int32 × ST_X6) :=
  (f_X6_readsDigits S0 0 2).bind fun r4 => if r4.1 = 0 then (f_X6_readsEngine_b25 r4.2) else ((f_X6_readsKind r4.2).bind fun r6 => if r6.1 = 0 then (f_X6_readsEngine_b25 r6.2) else ((f_X6_readsDigits r6.2 2 1).bind fun r8 => if r8.1 = 0 then (f_X6_readsEngine_b25 r8.2) else (f_X6_readsEngine_b29 4096 r8.2 0)))
def f_X6_readsStatement_b130 (S0 : ST_X6) : Option (Int32 × ST_X6) :=
  some (0, S0)
def f_X6_readsStatement_b117 (S0 : ST_X6) (v2 : Int32) : Option (Int32 × ST_X6) :=
  if v2 = 0 then (f_X6_readsStatement_b130 S0) else ((f_X6_sign S0).bind fun r2 => if r2 = 59 then (some (1, (S0.1, S0.2.1, S0.2.2.1, S0.2.2.2.1, S0.2.2.2.2.1, S0.2.2.2.2.2.1, S0.2.2.2.2.2.2.1, S0.2.2.2.2.2.2.2.1, S0.2.2.2.2.2.2.2.2.1 + 1, S0.2.2.2.2.2.2.2.2.2.1, S0.2.2.2.2.2.2.2.2.2.2.1, S0.2.2.2.2.2.2.2.2.2.2.2.1, S0.2.2.2.2.2.2.2.2.2.2.2.2.1, S0.2.2.2.2.2.2.2.2.2.2.2.2.2))) else (f_X6_readsStatement_b130 S0))
def f_X6_readsStatement_b95 (S0 : ST_X6) : Option (Int32 × ST_X6) :=
  (f_X6_readsDigits S0 0 2).bind fun r4 => f_X6_readsStatement_b117 r4.2 r4.1
def f_X6_readsStatement_b91 (S0 : ST_X6) (w0 : Int32) : Option (Int32 × ST_X6) :=
  f_X6_readsStatement_b117 S0 w0
def f_X6_readsStatement_b90 (S0 : ST_X6) : Option (Int32 × ST_X6) :=
  f_X6_readsStatement_b91 S0 0
def f_X6_readsStatement (S0 : ST_X6) : Option (Int32 × ST_X6) :=
  (f_X6_sign S0).bind fun r5 => if r5 = 101 then ((f_X6_readsEngine (S0.1, S0.2.1, S0.2.2.1, S0.2.2.2.1, S0.2.2.2.2.1, S0.2.2.2.2.2.1, S0.2.2.2.2.2.2.1, S0.2.2.2.2.2.2.2.1, S0.2.2.2.2.2.2.2.2.1 + 1, S0.2.2.2.2.2.2.2.2.2.1, S0.2.2.2.2.2.2.2.2.2.2.1, S0.2.2.2.2.2.2.2.2.2.2.2.1, S0.2.2.2.2.2.2.2.2.2.2.2.2.1, S0.2.2.2.2.2.2.2.2.2.2.2.2.2)).bind fun r7 => f_X6_readsStatement_b117 r7.2 r7.1) else (if r5 = 102 then (f_X6_readsStatement_b95 (S0.1, S0.2.1, S0.2.2.1, S0.2.2.2.1, S0.2.2.2.2.1, S0.2.2.2.2.2.1, S0.2.2.2.2.2.2.1, S0.2.2.2.2.2.2.2.1, S0.2.2.2.2.2.2.2.2.1 + 1, S0.2.2.2.2.2.2.2.2.2.1, S0.2.2.2.2.2.2.2.2.2.2.1, S0.2.2.2.2.2.2.2.2.2.2.2.1, S0.2.2.2.2.2.2.2.2.2.2.2.2.1, S0.2.2.2.2.2.2.2.2.2.2.2.2.2)) else (if r5 = 106 then ((f_X6_readsDigits (S0.1, S0.2.1, S0.2.2.1, S0.2.2.2.1, S0.2.2.2.2.1, S0.2.2.2.2.2.1, S0.2.2.2.2.2.2.1, S0.2.2.2.2.2.2.2.1, S0.2.2.2.2.2.2.2.2.1 + 1, S0.2.2.2.2.2.2.2.2.2.1, S0.2.2.2.2.2.2.2.2.2.2.1, S0.2.2.2.2.2.2.2.2.2.2.2.1, S0.2.2.2.2.2.2.2.2.2.2.2.2.1, S0.2.2.2.2.2.2.2.2.2.2.2.2.2) 0 2).bind fun r8 => if r8.1 = 0 then (f_X6_readsStatement_b90 r8.2) else ((f_X6_readsDigits r8.2 1 2).bind fun r10 => if r10.1 = 0 then (f_X6_readsStatement_b90 r10.2) else (f_X6_readsStatement_b91 r10.2 1))) else (if r5 = 117 then (f_X6_readsStatement_b95 (S0.1, S0.2.1, S0.2.2.1, S0.2.2.2.1, S0.2.2.2.2.1, S0.2.2.2.2.2.1, S0.2.2.2.2.2.2.1, S0.2.2.2.2.2.2.2.1, S0.2.2.2.2.2.2.2.2.1 + 1, S0.2.2.2.2.2.2.2.2.2.1, S0.2.2.2.2.2.2.2.2.2.2.1, S0.2.2.2.2.2.2.2.2.2.2.2.1, S0.2.2.2.2.2.2.2.2.2.2.2.2.1, S0.2.2.2.2.2.2.2.2.2.2.2.2.2)) else (some (0, (S0.1, S0.2.1, S0.2.2.1, S0.2.2.2.1, S0.2.2.2.2.1, S0.2.2.2.2.2.1, S0.2.2.2.2.2.2.1, S0.2.2.2.2.2.2.2.1, (S0.2.2.2.2.2.2.2.2.1 + 1) - 1, S0.2.2.2.2.2.2.2.2.2.1, S0.2.2.2.2.2.2.2.2.2.2.1, S0.2.2.2.2.2.2.2.2.2.2.2.1, S0.2.2.2.2.2.2.2.2.2.2.2.2.1, S0.2.2.2.2.2.2.2.2.2.2.2.2.2))))))
def f_X6_numbered_b2 (S0 : ST_X6) : Nat → Int32 → Int32 → Option (Int32)
  | 0, _, _ => none
  | fu + 1, v1, v2 => if (S0.2.2.2.1 0) ≤ v2 then some (-9) else (if inB (5 + (11 * v2)) 130 then (if (S0.2.2.2.1 (5 + (11 * v2)).toNatClampNeg) = v1 then some v2 else ((f_X6_numbered_b2 S0 fu) v1 (v2 + 1))) else none)
def f_X6_numbered (S0 : ST_X6) (p1 : Int32) : Option (Int32) :=
  f_X6_numbered_b2 S0 4096 p1 0
def f_X6_comes_b41 (S0 : ST_X6) : Option (Int32 × ST_X6) :=
  some (0, S0)
def f_X6_comes_b74 (k45 : ST_X6 → Int32 → Option (Int32 × ST_X6)) (S0 : ST_X6) (v2 : Int32) : Option (Int32 × ST_X6) :=
  k45 S0 (v2 + 1)
def f_X6_comes_b144 : Nat → ST_X6 → Int32 → Int32 → Option (Int32 × ST_X6)
  | 0, _, _, _ => none
  | fu + 1, S0, v2, v3 => if 7 ≤ v3 then (some (1, (S0.1, S0.2.1, S0.2.2.1, (upd S0.2.2.2.1 0 ((S0.2.2.2.1 0) + 1)), S0.2.2.2.2.1, S0.2.2.2.2.2.1, S0.2.2.2.2.2.2.1, S0.2.2.2.2.2.2.2.1, S0.2.2.2.2.2.2.2.2.1, S0.2.2.2.2.2.2.2.2.2.1, S0.2.2.2.2.2.2.2.2.2.2.1, S0.2.2.2.2.2.2.2.2.2.2.2.1, S0.2.2.2.2.2.2.2.2.2.2.2.2.1, S0.2.2.2.2.2.2.2.2.2.2.2.2.2))) else (if inB (3 + v3) 10 then (if inB ((v2 + 4) + v3) 130 then ((f_X6_comes_b144 fu) (S0.1, S0.2.1, S0.2.2.1, (upd S0.2.2.2.1 (((v2 + 4) + v3).toNatClampNeg) (S0.2.2.2.2.2.2.1 (3 + v3).toNatClampNeg)), S0.2.2.2.2.1, S0.2.2.2.2.2.1, S0.2.2.2.2.2.2.1, S0.2.2.2.2.2.2.2.1, S0.2.2.2.2.2.2.2.2.1, S0.2.2.2.2.2.2.2.2.2.1, S0.2.2.2.2.2.2.2.2.2.2.1, S0.2.2.2.2.2.2.2.2.2.2.2.1, S0.2.2.2.2.2.2.2.2.2.2.2.2.1, S0.2.2.2.2.2.2.2.2.2.2.2.2.2) v2 (v3 + 1)) else none) else none)
def f_X6_comes_b45 : Nat → ST_X6 → Int32 → Option (Int32 × ST_X6)
  | 0, _, _ => none
  | fu + 1, S0, v2 => if 10 ≤ v2 then (if inB (5 + (11 * (S0.2.2.2.1 0))) 130 then (if inB ((5 + (11 * (S0.2.2.2.1 0))) + 1) 130 then (if inB ((5 + (11 * (S0.2.2.2.1 0))) + 2) 130 then (if inB ((5 + (11 * (S0.2.2.2.1 0))) + 3) 130 then (f_X6_comes_b144 4096 (S0.1, S0.2.1, S0.2.2.1, (upd (upd (upd (upd S0.2.2.2.1 ((5 + (11 * (S0.2.2.2.1 0))).toNatClampNeg) (S0.2.2.2.2.2.2.1 0)) (((5 + (11 * (S0.2.2.2.1 0))) + 1).toNatClampNeg) (S0.2.2.2.2.2.2.1 1)) (((5 + (11 * (S0.2.2.2.1 0))) + 2).toNatClampNeg) (S0.2.2.2.2.2.2.1 2)) (((5 + (11 * (S0.2.2.2.1 0))) + 3).toNatClampNeg) (-9)), S0.2.2.2.2.1, S0.2.2.2.2.2.1, S0.2.2.2.2.2.2.1, S0.2.2.2.2.2.2.2.1, S0.2.2.2.2.2.2.2.2.1, S0.2.2.2.2.2.2.2.2.2.1, S0.2.2.2.2.2.2.2.2.2.2.1, S0.2.2.2.2.2.2.2.2.2.2.2.1, S0.2.2.2.2.2.2.2.2.2.2.2.2.1, S0.2.2.2.2.2.2.2.2.2.2.2.2.2) (5 + (11 * (S0.2.2.2.1 0))) 0) else none) else none) else none) else none) else (if inB v2 10 then (if (S0.2.2.2.2.2.2.1 v2.toNatClampNeg) < 5 then (f_X6_comes_b74 (f_X6_comes_b45 fu) S0 v2) else (if inB v2 10 then (if (S0.2.2.2.2.2.2.1 v2.toNatClampNeg) = 9 then (f_X6_comes_b74 (f_X6_comes_b45 fu) S0 v2) else some (0, S0)) else none)) else none)
def f_X6_comes_b299 (S0 : ST_X6) : Option (Int32 × ST_X6) :=
  some (0, S0)
def f_X6_comes_b239 (S0 : ST_X6) (v1 : Int32) (v2 : Int32) : Option (Int32 × ST_X6) :=
  if v1 = 106 then ((f_X6_numbered S0 (S0.2.2.2.2.2.2.1 1)).bind fun r14 => if r14 < 0 then (f_X6_comes_b299 S0) else (if v2 = r14 then (f_X6_comes_b299 S0) else (if inB ((5 + (11 * v2)) + 3) 130 then (if 0 ≤ (S0.2.2.2.1 ((5 + (11 * v2)) + 3).toNatClampNeg) then (f_X6_comes_b299 S0) else (if inB ((5 + (11 * r14)) + 3) 130 then (if (S0.2.2.2.1 ((5 + (11 * r14)) + 3).toNatClampNeg) < 0 then (if inB ((5 + (11 * v2)) + 3) 130 then (if inB ((5 + (11 * r14)) + 3) 130 then (some (1, (S0.1, S0.2.1, S0.2.2.1, (upd (upd S0.2.2.2.1 (((5 + (11 * v2)) + 3).toNatClampNeg) r14) (((5 + (11 * r14)) + 3).toNatClampNeg) v2), S0.2.2.2.2.1, S0.2.2.2.2.2.1, S0.2.2.2.2.2.2.1, S0.2.2.2.2.2.2.2.1, S0.2.2.2.2.2.2.2.2.1, S0.2.2.2.2.2.2.2.2.2.1, S0.2.2.2.2.2.2.2.2.2.2.1, S0.2.2.2.2.2.2.2.2.2.2.2.1, S0.2.2.2.2.2.2.2.2.2.2.2.2.1, S0.2.2.2.2.2.2.2.2.2.2.2.2.2))) else none) else none) else (f_X6_comes_b299 S0)) else none)) else none))) else some (1, S0)
def f_X6_comes_b221 (S0 : ST_X6) (v1 : Int32) (v2 : Int32) : Option (Int32 × ST_X6) :=
  if v1 = 102 then (f_X6_comes_b239 (S0.1, S0.2.1, S0.2.2.1, (upd S0.2.2.2.1 3 ((S0.2.2.2.1 3) ||| (1 <<< (v2 &&& 31)))), S0.2.2.2.2.1, S0.2.2.2.2.2.1, S0.2.2.2.2.2.2.1, S0.2.2.2.2.2.2.2.1, S0.2.2.2.2.2.2.2.2.1, S0.2.2.2.2.2.2.2.2.2.1, S0.2.2.2.2.2.2.2.2.2.2.1, S0.2.2.2.2.2.2.2.2.2.2.2.1, S0.2.2.2.2.2.2.2.2.2.2.2.2.1, S0.2.2.2.2.2.2.2.2.2.2.2.2.2) v1 v2) else (f_X6_comes_b239 S0 v1 v2)
def f_X6_comes (S0 : ST_X6) (p1 : Int32) : Option (Int32 × ST_X6) :=
  if p1 = 101 then (if (S0.2.2.2.2.2.2.1 0) < 10 then (f_X6_comes_b41 S0) else ((f_X6_numbered S0 (S0.2.2.2.2.2.2.1 0)).bind fun r29 => if 0 ≤ r29 then (f_X6_comes_b41 S0) else (if (S0.2.2.2.1 0) = 7 then (f_X6_comes_b41 S0) else (f_X6_comes_b45 4096 S0 3)))) else ((f_X6_numbered S0 (S0.2.2.2.2.2.2.1 0)).bind fun r25 => if 0 ≤ r25 then (if p1 = 117 then (f_X6_comes_b221 (S0.1, S0.2.1, S0.2.2.1, (upd S0.2.2.2.1 2 ((S0.2.2.2.1 2) ||| (1 <<< (r25 &&& 31)))), S0.2.2.2.2.1, S0.2.2.2.2.2.1, S0.2.2.2.2.2.2.1, S0.2.2.2.2.2.2.2.1, S0.2.2.2.2.2.2.2.2.1, S0.2.2.2.2.2.2.2.2.2.1, S0.2.2.2.2.2.2.2.2.2.2.1, S0.2.2.2.2.2.2.2.2.2.2.2.1, S0.2.2.2.2.2.2.2.2.2.2.2.2.1, S0.2.2.2.2.2.2.2.2.2.2.2.2.2) p1 r25) else (f_X6_comes_b221 S0 p1 r25)) else some (0, S0))
def f_X6_reads_b53 : Nat → ST_X6 → Int32 → Option (Int32 × ST_X6)
  | 0, _, _ => none
  | fu + 1, S0, v1 => if S0.2.2.2.2.2.2.2.1 ≤ S0.2.2.2.2.2.2.2.2.1 then ((f_X6_copies S0.2.2.2.1 S0.2.1).bind fun r2 => some (v1, (S0.1, r2, S0.2.2.1, S0.2.2.2.1, S0.2.2.2.2.1, S0.2.2.2.2.2.1, S0.2.2.2.2.2.2.1, S0.2.2.2.2.2.2.2.1, S0.2.2.2.2.2.2.2.2.1, S0.2.2.2.2.2.2.2.2.2.1, S0.2.2.2.2.2.2.2.2.2.2.1, S0.2.2.2.2.2.2.2.2.2.2.2.1, S0.2.2.2.2.2.2.2.2.2.2.2.2.1, S0.2.2.2.2.2.2.2.2.2.2.2.2.2))) else ((f_X6_sign S0).bind fun r3 => (f_X6_readsStatement S0).bind fun r4 => (f_X6_comes r4.2 r3).bind fun r5 => if r5.1 = 0 then (some ((-2000) - S0.2.2.2.2.2.2.2.2.1, r5.2)) else ((f_X6_reads_b53 fu) r5.2 v1))
def f_X6_reads_b7 : Nat → ST_X6 → Int32 → Option (Int32 × ST_X6)
  | 0, _, _ => none
  | fu + 1, S0, v1 => (f_X6_readsStatement S0).bind fun r7 => if r7.1 = 0 then (some ((-1000) - r7.2.2.2.2.2.2.2.2.2.1, r7.2)) else (if r7.2.2.2.2.2.2.2.2.2.1 < r7.2.2.2.2.2.2.2.2.1 then ((f_X6_reads_b7 fu) r7.2 (v1 + 1)) else ((f_X6_copies r7.2.2.1 r7.2.2.2.2.1).bind fun r10 => f_X6_reads_b53 4096 (r7.2.1, r7.2.2.1, r7.2.2.2.1, r10, r7.2.2.2.2.2.1, r7.2.2.2.2.2.2.1, r7.2.2.2.2.2.2.2.1, r7.2.2.2.2.2.2.2.2.1, 0, r7.2.2.2.2.2.2.2.2.2.2.1, r7.2.2.2.2.2.2.2.2.2.2.2.1, r7.2.2.2.2.2.2.2.2.2.2.2.2.1, r7.2.2.2.2.2.2.2.2.2.2.2.2.2.1, r7.2.2.2.2.2.2.2.2.2.2.2.2.2.2) (v1 + 1)))
def f_X6_reads (S0 : ST_X6) : Option (Int32 × ST_X6) :=
  f_X6_reads_b7 4096 (S0.1, S0.2.1, S0.2.2.1, S0.2.2.2.1, S0.2.2.2.2.1, S0.2.2.2.2.2.1, S0.2.2.2.2.2.2.1, S0.2.2.2.2.2.2.2.1, 0, S0.2.2.2.2.2.2.2.2.2.1, S0.2.2.2.2.2.2.2.2.2.2.1, S0.2.2.2.2.2.2.2.2.2.2.2.1, S0.2.2.2.2.2.2.2.2.2.2.2.2.1, S0.2.2.2.2.2.2.2.2.2.2.2.2.2) 0
def f_X6_land (S0 : ST_X6) : Option (Int32 × ST_X6) :=
  (f_X6_reads S0).bind fun r1 => some (r1.1, (r1.2.1, r1.2.2.1, r1.2.2.2.1, r1.2.2.2.2.1, r1.2.2.2.2.2.1, r1.2.2.2.2.2.2.1, r1.2.2.2.2.2.2.2.1, 0, r1.2.2.2.2.2.2.2.2.2.1, r1.2.2.2.2.2.2.2.2.2.2.1, r1.2.2.2.2.2.2.2.2.2.2.2.1, r1.2.2.2.2.2.2.2.2.2.2.2.2.1, r1.2.2.2.2.2.2.2.2.2.2.2.2.2.1, r1.2.2.2.2.2.2.2.2.2.2.2.2.2.2))
def f_X6_turnOf (S0 : ST_X6) (p1 : Int32) (p2 : Int32) : Option (Int32) :=
  (f_X6_get S0 p1 (4 + (p2 - p2 / 7 * 7))).bind fun r1 => some r1
def f_X6_isAt_b139 (S0 : ST_X6) (v2 : Int32) (w1 : Int32) : Option (Int32) :=
  (f_X6_turnOf S0 w1 v2).bind fun r1 => some r1
def f_X6_isAt (S0 : ST_X6) (p1 : Int32) (p2 : Int32) : Option (Int32) :=
  (f_X6_get S0 p1 2).bind fun r2 => (f_X6_get S0 p1 1).bind fun r3 => if r3 = 1 then (if (p2 - p2 / 7 * 7) < r2 then ((f_X6_turnOf S0 p1 p2).bind fun r6 => some r6) else some 9) else (if r3 = 2 then (if ¬ (r2 + 2) = 0 then (if ((p2 / 7) - (p2 / 7) / (r2 + 2) * (r2 + 2)) = 0 then some 9 else ((f_X6_turnOf S0 p1 p2).bind fun r9 => some r9)) else none) else (if r3 = 3 then some (r2 - r2 / 5 * 5) else (if r3 = 4 then (if r2 ≤ (p2 / 7) then some 9 else ((f_X6_turnOf S0 p1 p2).bind fun r11 => some r11)) else (if r3 = 5 then (if ((p2 / 7) - (p2 / 7) / 2 * 2) = 1 then (if ¬ (S0.2.1 0) = 0 then (f_X6_isAt_b139 S0 p2 ((p1 + 1) - (p1 + 1) / (S0.2.1 0) * (S0.2.1 0))) else none) else (f_X6_isAt_b139 S0 p2 p1)) else ((f_X6_turnOf S0 p1 p2).bind fun r14 => some r14)))))
def f_X6_passes_b34 (S0 : ST_X6) (k5 : Int32 → Int32 → Int32 → Int32 → Option (Int32)) (v1 : Int32) (v2 : Int32) (v3 : Int32) (v4 : Int32) : Option (Int32) :=
  k5 v1 v2 v3 (v4 + 1)
def f_X6_passes_b5 (S0 : ST_X6) : Nat → Int32 → Int32 → Int32 → Int32 → Option (Int32)
  | 0, _, _, _, _ => none
  | fu + 1, v1, v2, v3, v4 => if (S0.2.1 0) ≤ v4 then some v3 else ((f_X6_isAt S0 v4 v2).bind fun r2 => if r2 = v1 then (f_X6_passes_b34 S0 (f_X6_passes_b5 S0 fu) v1 v2 (v3 ||| (1 <<< (v4 &&& 31))) v4) else (f_X6_passes_b34 S0 (f_X6_passes_b5 S0 fu) v1 v2 v3 v4))
def f_X6_passes (S0 : ST_X6) (p1 : Int32) (p2 : Int32) : Option (Int32) :=
  f_X6_passes_b5 S0 4096 p1 p2 0 0
def f_X6_groupOf_b24 (S0 : ST_X6) (w0 : Int32) (w1 : Int32) : Option (Int32) :=
  some (w0 ||| w1)
def f_X6_groupOf (S0 : ST_X6) (p1 : Int32) : Option (Int32) :=
  (f_X6_get S0 p1 3).bind fun r1 => if 0 ≤ r1 then ((f_X6_get S0 p1 3).bind fun r3 => f_X6_groupOf_b24 S0 (1 <<< (p1 &&& 31)) (1 <<< (r3 &&& 31))) else (f_X6_groupOf_b24 S0 (1 <<< (p1 &&& 31)) 0)
def f_X6_isHad (S0 : ST_X6) (p1 : Int32) : Option (Int32) :=
  (f_X6_groupOf S0 p1).bind fun r1 => if (r1 &&& (S0.2.1 2)) = 0 then some 0 else some 1
def f_X6_worth_b91 (S0 : ST_X6) (k5 : Int32 → Int32 → Int32 → Int32 → Option (Int32)) (v1 : Int32) (v2 : Int32) (v3 : Int32) (v4 : Int32) : Option (Int32) :=
  k5 v1 v2 v3 (v4 + 1)
def f_X6_worth_b89 (S0 : ST_X6) (k5 : Int32 → Int32 → Int32 → Int32 → Option (Int32)) (v1 : Int32) (v2 : Int32) (v4 : Int32) (w0 : Int32) (w1 : Int32) : Option (Int32) :=
  f_X6_worth_b91 S0 k5 v1 v2 (w0 + w1) v4
def f_X6_worth_b43 (S0 : ST_X6) (k5 : Int32 → Int32 → Int32 → Int32 → Option (Int32)) (v1 : Int32) (v2 : Int32) (v3 : Int32) (v4 : Int32) (w0 : Int32) : Option (Int32) :=
  if w0 = 0 then (f_X6_worth_b91 S0 k5 v1 v2 v3 v4) else ((f_X6_groupOf S0 v4).bind fun r2 => if (r2 &&& v1) = 0 then (f_X6_worth_b91 S0 k5 v1 v2 v3 v4) else ((f_X6_isHad S0 v4).bind fun r4 => if r4 = v2 then ((f_X6_get S0 v4 1).bind fun r6 => if r6 = 6 then (f_X6_worth_b89 S0 k5 v1 v2 v4 v3 2) else (f_X6_worth_b89 S0 k5 v1 v2 v4 v3 1)) else (f_X6_worth_b91 S0 k5 v1 v2 v3 v4)))
def f_X6_worth_b38 (S0 : ST_X6) (k5 : Int32 → Int32 → Int32 → Int32 → Option (Int32)) (v1 : Int32) (v2 : Int32) (v3 : Int32) (v4 : Int32) : Option (Int32) :=
  f_X6_worth_b43 S0 k5 v1 v2 v3 v4 1
def f_X6_worth_b5 (S0 : ST_X6) : Nat → Int32 → Int32 → Int32 → Int32 → Option (Int32)
  | 0, _, _, _, _ => none
  | fu + 1, v1, v2, v3, v4 => if (S0.2.1 0) ≤ v4 then some v3 else ((f_X6_get S0 v4 3).bind fun r9 => if r9 < 0 then (f_X6_worth_b38 S0 (f_X6_worth_b5 S0 fu) v1 v2 v3 v4) else ((f_X6_get S0 v4 3).bind fun r11 => if r11 ≤ v4 then (f_X6_worth_b43 S0 (f_X6_worth_b5 S0 fu) v1 v2 v3 v4 0) else (f_X6_worth_b38 S0 (f_X6_worth_b5 S0 fu) v1 v2 v3 v4)))
def f_X6_worth (S0 : ST_X6) (p1 : Int32) (p2 : Int32) : Option (Int32) :=
  f_X6_worth_b5 S0 4096 p1 p2 0 0
def f_X6_newOf (S0 : ST_X6) (p1 : Int32) : Option (Int32) :=
  (f_X6_worth S0 p1 0).bind fun r1 => some r1
def f_X6_engine_b56 (S0 : ST_X6) (v1 : Int32) (v2 : Int32) : Option (Int32 × ST_X6) :=
  (f_X6_get S0 v1 v2).bind fun r1 => some (r1, S0)
def f_X6_engine (S0 : ST_X6) (p1 : Int32) (p2 : Int32) : Option (Int32 × ST_X6) :=
  (f_X6_isEngine S0 p1).bind fun r2 => if r2 = 0 then ((f_X6_refuse S0 (-1)).bind fun r8 => some (r8.1, r8.2)) else (if p2 = 0 then (f_X6_engine_b56 S0 p1 p2) else (if p2 = 1 then (f_X6_engine_b56 S0 p1 p2) else (if p2 = 2 then (f_X6_engine_b56 S0 p1 p2) else (if p2 = 3 then (f_X6_engine_b56 S0 p1 p2) else (if p2 = 4 then (some (((S0.2.1 2) >>> (p1 &&& 31)) &&& 1, S0)) else (if p2 = 5 then (some (((S0.2.1 3) >>> (p1 &&& 31)) &&& 1, S0)) else (if p2 = 6 then ((f_X6_isHad S0 p1).bind fun r5 => if r5 = 0 then some (0, S0) else some (1, S0)) else ((f_X6_refuse S0 (-2)).bind fun r7 => some (r7.1, r7.2)))))))))
def f_X6_turn_b19 (S0 : ST_X6) (v1 : Int32) (v2 : Int32) (w0 : Int32) : Option (Int32 × ST_X6) :=
  if w0 = 0 then ((f_X6_turnOf S0 v1 v2).bind fun r2 => some (r2, S0)) else ((f_X6_refuse S0 w0).bind fun r3 => some (r3.1, r3.2))
def f_X6_turn (S0 : ST_X6) (p1 : Int32) (p2 : Int32) : Option (Int32 × ST_X6) :=
  (f_X6_isEngine S0 p1).bind fun r4 => if r4 = 0 then (f_X6_turn_b19 S0 p1 p2 (-1)) else ((f_X6_within p2 0 6).bind fun r6 => f_X6_turn_b19 S0 p1 p2 r6)
def f_X6_at_b20 (S0 : ST_X6) (v1 : Int32) (v2 : Int32) (w0 : Int32) : Option (Int32 × ST_X6) :=
  if w0 = 0 then ((f_X6_isAt S0 v1 v2).bind fun r2 => some (r2, S0)) else ((f_X6_refuse S0 w0).bind fun r3 => some (r3.1, r3.2))
def f_X6_at (S0 : ST_X6) (p1 : Int32) (p2 : Int32) : Option (Int32 × ST_X6) :=
  (f_X6_isEngine S0 p1).bind fun r4 => if r4 = 0 then (f_X6_at_b20 S0 p1 p2 (-1)) else ((f_X6_within p2 0 1100).bind fun r6 => f_X6_at_b20 S0 p1 p2 r6)
def f_X6_isPlace (p0 : Int32) : Option (Int32) :=
  (f_X6_isIn p0 5).bind fun r1 => if r1 &&& 1 = r1 then some r1 else none
def f_X6_pass_b19 (S0 : ST_X6) (v1 : Int32) (v2 : Int32) (w0 : Int32) : Option (Int32 × ST_X6) :=
  if w0 = 0 then ((f_X6_passes S0 v1 v2).bind fun r2 => some (r2, S0)) else ((f_X6_refuse S0 w0).bind fun r3 => some (r3.1, r3.2))
def f_X6_pass (S0 : ST_X6) (p1 : Int32) (p2 : Int32) : Option (Int32 × ST_X6) :=
  (f_X6_isPlace p1).bind fun r4 => if r4 = 0 then (f_X6_pass_b19 S0 p1 p2 (-1)) else ((f_X6_within p2 0 1100).bind fun r6 => f_X6_pass_b19 S0 p1 p2 r6)
def f_X6_stands (S0 : ST_X6) (p1 : Int32) (p2 : Int32) : Option (Int32 × ST_X6) :=
  (f_X6_passes S0 p1 p2).bind fun r1 => (f_X6_newOf S0 r1).bind fun r2 => some (r2, (S0.1, (upd S0.2.1 2 ((S0.2.1 2) ||| r1)), S0.2.2.1, S0.2.2.2.1, S0.2.2.2.2.1, S0.2.2.2.2.2.1, S0.2.2.2.2.2.2.1, S0.2.2.2.2.2.2.2.1, S0.2.2.2.2.2.2.2.2.1, S0.2.2.2.2.2.2.2.2.2.1, S0.2.2.2.2.2.2.2.2.2.2.1, S0.2.2.2.2.2.2.2.2.2.2.2.1, S0.2.2.2.2.2.2.2.2.2.2.2.2.1, S0.2.2.2.2.2.2.2.2.2.2.2.2.2))
def f_X6_stand_b29 (S0 : ST_X6) (v1 : Int32) (w0 : Int32) : Option (Int32 × ST_X6) :=
  if w0 = 0 then ((f_X6_stands S0 v1 (S0.2.1 1)).bind fun r2 => some (r2.1, (r2.2.1, (upd r2.2.2.1 1 ((r2.2.2.1 1) + 1)), r2.2.2.2.1, r2.2.2.2.2.1, r2.2.2.2.2.2.1, r2.2.2.2.2.2.2.1, r2.2.2.2.2.2.2.2.1, r2.2.2.2.2.2.2.2.2.1, r2.2.2.2.2.2.2.2.2.2.1, r2.2.2.2.2.2.2.2.2.2.2.1, r2.2.2.2.2.2.2.2.2.2.2.2.1, r2.2.2.2.2.2.2.2.2.2.2.2.2.1, r2.2.2.2.2.2.2.2.2.2.2.2.2.2.1, r2.2.2.2.2.2.2.2.2.2.2.2.2.2.2))) else ((f_X6_refuse S0 w0).bind fun r3 => some (r3.1, r3.2))
def f_X6_stand (S0 : ST_X6) (p1 : Int32) : Option (Int32 × ST_X6) :=
  (f_X6_isPlace p1).bind fun r4 => if r4 = 0 then (f_X6_stand_b29 S0 p1 (-1)) else (if (S0.2.1 1) = 999 then (f_X6_stand_b29 S0 p1 (-6)) else (f_X6_stand_b29 S0 p1 0))
def f_X6_rest_b29 (S0 : ST_X6) (v1 : Int32) (v2 : Int32) : Option (Int32 × ST_X6) :=
  if v2 = 0 then (some ((upd S0.2.1 1 ((S0.2.1 1) + v1)) 1, (S0.1, (upd S0.2.1 1 ((S0.2.1 1) + v1)), S0.2.2.1, S0.2.2.2.1, S0.2.2.2.2.1, S0.2.2.2.2.2.1, S0.2.2.2.2.2.2.1, S0.2.2.2.2.2.2.2.1, S0.2.2.2.2.2.2.2.2.1, S0.2.2.2.2.2.2.2.2.2.1, S0.2.2.2.2.2.2.2.2.2.2.1, S0.2.2.2.2.2.2.2.2.2.2.2.1, S0.2.2.2.2.2.2.2.2.2.2.2.2.1, S0.2.2.2.2.2.2.2.2.2.2.2.2.2))) else ((f_X6_refuse S0 v2).bind fun r2 => some (r2.1, r2.2))
def f_X6_rest (S0 : ST_X6) (p1 : Int32) : Option (Int32 × ST_X6) :=
  (f_X6_within p1 1 60).bind fun r3 => if r3 = 0 then (if ((S0.2.1 1) + p1) ≤ 999 then (f_X6_rest_b29 S0 p1 r3) else (f_X6_rest_b29 S0 p1 (-6))) else (f_X6_rest_b29 S0 p1 r3)
def f_X6_underline_b84 (S0 : ST_X6) (v4 : Int32) (w1 : Int32) (w2 : Int32) : Option (Int32 × ST_X6) :=
  if inB w1 130 then (some (v4, (S0.1, (upd S0.2.1 (w1.toNatClampNeg) w2), S0.2.2.1, S0.2.2.2.1, S0.2.2.2.2.1, S0.2.2.2.2.2.1, S0.2.2.2.2.2.2.1, S0.2.2.2.2.2.2.2.1, S0.2.2.2.2.2.2.2.2.1, S0.2.2.2.2.2.2.2.2.2.1, S0.2.2.2.2.2.2.2.2.2.2.1, S0.2.2.2.2.2.2.2.2.2.2.2.1, S0.2.2.2.2.2.2.2.2.2.2.2.2.1, S0.2.2.2.2.2.2.2.2.2.2.2.2.2))) else none
def f_X6_underline_b26 (S0 : ST_X6) (v1 : Int32) (v2 : Int32) (w0 : Int32) : Option (Int32 × ST_X6) :=
  if w0 = 0 then (if v2 = 1 then (f_X6_underline_b84 S0 (((S0.2.1 2) >>> (v1 &&& 31)) &&& 1) 2 ((S0.2.1 2) ||| (1 <<< (v1 &&& 31)))) else (f_X6_underline_b84 S0 (((S0.2.1 2) >>> (v1 &&& 31)) &&& 1) 2 ((S0.2.1 2) &&& ((1 <<< (v1 &&& 31)) ^^^ (-1))))) else ((f_X6_refuse S0 w0).bind fun r4 => some (r4.1, r4.2))
def f_X6_underline (S0 : ST_X6) (p1 : Int32) (p2 : Int32) : Option (Int32 × ST_X6) :=
  (f_X6_isEngine S0 p1).bind fun r5 => if r5 = 0 then (f_X6_underline_b26 S0 p1 p2 (-1)) else ((f_X6_isIn p2 2).bind fun r7 => if r7 = 0 then (f_X6_underline_b26 S0 p1 p2 (-2)) else (f_X6_underline_b26 S0 p1 p2 0))
def f_X6_freshOf_b5 (S0 : ST_X6) : Nat → Int32 → Int32 → Int32 → Int32 → Option (Int32)
  | 0, _, _, _, _ => none
  | fu + 1, v1, v2, v3, v4 => if v2 ≤ v4 then ((f_X6_newOf S0 v3).bind fun r2 => some r2) else ((f_X6_passes S0 v1 ((S0.2.1 1) + v4)).bind fun r3 => (f_X6_freshOf_b5 S0 fu) v1 v2 (v3 ||| r3) (v4 + 1))
def f_X6_freshOf (S0 : ST_X6) (p1 : Int32) (p2 : Int32) : Option (Int32) :=
  f_X6_freshOf_b5 S0 4096 p1 p2 0 0
def f_X6_fresh_b18 (S0 : ST_X6) (v1 : Int32) (v2 : Int32) (w0 : Int32) : Option (Int32 × ST_X6) :=
  if w0 = 0 then ((f_X6_freshOf S0 v1 v2).bind fun r2 => some (r2, S0)) else ((f_X6_refuse S0 w0).bind fun r3 => some (r3.1, r3.2))
def f_X6_fresh (S0 : ST_X6) (p1 : Int32) (p2 : Int32) : Option (Int32 × ST_X6) :=
  (f_X6_isPlace p1).bind fun r4 => if r4 = 0 then (f_X6_fresh_b18 S0 p1 p2 (-1)) else ((f_X6_within p2 1 14).bind fun r6 => f_X6_fresh_b18 S0 p1 p2 r6)
def f_X6_where_b48 (k23 : ST_X6 → Int32 → Int32 → Int32 → Option (Int32 × ST_X6)) (S0 : ST_X6) (v1 : Int32) (v3 : Int32) (v4 : Int32) : Option (Int32 × ST_X6) :=
  k23 S0 v1 v3 (v4 + 1)
def f_X6_where_b23 : Nat → ST_X6 → Int32 → Int32 → Int32 → Option (Int32 × ST_X6)
  | 0, _, _, _, _ => none
  | fu + 1, S0, v1, v3, v4 => if 5 ≤ v4 then some (v3, S0) else ((f_X6_freshOf S0 v4 v1).bind fun r2 => (f_X6_freshOf S0 v3 v1).bind fun r3 => if r2 ≤ r3 then (f_X6_where_b48 (f_X6_where_b23 fu) S0 v1 v3 v4) else (f_X6_where_b48 (f_X6_where_b23 fu) S0 v1 v4 v4))
def f_X6_where (S0 : ST_X6) (p1 : Int32) : Option (Int32 × ST_X6) :=
  (f_X6_within p1 1 14).bind fun r5 => if r5 = 0 then (f_X6_where_b23 4096 S0 p1 0 1) else ((f_X6_refuse S0 r5).bind fun r7 => some (r7.1, r7.2))
def f_X6_plans_b32 (kself : ST_X6 → Int32 → Int32 → Int32 → Int32 → Option (ST_X6)) : Nat → ST_X6 → Int32 → Int32 → Option (ST_X6)
  | 0, _, _, _ => none
  | fu + 1, S0, v2, v6 => if v2 ≤ v6 then some S0 else (if inB v6 5 then (if inB v6 5 then ((f_X6_plans_b32 kself fu) (S0.1, S0.2.1, S0.2.2.1, S0.2.2.2.1, S0.2.2.2.2.1, S0.2.2.2.2.2.1, S0.2.2.2.2.2.2.1, S0.2.2.2.2.2.2.2.1, S0.2.2.2.2.2.2.2.2.1, S0.2.2.2.2.2.2.2.2.2.1, (upd S0.2.2.2.2.2.2.2.2.2.2.1 (v6.toNatClampNeg) (S0.2.2.2.2.2.2.2.2.2.1 v6.toNatClampNeg)), S0.2.2.2.2.2.2.2.2.2.2.2.1, S0.2.2.2.2.2.2.2.2.2.2.2.2.1, S0.2.2.2.2.2.2.2.2.2.2.2.2.2) v2 (v6 + 1)) else none) else none)
def f_X6_plans_b138 (kself : ST_X6 → Int32 → Int32 → Int32 → Int32 → Option (ST_X6)) (k62 : ST_X6 → Int32 → Int32 → Int32 → Int32 → Int32 → Option (ST_X6)) (S0 : ST_X6) (v1 : Int32) (v2 : Int32) (v3 : Int32) (v4 : Int32) (v5 : Int32) : Option (ST_X6) :=
  k62 S0 v1 v2 v3 v4 (v5 + 1)
def f_X6_plans_b90 (kself : ST_X6 → Int32 → Int32 → Int32 → Int32 → Option (ST_X6)) (k62 : ST_X6 → Int32 → Int32 → Int32 → Int32 → Int32 → Option (ST_X6)) (S0 : ST_X6) (v1 : Int32) (v2 : Int32) (v3 : Int32) (v4 : Int32) (v5 : Int32) (w0 : Int32) : Option (ST_X6) :=
  if w0 ≤ v3 then (if inB v1 5 then ((f_X6_passes (S0.1, S0.2.1, S0.2.2.1, S0.2.2.2.1, S0.2.2.2.2.1, S0.2.2.2.2.2.1, S0.2.2.2.2.2.2.1, S0.2.2.2.2.2.2.2.1, S0.2.2.2.2.2.2.2.2.1, (upd S0.2.2.2.2.2.2.2.2.2.1 (v1.toNatClampNeg) v5), S0.2.2.2.2.2.2.2.2.2.2.1, S0.2.2.2.2.2.2.2.2.2.2.2.1, S0.2.2.2.2.2.2.2.2.2.2.2.2.1, S0.2.2.2.2.2.2.2.2.2.2.2.2.2) v5 ((S0.2.1 1) + v1)).bind fun r6 => (kself (S0.1, S0.2.1, S0.2.2.1, S0.2.2.2.1, S0.2.2.2.2.1, S0.2.2.2.2.2.1, S0.2.2.2.2.2.2.1, S0.2.2.2.2.2.2.2.1, S0.2.2.2.2.2.2.2.2.1, (upd S0.2.2.2.2.2.2.2.2.2.1 (v1.toNatClampNeg) v5), S0.2.2.2.2.2.2.2.2.2.2.1, S0.2.2.2.2.2.2.2.2.2.2.2.1, S0.2.2.2.2.2.2.2.2.2.2.2.2.1, S0.2.2.2.2.2.2.2.2.2.2.2.2.2) (v1 + 1) v2 (v3 - w0) (v4 ||| r6)).bind fun r7 => f_X6_plans_b138 kself k62 r7 v1 v2 v3 v4 v5) else none) else (f_X6_plans_b138 kself k62 S0 v1 v2 v3 v4 v5)
def f_X6_plans_b62 (kself : ST_X6 → Int32 → Int32 → Int32 → Int32 → Option (ST_X6)) : Nat → ST_X6 → Int32 → Int32 → Int32 → Int32 → Int32 → Option (ST_X6)
  | 0, _, _, _, _, _, _ => none
  | fu + 1, S0, v1, v2, v3, v4, v5 => if 5 ≤ v5 then some S0 else (if v1 = 0 then (f_X6_plans_b90 kself (f_X6_plans_b62 kself fu) S0 v1 v2 v3 v4 v5 0) else (if inB (v1 - 1) 5 then ((f_X6_amount (v5 - (S0.2.2.2.2.2.2.2.2.2.1 (v1 - 1).toNatClampNeg))).bind fun r11 => f_X6_plans_b90 kself (f_X6_plans_b62 kself fu) S0 v1 v2 v3 v4 v5 r11) else none))
def f_X6_plans : Nat → ST_X6 → Int32 → Int32 → Int32 → Int32 → Option (ST_X6)
  | 0, _, _, _, _, _ => none
  | fu + 1, S0, p1, p2, p3, p4 => if p1 = p2 then ((f_X6_newOf S0 p4).bind fun r13 => if S0.2.2.2.2.2.2.2.2.2.2.2.1 < r13 then (f_X6_plans_b32 (f_X6_plans fu) 4096 (S0.1, S0.2.1, S0.2.2.1, S0.2.2.2.1, S0.2.2.2.2.1, S0.2.2.2.2.2.1, S0.2.2.2.2.2.2.1, S0.2.2.2.2.2.2.2.1, S0.2.2.2.2.2.2.2.2.1, S0.2.2.2.2.2.2.2.2.2.1, S0.2.2.2.2.2.2.2.2.2.2.1, r13, S0.2.2.2.2.2.2.2.2.2.2.2.2.1, S0.2.2.2.2.2.2.2.2.2.2.2.2.2) p2 0) else some S0) else (f_X6_plans_b62 (f_X6_plans fu) 4096 S0 p1 p2 p3 p4 0)
def f_X6_findsPlan (S0 : ST_X6) (p1 : Int32) (p2 : Int32) : Option (ST_X6) :=
  (f_X6_plans 8 (S0.1, S0.2.1, S0.2.2.1, S0.2.2.2.1, S0.2.2.2.2.1, S0.2.2.2.2.2.1, S0.2.2.2.2.2.2.1, S0.2.2.2.2.2.2.2.1, S0.2.2.2.2.2.2.2.2.1, S0.2.2.2.2.2.2.2.2.2.1, S0.2.2.2.2.2.2.2.2.2.2.1, (-1), S0.2.2.2.2.2.2.2.2.2.2.2.2.1, S0.2.2.2.2.2.2.2.2.2.2.2.2.2) 0 p1 p2 0).bind fun r1 => some r1
def f_X6_plan_b36 (S0 : ST_X6) (v1 : Int32) (v2 : Int32) (v3 : Int32) (w0 : Int32) : Option (Int32 × ST_X6) :=
  if w0 = 0 then (if v3 < v1 then ((f_X6_findsPlan S0 v1 v2).bind fun r3 => if 0 ≤ v3 then (if inB v3 5 then some (r3.2.2.2.2.2.2.2.2.2.2.1 v3.toNatClampNeg, r3) else none) else some (r3.2.2.2.2.2.2.2.2.2.2.2.1, r3)) else (some ((-9), S0))) else ((f_X6_refuse S0 w0).bind fun r6 => some (r6.1, r6.2))
def f_X6_plan_b14 (S0 : ST_X6) (v1 : Int32) (v2 : Int32) (v3 : Int32) : Option (Int32 × ST_X6) :=
  f_X6_plan_b36 S0 v1 v2 v3 (-4)
def f_X6_plan_b30 (S0 : ST_X6) (v1 : Int32) (v2 : Int32) (v3 : Int32) : Option (Int32 × ST_X6) :=
  f_X6_plan_b36 S0 v1 v2 v3 (-6)
def f_X6_plan (S0 : ST_X6) (p1 : Int32) (p2 : Int32) (p3 : Int32) : Option (Int32 × ST_X6) :=
  if p1 < 1 then (f_X6_plan_b14 S0 p1 p2 p3) else (if p2 < 0 then (f_X6_plan_b14 S0 p1 p2 p3) else (if (-1) ≤ p3 then (if 5 < p1 then (f_X6_plan_b30 S0 p1 p2 p3) else (if p2 ≤ 20 then (f_X6_plan_b36 S0 p1 p2 p3 0) else (f_X6_plan_b30 S0 p1 p2 p3))) else (f_X6_plan_b14 S0 p1 p2 p3)))
def f_X6_await_b15 (S0 : ST_X6) : Option (Int32 × ST_X6) :=
  (f_X6_refuse S0 (-1)).bind fun r1 => some (r1.1, r1.2)
def f_X6_await_b23 : Nat → ST_X6 → Int32 → Int32 → Int32 → Option (Int32 × ST_X6)
  | 0, _, _, _, _ => none
  | fu + 1, S0, v1, v2, v3 => if 60 < v3 then (some ((-9), S0)) else ((f_X6_isAt S0 v1 ((S0.2.1 1) + v3)).bind fun r3 => if r3 = v2 then some (v3, S0) else ((f_X6_await_b23 fu) S0 v1 v2 (v3 + 1)))
def f_X6_await (S0 : ST_X6) (p1 : Int32) (p2 : Int32) : Option (Int32 × ST_X6) :=
  (f_X6_isEngine S0 p1).bind fun r5 => if r5 = 0 then (f_X6_await_b15 S0) else ((f_X6_isPlace p2).bind fun r7 => if r7 = 0 then (f_X6_await_b15 S0) else (f_X6_await_b23 4096 S0 p1 p2 0))
def f_X6_chase_b16 : Nat → ST_X6 → Int32 → Int32 → Option (Int32 × ST_X6)
  | 0, _, _, _ => none
  | fu + 1, S0, v1, v2 => if 60 < v2 then (some ((-9), S0)) else ((f_X6_isAt S0 v1 ((S0.2.1 1) + v2)).bind fun r2 => if r2 = 9 then ((f_X6_chase_b16 fu) S0 v1 (v2 + 1)) else some (v2, S0))
def f_X6_chase (S0 : ST_X6) (p1 : Int32) : Option (Int32 × ST_X6) :=
  (f_X6_isEngine S0 p1).bind fun r4 => if r4 = 0 then ((f_X6_refuse S0 (-1)).bind fun r6 => some (r6.1, r6.2)) else (f_X6_chase_b16 4096 S0 p1 0)
def f_X6_ever_b46 (S0 : ST_X6) (k4 : Int32 → Int32 → Option (Int32)) (k16 : Int32 → Int32 → Int32 → Option (Int32)) (v1 : Int32) (v2 : Int32) (v3 : Int32) : Option (Int32) :=
  k16 v1 v2 (v3 + 1)
def f_X6_ever_b16 (S0 : ST_X6) (k4 : Int32 → Int32 → Option (Int32)) : Nat → Int32 → Int32 → Int32 → Option (Int32)
  | 0, _, _, _ => none
  | fu + 1, v1, v2, v3 => if 60 < v3 then (k4 v1 (v2 + 1)) else ((f_X6_isAt S0 v2 ((S0.2.1 1) + v3)).bind fun r2 => if r2 = 9 then (f_X6_ever_b46 S0 k4 (f_X6_ever_b16 S0 k4 fu) v1 v2 v3) else (f_X6_ever_b46 S0 k4 (f_X6_ever_b16 S0 k4 fu) (v1 ||| (1 <<< (v2 &&& 31))) v2 v3))
def f_X6_ever_b4 (S0 : ST_X6) : Nat → Int32 → Int32 → Option (Int32)
  | 0, _, _ => none
  | fu + 1, v1, v2 => if (S0.2.1 0) ≤ v2 then ((f_X6_newOf S0 v1).bind fun r5 => some r5) else (f_X6_ever_b16 S0 (f_X6_ever_b4 S0 fu) 4096 v1 v2 0)
def f_X6_ever (S0 : ST_X6) : Option (Int32) :=
  f_X6_ever_b4 S0 4096 0 0
def f_X6_allNew (S0 : ST_X6) : Option (Int32) :=
  (f_X6_newOf S0 ((1 <<< ((S0.2.1 0) &&& 31)) - 1)).bind fun r1 => some r1
def f_X6_all_b13 : Nat → ST_X6 → Int32 → Int32 → Option (Int32 × ST_X6)
  | 0, _, _, _ => none
  | fu + 1, S0, v1, v2 => if 5 < v2 then (some ((-9), S0)) else ((f_X6_findsPlan S0 v2 20).bind fun r2 => if r2.2.2.2.2.2.2.2.2.2.2.2.1 = v1 then some (v2, r2) else ((f_X6_all_b13 fu) r2 v1 (v2 + 1)))
def f_X6_all (S0 : ST_X6) : Option (Int32 × ST_X6) :=
  (f_X6_allNew S0).bind fun r4 => if r4 = 0 then some (0, S0) else (f_X6_all_b13 4096 S0 r4 1)
def f_X6_in (S0 : ST_X6) (p1 : Int32) (p2 : Int32) : Option (Int32) :=
  if inB ((82 + (4 * p1)) + p2) 130 then (some (S0.2.1 ((82 + (4 * p1)) + p2).toNatClampNeg)) else none
def f_X6_reading_b65 (S0 : ST_X6) (v1 : Int32) (v2 : Int32) (v3 : Int32) (v4 : Int32) (w0 : Int32) : Option (Int32 × ST_X6) :=
  if w0 = 0 then (if inB (82 + (4 * (S0.2.1 4))) 130 then (if inB ((82 + (4 * (S0.2.1 4))) + 1) 130 then (if inB ((82 + (4 * (S0.2.1 4))) + 2) 130 then (if inB ((82 + (4 * (S0.2.1 4))) + 3) 130 then (some ((upd (upd (upd (upd (upd S0.2.1 ((82 + (4 * (S0.2.1 4))).toNatClampNeg) v1) (((82 + (4 * (S0.2.1 4))) + 1).toNatClampNeg) v2) (((82 + (4 * (S0.2.1 4))) + 2).toNatClampNeg) v3) (((82 + (4 * (S0.2.1 4))) + 3).toNatClampNeg) v4) 4 (((upd (upd (upd (upd S0.2.1 ((82 + (4 * (S0.2.1 4))).toNatClampNeg) v1) (((82 + (4 * (S0.2.1 4))) + 1).toNatClampNeg) v2) (((82 + (4 * (S0.2.1 4))) + 2).toNatClampNeg) v3) (((82 + (4 * (S0.2.1 4))) + 3).toNatClampNeg) v4) 4) + 1)) 4, (S0.1, (upd (upd (upd (upd (upd S0.2.1 ((82 + (4 * (S0.2.1 4))).toNatClampNeg) v1) (((82 + (4 * (S0.2.1 4))) + 1).toNatClampNeg) v2) (((82 + (4 * (S0.2.1 4))) + 2).toNatClampNeg) v3) (((82 + (4 * (S0.2.1 4))) + 3).toNatClampNeg) v4) 4 (((upd (upd (upd (upd S0.2.1 ((82 + (4 * (S0.2.1 4))).toNatClampNeg) v1) (((82 + (4 * (S0.2.1 4))) + 1).toNatClampNeg) v2) (((82 + (4 * (S0.2.1 4))) + 2).toNatClampNeg) v3) (((82 + (4 * (S0.2.1 4))) + 3).toNatClampNeg) v4) 4) + 1)), S0.2.2.1, S0.2.2.2.1, S0.2.2.2.2.1, S0.2.2.2.2.2.1, S0.2.2.2.2.2.2.1, S0.2.2.2.2.2.2.2.1, S0.2.2.2.2.2.2.2.2.1, S0.2.2.2.2.2.2.2.2.2.1, S0.2.2.2.2.2.2.2.2.2.2.1, S0.2.2.2.2.2.2.2.2.2.2.2.1, S0.2.2.2.2.2.2.2.2.2.2.2.2.1, S0.2.2.2.2.2.2.2.2.2.2.2.2.2))) else none) else none) else none) else none) else ((f_X6_refuse S0 w0).bind fun r6 => some (r6.1, r6.2))
def f_X6_reading_b16 (S0 : ST_X6) (v1 : Int32) (v2 : Int32) (v3 : Int32) (v4 : Int32) : Option (Int32 × ST_X6) :=
  f_X6_reading_b65 S0 v1 v2 v3 v4 (-1)
def f_X6_reading_b30 (S0 : ST_X6) (v1 : Int32) (v2 : Int32) (v3 : Int32) (v4 : Int32) : Option (Int32 × ST_X6) :=
  f_X6_reading_b65 S0 v1 v2 v3 v4 (-4)
def f_X6_reading_b59 (S0 : ST_X6) (v1 : Int32) (v2 : Int32) (v3 : Int32) (v4 : Int32) : Option (Int32 × ST_X6) :=
  f_X6_reading_b65 S0 v1 v2 v3 v4 (-6)
def f_X6_reading (S0 : ST_X6) (p1 : Int32) (p2 : Int32) (p3 : Int32) (p4 : Int32) : Option (Int32 × ST_X6) :=
  (f_X6_isPlace p2).bind fun r7 => if r7 = 0 then (f_X6_reading_b16 S0 p1 p2 p3 p4) else ((f_X6_isIn p4 4).bind fun r9 => if r9 = 0 then (f_X6_reading_b16 S0 p1 p2 p3 p4) else (if p1 < 0 then (f_X6_reading_b30 S0 p1 p2 p3 p4) else (if 10 ≤ p3 then (if 1100 < p1 then (f_X6_reading_b59 S0 p1 p2 p3 p4) else (if 99 < p3 then (f_X6_reading_b59 S0 p1 p2 p3 p4) else (if (S0.2.1 4) = 12 then (f_X6_reading_b59 S0 p1 p2 p3 p4) else (f_X6_reading_b65 S0 p1 p2 p3 p4 0)))) else (f_X6_reading_b30 S0 p1 p2 p3 p4))))
def f_X6_forget (S0 : ST_X6) : Option (Int32 × ST_X6) :=
  if (S0.2.1 4) = 0 then ((f_X6_refuse S0 (-3)).bind fun r2 => some (r2.1, r2.2)) else (some ((upd S0.2.1 4 ((S0.2.1 4) - 1)) 4, (S0.1, (upd S0.2.1 4 ((S0.2.1 4) - 1)), S0.2.2.1, S0.2.2.2.1, S0.2.2.2.2.1, S0.2.2.2.2.2.1, S0.2.2.2.2.2.2.1, S0.2.2.2.2.2.2.2.1, S0.2.2.2.2.2.2.2.2.1, S0.2.2.2.2.2.2.2.2.2.1, S0.2.2.2.2.2.2.2.2.2.2.1, S0.2.2.2.2.2.2.2.2.2.2.2.1, S0.2.2.2.2.2.2.2.2.2.2.2.2.1, S0.2.2.2.2.2.2.2.2.2.2.2.2.2)))
def f_X6_isRead_b27 : Option (Int32) :=
  some 1
def f_X6_isRead_b31 : Option (Int32) :=
  some 0
def f_X6_isRead_b16 (v0 : Int32) (v1 : Int32) : Option (Int32) :=
  if v0 = 8 then (if v1 = 3 then (f_X6_isRead_b27) else (f_X6_isRead_b31)) else (f_X6_isRead_b31)
def f_X6_isRead (p0 : Int32) (p1 : Int32) : Option (Int32) :=
  if p0 = p1 then (f_X6_isRead_b27) else (if p0 = 3 then (if p1 = 8 then (f_X6_isRead_b27) else (f_X6_isRead_b16 p0 p1)) else (f_X6_isRead_b16 p0 p1))
def f_X6_fittingOf_b133 (S0 : ST_X6) (k31 : Int32 → Int32 → Int32 → Int32 → Int32 → Option (Int32)) (v2 : Int32) (v3 : Int32) (v4 : Int32) (v5 : Int32) (v6 : Int32) : Option (Int32) :=
  k31 v2 v3 v4 v5 (v6 + 1)
def f_X6_fittingOf_b107 (S0 : ST_X6) (k31 : Int32 → Int32 → Int32 → Int32 → Int32 → Option (Int32)) (v2 : Int32) (v3 : Int32) (v4 : Int32) (v5 : Int32) (v6 : Int32) (w0 : Int32) : Option (Int32) :=
  if w0 = 0 then (f_X6_fittingOf_b133 S0 k31 v2 v3 v4 v5 v6) else (if ((v3 >>> (v6 &&& 31)) &&& 1) = 1 then (f_X6_fittingOf_b133 S0 k31 v2 v3 (v4 ||| (1 <<< (v6 &&& 31))) v5 v6) else (f_X6_fittingOf_b133 S0 k31 v2 v3 v4 v5 v6))
def f_X6_fittingOf_b106 (S0 : ST_X6) (k31 : Int32 → Int32 → Int32 → Int32 → Int32 → Option (Int32)) (v2 : Int32) (v3 : Int32) (v4 : Int32) (v5 : Int32) (v6 : Int32) : Option (Int32) :=
  f_X6_fittingOf_b107 S0 k31 v2 v3 v4 v5 v6 0
def f_X6_fittingOf_b31 (S0 : ST_X6) : Nat → Int32 → Int32 → Int32 → Int32 → Int32 → Option (Int32)
  | 0, _, _, _, _, _ => none
  | fu + 1, v2, v3, v4, v5, v6 => if (S0.2.1 0) ≤ v6 then some v4 else ((f_X6_get S0 v6 0).bind fun r4 => if v2 = 0 then ((f_X6_isRead (r4 / 10) (v5 / 10)).bind fun r6 => if r6 = 0 then (f_X6_fittingOf_b106 S0 (f_X6_fittingOf_b31 S0 fu) v2 v3 v4 v5 v6) else ((f_X6_isRead (r4 - r4 / 10 * 10) (v5 - v5 / 10 * 10)).bind fun r8 => if r8 = 0 then (f_X6_fittingOf_b106 S0 (f_X6_fittingOf_b31 S0 fu) v2 v3 v4 v5 v6) else (f_X6_fittingOf_b107 S0 (f_X6_fittingOf_b31 S0 fu) v2 v3 v4 v5 v6 1))) else (if r4 = v5 then (f_X6_fittingOf_b107 S0 (f_X6_fittingOf_b31 S0 fu) v2 v3 v4 v5 v6 1) else (f_X6_fittingOf_b107 S0 (f_X6_fittingOf_b31 S0 fu) v2 v3 v4 v5 v6 0)))
def f_X6_fittingOf (S0 : ST_X6) (p1 : Int32) (p2 : Int32) : Option (Int32) :=
  (f_X6_in S0 p1 1).bind fun r11 => (f_X6_in S0 p1 0).bind fun r12 => (f_X6_passes S0 r11 r12).bind fun r13 => (f_X6_in S0 p1 2).bind fun r14 => f_X6_fittingOf_b31 S0 4096 p2 r13 0 r14 0
def f_X6_fitting_b41 (S0 : ST_X6) (w1 : Int32) (w2 : Int32) : Option (Int32 × ST_X6) :=
  (f_X6_fittingOf S0 w1 w2).bind fun r1 => some (r1, S0)
def f_X6_fitting (S0 : ST_X6) (p1 : Int32) (p2 : Int32) : Option (Int32 × ST_X6) :=
  (f_X6_isIn p1 (S0.2.1 4)).bind fun r2 => if r2 = 0 then ((f_X6_refuse S0 (-1)).bind fun r8 => some (r8.1, r8.2)) else ((f_X6_isIn p2 2).bind fun r4 => if r4 = 0 then ((f_X6_refuse S0 (-2)).bind fun r6 => some (r6.1, r6.2)) else (if p2 = 1 then (f_X6_fitting_b41 S0 p1 1) else (f_X6_fitting_b41 S0 p1 0)))
def f_X6_madeUpNow_b29 (S0 : ST_X6) (k4 : Int32 → Int32 → Option (Int32)) (v1 : Int32) (v2 : Int32) : Option (Int32) :=
  k4 v1 (v2 + 1)
def f_X6_madeUpNow_b4 (S0 : ST_X6) : Nat → Int32 → Int32 → Option (Int32)
  | 0, _, _ => none
  | fu + 1, v1, v2 => if (S0.2.1 4) ≤ v2 then some v1 else ((f_X6_fittingOf S0 v2 0).bind fun r2 => if r2 = 0 then (f_X6_madeUpNow_b29 S0 (f_X6_madeUpNow_b4 S0 fu) (v1 ||| (1 <<< (v2 &&& 31))) v2) else (f_X6_madeUpNow_b29 S0 (f_X6_madeUpNow_b4 S0 fu) v1 v2))
def f_X6_madeUpNow (S0 : ST_X6) : Option (Int32) :=
  f_X6_madeUpNow_b4 S0 4096 0 0
def f_X6_madeUp (S0 : ST_X6) : Option (Int32) :=
  (f_X6_madeUpNow S0).bind fun r1 => some r1
def f_X6_madeUpBy_b48 (S0 : ST_X6) (k10 : Int32 → Int32 → Int32 → Int32 → Option (Int32)) (v1 : Int32) (v2 : Int32) (v4 : Int32) (w0 : Int32) (w1 : Int32) : Option (Int32) :=
  k10 v1 v2 (w0 + w1) (v4 + 1)
def f_X6_madeUpBy_b47 (S0 : ST_X6) (k10 : Int32 → Int32 → Int32 → Int32 → Option (Int32)) (v1 : Int32) (v2 : Int32) (v4 : Int32) (w0 : Int32) : Option (Int32) :=
  f_X6_madeUpBy_b48 S0 k10 v1 v2 v4 w0 0
def f_X6_madeUpBy_b10 (S0 : ST_X6) : Nat → Int32 → Int32 → Int32 → Int32 → Option (Int32)
  | 0, _, _, _, _ => none
  | fu + 1, v1, v2, v3, v4 => if (S0.2.1 4) ≤ v4 then some v3 else (if ((v2 >>> (v4 &&& 31)) &&& 1) = 1 then ((f_X6_in S0 v4 3).bind fun r3 => if r3 = v1 then (f_X6_madeUpBy_b48 S0 (f_X6_madeUpBy_b10 S0 fu) v1 v2 v4 v3 1) else (f_X6_madeUpBy_b47 S0 (f_X6_madeUpBy_b10 S0 fu) v1 v2 v4 v3)) else (f_X6_madeUpBy_b47 S0 (f_X6_madeUpBy_b10 S0 fu) v1 v2 v4 v3))
def f_X6_madeUpBy (S0 : ST_X6) (p1 : Int32) : Option (Int32) :=
  (f_X6_madeUpNow S0).bind fun r5 => f_X6_madeUpBy_b10 S0 4096 p1 r5 0 0
def f_X6_liars_b48 (S0 : ST_X6) (k6 : Int32 → Int32 → Int32 → Option (Int32)) (v1 : Int32) (v2 : Int32) (v3 : Int32) : Option (Int32) :=
  k6 v1 v2 (v3 + 1)
def f_X6_liars_b44 (S0 : ST_X6) (k6 : Int32 → Int32 → Int32 → Option (Int32)) (v3 : Int32) (v4 : Int32) (w0 : Int32) : Option (Int32) :=
  f_X6_liars_b48 S0 k6 v4 w0 v3
def f_X6_liars_b6 (S0 : ST_X6) : Nat → Int32 → Int32 → Int32 → Option (Int32)
  | 0, _, _, _ => none
  | fu + 1, v1, v2, v3 => if 4 ≤ v3 then some v2 else ((f_X6_madeUpBy S0 v3).bind fun r2 => if v1 ≤ r2 then (if r2 ≤ v1 then (f_X6_liars_b44 S0 (f_X6_liars_b6 S0 fu) v3 r2 (v2 ||| (1 <<< (v3 &&& 31)))) else (f_X6_liars_b44 S0 (f_X6_liars_b6 S0 fu) v3 r2 (1 <<< (v3 &&& 31)))) else (f_X6_liars_b48 S0 (f_X6_liars_b6 S0 fu) v1 v2 v3))
def f_X6_liars (S0 : ST_X6) : Option (Int32) :=
  f_X6_liars_b6 S0 4096 1 0 0
def f_X6_clash_b125 (k23 : ST_X6 → Int32 → Int32 → Int32 → Int32 → Option (Int32 × ST_X6)) (k40 : ST_X6 → Int32 → Int32 → Int32 → Int32 → Int32 → Option (Int32 × ST_X6)) (S0 : ST_X6) (v1 : Int32) (v2 : Int32) (v3 : Int32) (v4 : Int32) (v5 : Int32) : Option (Int32 × ST_X6) :=
  k40 S0 v1 v2 v3 v4 (v5 + 1)
def f_X6_clash_b124 (k23 : ST_X6 → Int32 → Int32 → Int32 → Int32 → Option (Int32 × ST_X6)) (k40 : ST_X6 → Int32 → Int32 → Int32 → Int32 → Int32 → Option (Int32 × ST_X6)) (S0 : ST_X6) (v1 : Int32) (v2 : Int32) (v4 : Int32) (v5 : Int32) (w0 : Int32) : Option (Int32 × ST_X6) :=
  f_X6_clash_b125 k23 k40 S0 v1 v2 w0 v4 v5
def f_X6_clash_b40 (k23 : ST_X6 → Int32 → Int32 → Int32 → Int32 → Option (Int32 × ST_X6)) : Nat → ST_X6 → Int32 → Int32 → Int32 → Int32 → Int32 → Option (Int32 × ST_X6)
  | 0, _, _, _, _, _, _ => none
  | fu + 1, S0, v1, v2, v3, v4, v5 => if (S0.2.1 4) ≤ v5 then (k23 S0 v1 v2 v3 (v4 + 1)) else ((f_X6_in S0 v4 2).bind fun r2 => (f_X6_in S0 v5 2).bind fun r3 => if r2 = r3 then ((f_X6_in S0 v4 0).bind fun r5 => (f_X6_in S0 v5 0).bind fun r6 => if r5 = r6 then ((f_X6_in S0 v4 1).bind fun r8 => (f_X6_in S0 v5 1).bind fun r9 => if r8 = r9 then (f_X6_clash_b125 k23 (f_X6_clash_b40 k23 fu) S0 v1 v2 v3 v4 v5) else (if 0 ≤ v3 then (f_X6_clash_b124 k23 (f_X6_clash_b40 k23 fu) S0 v1 (v2 + 1) v4 v5 v3) else (f_X6_clash_b124 k23 (f_X6_clash_b40 k23 fu) S0 v1 (v2 + 1) v4 v5 ((12 * v4) + v5)))) else (f_X6_clash_b125 k23 (f_X6_clash_b40 k23 fu) S0 v1 v2 v3 v4 v5)) else (f_X6_clash_b125 k23 (f_X6_clash_b40 k23 fu) S0 v1 v2 v3 v4 v5))
def f_X6_clash_b23 : Nat → ST_X6 → Int32 → Int32 → Int32 → Int32 → Option (Int32 × ST_X6)
  | 0, _, _, _, _, _ => none
  | fu + 1, S0, v1, v2, v3, v4 => if (S0.2.1 4) ≤ v4 then (if v1 = 0 then some (v2, S0) else some (v3, S0)) else (f_X6_clash_b40 (f_X6_clash_b23 fu) 4096 S0 v1 v2 v3 v4 (v4 + 1))
def f_X6_clash (S0 : ST_X6) (p1 : Int32) : Option (Int32 × ST_X6) :=
  (f_X6_isIn p1 2).bind fun r14 => if r14 = 0 then ((f_X6_refuse S0 (-2)).bind fun r16 => some (r16.1, r16.2)) else (f_X6_clash_b23 4096 S0 p1 0 (-9) 0)
def f_X6_sure_b36 (S0 : ST_X6) (k4 : Int32 → Int32 → Option (Int32)) (v1 : Int32) (v2 : Int32) : Option (Int32) :=
  k4 v1 (v2 + 1)
def f_X6_sure_b4 (S0 : ST_X6) : Nat → Int32 → Int32 → Option (Int32)
  | 0, _, _ => none
  | fu + 1, v1, v2 => if (S0.2.1 4) ≤ v2 then some v1 else ((f_X6_fittingOf S0 v2 0).bind fun r2 => (f_X6_bits r2).bind fun r3 => if r3 = 1 then ((f_X6_fittingOf S0 v2 0).bind fun r5 => f_X6_sure_b36 S0 (f_X6_sure_b4 S0 fu) (v1 ||| r5) v2) else (f_X6_sure_b36 S0 (f_X6_sure_b4 S0 fu) v1 v2))
def f_X6_sure (S0 : ST_X6) : Option (Int32) :=
  f_X6_sure_b4 S0 4096 0 0
def f_X6_areTogether_b3 (S0 : ST_X6) : Nat → Int32 → Int32 → Int32 → Int32 → Option (Int32)
  | 0, _, _, _, _ => none
  | fu + 1, v1, v2, v3, v4 => if v3 ≤ v4 then some 1 else ((f_X6_isAt S0 v1 ((S0.2.1 1) + v4)).bind fun r2 => (f_X6_isAt S0 v2 ((S0.2.1 1) + v4)).bind fun r3 => if r2 = r3 then ((f_X6_areTogether_b3 S0 fu) v1 v2 v3 (v4 + 1)) else some 0)
def f_X6_areTogether (S0 : ST_X6) (p1 : Int32) (p2 : Int32) (p3 : Int32) : Option (Int32) :=
  f_X6_areTogether_b3 S0 4096 p1 p2 p3 0
def f_X6_pairs_b109 (k43 : ST_X6 → Int32 → Int32 → Int32 → Int32 → Int32 → Option (Int32 × ST_X6)) (k60 : ST_X6 → Int32 → Int32 → Int32 → Int32 → Int32 → Int32 → Option (Int32 × ST_X6)) (S0 : ST_X6) (v1 : Int32) (v2 : Int32) (v4 : Int32) (v5 : Int32) (v6 : Int32) (v7 : Int32) : Option (Int32 × ST_X6) :=
  k60 S0 v1 v2 v4 v5 v6 (v7 + 1)
def f_X6_pairs_b107 (k43 : ST_X6 → Int32 → Int32 → Int32 → Int32 → Int32 → Option (Int32 × ST_X6)) (k60 : ST_X6 → Int32 → Int32 → Int32 → Int32 → Int32 → Int32 → Option (Int32 × ST_X6)) (S0 : ST_X6) (v1 : Int32) (v2 : Int32) (v4 : Int32) (v6 : Int32) (v7 : Int32) (w0 : Int32) : Option (Int32 × ST_X6) :=
  f_X6_pairs_b109 k43 k60 S0 v1 v2 v4 w0 v6 v7
def f_X6_pairs_b60 (k43 : ST_X6 → Int32 → Int32 → Int32 → Int32 → Int32 → Option (Int32 × ST_X6)) : Nat → ST_X6 → Int32 → Int32 → Int32 → Int32 → Int32 → Int32 → Option (Int32 × ST_X6)
  | 0, _, _, _, _, _, _, _ => none
  | fu + 1, S0, v1, v2, v4, v5, v6, v7 => if (S0.2.1 0) ≤ v7 then (k43 S0 v1 v2 v4 v5 (v6 + 1)) else ((f_X6_areTogether S0 v6 v7 v1).bind fun r2 => if r2 = 0 then (f_X6_pairs_b109 k43 (f_X6_pairs_b60 k43 fu) S0 v1 v2 v4 v5 v6 v7) else (if 0 ≤ v5 then (f_X6_pairs_b107 k43 (f_X6_pairs_b60 k43 fu) S0 v1 v2 (v4 + 1) v6 v7 v5) else (f_X6_pairs_b107 k43 (f_X6_pairs_b60 k43 fu) S0 v1 v2 (v4 + 1) v6 v7 ((10 * v6) + v7))))
def f_X6_pairs_b43 : Nat → ST_X6 → Int32 → Int32 → Int32 → Int32 → Int32 → Option (Int32 × ST_X6)
  | 0, _, _, _, _, _, _ => none
  | fu + 1, S0, v1, v2, v4, v5, v6 => if (S0.2.1 0) ≤ v6 then (if v2 = 0 then some (v4, S0) else some (v5, S0)) else (f_X6_pairs_b60 (f_X6_pairs_b43 fu) 4096 S0 v1 v2 v4 v5 v6 (v6 + 1))
def f_X6_pairs_b23 (S0 : ST_X6) (v1 : Int32) (v2 : Int32) (v3 : Int32) : Option (Int32 × ST_X6) :=
  if v3 = 0 then (f_X6_pairs_b43 4096 S0 v1 v2 0 (-9) 0) else ((f_X6_refuse S0 v3).bind fun r8 => some (r8.1, r8.2))
def f_X6_pairs (S0 : ST_X6) (p1 : Int32) (p2 : Int32) : Option (Int32 × ST_X6) :=
  (f_X6_within p1 1 60).bind fun r9 => if r9 = 0 then ((f_X6_isIn p2 2).bind fun r11 => if r11 = 0 then (f_X6_pairs_b23 S0 p1 p2 (-2)) else (f_X6_pairs_b23 S0 p1 p2 r9)) else (f_X6_pairs_b23 S0 p1 p2 r9)
def f_X6_many_b54 (S0 : ST_X6) (k6 : Int32 → Int32 → Int32 → Option (Int32)) (k22 : Int32 → Int32 → Int32 → Int32 → Int32 → Option (Int32)) (v1 : Int32) (v2 : Int32) (v3 : Int32) (v5 : Int32) (w0 : Int32) : Option (Int32) :=
  k22 v1 v2 v3 w0 (v5 + 1)
def f_X6_many_b49 (S0 : ST_X6) (k6 : Int32 → Int32 → Int32 → Option (Int32)) (k22 : Int32 → Int32 → Int32 → Int32 → Int32 → Option (Int32)) (v1 : Int32) (v2 : Int32) (v3 : Int32) (v5 : Int32) : Option (Int32) :=
  f_X6_many_b54 S0 k6 k22 v1 v2 v3 v5 1
def f_X6_many_b95 (S0 : ST_X6) (k6 : Int32 → Int32 → Int32 → Option (Int32)) (v2 : Int32) (v3 : Int32) (w0 : Int32) : Option (Int32) :=
  k6 w0 v2 (v3 + 1)
def f_X6_many_b73 (S0 : ST_X6) (k6 : Int32 → Int32 → Int32 → Option (Int32)) (v1 : Int32) (v3 : Int32) (w0 : Int32) (w1 : Int32) : Option (Int32) :=
  (f_X6_in S0 v3 2).bind fun r1 => if r1 ≤ v1 then (f_X6_many_b95 S0 k6 (w0 + w1) v3 v1) else ((f_X6_in S0 v3 2).bind fun r3 => f_X6_many_b95 S0 k6 (w0 + w1) v3 r3)
def f_X6_many_b22 (S0 : ST_X6) (k6 : Int32 → Int32 → Int32 → Option (Int32)) : Nat → Int32 → Int32 → Int32 → Int32 → Int32 → Option (Int32)
  | 0, _, _, _, _, _ => none
  | fu + 1, v1, v2, v3, v4, v5 => if v3 ≤ v5 then (if v4 = 0 then (f_X6_many_b73 S0 k6 v1 v3 v2 1) else (f_X6_many_b73 S0 k6 v1 v3 v2 0)) else (if v4 = 0 then ((f_X6_in S0 v5 2).bind fun r7 => (f_X6_in S0 v3 2).bind fun r8 => if r7 = r8 then (f_X6_many_b49 S0 k6 (f_X6_many_b22 S0 k6 fu) v1 v2 v3 v5) else (f_X6_many_b54 S0 k6 (f_X6_many_b22 S0 k6 fu) v1 v2 v3 v5 0)) else (f_X6_many_b49 S0 k6 (f_X6_many_b22 S0 k6 fu) v1 v2 v3 v5))
def f_X6_many_b6 (S0 : ST_X6) : Nat → Int32 → Int32 → Int32 → Option (Int32)
  | 0, _, _, _ => none
  | fu + 1, v1, v2, v3 => if (S0.2.1 4) ≤ v3 then (if v2 = 0 then some 0 else (if ¬ v2 = 0 then (some ((((v1 - 9) * (v2 + 1)) / v2) - 1)) else none)) else (f_X6_many_b22 S0 (f_X6_many_b6 S0 fu) 4096 v1 v2 v3 0 0)
def f_X6_many (S0 : ST_X6) : Option (Int32) :=
  f_X6_many_b6 S0 4096 0 0 0
def f_X6_more_b35 (S0 : ST_X6) (k4 : Int32 → Int32 → Option (Int32)) (v1 : Int32) (v2 : Int32) : Option (Int32) :=
  k4 v1 (v2 + 1)
def f_X6_more_b4 (S0 : ST_X6) : Nat → Int32 → Int32 → Option (Int32)
  | 0, _, _ => none
  | fu + 1, v1, v2 => if (S0.2.1 0) ≤ v2 then ((f_X6_worth S0 v1 1).bind fun r2 => some r2) else ((f_X6_groupOf S0 v2).bind fun r3 => if (r3 &&& (S0.2.1 3)) = 0 then (f_X6_more_b35 S0 (f_X6_more_b4 S0 fu) (v1 ||| (1 <<< (v2 &&& 31))) v2) else (f_X6_more_b35 S0 (f_X6_more_b4 S0 fu) v1 v2))
def f_X6_more (S0 : ST_X6) : Option (Int32) :=
  f_X6_more_b4 S0 4096 0 0
def f_X6_seeds_b35 : Nat → ST_X6 → Int32 → Int32 → Int32 → Int32 → Int32 → Option (Int32 × ST_X6)
  | 0, _, _, _, _, _, _ => none
  | fu + 1, S0, v1, v4, v5, v6, v7 => if v1 ≤ v7 then (some (v6, (S0.1, (upd S0.2.1 2 v4), S0.2.2.1, S0.2.2.2.1, S0.2.2.2.2.1, S0.2.2.2.2.2.1, S0.2.2.2.2.2.2.1, S0.2.2.2.2.2.2.2.1, S0.2.2.2.2.2.2.2.2.1, S0.2.2.2.2.2.2.2.2.2.1, S0.2.2.2.2.2.2.2.2.2.2.1, S0.2.2.2.2.2.2.2.2.2.2.2.1, S0.2.2.2.2.2.2.2.2.2.2.2.2.1, S0.2.2.2.2.2.2.2.2.2.2.2.2.2))) else ((f_X6_stands S0 (((((v5 * 1664525) + 1013904223) &&& 2147483647) / 256) - ((((v5 * 1664525) + 1013904223) &&& 2147483647) / 256) / 5 * 5) ((S0.2.1 1) + v7)).bind fun r2 => (f_X6_seeds_b35 fu) r2.2 v1 v4 ((v5 * 1664525) + 1013904223) (v6 + r2.1) (v7 + 1))
def f_X6_seeds (S0 : ST_X6) (p1 : Int32) (p2 : Int32) : Option (Int32 × ST_X6) :=
  (f_X6_within p1 1 30).bind fun r3 => if r3 = 0 then (f_X6_seeds_b35 4096 S0 p1 (S0.2.1 2) p2 0 0) else ((f_X6_refuse S0 r3).bind fun r5 => some (r5.1, r5.2))
def f_X6_row_b24 (S0 : ST_X6) (v1 : Int32) (v2 : Int32) : Option (Int32 × ST_X6) :=
  if v2 = 0 then (if inB S0.2.2.2.2.2.2.2.2.2.2.2.2.2 14 then (some (S0.2.2.2.2.2.2.2.2.2.2.2.2.2 + 1, (S0.1, S0.2.1, S0.2.2.1, S0.2.2.2.1, S0.2.2.2.2.1, S0.2.2.2.2.2.1, S0.2.2.2.2.2.2.1, S0.2.2.2.2.2.2.2.1, S0.2.2.2.2.2.2.2.2.1, S0.2.2.2.2.2.2.2.2.2.1, S0.2.2.2.2.2.2.2.2.2.2.1, S0.2.2.2.2.2.2.2.2.2.2.2.1, (upd S0.2.2.2.2.2.2.2.2.2.2.2.2.1 (S0.2.2.2.2.2.2.2.2.2.2.2.2.2.toNatClampNeg) v1), S0.2.2.2.2.2.2.2.2.2.2.2.2.2 + 1))) else none) else ((f_X6_refuse S0 v2).bind fun r3 => some (r3.1, r3.2))
def f_X6_row (S0 : ST_X6) (p1 : Int32) : Option (Int32 × ST_X6) :=
  (f_X6_within p1 0 9).bind fun r4 => if r4 = 0 then (if S0.2.2.2.2.2.2.2.2.2.2.2.2.2 = 14 then (f_X6_row_b24 S0 p1 (-6)) else (f_X6_row_b24 S0 p1 r4)) else (f_X6_row_b24 S0 p1 r4)
def f_X6_judge_b26 : Nat → ST_X6 → Int32 → Int32 → Int32 → Option (Int32 × ST_X6)
  | 0, _, _, _, _ => none
  | fu + 1, S0, v1, v2, v3 => if v2 ≤ v3 then (some ((-9), S0)) else (if inB v3 14 then ((f_X6_isAt S0 v1 ((S0.2.1 1) + v3)).bind fun r3 => if (S0.2.2.2.2.2.2.2.2.2.2.2.2.1 v3.toNatClampNeg) = r3 then ((f_X6_judge_b26 fu) S0 v1 v2 (v3 + 1)) else some (v3, S0)) else none)
def f_X6_judge (S0 : ST_X6) (p1 : Int32) : Option (Int32 × ST_X6) :=
  (f_X6_isEngine S0 p1).bind fun r5 => if r5 = 0 then ((f_X6_refuse S0 (-1)).bind fun r7 => some (r7.1, r7.2)) else (f_X6_judge_b26 4096 (S0.1, S0.2.1, S0.2.2.1, S0.2.2.2.1, S0.2.2.2.2.1, S0.2.2.2.2.2.1, S0.2.2.2.2.2.2.1, S0.2.2.2.2.2.2.2.1, S0.2.2.2.2.2.2.2.2.1, S0.2.2.2.2.2.2.2.2.2.1, S0.2.2.2.2.2.2.2.2.2.2.1, S0.2.2.2.2.2.2.2.2.2.2.2.1, S0.2.2.2.2.2.2.2.2.2.2.2.2.1, 0) p1 S0.2.2.2.2.2.2.2.2.2.2.2.2.2 0)
def f_X6_image (S0 : ST_X6) : Option (Int32 × ST_X6) :=
  (f_X6_copies S0.2.1 S0.2.2.1).bind fun r1 => some (S0.2.1 1, (S0.1, S0.2.1, r1, S0.2.2.2.1, 1, S0.2.2.2.2.2.1, S0.2.2.2.2.2.2.1, S0.2.2.2.2.2.2.2.1, S0.2.2.2.2.2.2.2.2.1, S0.2.2.2.2.2.2.2.2.2.1, S0.2.2.2.2.2.2.2.2.2.2.1, S0.2.2.2.2.2.2.2.2.2.2.2.1, S0.2.2.2.2.2.2.2.2.2.2.2.2.1, S0.2.2.2.2.2.2.2.2.2.2.2.2.2))
def f_X6_on (S0 : ST_X6) : Option (Int32 × ST_X6) :=
  if S0.2.2.2.2.1 = 0 then ((f_X6_refuse S0 (-3)).bind fun r3 => some (r3.1, r3.2)) else ((f_X6_copies S0.2.2.1 S0.2.1).bind fun r2 => some (r2 1, (S0.1, r2, S0.2.2.1, S0.2.2.2.1, S0.2.2.2.2.1, S0.2.2.2.2.2.1, S0.2.2.2.2.2.2.1, S0.2.2.2.2.2.2.2.1, S0.2.2.2.2.2.2.2.2.1, S0.2.2.2.2.2.2.2.2.2.1, S0.2.2.2.2.2.2.2.2.2.2.1, S0.2.2.2.2.2.2.2.2.2.2.2.1, S0.2.2.2.2.2.2.2.2.2.2.2.2.1, S0.2.2.2.2.2.2.2.2.2.2.2.2.2)))
def f_X6_count_b22 (S0 : ST_X6) (v1 : Int32) : Option (Int32) :=
  if v1 = 0 then some (S0.2.1 0) else (if v1 = 1 then some (S0.2.1 1) else (if v1 = 2 then ((f_X6_bits (S0.2.1 2)).bind fun r2 => some r2) else (if v1 = 3 then ((f_X6_allNew S0).bind fun r3 => some r3) else (if v1 = 4 then some (S0.2.1 4) else (if v1 = 5 then some S0.2.2.2.2.2.2.2.2.2.2.2.2.2 else (if v1 = 6 then some S0.2.2.2.2.2.2.2.1 else (if v1 = 7 then ((f_X6_bits (S0.2.1 3)).bind fun r4 => some r4) else some (-9))))))))
def f_X6_count (S0 : ST_X6) (p1 : Int32) : Option (Int32) :=
  if p1 ≤ 10 then (f_X6_count_b22 S0 p1) else (if 17 ≤ p1 then (f_X6_count_b22 S0 p1) else (if inB (p1 - 10) 7 then (some (S0.1 (p1 - 10).toNatClampNeg)) else none))
