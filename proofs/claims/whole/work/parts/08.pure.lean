def fX11_isIn (p0 : Int32) (p1 : Int32) (p2 : Int32) : Int32 :=
  (if p0 < p1 then 0 else (if p2 < p0 then 0 else 1))
def fX11_isHour (p0 : Int32) : Int32 :=
  (fX11_isIn p0 0 23)
def fX11_suits (p0 : Int32) (p1 : Int32) : Int32 :=
  (if p0 = 1 then (fX11_isHour p1) else (if p0 = 2 then (fX11_isIn p1 1 9) else (if p0 = 3 then (fX11_isIn p1 0 99) else 0)))
def fJ7_fill_53178C_q63_L5_b (k5 : mM → Int32 → Int32 → Int32 → Option (Int32 × mM)) (M : mM) (x1 : Int32) (x2 : Int32) (x3 : Int32) : Option (Int32 × mM) :=
  (if x3 ≤ x2 then (some (0, M)) else (gd (ix x2 3072) (k5 (wr M 63 (Int32.toNatClampNeg x2) x1) x1 (x2 + 1) x3)))
def fJ7_fill_53178C_q63_L5 : Nat → mM → Int32 → Int32 → Int32 → Option (Int32 × mM)
  | 0 => fun _ _ _ _ => none
  | n + 1 => fJ7_fill_53178C_q63_L5_b (fJ7_fill_53178C_q63_L5 n)
def fJ7_fill_53178C_q63 (M : mM) (p1 : Int32) : Option (Int32 × mM) :=
  (fJ7_fill_53178C_q63_L5 5000 M p1 0 3072)
def fX11_forgetSums (M : mM) : Option (Int32 × mM) :=
  (b2 (fJ7_fill_53178C_q63 M (-1000000)) fun r1 M3 => (some (0, M3)))
def fX11_voter (M : mM) (p1 : Int32) (p2 : Int32) (p3 : Int32) (p4 : Int32) : Option (Int32 × mM) :=
  (if (fX11_isIn p1 1 5) = 0 then (some ((-1), M)) else (if (fX11_suits 1 p2) = 0 then (some ((-1), M)) else (if (fX11_suits 2 p3) = 0 then (some ((-1), M)) else (if (fX11_suits 3 p4) = 0 then (some ((-1), M)) else (if (M 1 0) < 7 then (gd (ix (M 1 0) 7) (gd (ix (M 1 0) 7) (gd (ix (M 1 0) 7) (gd (ix (M 1 0) 7) (b2 (fX11_forgetSums (wr (wr (wr (wr (wr (wr M 2 (Int32.toNatClampNeg (M 1 0)) p1) 3 (Int32.toNatClampNeg (M 1 0)) p2) 4 (Int32.toNatClampNeg (M 1 0)) p3) 5 (Int32.toNatClampNeg (M 1 0)) p4) 1 5 (((wr (wr (wr (wr M 2 (Int32.toNatClampNeg (M 1 0)) p1) 3 (Int32.toNatClampNeg (M 1 0)) p2) 4 (Int32.toNatClampNeg (M 1 0)) p3) 5 (Int32.toNatClampNeg (M 1 0)) p4) 1 5) ||| (1 <<< ((M 1 0) &&& 31)))) 1 0 (((wr (wr (wr (wr (wr M 2 (Int32.toNatClampNeg (M 1 0)) p1) 3 (Int32.toNatClampNeg (M 1 0)) p2) 4 (Int32.toNatClampNeg (M 1 0)) p3) 5 (Int32.toNatClampNeg (M 1 0)) p4) 1 5 (((wr (wr (wr (wr M 2 (Int32.toNatClampNeg (M 1 0)) p1) 3 (Int32.toNatClampNeg (M 1 0)) p2) 4 (Int32.toNatClampNeg (M 1 0)) p3) 5 (Int32.toNatClampNeg (M 1 0)) p4) 1 5) ||| (1 <<< ((M 1 0) &&& 31)))) 1 0) + 1))) fun r9 M11 => (some ((M 1 0), M11))))))) else (some ((-2), M)))))))
def fX11_isVoter (M : mM) (p1 : Int32) : Int32 :=
  (if p1 < 0 then 0 else (if (M 1 0) ≤ p1 then 0 else 1))
def fX11_isAwake (M : mM) (p1 : Int32) : Int32 :=
  (if (((M 1 5) >>> (p1 &&& 31)) &&& 1) = 1 then 1 else 0)
def fJ9_floorMod_7cf53C (M : mM) (p0 : Int32) (p1 : Int32) : Option Int32 :=
  (gd (nz p1) (if 0 ≤ (p0 ^^^ p1) then (some (irem p0 p1)) else (if (irem p0 p1) = 0 then (some (irem p0 p1)) else (some ((irem p0 p1) + p1)))))
def fX11_voteAt (M : mM) (p1 : Int32) (p2 : Int32) : Option Int32 :=
  (gd (ix p1 7) (b1 (fJ9_floorMod_7cf53C M ((M 3 (Int32.toNatClampNeg p1)) - p2) 24) fun r2 => (if r2 = 0 then (some 0) else (if 12 < r2 then (some (-1)) else (some 1)))))
def fJ6_bitCount_0f7a4C (p0 : Int32) : Int32 :=
  ((((((((p0 - ((iushr p0 1) &&& 1431655765)) &&& 858993459) + ((iushr (p0 - ((iushr p0 1) &&& 1431655765)) 2) &&& 858993459)) + (iushr (((p0 - ((iushr p0 1) &&& 1431655765)) &&& 858993459) + ((iushr (p0 - ((iushr p0 1) &&& 1431655765)) 2) &&& 858993459)) 4)) &&& 252645135) + (iushr (((((p0 - ((iushr p0 1) &&& 1431655765)) &&& 858993459) + ((iushr (p0 - ((iushr p0 1) &&& 1431655765)) 2) &&& 858993459)) + (iushr (((p0 - ((iushr p0 1) &&& 1431655765)) &&& 858993459) + ((iushr (p0 - ((iushr p0 1) &&& 1431655765)) 2) &&& 858993459)) 4)) &&& 252645135) 8)) + (iushr ((((((p0 - ((iushr p0 1) &&& 1431655765)) &&& 858993459) + ((iushr (p0 - ((iushr p0 1) &&& 1431655765)) 2) &&& 858993459)) + (iushr (((p0 - ((iushr p0 1) &&& 1431655765)) &&& 858993459) + ((iushr (p0 - ((iushr p0 1) &&& 1431655765)) 2) &&& 858993459)) 4)) &&& 252645135) + (iushr (((((p0 - ((iushr p0 1) &&& 1431655765)) &&& 858993459) + ((iushr (p0 - ((iushr p0 1) &&& 1431655765)) 2) &&& 858993459)) + (iushr (((p0 - ((iushr p0 1) &&& 1431655765)) &&& 858993459) + ((iushr (p0 - ((iushr p0 1) &&& 1431655765)) 2) &&& 858993459)) 4)) &&& 252645135) 8)) 16)) &&& 63)
def fX11_isUnder_L19 (M : mM) (x0 : Int32) (x1 : Int32) : Int32 :=
  (if x1 = 4 then (if x0 = 5 then 1 else 0) else 0)
def fX11_isUnder (M : mM) (p0 : Int32) (p1 : Int32) : Int32 :=
  (if p1 = 0 then 1 else (if p1 = p0 then 1 else (if p1 = 2 then (if p0 = 3 then 1 else (fX11_isUnder_L19 M p0 p1)) else (fX11_isUnder_L19 M p0 p1))))
def fX6_holds_q8_L19_b (k13 : mM → Int32 → Int32 → Int32 → Option Int32) (M : mM) (x1 : Int32) (x2 : Int32) (x3 : Int32) : Option Int32 :=
  (gd (ix x1 8) (if (M 12 (Int32.toNatClampNeg x1)) ≤ x3 then (if (x2 &&& 1) = 1 then (some 1) else (some 0)) else (gd (ix x3 200) (gd (ix (M 14 (Int32.toNatClampNeg x3)) 205) (gd (ix x3 200) (gd (ix (M 15 (Int32.toNatClampNeg x3)) 205) (gd (ix x3 200) (if (M 13 (Int32.toNatClampNeg x3)) = 21 then (k13 M x1 ((x2 >>> (1 &&& 31)) &&& (x2 ||| (-2))) (x3 + 1)) else (if (M 13 (Int32.toNatClampNeg x3)) = 22 then (k13 M x1 ((x2 >>> (1 &&& 31)) ||| (x2 &&& 1)) (x3 + 1)) else (if (M 13 (Int32.toNatClampNeg x3)) = 23 then (k13 M x1 (x2 ^^^ 1) (x3 + 1)) else (if (M 13 (Int32.toNatClampNeg x3)) = 24 then (k13 M x1 ((x2 >>> (1 &&& 31)) ||| (x2 &&& 1)) (x3 + 1)) else (if (M 13 (Int32.toNatClampNeg x3)) = 25 then (k13 M x1 ((x2 >>> (1 &&& 31)) ||| (x2 &&& 1)) (x3 + 1)) else (if (M 13 (Int32.toNatClampNeg x3)) = 26 then (k13 M x1 ((x2 >>> (1 &&& 31)) ||| (x2 &&& 1)) (x3 + 1)) else (if (M 13 (Int32.toNatClampNeg x3)) = 27 then (k13 M x1 ((x2 >>> (1 &&& 31)) ||| (x2 &&& 1)) (x3 + 1)) else (if (M 13 (Int32.toNatClampNeg x3)) = 28 then (k13 M x1 ((x2 >>> (1 &&& 31)) ||| (x2 &&& 1)) (x3 + 1)) else (if (M 13 (Int32.toNatClampNeg x3)) = 29 then (k13 M x1 ((x2 >>> (1 &&& 31)) ||| (x2 &&& 1)) (x3 + 1)) else (if (M 13 (Int32.toNatClampNeg x3)) = 30 then (k13 M x1 ((x2 >>> (1 &&& 31)) ||| (x2 &&& 1)) (x3 + 1)) else (if (M 13 (Int32.toNatClampNeg x3)) = 31 then (if (M 16 (Int32.toNatClampNeg (M 15 (Int32.toNatClampNeg x3)))) ≤ (M 16 (Int32.toNatClampNeg (M 14 (Int32.toNatClampNeg x3)))) then (k13 M x1 ((x2 <<< (1 &&& 31)) ||| 0) (x3 + 1)) else (k13 M x1 ((x2 <<< (1 &&& 31)) ||| 1) (x3 + 1))) else (if (M 13 (Int32.toNatClampNeg x3)) = 32 then (if (M 16 (Int32.toNatClampNeg (M 14 (Int32.toNatClampNeg x3)))) = (M 16 (Int32.toNatClampNeg (M 15 (Int32.toNatClampNeg x3)))) then (k13 M x1 ((x2 <<< (1 &&& 31)) ||| 1) (x3 + 1)) else (k13 M x1 ((x2 <<< (1 &&& 31)) ||| 0) (x3 + 1))) else (if (M 13 (Int32.toNatClampNeg x3)) = 33 then (if (M 16 (Int32.toNatClampNeg (M 14 (Int32.toNatClampNeg x3)))) ≤ (M 16 (Int32.toNatClampNeg (M 15 (Int32.toNatClampNeg x3)))) then (k13 M x1 ((x2 <<< (1 &&& 31)) ||| 0) (x3 + 1)) else (k13 M x1 ((x2 <<< (1 &&& 31)) ||| 1) (x3 + 1))) else (k13 M x1 ((x2 >>> (1 &&& 31)) ||| (x2 &&& 1)) (x3 + 1))))))))))))))))))))))
def fX6_holds_q8_L19 : Nat → mM → Int32 → Int32 → Int32 → Option Int32
  | 0 => fun _ _ _ _ => none
  | n + 1 => fX6_holds_q8_L19_b (fX6_holds_q8_L19 n)
def fX6_holds_q8_L18 (M : mM) (x1 : Int32) (x2 : Int32) (t0 : Int32) : Option Int32 :=
  (fX6_holds_q8_L19 5000 M x1 x2 t0)
def fX6_holds_q8 (M : mM) (p1 : Int32) : Option Int32 :=
  (if p1 = 0 then (fX6_holds_q8_L18 M p1 1 0) else (gd (ix (p1 - 1) 8) (fX6_holds_q8_L18 M p1 1 (M 12 (Int32.toNatClampNeg (p1 - 1))))))
def fX6_weigh_q8_L2_b (k2 : mM → Int32 → Int32 → Int32 → Option Int32) (M : mM) (x1 : Int32) (x2 : Int32) (x3 : Int32) : Option Int32 :=
  (if (M 8 0) ≤ x3 then (some x2) else (gd (ix x3 8) (if (fX11_isUnder M x1 (M 9 (Int32.toNatClampNeg x3))) = 0 then (k2 M x1 x2 (x3 + 1)) else (b1 (fX6_holds_q8 M x3) fun r3 => (if r3 = 0 then (k2 M x1 x2 (x3 + 1)) else (gd (ix x3 8) (if (M 10 (Int32.toNatClampNeg x3)) = 24 then (gd (ix x3 8) (some (x2 + (M 11 (Int32.toNatClampNeg x3))))) else (gd (ix x3 8) (if (M 10 (Int32.toNatClampNeg x3)) = 25 then (gd (ix x3 8) (some (jmax 0 (x2 - (M 11 (Int32.toNatClampNeg x3)))))) else (some 0))))))))))
def fX6_weigh_q8_L2 : Nat → mM → Int32 → Int32 → Int32 → Option Int32
  | 0 => fun _ _ _ _ => none
  | n + 1 => fX6_weigh_q8_L2_b (fX6_weigh_q8_L2 n)
def fX6_weigh_q8 (M : mM) (p1 : Int32) (p2 : Int32) : Option Int32 :=
  (fX6_weigh_q8_L2 5000 M p1 p2 0)
def fX9_powerOf_q50 (p1 : Int32) (p2 : Int32) : Int32 :=
  p1
def fX9_powerOf_q51 (p1 : Int32) (p2 : Int32) : Int32 :=
  p1
def fX1_powerOf_q52 (p1 : Int32) (p2 : Int32) : Int32 :=
  (if p2 < 12 then p1 else (p1 + 2))
def fX1_powerOf_q53 (p1 : Int32) (p2 : Int32) : Int32 :=
  (if p2 < 12 then p1 else (p1 + 2))
def fX7_powerOf_q53 (p1 : Int32) (p2 : Int32) : Int32 :=
  (3 * (fX1_powerOf_q53 p1 p2))
def fX0_powerOf_q54 (p1 : Int32) (p2 : Int32) : Int32 :=
  (p1 / 2)
def fX0_powerOf_q55 (p1 : Int32) (p2 : Int32) : Int32 :=
  (p1 / 2)
def fX8_powerOf_q55 (p1 : Int32) (p2 : Int32) : Int32 :=
  (if 6 ≤ p2 then (fX0_powerOf_q55 p1 p2) else 0)
def fX11_powerAt (M : mM) (p1 : Int32) (p2 : Int32) (p3 : Int32) : Option (Int32 × mM) :=
  (gd (ix 0 205) (gd (ix p1 7) (gd (ix 1 205) (gd (ix p1 7) (gd (ix 2 205) (gd (ix 3 205) (gd (ix 4 205) (gd (ix p1 7) (gd (ix ((wr (wr (wr (wr (wr M 16 (Int32.toNatClampNeg 0) p2) 16 (Int32.toNatClampNeg 1) ((wr M 16 (Int32.toNatClampNeg 0) p2) 3 (Int32.toNatClampNeg p1))) 16 (Int32.toNatClampNeg 2) ((wr (wr M 16 (Int32.toNatClampNeg 0) p2) 16 (Int32.toNatClampNeg 1) ((wr M 16 (Int32.toNatClampNeg 0) p2) 3 (Int32.toNatClampNeg p1))) 4 (Int32.toNatClampNeg p1))) 16 (Int32.toNatClampNeg 3) p3) 16 (Int32.toNatClampNeg 4) p1) 2 (Int32.toNatClampNeg p1)) 6) (if ((wr (wr (wr (wr (wr M 16 (Int32.toNatClampNeg 0) p2) 16 (Int32.toNatClampNeg 1) ((wr M 16 (Int32.toNatClampNeg 0) p2) 3 (Int32.toNatClampNeg p1))) 16 (Int32.toNatClampNeg 2) ((wr (wr M 16 (Int32.toNatClampNeg 0) p2) 16 (Int32.toNatClampNeg 1) ((wr M 16 (Int32.toNatClampNeg 0) p2) 3 (Int32.toNatClampNeg p1))) 4 (Int32.toNatClampNeg p1))) 16 (Int32.toNatClampNeg 3) p3) 16 (Int32.toNatClampNeg 4) p1) 2 (Int32.toNatClampNeg p1)) = 0 then (gd (ix p1 7) (b1 (fX6_weigh_q8 (wr (wr (wr (wr (wr M 16 (Int32.toNatClampNeg 0) p2) 16 (Int32.toNatClampNeg 1) ((wr M 16 (Int32.toNatClampNeg 0) p2) 3 (Int32.toNatClampNeg p1))) 16 (Int32.toNatClampNeg 2) ((wr (wr M 16 (Int32.toNatClampNeg 0) p2) 16 (Int32.toNatClampNeg 1) ((wr M 16 (Int32.toNatClampNeg 0) p2) 3 (Int32.toNatClampNeg p1))) 4 (Int32.toNatClampNeg p1))) 16 (Int32.toNatClampNeg 3) p3) 16 (Int32.toNatClampNeg 4) p1) ((wr (wr (wr (wr (wr M 16 (Int32.toNatClampNeg 0) p2) 16 (Int32.toNatClampNeg 1) ((wr M 16 (Int32.toNatClampNeg 0) p2) 3 (Int32.toNatClampNeg p1))) 16 (Int32.toNatClampNeg 2) ((wr (wr M 16 (Int32.toNatClampNeg 0) p2) 16 (Int32.toNatClampNeg 1) ((wr M 16 (Int32.toNatClampNeg 0) p2) 3 (Int32.toNatClampNeg p1))) 4 (Int32.toNatClampNeg p1))) 16 (Int32.toNatClampNeg 3) p3) 16 (Int32.toNatClampNeg 4) p1) 2 (Int32.toNatClampNeg p1)) ((wr (wr (wr (wr (wr M 16 (Int32.toNatClampNeg 0) p2) 16 (Int32.toNatClampNeg 1) ((wr M 16 (Int32.toNatClampNeg 0) p2) 3 (Int32.toNatClampNeg p1))) 16 (Int32.toNatClampNeg 2) ((wr (wr M 16 (Int32.toNatClampNeg 0) p2) 16 (Int32.toNatClampNeg 1) ((wr M 16 (Int32.toNatClampNeg 0) p2) 3 (Int32.toNatClampNeg p1))) 4 (Int32.toNatClampNeg p1))) 16 (Int32.toNatClampNeg 3) p3) 16 (Int32.toNatClampNeg 4) p1) 4 (Int32.toNatClampNeg p1))) fun r11 => (some ((fX9_powerOf_q50 r11 p2), wr (wr (wr (wr (wr M 16 (Int32.toNatClampNeg 0) p2) 16 (Int32.toNatClampNeg 1) ((wr M 16 (Int32.toNatClampNeg 0) p2) 3 (Int32.toNatClampNeg p1))) 16 (Int32.toNatClampNeg 2) ((wr (wr M 16 (Int32.toNatClampNeg 0) p2) 16 (Int32.toNatClampNeg 1) ((wr M 16 (Int32.toNatClampNeg 0) p2) 3 (Int32.toNatClampNeg p1))) 4 (Int32.toNatClampNeg p1))) 16 (Int32.toNatClampNeg 3) p3) 16 (Int32.toNatClampNeg 4) p1)))) else (if ((wr (wr (wr (wr (wr M 16 (Int32.toNatClampNeg 0) p2) 16 (Int32.toNatClampNeg 1) ((wr M 16 (Int32.toNatClampNeg 0) p2) 3 (Int32.toNatClampNeg p1))) 16 (Int32.toNatClampNeg 2) ((wr (wr M 16 (Int32.toNatClampNeg 0) p2) 16 (Int32.toNatClampNeg 1) ((wr M 16 (Int32.toNatClampNeg 0) p2) 3 (Int32.toNatClampNeg p1))) 4 (Int32.toNatClampNeg p1))) 16 (Int32.toNatClampNeg 3) p3) 16 (Int32.toNatClampNeg 4) p1) 2 (Int32.toNatClampNeg p1)) = 1 then (gd (ix p1 7) (b1 (fX6_weigh_q8 (wr (wr (wr (wr (wr M 16 (Int32.toNatClampNeg 0) p2) 16 (Int32.toNatClampNeg 1) ((wr M 16 (Int32.toNatClampNeg 0) p2) 3 (Int32.toNatClampNeg p1))) 16 (Int32.toNatClampNeg 2) ((wr (wr M 16 (Int32.toNatClampNeg 0) p2) 16 (Int32.toNatClampNeg 1) ((wr M 16 (Int32.toNatClampNeg 0) p2) 3 (Int32.toNatClampNeg p1))) 4 (Int32.toNatClampNeg p1))) 16 (Int32.toNatClampNeg 3) p3) 16 (Int32.toNatClampNeg 4) p1) ((wr (wr (wr (wr (wr M 16 (Int32.toNatClampNeg 0) p2) 16 (Int32.toNatClampNeg 1) ((wr M 16 (Int32.toNatClampNeg 0) p2) 3 (Int32.toNatClampNeg p1))) 16 (Int32.toNatClampNeg 2) ((wr (wr M 16 (Int32.toNatClampNeg 0) p2) 16 (Int32.toNatClampNeg 1) ((wr M 16 (Int32.toNatClampNeg 0) p2) 3 (Int32.toNatClampNeg p1))) 4 (Int32.toNatClampNeg p1))) 16 (Int32.toNatClampNeg 3) p3) 16 (Int32.toNatClampNeg 4) p1) 2 (Int32.toNatClampNeg p1)) ((wr (wr (wr (wr (wr M 16 (Int32.toNatClampNeg 0) p2) 16 (Int32.toNatClampNeg 1) ((wr M 16 (Int32.toNatClampNeg 0) p2) 3 (Int32.toNatClampNeg p1))) 16 (Int32.toNatClampNeg 2) ((wr (wr M 16 (Int32.toNatClampNeg 0) p2) 16 (Int32.toNatClampNeg 1) ((wr M 16 (Int32.toNatClampNeg 0) p2) 3 (Int32.toNatClampNeg p1))) 4 (Int32.toNatClampNeg p1))) 16 (Int32.toNatClampNeg 3) p3) 16 (Int32.toNatClampNeg 4) p1) 4 (Int32.toNatClampNeg p1))) fun r15 => (some ((fX9_powerOf_q51 r15 p2), wr (wr (wr (wr (wr M 16 (Int32.toNatClampNeg 0) p2) 16 (Int32.toNatClampNeg 1) ((wr M 16 (Int32.toNatClampNeg 0) p2) 3 (Int32.toNatClampNeg p1))) 16 (Int32.toNatClampNeg 2) ((wr (wr M 16 (Int32.toNatClampNeg 0) p2) 16 (Int32.toNatClampNeg 1) ((wr M 16 (Int32.toNatClampNeg 0) p2) 3 (Int32.toNatClampNeg p1))) 4 (Int32.toNatClampNeg p1))) 16 (Int32.toNatClampNeg 3) p3) 16 (Int32.toNatClampNeg 4) p1)))) else (if ((wr (wr (wr (wr (wr M 16 (Int32.toNatClampNeg 0) p2) 16 (Int32.toNatClampNeg 1) ((wr M 16 (Int32.toNatClampNeg 0) p2) 3 (Int32.toNatClampNeg p1))) 16 (Int32.toNatClampNeg 2) ((wr (wr M 16 (Int32.toNatClampNeg 0) p2) 16 (Int32.toNatClampNeg 1) ((wr M 16 (Int32.toNatClampNeg 0) p2) 3 (Int32.toNatClampNeg p1))) 4 (Int32.toNatClampNeg p1))) 16 (Int32.toNatClampNeg 3) p3) 16 (Int32.toNatClampNeg 4) p1) 2 (Int32.toNatClampNeg p1)) = 2 then (gd (ix p1 7) (b1 (fX6_weigh_q8 (wr (wr (wr (wr (wr M 16 (Int32.toNatClampNeg 0) p2) 16 (Int32.toNatClampNeg 1) ((wr M 16 (Int32.toNatClampNeg 0) p2) 3 (Int32.toNatClampNeg p1))) 16 (Int32.toNatClampNeg 2) ((wr (wr M 16 (Int32.toNatClampNeg 0) p2) 16 (Int32.toNatClampNeg 1) ((wr M 16 (Int32.toNatClampNeg 0) p2) 3 (Int32.toNatClampNeg p1))) 4 (Int32.toNatClampNeg p1))) 16 (Int32.toNatClampNeg 3) p3) 16 (Int32.toNatClampNeg 4) p1) ((wr (wr (wr (wr (wr M 16 (Int32.toNatClampNeg 0) p2) 16 (Int32.toNatClampNeg 1) ((wr M 16 (Int32.toNatClampNeg 0) p2) 3 (Int32.toNatClampNeg p1))) 16 (Int32.toNatClampNeg 2) ((wr (wr M 16 (Int32.toNatClampNeg 0) p2) 16 (Int32.toNatClampNeg 1) ((wr M 16 (Int32.toNatClampNeg 0) p2) 3 (Int32.toNatClampNeg p1))) 4 (Int32.toNatClampNeg p1))) 16 (Int32.toNatClampNeg 3) p3) 16 (Int32.toNatClampNeg 4) p1) 2 (Int32.toNatClampNeg p1)) ((wr (wr (wr (wr (wr M 16 (Int32.toNatClampNeg 0) p2) 16 (Int32.toNatClampNeg 1) ((wr M 16 (Int32.toNatClampNeg 0) p2) 3 (Int32.toNatClampNeg p1))) 16 (Int32.toNatClampNeg 2) ((wr (wr M 16 (Int32.toNatClampNeg 0) p2) 16 (Int32.toNatClampNeg 1) ((wr M 16 (Int32.toNatClampNeg 0) p2) 3 (Int32.toNatClampNeg p1))) 4 (Int32.toNatClampNeg p1))) 16 (Int32.toNatClampNeg 3) p3) 16 (Int32.toNatClampNeg 4) p1) 4 (Int32.toNatClampNeg p1))) fun r19 => (some ((fX1_powerOf_q52 r19 p2), wr (wr (wr (wr (wr M 16 (Int32.toNatClampNeg 0) p2) 16 (Int32.toNatClampNeg 1) ((wr M 16 (Int32.toNatClampNeg 0) p2) 3 (Int32.toNatClampNeg p1))) 16 (Int32.toNatClampNeg 2) ((wr (wr M 16 (Int32.toNatClampNeg 0) p2) 16 (Int32.toNatClampNeg 1) ((wr M 16 (Int32.toNatClampNeg 0) p2) 3 (Int32.toNatClampNeg p1))) 4 (Int32.toNatClampNeg p1))) 16 (Int32.toNatClampNeg 3) p3) 16 (Int32.toNatClampNeg 4) p1)))) else (if ((wr (wr (wr (wr (wr M 16 (Int32.toNatClampNeg 0) p2) 16 (Int32.toNatClampNeg 1) ((wr M 16 (Int32.toNatClampNeg 0) p2) 3 (Int32.toNatClampNeg p1))) 16 (Int32.toNatClampNeg 2) ((wr (wr M 16 (Int32.toNatClampNeg 0) p2) 16 (Int32.toNatClampNeg 1) ((wr M 16 (Int32.toNatClampNeg 0) p2) 3 (Int32.toNatClampNeg p1))) 4 (Int32.toNatClampNeg p1))) 16 (Int32.toNatClampNeg 3) p3) 16 (Int32.toNatClampNeg 4) p1) 2 (Int32.toNatClampNeg p1)) = 3 then (gd (ix p1 7) (b1 (fX6_weigh_q8 (wr (wr (wr (wr (wr M 16 (Int32.toNatClampNeg 0) p2) 16 (Int32.toNatClampNeg 1) ((wr M 16 (Int32.toNatClampNeg 0) p2) 3 (Int32.toNatClampNeg p1))) 16 (Int32.toNatClampNeg 2) ((wr (wr M 16 (Int32.toNatClampNeg 0) p2) 16 (Int32.toNatClampNeg 1) ((wr M 16 (Int32.toNatClampNeg 0) p2) 3 (Int32.toNatClampNeg p1))) 4 (Int32.toNatClampNeg p1))) 16 (Int32.toNatClampNeg 3) p3) 16 (Int32.toNatClampNeg 4) p1) ((wr (wr (wr (wr (wr M 16 (Int32.toNatClampNeg 0) p2) 16 (Int32.toNatClampNeg 1) ((wr M 16 (Int32.toNatClampNeg 0) p2) 3 (Int32.toNatClampNeg p1))) 16 (Int32.toNatClampNeg 2) ((wr (wr M 16 (Int32.toNatClampNeg 0) p2) 16 (Int32.toNatClampNeg 1) ((wr M 16 (Int32.toNatClampNeg 0) p2) 3 (Int32.toNatClampNeg p1))) 4 (Int32.toNatClampNeg p1))) 16 (Int32.toNatClampNeg 3) p3) 16 (Int32.toNatClampNeg 4) p1) 2 (Int32.toNatClampNeg p1)) ((wr (wr (wr (wr (wr M 16 (Int32.toNatClampNeg 0) p2) 16 (Int32.toNatClampNeg 1) ((wr M 16 (Int32.toNatClampNeg 0) p2) 3 (Int32.toNatClampNeg p1))) 16 (Int32.toNatClampNeg 2) ((wr (wr M 16 (Int32.toNatClampNeg 0) p2) 16 (Int32.toNatClampNeg 1) ((wr M 16 (Int32.toNatClampNeg 0) p2) 3 (Int32.toNatClampNeg p1))) 4 (Int32.toNatClampNeg p1))) 16 (Int32.toNatClampNeg 3) p3) 16 (Int32.toNatClampNeg 4) p1) 4 (Int32.toNatClampNeg p1))) fun r23 => (some ((fX7_powerOf_q53 r23 p2), wr (wr (wr (wr (wr M 16 (Int32.toNatClampNeg 0) p2) 16 (Int32.toNatClampNeg 1) ((wr M 16 (Int32.toNatClampNeg 0) p2) 3 (Int32.toNatClampNeg p1))) 16 (Int32.toNatClampNeg 2) ((wr (wr M 16 (Int32.toNatClampNeg 0) p2) 16 (Int32.toNatClampNeg 1) ((wr M 16 (Int32.toNatClampNeg 0) p2) 3 (Int32.toNatClampNeg p1))) 4 (Int32.toNatClampNeg p1))) 16 (Int32.toNatClampNeg 3) p3) 16 (Int32.toNatClampNeg 4) p1)))) else (if ((wr (wr (wr (wr (wr M 16 (Int32.toNatClampNeg 0) p2) 16 (Int32.toNatClampNeg 1) ((wr M 16 (Int32.toNatClampNeg 0) p2) 3 (Int32.toNatClampNeg p1))) 16 (Int32.toNatClampNeg 2) ((wr (wr M 16 (Int32.toNatClampNeg 0) p2) 16 (Int32.toNatClampNeg 1) ((wr M 16 (Int32.toNatClampNeg 0) p2) 3 (Int32.toNatClampNeg p1))) 4 (Int32.toNatClampNeg p1))) 16 (Int32.toNatClampNeg 3) p3) 16 (Int32.toNatClampNeg 4) p1) 2 (Int32.toNatClampNeg p1)) = 4 then (gd (ix p1 7) (b1 (fX6_weigh_q8 (wr (wr (wr (wr (wr M 16 (Int32.toNatClampNeg 0) p2) 16 (Int32.toNatClampNeg 1) ((wr M 16 (Int32.toNatClampNeg 0) p2) 3 (Int32.toNatClampNeg p1))) 16 (Int32.toNatClampNeg 2) ((wr (wr M 16 (Int32.toNatClampNeg 0) p2) 16 (Int32.toNatClampNeg 1) ((wr M 16 (Int32.toNatClampNeg 0) p2) 3 (Int32.toNatClampNeg p1))) 4 (Int32.toNatClampNeg p1))) 16 (Int32.toNatClampNeg 3) p3) 16 (Int32.toNatClampNeg 4) p1) ((wr (wr (wr (wr (wr M 16 (Int32.toNatClampNeg 0) p2) 16 (Int32.toNatClampNeg 1) ((wr M 16 (Int32.toNatClampNeg 0) p2) 3 (Int32.toNatClampNeg p1))) 16 (Int32.toNatClampNeg 2) ((wr (wr M 16 (Int32.toNatClampNeg 0) p2) 16 (Int32.toNatClampNeg 1) ((wr M 16 (Int32.toNatClampNeg 0) p2) 3 (Int32.toNatClampNeg p1))) 4 (Int32.toNatClampNeg p1))) 16 (Int32.toNatClampNeg 3) p3) 16 (Int32.toNatClampNeg 4) p1) 2 (Int32.toNatClampNeg p1)) ((wr (wr (wr (wr (wr M 16 (Int32.toNatClampNeg 0) p2) 16 (Int32.toNatClampNeg 1) ((wr M 16 (Int32.toNatClampNeg 0) p2) 3 (Int32.toNatClampNeg p1))) 16 (Int32.toNatClampNeg 2) ((wr (wr M 16 (Int32.toNatClampNeg 0) p2) 16 (Int32.toNatClampNeg 1) ((wr M 16 (Int32.toNatClampNeg 0) p2) 3 (Int32.toNatClampNeg p1))) 4 (Int32.toNatClampNeg p1))) 16 (Int32.toNatClampNeg 3) p3) 16 (Int32.toNatClampNeg 4) p1) 4 (Int32.toNatClampNeg p1))) fun r27 => (some ((fX0_powerOf_q54 r27 p2), wr (wr (wr (wr (wr M 16 (Int32.toNatClampNeg 0) p2) 16 (Int32.toNatClampNeg 1) ((wr M 16 (Int32.toNatClampNeg 0) p2) 3 (Int32.toNatClampNeg p1))) 16 (Int32.toNatClampNeg 2) ((wr (wr M 16 (Int32.toNatClampNeg 0) p2) 16 (Int32.toNatClampNeg 1) ((wr M 16 (Int32.toNatClampNeg 0) p2) 3 (Int32.toNatClampNeg p1))) 4 (Int32.toNatClampNeg p1))) 16 (Int32.toNatClampNeg 3) p3) 16 (Int32.toNatClampNeg 4) p1)))) else (gd (ix p1 7) (b1 (fX6_weigh_q8 (wr (wr (wr (wr (wr M 16 (Int32.toNatClampNeg 0) p2) 16 (Int32.toNatClampNeg 1) ((wr M 16 (Int32.toNatClampNeg 0) p2) 3 (Int32.toNatClampNeg p1))) 16 (Int32.toNatClampNeg 2) ((wr (wr M 16 (Int32.toNatClampNeg 0) p2) 16 (Int32.toNatClampNeg 1) ((wr M 16 (Int32.toNatClampNeg 0) p2) 3 (Int32.toNatClampNeg p1))) 4 (Int32.toNatClampNeg p1))) 16 (Int32.toNatClampNeg 3) p3) 16 (Int32.toNatClampNeg 4) p1) ((wr (wr (wr (wr (wr M 16 (Int32.toNatClampNeg 0) p2) 16 (Int32.toNatClampNeg 1) ((wr M 16 (Int32.toNatClampNeg 0) p2) 3 (Int32.toNatClampNeg p1))) 16 (Int32.toNatClampNeg 2) ((wr (wr M 16 (Int32.toNatClampNeg 0) p2) 16 (Int32.toNatClampNeg 1) ((wr M 16 (Int32.toNatClampNeg 0) p2) 3 (Int32.toNatClampNeg p1))) 4 (Int32.toNatClampNeg p1))) 16 (Int32.toNatClampNeg 3) p3) 16 (Int32.toNatClampNeg 4) p1) 2 (Int32.toNatClampNeg p1)) ((wr (wr (wr (wr (wr M 16 (Int32.toNatClampNeg 0) p2) 16 (Int32.toNatClampNeg 1) ((wr M 16 (Int32.toNatClampNeg 0) p2) 3 (Int32.toNatClampNeg p1))) 16 (Int32.toNatClampNeg 2) ((wr (wr M 16 (Int32.toNatClampNeg 0) p2) 16 (Int32.toNatClampNeg 1) ((wr M 16 (Int32.toNatClampNeg 0) p2) 3 (Int32.toNatClampNeg p1))) 4 (Int32.toNatClampNeg p1))) 16 (Int32.toNatClampNeg 3) p3) 16 (Int32.toNatClampNeg 4) p1) 4 (Int32.toNatClampNeg p1))) fun r31 => (some ((fX8_powerOf_q55 r31 p2), wr (wr (wr (wr (wr M 16 (Int32.toNatClampNeg 0) p2) 16 (Int32.toNatClampNeg 1) ((wr M 16 (Int32.toNatClampNeg 0) p2) 3 (Int32.toNatClampNeg p1))) 16 (Int32.toNatClampNeg 2) ((wr (wr M 16 (Int32.toNatClampNeg 0) p2) 16 (Int32.toNatClampNeg 1) ((wr M 16 (Int32.toNatClampNeg 0) p2) 3 (Int32.toNatClampNeg p1))) 4 (Int32.toNatClampNeg p1))) 16 (Int32.toNatClampNeg 3) p3) 16 (Int32.toNatClampNeg 4) p1))))))))))))))))))
def fX11_voterOf (M : mM) (p1 : Int32) (p2 : Int32) : Option (Int32 × mM) :=
  (if (fX11_isVoter M p1) = 0 then (some ((-1), M)) else (if p2 = 0 then (gd (ix p1 7) (some ((M 2 (Int32.toNatClampNeg p1)), M))) else (if p2 = 1 then (gd (ix p1 7) (some ((M 3 (Int32.toNatClampNeg p1)), M))) else (if p2 = 2 then (gd (ix p1 7) (some ((M 4 (Int32.toNatClampNeg p1)), M))) else (if p2 = 3 then (gd (ix p1 7) (some ((M 5 (Int32.toNatClampNeg p1)), M))) else (if p2 = 4 then (if (fX11_isAwake M p1) = 0 then (some (0, M)) else (some (1, M))) else (if p2 = 5 then (b1 (fX11_voteAt M p1 (M 1 6)) fun r13 => (some ((r13 + 1), M))) else (if p2 = 6 then (b2 (fX11_powerAt M p1 (M 1 6) (fJ6_bitCount_0f7a4C (M 1 5))) fun r16 M18 => (some (r16, M18))) else (some ((-1), M))))))))))
def fX11_change_L55 (M : mM) (x1 : Int32) (x3 : Int32) : Option (Int32 × mM) :=
  (gd (ix x1 7) (gd (ix x1 7) (b2 (fX11_forgetSums (wr M 5 (Int32.toNatClampNeg x1) x3)) fun r9 M11 => (some ((M 5 (Int32.toNatClampNeg x1)), M11)))))
def fX11_change_L55_1 (M : mM) (x1 : Int32) (x3 : Int32) : Option (Int32 × mM) :=
  (gd (ix x1 7) (gd (ix x1 7) (b2 (fX11_forgetSums (wr M 4 (Int32.toNatClampNeg x1) x3)) fun r14 M16 => (some ((M 4 (Int32.toNatClampNeg x1)), M16)))))
def fX11_change_L55_2 (M : mM) (x1 : Int32) (x3 : Int32) : Option (Int32 × mM) :=
  (gd (ix x1 7) (gd (ix x1 7) (b2 (fX11_forgetSums (wr M 3 (Int32.toNatClampNeg x1) x3)) fun r19 M21 => (some ((M 3 (Int32.toNatClampNeg x1)), M21)))))
def fX11_change (M : mM) (p1 : Int32) (p2 : Int32) (p3 : Int32) : Option (Int32 × mM) :=
  (if (fX11_isVoter M p1) = 0 then (some ((-1), M)) else (if (fX11_suits p2 p3) = 0 then (some ((-1), M)) else (if p2 = 1 then (fX11_change_L55_2 M p1 p3) else (if p2 = 2 then (fX11_change_L55_1 M p1 p3) else (fX11_change_L55 M p1 p3)))))
def fX11_remake (M : mM) (p1 : Int32) (p2 : Int32) : Option (Int32 × mM) :=
  (if (fX11_isVoter M p1) = 0 then (some ((-1), M)) else (if (fX11_isIn p2 1 5) = 0 then (some ((-1), M)) else (gd (ix p1 7) (gd (ix p1 7) (b2 (fX11_forgetSums (wr M 2 (Int32.toNatClampNeg p1) p2)) fun r5 M7 => (some ((M 2 (Int32.toNatClampNeg p1)), M7)))))))
def fX11_wakes_L23 (M : mM) (x1 : Int32) (x2 : Int32) (t0 : Int32) : Option (Int32 × mM) :=
  (if x2 = 0 then (some (t0, wr M 1 5 ((M 1 5) &&& ((1 <<< (x1 &&& 31)) ^^^ (-1))))) else (some (t0, wr M 1 5 ((M 1 5) ||| (1 <<< (x1 &&& 31))))))
def fX11_wakes (M : mM) (p1 : Int32) (p2 : Int32) : Option (Int32 × mM) :=
  (if (fX11_isVoter M p1) = 0 then (some ((-1), M)) else (if (fX11_isAwake M p1) = 0 then (fX11_wakes_L23 M p1 p2 0) else (fX11_wakes_L23 M p1 p2 1)))
def fX11_clock (M : mM) (p1 : Int32) : Option (Int32 × mM) :=
  (if (fX11_isHour p1) = 0 then (some ((-1), M)) else (some ((M 1 6), wr M 1 6 p1)))
def fX11_limit (M : mM) (p1 : Int32) : Option (Int32 × mM) :=
  (if (fX11_isIn p1 0 99) = 0 then (some ((-1), M)) else (some ((M 1 8), wr M 1 8 p1)))
def fX11_state (M : mM) (p1 : Int32) : Int32 :=
  (if p1 = 0 then (M 1 6) else (if p1 = 1 then (M 1 7) else (if p1 = 2 then (M 1 8) else (if p1 = 3 then (M 1 5) else (if p1 = 4 then (M 1 9) else (-1))))))
def fX5_take_L3_b (k2 : mM → Int64 → Int32 → Int32 → Option (Int32 × mM)) (M : mM) (x1 : Int64) (x3 : Int32) (x4 : Int32) : Option (Int32 × mM) :=
  (if x3 ≤ x4 then (some ((M 33 0), M)) else (if 200 ≤ (M 33 0) then (some ((M 33 0), M)) else (gd (ix (M 33 0) 200) (k2 (wr (wr M 43 (Int32.toNatClampNeg (M 33 0)) ((Int64.toInt32 (lushr x1 (8 * x4))) &&& 255)) 33 0 (((wr M 43 (Int32.toNatClampNeg (M 33 0)) ((Int64.toInt32 (lushr x1 (8 * x4))) &&& 255)) 33 0) + 1)) x1 x3 (x4 + 1)))))
def fX5_take_L3 : Nat → mM → Int64 → Int32 → Int32 → Option (Int32 × mM)
  | 0 => fun _ _ _ _ => none
  | n + 1 => fX5_take_L3_b (fX5_take_L3 n)
def fX5_take (M : mM) (p1 : Int64) (p3 : Int32) : Option (Int32 × mM) :=
  (fX5_take_L3 5000 M p1 p3 0)
def fX11_feed (M : mM) (p1 : Int64) (p3 : Int32) : Option (Int32 × mM) :=
  (if (fX11_isIn p3 1 8) = 0 then (some ((-1), M)) else (if ((M 33 0) + p3) ≤ 200 then (b2 (fX5_take M p1 p3) fun r2 M4 => (some (r2, M4))) else (some ((-2), M))))
def fX6_clear_q34 (M : mM) : Option (Int32 × mM) :=
  (some (0, wr (wr (wr M 34 0 0) 34 5 0) 34 9 5))
def fX5_addWord (M : mM) (p1 : Int32) (p2 : Int32) (p3 : Int32) : Option (Int32 × mM) :=
  (if 200 < (M 33 3) then (some (0, M)) else (gd (ix (M 33 3) 201) (gd (ix ((wr M 44 (Int32.toNatClampNeg (M 33 3)) p1) 33 3) 201) (gd (ix ((wr (wr M 44 (Int32.toNatClampNeg (M 33 3)) p1) 45 (Int32.toNatClampNeg ((wr M 44 (Int32.toNatClampNeg (M 33 3)) p1) 33 3)) p2) 33 3) 201) (some (0, wr (wr (wr (wr M 44 (Int32.toNatClampNeg (M 33 3)) p1) 45 (Int32.toNatClampNeg ((wr M 44 (Int32.toNatClampNeg (M 33 3)) p1) 33 3)) p2) 46 (Int32.toNatClampNeg ((wr (wr M 44 (Int32.toNatClampNeg (M 33 3)) p1) 45 (Int32.toNatClampNeg ((wr M 44 (Int32.toNatClampNeg (M 33 3)) p1) 33 3)) p2) 33 3)) p3) 33 3 (((wr (wr (wr M 44 (Int32.toNatClampNeg (M 33 3)) p1) 45 (Int32.toNatClampNeg ((wr M 44 (Int32.toNatClampNeg (M 33 3)) p1) 33 3)) p2) 46 (Int32.toNatClampNeg ((wr (wr M 44 (Int32.toNatClampNeg (M 33 3)) p1) 45 (Int32.toNatClampNeg ((wr M 44 (Int32.toNatClampNeg (M 33 3)) p1) 33 3)) p2) 33 3)) p3) 33 3) + 1)))))))
def fX5_isLetter (p0 : Int32) : Int32 :=
  (if p0 < 97 then 0 else (if 122 < p0 then 0 else 1))
def fX5_isDigit (p0 : Int32) : Int32 :=
  (if p0 < 48 then 0 else (if 57 < p0 then 0 else 1))
def fX5_signOf (p0 : Int32) : Int32 :=
  (if p0 = 40 then 34 else (if p0 = 41 then 35 else (if p0 = 59 then 36 else (if p0 = 60 then 31 else (if p0 = 61 then 32 else (if p0 = 62 then 33 else 41))))))
def fX6_addValue_q34 (M : mM) (p1 : Int32) : Option (Int32 × mM) :=
  (if 205 ≤ (M 34 9) then (some (((M 34 9) - 1), M)) else (gd (ix (M 34 9) 205) (some ((((wr (wr M 42 (Int32.toNatClampNeg (M 34 9)) p1) 34 9 (((wr M 42 (Int32.toNatClampNeg (M 34 9)) p1) 34 9) + 1)) 34 9) - 1), wr (wr M 42 (Int32.toNatClampNeg (M 34 9)) p1) 34 9 (((wr M 42 (Int32.toNatClampNeg (M 34 9)) p1) 34 9) + 1)))))
def fX5_addNumber_L22_b (k15 : mM → Int32 → Int32 → Int32 → Int32 → Option (Int32 × mM)) (M : mM) (x1 : Int32) (x2 : Int32) (x3 : Int32) (x4 : Int32) : Option (Int32 × mM) :=
  (if x2 ≤ x4 then (b2 (fX6_addValue_q34 M x3) fun r5 M7 => (b2 (fX5_addWord M7 30 x1 r5) fun r8 M10 => (some (0, M10)))) else (gd (ix x4 200) (k15 M x1 x2 (((x3 * 10) + (M 43 (Int32.toNatClampNeg x4))) - 48) (x4 + 1))))
def fX5_addNumber_L22 : Nat → mM → Int32 → Int32 → Int32 → Int32 → Option (Int32 × mM)
  | 0 => fun _ _ _ _ _ => none
  | n + 1 => fX5_addNumber_L22_b (fX5_addNumber_L22 n)
def fX5_addNumber (M : mM) (p1 : Int32) (p2 : Int32) : Option (Int32 × mM) :=
  (if (p2 - p1) ≤ 4 then (fX5_addNumber_L22 5000 M p1 p2 0 p1) else (b2 (fX5_addWord M 41 p1 (-3)) fun r1 M3 => (some (0, M3))))
def fX5_spells_L20_b (k12 : mM → Int32 → Int32 → Nat → Int32 → Int32 → Option Int32) (M : mM) (x1 : Int32) (x2 : Int32) (x3 : Nat) (x4 : Int32) (x5 : Int32) : Option Int32 :=
  (if x4 = 0 then (gd (isB x4) (some x4)) else (if x2 ≤ x5 then (gd (isB x4) (some x4)) else (gd (ix x5 200) (gd (sok x3) (gd (ix (x5 - x1) (lenL.getD x3 0)) (if (M 43 (Int32.toNatClampNeg x5)) = (sch x3 (x5 - x1)) then (k12 M x1 x2 x3 1 (x5 + 1)) else (k12 M x1 x2 x3 0 (x5 + 1))))))))
def fX5_spells_L20 : Nat → mM → Int32 → Int32 → Nat → Int32 → Int32 → Option Int32
  | 0 => fun _ _ _ _ _ _ => none
  | n + 1 => fX5_spells_L20_b (fX5_spells_L20 n)
def fX5_spells_L15 (M : mM) (x1 : Int32) (x2 : Int32) (x3 : Nat) (t0 : Int32) : Option Int32 :=
  (fX5_spells_L20 5000 M x1 x2 x3 t0 x1)
def fX5_spells (M : mM) (p1 : Int32) (p2 : Int32) (p3 : Nat) : Option Int32 :=
  (gd (sok p3) (if (p2 - p1) = (slen p3) then (fX5_spells_L15 M p1 p2 p3 1) else (fX5_spells_L15 M p1 p2 p3 0)))
def fX5_nameAt (M : mM) (p1 : Int32) (p2 : Int32) : Option Int32 :=
  (b1 (fX5_spells M p1 p2 0) fun r1 => (if r1 = 0 then (b1 (fX5_spells M p1 p2 1) fun r4 => (if r4 = 0 then (b1 (fX5_spells M p1 p2 2) fun r7 => (if r7 = 0 then (b1 (fX5_spells M p1 p2 3) fun r10 => (if r10 = 0 then (b1 (fX5_spells M p1 p2 4) fun r13 => (if r13 = 0 then (b1 (fX5_spells M p1 p2 5) fun r16 => (if r16 = 0 then (b1 (fX5_spells M p1 p2 6) fun r19 => (if r19 = 0 then (b1 (fX5_spells M p1 p2 7) fun r22 => (if r22 = 0 then (b1 (fX5_spells M p1 p2 8) fun r25 => (if r25 = 0 then (b1 (fX5_spells M p1 p2 9) fun r28 => (if r28 = 0 then (b1 (fX5_spells M p1 p2 10) fun r31 => (if r31 = 0 then (b1 (fX5_spells M p1 p2 11) fun r34 => (if r34 = 0 then (b1 (fX5_spells M p1 p2 12) fun r37 => (if r37 = 0 then (b1 (fX5_spells M p1 p2 13) fun r40 => (if r40 = 0 then (b1 (fX5_spells M p1 p2 14) fun r43 => (if r43 = 0 then (b1 (fX5_spells M p1 p2 15) fun r46 => (if r46 = 0 then (b1 (fX5_spells M p1 p2 16) fun r49 => (if r49 = 0 then (b1 (fX5_spells M p1 p2 17) fun r52 => (if r52 = 0 then (some 41) else (some 26))) else (some 25))) else (some 24))) else (some 23))) else (some 22))) else (some 21))) else (some 20))) else (some 14))) else (some 13))) else (some 12))) else (some 11))) else (some 10))) else (some 5))) else (some 4))) else (some 3))) else (some 2))) else (some 1))) else (some 0)))
def fX5_cutWords_L131 (k5 : mM → Int32 → Option (Int32 × mM)) (M : mM) (x1 : Int32) (x2 : Int32) : Option (Int32 × mM) :=
  (b2 (fX5_addNumber M x2 x1) fun r25 M27 => (k5 M27 x1))
def fX5_cutWords_L105_b (k5 : mM → Int32 → Option (Int32 × mM)) (k57 : mM → Int32 → Int32 → Option (Int32 × mM)) (M : mM) (x1 : Int32) (x2 : Int32) : Option (Int32 × mM) :=
  (if (M 33 0) ≤ x1 then (fX5_cutWords_L131 k5 M x1 x2) else (gd (ix x1 200) (if (fX5_isDigit (M 43 (Int32.toNatClampNeg x1))) = 0 then (fX5_cutWords_L131 k5 M x1 x2) else (k57 M (x1 + 1) x2))))
def fX5_cutWords_L105 (k5 : mM → Int32 → Option (Int32 × mM)) : Nat → mM → Int32 → Int32 → Option (Int32 × mM)
  | 0 => fun _ _ _ => none
  | n + 1 => fX5_cutWords_L105_b k5 (fX5_cutWords_L105 k5 n)
def fX5_cutWords_L57 (k5 : mM → Int32 → Option (Int32 × mM)) (M : mM) (x1 : Int32) (x2 : Int32) : Option (Int32 × mM) :=
  (b1 (fX5_nameAt M x2 x1) fun r28 => (if (fX11_isIn r28 10 14) = 0 then (b2 (fX5_addWord M r28 x2 (-3)) fun r31 M33 => (k5 M33 x1)) else (b2 (fX5_addWord M r28 x2 (r28 - 10)) fun r34 M36 => (k5 M36 x1))))
def fX5_cutWords_L31_b (k5 : mM → Int32 → Option (Int32 × mM)) (k19 : mM → Int32 → Int32 → Option (Int32 × mM)) (M : mM) (x1 : Int32) (x2 : Int32) : Option (Int32 × mM) :=
  (if (M 33 0) ≤ x1 then (fX5_cutWords_L57 k5 M x1 x2) else (gd (ix x1 200) (if (fX5_isLetter (M 43 (Int32.toNatClampNeg x1))) = 0 then (fX5_cutWords_L57 k5 M x1 x2) else (k19 M (x1 + 1) x2))))
def fX5_cutWords_L31 (k5 : mM → Int32 → Option (Int32 × mM)) : Nat → mM → Int32 → Int32 → Option (Int32 × mM)
  | 0 => fun _ _ _ => none
  | n + 1 => fX5_cutWords_L31_b k5 (fX5_cutWords_L31 k5 n)
def fX5_cutWords_L7_b (k5 : mM → Int32 → Option (Int32 × mM)) (M : mM) (x2 : Int32) : Option (Int32 × mM) :=
  (if (M 33 0) ≤ x2 then (b2 (fX5_addWord M 40 (M 33 0) (-3)) fun r1 M3 => (some (0, M3))) else (gd (ix x2 200) (if (fX5_isLetter (M 43 (Int32.toNatClampNeg x2))) = 0 then (gd (ix x2 200) (if (fX5_isDigit (M 43 (Int32.toNatClampNeg x2))) = 0 then (gd (ix x2 200) (if (M 43 (Int32.toNatClampNeg x2)) = 32 then (k5 M (x2 + 1)) else (gd (ix x2 200) (b2 (fX5_addWord M (fX5_signOf (M 43 (Int32.toNatClampNeg x2))) x2 (-3)) fun r10 M12 => (k5 M12 (x2 + 1)))))) else (fX5_cutWords_L105 k5 5000 M (x2 + 1) x2))) else (fX5_cutWords_L31 k5 5000 M (x2 + 1) x2))))
def fX5_cutWords_L7 : Nat → mM → Int32 → Option (Int32 × mM)
  | 0 => fun _ _ => none
  | n + 1 => fX5_cutWords_L7_b (fX5_cutWords_L7 n)
def fX5_cutWords (M : mM) : Option (Int32 × mM) :=
  (fX5_cutWords_L7 5000 (wr M 33 3 0) 0)
def fX5_goPast (M : mM) (p1 : Int32) : Option (Int32 × mM) :=
  (gd (ix (M 33 7) 201) (if (M 44 (Int32.toNatClampNeg (M 33 7))) = p1 then (if p1 = 40 then (some (0, M)) else (some (1, wr M 33 7 ((M 33 7) + 1)))) else (some (0, M))))
def fX6_addStep_q34 (M : mM) (p1 : Int32) (p2 : Int32) (p3 : Int32) : Option (Int32 × mM) :=
  (if 200 ≤ (M 34 5) then (some (0, M)) else (gd (ix (M 34 5) 200) (gd (ix ((wr M 39 (Int32.toNatClampNeg (M 34 5)) p1) 34 5) 200) (gd (ix ((wr (wr M 39 (Int32.toNatClampNeg (M 34 5)) p1) 40 (Int32.toNatClampNeg ((wr M 39 (Int32.toNatClampNeg (M 34 5)) p1) 34 5)) p2) 34 5) 200) (some (0, wr (wr (wr (wr M 39 (Int32.toNatClampNeg (M 34 5)) p1) 40 (Int32.toNatClampNeg ((wr M 39 (Int32.toNatClampNeg (M 34 5)) p1) 34 5)) p2) 41 (Int32.toNatClampNeg ((wr (wr M 39 (Int32.toNatClampNeg (M 34 5)) p1) 40 (Int32.toNatClampNeg ((wr M 39 (Int32.toNatClampNeg (M 34 5)) p1) 34 5)) p2) 34 5)) p3) 34 5 (((wr (wr (wr M 39 (Int32.toNatClampNeg (M 34 5)) p1) 40 (Int32.toNatClampNeg ((wr M 39 (Int32.toNatClampNeg (M 34 5)) p1) 34 5)) p2) 41 (Int32.toNatClampNeg ((wr (wr M 39 (Int32.toNatClampNeg (M 34 5)) p1) 40 (Int32.toNatClampNeg ((wr M 39 (Int32.toNatClampNeg (M 34 5)) p1) 34 5)) p2) 34 5)) p3) 34 5) + 1)))))))
def fX5_readComparison (M : mM) : Option (Int32 × mM) :=
  (gd (ix (M 33 7) 201) (if 0 ≤ (M 46 (Int32.toNatClampNeg (M 33 7))) then (gd (ix ((wr M 33 7 ((M 33 7) + 1)) 33 7) 201) (if (fX11_isIn ((wr M 33 7 ((M 33 7) + 1)) 44 (Int32.toNatClampNeg ((wr M 33 7 ((M 33 7) + 1)) 33 7))) 31 33) = 0 then (some (0, wr M 33 7 ((M 33 7) + 1))) else (gd (ix ((wr (wr M 33 7 ((M 33 7) + 1)) 33 7 (((wr M 33 7 ((M 33 7) + 1)) 33 7) + 1)) 33 7) 201) (if 0 ≤ ((wr (wr M 33 7 ((M 33 7) + 1)) 33 7 (((wr M 33 7 ((M 33 7) + 1)) 33 7) + 1)) 46 (Int32.toNatClampNeg ((wr (wr M 33 7 ((M 33 7) + 1)) 33 7 (((wr M 33 7 ((M 33 7) + 1)) 33 7) + 1)) 33 7))) then (b2 (fX6_addStep_q34 (wr (wr (wr M 33 7 ((M 33 7) + 1)) 33 7 (((wr M 33 7 ((M 33 7) + 1)) 33 7) + 1)) 33 7 (((wr (wr M 33 7 ((M 33 7) + 1)) 33 7 (((wr M 33 7 ((M 33 7) + 1)) 33 7) + 1)) 33 7) + 1)) ((wr M 33 7 ((M 33 7) + 1)) 44 (Int32.toNatClampNeg ((wr M 33 7 ((M 33 7) + 1)) 33 7))) (M 46 (Int32.toNatClampNeg (M 33 7))) ((wr (wr M 33 7 ((M 33 7) + 1)) 33 7 (((wr M 33 7 ((M 33 7) + 1)) 33 7) + 1)) 46 (Int32.toNatClampNeg ((wr (wr M 33 7 ((M 33 7) + 1)) 33 7 (((wr M 33 7 ((M 33 7) + 1)) 33 7) + 1)) 33 7)))) fun r5 M7 => (some (1, M7))) else (some (0, wr (wr M 33 7 ((M 33 7) + 1)) 33 7 (((wr M 33 7 ((M 33 7) + 1)) 33 7) + 1))))))) else (some (0, M))))
def fX5_readOne_L81 (rec : mM → Int32 → Option (Int32 × mM)) (M : mM) (x2 : Int32) (t0 : Int32) : Option (Int32 × mM) :=
  (if x2 = 0 then (gd (isB t0) (some (t0, M))) else (b2 (fX6_addStep_q34 M 23 0 0) fun r29 M31 => (gd (isB t0) (some (t0, M31)))))
def fX5_readOne_L77 (rec : mM → Int32 → Option (Int32 × mM)) (M : mM) (x2 : Int32) : Option (Int32 × mM) :=
  (b2 (fX5_readComparison M) fun r24 M26 => (fX5_readOne_L81 rec M26 x2 r24))
def fX5_readOne_L73 (rec : mM → Int32 → Option (Int32 × mM)) (M : mM) (x2 : Int32) : Option (Int32 × mM) :=
  (fX5_readOne_L81 rec M x2 0)
def fX5_readOne_L36 (rec : mM → Int32 → Option (Int32 × mM)) (M : mM) (x1 : Int32) (x2 : Int32) : Option (Int32 × mM) :=
  (if 3 ≤ x1 then (fX5_readOne_L77 rec M x2) else (b2 (fX5_goPast M 34) fun r8 M10 => (if r8 = 0 then (fX5_readOne_L77 rec M10 x2) else (b2 (rec M10 (x1 + 1)) fun r12 M14 => (if r12 = 0 then (fX5_readOne_L73 rec M14 x2) else (b2 (fX5_goPast M14 35) fun r16 M18 => (if r16 = 0 then (fX5_readOne_L73 rec M18 x2) else (fX5_readOne_L81 rec M18 x2 1))))))))
def fX5_readOne_L4_b (rec : mM → Int32 → Option (Int32 × mM)) (k4 : mM → Int32 → Int32 → Int32 → Option (Int32 × mM)) (M : mM) (x1 : Int32) (x2 : Int32) (x3 : Int32) : Option (Int32 × mM) :=
  (if 200 ≤ x3 then (fX5_readOne_L36 rec M x1 x2) else (b2 (fX5_goPast M 23) fun r1 M3 => (if r1 = 0 then (fX5_readOne_L36 rec M3 x1 x2) else (if x2 = 0 then (k4 M3 x1 1 (x3 + 1)) else (k4 M3 x1 0 (x3 + 1))))))
def fX5_readOne_L4 (rec : mM → Int32 → Option (Int32 × mM)) : Nat → mM → Int32 → Int32 → Int32 → Option (Int32 × mM)
  | 0 => fun _ _ _ _ => none
  | n + 1 => fX5_readOne_L4_b rec (fX5_readOne_L4 rec n)
def fX5_readOne (rec : mM → Int32 → Option (Int32 × mM)) (M : mM) (p1 : Int32) : Option (Int32 × mM) :=
  (fX5_readOne_L4 rec 5000 M p1 0 0)
def fX5_readAll_L8_b (rec : mM → Int32 → Option (Int32 × mM)) (k6 : mM → Int32 → Int32 → Int32 → Option (Int32 × mM)) (M : mM) (x1 : Int32) (x2 : Int32) (x3 : Int32) : Option (Int32 × mM) :=
  (if 200 ≤ x3 then (gd (isB x2) (some (x2, M))) else (if x2 = 0 then (gd (isB x2) (some (x2, M))) else (b2 (fX5_goPast M 21) fun r7 M9 => (if r7 = 0 then (gd (isB x2) (some (x2, M9))) else (b2 (fX5_readOne rec M9 x1) fun r12 M14 => (b2 (fX6_addStep_q34 M14 21 0 0) fun r16 M18 => (k6 M18 x1 r12 (x3 + 1))))))))
def fX5_readAll_L8 (rec : mM → Int32 → Option (Int32 × mM)) : Nat → mM → Int32 → Int32 → Int32 → Option (Int32 × mM)
  | 0 => fun _ _ _ _ => none
  | n + 1 => fX5_readAll_L8_b rec (fX5_readAll_L8 rec n)
def fX5_readAll (rec : mM → Int32 → Option (Int32 × mM)) (M : mM) (p1 : Int32) : Option (Int32 × mM) :=
  (b2 (fX5_readOne rec M p1) fun r1 M3 => (fX5_readAll_L8 rec 5000 M3 p1 r1 0))
def fX5_readCond_L8_b (rec : mM → Int32 → Option (Int32 × mM)) (k6 : mM → Int32 → Int32 → Int32 → Option (Int32 × mM)) (M : mM) (x1 : Int32) (x2 : Int32) (x3 : Int32) : Option (Int32 × mM) :=
  (if 200 ≤ x3 then (gd (isB x2) (some (x2, M))) else (if x2 = 0 then (gd (isB x2) (some (x2, M))) else (b2 (fX5_goPast M 22) fun r7 M9 => (if r7 = 0 then (gd (isB x2) (some (x2, M9))) else (b2 (fX5_readAll rec M9 x1) fun r12 M14 => (b2 (fX6_addStep_q34 M14 22 0 0) fun r16 M18 => (k6 M18 x1 r12 (x3 + 1))))))))
def fX5_readCond_L8 (rec : mM → Int32 → Option (Int32 × mM)) : Nat → mM → Int32 → Int32 → Int32 → Option (Int32 × mM)
  | 0 => fun _ _ _ _ => none
  | n + 1 => fX5_readCond_L8_b rec (fX5_readCond_L8 rec n)
def fX5_readCond_b (rec : mM → Int32 → Option (Int32 × mM)) (M : mM) (p1 : Int32) : Option (Int32 × mM) :=
  (b2 (fX5_readAll rec M p1) fun r1 M3 => (fX5_readCond_L8 rec 5000 M3 p1 r1 0))
def fX5_readCond : Nat → mM → Int32 → Option (Int32 × mM)
  | 0 => fun _ _ => none
  | d + 1 => fX5_readCond_b (fX5_readCond d)
def fX6_addRule_q34 (M : mM) (p1 : Int32) (p2 : Int32) (p3 : Int32) : Option (Int32 × mM) :=
  (if 8 ≤ (M 34 0) then (some (0, M)) else (gd (ix (M 34 0) 8) (gd (ix ((wr M 35 (Int32.toNatClampNeg (M 34 0)) p1) 34 0) 8) (gd (ix ((wr (wr M 35 (Int32.toNatClampNeg (M 34 0)) p1) 36 (Int32.toNatClampNeg ((wr M 35 (Int32.toNatClampNeg (M 34 0)) p1) 34 0)) p2) 34 0) 8) (gd (ix ((wr (wr (wr M 35 (Int32.toNatClampNeg (M 34 0)) p1) 36 (Int32.toNatClampNeg ((wr M 35 (Int32.toNatClampNeg (M 34 0)) p1) 34 0)) p2) 37 (Int32.toNatClampNeg ((wr (wr M 35 (Int32.toNatClampNeg (M 34 0)) p1) 36 (Int32.toNatClampNeg ((wr M 35 (Int32.toNatClampNeg (M 34 0)) p1) 34 0)) p2) 34 0)) p3) 34 0) 8) (some (0, wr (wr (wr (wr (wr M 35 (Int32.toNatClampNeg (M 34 0)) p1) 36 (Int32.toNatClampNeg ((wr M 35 (Int32.toNatClampNeg (M 34 0)) p1) 34 0)) p2) 37 (Int32.toNatClampNeg ((wr (wr M 35 (Int32.toNatClampNeg (M 34 0)) p1) 36 (Int32.toNatClampNeg ((wr M 35 (Int32.toNatClampNeg (M 34 0)) p1) 34 0)) p2) 34 0)) p3) 38 (Int32.toNatClampNeg ((wr (wr (wr M 35 (Int32.toNatClampNeg (M 34 0)) p1) 36 (Int32.toNatClampNeg ((wr M 35 (Int32.toNatClampNeg (M 34 0)) p1) 34 0)) p2) 37 (Int32.toNatClampNeg ((wr (wr M 35 (Int32.toNatClampNeg (M 34 0)) p1) 36 (Int32.toNatClampNeg ((wr M 35 (Int32.toNatClampNeg (M 34 0)) p1) 34 0)) p2) 34 0)) p3) 34 0)) ((wr (wr (wr M 35 (Int32.toNatClampNeg (M 34 0)) p1) 36 (Int32.toNatClampNeg ((wr M 35 (Int32.toNatClampNeg (M 34 0)) p1) 34 0)) p2) 37 (Int32.toNatClampNeg ((wr (wr M 35 (Int32.toNatClampNeg (M 34 0)) p1) 36 (Int32.toNatClampNeg ((wr M 35 (Int32.toNatClampNeg (M 34 0)) p1) 34 0)) p2) 34 0)) p3) 34 5)) 34 0 (((wr (wr (wr (wr M 35 (Int32.toNatClampNeg (M 34 0)) p1) 36 (Int32.toNatClampNeg ((wr M 35 (Int32.toNatClampNeg (M 34 0)) p1) 34 0)) p2) 37 (Int32.toNatClampNeg ((wr (wr M 35 (Int32.toNatClampNeg (M 34 0)) p1) 36 (Int32.toNatClampNeg ((wr M 35 (Int32.toNatClampNeg (M 34 0)) p1) 34 0)) p2) 34 0)) p3) 38 (Int32.toNatClampNeg ((wr (wr (wr M 35 (Int32.toNatClampNeg (M 34 0)) p1) 36 (Int32.toNatClampNeg ((wr M 35 (Int32.toNatClampNeg (M 34 0)) p1) 34 0)) p2) 37 (Int32.toNatClampNeg ((wr (wr M 35 (Int32.toNatClampNeg (M 34 0)) p1) 36 (Int32.toNatClampNeg ((wr M 35 (Int32.toNatClampNeg (M 34 0)) p1) 34 0)) p2) 34 0)) p3) 34 0)) ((wr (wr (wr M 35 (Int32.toNatClampNeg (M 34 0)) p1) 36 (Int32.toNatClampNeg ((wr M 35 (Int32.toNatClampNeg (M 34 0)) p1) 34 0)) p2) 37 (Int32.toNatClampNeg ((wr (wr M 35 (Int32.toNatClampNeg (M 34 0)) p1) 36 (Int32.toNatClampNeg ((wr M 35 (Int32.toNatClampNeg (M 34 0)) p1) 34 0)) p2) 34 0)) p3) 34 5)) 34 0) + 1))))))))
def fX5_readRule_L150 (M : mM) (x1 : Int32) (x2 : Int32) (x3 : Int32) : Option (Int32 × mM) :=
  (b2 (fX6_addRule_q34 M x1 x2 x3) fun r22 M24 => (b2 (fX5_goPast M24 36) fun r25 M27 => (some (r25, M27))))
def fX5_readRule_L127 (M : mM) (x1 : Int32) (x2 : Int32) (t0 : Int32) : Option (Int32 × mM) :=
  (if (fX11_isIn t0 0 99) = 0 then (some (0, M)) else (fX5_readRule_L150 (wr M 33 7 ((M 33 7) + 1)) x1 x2 t0))
def fX5_readRule_L50 (M : mM) (x1 : Int32) : Option (Int32 × mM) :=
  (gd (ix (M 33 7) 201) (if (fX11_isIn (M 44 (Int32.toNatClampNeg (M 33 7))) 24 26) = 0 then (some (0, M)) else (if (M 44 (Int32.toNatClampNeg (M 33 7))) = 26 then (fX5_readRule_L150 (wr M 33 7 ((M 33 7) + 1)) x1 (M 44 (Int32.toNatClampNeg (M 33 7))) 0) else (gd (ix ((wr M 33 7 ((M 33 7) + 1)) 33 7) 201) (if ((wr M 33 7 ((M 33 7) + 1)) 44 (Int32.toNatClampNeg ((wr M 33 7 ((M 33 7) + 1)) 33 7))) = 30 then (gd (ix ((wr M 33 7 ((M 33 7) + 1)) 33 7) 201) (gd (ix ((wr M 33 7 ((M 33 7) + 1)) 46 (Int32.toNatClampNeg ((wr M 33 7 ((M 33 7) + 1)) 33 7))) 205) (fX5_readRule_L127 (wr M 33 7 ((M 33 7) + 1)) x1 (M 44 (Int32.toNatClampNeg (M 33 7))) ((wr M 33 7 ((M 33 7) + 1)) 42 (Int32.toNatClampNeg ((wr M 33 7 ((M 33 7) + 1)) 46 (Int32.toNatClampNeg ((wr M 33 7 ((M 33 7) + 1)) 33 7)))))))) else (fX5_readRule_L127 (wr M 33 7 ((M 33 7) + 1)) x1 (M 44 (Int32.toNatClampNeg (M 33 7))) (-3)))))))
def fX5_readRule (M : mM) : Option (Int32 × mM) :=
  (gd (ix (M 33 7) 201) (if (fX11_isIn (M 44 (Int32.toNatClampNeg (M 33 7))) 0 5) = 0 then (some (0, M)) else (b2 (fX5_goPast (wr M 33 7 ((M 33 7) + 1)) 20) fun r3 M5 => (if r3 = 0 then (fX5_readRule_L50 M5 (M 44 (Int32.toNatClampNeg (M 33 7)))) else (b2 (fX5_readCond 6 M5 0) fun r7 M9 => (if r7 = 0 then (some (0, M9)) else (fX5_readRule_L50 M9 (M 44 (Int32.toNatClampNeg (M 33 7))))))))))
def fX5_read_L60 (M : mM) (x1 : Int32) : Option (Int32 × mM) :=
  (gd (ix (M 33 7) 201) (if (M 44 (Int32.toNatClampNeg (M 33 7))) = 40 then (if x1 = 0 then (gd (ix (M 33 7) 201) (some ((M 45 (Int32.toNatClampNeg (M 33 7))), M))) else (some ((-1), M))) else (gd (ix (M 33 7) 201) (some ((M 45 (Int32.toNatClampNeg (M 33 7))), M)))))
def fX5_read_L25_b (k15 : mM → Int32 → Int32 → Option (Int32 × mM)) (M : mM) (x1 : Int32) (x2 : Int32) : Option (Int32 × mM) :=
  (if 8 ≤ x2 then (fX5_read_L60 M x1) else (if x1 = 0 then (fX5_read_L60 M x1) else (gd (ix (M 33 7) 201) (if (M 44 (Int32.toNatClampNeg (M 33 7))) = 40 then (fX5_read_L60 M x1) else (b2 (fX5_readRule M) fun r8 M10 => (k15 M10 r8 (x2 + 1)))))))
def fX5_read_L25 : Nat → mM → Int32 → Int32 → Option (Int32 × mM)
  | 0 => fun _ _ _ => none
  | n + 1 => fX5_read_L25_b (fX5_read_L25 n)
def fX5_read (M : mM) : Option (Int32 × mM) :=
  (b2 (fX6_clear_q34 M) fun r1 M3 => (b2 (fX5_cutWords M3) fun r4 M6 => (fX5_read_L25 5000 (wr (wr M6 33 0 0) 33 7 0) 1 0)))
def fX6_copyFrom_q8_q34 (M : mM) : Option (Int32 × mM) :=
  (gd (cpok 0 0 8 8 8) (gd (cpok 0 0 8 8 8) (gd (cpok 0 0 8 8 8) (gd (cpok 0 0 8 8 8) (gd (cpok 0 0 ((wr (cpy (cpy (cpy (cpy (wr M 8 0 (M 34 0)) 35 9 0 0 8) 36 10 0 0 8) 37 11 0 0 8) 38 12 0 0 8) 8 5 ((cpy (cpy (cpy (cpy (wr M 8 0 (M 34 0)) 35 9 0 0 8) 36 10 0 0 8) 37 11 0 0 8) 38 12 0 0 8) 34 5)) 8 5) 200 200) (gd (cpok 0 0 ((cpy (wr (cpy (cpy (cpy (cpy (wr M 8 0 (M 34 0)) 35 9 0 0 8) 36 10 0 0 8) 37 11 0 0 8) 38 12 0 0 8) 8 5 ((cpy (cpy (cpy (cpy (wr M 8 0 (M 34 0)) 35 9 0 0 8) 36 10 0 0 8) 37 11 0 0 8) 38 12 0 0 8) 34 5)) 39 13 0 0 ((wr (cpy (cpy (cpy (cpy (wr M 8 0 (M 34 0)) 35 9 0 0 8) 36 10 0 0 8) 37 11 0 0 8) 38 12 0 0 8) 8 5 ((cpy (cpy (cpy (cpy (wr M 8 0 (M 34 0)) 35 9 0 0 8) 36 10 0 0 8) 37 11 0 0 8) 38 12 0 0 8) 34 5)) 8 5)) 8 5) 200 200) (gd (cpok 0 0 ((cpy (cpy (wr (cpy (cpy (cpy (cpy (wr M 8 0 (M 34 0)) 35 9 0 0 8) 36 10 0 0 8) 37 11 0 0 8) 38 12 0 0 8) 8 5 ((cpy (cpy (cpy (cpy (wr M 8 0 (M 34 0)) 35 9 0 0 8) 36 10 0 0 8) 37 11 0 0 8) 38 12 0 0 8) 34 5)) 39 13 0 0 ((wr (cpy (cpy (cpy (cpy (wr M 8 0 (M 34 0)) 35 9 0 0 8) 36 10 0 0 8) 37 11 0 0 8) 38 12 0 0 8) 8 5 ((cpy (cpy (cpy (cpy (wr M 8 0 (M 34 0)) 35 9 0 0 8) 36 10 0 0 8) 37 11 0 0 8) 38 12 0 0 8) 34 5)) 8 5)) 40 14 0 0 ((cpy (wr (cpy (cpy (cpy (cpy (wr M 8 0 (M 34 0)) 35 9 0 0 8) 36 10 0 0 8) 37 11 0 0 8) 38 12 0 0 8) 8 5 ((cpy (cpy (cpy (cpy (wr M 8 0 (M 34 0)) 35 9 0 0 8) 36 10 0 0 8) 37 11 0 0 8) 38 12 0 0 8) 34 5)) 39 13 0 0 ((wr (cpy (cpy (cpy (cpy (wr M 8 0 (M 34 0)) 35 9 0 0 8) 36 10 0 0 8) 37 11 0 0 8) 38 12 0 0 8) 8 5 ((cpy (cpy (cpy (cpy (wr M 8 0 (M 34 0)) 35 9 0 0 8) 36 10 0 0 8) 37 11 0 0 8) 38 12 0 0 8) 34 5)) 8 5)) 8 5)) 8 5) 200 200) (gd (cpok 0 0 ((wr (cpy (cpy (cpy (wr (cpy (cpy (cpy (cpy (wr M 8 0 (M 34 0)) 35 9 0 0 8) 36 10 0 0 8) 37 11 0 0 8) 38 12 0 0 8) 8 5 ((cpy (cpy (cpy (cpy (wr M 8 0 (M 34 0)) 35 9 0 0 8) 36 10 0 0 8) 37 11 0 0 8) 38 12 0 0 8) 34 5)) 39 13 0 0 ((wr (cpy (cpy (cpy (cpy (wr M 8 0 (M 34 0)) 35 9 0 0 8) 36 10 0 0 8) 37 11 0 0 8) 38 12 0 0 8) 8 5 ((cpy (cpy (cpy (cpy (wr M 8 0 (M 34 0)) 35 9 0 0 8) 36 10 0 0 8) 37 11 0 0 8) 38 12 0 0 8) 34 5)) 8 5)) 40 14 0 0 ((cpy (wr (cpy (cpy (cpy (cpy (wr M 8 0 (M 34 0)) 35 9 0 0 8) 36 10 0 0 8) 37 11 0 0 8) 38 12 0 0 8) 8 5 ((cpy (cpy (cpy (cpy (wr M 8 0 (M 34 0)) 35 9 0 0 8) 36 10 0 0 8) 37 11 0 0 8) 38 12 0 0 8) 34 5)) 39 13 0 0 ((wr (cpy (cpy (cpy (cpy (wr M 8 0 (M 34 0)) 35 9 0 0 8) 36 10 0 0 8) 37 11 0 0 8) 38 12 0 0 8) 8 5 ((cpy (cpy (cpy (cpy (wr M 8 0 (M 34 0)) 35 9 0 0 8) 36 10 0 0 8) 37 11 0 0 8) 38 12 0 0 8) 34 5)) 8 5)) 8 5)) 41 15 0 0 ((cpy (cpy (wr (cpy (cpy (cpy (cpy (wr M 8 0 (M 34 0)) 35 9 0 0 8) 36 10 0 0 8) 37 11 0 0 8) 38 12 0 0 8) 8 5 ((cpy (cpy (cpy (cpy (wr M 8 0 (M 34 0)) 35 9 0 0 8) 36 10 0 0 8) 37 11 0 0 8) 38 12 0 0 8) 34 5)) 39 13 0 0 ((wr (cpy (cpy (cpy (cpy (wr M 8 0 (M 34 0)) 35 9 0 0 8) 36 10 0 0 8) 37 11 0 0 8) 38 12 0 0 8) 8 5 ((cpy (cpy (cpy (cpy (wr M 8 0 (M 34 0)) 35 9 0 0 8) 36 10 0 0 8) 37 11 0 0 8) 38 12 0 0 8) 34 5)) 8 5)) 40 14 0 0 ((cpy (wr (cpy (cpy (cpy (cpy (wr M 8 0 (M 34 0)) 35 9 0 0 8) 36 10 0 0 8) 37 11 0 0 8) 38 12 0 0 8) 8 5 ((cpy (cpy (cpy (cpy (wr M 8 0 (M 34 0)) 35 9 0 0 8) 36 10 0 0 8) 37 11 0 0 8) 38 12 0 0 8) 34 5)) 39 13 0 0 ((wr (cpy (cpy (cpy (cpy (wr M 8 0 (M 34 0)) 35 9 0 0 8) 36 10 0 0 8) 37 11 0 0 8) 38 12 0 0 8) 8 5 ((cpy (cpy (cpy (cpy (wr M 8 0 (M 34 0)) 35 9 0 0 8) 36 10 0 0 8) 37 11 0 0 8) 38 12 0 0 8) 34 5)) 8 5)) 8 5)) 8 5)) 8 9 ((cpy (cpy (cpy (wr (cpy (cpy (cpy (cpy (wr M 8 0 (M 34 0)) 35 9 0 0 8) 36 10 0 0 8) 37 11 0 0 8) 38 12 0 0 8) 8 5 ((cpy (cpy (cpy (cpy (wr M 8 0 (M 34 0)) 35 9 0 0 8) 36 10 0 0 8) 37 11 0 0 8) 38 12 0 0 8) 34 5)) 39 13 0 0 ((wr (cpy (cpy (cpy (cpy (wr M 8 0 (M 34 0)) 35 9 0 0 8) 36 10 0 0 8) 37 11 0 0 8) 38 12 0 0 8) 8 5 ((cpy (cpy (cpy (cpy (wr M 8 0 (M 34 0)) 35 9 0 0 8) 36 10 0 0 8) 37 11 0 0 8) 38 12 0 0 8) 34 5)) 8 5)) 40 14 0 0 ((cpy (wr (cpy (cpy (cpy (cpy (wr M 8 0 (M 34 0)) 35 9 0 0 8) 36 10 0 0 8) 37 11 0 0 8) 38 12 0 0 8) 8 5 ((cpy (cpy (cpy (cpy (wr M 8 0 (M 34 0)) 35 9 0 0 8) 36 10 0 0 8) 37 11 0 0 8) 38 12 0 0 8) 34 5)) 39 13 0 0 ((wr (cpy (cpy (cpy (cpy (wr M 8 0 (M 34 0)) 35 9 0 0 8) 36 10 0 0 8) 37 11 0 0 8) 38 12 0 0 8) 8 5 ((cpy (cpy (cpy (cpy (wr M 8 0 (M 34 0)) 35 9 0 0 8) 36 10 0 0 8) 37 11 0 0 8) 38 12 0 0 8) 34 5)) 8 5)) 8 5)) 41 15 0 0 ((cpy (cpy (wr (cpy (cpy (cpy (cpy (wr M 8 0 (M 34 0)) 35 9 0 0 8) 36 10 0 0 8) 37 11 0 0 8) 38 12 0 0 8) 8 5 ((cpy (cpy (cpy (cpy (wr M 8 0 (M 34 0)) 35 9 0 0 8) 36 10 0 0 8) 37 11 0 0 8) 38 12 0 0 8) 34 5)) 39 13 0 0 ((wr (cpy (cpy (cpy (cpy (wr M 8 0 (M 34 0)) 35 9 0 0 8) 36 10 0 0 8) 37 11 0 0 8) 38 12 0 0 8) 8 5 ((cpy (cpy (cpy (cpy (wr M 8 0 (M 34 0)) 35 9 0 0 8) 36 10 0 0 8) 37 11 0 0 8) 38 12 0 0 8) 34 5)) 8 5)) 40 14 0 0 ((cpy (wr (cpy (cpy (cpy (cpy (wr M 8 0 (M 34 0)) 35 9 0 0 8) 36 10 0 0 8) 37 11 0 0 8) 38 12 0 0 8) 8 5 ((cpy (cpy (cpy (cpy (wr M 8 0 (M 34 0)) 35 9 0 0 8) 36 10 0 0 8) 37 11 0 0 8) 38 12 0 0 8) 34 5)) 39 13 0 0 ((wr (cpy (cpy (cpy (cpy (wr M 8 0 (M 34 0)) 35 9 0 0 8) 36 10 0 0 8) 37 11 0 0 8) 38 12 0 0 8) 8 5 ((cpy (cpy (cpy (cpy (wr M 8 0 (M 34 0)) 35 9 0 0 8) 36 10 0 0 8) 37 11 0 0 8) 38 12 0 0 8) 34 5)) 8 5)) 8 5)) 8 5)) 34 9)) 8 9) 205 205) (some (0, cpy (wr (cpy (cpy (cpy (wr (cpy (cpy (cpy (cpy (wr M 8 0 (M 34 0)) 35 9 0 0 8) 36 10 0 0 8) 37 11 0 0 8) 38 12 0 0 8) 8 5 ((cpy (cpy (cpy (cpy (wr M 8 0 (M 34 0)) 35 9 0 0 8) 36 10 0 0 8) 37 11 0 0 8) 38 12 0 0 8) 34 5)) 39 13 0 0 ((wr (cpy (cpy (cpy (cpy (wr M 8 0 (M 34 0)) 35 9 0 0 8) 36 10 0 0 8) 37 11 0 0 8) 38 12 0 0 8) 8 5 ((cpy (cpy (cpy (cpy (wr M 8 0 (M 34 0)) 35 9 0 0 8) 36 10 0 0 8) 37 11 0 0 8) 38 12 0 0 8) 34 5)) 8 5)) 40 14 0 0 ((cpy (wr (cpy (cpy (cpy (cpy (wr M 8 0 (M 34 0)) 35 9 0 0 8) 36 10 0 0 8) 37 11 0 0 8) 38 12 0 0 8) 8 5 ((cpy (cpy (cpy (cpy (wr M 8 0 (M 34 0)) 35 9 0 0 8) 36 10 0 0 8) 37 11 0 0 8) 38 12 0 0 8) 34 5)) 39 13 0 0 ((wr (cpy (cpy (cpy (cpy (wr M 8 0 (M 34 0)) 35 9 0 0 8) 36 10 0 0 8) 37 11 0 0 8) 38 12 0 0 8) 8 5 ((cpy (cpy (cpy (cpy (wr M 8 0 (M 34 0)) 35 9 0 0 8) 36 10 0 0 8) 37 11 0 0 8) 38 12 0 0 8) 34 5)) 8 5)) 8 5)) 41 15 0 0 ((cpy (cpy (wr (cpy (cpy (cpy (cpy (wr M 8 0 (M 34 0)) 35 9 0 0 8) 36 10 0 0 8) 37 11 0 0 8) 38 12 0 0 8) 8 5 ((cpy (cpy (cpy (cpy (wr M 8 0 (M 34 0)) 35 9 0 0 8) 36 10 0 0 8) 37 11 0 0 8) 38 12 0 0 8) 34 5)) 39 13 0 0 ((wr (cpy (cpy (cpy (cpy (wr M 8 0 (M 34 0)) 35 9 0 0 8) 36 10 0 0 8) 37 11 0 0 8) 38 12 0 0 8) 8 5 ((cpy (cpy (cpy (cpy (wr M 8 0 (M 34 0)) 35 9 0 0 8) 36 10 0 0 8) 37 11 0 0 8) 38 12 0 0 8) 34 5)) 8 5)) 40 14 0 0 ((cpy (wr (cpy (cpy (cpy (cpy (wr M 8 0 (M 34 0)) 35 9 0 0 8) 36 10 0 0 8) 37 11 0 0 8) 38 12 0 0 8) 8 5 ((cpy (cpy (cpy (cpy (wr M 8 0 (M 34 0)) 35 9 0 0 8) 36 10 0 0 8) 37 11 0 0 8) 38 12 0 0 8) 34 5)) 39 13 0 0 ((wr (cpy (cpy (cpy (cpy (wr M 8 0 (M 34 0)) 35 9 0 0 8) 36 10 0 0 8) 37 11 0 0 8) 38 12 0 0 8) 8 5 ((cpy (cpy (cpy (cpy (wr M 8 0 (M 34 0)) 35 9 0 0 8) 36 10 0 0 8) 37 11 0 0 8) 38 12 0 0 8) 34 5)) 8 5)) 8 5)) 8 5)) 8 9 ((cpy (cpy (cpy (wr (cpy (cpy (cpy (cpy (wr M 8 0 (M 34 0)) 35 9 0 0 8) 36 10 0 0 8) 37 11 0 0 8) 38 12 0 0 8) 8 5 ((cpy (cpy (cpy (cpy (wr M 8 0 (M 34 0)) 35 9 0 0 8) 36 10 0 0 8) 37 11 0 0 8) 38 12 0 0 8) 34 5)) 39 13 0 0 ((wr (cpy (cpy (cpy (cpy (wr M 8 0 (M 34 0)) 35 9 0 0 8) 36 10 0 0 8) 37 11 0 0 8) 38 12 0 0 8) 8 5 ((cpy (cpy (cpy (cpy (wr M 8 0 (M 34 0)) 35 9 0 0 8) 36 10 0 0 8) 37 11 0 0 8) 38 12 0 0 8) 34 5)) 8 5)) 40 14 0 0 ((cpy (wr (cpy (cpy (cpy (cpy (wr M 8 0 (M 34 0)) 35 9 0 0 8) 36 10 0 0 8) 37 11 0 0 8) 38 12 0 0 8) 8 5 ((cpy (cpy (cpy (cpy (wr M 8 0 (M 34 0)) 35 9 0 0 8) 36 10 0 0 8) 37 11 0 0 8) 38 12 0 0 8) 34 5)) 39 13 0 0 ((wr (cpy (cpy (cpy (cpy (wr M 8 0 (M 34 0)) 35 9 0 0 8) 36 10 0 0 8) 37 11 0 0 8) 38 12 0 0 8) 8 5 ((cpy (cpy (cpy (cpy (wr M 8 0 (M 34 0)) 35 9 0 0 8) 36 10 0 0 8) 37 11 0 0 8) 38 12 0 0 8) 34 5)) 8 5)) 8 5)) 41 15 0 0 ((cpy (cpy (wr (cpy (cpy (cpy (cpy (wr M 8 0 (M 34 0)) 35 9 0 0 8) 36 10 0 0 8) 37 11 0 0 8) 38 12 0 0 8) 8 5 ((cpy (cpy (cpy (cpy (wr M 8 0 (M 34 0)) 35 9 0 0 8) 36 10 0 0 8) 37 11 0 0 8) 38 12 0 0 8) 34 5)) 39 13 0 0 ((wr (cpy (cpy (cpy (cpy (wr M 8 0 (M 34 0)) 35 9 0 0 8) 36 10 0 0 8) 37 11 0 0 8) 38 12 0 0 8) 8 5 ((cpy (cpy (cpy (cpy (wr M 8 0 (M 34 0)) 35 9 0 0 8) 36 10 0 0 8) 37 11 0 0 8) 38 12 0 0 8) 34 5)) 8 5)) 40 14 0 0 ((cpy (wr (cpy (cpy (cpy (cpy (wr M 8 0 (M 34 0)) 35 9 0 0 8) 36 10 0 0 8) 37 11 0 0 8) 38 12 0 0 8) 8 5 ((cpy (cpy (cpy (cpy (wr M 8 0 (M 34 0)) 35 9 0 0 8) 36 10 0 0 8) 37 11 0 0 8) 38 12 0 0 8) 34 5)) 39 13 0 0 ((wr (cpy (cpy (cpy (cpy (wr M 8 0 (M 34 0)) 35 9 0 0 8) 36 10 0 0 8) 37 11 0 0 8) 38 12 0 0 8) 8 5 ((cpy (cpy (cpy (cpy (wr M 8 0 (M 34 0)) 35 9 0 0 8) 36 10 0 0 8) 37 11 0 0 8) 38 12 0 0 8) 34 5)) 8 5)) 8 5)) 8 5)) 34 9)) 42 16 0 0 ((wr (cpy (cpy (cpy (wr (cpy (cpy (cpy (cpy (wr M 8 0 (M 34 0)) 35 9 0 0 8) 36 10 0 0 8) 37 11 0 0 8) 38 12 0 0 8) 8 5 ((cpy (cpy (cpy (cpy (wr M 8 0 (M 34 0)) 35 9 0 0 8) 36 10 0 0 8) 37 11 0 0 8) 38 12 0 0 8) 34 5)) 39 13 0 0 ((wr (cpy (cpy (cpy (cpy (wr M 8 0 (M 34 0)) 35 9 0 0 8) 36 10 0 0 8) 37 11 0 0 8) 38 12 0 0 8) 8 5 ((cpy (cpy (cpy (cpy (wr M 8 0 (M 34 0)) 35 9 0 0 8) 36 10 0 0 8) 37 11 0 0 8) 38 12 0 0 8) 34 5)) 8 5)) 40 14 0 0 ((cpy (wr (cpy (cpy (cpy (cpy (wr M 8 0 (M 34 0)) 35 9 0 0 8) 36 10 0 0 8) 37 11 0 0 8) 38 12 0 0 8) 8 5 ((cpy (cpy (cpy (cpy (wr M 8 0 (M 34 0)) 35 9 0 0 8) 36 10 0 0 8) 37 11 0 0 8) 38 12 0 0 8) 34 5)) 39 13 0 0 ((wr (cpy (cpy (cpy (cpy (wr M 8 0 (M 34 0)) 35 9 0 0 8) 36 10 0 0 8) 37 11 0 0 8) 38 12 0 0 8) 8 5 ((cpy (cpy (cpy (cpy (wr M 8 0 (M 34 0)) 35 9 0 0 8) 36 10 0 0 8) 37 11 0 0 8) 38 12 0 0 8) 34 5)) 8 5)) 8 5)) 41 15 0 0 ((cpy (cpy (wr (cpy (cpy (cpy (cpy (wr M 8 0 (M 34 0)) 35 9 0 0 8) 36 10 0 0 8) 37 11 0 0 8) 38 12 0 0 8) 8 5 ((cpy (cpy (cpy (cpy (wr M 8 0 (M 34 0)) 35 9 0 0 8) 36 10 0 0 8) 37 11 0 0 8) 38 12 0 0 8) 34 5)) 39 13 0 0 ((wr (cpy (cpy (cpy (cpy (wr M 8 0 (M 34 0)) 35 9 0 0 8) 36 10 0 0 8) 37 11 0 0 8) 38 12 0 0 8) 8 5 ((cpy (cpy (cpy (cpy (wr M 8 0 (M 34 0)) 35 9 0 0 8) 36 10 0 0 8) 37 11 0 0 8) 38 12 0 0 8) 34 5)) 8 5)) 40 14 0 0 ((cpy (wr (cpy (cpy (cpy (cpy (wr M 8 0 (M 34 0)) 35 9 0 0 8) 36 10 0 0 8) 37 11 0 0 8) 38 12 0 0 8) 8 5 ((cpy (cpy (cpy (cpy (wr M 8 0 (M 34 0)) 35 9 0 0 8) 36 10 0 0 8) 37 11 0 0 8) 38 12 0 0 8) 34 5)) 39 13 0 0 ((wr (cpy (cpy (cpy (cpy (wr M 8 0 (M 34 0)) 35 9 0 0 8) 36 10 0 0 8) 37 11 0 0 8) 38 12 0 0 8) 8 5 ((cpy (cpy (cpy (cpy (wr M 8 0 (M 34 0)) 35 9 0 0 8) 36 10 0 0 8) 37 11 0 0 8) 38 12 0 0 8) 34 5)) 8 5)) 8 5)) 8 5)) 8 9 ((cpy (cpy (cpy (wr (cpy (cpy (cpy (cpy (wr M 8 0 (M 34 0)) 35 9 0 0 8) 36 10 0 0 8) 37 11 0 0 8) 38 12 0 0 8) 8 5 ((cpy (cpy (cpy (cpy (wr M 8 0 (M 34 0)) 35 9 0 0 8) 36 10 0 0 8) 37 11 0 0 8) 38 12 0 0 8) 34 5)) 39 13 0 0 ((wr (cpy (cpy (cpy (cpy (wr M 8 0 (M 34 0)) 35 9 0 0 8) 36 10 0 0 8) 37 11 0 0 8) 38 12 0 0 8) 8 5 ((cpy (cpy (cpy (cpy (wr M 8 0 (M 34 0)) 35 9 0 0 8) 36 10 0 0 8) 37 11 0 0 8) 38 12 0 0 8) 34 5)) 8 5)) 40 14 0 0 ((cpy (wr (cpy (cpy (cpy (cpy (wr M 8 0 (M 34 0)) 35 9 0 0 8) 36 10 0 0 8) 37 11 0 0 8) 38 12 0 0 8) 8 5 ((cpy (cpy (cpy (cpy (wr M 8 0 (M 34 0)) 35 9 0 0 8) 36 10 0 0 8) 37 11 0 0 8) 38 12 0 0 8) 34 5)) 39 13 0 0 ((wr (cpy (cpy (cpy (cpy (wr M 8 0 (M 34 0)) 35 9 0 0 8) 36 10 0 0 8) 37 11 0 0 8) 38 12 0 0 8) 8 5 ((cpy (cpy (cpy (cpy (wr M 8 0 (M 34 0)) 35 9 0 0 8) 36 10 0 0 8) 37 11 0 0 8) 38 12 0 0 8) 34 5)) 8 5)) 8 5)) 41 15 0 0 ((cpy (cpy (wr (cpy (cpy (cpy (cpy (wr M 8 0 (M 34 0)) 35 9 0 0 8) 36 10 0 0 8) 37 11 0 0 8) 38 12 0 0 8) 8 5 ((cpy (cpy (cpy (cpy (wr M 8 0 (M 34 0)) 35 9 0 0 8) 36 10 0 0 8) 37 11 0 0 8) 38 12 0 0 8) 34 5)) 39 13 0 0 ((wr (cpy (cpy (cpy (cpy (wr M 8 0 (M 34 0)) 35 9 0 0 8) 36 10 0 0 8) 37 11 0 0 8) 38 12 0 0 8) 8 5 ((cpy (cpy (cpy (cpy (wr M 8 0 (M 34 0)) 35 9 0 0 8) 36 10 0 0 8) 37 11 0 0 8) 38 12 0 0 8) 34 5)) 8 5)) 40 14 0 0 ((cpy (wr (cpy (cpy (cpy (cpy (wr M 8 0 (M 34 0)) 35 9 0 0 8) 36 10 0 0 8) 37 11 0 0 8) 38 12 0 0 8) 8 5 ((cpy (cpy (cpy (cpy (wr M 8 0 (M 34 0)) 35 9 0 0 8) 36 10 0 0 8) 37 11 0 0 8) 38 12 0 0 8) 34 5)) 39 13 0 0 ((wr (cpy (cpy (cpy (cpy (wr M 8 0 (M 34 0)) 35 9 0 0 8) 36 10 0 0 8) 37 11 0 0 8) 38 12 0 0 8) 8 5 ((cpy (cpy (cpy (cpy (wr M 8 0 (M 34 0)) 35 9 0 0 8) 36 10 0 0 8) 37 11 0 0 8) 38 12 0 0 8) 34 5)) 8 5)) 8 5)) 8 5)) 34 9)) 8 9)))))))))))
def fX11_rules (M : mM) : Option (Int32 × mM) :=
  (b2 (fX5_read M) fun r1 M3 => (if r1 < 0 then (b2 (fX6_copyFrom_q8_q34 M3) fun r4 M6 => (b2 (fX11_forgetSums M6) fun r7 M9 => (some ((M9 8 0), M9)))) else (some (((-100) - r1), M3))))
def fX11_sumAt_L25_b (k16 : mM → Int32 → Int32 → Int32 → Int32 → Int32 → Option (Int32 × mM)) (M : mM) (x1 : Int32) (x2 : Int32) (x3 : Int32) (x4 : Int32) (x5 : Int32) : Option (Int32 × mM) :=
  (if (M 1 0) ≤ x5 then (gd (ix x3 3072) (gd (ix x3 3072) (some (((wr M 63 (Int32.toNatClampNeg x3) x4) 63 (Int32.toNatClampNeg x3)), wr M 63 (Int32.toNatClampNeg x3) x4)))) else (if ((x2 >>> (x5 &&& 31)) &&& 1) = 1 then (b1 (fX11_voteAt M x5 x1) fun r6 => (b2 (fX11_powerAt M x5 x1 (fJ6_bitCount_0f7a4C x2)) fun r8 M10 => (k16 M10 x1 x2 x3 (x4 + (r6 * r8)) (x5 + 1)))) else (k16 M x1 x2 x3 x4 (x5 + 1))))
def fX11_sumAt_L25 : Nat → mM → Int32 → Int32 → Int32 → Int32 → Int32 → Option (Int32 × mM)
  | 0 => fun _ _ _ _ _ _ => none
  | n + 1 => fX11_sumAt_L25_b (fX11_sumAt_L25 n)
def fX11_sumAt (M : mM) (p1 : Int32) (p2 : Int32) : Option (Int32 × mM) :=
  (gd (ix ((p1 * 128) + p2) 3072) (if (M 63 (Int32.toNatClampNeg ((p1 * 128) + p2))) = (-1000000) then (fX11_sumAt_L25 5000 M p1 p2 ((p1 * 128) + p2) 0 0) else (gd (ix ((p1 * 128) + p2) 3072) (some ((M 63 (Int32.toNatClampNeg ((p1 * 128) + p2))), M)))))
def fX11_sum (M : mM) : Option (Int32 × mM) :=
  (b2 (fX11_sumAt M (M 1 6) (M 1 5)) fun r1 M3 => (some (r1, M3)))
def fX11_turnOf (p0 : Int32) (p1 : Int32) : Int32 :=
  (if p0 ≤ p1 then (if (-p1) ≤ p0 then 0 else (-1)) else 1)
def fX11_turnNow (M : mM) : Option (Int32 × mM) :=
  (b2 (fX11_sumAt M (M 1 6) (M 1 5)) fun r1 M3 => (some ((fX11_turnOf r1 (M3 1 8)), M3)))
def fX11_moved (M : mM) (p0 : Int32) (p1 : Int32) : Option Int32 :=
  (b1 (fJ9_floorMod_7cf53C M (p0 + p1) 24) fun r1 => (some r1))
def fX4_goOn_q1 (M : mM) (p1 : Int32) : Option (Int32 × mM) :=
  (b1 (fX11_moved M (M 1 6) p1) fun r1 => (b1 (fX11_moved (wr M 1 6 r1) ((wr M 1 6 r1) 1 9) p1) fun r3 => (some (((wr (wr (wr M 1 6 r1) 1 9 r3) 1 7 (((wr (wr M 1 6 r1) 1 9 r3) 1 7) + 1)) 1 6), wr (wr (wr M 1 6 r1) 1 9 r3) 1 7 (((wr (wr M 1 6 r1) 1 9 r3) 1 7) + 1)))))
def fX11_noon (M : mM) : Option (Int32 × mM) :=
  (if (M 1 7) < 9999 then (b2 (fX11_turnNow M) fun r1 M3 => (b2 (fX4_goOn_q1 M3 r1) fun r4 M6 => (some (r4, M6)))) else (some ((-4), M)))
def fX11_hourBehind (M : mM) (p1 : Int32) (p2 : Int32) : Option (Int32 × mM) :=
  (b2 (fX11_sumAt M p1 p2) fun r1 M3 => (b1 (fX11_moved M3 p1 (fX11_turnOf r1 (M3 1 8))) fun r4 => (some (r4, M3))))
def fX11_hourAfter_L5_b (k4 : mM → Int32 → Int32 → Int32 → Option (Int32 × mM)) (M : mM) (x2 : Int32) (x3 : Int32) (x4 : Int32) : Option (Int32 × mM) :=
  (if x2 ≤ x4 then (some (x3, M)) else (b2 (fX11_hourBehind M x3 (M 1 5)) fun r1 M3 => (k4 M3 x2 r1 (x4 + 1))))
def fX11_hourAfter_L5 : Nat → mM → Int32 → Int32 → Int32 → Option (Int32 × mM)
  | 0 => fun _ _ _ _ => none
  | n + 1 => fX11_hourAfter_L5_b (fX11_hourAfter_L5 n)
def fX11_hourAfter (M : mM) (p1 : Int32) (p2 : Int32) : Option (Int32 × mM) :=
  (fX11_hourAfter_L5 5000 M p2 p1 0)
def fX11_on (M : mM) (p1 : Int32) : Option (Int32 × mM) :=
  (if (fX11_isIn p1 0 60) = 0 then (some ((-1), M)) else (b2 (fX11_hourAfter M (M 1 6) p1) fun r2 M4 => (some (r2, M4))))
def fX11_when_L19_b (k11 : mM → Int32 → Int32 → Int32 → Option (Int32 × mM)) (M : mM) (x1 : Int32) (x2 : Int32) (x3 : Int32) : Option (Int32 × mM) :=
  (if 60 < x3 then (some ((-3), M)) else (if x2 = x1 then (some (x3, M)) else (b2 (fX11_hourAfter M x2 1) fun r3 M5 => (k11 M5 x1 r3 (x3 + 1)))))
def fX11_when_L19 : Nat → mM → Int32 → Int32 → Int32 → Option (Int32 × mM)
  | 0 => fun _ _ _ _ => none
  | n + 1 => fX11_when_L19_b (fX11_when_L19 n)
def fX11_when (M : mM) (p1 : Int32) : Option (Int32 × mM) :=
  (if (fX11_isHour p1) = 0 then (some ((-1), M)) else (fX11_when_L19 5000 M p1 (M 1 6) 0))
def fX11_noonsUntilRound_L24_b (k13 : mM → Int32 → Int32 → Int32 → Option (Int32 × mM)) (M : mM) (x2 : Int32) (x3 : Int32) (x4 : Int32) : Option (Int32 × mM) :=
  (if x2 = x3 then (some (x4, M)) else (if 24 ≤ x4 then (some (x4, M)) else (b2 (fX11_hourAfter M x2 1) fun r4 M6 => (b2 (fX11_hourAfter M6 x3 1) fun r7 M9 => (k13 M9 r4 r7 (x4 + 1))))))
def fX11_noonsUntilRound_L24 : Nat → mM → Int32 → Int32 → Int32 → Option (Int32 × mM)
  | 0 => fun _ _ _ _ => none
  | n + 1 => fX11_noonsUntilRound_L24_b (fX11_noonsUntilRound_L24 n)
def fX11_noonsUntilRound (M : mM) (p1 : Int32) : Option (Int32 × mM) :=
  (b2 (fX11_hourAfter M (M 1 6) p1) fun r1 M3 => (fX11_noonsUntilRound_L24 5000 M3 (M 1 6) r1 0))
def fX11_cycle_L62 (M : mM) (x1 : Int32) (x3 : Int32) : Option (Int32 × mM) :=
  (if x1 = 1 then (some (x3, M)) else (b2 (fX11_noonsUntilRound M x3) fun r14 M16 => (some (r14, M16))))
def fX11_cycle_L35_b (k21 : mM → Int32 → Int32 → Int32 → Int32 → Option (Int32 × mM)) (M : mM) (x1 : Int32) (x2 : Int32) (x3 : Int32) (x4 : Int32) : Option (Int32 × mM) :=
  (if x4 = x2 then (fX11_cycle_L62 M x1 x3) else (if 24 ≤ x3 then (fX11_cycle_L62 M x1 x3) else (b2 (fX11_hourAfter M x4 1) fun r9 M11 => (k21 M11 x1 x2 (x3 + 1) r9))))
def fX11_cycle_L35 : Nat → mM → Int32 → Int32 → Int32 → Int32 → Option (Int32 × mM)
  | 0 => fun _ _ _ _ _ => none
  | n + 1 => fX11_cycle_L35_b (fX11_cycle_L35 n)
def fX11_cycle (M : mM) (p1 : Int32) : Option (Int32 × mM) :=
  (if (fX11_isIn p1 0 1) = 0 then (some ((-1), M)) else (b2 (fX11_hourAfter M (M 1 6) 24) fun r2 M4 => (b2 (fX11_hourAfter M4 r2 1) fun r5 M7 => (fX11_cycle_L35 5000 M7 p1 r2 1 r5))))
def fX11_isWithin (p0 : Int32) (p1 : Int32) : Int32 :=
  (if (p0 &&& (p1 ^^^ (-1))) = 0 then 1 else 0)
def fX11_priceOf_L4_b (k4 : mM → Int32 → Int32 → Int32 → Option Int32) (M : mM) (x1 : Int32) (x2 : Int32) (x3 : Int32) : Option Int32 :=
  (if (M 1 0) ≤ x3 then (some x2) else (if ((x1 >>> (x3 &&& 31)) &&& 1) = 1 then (gd (ix x3 7) (k4 M x1 (x2 + (M 5 (Int32.toNatClampNeg x3))) (x3 + 1))) else (k4 M x1 x2 (x3 + 1))))
def fX11_priceOf_L4 : Nat → mM → Int32 → Int32 → Int32 → Option Int32
  | 0 => fun _ _ _ _ => none
  | n + 1 => fX11_priceOf_L4_b (fX11_priceOf_L4 n)
def fX11_priceOf (M : mM) (p1 : Int32) : Option Int32 :=
  (fX11_priceOf_L4 5000 M p1 0 0)
def fX11_isBetter (M : mM) (p1 : Int32) (p2 : Int32) : Option Int32 :=
  (b1 (fX11_priceOf M p1) fun r1 => (b1 (fX11_priceOf M p2) fun r3 => (if (r1 - r3) < 0 then (some 1) else (if (r1 - r3) = 0 then (if (fJ6_bitCount_0f7a4C p2) ≤ (fJ6_bitCount_0f7a4C p1) then (some 0) else (some 1)) else (some 0)))))
def fX11_bestLulled_L5_b (k4 : mM → Int32 → Int32 → Int32 → Option (Int32 × mM)) (M : mM) (x1 : Int32) (x2 : Int32) (x3 : Int32) : Option (Int32 × mM) :=
  (if 128 ≤ x3 then (some (x2, M)) else (if (fX11_isWithin x3 (M 1 5)) = 0 then (k4 M x1 x2 (x3 + 1)) else (b2 (fX11_sumAt M (M 1 6) ((M 1 5) &&& (x3 ^^^ (-1)))) fun r2 M4 => (if ((fX11_turnOf r2 (M4 1 8)) + 1) = x1 then (if x2 < 0 then (k4 M4 x1 x3 (x3 + 1)) else (b1 (fX11_isBetter M4 x3 x2) fun r5 => (if r5 = 0 then (k4 M4 x1 x2 (x3 + 1)) else (k4 M4 x1 x3 (x3 + 1))))) else (k4 M4 x1 x2 (x3 + 1))))))
def fX11_bestLulled_L5 : Nat → mM → Int32 → Int32 → Int32 → Option (Int32 × mM)
  | 0 => fun _ _ _ _ => none
  | n + 1 => fX11_bestLulled_L5_b (fX11_bestLulled_L5 n)
def fX11_bestLulled (M : mM) (p1 : Int32) : Option (Int32 × mM) :=
  (fX11_bestLulled_L5 5000 M p1 (-3) 0)
def fX11_buys (M : mM) (p1 : Int32) : Option (Int32 × mM) :=
  (if (fX11_isIn p1 0 2) = 0 then (some ((-1), M)) else (b2 (fX11_bestLulled M p1) fun r2 M4 => (if 0 ≤ r2 then (b1 (fX11_priceOf M4 r2) fun r5 => (some (r5, M4))) else (some ((-3), M4)))))
def fX11_whom (M : mM) (p1 : Int32) : Option (Int32 × mM) :=
  (if (fX11_isIn p1 0 2) = 0 then (some ((-1), M)) else (b2 (fX11_bestLulled M p1) fun r2 M4 => (some (r2, M4))))
def fX11_apart (M : mM) (p0 : Int32) (p1 : Int32) : Option Int32 :=
  (b1 (fJ9_floorMod_7cf53C M (p1 - p0) 24) fun r1 => (some (jmin r1 (24 - r1))))
def fX11_missBehind (M : mM) (p1 : Int32) (p2 : Int32) : Option Int32 :=
  (b1 (fX11_moved M (M 1 6) (fX11_turnOf p2 (M 1 8))) fun r1 => (gd (ix p1 7) (b1 (fX11_apart M r1 (M 3 (Int32.toNatClampNeg p1))) fun r4 => (some r4))))
def fX11_gainsByLying_L63_b (k33 : mM → Int32 → Int32 → Int32 → Int32 → Int32 → Option (Int32 × mM)) (M : mM) (x1 : Int32) (x2 : Int32) (x3 : Int32) (x4 : Int32) (x5 : Int32) : Option (Int32 × mM) :=
  (if 1 < x5 then (some (0, M)) else (b1 (fX11_missBehind M x1 (x4 + (x5 * x2))) fun r9 => (b1 (fX11_missBehind M x1 x3) fun r11 => (if r11 ≤ r9 then (k33 M x1 x2 x3 x4 (x5 + 1)) else (some (1, M))))))
def fX11_gainsByLying_L63 : Nat → mM → Int32 → Int32 → Int32 → Int32 → Int32 → Option (Int32 × mM)
  | 0 => fun _ _ _ _ _ _ => none
  | n + 1 => fX11_gainsByLying_L63_b (fX11_gainsByLying_L63 n)
def fX11_gainsByLying (M : mM) (p1 : Int32) : Option (Int32 × mM) :=
  (b2 (fX11_powerAt M p1 (M 1 6) (fJ6_bitCount_0f7a4C (M 1 5))) fun r1 M3 => (b2 (fX11_sumAt M3 (M3 1 6) (M3 1 5)) fun r4 M6 => (b1 (fX11_voteAt M6 p1 (M6 1 6)) fun r7 => (fX11_gainsByLying_L63 5000 M6 p1 r1 r4 (r4 - (r7 * r1)) (-1)))))
def fX11_liars_L4_b (k4 : mM → Int32 → Int32 → Option (Int32 × mM)) (M : mM) (x1 : Int32) (x2 : Int32) : Option (Int32 × mM) :=
  (if (M 1 0) ≤ x2 then (some (x1, M)) else (if (fX11_isAwake M x2) = 0 then (k4 M x1 (x2 + 1)) else (b2 (fX11_gainsByLying M x2) fun r2 M4 => (if r2 = 0 then (k4 M4 x1 (x2 + 1)) else (k4 M4 (x1 ||| (1 <<< (x2 &&& 31))) (x2 + 1))))))
def fX11_liars_L4 : Nat → mM → Int32 → Int32 → Option (Int32 × mM)
  | 0 => fun _ _ _ => none
  | n + 1 => fX11_liars_L4_b (fX11_liars_L4 n)
def fX11_liars (M : mM) : Option (Int32 × mM) :=
  (fX11_liars_L4 5000 M 0 0)
def fX11_findPulls_L13_b (k7 : mM → Int32 → Int32 → Option (Int32 × mM)) (M : mM) (x1 : Int32) (x2 : Int32) : Option (Int32 × mM) :=
  (if (M 1 0) ≤ x2 then (some (0, M)) else (b1 (fX11_voteAt M x2 (M 1 6)) fun r1 => (b2 (fX11_powerAt M x2 (M 1 6) x1) fun r3 M5 => (gd (ix x2 7) (k7 (wr M5 64 (Int32.toNatClampNeg x2) (r1 * r3)) x1 (x2 + 1))))))
def fX11_findPulls_L13 : Nat → mM → Int32 → Int32 → Option (Int32 × mM)
  | 0 => fun _ _ _ => none
  | n + 1 => fX11_findPulls_L13_b (fX11_findPulls_L13 n)
def fX11_findPulls (M : mM) : Option (Int32 × mM) :=
  (fX11_findPulls_L13 5000 M (fJ6_bitCount_0f7a4C (M 1 5)) 0)
def fX11_decides_L5_b (k4 : mM → Int32 → Int32 → Int32 → Int32 → Option Int32) (M : mM) (x1 : Int32) (x2 : Int32) (x3 : Int32) (x4 : Int32) : Option Int32 :=
  (if (M 1 0) ≤ x4 then (gd (ix x1 7) (if (fX11_turnOf x3 (M 1 8)) = (fX11_turnOf (x3 + (M 64 (Int32.toNatClampNeg x1))) (M 1 8)) then (some 0) else (some 1))) else (if ((x2 >>> (x4 &&& 31)) &&& 1) = 1 then (gd (ix x4 7) (k4 M x1 x2 (x3 + (M 64 (Int32.toNatClampNeg x4))) (x4 + 1))) else (k4 M x1 x2 x3 (x4 + 1))))
def fX11_decides_L5 : Nat → mM → Int32 → Int32 → Int32 → Int32 → Option Int32
  | 0 => fun _ _ _ _ _ => none
  | n + 1 => fX11_decides_L5_b (fX11_decides_L5 n)
def fX11_decides (M : mM) (p1 : Int32) (p2 : Int32) : Option Int32 :=
  (fX11_decides_L5 5000 M p1 p2 0 0)
def fX11_power_L28_b (k18 : mM → Int32 → Int32 → Int32 → Option (Int32 × mM)) (M : mM) (x1 : Int32) (x2 : Int32) (x3 : Int32) : Option (Int32 × mM) :=
  (if 128 ≤ x3 then (some (x2, M)) else (if (fX11_isWithin x3 ((M 1 5) &&& ((1 <<< (x1 &&& 31)) ^^^ (-1)))) = 0 then (k18 M x1 x2 (x3 + 1)) else (b1 (fX11_decides M x1 x3) fun r9 => (if r9 = 0 then (k18 M x1 x2 (x3 + 1)) else (k18 M x1 (x2 + 1) (x3 + 1))))))
def fX11_power_L28 : Nat → mM → Int32 → Int32 → Int32 → Option (Int32 × mM)
  | 0 => fun _ _ _ _ => none
  | n + 1 => fX11_power_L28_b (fX11_power_L28 n)
def fX11_power (M : mM) (p1 : Int32) : Option (Int32 × mM) :=
  (if (fX11_isVoter M p1) = 0 then (some ((-1), M)) else (if (fX11_isAwake M p1) = 0 then (some (0, M)) else (b2 (fX11_findPulls M) fun r3 M5 => (fX11_power_L28 5000 M5 p1 0 0))))
def fX11_acted (p0 : Int32) (p1 : Int32) : Int32 :=
  (if p1 = 0 then p0 else (p0 ^^^ (1 <<< ((p1 - 1) &&& 31))))
def fX11_goesOnTo (rec : mM → Int32 → Int32 → Int32 → Int32 → Int32 → Int32 → Option (Int32 × mM)) (M : mM) (p1 : Int32) (p2 : Int32) (p3 : Int32) (p4 : Int32) (p5 : Int32) (p6 : Int32) : Option (Int32 × mM) :=
  (b2 (fX11_sumAt M p2 p3) fun r1 M3 => (b1 (fX11_moved M3 p2 (fX11_turnOf r1 p4)) fun r4 => (b2 (rec M3 p1 r4 p3 p4 (p5 + 1) p6) fun r6 M8 => (some (r6, M8)))))
def fX11_plansTo_L27_b (rec : mM → Int32 → Int32 → Int32 → Int32 → Int32 → Int32 → Option (Int32 × mM)) (k16 : mM → Int32 → Int32 → Int32 → Int32 → Int32 → Int32 → Int32 → Option (Int32 × mM)) (M : mM) (x1 : Int32) (x2 : Int32) (x3 : Int32) (x4 : Int32) (x5 : Int32) (x6 : Int32) (x7 : Int32) : Option (Int32 × mM) :=
  (if (M 1 0) < x7 then (some (0, M)) else (gd (ix x5 4) (b2 (fX11_goesOnTo rec (wr M 66 (Int32.toNatClampNeg x5) x7) x1 x2 (fX11_acted x3 x7) x4 x5 x6) fun r6 M8 => (if r6 = 0 then (k16 M8 x1 x2 x3 x4 x5 x6 (x7 + 1)) else (some (1, M8))))))
def fX11_plansTo_L27 (rec : mM → Int32 → Int32 → Int32 → Int32 → Int32 → Int32 → Option (Int32 × mM)) : Nat → mM → Int32 → Int32 → Int32 → Int32 → Int32 → Int32 → Int32 → Option (Int32 × mM)
  | 0 => fun _ _ _ _ _ _ _ _ => none
  | n + 1 => fX11_plansTo_L27_b rec (fX11_plansTo_L27 rec n)
def fX11_plansTo_b (rec : mM → Int32 → Int32 → Int32 → Int32 → Int32 → Int32 → Option (Int32 × mM)) (M : mM) (p1 : Int32) (p2 : Int32) (p3 : Int32) (p4 : Int32) (p5 : Int32) (p6 : Int32) : Option (Int32 × mM) :=
  (b1 (fX11_apart M p2 p1) fun r1 => (if r1 ≤ (p6 - p5) then (if p5 < p6 then (fX11_plansTo_L27 rec 5000 M p1 p2 p3 p4 p5 p6 0) else (some (1, M))) else (some (0, M))))
def fX11_plansTo : Nat → mM → Int32 → Int32 → Int32 → Int32 → Int32 → Int32 → Option (Int32 × mM)
  | 0 => fun _ _ _ _ _ _ _ => none
  | d + 1 => fX11_plansTo_b (fX11_plansTo d)
def fX11_firstPlan_L3_b (k2 : mM → Int32 → Int32 → Int32 → Int32 → Option (Int32 × mM)) (M : mM) (x1 : Int32) (x2 : Int32) (x3 : Int32) (x4 : Int32) : Option (Int32 × mM) :=
  (if x3 < x4 then (some ((-3), M)) else (b2 (fX11_plansTo 6 M x1 (M 1 6) (M 1 5) x2 0 x4) fun r1 M3 => (if r1 = 0 then (k2 M3 x1 x2 x3 (x4 + 1)) else (some (x4, M3)))))
def fX11_firstPlan_L3 : Nat → mM → Int32 → Int32 → Int32 → Int32 → Option (Int32 × mM)
  | 0 => fun _ _ _ _ _ => none
  | n + 1 => fX11_firstPlan_L3_b (fX11_firstPlan_L3 n)
def fX11_firstPlan (M : mM) (p1 : Int32) (p2 : Int32) (p3 : Int32) : Option (Int32 × mM) :=
  (fX11_firstPlan_L3 5000 M p1 p2 p3 0)
def fX11_fewest (M : mM) (p1 : Int32) : Option (Int32 × mM) :=
  (if (fX11_isHour p1) = 0 then (some ((-1), M)) else (b2 (fX11_firstPlan M p1 (M 1 8) 4) fun r2 M4 => (some (r2, M4))))
def fX11_ith (M : mM) (p1 : Int32) (p2 : Int32) : Option (Int32 × mM) :=
  (if (fX11_isHour p1) = 0 then (some ((-1), M)) else (if (fX11_isIn p2 0 3) = 0 then (some ((-1), M)) else (b2 (fX11_firstPlan M p1 (M 1 8) 4) fun r3 M5 => (if r3 ≤ p2 then (some ((-3), M5)) else (gd (ix p2 4) (some ((M5 66 (Int32.toNatClampNeg p2)), M5)))))))
def fJ7_fill_53178C_q65_L5_b (k5 : mM → Int32 → Int32 → Int32 → Option (Int32 × mM)) (M : mM) (x1 : Int32) (x2 : Int32) (x3 : Int32) : Option (Int32 × mM) :=
  (if x3 ≤ x2 then (some (0, M)) else (gd (ix x2 24) (k5 (wr M 65 (Int32.toNatClampNeg x2) x1) x1 (x2 + 1) x3)))
def fJ7_fill_53178C_q65_L5 : Nat → mM → Int32 → Int32 → Int32 → Option (Int32 × mM)
  | 0 => fun _ _ _ _ => none
  | n + 1 => fJ7_fill_53178C_q65_L5_b (fJ7_fill_53178C_q65_L5 n)
def fJ7_fill_53178C_q65 (M : mM) (p1 : Int32) : Option (Int32 × mM) :=
  (fJ7_fill_53178C_q65_L5 5000 M p1 0 24)
def fX11_countEndsBehind (rec : mM → Int32 → Int32 → Int32 → Option (Int32 × mM)) (M : mM) (p1 : Int32) (p2 : Int32) (p3 : Int32) : Option (Int32 × mM) :=
  (b2 (fX11_sumAt M p1 p2) fun r1 M3 => (b1 (fX11_moved M3 p1 (fX11_turnOf r1 (M3 1 8))) fun r4 => (b2 (rec M3 r4 p2 (p3 - 1)) fun r6 M8 => (some (0, M8)))))
def fX11_countEnds_L18_b (rec : mM → Int32 → Int32 → Int32 → Option (Int32 × mM)) (k13 : mM → Int32 → Int32 → Int32 → Int32 → Option (Int32 × mM)) (M : mM) (x1 : Int32) (x2 : Int32) (x3 : Int32) (x4 : Int32) : Option (Int32 × mM) :=
  (if (M 1 0) < x4 then (some (0, M)) else (b2 (fX11_countEndsBehind rec M x1 (fX11_acted x2 x4) x3) fun r4 M6 => (k13 M6 x1 x2 x3 (x4 + 1))))
def fX11_countEnds_L18 (rec : mM → Int32 → Int32 → Int32 → Option (Int32 × mM)) : Nat → mM → Int32 → Int32 → Int32 → Int32 → Option (Int32 × mM)
  | 0 => fun _ _ _ _ _ => none
  | n + 1 => fX11_countEnds_L18_b rec (fX11_countEnds_L18 rec n)
def fX11_countEnds_b (rec : mM → Int32 → Int32 → Int32 → Option (Int32 × mM)) (M : mM) (p1 : Int32) (p2 : Int32) (p3 : Int32) : Option (Int32 × mM) :=
  (if 0 < p3 then (fX11_countEnds_L18 rec 5000 M p1 p2 p3 0) else (gd (ix p1 24) (gd (ix p1 24) (some (0, wr M 65 (Int32.toNatClampNeg p1) ((M 65 (Int32.toNatClampNeg p1)) + 1))))))
def fX11_countEnds : Nat → mM → Int32 → Int32 → Int32 → Option (Int32 × mM)
  | 0 => fun _ _ _ _ => none
  | d + 1 => fX11_countEnds_b (fX11_countEnds d)
def fX11_findEnds (M : mM) (p1 : Int32) : Option (Int32 × mM) :=
  (b2 (fJ7_fill_53178C_q65 M 0) fun r1 M3 => (b2 (fX11_countEnds 6 M3 (M3 1 6) (M3 1 5) p1) fun r4 M6 => (some (0, M6))))
def fX11_ways (M : mM) (p1 : Int32) (p2 : Int32) : Option (Int32 × mM) :=
  (if (fX11_isHour p1) = 0 then (some ((-1), M)) else (if (fX11_isIn p2 0 4) = 0 then (some ((-1), M)) else (b2 (fX11_findEnds M p2) fun r3 M5 => (gd (ix p1 24) (some ((M5 65 (Int32.toNatClampNeg p1)), M5))))))
def fX11_hours_L20_b (k14 : mM → Int32 → Int32 → Option (Int32 × mM)) (M : mM) (x2 : Int32) (x3 : Int32) : Option (Int32 × mM) :=
  (if 24 ≤ x3 then (some (x2, M)) else (gd (ix x3 24) (if (M 65 (Int32.toNatClampNeg x3)) ≤ 0 then (k14 M x2 (x3 + 1)) else (k14 M (x2 ||| (1 <<< (x3 &&& 31))) (x3 + 1)))))
def fX11_hours_L20 : Nat → mM → Int32 → Int32 → Option (Int32 × mM)
  | 0 => fun _ _ _ => none
  | n + 1 => fX11_hours_L20_b (fX11_hours_L20 n)
def fX11_hours (M : mM) (p1 : Int32) : Option (Int32 × mM) :=
  (if (fX11_isIn p1 0 4) = 0 then (some ((-1), M)) else (b2 (fX11_findEnds M p1) fun r2 M4 => (fX11_hours_L20 5000 M4 0 0)))
def fX11_limitFor_L21_b (k12 : mM → Int32 → Int32 → Int32 → Option (Int32 × mM)) (M : mM) (x1 : Int32) (x2 : Int32) (x3 : Int32) : Option (Int32 × mM) :=
  (if x3 < 0 then (some ((-3), M)) else (b2 (fX11_firstPlan M x1 x3 x2) fun r5 M7 => (if r5 < 0 then (k12 M7 x1 x2 (x3 + (-1))) else (some (x3, M7)))))
def fX11_limitFor_L21 : Nat → mM → Int32 → Int32 → Int32 → Option (Int32 × mM)
  | 0 => fun _ _ _ _ => none
  | n + 1 => fX11_limitFor_L21_b (fX11_limitFor_L21 n)
def fX11_limitFor (M : mM) (p1 : Int32) (p2 : Int32) : Option (Int32 × mM) :=
  (if (fX11_isHour p1) = 0 then (some ((-1), M)) else (if (fX11_isIn p2 1 3) = 0 then (some ((-1), M)) else (fX11_limitFor_L21 5000 M p1 p2 99)))
def fX11_valueBy (rec : mM → Int32 → Int32 → Int32 → Int32 → Option (Int32 × mM)) (M : mM) (p1 : Int32) (p2 : Int32) (p3 : Int32) (p4 : Int32) (p5 : Int32) : Option (Int32 × mM) :=
  (b2 (fX11_sumAt M p2 (fX11_acted p3 p1)) fun r1 M3 => (b1 (fX11_moved M3 p2 (fX11_turnOf r1 (M3 1 8))) fun r4 => (b2 (rec M3 r4 (fX11_acted p3 p1) (p4 - 1) (-p5)) fun r6 M8 => (some (((fX11_turnOf r1 (M3 1 8)) + r6), M8)))))
def fX11_valueOf_L21_b (rec : mM → Int32 → Int32 → Int32 → Int32 → Option (Int32 × mM)) (k14 : mM → Int32 → Int32 → Int32 → Int32 → Int32 → Int32 → Option (Int32 × mM)) (M : mM) (x1 : Int32) (x2 : Int32) (x3 : Int32) (x4 : Int32) (x5 : Int32) (x6 : Int32) : Option (Int32 × mM) :=
  (if (M 1 0) < x6 then (some (x5, M)) else (b2 (fX11_valueBy rec M x6 x1 x2 x3 x4) fun r5 M7 => (if (r5 * x4) ≤ (x5 * x4) then (k14 M7 x1 x2 x3 x4 x5 (x6 + 1)) else (k14 M7 x1 x2 x3 x4 r5 (x6 + 1)))))
def fX11_valueOf_L21 (rec : mM → Int32 → Int32 → Int32 → Int32 → Option (Int32 × mM)) : Nat → mM → Int32 → Int32 → Int32 → Int32 → Int32 → Int32 → Option (Int32 × mM)
  | 0 => fun _ _ _ _ _ _ _ => none
  | n + 1 => fX11_valueOf_L21_b rec (fX11_valueOf_L21 rec n)
def fX11_valueOf_b (rec : mM → Int32 → Int32 → Int32 → Int32 → Option (Int32 × mM)) (M : mM) (p1 : Int32) (p2 : Int32) (p3 : Int32) (p4 : Int32) : Option (Int32 × mM) :=
  (if 0 < p3 then (b2 (fX11_valueBy rec M 0 p1 p2 p3 p4) fun r1 M3 => (fX11_valueOf_L21 rec 5000 M3 p1 p2 p3 p4 r1 1)) else (some (0, M)))
def fX11_valueOf : Nat → mM → Int32 → Int32 → Int32 → Int32 → Option (Int32 × mM)
  | 0 => fun _ _ _ _ _ => none
  | d + 1 => fX11_valueOf_b (fX11_valueOf d)
def fX11_game (M : mM) (p1 : Int32) : Option (Int32 × mM) :=
  (if (fX11_isIn p1 1 4) = 0 then (some ((-1), M)) else (b2 (fX11_valueOf 6 M (M 1 6) (M 1 5) p1 1) fun r2 M4 => (some ((r2 + 10), M4))))
def fX11_play_L34_b (k20 : mM → Int32 → Int32 → Int32 → Option (Int32 × mM)) (M : mM) (x1 : Int32) (x2 : Int32) (x3 : Int32) : Option (Int32 × mM) :=
  (if (M 1 0) ≤ x3 then (some (x3, M)) else (b2 (fX11_valueBy (fX11_valueOf 6) M x3 (M 1 6) (M 1 5) x1 1) fun r6 M8 => (if r6 = x2 then (some (x3, M8)) else (k20 M8 x1 x2 (x3 + 1)))))
def fX11_play_L34 : Nat → mM → Int32 → Int32 → Int32 → Option (Int32 × mM)
  | 0 => fun _ _ _ _ => none
  | n + 1 => fX11_play_L34_b (fX11_play_L34 n)
def fX11_play (M : mM) (p1 : Int32) : Option (Int32 × mM) :=
  (if (fX11_isIn p1 1 4) = 0 then (some ((-1), M)) else (b2 (fX11_valueOf 6 M (M 1 6) (M 1 5) p1 1) fun r2 M4 => (fX11_play_L34 5000 M4 p1 r2 0)))
def fX11_report (M : mM) (p1 : Int32) (p2 : Int32) : Option (Int32 × mM) :=
  (if (fX11_isIn p1 0 60) = 0 then (some ((-1), M)) else (if (fX11_isHour p2) = 0 then (some ((-1), M)) else (if (M 1 11) < 6 then (gd (ix (M 1 11) 6) (gd (ix ((wr M 6 (Int32.toNatClampNeg (M 1 11)) p1) 1 11) 6) (some (((wr (wr M 6 (Int32.toNatClampNeg (M 1 11)) p1) 7 (Int32.toNatClampNeg ((wr M 6 (Int32.toNatClampNeg (M 1 11)) p1) 1 11)) p2) 1 11), wr (wr (wr M 6 (Int32.toNatClampNeg (M 1 11)) p1) 7 (Int32.toNatClampNeg ((wr M 6 (Int32.toNatClampNeg (M 1 11)) p1) 1 11)) p2) 1 11 (((wr (wr M 6 (Int32.toNatClampNeg (M 1 11)) p1) 7 (Int32.toNatClampNeg ((wr M 6 (Int32.toNatClampNeg (M 1 11)) p1) 1 11)) p2) 1 11) + 1))))) else (some ((-2), M)))))
def fX11_forget (M : mM) : Option (Int32 × mM) :=
  (some ((M 1 11), wr M 1 11 0))
def fX11_fits_L10_b (k8 : mM → Int32 → Int32 → Int32 → Int32 → Option Int32) (M : mM) (x1 : Int32) (x2 : Int32) (x3 : Int32) (x4 : Int32) : Option Int32 :=
  (if (M 1 11) ≤ x4 then (some 1) else (if x4 = x2 then (k8 M x1 x2 x3 (x4 + 1)) else (gd (ix x4 6) (b1 (fX11_moved M (irem x1 24) ((M 6 (Int32.toNatClampNeg x4)) * x3)) fun r2 => (gd (ix x4 6) (if r2 = (M 7 (Int32.toNatClampNeg x4)) then (k8 M x1 x2 x3 (x4 + 1)) else (some 0)))))))
def fX11_fits_L10 : Nat → mM → Int32 → Int32 → Int32 → Int32 → Option Int32
  | 0 => fun _ _ _ _ _ => none
  | n + 1 => fX11_fits_L10_b (fX11_fits_L10 n)
def fX11_fits (M : mM) (p1 : Int32) (p2 : Int32) : Option Int32 :=
  (fX11_fits_L10 5000 M p1 p2 ((p1 / 24) - 1) 0)
def fX11_span_L20_b (k13 : mM → Int32 → Int32 → Int32 → Int32 → Option Int32) (M : mM) (x1 : Int32) (x2 : Int32) (x3 : Int32) (x4 : Int32) : Option Int32 :=
  (if x4 < 0 then (if x1 = 0 then (some x3) else (if 0 ≤ x2 then (if x1 = 1 then (some (x2 / 24)) else (some (irem x2 24))) else (some (-3)))) else (b1 (fX11_fits M x4 (-3)) fun r6 => (if r6 = 0 then (k13 M x1 x2 x3 (x4 + (-1))) else (k13 M x1 x4 (x3 + 1) (x4 + (-1))))))
def fX11_span_L20 : Nat → mM → Int32 → Int32 → Int32 → Int32 → Option Int32
  | 0 => fun _ _ _ _ _ => none
  | n + 1 => fX11_span_L20_b (fX11_span_L20 n)
def fX11_span (M : mM) (p1 : Int32) : Option Int32 :=
  (if (fX11_isIn p1 0 2) = 0 then (some (-1)) else (fX11_span_L20 5000 M p1 (-3) 0 71))
def fX11_someFits_L2_b (k2 : mM → Int32 → Int32 → Option Int32) (M : mM) (x1 : Int32) (x2 : Int32) : Option Int32 :=
  (if 72 ≤ x2 then (some 0) else (b1 (fX11_fits M x2 x1) fun r1 => (if r1 = 0 then (k2 M x1 (x2 + 1)) else (some 1))))
def fX11_someFits_L2 : Nat → mM → Int32 → Int32 → Option Int32
  | 0 => fun _ _ _ => none
  | n + 1 => fX11_someFits_L2_b (fX11_someFits_L2 n)
def fX11_someFits (M : mM) (p1 : Int32) : Option Int32 :=
  (fX11_someFits_L2 5000 M p1 0)
def fX11_liar_L14_b (k8 : mM → Int32 → Option Int32) (M : mM) (x1 : Int32) : Option Int32 :=
  (if (M 1 11) ≤ x1 then (some (-3)) else (b1 (fX11_someFits M x1) fun r5 => (if r5 = 0 then (k8 M (x1 + 1)) else (some x1))))
def fX11_liar_L14 : Nat → mM → Int32 → Option Int32
  | 0 => fun _ _ => none
  | n + 1 => fX11_liar_L14_b (fX11_liar_L14 n)
def fX11_liar (M : mM) : Option Int32 :=
  (b1 (fX11_someFits M (-3)) fun r1 => (if r1 = 0 then (fX11_liar_L14 5000 M 0) else (some (-3))))
def fX11_seed (M : mM) (p1 : Int32) : Option (Int32 × mM) :=
  (some ((M 1 10), wr M 1 10 p1))
def fX4_draws_q1 (M : mM) : Option (Int32 × mM) :=
  (if ((iushr ((wr M 1 10 (((M 1 10) * 1103515245) + 12345)) 1 10) 16) &&& 1) = 1 then (some (1, wr M 1 10 (((M 1 10) * 1103515245) + 12345))) else (some (0, wr M 1 10 (((M 1 10) * 1103515245) + 12345))))
def fX11_turnByLot_L4_b (k4 : mM → Int32 → Int32 → Option (Int32 × mM)) (M : mM) (x1 : Int32) (x2 : Int32) : Option (Int32 × mM) :=
  (if (M 1 0) ≤ x2 then (some ((fX11_turnOf x1 (M 1 8)), M)) else (if (fX11_isAwake M x2) = 0 then (k4 M x1 (x2 + 1)) else (b2 (fX4_draws_q1 M) fun r2 M4 => (if r2 = 0 then (k4 M4 x1 (x2 + 1)) else (gd (ix x2 7) (k4 M4 (x1 + (M4 64 (Int32.toNatClampNeg x2))) (x2 + 1)))))))
def fX11_turnByLot_L4 : Nat → mM → Int32 → Int32 → Option (Int32 × mM)
  | 0 => fun _ _ _ => none
  | n + 1 => fX11_turnByLot_L4_b (fX11_turnByLot_L4 n)
def fX11_turnByLot (M : mM) : Option (Int32 × mM) :=
  (fX11_turnByLot_L4 5000 M 0 0)
def fX11_lot (M : mM) : Option (Int32 × mM) :=
  (if (M 1 7) < 9999 then (b2 (fX11_findPulls M) fun r1 M3 => (b2 (fX11_turnByLot M3) fun r4 M6 => (b2 (fX4_goOn_q1 M6 r4) fun r7 M9 => (some (r7, M9))))) else (some ((-4), M)))
def fX11_often_L37_b (k20 : mM → Int32 → Int32 → Int32 → Int32 → Int32 → Option (Int32 × mM)) (M : mM) (x1 : Int32) (x2 : Int32) (x3 : Int32) (x4 : Int32) (x5 : Int32) : Option (Int32 × mM) :=
  (if x1 ≤ x5 then (some (x4, wr M 1 10 x3)) else (b2 (fX11_turnByLot M) fun r8 M10 => (b1 (fX11_moved M10 (M 1 6) r8) fun r11 => (if r11 = x2 then (k20 M10 x1 x2 x3 (x4 + 1) (x5 + 1)) else (k20 M10 x1 x2 x3 x4 (x5 + 1))))))
def fX11_often_L37 : Nat → mM → Int32 → Int32 → Int32 → Int32 → Int32 → Option (Int32 × mM)
  | 0 => fun _ _ _ _ _ _ => none
  | n + 1 => fX11_often_L37_b (fX11_often_L37 n)
def fX11_often (M : mM) (p1 : Int32) (p2 : Int32) : Option (Int32 × mM) :=
  (if (fX11_isIn p1 1 60) = 0 then (some ((-1), M)) else (if (fX11_isHour p2) = 0 then (some ((-1), M)) else (b2 (fX11_findPulls M) fun r3 M5 => (fX11_often_L37 5000 M5 p1 p2 (M 1 10) 0 0))))
def fX11_prove_L50_b (k27 : mM → Int32 → Int32 → Int32 → Int32 → Option (Int32 × mM)) (M : mM) (x2 : Int32) (x3 : Int32) (x4 : Int32) (x5 : Int32) : Option (Int32 × mM) :=
  (if x2 ≤ x5 then (some (x2, wr M 0 12 x2)) else (gd (ix x5 4) (gd (ix x5 4) (gd (ix (x5 * 3) 12) (b2 (fX11_sumAt (wr M 67 (Int32.toNatClampNeg (x5 * 3)) (M 66 (Int32.toNatClampNeg x5))) x3 (fX11_acted x4 (M 66 (Int32.toNatClampNeg x5)))) fun r10 M12 => (gd (ix ((x5 * 3) + 1) 12) (b2 (fX11_hourBehind (wr M12 67 (Int32.toNatClampNeg ((x5 * 3) + 1)) r10) x3 (fX11_acted x4 (M 66 (Int32.toNatClampNeg x5)))) fun r14 M16 => (gd (ix ((x5 * 3) + 2) 12) (k27 (wr M16 67 (Int32.toNatClampNeg ((x5 * 3) + 2)) r14) x2 r14 (fX11_acted x4 (M 66 (Int32.toNatClampNeg x5))) (x5 + 1))))))))))
def fX11_prove_L50 : Nat → mM → Int32 → Int32 → Int32 → Int32 → Option (Int32 × mM)
  | 0 => fun _ _ _ _ _ => none
  | n + 1 => fX11_prove_L50_b (fX11_prove_L50 n)
def fX11_prove (M : mM) (p1 : Int32) : Option (Int32 × mM) :=
  (if (fX11_isHour p1) = 0 then (some ((-1), M)) else (b2 (fX11_firstPlan M p1 (M 1 8) 4) fun r2 M4 => (if 0 ≤ r2 then (fX11_prove_L50 5000 M4 r2 (M4 1 6) (M4 1 5) 0) else (some ((-3), M4)))))
def fX11_isInRow (M : mM) (p1 : Int32) (p2 : Int32) : Int32 :=
  (if p1 < 0 then 0 else (if (M 0 12) ≤ p1 then 0 else (if (fX11_isIn p2 0 2) = 0 then 0 else 1)))
def fX11_row (M : mM) (p1 : Int32) (p2 : Int32) : Option Int32 :=
  (if (fX11_isInRow M p1 p2) = 0 then (some (-9)) else (gd (ix ((p1 * 3) + p2) 12) (some (M 67 (Int32.toNatClampNeg ((p1 * 3) + p2))))))
def fX11_alterRow_L34 (M : mM) (x3 : Int32) (x4 : Int32) (t0 : Int32) : Option (Int32 × mM) :=
  (gd (ix x4 12) (if t0 = 0 then (some (2, wr M 67 (Int32.toNatClampNeg x4) x3)) else (some (1, wr M 67 (Int32.toNatClampNeg x4) x3))))
def fX11_alterRow (M : mM) (p1 : Int32) (p2 : Int32) (p3 : Int32) : Option (Int32 × mM) :=
  (if (fX11_isInRow M p1 p2) = 0 then (some (0, M)) else (gd (ix ((p1 * 3) + p2) 12) (if (M 67 (Int32.toNatClampNeg ((p1 * 3) + p2))) = p3 then (fX11_alterRow_L34 M p3 ((p1 * 3) + p2) 1) else (fX11_alterRow_L34 M p3 ((p1 * 3) + p2) 0))))
def fX11_isAct (M : mM) (p1 : Int32) : Int32 :=
  (fX11_isIn p1 0 (M 1 0))
def fX11_judge_L115 (k15 : mM → Int32 → Int32 → Int32 → Int32 → Option (Int32 × mM)) (M : mM) (x1 : Int32) (x2 : Int32) (x3 : Int32) (x4 : Int32) (x5 : Int32) (x6 : Int32) (t0 : Int32) : Option (Int32 × mM) :=
  (gd (ix (x5 + 1) 12) (if (M 67 (Int32.toNatClampNeg (x5 + 1))) = x6 then (gd (ix (x5 + 2) 12) (if (M 67 (Int32.toNatClampNeg (x5 + 2))) = x2 then (if t0 = 0 then (k15 M x1 x2 x3 (x4 + 1)) else (if x2 = x1 then (k15 M x1 x2 x3 (x4 + 1)) else (some ((x4 + 1), M)))) else (some ((x4 + 1), M)))) else (some ((x4 + 1), M))))
def fX11_judge_L28_b (k15 : mM → Int32 → Int32 → Int32 → Int32 → Option (Int32 × mM)) (M : mM) (x1 : Int32) (x2 : Int32) (x3 : Int32) (x4 : Int32) : Option (Int32 × mM) :=
  (if (M 0 12) ≤ x4 then (some (0, M)) else (gd (ix (x4 * 3) 12) (if (fX11_isAct M (M 67 (Int32.toNatClampNeg (x4 * 3)))) = 0 then (some ((x4 + 1), M)) else (gd (ix (x4 * 3) 12) (b2 (fX11_sumAt M x2 (fX11_acted x3 (M 67 (Int32.toNatClampNeg (x4 * 3))))) fun r6 M8 => (b1 (fX11_moved M8 x2 (fX11_turnOf r6 (M8 1 8))) fun r9 => (if x4 = ((M8 0 12) - 1) then (fX11_judge_L115 k15 M8 x1 r9 (fX11_acted x3 (M 67 (Int32.toNatClampNeg (x4 * 3)))) x4 (x4 * 3) r6 1) else (fX11_judge_L115 k15 M8 x1 r9 (fX11_acted x3 (M 67 (Int32.toNatClampNeg (x4 * 3)))) x4 (x4 * 3) r6 0))))))))
def fX11_judge_L28 : Nat → mM → Int32 → Int32 → Int32 → Int32 → Option (Int32 × mM)
  | 0 => fun _ _ _ _ _ => none
  | n + 1 => fX11_judge_L28_b (fX11_judge_L28 n)
def fX11_judge (M : mM) (p1 : Int32) : Option (Int32 × mM) :=
  (if (fX11_isHour p1) = 0 then (some ((-1), M)) else (fX11_judge_L28 5000 M p1 (M 1 6) (M 1 5) 0))
def fX2_lay_L17_b (k12 : mM → Int32 → Int32 → Int32 → Option (Int32 × mM)) (M : mM) (x1 : Int32) (x3 : Int32) (x4 : Int32) : Option (Int32 × mM) :=
  (if x3 ≤ x4 then (some (0, M)) else (gd (ix ((x1 * 40) + x4) 160) (k12 (wr M 62 (Int32.toNatClampNeg ((x1 * 40) + x4)) 0) x1 x3 (x4 + 1))))
def fX2_lay_L17 : Nat → mM → Int32 → Int32 → Int32 → Option (Int32 × mM)
  | 0 => fun _ _ _ _ => none
  | n + 1 => fX2_lay_L17_b (fX2_lay_L17 n)
def fX2_lay (M : mM) (p1 : Int32) (p2 : Int32) (p3 : Int32) : Option (Int32 × mM) :=
  (gd (ix p1 4) (gd (ix p1 4) (fX2_lay_L17 5000 (wr (wr M 57 (Int32.toNatClampNeg p1) p2) 61 (Int32.toNatClampNeg p1) p3) p1 p3 0)))
def fX11_sheet_L45 (M : mM) (x1 : Int32) (x2 : Int32) (x3 : Int32) : Option (Int32 × mM) :=
  (if x2 = (-1) then (b2 (fX2_lay M x1 x2 0) fun r12 M14 => (some (1, M14))) else (b2 (fX2_lay M x1 x2 x3) fun r9 M11 => (some (1, M11))))
def fX11_sheet_L33 (M : mM) (x1 : Int32) (x2 : Int32) (x3 : Int32) : Option (Int32 × mM) :=
  (if x2 = (-1) then (fX11_sheet_L45 M x1 x2 x3) else (if 0 ≤ x3 then (fX11_sheet_L45 M x1 x2 x3) else (some ((-14), M))))
def fX11_sheet (M : mM) (p1 : Int32) (p2 : Int32) (p3 : Int32) : Option (Int32 × mM) :=
  (if (fX11_isIn p1 0 3) = 0 then (some ((-1), M)) else (if (fX11_isIn p2 (-1) 4) = 0 then (some ((-1), M)) else (if p2 = (-1) then (fX11_sheet_L33 M p1 p2 p3) else (if p3 ≤ 40 then (fX11_sheet_L33 M p1 p2 p3) else (some ((-1), M))))))
def fX2_hasItem (M : mM) (p1 : Int32) (p2 : Int32) : Option Int32 :=
  (if p2 < 0 then (some 0) else (gd (ix p1 4) (if (M 61 (Int32.toNatClampNeg p1)) ≤ p2 then (some 0) else (some 1))))
def fX2_set_L57 (M : mM) (x1 : Int32) (x2 : Int32) (x4 : Int32) : Option (Int32 × mM) :=
  (gd (ix ((x1 * 40) + x2) 160) (some (0, wr M 62 (Int32.toNatClampNeg ((x1 * 40) + x2)) x4)))
def fX2_set_L55 (M : mM) (x1 : Int32) (x2 : Int32) (t0 : Int32) : Option (Int32 × mM) :=
  (fX2_set_L57 M x1 x2 t0)
def fX2_set (M : mM) (p1 : Int32) (p2 : Int32) (p3 : Int32) : Option (Int32 × mM) :=
  (gd (ix p1 4) (if (M 57 (Int32.toNatClampNeg p1)) = 0 then (fX2_set_L57 M p1 p2 (i2b p3)) else (gd (ix p1 4) (if (M 57 (Int32.toNatClampNeg p1)) = 1 then (fX2_set_L57 M p1 p2 (i2s p3)) else (gd (ix p1 4) (if (M 57 (Int32.toNatClampNeg p1)) = 4 then (if p3 = 0 then (fX2_set_L55 M p1 p2 0) else (fX2_set_L55 M p1 p2 1)) else (fX2_set_L57 M p1 p2 p3)))))))
def fX11_write (M : mM) (p1 : Int32) (p2 : Int32) (p3 : Int32) : Option (Int32 × mM) :=
  (if (fX11_isIn p1 0 3) = 0 then (some ((-1), M)) else (gd (ix p1 4) (if (M 57 (Int32.toNatClampNeg p1)) = (-1) then (some ((-11), M)) else (b1 (fX2_hasItem M p1 p2) fun r3 => (if r3 = 0 then (some ((-12), M)) else (b2 (fX2_set M p1 p2 p3) fun r6 M8 => (some (1, M8))))))))
def fX2_refusalAs (M : mM) (p1 : Int32) (p2 : Int32) : Option Int32 :=
  (gd (ix p1 4) (if (M 57 (Int32.toNatClampNeg p1)) = (-1) then (some (-11)) else (gd (ix p1 4) (if (M 57 (Int32.toNatClampNeg p1)) = p2 then (some 0) else (some (-13))))))
def fX2_get (M : mM) (p1 : Int32) (p2 : Int32) : Option Int32 :=
  (gd (ix ((p1 * 40) + p2) 160) (some (M 62 (Int32.toNatClampNeg ((p1 * 40) + p2)))))
def fX11_item (M : mM) (p1 : Int32) (p2 : Int32) (p3 : Int32) : Option Int32 :=
  (if (fX11_isIn p1 0 3) = 0 then (some (-1)) else (if (fX11_isIn p2 0 4) = 0 then (some (-1)) else (b1 (fX2_refusalAs M p1 p2) fun r3 => (if 0 ≤ r3 then (b1 (fX2_hasItem M p1 p3) fun r5 => (if r5 = 0 then (some (-12)) else (b1 (fX2_get M p1 p3) fun r8 => (some r8)))) else (some r3)))))
def fX11_refusalOfActs (M : mM) (p1 : Int32) (p2 : Int32) : Option Int32 :=
  (if (fX11_isIn p1 0 3) = 0 then (some (-1)) else (if (fX11_isIn p2 0 20) = 0 then (some (-1)) else (b1 (fX2_refusalAs M p1 0) fun r3 => (some r3))))
def fX11_goAll_L129 (k13 : mM → Int32 → Int32 → Int32 → Int32 → Int32 → Option (Int32 × mM)) (M : mM) (x1 : Int32) (x2 : Int32) (x3 : Int32) (x6 : Int32) (t0 : Int32) (t1 : Int32) : Option (Int32 × mM) :=
  (b2 (fX11_turnNow M) fun r18 M20 => (b2 (fX4_goOn_q1 M20 r18) fun r21 M23 => (k13 M23 x1 x2 x3 (t0 + t1) (x6 + 1))))
def fX11_goAll_L22_b (k13 : mM → Int32 → Int32 → Int32 → Int32 → Int32 → Option (Int32 × mM)) (M : mM) (x1 : Int32) (x2 : Int32) (x3 : Int32) (x5 : Int32) (x6 : Int32) : Option (Int32 × mM) :=
  (if x3 ≤ x6 then (some (x5, M)) else (b1 (fX2_hasItem M x1 (x2 + x6)) fun r4 => (if r4 = 0 then (some ((-12), M)) else (b1 (fX2_get M x1 (x2 + x6)) fun r7 => (if (fX11_isAct M r7) = 0 then (k13 M x1 x2 x3 x5 (x6 + 1)) else (if 9999 ≤ (M 1 7) then (k13 M x1 x2 x3 x5 (x6 + 1)) else (b2 (fX11_sumAt (wr M 1 5 (fX11_acted (M 1 5) r7)) ((wr M 1 5 (fX11_acted (M 1 5) r7)) 1 6) ((wr M 1 5 (fX11_acted (M 1 5) r7)) 1 5)) fun r10 M12 => (if r10 = 0 then (fX11_goAll_L129 k13 M12 x1 x2 x3 x6 x5 0) else (fX11_goAll_L129 k13 M12 x1 x2 x3 x6 x5 1)))))))))
def fX11_goAll_L22 : Nat → mM → Int32 → Int32 → Int32 → Int32 → Int32 → Option (Int32 × mM)
  | 0 => fun _ _ _ _ _ _ => none
  | n + 1 => fX11_goAll_L22_b (fX11_goAll_L22 n)
def fX11_goAll (M : mM) (p1 : Int32) (p2 : Int32) (p3 : Int32) : Option (Int32 × mM) :=
  (b1 (fX11_refusalOfActs M p1 p3) fun r1 => (if 0 ≤ r1 then (fX11_goAll_L22 5000 M p1 p2 p3 0 0) else (some (r1, M))))
def fX11_wouldBe_L117 (k21 : mM → Int32 → Int32 → Int32 → Int32 → Int32 → Int32 → Int32 → Option (Int32 × mM)) (M : mM) (x1 : Int32) (x2 : Int32) (x3 : Int32) (x5 : Int32) (x6 : Int32) (x8 : Int32) (t0 : Int32) (t1 : Int32) : Option (Int32 × mM) :=
  (b2 (fX11_hourBehind M x5 x6) fun r17 M19 => (k21 M19 x1 x2 x3 r17 x6 (t0 + t1) (x8 + 1)))
def fX11_wouldBe_L40_b (k21 : mM → Int32 → Int32 → Int32 → Int32 → Int32 → Int32 → Int32 → Option (Int32 × mM)) (M : mM) (x1 : Int32) (x2 : Int32) (x3 : Int32) (x5 : Int32) (x6 : Int32) (x7 : Int32) (x8 : Int32) : Option (Int32 × mM) :=
  (if x3 ≤ x8 then (some (((100 * x7) + x5), M)) else (b1 (fX2_hasItem M x1 (x2 + x8)) fun r4 => (if r4 = 0 then (some ((-12), M)) else (b1 (fX2_get M x1 (x2 + x8)) fun r7 => (if (fX11_isAct M r7) = 0 then (some ((-4), M)) else (b2 (fX11_sumAt M x5 (fX11_acted x6 r7)) fun r10 M12 => (if r10 = 0 then (fX11_wouldBe_L117 k21 M12 x1 x2 x3 x5 (fX11_acted x6 r7) x8 x7 0) else (fX11_wouldBe_L117 k21 M12 x1 x2 x3 x5 (fX11_acted x6 r7) x8 x7 1))))))))
def fX11_wouldBe_L40 : Nat → mM → Int32 → Int32 → Int32 → Int32 → Int32 → Int32 → Int32 → Option (Int32 × mM)
  | 0 => fun _ _ _ _ _ _ _ _ => none
  | n + 1 => fX11_wouldBe_L40_b (fX11_wouldBe_L40 n)
def fX11_wouldBe (M : mM) (p1 : Int32) (p2 : Int32) (p3 : Int32) : Option (Int32 × mM) :=
  (b1 (fX11_refusalOfActs M p1 p3) fun r1 => (if 0 ≤ r1 then (fX11_wouldBe_L40 5000 M p1 p2 p3 (M 1 6) (M 1 5) 0 0) else (some (r1, M))))
def fX2_holdVoter (M : mM) (p1 : Int32) (p2 : Int32) : Option (Int32 × mM) :=
  (gd (ix p1 4) (gd (ix p1 4) (some (0, wr (wr M 58 (Int32.toNatClampNeg p1) 0) 60 (Int32.toNatClampNeg p1) p2))))
def fX2_holdRow_L20 (M : mM) (x1 : Int32) (x2 : Int32) (t1 : Int32) (t2 : Int32) : Option (Int32 × mM) :=
  (gd (ix t1 4) (gd (ix x2 4) (gd (ix x1 4) (gd (ix x2 4) (gd (ix x1 4) (some (0, wr (wr (wr M 58 (Int32.toNatClampNeg t1) t2) 59 (Int32.toNatClampNeg x1) ((wr M 58 (Int32.toNatClampNeg t1) t2) 57 (Int32.toNatClampNeg x2))) 60 (Int32.toNatClampNeg x1) ((wr (wr M 58 (Int32.toNatClampNeg t1) t2) 59 (Int32.toNatClampNeg x1) ((wr M 58 (Int32.toNatClampNeg t1) t2) 57 (Int32.toNatClampNeg x2))) 61 (Int32.toNatClampNeg x2)))))))))
def fX2_holdRow (M : mM) (p1 : Int32) (p2 : Int32) : Option (Int32 × mM) :=
  (gd (ix p2 4) (if (M 57 (Int32.toNatClampNeg p2)) = (-1) then (fX2_holdRow_L20 M p1 p2 p1 2) else (fX2_holdRow_L20 M p1 p2 p1 1)))
def fX2_holdNothing (M : mM) (p1 : Int32) : Option (Int32 × mM) :=
  (gd (ix p1 4) (some (0, wr M 58 (Int32.toNatClampNeg p1) 2)))
def fX11_shelf_L61 (M : mM) (x1 : Int32) (x2 : Int32) : Option (Int32 × mM) :=
  (if x2 = 2 then (b2 (fX2_holdNothing M x1) fun r15 M17 => (some (1, M17))) else (some ((-1), M)))
def fX11_shelf_L35 (M : mM) (x1 : Int32) (x2 : Int32) (x3 : Int32) : Option (Int32 × mM) :=
  (if x2 = 1 then (if (fX11_isIn x3 0 3) = 0 then (fX11_shelf_L61 M x1 x2) else (b2 (fX2_holdRow M x1 x3) fun r10 M12 => (some (1, M12)))) else (fX11_shelf_L61 M x1 x2))
def fX11_shelf (M : mM) (p1 : Int32) (p2 : Int32) (p3 : Int32) : Option (Int32 × mM) :=
  (if (fX11_isIn p1 0 3) = 0 then (some ((-1), M)) else (if p2 = 0 then (if (fX11_isVoter M p3) = 0 then (fX11_shelf_L35 M p1 p2 p3) else (b2 (fX2_holdVoter M p1 p3) fun r3 M5 => (some (1, M5)))) else (fX11_shelf_L35 M p1 p2 p3)))
def fX11_voterOn_L26 (M : mM) (x1 : Int32) (t0 : Int32) : Option Int32 :=
  (if t0 = 0 then (some (-3)) else (gd (ix x1 4) (some (M 60 (Int32.toNatClampNeg x1)))))
def fX11_voterOn_L25 (M : mM) (x1 : Int32) : Option Int32 :=
  (fX11_voterOn_L26 M x1 0)
def fX11_voterOn (M : mM) (p1 : Int32) : Option Int32 :=
  (if (fX11_isIn p1 0 3) = 0 then (fX11_voterOn_L25 M p1) else (gd (ix p1 4) (if (M 58 (Int32.toNatClampNeg p1)) = 0 then (fX11_voterOn_L26 M p1 1) else (fX11_voterOn_L25 M p1))))
def fX11_taken_L31 (M : mM) (x1 : Int32) (x2 : Int32) : Option Int32 :=
  (gd (ix x1 4) (if (M 58 (Int32.toNatClampNeg x1)) = 1 then (gd (ix x1 4) (if ((M 59 (Int32.toNatClampNeg x1)) + 10) = x2 then (gd (ix x1 4) (some (M 60 (Int32.toNatClampNeg x1)))) else (some (-13)))) else (b1 (fX11_voterOn M x1) fun r8 => (if (fX11_isVoter M r8) = 0 then (some (-11)) else (if 10 ≤ x2 then (some (-13)) else (gd (ix r8 7) (if (fX11_isUnder M (M 2 (Int32.toNatClampNeg r8)) x2) = 0 then (some (-13)) else (some r8))))))))
def fX11_taken (M : mM) (p1 : Int32) (p2 : Int32) : Option Int32 :=
  (if (fX11_isIn p1 0 3) = 0 then (some (-1)) else (if (fX11_isIn p2 0 5) = 0 then (if (fX11_isIn p2 10 14) = 0 then (some (-1)) else (fX11_taken_L31 M p1 p2)) else (fX11_taken_L31 M p1 p2)))
def fX10_begins (M : mM) (p1 : Int32) : Option (Int32 × mM) :=
  (if 30 ≤ (M 47 0) then (some (0, M)) else (gd (ix (M 47 0) 30) (some (0, wr (wr M 48 (Int32.toNatClampNeg (M 47 0)) p1) 47 0 (((wr M 48 (Int32.toNatClampNeg (M 47 0)) p1) 47 0) + 1)))))
def fX9_wishes_q50 (M : mM) (p1 : Int32) : Option (Int32 × mM) :=
  (b2 (fX10_begins M 10) fun r1 M3 => (some ((p1 + (M3 50 2)), M3)))
def fX9_sways_q50 (M : mM) (p1 : Int32) : Option (Int32 × mM) :=
  (b2 (fX10_begins M 11) fun r1 M3 => (b2 (fX9_wishes_q50 M3 p1) fun r4 M6 => (some ((r4 - (M6 50 1)), M6))))
def fX9_tells_q50 (M : mM) (p1 : Int32) : Option (Int32 × mM) :=
  (b2 (fX10_begins M 13) fun r1 M3 => (b2 (fX9_sways_q50 M3 p1) fun r4 M6 => (some ((r4 ^^^ (M6 50 2)), M6))))
def fX9_shares_q50 (M : mM) (p1 : Int32) : Option (Int32 × mM) :=
  (b2 (fX10_begins M 12) fun r1 M3 => (if ((M3 50 2) - (M3 50 1)) = 0 then (some (0, wr M3 47 1 1)) else (gd (nz ((M3 50 2) - (M3 50 1))) (some ((p1 / ((M3 50 2) - (M3 50 1))), M3)))))
def fX9_wishes_q51 (M : mM) (p1 : Int32) : Option (Int32 × mM) :=
  (b2 (fX10_begins M 10) fun r1 M3 => (some ((p1 + (M3 51 2)), M3)))
def fX3_wishes_q51 (M : mM) (p1 : Int32) : Option (Int32 × mM) :=
  (b2 (fX10_begins M 20) fun r1 M3 => (b2 (fX9_wishes_q51 M3 p1) fun r4 M6 => (some ((r4 * 2), M6))))
def fX9_sways_q51 (M : mM) (p1 : Int32) : Option (Int32 × mM) :=
  (b2 (fX10_begins M 11) fun r1 M3 => (b2 (fX3_wishes_q51 M3 p1) fun r4 M6 => (some ((r4 - (M6 51 1)), M6))))
def fX9_tells_q51 (M : mM) (p1 : Int32) : Option (Int32 × mM) :=
  (b2 (fX10_begins M 13) fun r1 M3 => (b2 (fX9_sways_q51 M3 p1) fun r4 M6 => (some ((r4 ^^^ (M6 51 2)), M6))))
def fX9_shares_q51 (M : mM) (p1 : Int32) : Option (Int32 × mM) :=
  (b2 (fX10_begins M 12) fun r1 M3 => (if ((M3 51 2) - (M3 51 1)) = 0 then (some (0, wr M3 47 1 1)) else (gd (nz ((M3 51 2) - (M3 51 1))) (some ((p1 / ((M3 51 2) - (M3 51 1))), M3)))))
def fX9_wishes_q52 (M : mM) (p1 : Int32) : Option (Int32 × mM) :=
  (b2 (fX10_begins M 10) fun r1 M3 => (some ((p1 + (M3 52 2)), M3)))
def fX9_sways_q52 (M : mM) (p1 : Int32) : Option (Int32 × mM) :=
  (b2 (fX10_begins M 11) fun r1 M3 => (b2 (fX9_wishes_q52 M3 p1) fun r4 M6 => (some ((r4 - (M6 52 1)), M6))))
def fX1_sways_q52 (M : mM) (p1 : Int32) : Option (Int32 × mM) :=
  (b2 (fX10_begins M 30) fun r1 M3 => (b2 (fX9_sways_q52 M3 p1) fun r4 M6 => (some ((r4 ^^^ (M6 52 1)), M6))))
def fX9_tells_q52 (M : mM) (p1 : Int32) : Option (Int32 × mM) :=
  (b2 (fX10_begins M 13) fun r1 M3 => (b2 (fX1_sways_q52 M3 p1) fun r4 M6 => (some ((r4 ^^^ (M6 52 2)), M6))))
def fX9_shares_q52 (M : mM) (p1 : Int32) : Option (Int32 × mM) :=
  (b2 (fX10_begins M 12) fun r1 M3 => (if ((M3 52 2) - (M3 52 1)) = 0 then (some (0, wr M3 47 1 1)) else (gd (nz ((M3 52 2) - (M3 52 1))) (some ((p1 / ((M3 52 2) - (M3 52 1))), M3)))))
def fX9_wishes_q53 (M : mM) (p1 : Int32) : Option (Int32 × mM) :=
  (b2 (fX10_begins M 10) fun r1 M3 => (some ((p1 + (M3 53 2)), M3)))
def fX7_wishes_q53 (M : mM) (p1 : Int32) : Option (Int32 × mM) :=
  (b2 (fX10_begins M 50) fun r1 M3 => (b2 (fX9_wishes_q53 M3 p1) fun r4 M6 => (some ((r4 - 1), M6))))
def fX9_sways_q53 (M : mM) (p1 : Int32) : Option (Int32 × mM) :=
  (b2 (fX10_begins M 11) fun r1 M3 => (b2 (fX7_wishes_q53 M3 p1) fun r4 M6 => (some ((r4 - (M6 53 1)), M6))))
def fX1_sways_q53 (M : mM) (p1 : Int32) : Option (Int32 × mM) :=
  (b2 (fX10_begins M 30) fun r1 M3 => (b2 (fX9_sways_q53 M3 p1) fun r4 M6 => (some ((r4 ^^^ (M6 53 1)), M6))))
def fX9_tells_q53 (M : mM) (p1 : Int32) : Option (Int32 × mM) :=
  (b2 (fX10_begins M 13) fun r1 M3 => (b2 (fX1_sways_q53 M3 p1) fun r4 M6 => (some ((r4 ^^^ (M6 53 2)), M6))))
def fX9_shares_q53 (M : mM) (p1 : Int32) : Option (Int32 × mM) :=
  (b2 (fX10_begins M 12) fun r1 M3 => (if ((M3 53 2) - (M3 53 1)) = 0 then (some (0, wr M3 47 1 1)) else (gd (nz ((M3 53 2) - (M3 53 1))) (some ((p1 / ((M3 53 2) - (M3 53 1))), M3)))))
def fX7_tells_q53 (M : mM) (p1 : Int32) : Option (Int32 × mM) :=
  (b2 (fX10_begins M 51) fun r1 M3 => (b2 (fX9_tells_q53 M3 p1) fun r4 M6 => (b2 (fX9_shares_q53 M6 (M6 53 2)) fun r7 M9 => (some ((r4 + r7), M9)))))
def fX9_wishes_q54 (M : mM) (p1 : Int32) : Option (Int32 × mM) :=
  (b2 (fX10_begins M 10) fun r1 M3 => (some ((p1 + (M3 54 2)), M3)))
def fX9_sways_q54 (M : mM) (p1 : Int32) : Option (Int32 × mM) :=
  (b2 (fX10_begins M 11) fun r1 M3 => (b2 (fX9_wishes_q54 M3 p1) fun r4 M6 => (some ((r4 - (M6 54 1)), M6))))
def fX9_tells_q54 (M : mM) (p1 : Int32) : Option (Int32 × mM) :=
  (b2 (fX10_begins M 13) fun r1 M3 => (b2 (fX9_sways_q54 M3 p1) fun r4 M6 => (some ((r4 ^^^ (M6 54 2)), M6))))
def fX9_shares_q54 (M : mM) (p1 : Int32) : Option (Int32 × mM) :=
  (b2 (fX10_begins M 12) fun r1 M3 => (if ((M3 54 2) - (M3 54 1)) = 0 then (some (0, wr M3 47 1 1)) else (gd (nz ((M3 54 2) - (M3 54 1))) (some ((p1 / ((M3 54 2) - (M3 54 1))), M3)))))
def fX0_shares_q54 (M : mM) (p1 : Int32) : Option (Int32 × mM) :=
  (b2 (fX10_begins M 40) fun r1 M3 => (b2 (fX9_shares_q54 M3 (p1 - 3)) fun r4 M6 => (some (r4, M6))))
def fX9_wishes_q55 (M : mM) (p1 : Int32) : Option (Int32 × mM) :=
  (b2 (fX10_begins M 10) fun r1 M3 => (some ((p1 + (M3 55 2)), M3)))
def fX9_sways_q55 (M : mM) (p1 : Int32) : Option (Int32 × mM) :=
  (b2 (fX10_begins M 11) fun r1 M3 => (b2 (fX9_wishes_q55 M3 p1) fun r4 M6 => (some ((r4 - (M6 55 1)), M6))))
def fX8_sways_q55 (M : mM) (p1 : Int32) : Option (Int32 × mM) :=
  (b2 (fX10_begins M 60) fun r1 M3 => (b2 (fX9_sways_q55 M3 p1) fun r4 M6 => (some ((0 - r4), M6))))
def fX9_tells_q55 (M : mM) (p1 : Int32) : Option (Int32 × mM) :=
  (b2 (fX10_begins M 13) fun r1 M3 => (b2 (fX8_sways_q55 M3 p1) fun r4 M6 => (some ((r4 ^^^ (M6 55 2)), M6))))
def fX9_shares_q55 (M : mM) (p1 : Int32) : Option (Int32 × mM) :=
  (b2 (fX10_begins M 12) fun r1 M3 => (if ((M3 55 2) - (M3 55 1)) = 0 then (some (0, wr M3 47 1 1)) else (gd (nz ((M3 55 2) - (M3 55 1))) (some ((p1 / ((M3 55 2) - (M3 55 1))), M3)))))
def fX0_shares_q55 (M : mM) (p1 : Int32) : Option (Int32 × mM) :=
  (b2 (fX10_begins M 40) fun r1 M3 => (b2 (fX9_shares_q55 M3 (p1 - 3)) fun r4 M6 => (some (r4, M6))))
def fX8_shares_q55 (M : mM) (p1 : Int32) : Option (Int32 × mM) :=
  (b2 (fX10_begins M 61) fun r1 M3 => (b2 (fX0_shares_q55 M3 p1) fun r4 M6 => (if (M6 47 1) = 0 then (b2 (fX9_wishes_q55 M6 (M6 55 1)) fun r7 M9 => (some ((r4 - r7), M9))) else (some (0, M6)))))
def fX11_act_L129 (M : mM) (t0 : Int32) : Option (Int32 × mM) :=
  (if (M 47 1) = 0 then (some (t0, M)) else (some ((-15), M)))
def fX11_act (M : mM) (p1 : Int32) (p2 : Int32) (p3 : Int32) : Option (Int32 × mM) :=
  (b1 (fX11_voterOn (wr (wr M 47 0 0) 47 1 0) p1) fun r1 => (if (fX11_isVoter (wr (wr M 47 0 0) 47 1 0) r1) = 0 then (some (0, wr (wr M 47 0 0) 47 1 0)) else (if (fX11_isIn p2 0 3) = 0 then (some (0, wr (wr M 47 0 0) 47 1 0)) else (gd (ix r1 7) (gd (ix ((wr (wr M 47 0 0) 47 1 0) 2 (Int32.toNatClampNeg r1)) 6) (if ((wr (wr M 47 0 0) 47 1 0) 2 (Int32.toNatClampNeg r1)) = 0 then (gd (ix r1 7) (if p2 = 0 then (b2 (fX9_wishes_q50 (wr (wr (wr (wr M 47 0 0) 47 1 0) 50 1 r1) 50 2 ((wr (wr (wr M 47 0 0) 47 1 0) 50 1 r1) 3 (Int32.toNatClampNeg r1))) p3) fun r19 M21 => (fX11_act_L129 M21 r19)) else (if p2 = 1 then (b2 (fX9_sways_q50 (wr (wr (wr (wr M 47 0 0) 47 1 0) 50 1 r1) 50 2 ((wr (wr (wr M 47 0 0) 47 1 0) 50 1 r1) 3 (Int32.toNatClampNeg r1))) p3) fun r15 M17 => (fX11_act_L129 M17 r15)) else (if p2 = 2 then (b2 (fX9_shares_q50 (wr (wr (wr (wr M 47 0 0) 47 1 0) 50 1 r1) 50 2 ((wr (wr (wr M 47 0 0) 47 1 0) 50 1 r1) 3 (Int32.toNatClampNeg r1))) p3) fun r11 M13 => (fX11_act_L129 M13 r11)) else (b2 (fX9_tells_q50 (wr (wr (wr (wr M 47 0 0) 47 1 0) 50 1 r1) 50 2 ((wr (wr (wr M 47 0 0) 47 1 0) 50 1 r1) 3 (Int32.toNatClampNeg r1))) p3) fun r8 M10 => (fX11_act_L129 M10 r8)))))) else (if ((wr (wr M 47 0 0) 47 1 0) 2 (Int32.toNatClampNeg r1)) = 1 then (gd (ix r1 7) (if p2 = 0 then (b2 (fX3_wishes_q51 (wr (wr (wr (wr M 47 0 0) 47 1 0) 51 1 r1) 51 2 ((wr (wr (wr M 47 0 0) 47 1 0) 51 1 r1) 3 (Int32.toNatClampNeg r1))) p3) fun r36 M38 => (fX11_act_L129 M38 r36)) else (if p2 = 1 then (b2 (fX9_sways_q51 (wr (wr (wr (wr M 47 0 0) 47 1 0) 51 1 r1) 51 2 ((wr (wr (wr M 47 0 0) 47 1 0) 51 1 r1) 3 (Int32.toNatClampNeg r1))) p3) fun r32 M34 => (fX11_act_L129 M34 r32)) else (if p2 = 2 then (b2 (fX9_shares_q51 (wr (wr (wr (wr M 47 0 0) 47 1 0) 51 1 r1) 51 2 ((wr (wr (wr M 47 0 0) 47 1 0) 51 1 r1) 3 (Int32.toNatClampNeg r1))) p3) fun r28 M30 => (fX11_act_L129 M30 r28)) else (b2 (fX9_tells_q51 (wr (wr (wr (wr M 47 0 0) 47 1 0) 51 1 r1) 51 2 ((wr (wr (wr M 47 0 0) 47 1 0) 51 1 r1) 3 (Int32.toNatClampNeg r1))) p3) fun r25 M27 => (fX11_act_L129 M27 r25)))))) else (if ((wr (wr M 47 0 0) 47 1 0) 2 (Int32.toNatClampNeg r1)) = 2 then (gd (ix r1 7) (if p2 = 0 then (b2 (fX9_wishes_q52 (wr (wr (wr (wr M 47 0 0) 47 1 0) 52 1 r1) 52 2 ((wr (wr (wr M 47 0 0) 47 1 0) 52 1 r1) 3 (Int32.toNatClampNeg r1))) p3) fun r53 M55 => (fX11_act_L129 M55 r53)) else (if p2 = 1 then (b2 (fX1_sways_q52 (wr (wr (wr (wr M 47 0 0) 47 1 0) 52 1 r1) 52 2 ((wr (wr (wr M 47 0 0) 47 1 0) 52 1 r1) 3 (Int32.toNatClampNeg r1))) p3) fun r49 M51 => (fX11_act_L129 M51 r49)) else (if p2 = 2 then (b2 (fX9_shares_q52 (wr (wr (wr (wr M 47 0 0) 47 1 0) 52 1 r1) 52 2 ((wr (wr (wr M 47 0 0) 47 1 0) 52 1 r1) 3 (Int32.toNatClampNeg r1))) p3) fun r45 M47 => (fX11_act_L129 M47 r45)) else (b2 (fX9_tells_q52 (wr (wr (wr (wr M 47 0 0) 47 1 0) 52 1 r1) 52 2 ((wr (wr (wr M 47 0 0) 47 1 0) 52 1 r1) 3 (Int32.toNatClampNeg r1))) p3) fun r42 M44 => (fX11_act_L129 M44 r42)))))) else (if ((wr (wr M 47 0 0) 47 1 0) 2 (Int32.toNatClampNeg r1)) = 3 then (gd (ix r1 7) (if p2 = 0 then (b2 (fX7_wishes_q53 (wr (wr (wr (wr M 47 0 0) 47 1 0) 53 1 r1) 53 2 ((wr (wr (wr M 47 0 0) 47 1 0) 53 1 r1) 3 (Int32.toNatClampNeg r1))) p3) fun r70 M72 => (fX11_act_L129 M72 r70)) else (if p2 = 1 then (b2 (fX1_sways_q53 (wr (wr (wr (wr M 47 0 0) 47 1 0) 53 1 r1) 53 2 ((wr (wr (wr M 47 0 0) 47 1 0) 53 1 r1) 3 (Int32.toNatClampNeg r1))) p3) fun r66 M68 => (fX11_act_L129 M68 r66)) else (if p2 = 2 then (b2 (fX9_shares_q53 (wr (wr (wr (wr M 47 0 0) 47 1 0) 53 1 r1) 53 2 ((wr (wr (wr M 47 0 0) 47 1 0) 53 1 r1) 3 (Int32.toNatClampNeg r1))) p3) fun r62 M64 => (fX11_act_L129 M64 r62)) else (b2 (fX7_tells_q53 (wr (wr (wr (wr M 47 0 0) 47 1 0) 53 1 r1) 53 2 ((wr (wr (wr M 47 0 0) 47 1 0) 53 1 r1) 3 (Int32.toNatClampNeg r1))) p3) fun r59 M61 => (fX11_act_L129 M61 r59)))))) else (if ((wr (wr M 47 0 0) 47 1 0) 2 (Int32.toNatClampNeg r1)) = 4 then (gd (ix r1 7) (if p2 = 0 then (b2 (fX9_wishes_q54 (wr (wr (wr (wr M 47 0 0) 47 1 0) 54 1 r1) 54 2 ((wr (wr (wr M 47 0 0) 47 1 0) 54 1 r1) 3 (Int32.toNatClampNeg r1))) p3) fun r87 M89 => (fX11_act_L129 M89 r87)) else (if p2 = 1 then (b2 (fX9_sways_q54 (wr (wr (wr (wr M 47 0 0) 47 1 0) 54 1 r1) 54 2 ((wr (wr (wr M 47 0 0) 47 1 0) 54 1 r1) 3 (Int32.toNatClampNeg r1))) p3) fun r83 M85 => (fX11_act_L129 M85 r83)) else (if p2 = 2 then (b2 (fX0_shares_q54 (wr (wr (wr (wr M 47 0 0) 47 1 0) 54 1 r1) 54 2 ((wr (wr (wr M 47 0 0) 47 1 0) 54 1 r1) 3 (Int32.toNatClampNeg r1))) p3) fun r79 M81 => (fX11_act_L129 M81 r79)) else (b2 (fX9_tells_q54 (wr (wr (wr (wr M 47 0 0) 47 1 0) 54 1 r1) 54 2 ((wr (wr (wr M 47 0 0) 47 1 0) 54 1 r1) 3 (Int32.toNatClampNeg r1))) p3) fun r76 M78 => (fX11_act_L129 M78 r76)))))) else (gd (ix r1 7) (if p2 = 0 then (b2 (fX9_wishes_q55 (wr (wr (wr (wr M 47 0 0) 47 1 0) 55 1 r1) 55 2 ((wr (wr (wr M 47 0 0) 47 1 0) 55 1 r1) 3 (Int32.toNatClampNeg r1))) p3) fun r104 M106 => (fX11_act_L129 M106 r104)) else (if p2 = 1 then (b2 (fX8_sways_q55 (wr (wr (wr (wr M 47 0 0) 47 1 0) 55 1 r1) 55 2 ((wr (wr (wr M 47 0 0) 47 1 0) 55 1 r1) 3 (Int32.toNatClampNeg r1))) p3) fun r100 M102 => (fX11_act_L129 M102 r100)) else (if p2 = 2 then (b2 (fX8_shares_q55 (wr (wr (wr (wr M 47 0 0) 47 1 0) 55 1 r1) 55 2 ((wr (wr (wr M 47 0 0) 47 1 0) 55 1 r1) 3 (Int32.toNatClampNeg r1))) p3) fun r96 M98 => (fX11_act_L129 M98 r96)) else (b2 (fX9_tells_q55 (wr (wr (wr (wr M 47 0 0) 47 1 0) 55 1 r1) 55 2 ((wr (wr (wr M 47 0 0) 47 1 0) 55 1 r1) 3 (Int32.toNatClampNeg r1))) p3) fun r93 M95 => (fX11_act_L129 M95 r93))))))))))))))))
def fX11_trace (M : mM) (p1 : Int32) : Option Int32 :=
  (if p1 < 0 then (some (-3)) else (if (M 47 0) ≤ p1 then (some (-3)) else (gd (ix p1 30) (some (M 48 (Int32.toNatClampNeg p1))))))
def fX11_many (M : mM) (p1 : Int32) : Int32 :=
  (if p1 = 0 then (M 1 0) else (if p1 = 1 then (M 8 0) else (if p1 = 2 then (M 1 7) else (if p1 = 3 then (M 1 11) else (if p1 = 4 then (M 0 12) else (if p1 = 5 then (M 33 0) else (if p1 = 6 then (M 47 0) else (-1))))))))
def fX6_copyFrom_q24_q8 (M : mM) : Option (Int32 × mM) :=
  (gd (cpok 0 0 8 8 8) (gd (cpok 0 0 8 8 8) (gd (cpok 0 0 8 8 8) (gd (cpok 0 0 8 8 8) (gd (cpok 0 0 ((wr (cpy (cpy (cpy (cpy (wr M 24 0 (M 8 0)) 9 25 0 0 8) 10 26 0 0 8) 11 27 0 0 8) 12 28 0 0 8) 24 5 ((cpy (cpy (cpy (cpy (wr M 24 0 (M 8 0)) 9 25 0 0 8) 10 26 0 0 8) 11 27 0 0 8) 12 28 0 0 8) 8 5)) 24 5) 200 200) (gd (cpok 0 0 ((cpy (wr (cpy (cpy (cpy (cpy (wr M 24 0 (M 8 0)) 9 25 0 0 8) 10 26 0 0 8) 11 27 0 0 8) 12 28 0 0 8) 24 5 ((cpy (cpy (cpy (cpy (wr M 24 0 (M 8 0)) 9 25 0 0 8) 10 26 0 0 8) 11 27 0 0 8) 12 28 0 0 8) 8 5)) 13 29 0 0 ((wr (cpy (cpy (cpy (cpy (wr M 24 0 (M 8 0)) 9 25 0 0 8) 10 26 0 0 8) 11 27 0 0 8) 12 28 0 0 8) 24 5 ((cpy (cpy (cpy (cpy (wr M 24 0 (M 8 0)) 9 25 0 0 8) 10 26 0 0 8) 11 27 0 0 8) 12 28 0 0 8) 8 5)) 24 5)) 24 5) 200 200) (gd (cpok 0 0 ((cpy (cpy (wr (cpy (cpy (cpy (cpy (wr M 24 0 (M 8 0)) 9 25 0 0 8) 10 26 0 0 8) 11 27 0 0 8) 12 28 0 0 8) 24 5 ((cpy (cpy (cpy (cpy (wr M 24 0 (M 8 0)) 9 25 0 0 8) 10 26 0 0 8) 11 27 0 0 8) 12 28 0 0 8) 8 5)) 13 29 0 0 ((wr (cpy (cpy (cpy (cpy (wr M 24 0 (M 8 0)) 9 25 0 0 8) 10 26 0 0 8) 11 27 0 0 8) 12 28 0 0 8) 24 5 ((cpy (cpy (cpy (cpy (wr M 24 0 (M 8 0)) 9 25 0 0 8) 10 26 0 0 8) 11 27 0 0 8) 12 28 0 0 8) 8 5)) 24 5)) 14 30 0 0 ((cpy (wr (cpy (cpy (cpy (cpy (wr M 24 0 (M 8 0)) 9 25 0 0 8) 10 26 0 0 8) 11 27 0 0 8) 12 28 0 0 8) 24 5 ((cpy (cpy (cpy (cpy (wr M 24 0 (M 8 0)) 9 25 0 0 8) 10 26 0 0 8) 11 27 0 0 8) 12 28 0 0 8) 8 5)) 13 29 0 0 ((wr (cpy (cpy (cpy (cpy (wr M 24 0 (M 8 0)) 9 25 0 0 8) 10 26 0 0 8) 11 27 0 0 8) 12 28 0 0 8) 24 5 ((cpy (cpy (cpy (cpy (wr M 24 0 (M 8 0)) 9 25 0 0 8) 10 26 0 0 8) 11 27 0 0 8) 12 28 0 0 8) 8 5)) 24 5)) 24 5)) 24 5) 200 200) (gd (cpok 0 0 ((wr (cpy (cpy (cpy (wr (cpy (cpy (cpy (cpy (wr M 24 0 (M 8 0)) 9 25 0 0 8) 10 26 0 0 8) 11 27 0 0 8) 12 28 0 0 8) 24 5 ((cpy (cpy (cpy (cpy (wr M 24 0 (M 8 0)) 9 25 0 0 8) 10 26 0 0 8) 11 27 0 0 8) 12 28 0 0 8) 8 5)) 13 29 0 0 ((wr (cpy (cpy (cpy (cpy (wr M 24 0 (M 8 0)) 9 25 0 0 8) 10 26 0 0 8) 11 27 0 0 8) 12 28 0 0 8) 24 5 ((cpy (cpy (cpy (cpy (wr M 24 0 (M 8 0)) 9 25 0 0 8) 10 26 0 0 8) 11 27 0 0 8) 12 28 0 0 8) 8 5)) 24 5)) 14 30 0 0 ((cpy (wr (cpy (cpy (cpy (cpy (wr M 24 0 (M 8 0)) 9 25 0 0 8) 10 26 0 0 8) 11 27 0 0 8) 12 28 0 0 8) 24 5 ((cpy (cpy (cpy (cpy (wr M 24 0 (M 8 0)) 9 25 0 0 8) 10 26 0 0 8) 11 27 0 0 8) 12 28 0 0 8) 8 5)) 13 29 0 0 ((wr (cpy (cpy (cpy (cpy (wr M 24 0 (M 8 0)) 9 25 0 0 8) 10 26 0 0 8) 11 27 0 0 8) 12 28 0 0 8) 24 5 ((cpy (cpy (cpy (cpy (wr M 24 0 (M 8 0)) 9 25 0 0 8) 10 26 0 0 8) 11 27 0 0 8) 12 28 0 0 8) 8 5)) 24 5)) 24 5)) 15 31 0 0 ((cpy (cpy (wr (cpy (cpy (cpy (cpy (wr M 24 0 (M 8 0)) 9 25 0 0 8) 10 26 0 0 8) 11 27 0 0 8) 12 28 0 0 8) 24 5 ((cpy (cpy (cpy (cpy (wr M 24 0 (M 8 0)) 9 25 0 0 8) 10 26 0 0 8) 11 27 0 0 8) 12 28 0 0 8) 8 5)) 13 29 0 0 ((wr (cpy (cpy (cpy (cpy (wr M 24 0 (M 8 0)) 9 25 0 0 8) 10 26 0 0 8) 11 27 0 0 8) 12 28 0 0 8) 24 5 ((cpy (cpy (cpy (cpy (wr M 24 0 (M 8 0)) 9 25 0 0 8) 10 26 0 0 8) 11 27 0 0 8) 12 28 0 0 8) 8 5)) 24 5)) 14 30 0 0 ((cpy (wr (cpy (cpy (cpy (cpy (wr M 24 0 (M 8 0)) 9 25 0 0 8) 10 26 0 0 8) 11 27 0 0 8) 12 28 0 0 8) 24 5 ((cpy (cpy (cpy (cpy (wr M 24 0 (M 8 0)) 9 25 0 0 8) 10 26 0 0 8) 11 27 0 0 8) 12 28 0 0 8) 8 5)) 13 29 0 0 ((wr (cpy (cpy (cpy (cpy (wr M 24 0 (M 8 0)) 9 25 0 0 8) 10 26 0 0 8) 11 27 0 0 8) 12 28 0 0 8) 24 5 ((cpy (cpy (cpy (cpy (wr M 24 0 (M 8 0)) 9 25 0 0 8) 10 26 0 0 8) 11 27 0 0 8) 12 28 0 0 8) 8 5)) 24 5)) 24 5)) 24 5)) 24 9 ((cpy (cpy (cpy (wr (cpy (cpy (cpy (cpy (wr M 24 0 (M 8 0)) 9 25 0 0 8) 10 26 0 0 8) 11 27 0 0 8) 12 28 0 0 8) 24 5 ((cpy (cpy (cpy (cpy (wr M 24 0 (M 8 0)) 9 25 0 0 8) 10 26 0 0 8) 11 27 0 0 8) 12 28 0 0 8) 8 5)) 13 29 0 0 ((wr (cpy (cpy (cpy (cpy (wr M 24 0 (M 8 0)) 9 25 0 0 8) 10 26 0 0 8) 11 27 0 0 8) 12 28 0 0 8) 24 5 ((cpy (cpy (cpy (cpy (wr M 24 0 (M 8 0)) 9 25 0 0 8) 10 26 0 0 8) 11 27 0 0 8) 12 28 0 0 8) 8 5)) 24 5)) 14 30 0 0 ((cpy (wr (cpy (cpy (cpy (cpy (wr M 24 0 (M 8 0)) 9 25 0 0 8) 10 26 0 0 8) 11 27 0 0 8) 12 28 0 0 8) 24 5 ((cpy (cpy (cpy (cpy (wr M 24 0 (M 8 0)) 9 25 0 0 8) 10 26 0 0 8) 11 27 0 0 8) 12 28 0 0 8) 8 5)) 13 29 0 0 ((wr (cpy (cpy (cpy (cpy (wr M 24 0 (M 8 0)) 9 25 0 0 8) 10 26 0 0 8) 11 27 0 0 8) 12 28 0 0 8) 24 5 ((cpy (cpy (cpy (cpy (wr M 24 0 (M 8 0)) 9 25 0 0 8) 10 26 0 0 8) 11 27 0 0 8) 12 28 0 0 8) 8 5)) 24 5)) 24 5)) 15 31 0 0 ((cpy (cpy (wr (cpy (cpy (cpy (cpy (wr M 24 0 (M 8 0)) 9 25 0 0 8) 10 26 0 0 8) 11 27 0 0 8) 12 28 0 0 8) 24 5 ((cpy (cpy (cpy (cpy (wr M 24 0 (M 8 0)) 9 25 0 0 8) 10 26 0 0 8) 11 27 0 0 8) 12 28 0 0 8) 8 5)) 13 29 0 0 ((wr (cpy (cpy (cpy (cpy (wr M 24 0 (M 8 0)) 9 25 0 0 8) 10 26 0 0 8) 11 27 0 0 8) 12 28 0 0 8) 24 5 ((cpy (cpy (cpy (cpy (wr M 24 0 (M 8 0)) 9 25 0 0 8) 10 26 0 0 8) 11 27 0 0 8) 12 28 0 0 8) 8 5)) 24 5)) 14 30 0 0 ((cpy (wr (cpy (cpy (cpy (cpy (wr M 24 0 (M 8 0)) 9 25 0 0 8) 10 26 0 0 8) 11 27 0 0 8) 12 28 0 0 8) 24 5 ((cpy (cpy (cpy (cpy (wr M 24 0 (M 8 0)) 9 25 0 0 8) 10 26 0 0 8) 11 27 0 0 8) 12 28 0 0 8) 8 5)) 13 29 0 0 ((wr (cpy (cpy (cpy (cpy (wr M 24 0 (M 8 0)) 9 25 0 0 8) 10 26 0 0 8) 11 27 0 0 8) 12 28 0 0 8) 24 5 ((cpy (cpy (cpy (cpy (wr M 24 0 (M 8 0)) 9 25 0 0 8) 10 26 0 0 8) 11 27 0 0 8) 12 28 0 0 8) 8 5)) 24 5)) 24 5)) 24 5)) 8 9)) 24 9) 205 205) (some (0, cpy (wr (cpy (cpy (cpy (wr (cpy (cpy (cpy (cpy (wr M 24 0 (M 8 0)) 9 25 0 0 8) 10 26 0 0 8) 11 27 0 0 8) 12 28 0 0 8) 24 5 ((cpy (cpy (cpy (cpy (wr M 24 0 (M 8 0)) 9 25 0 0 8) 10 26 0 0 8) 11 27 0 0 8) 12 28 0 0 8) 8 5)) 13 29 0 0 ((wr (cpy (cpy (cpy (cpy (wr M 24 0 (M 8 0)) 9 25 0 0 8) 10 26 0 0 8) 11 27 0 0 8) 12 28 0 0 8) 24 5 ((cpy (cpy (cpy (cpy (wr M 24 0 (M 8 0)) 9 25 0 0 8) 10 26 0 0 8) 11 27 0 0 8) 12 28 0 0 8) 8 5)) 24 5)) 14 30 0 0 ((cpy (wr (cpy (cpy (cpy (cpy (wr M 24 0 (M 8 0)) 9 25 0 0 8) 10 26 0 0 8) 11 27 0 0 8) 12 28 0 0 8) 24 5 ((cpy (cpy (cpy (cpy (wr M 24 0 (M 8 0)) 9 25 0 0 8) 10 26 0 0 8) 11 27 0 0 8) 12 28 0 0 8) 8 5)) 13 29 0 0 ((wr (cpy (cpy (cpy (cpy (wr M 24 0 (M 8 0)) 9 25 0 0 8) 10 26 0 0 8) 11 27 0 0 8) 12 28 0 0 8) 24 5 ((cpy (cpy (cpy (cpy (wr M 24 0 (M 8 0)) 9 25 0 0 8) 10 26 0 0 8) 11 27 0 0 8) 12 28 0 0 8) 8 5)) 24 5)) 24 5)) 15 31 0 0 ((cpy (cpy (wr (cpy (cpy (cpy (cpy (wr M 24 0 (M 8 0)) 9 25 0 0 8) 10 26 0 0 8) 11 27 0 0 8) 12 28 0 0 8) 24 5 ((cpy (cpy (cpy (cpy (wr M 24 0 (M 8 0)) 9 25 0 0 8) 10 26 0 0 8) 11 27 0 0 8) 12 28 0 0 8) 8 5)) 13 29 0 0 ((wr (cpy (cpy (cpy (cpy (wr M 24 0 (M 8 0)) 9 25 0 0 8) 10 26 0 0 8) 11 27 0 0 8) 12 28 0 0 8) 24 5 ((cpy (cpy (cpy (cpy (wr M 24 0 (M 8 0)) 9 25 0 0 8) 10 26 0 0 8) 11 27 0 0 8) 12 28 0 0 8) 8 5)) 24 5)) 14 30 0 0 ((cpy (wr (cpy (cpy (cpy (cpy (wr M 24 0 (M 8 0)) 9 25 0 0 8) 10 26 0 0 8) 11 27 0 0 8) 12 28 0 0 8) 24 5 ((cpy (cpy (cpy (cpy (wr M 24 0 (M 8 0)) 9 25 0 0 8) 10 26 0 0 8) 11 27 0 0 8) 12 28 0 0 8) 8 5)) 13 29 0 0 ((wr (cpy (cpy (cpy (cpy (wr M 24 0 (M 8 0)) 9 25 0 0 8) 10 26 0 0 8) 11 27 0 0 8) 12 28 0 0 8) 24 5 ((cpy (cpy (cpy (cpy (wr M 24 0 (M 8 0)) 9 25 0 0 8) 10 26 0 0 8) 11 27 0 0 8) 12 28 0 0 8) 8 5)) 24 5)) 24 5)) 24 5)) 24 9 ((cpy (cpy (cpy (wr (cpy (cpy (cpy (cpy (wr M 24 0 (M 8 0)) 9 25 0 0 8) 10 26 0 0 8) 11 27 0 0 8) 12 28 0 0 8) 24 5 ((cpy (cpy (cpy (cpy (wr M 24 0 (M 8 0)) 9 25 0 0 8) 10 26 0 0 8) 11 27 0 0 8) 12 28 0 0 8) 8 5)) 13 29 0 0 ((wr (cpy (cpy (cpy (cpy (wr M 24 0 (M 8 0)) 9 25 0 0 8) 10 26 0 0 8) 11 27 0 0 8) 12 28 0 0 8) 24 5 ((cpy (cpy (cpy (cpy (wr M 24 0 (M 8 0)) 9 25 0 0 8) 10 26 0 0 8) 11 27 0 0 8) 12 28 0 0 8) 8 5)) 24 5)) 14 30 0 0 ((cpy (wr (cpy (cpy (cpy (cpy (wr M 24 0 (M 8 0)) 9 25 0 0 8) 10 26 0 0 8) 11 27 0 0 8) 12 28 0 0 8) 24 5 ((cpy (cpy (cpy (cpy (wr M 24 0 (M 8 0)) 9 25 0 0 8) 10 26 0 0 8) 11 27 0 0 8) 12 28 0 0 8) 8 5)) 13 29 0 0 ((wr (cpy (cpy (cpy (cpy (wr M 24 0 (M 8 0)) 9 25 0 0 8) 10 26 0 0 8) 11 27 0 0 8) 12 28 0 0 8) 24 5 ((cpy (cpy (cpy (cpy (wr M 24 0 (M 8 0)) 9 25 0 0 8) 10 26 0 0 8) 11 27 0 0 8) 12 28 0 0 8) 8 5)) 24 5)) 24 5)) 15 31 0 0 ((cpy (cpy (wr (cpy (cpy (cpy (cpy (wr M 24 0 (M 8 0)) 9 25 0 0 8) 10 26 0 0 8) 11 27 0 0 8) 12 28 0 0 8) 24 5 ((cpy (cpy (cpy (cpy (wr M 24 0 (M 8 0)) 9 25 0 0 8) 10 26 0 0 8) 11 27 0 0 8) 12 28 0 0 8) 8 5)) 13 29 0 0 ((wr (cpy (cpy (cpy (cpy (wr M 24 0 (M 8 0)) 9 25 0 0 8) 10 26 0 0 8) 11 27 0 0 8) 12 28 0 0 8) 24 5 ((cpy (cpy (cpy (cpy (wr M 24 0 (M 8 0)) 9 25 0 0 8) 10 26 0 0 8) 11 27 0 0 8) 12 28 0 0 8) 8 5)) 24 5)) 14 30 0 0 ((cpy (wr (cpy (cpy (cpy (cpy (wr M 24 0 (M 8 0)) 9 25 0 0 8) 10 26 0 0 8) 11 27 0 0 8) 12 28 0 0 8) 24 5 ((cpy (cpy (cpy (cpy (wr M 24 0 (M 8 0)) 9 25 0 0 8) 10 26 0 0 8) 11 27 0 0 8) 12 28 0 0 8) 8 5)) 13 29 0 0 ((wr (cpy (cpy (cpy (cpy (wr M 24 0 (M 8 0)) 9 25 0 0 8) 10 26 0 0 8) 11 27 0 0 8) 12 28 0 0 8) 24 5 ((cpy (cpy (cpy (cpy (wr M 24 0 (M 8 0)) 9 25 0 0 8) 10 26 0 0 8) 11 27 0 0 8) 12 28 0 0 8) 8 5)) 24 5)) 24 5)) 24 5)) 8 9)) 16 32 0 0 ((wr (cpy (cpy (cpy (wr (cpy (cpy (cpy (cpy (wr M 24 0 (M 8 0)) 9 25 0 0 8) 10 26 0 0 8) 11 27 0 0 8) 12 28 0 0 8) 24 5 ((cpy (cpy (cpy (cpy (wr M 24 0 (M 8 0)) 9 25 0 0 8) 10 26 0 0 8) 11 27 0 0 8) 12 28 0 0 8) 8 5)) 13 29 0 0 ((wr (cpy (cpy (cpy (cpy (wr M 24 0 (M 8 0)) 9 25 0 0 8) 10 26 0 0 8) 11 27 0 0 8) 12 28 0 0 8) 24 5 ((cpy (cpy (cpy (cpy (wr M 24 0 (M 8 0)) 9 25 0 0 8) 10 26 0 0 8) 11 27 0 0 8) 12 28 0 0 8) 8 5)) 24 5)) 14 30 0 0 ((cpy (wr (cpy (cpy (cpy (cpy (wr M 24 0 (M 8 0)) 9 25 0 0 8) 10 26 0 0 8) 11 27 0 0 8) 12 28 0 0 8) 24 5 ((cpy (cpy (cpy (cpy (wr M 24 0 (M 8 0)) 9 25 0 0 8) 10 26 0 0 8) 11 27 0 0 8) 12 28 0 0 8) 8 5)) 13 29 0 0 ((wr (cpy (cpy (cpy (cpy (wr M 24 0 (M 8 0)) 9 25 0 0 8) 10 26 0 0 8) 11 27 0 0 8) 12 28 0 0 8) 24 5 ((cpy (cpy (cpy (cpy (wr M 24 0 (M 8 0)) 9 25 0 0 8) 10 26 0 0 8) 11 27 0 0 8) 12 28 0 0 8) 8 5)) 24 5)) 24 5)) 15 31 0 0 ((cpy (cpy (wr (cpy (cpy (cpy (cpy (wr M 24 0 (M 8 0)) 9 25 0 0 8) 10 26 0 0 8) 11 27 0 0 8) 12 28 0 0 8) 24 5 ((cpy (cpy (cpy (cpy (wr M 24 0 (M 8 0)) 9 25 0 0 8) 10 26 0 0 8) 11 27 0 0 8) 12 28 0 0 8) 8 5)) 13 29 0 0 ((wr (cpy (cpy (cpy (cpy (wr M 24 0 (M 8 0)) 9 25 0 0 8) 10 26 0 0 8) 11 27 0 0 8) 12 28 0 0 8) 24 5 ((cpy (cpy (cpy (cpy (wr M 24 0 (M 8 0)) 9 25 0 0 8) 10 26 0 0 8) 11 27 0 0 8) 12 28 0 0 8) 8 5)) 24 5)) 14 30 0 0 ((cpy (wr (cpy (cpy (cpy (cpy (wr M 24 0 (M 8 0)) 9 25 0 0 8) 10 26 0 0 8) 11 27 0 0 8) 12 28 0 0 8) 24 5 ((cpy (cpy (cpy (cpy (wr M 24 0 (M 8 0)) 9 25 0 0 8) 10 26 0 0 8) 11 27 0 0 8) 12 28 0 0 8) 8 5)) 13 29 0 0 ((wr (cpy (cpy (cpy (cpy (wr M 24 0 (M 8 0)) 9 25 0 0 8) 10 26 0 0 8) 11 27 0 0 8) 12 28 0 0 8) 24 5 ((cpy (cpy (cpy (cpy (wr M 24 0 (M 8 0)) 9 25 0 0 8) 10 26 0 0 8) 11 27 0 0 8) 12 28 0 0 8) 8 5)) 24 5)) 24 5)) 24 5)) 24 9 ((cpy (cpy (cpy (wr (cpy (cpy (cpy (cpy (wr M 24 0 (M 8 0)) 9 25 0 0 8) 10 26 0 0 8) 11 27 0 0 8) 12 28 0 0 8) 24 5 ((cpy (cpy (cpy (cpy (wr M 24 0 (M 8 0)) 9 25 0 0 8) 10 26 0 0 8) 11 27 0 0 8) 12 28 0 0 8) 8 5)) 13 29 0 0 ((wr (cpy (cpy (cpy (cpy (wr M 24 0 (M 8 0)) 9 25 0 0 8) 10 26 0 0 8) 11 27 0 0 8) 12 28 0 0 8) 24 5 ((cpy (cpy (cpy (cpy (wr M 24 0 (M 8 0)) 9 25 0 0 8) 10 26 0 0 8) 11 27 0 0 8) 12 28 0 0 8) 8 5)) 24 5)) 14 30 0 0 ((cpy (wr (cpy (cpy (cpy (cpy (wr M 24 0 (M 8 0)) 9 25 0 0 8) 10 26 0 0 8) 11 27 0 0 8) 12 28 0 0 8) 24 5 ((cpy (cpy (cpy (cpy (wr M 24 0 (M 8 0)) 9 25 0 0 8) 10 26 0 0 8) 11 27 0 0 8) 12 28 0 0 8) 8 5)) 13 29 0 0 ((wr (cpy (cpy (cpy (cpy (wr M 24 0 (M 8 0)) 9 25 0 0 8) 10 26 0 0 8) 11 27 0 0 8) 12 28 0 0 8) 24 5 ((cpy (cpy (cpy (cpy (wr M 24 0 (M 8 0)) 9 25 0 0 8) 10 26 0 0 8) 11 27 0 0 8) 12 28 0 0 8) 8 5)) 24 5)) 24 5)) 15 31 0 0 ((cpy (cpy (wr (cpy (cpy (cpy (cpy (wr M 24 0 (M 8 0)) 9 25 0 0 8) 10 26 0 0 8) 11 27 0 0 8) 12 28 0 0 8) 24 5 ((cpy (cpy (cpy (cpy (wr M 24 0 (M 8 0)) 9 25 0 0 8) 10 26 0 0 8) 11 27 0 0 8) 12 28 0 0 8) 8 5)) 13 29 0 0 ((wr (cpy (cpy (cpy (cpy (wr M 24 0 (M 8 0)) 9 25 0 0 8) 10 26 0 0 8) 11 27 0 0 8) 12 28 0 0 8) 24 5 ((cpy (cpy (cpy (cpy (wr M 24 0 (M 8 0)) 9 25 0 0 8) 10 26 0 0 8) 11 27 0 0 8) 12 28 0 0 8) 8 5)) 24 5)) 14 30 0 0 ((cpy (wr (cpy (cpy (cpy (cpy (wr M 24 0 (M 8 0)) 9 25 0 0 8) 10 26 0 0 8) 11 27 0 0 8) 12 28 0 0 8) 24 5 ((cpy (cpy (cpy (cpy (wr M 24 0 (M 8 0)) 9 25 0 0 8) 10 26 0 0 8) 11 27 0 0 8) 12 28 0 0 8) 8 5)) 13 29 0 0 ((wr (cpy (cpy (cpy (cpy (wr M 24 0 (M 8 0)) 9 25 0 0 8) 10 26 0 0 8) 11 27 0 0 8) 12 28 0 0 8) 24 5 ((cpy (cpy (cpy (cpy (wr M 24 0 (M 8 0)) 9 25 0 0 8) 10 26 0 0 8) 11 27 0 0 8) 12 28 0 0 8) 8 5)) 24 5)) 24 5)) 24 5)) 8 9)) 24 9)))))))))))
def fX4_copyFrom_q17_q1 (M : mM) : Option (Int32 × mM) :=
  (gd (cpok 0 0 7 7 7) (gd (cpok 0 0 7 7 7) (gd (cpok 0 0 7 7 7) (gd (cpok 0 0 7 7 7) (gd (cpok 0 0 6 6 6) (gd (cpok 0 0 6 6 6) (b2 (fX6_copyFrom_q24_q8 (cpy (cpy (wr (wr (wr (wr (wr (wr (wr (cpy (cpy (cpy (cpy (wr M 17 0 (M 1 0)) 2 18 0 0 7) 3 19 0 0 7) 4 20 0 0 7) 5 21 0 0 7) 17 5 ((cpy (cpy (cpy (cpy (wr M 17 0 (M 1 0)) 2 18 0 0 7) 3 19 0 0 7) 4 20 0 0 7) 5 21 0 0 7) 1 5)) 17 6 ((wr (cpy (cpy (cpy (cpy (wr M 17 0 (M 1 0)) 2 18 0 0 7) 3 19 0 0 7) 4 20 0 0 7) 5 21 0 0 7) 17 5 ((cpy (cpy (cpy (cpy (wr M 17 0 (M 1 0)) 2 18 0 0 7) 3 19 0 0 7) 4 20 0 0 7) 5 21 0 0 7) 1 5)) 1 6)) 17 7 ((wr (wr (cpy (cpy (cpy (cpy (wr M 17 0 (M 1 0)) 2 18 0 0 7) 3 19 0 0 7) 4 20 0 0 7) 5 21 0 0 7) 17 5 ((cpy (cpy (cpy (cpy (wr M 17 0 (M 1 0)) 2 18 0 0 7) 3 19 0 0 7) 4 20 0 0 7) 5 21 0 0 7) 1 5)) 17 6 ((wr (cpy (cpy (cpy (cpy (wr M 17 0 (M 1 0)) 2 18 0 0 7) 3 19 0 0 7) 4 20 0 0 7) 5 21 0 0 7) 17 5 ((cpy (cpy (cpy (cpy (wr M 17 0 (M 1 0)) 2 18 0 0 7) 3 19 0 0 7) 4 20 0 0 7) 5 21 0 0 7) 1 5)) 1 6)) 1 7)) 17 8 ((wr (wr (wr (cpy (cpy (cpy (cpy (wr M 17 0 (M 1 0)) 2 18 0 0 7) 3 19 0 0 7) 4 20 0 0 7) 5 21 0 0 7) 17 5 ((cpy (cpy (cpy (cpy (wr M 17 0 (M 1 0)) 2 18 0 0 7) 3 19 0 0 7) 4 20 0 0 7) 5 21 0 0 7) 1 5)) 17 6 ((wr (cpy (cpy (cpy (cpy (wr M 17 0 (M 1 0)) 2 18 0 0 7) 3 19 0 0 7) 4 20 0 0 7) 5 21 0 0 7) 17 5 ((cpy (cpy (cpy (cpy (wr M 17 0 (M 1 0)) 2 18 0 0 7) 3 19 0 0 7) 4 20 0 0 7) 5 21 0 0 7) 1 5)) 1 6)) 17 7 ((wr (wr (cpy (cpy (cpy (cpy (wr M 17 0 (M 1 0)) 2 18 0 0 7) 3 19 0 0 7) 4 20 0 0 7) 5 21 0 0 7) 17 5 ((cpy (cpy (cpy (cpy (wr M 17 0 (M 1 0)) 2 18 0 0 7) 3 19 0 0 7) 4 20 0 0 7) 5 21 0 0 7) 1 5)) 17 6 ((wr (cpy (cpy (cpy (cpy (wr M 17 0 (M 1 0)) 2 18 0 0 7) 3 19 0 0 7) 4 20 0 0 7) 5 21 0 0 7) 17 5 ((cpy (cpy (cpy (cpy (wr M 17 0 (M 1 0)) 2 18 0 0 7) 3 19 0 0 7) 4 20 0 0 7) 5 21 0 0 7) 1 5)) 1 6)) 1 7)) 1 8)) 17 9 ((wr (wr (wr (wr (cpy (cpy (cpy (cpy (wr M 17 0 (M 1 0)) 2 18 0 0 7) 3 19 0 0 7) 4 20 0 0 7) 5 21 0 0 7) 17 5 ((cpy (cpy (cpy (cpy (wr M 17 0 (M 1 0)) 2 18 0 0 7) 3 19 0 0 7) 4 20 0 0 7) 5 21 0 0 7) 1 5)) 17 6 ((wr (cpy (cpy (cpy (cpy (wr M 17 0 (M 1 0)) 2 18 0 0 7) 3 19 0 0 7) 4 20 0 0 7) 5 21 0 0 7) 17 5 ((cpy (cpy (cpy (cpy (wr M 17 0 (M 1 0)) 2 18 0 0 7) 3 19 0 0 7) 4 20 0 0 7) 5 21 0 0 7) 1 5)) 1 6)) 17 7 ((wr (wr (cpy (cpy (cpy (cpy (wr M 17 0 (M 1 0)) 2 18 0 0 7) 3 19 0 0 7) 4 20 0 0 7) 5 21 0 0 7) 17 5 ((cpy (cpy (cpy (cpy (wr M 17 0 (M 1 0)) 2 18 0 0 7) 3 19 0 0 7) 4 20 0 0 7) 5 21 0 0 7) 1 5)) 17 6 ((wr (cpy (cpy (cpy (cpy (wr M 17 0 (M 1 0)) 2 18 0 0 7) 3 19 0 0 7) 4 20 0 0 7) 5 21 0 0 7) 17 5 ((cpy (cpy (cpy (cpy (wr M 17 0 (M 1 0)) 2 18 0 0 7) 3 19 0 0 7) 4 20 0 0 7) 5 21 0 0 7) 1 5)) 1 6)) 1 7)) 17 8 ((wr (wr (wr (cpy (cpy (cpy (cpy (wr M 17 0 (M 1 0)) 2 18 0 0 7) 3 19 0 0 7) 4 20 0 0 7) 5 21 0 0 7) 17 5 ((cpy (cpy (cpy (cpy (wr M 17 0 (M 1 0)) 2 18 0 0 7) 3 19 0 0 7) 4 20 0 0 7) 5 21 0 0 7) 1 5)) 17 6 ((wr (cpy (cpy (cpy (cpy (wr M 17 0 (M 1 0)) 2 18 0 0 7) 3 19 0 0 7) 4 20 0 0 7) 5 21 0 0 7) 17 5 ((cpy (cpy (cpy (cpy (wr M 17 0 (M 1 0)) 2 18 0 0 7) 3 19 0 0 7) 4 20 0 0 7) 5 21 0 0 7) 1 5)) 1 6)) 17 7 ((wr (wr (cpy (cpy (cpy (cpy (wr M 17 0 (M 1 0)) 2 18 0 0 7) 3 19 0 0 7) 4 20 0 0 7) 5 21 0 0 7) 17 5 ((cpy (cpy (cpy (cpy (wr M 17 0 (M 1 0)) 2 18 0 0 7) 3 19 0 0 7) 4 20 0 0 7) 5 21 0 0 7) 1 5)) 17 6 ((wr (cpy (cpy (cpy (cpy (wr M 17 0 (M 1 0)) 2 18 0 0 7) 3 19 0 0 7) 4 20 0 0 7) 5 21 0 0 7) 17 5 ((cpy (cpy (cpy (cpy (wr M 17 0 (M 1 0)) 2 18 0 0 7) 3 19 0 0 7) 4 20 0 0 7) 5 21 0 0 7) 1 5)) 1 6)) 1 7)) 1 8)) 1 9)) 17 10 ((wr (wr (wr (wr (wr (cpy (cpy (cpy (cpy (wr M 17 0 (M 1 0)) 2 18 0 0 7) 3 19 0 0 7) 4 20 0 0 7) 5 21 0 0 7) 17 5 ((cpy (cpy (cpy (cpy (wr M 17 0 (M 1 0)) 2 18 0 0 7) 3 19 0 0 7) 4 20 0 0 7) 5 21 0 0 7) 1 5)) 17 6 ((wr (cpy (cpy (cpy (cpy (wr M 17 0 (M 1 0)) 2 18 0 0 7) 3 19 0 0 7) 4 20 0 0 7) 5 21 0 0 7) 17 5 ((cpy (cpy (cpy (cpy (wr M 17 0 (M 1 0)) 2 18 0 0 7) 3 19 0 0 7) 4 20 0 0 7) 5 21 0 0 7) 1 5)) 1 6)) 17 7 ((wr (wr (cpy (cpy (cpy (cpy (wr M 17 0 (M 1 0)) 2 18 0 0 7) 3 19 0 0 7) 4 20 0 0 7) 5 21 0 0 7) 17 5 ((cpy (cpy (cpy (cpy (wr M 17 0 (M 1 0)) 2 18 0 0 7) 3 19 0 0 7) 4 20 0 0 7) 5 21 0 0 7) 1 5)) 17 6 ((wr (cpy (cpy (cpy (cpy (wr M 17 0 (M 1 0)) 2 18 0 0 7) 3 19 0 0 7) 4 20 0 0 7) 5 21 0 0 7) 17 5 ((cpy (cpy (cpy (cpy (wr M 17 0 (M 1 0)) 2 18 0 0 7) 3 19 0 0 7) 4 20 0 0 7) 5 21 0 0 7) 1 5)) 1 6)) 1 7)) 17 8 ((wr (wr (wr (cpy (cpy (cpy (cpy (wr M 17 0 (M 1 0)) 2 18 0 0 7) 3 19 0 0 7) 4 20 0 0 7) 5 21 0 0 7) 17 5 ((cpy (cpy (cpy (cpy (wr M 17 0 (M 1 0)) 2 18 0 0 7) 3 19 0 0 7) 4 20 0 0 7) 5 21 0 0 7) 1 5)) 17 6 ((wr (cpy (cpy (cpy (cpy (wr M 17 0 (M 1 0)) 2 18 0 0 7) 3 19 0 0 7) 4 20 0 0 7) 5 21 0 0 7) 17 5 ((cpy (cpy (cpy (cpy (wr M 17 0 (M 1 0)) 2 18 0 0 7) 3 19 0 0 7) 4 20 0 0 7) 5 21 0 0 7) 1 5)) 1 6)) 17 7 ((wr (wr (cpy (cpy (cpy (cpy (wr M 17 0 (M 1 0)) 2 18 0 0 7) 3 19 0 0 7) 4 20 0 0 7) 5 21 0 0 7) 17 5 ((cpy (cpy (cpy (cpy (wr M 17 0 (M 1 0)) 2 18 0 0 7) 3 19 0 0 7) 4 20 0 0 7) 5 21 0 0 7) 1 5)) 17 6 ((wr (cpy (cpy (cpy (cpy (wr M 17 0 (M 1 0)) 2 18 0 0 7) 3 19 0 0 7) 4 20 0 0 7) 5 21 0 0 7) 17 5 ((cpy (cpy (cpy (cpy (wr M 17 0 (M 1 0)) 2 18 0 0 7) 3 19 0 0 7) 4 20 0 0 7) 5 21 0 0 7) 1 5)) 1 6)) 1 7)) 1 8)) 17 9 ((wr (wr (wr (wr (cpy (cpy (cpy (cpy (wr M 17 0 (M 1 0)) 2 18 0 0 7) 3 19 0 0 7) 4 20 0 0 7) 5 21 0 0 7) 17 5 ((cpy (cpy (cpy (cpy (wr M 17 0 (M 1 0)) 2 18 0 0 7) 3 19 0 0 7) 4 20 0 0 7) 5 21 0 0 7) 1 5)) 17 6 ((wr (cpy (cpy (cpy (cpy (wr M 17 0 (M 1 0)) 2 18 0 0 7) 3 19 0 0 7) 4 20 0 0 7) 5 21 0 0 7) 17 5 ((cpy (cpy (cpy (cpy (wr M 17 0 (M 1 0)) 2 18 0 0 7) 3 19 0 0 7) 4 20 0 0 7) 5 21 0 0 7) 1 5)) 1 6)) 17 7 ((wr (wr (cpy (cpy (cpy (cpy (wr M 17 0 (M 1 0)) 2 18 0 0 7) 3 19 0 0 7) 4 20 0 0 7) 5 21 0 0 7) 17 5 ((cpy (cpy (cpy (cpy (wr M 17 0 (M 1 0)) 2 18 0 0 7) 3 19 0 0 7) 4 20 0 0 7) 5 21 0 0 7) 1 5)) 17 6 ((wr (cpy (cpy (cpy (cpy (wr M 17 0 (M 1 0)) 2 18 0 0 7) 3 19 0 0 7) 4 20 0 0 7) 5 21 0 0 7) 17 5 ((cpy (cpy (cpy (cpy (wr M 17 0 (M 1 0)) 2 18 0 0 7) 3 19 0 0 7) 4 20 0 0 7) 5 21 0 0 7) 1 5)) 1 6)) 1 7)) 17 8 ((wr (wr (wr (cpy (cpy (cpy (cpy (wr M 17 0 (M 1 0)) 2 18 0 0 7) 3 19 0 0 7) 4 20 0 0 7) 5 21 0 0 7) 17 5 ((cpy (cpy (cpy (cpy (wr M 17 0 (M 1 0)) 2 18 0 0 7) 3 19 0 0 7) 4 20 0 0 7) 5 21 0 0 7) 1 5)) 17 6 ((wr (cpy (cpy (cpy (cpy (wr M 17 0 (M 1 0)) 2 18 0 0 7) 3 19 0 0 7) 4 20 0 0 7) 5 21 0 0 7) 17 5 ((cpy (cpy (cpy (cpy (wr M 17 0 (M 1 0)) 2 18 0 0 7) 3 19 0 0 7) 4 20 0 0 7) 5 21 0 0 7) 1 5)) 1 6)) 17 7 ((wr (wr (cpy (cpy (cpy (cpy (wr M 17 0 (M 1 0)) 2 18 0 0 7) 3 19 0 0 7) 4 20 0 0 7) 5 21 0 0 7) 17 5 ((cpy (cpy (cpy (cpy (wr M 17 0 (M 1 0)) 2 18 0 0 7) 3 19 0 0 7) 4 20 0 0 7) 5 21 0 0 7) 1 5)) 17 6 ((wr (cpy (cpy (cpy (cpy (wr M 17 0 (M 1 0)) 2 18 0 0 7) 3 19 0 0 7) 4 20 0 0 7) 5 21 0 0 7) 17 5 ((cpy (cpy (cpy (cpy (wr M 17 0 (M 1 0)) 2 18 0 0 7) 3 19 0 0 7) 4 20 0 0 7) 5 21 0 0 7) 1 5)) 1 6)) 1 7)) 1 8)) 1 9)) 1 10)) 17 11 ((wr (wr (wr (wr (wr (wr (cpy (cpy (cpy (cpy (wr M 17 0 (M 1 0)) 2 18 0 0 7) 3 19 0 0 7) 4 20 0 0 7) 5 21 0 0 7) 17 5 ((cpy (cpy (cpy (cpy (wr M 17 0 (M 1 0)) 2 18 0 0 7) 3 19 0 0 7) 4 20 0 0 7) 5 21 0 0 7) 1 5)) 17 6 ((wr (cpy (cpy (cpy (cpy (wr M 17 0 (M 1 0)) 2 18 0 0 7) 3 19 0 0 7) 4 20 0 0 7) 5 21 0 0 7) 17 5 ((cpy (cpy (cpy (cpy (wr M 17 0 (M 1 0)) 2 18 0 0 7) 3 19 0 0 7) 4 20 0 0 7) 5 21 0 0 7) 1 5)) 1 6)) 17 7 ((wr (wr (cpy (cpy (cpy (cpy (wr M 17 0 (M 1 0)) 2 18 0 0 7) 3 19 0 0 7) 4 20 0 0 7) 5 21 0 0 7) 17 5 ((cpy (cpy (cpy (cpy (wr M 17 0 (M 1 0)) 2 18 0 0 7) 3 19 0 0 7) 4 20 0 0 7) 5 21 0 0 7) 1 5)) 17 6 ((wr (cpy (cpy (cpy (cpy (wr M 17 0 (M 1 0)) 2 18 0 0 7) 3 19 0 0 7) 4 20 0 0 7) 5 21 0 0 7) 17 5 ((cpy (cpy (cpy (cpy (wr M 17 0 (M 1 0)) 2 18 0 0 7) 3 19 0 0 7) 4 20 0 0 7) 5 21 0 0 7) 1 5)) 1 6)) 1 7)) 17 8 ((wr (wr (wr (cpy (cpy (cpy (cpy (wr M 17 0 (M 1 0)) 2 18 0 0 7) 3 19 0 0 7) 4 20 0 0 7) 5 21 0 0 7) 17 5 ((cpy (cpy (cpy (cpy (wr M 17 0 (M 1 0)) 2 18 0 0 7) 3 19 0 0 7) 4 20 0 0 7) 5 21 0 0 7) 1 5)) 17 6 ((wr (cpy (cpy (cpy (cpy (wr M 17 0 (M 1 0)) 2 18 0 0 7) 3 19 0 0 7) 4 20 0 0 7) 5 21 0 0 7) 17 5 ((cpy (cpy (cpy (cpy (wr M 17 0 (M 1 0)) 2 18 0 0 7) 3 19 0 0 7) 4 20 0 0 7) 5 21 0 0 7) 1 5)) 1 6)) 17 7 ((wr (wr (cpy (cpy (cpy (cpy (wr M 17 0 (M 1 0)) 2 18 0 0 7) 3 19 0 0 7) 4 20 0 0 7) 5 21 0 0 7) 17 5 ((cpy (cpy (cpy (cpy (wr M 17 0 (M 1 0)) 2 18 0 0 7) 3 19 0 0 7) 4 20 0 0 7) 5 21 0 0 7) 1 5)) 17 6 ((wr (cpy (cpy (cpy (cpy (wr M 17 0 (M 1 0)) 2 18 0 0 7) 3 19 0 0 7) 4 20 0 0 7) 5 21 0 0 7) 17 5 ((cpy (cpy (cpy (cpy (wr M 17 0 (M 1 0)) 2 18 0 0 7) 3 19 0 0 7) 4 20 0 0 7) 5 21 0 0 7) 1 5)) 1 6)) 1 7)) 1 8)) 17 9 ((wr (wr (wr (wr (cpy (cpy (cpy (cpy (wr M 17 0 (M 1 0)) 2 18 0 0 7) 3 19 0 0 7) 4 20 0 0 7) 5 21 0 0 7) 17 5 ((cpy (cpy (cpy (cpy (wr M 17 0 (M 1 0)) 2 18 0 0 7) 3 19 0 0 7) 4 20 0 0 7) 5 21 0 0 7) 1 5)) 17 6 ((wr (cpy (cpy (cpy (cpy (wr M 17 0 (M 1 0)) 2 18 0 0 7) 3 19 0 0 7) 4 20 0 0 7) 5 21 0 0 7) 17 5 ((cpy (cpy (cpy (cpy (wr M 17 0 (M 1 0)) 2 18 0 0 7) 3 19 0 0 7) 4 20 0 0 7) 5 21 0 0 7) 1 5)) 1 6)) 17 7 ((wr (wr (cpy (cpy (cpy (cpy (wr M 17 0 (M 1 0)) 2 18 0 0 7) 3 19 0 0 7) 4 20 0 0 7) 5 21 0 0 7) 17 5 ((cpy (cpy (cpy (cpy (wr M 17 0 (M 1 0)) 2 18 0 0 7) 3 19 0 0 7) 4 20 0 0 7) 5 21 0 0 7) 1 5)) 17 6 ((wr (cpy (cpy (cpy (cpy (wr M 17 0 (M 1 0)) 2 18 0 0 7) 3 19 0 0 7) 4 20 0 0 7) 5 21 0 0 7) 17 5 ((cpy (cpy (cpy (cpy (wr M 17 0 (M 1 0)) 2 18 0 0 7) 3 19 0 0 7) 4 20 0 0 7) 5 21 0 0 7) 1 5)) 1 6)) 1 7)) 17 8 ((wr (wr (wr (cpy (cpy (cpy (cpy (wr M 17 0 (M 1 0)) 2 18 0 0 7) 3 19 0 0 7) 4 20 0 0 7) 5 21 0 0 7) 17 5 ((cpy (cpy (cpy (cpy (wr M 17 0 (M 1 0)) 2 18 0 0 7) 3 19 0 0 7) 4 20 0 0 7) 5 21 0 0 7) 1 5)) 17 6 ((wr (cpy (cpy (cpy (cpy (wr M 17 0 (M 1 0)) 2 18 0 0 7) 3 19 0 0 7) 4 20 0 0 7) 5 21 0 0 7) 17 5 ((cpy (cpy (cpy (cpy (wr M 17 0 (M 1 0)) 2 18 0 0 7) 3 19 0 0 7) 4 20 0 0 7) 5 21 0 0 7) 1 5)) 1 6)) 17 7 ((wr (wr (cpy (cpy (cpy (cpy (wr M 17 0 (M 1 0)) 2 18 0 0 7) 3 19 0 0 7) 4 20 0 0 7) 5 21 0 0 7) 17 5 ((cpy (cpy (cpy (cpy (wr M 17 0 (M 1 0)) 2 18 0 0 7) 3 19 0 0 7) 4 20 0 0 7) 5 21 0 0 7) 1 5)) 17 6 ((wr (cpy (cpy (cpy (cpy (wr M 17 0 (M 1 0)) 2 18 0 0 7) 3 19 0 0 7) 4 20 0 0 7) 5 21 0 0 7) 17 5 ((cpy (cpy (cpy (cpy (wr M 17 0 (M 1 0)) 2 18 0 0 7) 3 19 0 0 7) 4 20 0 0 7) 5 21 0 0 7) 1 5)) 1 6)) 1 7)) 1 8)) 1 9)) 17 10 ((wr (wr (wr (wr (wr (cpy (cpy (cpy (cpy (wr M 17 0 (M 1 0)) 2 18 0 0 7) 3 19 0 0 7) 4 20 0 0 7) 5 21 0 0 7) 17 5 ((cpy (cpy (cpy (cpy (wr M 17 0 (M 1 0)) 2 18 0 0 7) 3 19 0 0 7) 4 20 0 0 7) 5 21 0 0 7) 1 5)) 17 6 ((wr (cpy (cpy (cpy (cpy (wr M 17 0 (M 1 0)) 2 18 0 0 7) 3 19 0 0 7) 4 20 0 0 7) 5 21 0 0 7) 17 5 ((cpy (cpy (cpy (cpy (wr M 17 0 (M 1 0)) 2 18 0 0 7) 3 19 0 0 7) 4 20 0 0 7) 5 21 0 0 7) 1 5)) 1 6)) 17 7 ((wr (wr (cpy (cpy (cpy (cpy (wr M 17 0 (M 1 0)) 2 18 0 0 7) 3 19 0 0 7) 4 20 0 0 7) 5 21 0 0 7) 17 5 ((cpy (cpy (cpy (cpy (wr M 17 0 (M 1 0)) 2 18 0 0 7) 3 19 0 0 7) 4 20 0 0 7) 5 21 0 0 7) 1 5)) 17 6 ((wr (cpy (cpy (cpy (cpy (wr M 17 0 (M 1 0)) 2 18 0 0 7) 3 19 0 0 7) 4 20 0 0 7) 5 21 0 0 7) 17 5 ((cpy (cpy (cpy (cpy (wr M 17 0 (M 1 0)) 2 18 0 0 7) 3 19 0 0 7) 4 20 0 0 7) 5 21 0 0 7) 1 5)) 1 6)) 1 7)) 17 8 ((wr (wr (wr (cpy (cpy (cpy (cpy (wr M 17 0 (M 1 0)) 2 18 0 0 7) 3 19 0 0 7) 4 20 0 0 7) 5 21 0 0 7) 17 5 ((cpy (cpy (cpy (cpy (wr M 17 0 (M 1 0)) 2 18 0 0 7) 3 19 0 0 7) 4 20 0 0 7) 5 21 0 0 7) 1 5)) 17 6 ((wr (cpy (cpy (cpy (cpy (wr M 17 0 (M 1 0)) 2 18 0 0 7) 3 19 0 0 7) 4 20 0 0 7) 5 21 0 0 7) 17 5 ((cpy (cpy (cpy (cpy (wr M 17 0 (M 1 0)) 2 18 0 0 7) 3 19 0 0 7) 4 20 0 0 7) 5 21 0 0 7) 1 5)) 1 6)) 17 7 ((wr (wr (cpy (cpy (cpy (cpy (wr M 17 0 (M 1 0)) 2 18 0 0 7) 3 19 0 0 7) 4 20 0 0 7) 5 21 0 0 7) 17 5 ((cpy (cpy (cpy (cpy (wr M 17 0 (M 1 0)) 2 18 0 0 7) 3 19 0 0 7) 4 20 0 0 7) 5 21 0 0 7) 1 5)) 17 6 ((wr (cpy (cpy (cpy (cpy (wr M 17 0 (M 1 0)) 2 18 0 0 7) 3 19 0 0 7) 4 20 0 0 7) 5 21 0 0 7) 17 5 ((cpy (cpy (cpy (cpy (wr M 17 0 (M 1 0)) 2 18 0 0 7) 3 19 0 0 7) 4 20 0 0 7) 5 21 0 0 7) 1 5)) 1 6)) 1 7)) 1 8)) 17 9 ((wr (wr (wr (wr (cpy (cpy (cpy (cpy (wr M 17 0 (M 1 0)) 2 18 0 0 7) 3 19 0 0 7) 4 20 0 0 7) 5 21 0 0 7) 17 5 ((cpy (cpy (cpy (cpy (wr M 17 0 (M 1 0)) 2 18 0 0 7) 3 19 0 0 7) 4 20 0 0 7) 5 21 0 0 7) 1 5)) 17 6 ((wr (cpy (cpy (cpy (cpy (wr M 17 0 (M 1 0)) 2 18 0 0 7) 3 19 0 0 7) 4 20 0 0 7) 5 21 0 0 7) 17 5 ((cpy (cpy (cpy (cpy (wr M 17 0 (M 1 0)) 2 18 0 0 7) 3 19 0 0 7) 4 20 0 0 7) 5 21 0 0 7) 1 5)) 1 6)) 17 7 ((wr (wr (cpy (cpy (cpy (cpy (wr M 17 0 (M 1 0)) 2 18 0 0 7) 3 19 0 0 7) 4 20 0 0 7) 5 21 0 0 7) 17 5 ((cpy (cpy (cpy (cpy (wr M 17 0 (M 1 0)) 2 18 0 0 7) 3 19 0 0 7) 4 20 0 0 7) 5 21 0 0 7) 1 5)) 17 6 ((wr (cpy (cpy (cpy (cpy (wr M 17 0 (M 1 0)) 2 18 0 0 7) 3 19 0 0 7) 4 20 0 0 7) 5 21 0 0 7) 17 5 ((cpy (cpy (cpy (cpy (wr M 17 0 (M 1 0)) 2 18 0 0 7) 3 19 0 0 7) 4 20 0 0 7) 5 21 0 0 7) 1 5)) 1 6)) 1 7)) 17 8 ((wr (wr (wr (cpy (cpy (cpy (cpy (wr M 17 0 (M 1 0)) 2 18 0 0 7) 3 19 0 0 7) 4 20 0 0 7) 5 21 0 0 7) 17 5 ((cpy (cpy (cpy (cpy (wr M 17 0 (M 1 0)) 2 18 0 0 7) 3 19 0 0 7) 4 20 0 0 7) 5 21 0 0 7) 1 5)) 17 6 ((wr (cpy (cpy (cpy (cpy (wr M 17 0 (M 1 0)) 2 18 0 0 7) 3 19 0 0 7) 4 20 0 0 7) 5 21 0 0 7) 17 5 ((cpy (cpy (cpy (cpy (wr M 17 0 (M 1 0)) 2 18 0 0 7) 3 19 0 0 7) 4 20 0 0 7) 5 21 0 0 7) 1 5)) 1 6)) 17 7 ((wr (wr (cpy (cpy (cpy (cpy (wr M 17 0 (M 1 0)) 2 18 0 0 7) 3 19 0 0 7) 4 20 0 0 7) 5 21 0 0 7) 17 5 ((cpy (cpy (cpy (cpy (wr M 17 0 (M 1 0)) 2 18 0 0 7) 3 19 0 0 7) 4 20 0 0 7) 5 21 0 0 7) 1 5)) 17 6 ((wr (cpy (cpy (cpy (cpy (wr M 17 0 (M 1 0)) 2 18 0 0 7) 3 19 0 0 7) 4 20 0 0 7) 5 21 0 0 7) 17 5 ((cpy (cpy (cpy (cpy (wr M 17 0 (M 1 0)) 2 18 0 0 7) 3 19 0 0 7) 4 20 0 0 7) 5 21 0 0 7) 1 5)) 1 6)) 1 7)) 1 8)) 1 9)) 1 10)) 1 11)) 6 22 0 0 6) 7 23 0 0 6)) fun r7 M9 => (some (0, M9)))))))))
def fX11_keep (M : mM) : Option (Int32 × mM) :=
  (b2 (fX4_copyFrom_q17_q1 M) fun r1 M3 => (some (1, wr M3 0 2 1)))
def fX6_copyFrom_q8_q24 (M : mM) : Option (Int32 × mM) :=
  (gd (cpok 0 0 8 8 8) (gd (cpok 0 0 8 8 8) (gd (cpok 0 0 8 8 8) (gd (cpok 0 0 8 8 8) (gd (cpok 0 0 ((wr (cpy (cpy (cpy (cpy (wr M 8 0 (M 24 0)) 25 9 0 0 8) 26 10 0 0 8) 27 11 0 0 8) 28 12 0 0 8) 8 5 ((cpy (cpy (cpy (cpy (wr M 8 0 (M 24 0)) 25 9 0 0 8) 26 10 0 0 8) 27 11 0 0 8) 28 12 0 0 8) 24 5)) 8 5) 200 200) (gd (cpok 0 0 ((cpy (wr (cpy (cpy (cpy (cpy (wr M 8 0 (M 24 0)) 25 9 0 0 8) 26 10 0 0 8) 27 11 0 0 8) 28 12 0 0 8) 8 5 ((cpy (cpy (cpy (cpy (wr M 8 0 (M 24 0)) 25 9 0 0 8) 26 10 0 0 8) 27 11 0 0 8) 28 12 0 0 8) 24 5)) 29 13 0 0 ((wr (cpy (cpy (cpy (cpy (wr M 8 0 (M 24 0)) 25 9 0 0 8) 26 10 0 0 8) 27 11 0 0 8) 28 12 0 0 8) 8 5 ((cpy (cpy (cpy (cpy (wr M 8 0 (M 24 0)) 25 9 0 0 8) 26 10 0 0 8) 27 11 0 0 8) 28 12 0 0 8) 24 5)) 8 5)) 8 5) 200 200) (gd (cpok 0 0 ((cpy (cpy (wr (cpy (cpy (cpy (cpy (wr M 8 0 (M 24 0)) 25 9 0 0 8) 26 10 0 0 8) 27 11 0 0 8) 28 12 0 0 8) 8 5 ((cpy (cpy (cpy (cpy (wr M 8 0 (M 24 0)) 25 9 0 0 8) 26 10 0 0 8) 27 11 0 0 8) 28 12 0 0 8) 24 5)) 29 13 0 0 ((wr (cpy (cpy (cpy (cpy (wr M 8 0 (M 24 0)) 25 9 0 0 8) 26 10 0 0 8) 27 11 0 0 8) 28 12 0 0 8) 8 5 ((cpy (cpy (cpy (cpy (wr M 8 0 (M 24 0)) 25 9 0 0 8) 26 10 0 0 8) 27 11 0 0 8) 28 12 0 0 8) 24 5)) 8 5)) 30 14 0 0 ((cpy (wr (cpy (cpy (cpy (cpy (wr M 8 0 (M 24 0)) 25 9 0 0 8) 26 10 0 0 8) 27 11 0 0 8) 28 12 0 0 8) 8 5 ((cpy (cpy (cpy (cpy (wr M 8 0 (M 24 0)) 25 9 0 0 8) 26 10 0 0 8) 27 11 0 0 8) 28 12 0 0 8) 24 5)) 29 13 0 0 ((wr (cpy (cpy (cpy (cpy (wr M 8 0 (M 24 0)) 25 9 0 0 8) 26 10 0 0 8) 27 11 0 0 8) 28 12 0 0 8) 8 5 ((cpy (cpy (cpy (cpy (wr M 8 0 (M 24 0)) 25 9 0 0 8) 26 10 0 0 8) 27 11 0 0 8) 28 12 0 0 8) 24 5)) 8 5)) 8 5)) 8 5) 200 200) (gd (cpok 0 0 ((wr (cpy (cpy (cpy (wr (cpy (cpy (cpy (cpy (wr M 8 0 (M 24 0)) 25 9 0 0 8) 26 10 0 0 8) 27 11 0 0 8) 28 12 0 0 8) 8 5 ((cpy (cpy (cpy (cpy (wr M 8 0 (M 24 0)) 25 9 0 0 8) 26 10 0 0 8) 27 11 0 0 8) 28 12 0 0 8) 24 5)) 29 13 0 0 ((wr (cpy (cpy (cpy (cpy (wr M 8 0 (M 24 0)) 25 9 0 0 8) 26 10 0 0 8) 27 11 0 0 8) 28 12 0 0 8) 8 5 ((cpy (cpy (cpy (cpy (wr M 8 0 (M 24 0)) 25 9 0 0 8) 26 10 0 0 8) 27 11 0 0 8) 28 12 0 0 8) 24 5)) 8 5)) 30 14 0 0 ((cpy (wr (cpy (cpy (cpy (cpy (wr M 8 0 (M 24 0)) 25 9 0 0 8) 26 10 0 0 8) 27 11 0 0 8) 28 12 0 0 8) 8 5 ((cpy (cpy (cpy (cpy (wr M 8 0 (M 24 0)) 25 9 0 0 8) 26 10 0 0 8) 27 11 0 0 8) 28 12 0 0 8) 24 5)) 29 13 0 0 ((wr (cpy (cpy (cpy (cpy (wr M 8 0 (M 24 0)) 25 9 0 0 8) 26 10 0 0 8) 27 11 0 0 8) 28 12 0 0 8) 8 5 ((cpy (cpy (cpy (cpy (wr M 8 0 (M 24 0)) 25 9 0 0 8) 26 10 0 0 8) 27 11 0 0 8) 28 12 0 0 8) 24 5)) 8 5)) 8 5)) 31 15 0 0 ((cpy (cpy (wr (cpy (cpy (cpy (cpy (wr M 8 0 (M 24 0)) 25 9 0 0 8) 26 10 0 0 8) 27 11 0 0 8) 28 12 0 0 8) 8 5 ((cpy (cpy (cpy (cpy (wr M 8 0 (M 24 0)) 25 9 0 0 8) 26 10 0 0 8) 27 11 0 0 8) 28 12 0 0 8) 24 5)) 29 13 0 0 ((wr (cpy (cpy (cpy (cpy (wr M 8 0 (M 24 0)) 25 9 0 0 8) 26 10 0 0 8) 27 11 0 0 8) 28 12 0 0 8) 8 5 ((cpy (cpy (cpy (cpy (wr M 8 0 (M 24 0)) 25 9 0 0 8) 26 10 0 0 8) 27 11 0 0 8) 28 12 0 0 8) 24 5)) 8 5)) 30 14 0 0 ((cpy (wr (cpy (cpy (cpy (cpy (wr M 8 0 (M 24 0)) 25 9 0 0 8) 26 10 0 0 8) 27 11 0 0 8) 28 12 0 0 8) 8 5 ((cpy (cpy (cpy (cpy (wr M 8 0 (M 24 0)) 25 9 0 0 8) 26 10 0 0 8) 27 11 0 0 8) 28 12 0 0 8) 24 5)) 29 13 0 0 ((wr (cpy (cpy (cpy (cpy (wr M 8 0 (M 24 0)) 25 9 0 0 8) 26 10 0 0 8) 27 11 0 0 8) 28 12 0 0 8) 8 5 ((cpy (cpy (cpy (cpy (wr M 8 0 (M 24 0)) 25 9 0 0 8) 26 10 0 0 8) 27 11 0 0 8) 28 12 0 0 8) 24 5)) 8 5)) 8 5)) 8 5)) 8 9 ((cpy (cpy (cpy (wr (cpy (cpy (cpy (cpy (wr M 8 0 (M 24 0)) 25 9 0 0 8) 26 10 0 0 8) 27 11 0 0 8) 28 12 0 0 8) 8 5 ((cpy (cpy (cpy (cpy (wr M 8 0 (M 24 0)) 25 9 0 0 8) 26 10 0 0 8) 27 11 0 0 8) 28 12 0 0 8) 24 5)) 29 13 0 0 ((wr (cpy (cpy (cpy (cpy (wr M 8 0 (M 24 0)) 25 9 0 0 8) 26 10 0 0 8) 27 11 0 0 8) 28 12 0 0 8) 8 5 ((cpy (cpy (cpy (cpy (wr M 8 0 (M 24 0)) 25 9 0 0 8) 26 10 0 0 8) 27 11 0 0 8) 28 12 0 0 8) 24 5)) 8 5)) 30 14 0 0 ((cpy (wr (cpy (cpy (cpy (cpy (wr M 8 0 (M 24 0)) 25 9 0 0 8) 26 10 0 0 8) 27 11 0 0 8) 28 12 0 0 8) 8 5 ((cpy (cpy (cpy (cpy (wr M 8 0 (M 24 0)) 25 9 0 0 8) 26 10 0 0 8) 27 11 0 0 8) 28 12 0 0 8) 24 5)) 29 13 0 0 ((wr (cpy (cpy (cpy (cpy (wr M 8 0 (M 24 0)) 25 9 0 0 8) 26 10 0 0 8) 27 11 0 0 8) 28 12 0 0 8) 8 5 ((cpy (cpy (cpy (cpy (wr M 8 0 (M 24 0)) 25 9 0 0 8) 26 10 0 0 8) 27 11 0 0 8) 28 12 0 0 8) 24 5)) 8 5)) 8 5)) 31 15 0 0 ((cpy (cpy (wr (cpy (cpy (cpy (cpy (wr M 8 0 (M 24 0)) 25 9 0 0 8) 26 10 0 0 8) 27 11 0 0 8) 28 12 0 0 8) 8 5 ((cpy (cpy (cpy (cpy (wr M 8 0 (M 24 0)) 25 9 0 0 8) 26 10 0 0 8) 27 11 0 0 8) 28 12 0 0 8) 24 5)) 29 13 0 0 ((wr (cpy (cpy (cpy (cpy (wr M 8 0 (M 24 0)) 25 9 0 0 8) 26 10 0 0 8) 27 11 0 0 8) 28 12 0 0 8) 8 5 ((cpy (cpy (cpy (cpy (wr M 8 0 (M 24 0)) 25 9 0 0 8) 26 10 0 0 8) 27 11 0 0 8) 28 12 0 0 8) 24 5)) 8 5)) 30 14 0 0 ((cpy (wr (cpy (cpy (cpy (cpy (wr M 8 0 (M 24 0)) 25 9 0 0 8) 26 10 0 0 8) 27 11 0 0 8) 28 12 0 0 8) 8 5 ((cpy (cpy (cpy (cpy (wr M 8 0 (M 24 0)) 25 9 0 0 8) 26 10 0 0 8) 27 11 0 0 8) 28 12 0 0 8) 24 5)) 29 13 0 0 ((wr (cpy (cpy (cpy (cpy (wr M 8 0 (M 24 0)) 25 9 0 0 8) 26 10 0 0 8) 27 11 0 0 8) 28 12 0 0 8) 8 5 ((cpy (cpy (cpy (cpy (wr M 8 0 (M 24 0)) 25 9 0 0 8) 26 10 0 0 8) 27 11 0 0 8) 28 12 0 0 8) 24 5)) 8 5)) 8 5)) 8 5)) 24 9)) 8 9) 205 205) (some (0, cpy (wr (cpy (cpy (cpy (wr (cpy (cpy (cpy (cpy (wr M 8 0 (M 24 0)) 25 9 0 0 8) 26 10 0 0 8) 27 11 0 0 8) 28 12 0 0 8) 8 5 ((cpy (cpy (cpy (cpy (wr M 8 0 (M 24 0)) 25 9 0 0 8) 26 10 0 0 8) 27 11 0 0 8) 28 12 0 0 8) 24 5)) 29 13 0 0 ((wr (cpy (cpy (cpy (cpy (wr M 8 0 (M 24 0)) 25 9 0 0 8) 26 10 0 0 8) 27 11 0 0 8) 28 12 0 0 8) 8 5 ((cpy (cpy (cpy (cpy (wr M 8 0 (M 24 0)) 25 9 0 0 8) 26 10 0 0 8) 27 11 0 0 8) 28 12 0 0 8) 24 5)) 8 5)) 30 14 0 0 ((cpy (wr (cpy (cpy (cpy (cpy (wr M 8 0 (M 24 0)) 25 9 0 0 8) 26 10 0 0 8) 27 11 0 0 8) 28 12 0 0 8) 8 5 ((cpy (cpy (cpy (cpy (wr M 8 0 (M 24 0)) 25 9 0 0 8) 26 10 0 0 8) 27 11 0 0 8) 28 12 0 0 8) 24 5)) 29 13 0 0 ((wr (cpy (cpy (cpy (cpy (wr M 8 0 (M 24 0)) 25 9 0 0 8) 26 10 0 0 8) 27 11 0 0 8) 28 12 0 0 8) 8 5 ((cpy (cpy (cpy (cpy (wr M 8 0 (M 24 0)) 25 9 0 0 8) 26 10 0 0 8) 27 11 0 0 8) 28 12 0 0 8) 24 5)) 8 5)) 8 5)) 31 15 0 0 ((cpy (cpy (wr (cpy (cpy (cpy (cpy (wr M 8 0 (M 24 0)) 25 9 0 0 8) 26 10 0 0 8) 27 11 0 0 8) 28 12 0 0 8) 8 5 ((cpy (cpy (cpy (cpy (wr M 8 0 (M 24 0)) 25 9 0 0 8) 26 10 0 0 8) 27 11 0 0 8) 28 12 0 0 8) 24 5)) 29 13 0 0 ((wr (cpy (cpy (cpy (cpy (wr M 8 0 (M 24 0)) 25 9 0 0 8) 26 10 0 0 8) 27 11 0 0 8) 28 12 0 0 8) 8 5 ((cpy (cpy (cpy (cpy (wr M 8 0 (M 24 0)) 25 9 0 0 8) 26 10 0 0 8) 27 11 0 0 8) 28 12 0 0 8) 24 5)) 8 5)) 30 14 0 0 ((cpy (wr (cpy (cpy (cpy (cpy (wr M 8 0 (M 24 0)) 25 9 0 0 8) 26 10 0 0 8) 27 11 0 0 8) 28 12 0 0 8) 8 5 ((cpy (cpy (cpy (cpy (wr M 8 0 (M 24 0)) 25 9 0 0 8) 26 10 0 0 8) 27 11 0 0 8) 28 12 0 0 8) 24 5)) 29 13 0 0 ((wr (cpy (cpy (cpy (cpy (wr M 8 0 (M 24 0)) 25 9 0 0 8) 26 10 0 0 8) 27 11 0 0 8) 28 12 0 0 8) 8 5 ((cpy (cpy (cpy (cpy (wr M 8 0 (M 24 0)) 25 9 0 0 8) 26 10 0 0 8) 27 11 0 0 8) 28 12 0 0 8) 24 5)) 8 5)) 8 5)) 8 5)) 8 9 ((cpy (cpy (cpy (wr (cpy (cpy (cpy (cpy (wr M 8 0 (M 24 0)) 25 9 0 0 8) 26 10 0 0 8) 27 11 0 0 8) 28 12 0 0 8) 8 5 ((cpy (cpy (cpy (cpy (wr M 8 0 (M 24 0)) 25 9 0 0 8) 26 10 0 0 8) 27 11 0 0 8) 28 12 0 0 8) 24 5)) 29 13 0 0 ((wr (cpy (cpy (cpy (cpy (wr M 8 0 (M 24 0)) 25 9 0 0 8) 26 10 0 0 8) 27 11 0 0 8) 28 12 0 0 8) 8 5 ((cpy (cpy (cpy (cpy (wr M 8 0 (M 24 0)) 25 9 0 0 8) 26 10 0 0 8) 27 11 0 0 8) 28 12 0 0 8) 24 5)) 8 5)) 30 14 0 0 ((cpy (wr (cpy (cpy (cpy (cpy (wr M 8 0 (M 24 0)) 25 9 0 0 8) 26 10 0 0 8) 27 11 0 0 8) 28 12 0 0 8) 8 5 ((cpy (cpy (cpy (cpy (wr M 8 0 (M 24 0)) 25 9 0 0 8) 26 10 0 0 8) 27 11 0 0 8) 28 12 0 0 8) 24 5)) 29 13 0 0 ((wr (cpy (cpy (cpy (cpy (wr M 8 0 (M 24 0)) 25 9 0 0 8) 26 10 0 0 8) 27 11 0 0 8) 28 12 0 0 8) 8 5 ((cpy (cpy (cpy (cpy (wr M 8 0 (M 24 0)) 25 9 0 0 8) 26 10 0 0 8) 27 11 0 0 8) 28 12 0 0 8) 24 5)) 8 5)) 8 5)) 31 15 0 0 ((cpy (cpy (wr (cpy (cpy (cpy (cpy (wr M 8 0 (M 24 0)) 25 9 0 0 8) 26 10 0 0 8) 27 11 0 0 8) 28 12 0 0 8) 8 5 ((cpy (cpy (cpy (cpy (wr M 8 0 (M 24 0)) 25 9 0 0 8) 26 10 0 0 8) 27 11 0 0 8) 28 12 0 0 8) 24 5)) 29 13 0 0 ((wr (cpy (cpy (cpy (cpy (wr M 8 0 (M 24 0)) 25 9 0 0 8) 26 10 0 0 8) 27 11 0 0 8) 28 12 0 0 8) 8 5 ((cpy (cpy (cpy (cpy (wr M 8 0 (M 24 0)) 25 9 0 0 8) 26 10 0 0 8) 27 11 0 0 8) 28 12 0 0 8) 24 5)) 8 5)) 30 14 0 0 ((cpy (wr (cpy (cpy (cpy (cpy (wr M 8 0 (M 24 0)) 25 9 0 0 8) 26 10 0 0 8) 27 11 0 0 8) 28 12 0 0 8) 8 5 ((cpy (cpy (cpy (cpy (wr M 8 0 (M 24 0)) 25 9 0 0 8) 26 10 0 0 8) 27 11 0 0 8) 28 12 0 0 8) 24 5)) 29 13 0 0 ((wr (cpy (cpy (cpy (cpy (wr M 8 0 (M 24 0)) 25 9 0 0 8) 26 10 0 0 8) 27 11 0 0 8) 28 12 0 0 8) 8 5 ((cpy (cpy (cpy (cpy (wr M 8 0 (M 24 0)) 25 9 0 0 8) 26 10 0 0 8) 27 11 0 0 8) 28 12 0 0 8) 24 5)) 8 5)) 8 5)) 8 5)) 24 9)) 32 16 0 0 ((wr (cpy (cpy (cpy (wr (cpy (cpy (cpy (cpy (wr M 8 0 (M 24 0)) 25 9 0 0 8) 26 10 0 0 8) 27 11 0 0 8) 28 12 0 0 8) 8 5 ((cpy (cpy (cpy (cpy (wr M 8 0 (M 24 0)) 25 9 0 0 8) 26 10 0 0 8) 27 11 0 0 8) 28 12 0 0 8) 24 5)) 29 13 0 0 ((wr (cpy (cpy (cpy (cpy (wr M 8 0 (M 24 0)) 25 9 0 0 8) 26 10 0 0 8) 27 11 0 0 8) 28 12 0 0 8) 8 5 ((cpy (cpy (cpy (cpy (wr M 8 0 (M 24 0)) 25 9 0 0 8) 26 10 0 0 8) 27 11 0 0 8) 28 12 0 0 8) 24 5)) 8 5)) 30 14 0 0 ((cpy (wr (cpy (cpy (cpy (cpy (wr M 8 0 (M 24 0)) 25 9 0 0 8) 26 10 0 0 8) 27 11 0 0 8) 28 12 0 0 8) 8 5 ((cpy (cpy (cpy (cpy (wr M 8 0 (M 24 0)) 25 9 0 0 8) 26 10 0 0 8) 27 11 0 0 8) 28 12 0 0 8) 24 5)) 29 13 0 0 ((wr (cpy (cpy (cpy (cpy (wr M 8 0 (M 24 0)) 25 9 0 0 8) 26 10 0 0 8) 27 11 0 0 8) 28 12 0 0 8) 8 5 ((cpy (cpy (cpy (cpy (wr M 8 0 (M 24 0)) 25 9 0 0 8) 26 10 0 0 8) 27 11 0 0 8) 28 12 0 0 8) 24 5)) 8 5)) 8 5)) 31 15 0 0 ((cpy (cpy (wr (cpy (cpy (cpy (cpy (wr M 8 0 (M 24 0)) 25 9 0 0 8) 26 10 0 0 8) 27 11 0 0 8) 28 12 0 0 8) 8 5 ((cpy (cpy (cpy (cpy (wr M 8 0 (M 24 0)) 25 9 0 0 8) 26 10 0 0 8) 27 11 0 0 8) 28 12 0 0 8) 24 5)) 29 13 0 0 ((wr (cpy (cpy (cpy (cpy (wr M 8 0 (M 24 0)) 25 9 0 0 8) 26 10 0 0 8) 27 11 0 0 8) 28 12 0 0 8) 8 5 ((cpy (cpy (cpy (cpy (wr M 8 0 (M 24 0)) 25 9 0 0 8) 26 10 0 0 8) 27 11 0 0 8) 28 12 0 0 8) 24 5)) 8 5)) 30 14 0 0 ((cpy (wr (cpy (cpy (cpy (cpy (wr M 8 0 (M 24 0)) 25 9 0 0 8) 26 10 0 0 8) 27 11 0 0 8) 28 12 0 0 8) 8 5 ((cpy (cpy (cpy (cpy (wr M 8 0 (M 24 0)) 25 9 0 0 8) 26 10 0 0 8) 27 11 0 0 8) 28 12 0 0 8) 24 5)) 29 13 0 0 ((wr (cpy (cpy (cpy (cpy (wr M 8 0 (M 24 0)) 25 9 0 0 8) 26 10 0 0 8) 27 11 0 0 8) 28 12 0 0 8) 8 5 ((cpy (cpy (cpy (cpy (wr M 8 0 (M 24 0)) 25 9 0 0 8) 26 10 0 0 8) 27 11 0 0 8) 28 12 0 0 8) 24 5)) 8 5)) 8 5)) 8 5)) 8 9 ((cpy (cpy (cpy (wr (cpy (cpy (cpy (cpy (wr M 8 0 (M 24 0)) 25 9 0 0 8) 26 10 0 0 8) 27 11 0 0 8) 28 12 0 0 8) 8 5 ((cpy (cpy (cpy (cpy (wr M 8 0 (M 24 0)) 25 9 0 0 8) 26 10 0 0 8) 27 11 0 0 8) 28 12 0 0 8) 24 5)) 29 13 0 0 ((wr (cpy (cpy (cpy (cpy (wr M 8 0 (M 24 0)) 25 9 0 0 8) 26 10 0 0 8) 27 11 0 0 8) 28 12 0 0 8) 8 5 ((cpy (cpy (cpy (cpy (wr M 8 0 (M 24 0)) 25 9 0 0 8) 26 10 0 0 8) 27 11 0 0 8) 28 12 0 0 8) 24 5)) 8 5)) 30 14 0 0 ((cpy (wr (cpy (cpy (cpy (cpy (wr M 8 0 (M 24 0)) 25 9 0 0 8) 26 10 0 0 8) 27 11 0 0 8) 28 12 0 0 8) 8 5 ((cpy (cpy (cpy (cpy (wr M 8 0 (M 24 0)) 25 9 0 0 8) 26 10 0 0 8) 27 11 0 0 8) 28 12 0 0 8) 24 5)) 29 13 0 0 ((wr (cpy (cpy (cpy (cpy (wr M 8 0 (M 24 0)) 25 9 0 0 8) 26 10 0 0 8) 27 11 0 0 8) 28 12 0 0 8) 8 5 ((cpy (cpy (cpy (cpy (wr M 8 0 (M 24 0)) 25 9 0 0 8) 26 10 0 0 8) 27 11 0 0 8) 28 12 0 0 8) 24 5)) 8 5)) 8 5)) 31 15 0 0 ((cpy (cpy (wr (cpy (cpy (cpy (cpy (wr M 8 0 (M 24 0)) 25 9 0 0 8) 26 10 0 0 8) 27 11 0 0 8) 28 12 0 0 8) 8 5 ((cpy (cpy (cpy (cpy (wr M 8 0 (M 24 0)) 25 9 0 0 8) 26 10 0 0 8) 27 11 0 0 8) 28 12 0 0 8) 24 5)) 29 13 0 0 ((wr (cpy (cpy (cpy (cpy (wr M 8 0 (M 24 0)) 25 9 0 0 8) 26 10 0 0 8) 27 11 0 0 8) 28 12 0 0 8) 8 5 ((cpy (cpy (cpy (cpy (wr M 8 0 (M 24 0)) 25 9 0 0 8) 26 10 0 0 8) 27 11 0 0 8) 28 12 0 0 8) 24 5)) 8 5)) 30 14 0 0 ((cpy (wr (cpy (cpy (cpy (cpy (wr M 8 0 (M 24 0)) 25 9 0 0 8) 26 10 0 0 8) 27 11 0 0 8) 28 12 0 0 8) 8 5 ((cpy (cpy (cpy (cpy (wr M 8 0 (M 24 0)) 25 9 0 0 8) 26 10 0 0 8) 27 11 0 0 8) 28 12 0 0 8) 24 5)) 29 13 0 0 ((wr (cpy (cpy (cpy (cpy (wr M 8 0 (M 24 0)) 25 9 0 0 8) 26 10 0 0 8) 27 11 0 0 8) 28 12 0 0 8) 8 5 ((cpy (cpy (cpy (cpy (wr M 8 0 (M 24 0)) 25 9 0 0 8) 26 10 0 0 8) 27 11 0 0 8) 28 12 0 0 8) 24 5)) 8 5)) 8 5)) 8 5)) 24 9)) 8 9)))))))))))
def fX4_copyFrom_q1_q17 (M : mM) : Option (Int32 × mM) :=
  (gd (cpok 0 0 7 7 7) (gd (cpok 0 0 7 7 7) (gd (cpok 0 0 7 7 7) (gd (cpok 0 0 7 7 7) (gd (cpok 0 0 6 6 6) (gd (cpok 0 0 6 6 6) (b2 (fX6_copyFrom_q8_q24 (cpy (cpy (wr (wr (wr (wr (wr (wr (wr (cpy (cpy (cpy (cpy (wr M 1 0 (M 17 0)) 18 2 0 0 7) 19 3 0 0 7) 20 4 0 0 7) 21 5 0 0 7) 1 5 ((cpy (cpy (cpy (cpy (wr M 1 0 (M 17 0)) 18 2 0 0 7) 19 3 0 0 7) 20 4 0 0 7) 21 5 0 0 7) 17 5)) 1 6 ((wr (cpy (cpy (cpy (cpy (wr M 1 0 (M 17 0)) 18 2 0 0 7) 19 3 0 0 7) 20 4 0 0 7) 21 5 0 0 7) 1 5 ((cpy (cpy (cpy (cpy (wr M 1 0 (M 17 0)) 18 2 0 0 7) 19 3 0 0 7) 20 4 0 0 7) 21 5 0 0 7) 17 5)) 17 6)) 1 7 ((wr (wr (cpy (cpy (cpy (cpy (wr M 1 0 (M 17 0)) 18 2 0 0 7) 19 3 0 0 7) 20 4 0 0 7) 21 5 0 0 7) 1 5 ((cpy (cpy (cpy (cpy (wr M 1 0 (M 17 0)) 18 2 0 0 7) 19 3 0 0 7) 20 4 0 0 7) 21 5 0 0 7) 17 5)) 1 6 ((wr (cpy (cpy (cpy (cpy (wr M 1 0 (M 17 0)) 18 2 0 0 7) 19 3 0 0 7) 20 4 0 0 7) 21 5 0 0 7) 1 5 ((cpy (cpy (cpy (cpy (wr M 1 0 (M 17 0)) 18 2 0 0 7) 19 3 0 0 7) 20 4 0 0 7) 21 5 0 0 7) 17 5)) 17 6)) 17 7)) 1 8 ((wr (wr (wr (cpy (cpy (cpy (cpy (wr M 1 0 (M 17 0)) 18 2 0 0 7) 19 3 0 0 7) 20 4 0 0 7) 21 5 0 0 7) 1 5 ((cpy (cpy (cpy (cpy (wr M 1 0 (M 17 0)) 18 2 0 0 7) 19 3 0 0 7) 20 4 0 0 7) 21 5 0 0 7) 17 5)) 1 6 ((wr (cpy (cpy (cpy (cpy (wr M 1 0 (M 17 0)) 18 2 0 0 7) 19 3 0 0 7) 20 4 0 0 7) 21 5 0 0 7) 1 5 ((cpy (cpy (cpy (cpy (wr M 1 0 (M 17 0)) 18 2 0 0 7) 19 3 0 0 7) 20 4 0 0 7) 21 5 0 0 7) 17 5)) 17 6)) 1 7 ((wr (wr (cpy (cpy (cpy (cpy (wr M 1 0 (M 17 0)) 18 2 0 0 7) 19 3 0 0 7) 20 4 0 0 7) 21 5 0 0 7) 1 5 ((cpy (cpy (cpy (cpy (wr M 1 0 (M 17 0)) 18 2 0 0 7) 19 3 0 0 7) 20 4 0 0 7) 21 5 0 0 7) 17 5)) 1 6 ((wr (cpy (cpy (cpy (cpy (wr M 1 0 (M 17 0)) 18 2 0 0 7) 19 3 0 0 7) 20 4 0 0 7) 21 5 0 0 7) 1 5 ((cpy (cpy (cpy (cpy (wr M 1 0 (M 17 0)) 18 2 0 0 7) 19 3 0 0 7) 20 4 0 0 7) 21 5 0 0 7) 17 5)) 17 6)) 17 7)) 17 8)) 1 9 ((wr (wr (wr (wr (cpy (cpy (cpy (cpy (wr M 1 0 (M 17 0)) 18 2 0 0 7) 19 3 0 0 7) 20 4 0 0 7) 21 5 0 0 7) 1 5 ((cpy (cpy (cpy (cpy (wr M 1 0 (M 17 0)) 18 2 0 0 7) 19 3 0 0 7) 20 4 0 0 7) 21 5 0 0 7) 17 5)) 1 6 ((wr (cpy (cpy (cpy (cpy (wr M 1 0 (M 17 0)) 18 2 0 0 7) 19 3 0 0 7) 20 4 0 0 7) 21 5 0 0 7) 1 5 ((cpy (cpy (cpy (cpy (wr M 1 0 (M 17 0)) 18 2 0 0 7) 19 3 0 0 7) 20 4 0 0 7) 21 5 0 0 7) 17 5)) 17 6)) 1 7 ((wr (wr (cpy (cpy (cpy (cpy (wr M 1 0 (M 17 0)) 18 2 0 0 7) 19 3 0 0 7) 20 4 0 0 7) 21 5 0 0 7) 1 5 ((cpy (cpy (cpy (cpy (wr M 1 0 (M 17 0)) 18 2 0 0 7) 19 3 0 0 7) 20 4 0 0 7) 21 5 0 0 7) 17 5)) 1 6 ((wr (cpy (cpy (cpy (cpy (wr M 1 0 (M 17 0)) 18 2 0 0 7) 19 3 0 0 7) 20 4 0 0 7) 21 5 0 0 7) 1 5 ((cpy (cpy (cpy (cpy (wr M 1 0 (M 17 0)) 18 2 0 0 7) 19 3 0 0 7) 20 4 0 0 7) 21 5 0 0 7) 17 5)) 17 6)) 17 7)) 1 8 ((wr (wr (wr (cpy (cpy (cpy (cpy (wr M 1 0 (M 17 0)) 18 2 0 0 7) 19 3 0 0 7) 20 4 0 0 7) 21 5 0 0 7) 1 5 ((cpy (cpy (cpy (cpy (wr M 1 0 (M 17 0)) 18 2 0 0 7) 19 3 0 0 7) 20 4 0 0 7) 21 5 0 0 7) 17 5)) 1 6 ((wr (cpy (cpy (cpy (cpy (wr M 1 0 (M 17 0)) 18 2 0 0 7) 19 3 0 0 7) 20 4 0 0 7) 21 5 0 0 7) 1 5 ((cpy (cpy (cpy (cpy (wr M 1 0 (M 17 0)) 18 2 0 0 7) 19 3 0 0 7) 20 4 0 0 7) 21 5 0 0 7) 17 5)) 17 6)) 1 7 ((wr (wr (cpy (cpy (cpy (cpy (wr M 1 0 (M 17 0)) 18 2 0 0 7) 19 3 0 0 7) 20 4 0 0 7) 21 5 0 0 7) 1 5 ((cpy (cpy (cpy (cpy (wr M 1 0 (M 17 0)) 18 2 0 0 7) 19 3 0 0 7) 20 4 0 0 7) 21 5 0 0 7) 17 5)) 1 6 ((wr (cpy (cpy (cpy (cpy (wr M 1 0 (M 17 0)) 18 2 0 0 7) 19 3 0 0 7) 20 4 0 0 7) 21 5 0 0 7) 1 5 ((cpy (cpy (cpy (cpy (wr M 1 0 (M 17 0)) 18 2 0 0 7) 19 3 0 0 7) 20 4 0 0 7) 21 5 0 0 7) 17 5)) 17 6)) 17 7)) 17 8)) 17 9)) 1 10 ((wr (wr (wr (wr (wr (cpy (cpy (cpy (cpy (wr M 1 0 (M 17 0)) 18 2 0 0 7) 19 3 0 0 7) 20 4 0 0 7) 21 5 0 0 7) 1 5 ((cpy (cpy (cpy (cpy (wr M 1 0 (M 17 0)) 18 2 0 0 7) 19 3 0 0 7) 20 4 0 0 7) 21 5 0 0 7) 17 5)) 1 6 ((wr (cpy (cpy (cpy (cpy (wr M 1 0 (M 17 0)) 18 2 0 0 7) 19 3 0 0 7) 20 4 0 0 7) 21 5 0 0 7) 1 5 ((cpy (cpy (cpy (cpy (wr M 1 0 (M 17 0)) 18 2 0 0 7) 19 3 0 0 7) 20 4 0 0 7) 21 5 0 0 7) 17 5)) 17 6)) 1 7 ((wr (wr (cpy (cpy (cpy (cpy (wr M 1 0 (M 17 0)) 18 2 0 0 7) 19 3 0 0 7) 20 4 0 0 7) 21 5 0 0 7) 1 5 ((cpy (cpy (cpy (cpy (wr M 1 0 (M 17 0)) 18 2 0 0 7) 19 3 0 0 7) 20 4 0 0 7) 21 5 0 0 7) 17 5)) 1 6 ((wr (cpy (cpy (cpy (cpy (wr M 1 0 (M 17 0)) 18 2 0 0 7) 19 3 0 0 7) 20 4 0 0 7) 21 5 0 0 7) 1 5 ((cpy (cpy (cpy (cpy (wr M 1 0 (M 17 0)) 18 2 0 0 7) 19 3 0 0 7) 20 4 0 0 7) 21 5 0 0 7) 17 5)) 17 6)) 17 7)) 1 8 ((wr (wr (wr (cpy (cpy (cpy (cpy (wr M 1 0 (M 17 0)) 18 2 0 0 7) 19 3 0 0 7) 20 4 0 0 7) 21 5 0 0 7) 1 5 ((cpy (cpy (cpy (cpy (wr M 1 0 (M 17 0)) 18 2 0 0 7) 19 3 0 0 7) 20 4 0 0 7) 21 5 0 0 7) 17 5)) 1 6 ((wr (cpy (cpy (cpy (cpy (wr M 1 0 (M 17 0)) 18 2 0 0 7) 19 3 0 0 7) 20 4 0 0 7) 21 5 0 0 7) 1 5 ((cpy (cpy (cpy (cpy (wr M 1 0 (M 17 0)) 18 2 0 0 7) 19 3 0 0 7) 20 4 0 0 7) 21 5 0 0 7) 17 5)) 17 6)) 1 7 ((wr (wr (cpy (cpy (cpy (cpy (wr M 1 0 (M 17 0)) 18 2 0 0 7) 19 3 0 0 7) 20 4 0 0 7) 21 5 0 0 7) 1 5 ((cpy (cpy (cpy (cpy (wr M 1 0 (M 17 0)) 18 2 0 0 7) 19 3 0 0 7) 20 4 0 0 7) 21 5 0 0 7) 17 5)) 1 6 ((wr (cpy (cpy (cpy (cpy (wr M 1 0 (M 17 0)) 18 2 0 0 7) 19 3 0 0 7) 20 4 0 0 7) 21 5 0 0 7) 1 5 ((cpy (cpy (cpy (cpy (wr M 1 0 (M 17 0)) 18 2 0 0 7) 19 3 0 0 7) 20 4 0 0 7) 21 5 0 0 7) 17 5)) 17 6)) 17 7)) 17 8)) 1 9 ((wr (wr (wr (wr (cpy (cpy (cpy (cpy (wr M 1 0 (M 17 0)) 18 2 0 0 7) 19 3 0 0 7) 20 4 0 0 7) 21 5 0 0 7) 1 5 ((cpy (cpy (cpy (cpy (wr M 1 0 (M 17 0)) 18 2 0 0 7) 19 3 0 0 7) 20 4 0 0 7) 21 5 0 0 7) 17 5)) 1 6 ((wr (cpy (cpy (cpy (cpy (wr M 1 0 (M 17 0)) 18 2 0 0 7) 19 3 0 0 7) 20 4 0 0 7) 21 5 0 0 7) 1 5 ((cpy (cpy (cpy (cpy (wr M 1 0 (M 17 0)) 18 2 0 0 7) 19 3 0 0 7) 20 4 0 0 7) 21 5 0 0 7) 17 5)) 17 6)) 1 7 ((wr (wr (cpy (cpy (cpy (cpy (wr M 1 0 (M 17 0)) 18 2 0 0 7) 19 3 0 0 7) 20 4 0 0 7) 21 5 0 0 7) 1 5 ((cpy (cpy (cpy (cpy (wr M 1 0 (M 17 0)) 18 2 0 0 7) 19 3 0 0 7) 20 4 0 0 7) 21 5 0 0 7) 17 5)) 1 6 ((wr (cpy (cpy (cpy (cpy (wr M 1 0 (M 17 0)) 18 2 0 0 7) 19 3 0 0 7) 20 4 0 0 7) 21 5 0 0 7) 1 5 ((cpy (cpy (cpy (cpy (wr M 1 0 (M 17 0)) 18 2 0 0 7) 19 3 0 0 7) 20 4 0 0 7) 21 5 0 0 7) 17 5)) 17 6)) 17 7)) 1 8 ((wr (wr (wr (cpy (cpy (cpy (cpy (wr M 1 0 (M 17 0)) 18 2 0 0 7) 19 3 0 0 7) 20 4 0 0 7) 21 5 0 0 7) 1 5 ((cpy (cpy (cpy (cpy (wr M 1 0 (M 17 0)) 18 2 0 0 7) 19 3 0 0 7) 20 4 0 0 7) 21 5 0 0 7) 17 5)) 1 6 ((wr (cpy (cpy (cpy (cpy (wr M 1 0 (M 17 0)) 18 2 0 0 7) 19 3 0 0 7) 20 4 0 0 7) 21 5 0 0 7) 1 5 ((cpy (cpy (cpy (cpy (wr M 1 0 (M 17 0)) 18 2 0 0 7) 19 3 0 0 7) 20 4 0 0 7) 21 5 0 0 7) 17 5)) 17 6)) 1 7 ((wr (wr (cpy (cpy (cpy (cpy (wr M 1 0 (M 17 0)) 18 2 0 0 7) 19 3 0 0 7) 20 4 0 0 7) 21 5 0 0 7) 1 5 ((cpy (cpy (cpy (cpy (wr M 1 0 (M 17 0)) 18 2 0 0 7) 19 3 0 0 7) 20 4 0 0 7) 21 5 0 0 7) 17 5)) 1 6 ((wr (cpy (cpy (cpy (cpy (wr M 1 0 (M 17 0)) 18 2 0 0 7) 19 3 0 0 7) 20 4 0 0 7) 21 5 0 0 7) 1 5 ((cpy (cpy (cpy (cpy (wr M 1 0 (M 17 0)) 18 2 0 0 7) 19 3 0 0 7) 20 4 0 0 7) 21 5 0 0 7) 17 5)) 17 6)) 17 7)) 17 8)) 17 9)) 17 10)) 1 11 ((wr (wr (wr (wr (wr (wr (cpy (cpy (cpy (cpy (wr M 1 0 (M 17 0)) 18 2 0 0 7) 19 3 0 0 7) 20 4 0 0 7) 21 5 0 0 7) 1 5 ((cpy (cpy (cpy (cpy (wr M 1 0 (M 17 0)) 18 2 0 0 7) 19 3 0 0 7) 20 4 0 0 7) 21 5 0 0 7) 17 5)) 1 6 ((wr (cpy (cpy (cpy (cpy (wr M 1 0 (M 17 0)) 18 2 0 0 7) 19 3 0 0 7) 20 4 0 0 7) 21 5 0 0 7) 1 5 ((cpy (cpy (cpy (cpy (wr M 1 0 (M 17 0)) 18 2 0 0 7) 19 3 0 0 7) 20 4 0 0 7) 21 5 0 0 7) 17 5)) 17 6)) 1 7 ((wr (wr (cpy (cpy (cpy (cpy (wr M 1 0 (M 17 0)) 18 2 0 0 7) 19 3 0 0 7) 20 4 0 0 7) 21 5 0 0 7) 1 5 ((cpy (cpy (cpy (cpy (wr M 1 0 (M 17 0)) 18 2 0 0 7) 19 3 0 0 7) 20 4 0 0 7) 21 5 0 0 7) 17 5)) 1 6 ((wr (cpy (cpy (cpy (cpy (wr M 1 0 (M 17 0)) 18 2 0 0 7) 19 3 0 0 7) 20 4 0 0 7) 21 5 0 0 7) 1 5 ((cpy (cpy (cpy (cpy (wr M 1 0 (M 17 0)) 18 2 0 0 7) 19 3 0 0 7) 20 4 0 0 7) 21 5 0 0 7) 17 5)) 17 6)) 17 7)) 1 8 ((wr (wr (wr (cpy (cpy (cpy (cpy (wr M 1 0 (M 17 0)) 18 2 0 0 7) 19 3 0 0 7) 20 4 0 0 7) 21 5 0 0 7) 1 5 ((cpy (cpy (cpy (cpy (wr M 1 0 (M 17 0)) 18 2 0 0 7) 19 3 0 0 7) 20 4 0 0 7) 21 5 0 0 7) 17 5)) 1 6 ((wr (cpy (cpy (cpy (cpy (wr M 1 0 (M 17 0)) 18 2 0 0 7) 19 3 0 0 7) 20 4 0 0 7) 21 5 0 0 7) 1 5 ((cpy (cpy (cpy (cpy (wr M 1 0 (M 17 0)) 18 2 0 0 7) 19 3 0 0 7) 20 4 0 0 7) 21 5 0 0 7) 17 5)) 17 6)) 1 7 ((wr (wr (cpy (cpy (cpy (cpy (wr M 1 0 (M 17 0)) 18 2 0 0 7) 19 3 0 0 7) 20 4 0 0 7) 21 5 0 0 7) 1 5 ((cpy (cpy (cpy (cpy (wr M 1 0 (M 17 0)) 18 2 0 0 7) 19 3 0 0 7) 20 4 0 0 7) 21 5 0 0 7) 17 5)) 1 6 ((wr (cpy (cpy (cpy (cpy (wr M 1 0 (M 17 0)) 18 2 0 0 7) 19 3 0 0 7) 20 4 0 0 7) 21 5 0 0 7) 1 5 ((cpy (cpy (cpy (cpy (wr M 1 0 (M 17 0)) 18 2 0 0 7) 19 3 0 0 7) 20 4 0 0 7) 21 5 0 0 7) 17 5)) 17 6)) 17 7)) 17 8)) 1 9 ((wr (wr (wr (wr (cpy (cpy (cpy (cpy (wr M 1 0 (M 17 0)) 18 2 0 0 7) 19 3 0 0 7) 20 4 0 0 7) 21 5 0 0 7) 1 5 ((cpy (cpy (cpy (cpy (wr M 1 0 (M 17 0)) 18 2 0 0 7) 19 3 0 0 7) 20 4 0 0 7) 21 5 0 0 7) 17 5)) 1 6 ((wr (cpy (cpy (cpy (cpy (wr M 1 0 (M 17 0)) 18 2 0 0 7) 19 3 0 0 7) 20 4 0 0 7) 21 5 0 0 7) 1 5 ((cpy (cpy (cpy (cpy (wr M 1 0 (M 17 0)) 18 2 0 0 7) 19 3 0 0 7) 20 4 0 0 7) 21 5 0 0 7) 17 5)) 17 6)) 1 7 ((wr (wr (cpy (cpy (cpy (cpy (wr M 1 0 (M 17 0)) 18 2 0 0 7) 19 3 0 0 7) 20 4 0 0 7) 21 5 0 0 7) 1 5 ((cpy (cpy (cpy (cpy (wr M 1 0 (M 17 0)) 18 2 0 0 7) 19 3 0 0 7) 20 4 0 0 7) 21 5 0 0 7) 17 5)) 1 6 ((wr (cpy (cpy (cpy (cpy (wr M 1 0 (M 17 0)) 18 2 0 0 7) 19 3 0 0 7) 20 4 0 0 7) 21 5 0 0 7) 1 5 ((cpy (cpy (cpy (cpy (wr M 1 0 (M 17 0)) 18 2 0 0 7) 19 3 0 0 7) 20 4 0 0 7) 21 5 0 0 7) 17 5)) 17 6)) 17 7)) 1 8 ((wr (wr (wr (cpy (cpy (cpy (cpy (wr M 1 0 (M 17 0)) 18 2 0 0 7) 19 3 0 0 7) 20 4 0 0 7) 21 5 0 0 7) 1 5 ((cpy (cpy (cpy (cpy (wr M 1 0 (M 17 0)) 18 2 0 0 7) 19 3 0 0 7) 20 4 0 0 7) 21 5 0 0 7) 17 5)) 1 6 ((wr (cpy (cpy (cpy (cpy (wr M 1 0 (M 17 0)) 18 2 0 0 7) 19 3 0 0 7) 20 4 0 0 7) 21 5 0 0 7) 1 5 ((cpy (cpy (cpy (cpy (wr M 1 0 (M 17 0)) 18 2 0 0 7) 19 3 0 0 7) 20 4 0 0 7) 21 5 0 0 7) 17 5)) 17 6)) 1 7 ((wr (wr (cpy (cpy (cpy (cpy (wr M 1 0 (M 17 0)) 18 2 0 0 7) 19 3 0 0 7) 20 4 0 0 7) 21 5 0 0 7) 1 5 ((cpy (cpy (cpy (cpy (wr M 1 0 (M 17 0)) 18 2 0 0 7) 19 3 0 0 7) 20 4 0 0 7) 21 5 0 0 7) 17 5)) 1 6 ((wr (cpy (cpy (cpy (cpy (wr M 1 0 (M 17 0)) 18 2 0 0 7) 19 3 0 0 7) 20 4 0 0 7) 21 5 0 0 7) 1 5 ((cpy (cpy (cpy (cpy (wr M 1 0 (M 17 0)) 18 2 0 0 7) 19 3 0 0 7) 20 4 0 0 7) 21 5 0 0 7) 17 5)) 17 6)) 17 7)) 17 8)) 17 9)) 1 10 ((wr (wr (wr (wr (wr (cpy (cpy (cpy (cpy (wr M 1 0 (M 17 0)) 18 2 0 0 7) 19 3 0 0 7) 20 4 0 0 7) 21 5 0 0 7) 1 5 ((cpy (cpy (cpy (cpy (wr M 1 0 (M 17 0)) 18 2 0 0 7) 19 3 0 0 7) 20 4 0 0 7) 21 5 0 0 7) 17 5)) 1 6 ((wr (cpy (cpy (cpy (cpy (wr M 1 0 (M 17 0)) 18 2 0 0 7) 19 3 0 0 7) 20 4 0 0 7) 21 5 0 0 7) 1 5 ((cpy (cpy (cpy (cpy (wr M 1 0 (M 17 0)) 18 2 0 0 7) 19 3 0 0 7) 20 4 0 0 7) 21 5 0 0 7) 17 5)) 17 6)) 1 7 ((wr (wr (cpy (cpy (cpy (cpy (wr M 1 0 (M 17 0)) 18 2 0 0 7) 19 3 0 0 7) 20 4 0 0 7) 21 5 0 0 7) 1 5 ((cpy (cpy (cpy (cpy (wr M 1 0 (M 17 0)) 18 2 0 0 7) 19 3 0 0 7) 20 4 0 0 7) 21 5 0 0 7) 17 5)) 1 6 ((wr (cpy (cpy (cpy (cpy (wr M 1 0 (M 17 0)) 18 2 0 0 7) 19 3 0 0 7) 20 4 0 0 7) 21 5 0 0 7) 1 5 ((cpy (cpy (cpy (cpy (wr M 1 0 (M 17 0)) 18 2 0 0 7) 19 3 0 0 7) 20 4 0 0 7) 21 5 0 0 7) 17 5)) 17 6)) 17 7)) 1 8 ((wr (wr (wr (cpy (cpy (cpy (cpy (wr M 1 0 (M 17 0)) 18 2 0 0 7) 19 3 0 0 7) 20 4 0 0 7) 21 5 0 0 7) 1 5 ((cpy (cpy (cpy (cpy (wr M 1 0 (M 17 0)) 18 2 0 0 7) 19 3 0 0 7) 20 4 0 0 7) 21 5 0 0 7) 17 5)) 1 6 ((wr (cpy (cpy (cpy (cpy (wr M 1 0 (M 17 0)) 18 2 0 0 7) 19 3 0 0 7) 20 4 0 0 7) 21 5 0 0 7) 1 5 ((cpy (cpy (cpy (cpy (wr M 1 0 (M 17 0)) 18 2 0 0 7) 19 3 0 0 7) 20 4 0 0 7) 21 5 0 0 7) 17 5)) 17 6)) 1 7 ((wr (wr (cpy (cpy (cpy (cpy (wr M 1 0 (M 17 0)) 18 2 0 0 7) 19 3 0 0 7) 20 4 0 0 7) 21 5 0 0 7) 1 5 ((cpy (cpy (cpy (cpy (wr M 1 0 (M 17 0)) 18 2 0 0 7) 19 3 0 0 7) 20 4 0 0 7) 21 5 0 0 7) 17 5)) 1 6 ((wr (cpy (cpy (cpy (cpy (wr M 1 0 (M 17 0)) 18 2 0 0 7) 19 3 0 0 7) 20 4 0 0 7) 21 5 0 0 7) 1 5 ((cpy (cpy (cpy (cpy (wr M 1 0 (M 17 0)) 18 2 0 0 7) 19 3 0 0 7) 20 4 0 0 7) 21 5 0 0 7) 17 5)) 17 6)) 17 7)) 17 8)) 1 9 ((wr (wr (wr (wr (cpy (cpy (cpy (cpy (wr M 1 0 (M 17 0)) 18 2 0 0 7) 19 3 0 0 7) 20 4 0 0 7) 21 5 0 0 7) 1 5 ((cpy (cpy (cpy (cpy (wr M 1 0 (M 17 0)) 18 2 0 0 7) 19 3 0 0 7) 20 4 0 0 7) 21 5 0 0 7) 17 5)) 1 6 ((wr (cpy (cpy (cpy (cpy (wr M 1 0 (M 17 0)) 18 2 0 0 7) 19 3 0 0 7) 20 4 0 0 7) 21 5 0 0 7) 1 5 ((cpy (cpy (cpy (cpy (wr M 1 0 (M 17 0)) 18 2 0 0 7) 19 3 0 0 7) 20 4 0 0 7) 21 5 0 0 7) 17 5)) 17 6)) 1 7 ((wr (wr (cpy (cpy (cpy (cpy (wr M 1 0 (M 17 0)) 18 2 0 0 7) 19 3 0 0 7) 20 4 0 0 7) 21 5 0 0 7) 1 5 ((cpy (cpy (cpy (cpy (wr M 1 0 (M 17 0)) 18 2 0 0 7) 19 3 0 0 7) 20 4 0 0 7) 21 5 0 0 7) 17 5)) 1 6 ((wr (cpy (cpy (cpy (cpy (wr M 1 0 (M 17 0)) 18 2 0 0 7) 19 3 0 0 7) 20 4 0 0 7) 21 5 0 0 7) 1 5 ((cpy (cpy (cpy (cpy (wr M 1 0 (M 17 0)) 18 2 0 0 7) 19 3 0 0 7) 20 4 0 0 7) 21 5 0 0 7) 17 5)) 17 6)) 17 7)) 1 8 ((wr (wr (wr (cpy (cpy (cpy (cpy (wr M 1 0 (M 17 0)) 18 2 0 0 7) 19 3 0 0 7) 20 4 0 0 7) 21 5 0 0 7) 1 5 ((cpy (cpy (cpy (cpy (wr M 1 0 (M 17 0)) 18 2 0 0 7) 19 3 0 0 7) 20 4 0 0 7) 21 5 0 0 7) 17 5)) 1 6 ((wr (cpy (cpy (cpy (cpy (wr M 1 0 (M 17 0)) 18 2 0 0 7) 19 3 0 0 7) 20 4 0 0 7) 21 5 0 0 7) 1 5 ((cpy (cpy (cpy (cpy (wr M 1 0 (M 17 0)) 18 2 0 0 7) 19 3 0 0 7) 20 4 0 0 7) 21 5 0 0 7) 17 5)) 17 6)) 1 7 ((wr (wr (cpy (cpy (cpy (cpy (wr M 1 0 (M 17 0)) 18 2 0 0 7) 19 3 0 0 7) 20 4 0 0 7) 21 5 0 0 7) 1 5 ((cpy (cpy (cpy (cpy (wr M 1 0 (M 17 0)) 18 2 0 0 7) 19 3 0 0 7) 20 4 0 0 7) 21 5 0 0 7) 17 5)) 1 6 ((wr (cpy (cpy (cpy (cpy (wr M 1 0 (M 17 0)) 18 2 0 0 7) 19 3 0 0 7) 20 4 0 0 7) 21 5 0 0 7) 1 5 ((cpy (cpy (cpy (cpy (wr M 1 0 (M 17 0)) 18 2 0 0 7) 19 3 0 0 7) 20 4 0 0 7) 21 5 0 0 7) 17 5)) 17 6)) 17 7)) 17 8)) 17 9)) 17 10)) 17 11)) 22 6 0 0 6) 23 7 0 0 6)) fun r7 M9 => (some (0, M9)))))))))
def fX11_again (M : mM) : Option (Int32 × mM) :=
  (if (M 0 2) = 0 then (some ((-3), M)) else (b2 (fX4_copyFrom_q1_q17 M) fun r1 M3 => (b2 (fX11_forgetSums M3) fun r4 M6 => (some ((M6 1 0), M6)))))
def fX12_in (p0 : Int64) (p2 : Int64) (p4 : Int64) : Int32 :=
  (if (lcmp p0 p2) < 0 then 0 else (if 0 < (lcmp p0 p4) then 0 else 1))
def fX12_isKind (p0 : Int32) : Int32 :=
  (fX12_in (Int32.toInt64 p0) 1 5)
def fX12_isHour (p0 : Int32) : Int32 :=
  (fX12_in (Int32.toInt64 p0) 0 23)
def fX12_mayBe (p0 : Int32) (p1 : Int32) : Int32 :=
  (if p0 = 1 then (fX12_isHour p1) else (if p0 = 2 then (fX12_in (Int32.toInt64 p1) 1 9) else (if p0 = 3 then (if (fX12_in (Int32.toInt64 p1) 0 99) = 0 then 0 else 1) else 0)))
def fX12_sets (M : mM) (p1 : Int32) (p2 : Int32) (p3 : Int32) : Option (Int32 × mM) :=
  (gd (ix ((8 + (5 * p1)) + p2) 295) (some (0, wr M 1 (Int32.toNatClampNeg ((8 + (5 * p1)) + p2)) p3)))
def fX12_voter (M : mM) (p1 : Int32) (p2 : Int32) (p3 : Int32) (p4 : Int32) : Option (Int32 × mM) :=
  (if (fX12_isKind p1) = 0 then (some ((-1), M)) else (if (fX12_mayBe 1 p2) = 0 then (some ((-1), M)) else (if (fX12_mayBe 2 p3) = 0 then (some ((-1), M)) else (if (fX12_mayBe 3 p4) = 0 then (some ((-1), M)) else (gd (ix 0 295) (if (M 1 (Int32.toNatClampNeg 0)) = 7 then (some ((-2), M)) else (gd (ix 0 295) (gd (ix 0 295) (gd (ix 0 295) (b2 (fX12_sets (wr M 1 (Int32.toNatClampNeg 0) ((M 1 (Int32.toNatClampNeg 0)) + 1)) (M 1 (Int32.toNatClampNeg 0)) 0 p1) fun r9 M11 => (b2 (fX12_sets M11 (M 1 (Int32.toNatClampNeg 0)) 1 p2) fun r12 M14 => (b2 (fX12_sets M14 (M 1 (Int32.toNatClampNeg 0)) 2 p3) fun r15 M17 => (b2 (fX12_sets M17 (M 1 (Int32.toNatClampNeg 0)) 3 p4) fun r18 M20 => (b2 (fX12_sets M20 (M 1 (Int32.toNatClampNeg 0)) 4 1) fun r21 M23 => (some ((M 1 (Int32.toNatClampNeg 0)), M23))))))))))))))))
def fX12_isVoter (M : mM) (p1 : Int32) : Option Int32 :=
  (gd (ix 0 295) (some (fX12_in (Int32.toInt64 p1) 0 (Int32.toInt64 ((M 1 (Int32.toNatClampNeg 0)) - 1)))))
def fX12_its (M : mM) (p1 : Int32) (p2 : Int32) : Option Int32 :=
  (gd (ix ((8 + (5 * p1)) + p2) 295) (some (M 1 (Int32.toNatClampNeg ((8 + (5 * p1)) + p2)))))
def fX12_isUnder_L19 (M : mM) (x0 : Int32) (x1 : Int32) : Int32 :=
  (if x0 = 5 then (if x1 = 4 then 1 else 0) else 0)
def fX12_isUnder (M : mM) (p0 : Int32) (p1 : Int32) : Int32 :=
  (if p1 = 0 then 1 else (if p0 = p1 then 1 else (if p0 = 3 then (if p1 = 2 then 1 else (fX12_isUnder_L19 M p0 p1)) else (fX12_isUnder_L19 M p0 p1))))
def fX12_isSo (p0 : Int32) (p1 : Int32) (p2 : Int32) : Int32 :=
  (if p0 = (-15) then (if (p1 + p2) = 2 then 1 else 0) else (if p0 = (-14) then (if (p1 + p2) ≤ 0 then 0 else 1) else (if p0 = (-13) then (if p1 ≤ p2 then 0 else 1) else (if p0 = (-12) then (if p1 = p2 then 1 else 0) else (if p0 = (-11) then (if p2 ≤ p1 then 0 else 1) else (if (p1 + p2) ≤ 0 then 0 else 1))))))
def fX12_awake_L4_b (k4 : mM → Int32 → Int32 → Option Int32) (M : mM) (x1 : Int32) (x2 : Int32) : Option Int32 :=
  (gd (ix 0 295) (if (M 1 (Int32.toNatClampNeg 0)) ≤ x2 then (some x1) else (b1 (fX12_its M x2 4) fun r2 => (k4 M (x1 + r2) (x2 + 1)))))
def fX12_awake_L4 : Nat → mM → Int32 → Int32 → Option Int32
  | 0 => fun _ _ _ => none
  | n + 1 => fX12_awake_L4_b (fX12_awake_L4 n)
def fX12_awake (M : mM) : Option Int32 :=
  (fX12_awake_L4 5000 M 0 0)
def fX12_fact (M : mM) (p1 : Int32) (p2 : Int32) : Option Int32 :=
  (if p1 = 0 then (gd (ix 1 295) (some (M 1 (Int32.toNatClampNeg 1)))) else (if p1 = 1 then (b1 (fX12_its M p2 1) fun r3 => (some r3)) else (if p1 = 2 then (b1 (fX12_its M p2 2) fun r6 => (some r6)) else (if p1 = 3 then (b1 (fX12_awake M) fun r9 => (some r9)) else (some p2)))))
def fX12_holds_L6_b (k4 : mM → Int32 → Int32 → Int32 → Int32 → Option (Int32 × mM)) (M : mM) (x2 : Int32) (x3 : Int32) (x4 : Int32) (x5 : Int32) : Option (Int32 × mM) :=
  (if x2 ≤ x5 then (if x4 = 0 then (some (1, M)) else (gd (ix 0 200) (if (M 3 (Int32.toNatClampNeg 0)) = 1 then (some (1, M)) else (some (0, M))))) else (gd (ix (95 + x5) 295) (if (M 1 (Int32.toNatClampNeg (95 + x5))) ≤ (-11) then (if (M 1 (Int32.toNatClampNeg (95 + x5))) = (-14) then (gd (ix (x4 - 1) 200) (gd (ix (x4 - 1) 200) (k4 (wr M 3 (Int32.toNatClampNeg (x4 - 1)) (1 - (M 3 (Int32.toNatClampNeg (x4 - 1))))) x2 x3 x4 (x5 + 1)))) else (gd (ix ((x4 + (-1)) - 1) 200) (gd (ix (x4 + (-1)) 200) (if (fX12_isSo (M 1 (Int32.toNatClampNeg (95 + x5))) (M 3 (Int32.toNatClampNeg ((x4 + (-1)) - 1))) (M 3 (Int32.toNatClampNeg (x4 + (-1))))) = 0 then (gd (ix ((x4 + (-1)) - 1) 200) (k4 (wr M 3 (Int32.toNatClampNeg ((x4 + (-1)) - 1)) 0) x2 x3 (x4 + (-1)) (x5 + 1))) else (gd (ix ((x4 + (-1)) - 1) 200) (k4 (wr M 3 (Int32.toNatClampNeg ((x4 + (-1)) - 1)) 1) x2 x3 (x4 + (-1)) (x5 + 1))))))) else (if (M 1 (Int32.toNatClampNeg (95 + x5))) < 0 then (b1 (fX12_fact M ((-1) - (M 1 (Int32.toNatClampNeg (95 + x5)))) x3) fun r14 => (gd (ix x4 200) (k4 (wr M 3 (Int32.toNatClampNeg x4) r14) x2 x3 (x4 + 1) (x5 + 1)))) else (gd (ix x4 200) (k4 (wr M 3 (Int32.toNatClampNeg x4) (M 1 (Int32.toNatClampNeg (95 + x5)))) x2 x3 (x4 + 1) (x5 + 1)))))))
def fX12_holds_L6 : Nat → mM → Int32 → Int32 → Int32 → Int32 → Option (Int32 × mM)
  | 0 => fun _ _ _ _ _ => none
  | n + 1 => fX12_holds_L6_b (fX12_holds_L6 n)
def fX12_holds (M : mM) (p1 : Int32) (p2 : Int32) (p3 : Int32) : Option (Int32 × mM) :=
  (fX12_holds_L6 5000 M p2 p3 0 p1)
def fX12_weighs_L9_b (k7 : mM → Int32 → Int32 → Int32 → Option (Int32 × mM)) (M : mM) (x1 : Int32) (x2 : Int32) (x3 : Int32) : Option (Int32 × mM) :=
  (gd (ix 7 295) (if (M 1 (Int32.toNatClampNeg 7)) ≤ x3 then (some (x2, M)) else (b1 (fX12_its M x1 0) fun r4 => (gd (ix (55 + (5 * x3)) 295) (if (fX12_isUnder M r4 (M 1 (Int32.toNatClampNeg (55 + (5 * x3))))) = 0 then (k7 M x1 x2 (x3 + 1)) else (gd (ix ((55 + (5 * x3)) + 3) 295) (gd (ix ((55 + (5 * x3)) + 4) 295) (b2 (fX12_holds M (M 1 (Int32.toNatClampNeg ((55 + (5 * x3)) + 3))) (M 1 (Int32.toNatClampNeg ((55 + (5 * x3)) + 4))) x1) fun r10 M12 => (if r10 = 0 then (k7 M12 x1 x2 (x3 + 1)) else (gd (ix ((55 + (5 * x3)) + 1) 295) (if (M12 1 (Int32.toNatClampNeg ((55 + (5 * x3)) + 1))) = 0 then (gd (ix ((55 + (5 * x3)) + 2) 295) (some ((x2 + (M12 1 (Int32.toNatClampNeg ((55 + (5 * x3)) + 2)))), M12))) else (gd (ix ((55 + (5 * x3)) + 1) 295) (if (M12 1 (Int32.toNatClampNeg ((55 + (5 * x3)) + 1))) = 1 then (gd (ix ((55 + (5 * x3)) + 2) 295) (some ((jmax 0 (x2 - (M12 1 (Int32.toNatClampNeg ((55 + (5 * x3)) + 2))))), M12))) else (some (0, M12)))))))))))))))
def fX12_weighs_L9 : Nat → mM → Int32 → Int32 → Int32 → Option (Int32 × mM)
  | 0 => fun _ _ _ _ => none
  | n + 1 => fX12_weighs_L9_b (fX12_weighs_L9 n)
def fX12_weighs (M : mM) (p1 : Int32) : Option (Int32 × mM) :=
  (b1 (fX12_its M p1 2) fun r1 => (fX12_weighs_L9 5000 M p1 r1 0))
def fX12_powerOf_L24 (M : mM) (x1 : Int32) (x2 : Int32) (t0 : Int32) : Option (Int32 × mM) :=
  (b1 (fX12_its M x1 0) fun r6 => (if r6 = 2 then (some (t0, M)) else (if r6 = 3 then (some ((3 * t0), M)) else (if r6 = 4 then (some ((x2 / 2), M)) else (if r6 = 5 then (gd (ix 1 295) (if 6 ≤ (M 1 (Int32.toNatClampNeg 1)) then (some ((x2 / 2), M)) else (some (0, M)))) else (some (x2, M)))))))
def fX12_powerOf (M : mM) (p1 : Int32) : Option (Int32 × mM) :=
  (b2 (fX12_weighs M p1) fun r1 M3 => (gd (ix 1 295) (if 12 ≤ (M3 1 (Int32.toNatClampNeg 1)) then (fX12_powerOf_L24 M3 p1 r1 (r1 + 2)) else (fX12_powerOf_L24 M3 p1 r1 r1))))
def fX12_around (p0 : Int32) : Int32 :=
  (irem ((irem p0 24) + 24) 24)
def fX12_voteOf (M : mM) (p1 : Int32) : Option Int32 :=
  (b1 (fX12_its M p1 1) fun r1 => (gd (ix 1 295) (if (fX12_around (r1 - (M 1 (Int32.toNatClampNeg 1)))) = 0 then (some 0) else (if 12 < (fX12_around (r1 - (M 1 (Int32.toNatClampNeg 1)))) then (some (-1)) else (some 1)))))
def fX12_voterOf (M : mM) (p1 : Int32) (p2 : Int32) : Option (Int32 × mM) :=
  (b1 (fX12_isVoter M p1) fun r1 => (if r1 = 0 then (some ((-1), M)) else (if (fX12_in (Int32.toInt64 p2) 0 6) = 0 then (some ((-1), M)) else (if 5 ≤ p2 then (if p2 = 5 then (b1 (fX12_voteOf M p1) fun r8 => (some ((r8 + 1), M))) else (b2 (fX12_powerOf M p1) fun r5 M7 => (some (r5, M7)))) else (b1 (fX12_its M p1 p2) fun r11 => (some (r11, M)))))))
def fX12_becomes (M : mM) (p1 : Int32) (p2 : Int32) : Option (Int32 × mM) :=
  (gd (ix p1 295) (gd (ix p1 295) (some ((M 1 (Int32.toNatClampNeg p1)), wr M 1 (Int32.toNatClampNeg p1) p2))))
def fX12_change (M : mM) (p1 : Int32) (p2 : Int32) (p3 : Int32) : Option (Int32 × mM) :=
  (b1 (fX12_isVoter M p1) fun r1 => (if r1 = 0 then (some ((-1), M)) else (if (fX12_mayBe p2 p3) = 0 then (some ((-1), M)) else (b2 (fX12_becomes M ((8 + (5 * p1)) + p2) p3) fun r5 M7 => (some (r5, M7))))))
def fX12_remake (M : mM) (p1 : Int32) (p2 : Int32) : Option (Int32 × mM) :=
  (b1 (fX12_isVoter M p1) fun r1 => (if r1 = 0 then (some ((-1), M)) else (if (fX12_isKind p2) = 0 then (some ((-1), M)) else (b2 (fX12_becomes M (8 + (5 * p1)) p2) fun r5 M7 => (some (r5, M7))))))
def fX12_wakes (M : mM) (p1 : Int32) (p2 : Int32) : Option (Int32 × mM) :=
  (b1 (fX12_isVoter M p1) fun r1 => (if r1 = 0 then (some ((-1), M)) else (if p2 = 0 then (b2 (fX12_becomes M ((8 + (5 * p1)) + 4) 0) fun r4 M6 => (some (r4, M6))) else (b2 (fX12_becomes M ((8 + (5 * p1)) + 4) 1) fun r7 M9 => (some (r7, M9))))))
def fX12_clock (M : mM) (p1 : Int32) : Option (Int32 × mM) :=
  (if (fX12_isHour p1) = 0 then (some ((-1), M)) else (b2 (fX12_becomes M 1 p1) fun r2 M4 => (some (r2, M4))))
def fX12_limit (M : mM) (p1 : Int32) : Option (Int32 × mM) :=
  (if (fX12_in (Int32.toInt64 p1) 0 99) = 0 then (some ((-1), M)) else (b2 (fX12_becomes M 3 p1) fun r2 M4 => (some (r2, M4))))
def fX12_awakeSet_L4_b (k4 : mM → Int32 → Int32 → Option Int32) (M : mM) (x1 : Int32) (x2 : Int32) : Option Int32 :=
  (gd (ix 0 295) (if (M 1 (Int32.toNatClampNeg 0)) ≤ x2 then (some x1) else (b1 (fX12_its M x2 4) fun r2 => (k4 M (x1 ||| (r2 <<< (x2 &&& 31))) (x2 + 1)))))
def fX12_awakeSet_L4 : Nat → mM → Int32 → Int32 → Option Int32
  | 0 => fun _ _ _ => none
  | n + 1 => fX12_awakeSet_L4_b (fX12_awakeSet_L4 n)
def fX12_awakeSet (M : mM) : Option Int32 :=
  (fX12_awakeSet_L4 5000 M 0 0)
def fX12_state (M : mM) (p1 : Int32) : Option Int32 :=
  (if p1 = 0 then (gd (ix 1 295) (some (M 1 (Int32.toNatClampNeg 1)))) else (if p1 = 1 then (gd (ix 2 295) (some (M 1 (Int32.toNatClampNeg 2)))) else (if p1 = 2 then (gd (ix 3 295) (some (M 1 (Int32.toNatClampNeg 3)))) else (if p1 = 3 then (b1 (fX12_awakeSet M) fun r7 => (some r7)) else (if p1 = 4 then (gd (ix 4 295) (some (M 1 (Int32.toNatClampNeg 4)))) else (some (-1)))))))
def fX12_feed_L32_b (k18 : mM → Int64 → Int32 → Int32 → Option (Int32 × mM)) (M : mM) (x1 : Int64) (x3 : Int32) (x4 : Int32) : Option (Int32 × mM) :=
  (if x3 ≤ x4 then (some ((M 0 5), M)) else (gd (ix (M 0 5) 200) (k18 (wr (wr M 4 (Int32.toNatClampNeg (M 0 5)) (Int64.toInt32 ((x1 >>> (Int32.toInt64 (8 * x4) &&& 63)) &&& 255))) 0 5 (((wr M 4 (Int32.toNatClampNeg (M 0 5)) (Int64.toInt32 ((x1 >>> (Int32.toInt64 (8 * x4) &&& 63)) &&& 255))) 0 5) + 1)) x1 x3 (x4 + 1))))
def fX12_feed_L32 : Nat → mM → Int64 → Int32 → Int32 → Option (Int32 × mM)
  | 0 => fun _ _ _ _ => none
  | n + 1 => fX12_feed_L32_b (fX12_feed_L32 n)
def fX12_feed (M : mM) (p1 : Int64) (p3 : Int32) : Option (Int32 × mM) :=
  (if (fX12_in (Int32.toInt64 p3) 1 8) = 0 then (some ((-1), M)) else (if ((M 0 5) + p3) ≤ 200 then (fX12_feed_L32 5000 M p1 p3 0) else (some ((-2), M))))
def fX12_isByte (M : mM) (p1 : Int32) (p2 : Int32) (p3 : Int32) : Option Int32 :=
  (if (M 0 5) ≤ p1 then (some 0) else (gd (ix p1 200) (if (fX12_in (Int32.toInt64 (M 4 (Int32.toNatClampNeg p1))) (Int32.toInt64 p2) (Int32.toInt64 p3)) = 0 then (some 0) else (some 1))))
def fX12_next_L121 (M : mM) (x1 : Int32) (x2 : Int32) : Option (Int32 × mM) :=
  (if x1 = 0 then (if x2 = 0 then (if (M 0 5) ≤ (M 0 8) then (some (0, wr M 0 9 ((M 0 9) + 0))) else (some (0, wr M 0 9 ((M 0 9) + 1)))) else (some (0, wr M 0 9 ((M 0 9) + 0)))) else (some (0, wr M 0 9 ((M 0 9) + 0))))
def fX12_next_L89 (k36 : mM → Int32 → Int32 → Option (Int32 × mM)) (M : mM) (x1 : Int32) (x2 : Int32) : Option (Int32 × mM) :=
  (if x2 = 0 then (fX12_next_L121 M x1 x2) else (b1 (fX12_isByte M (M 0 9) 48 57) fun r16 => (if r16 = 0 then (fX12_next_L121 M x1 x2) else (k36 (wr M 0 9 ((M 0 9) + 1)) x1 x2))))
def fX12_next_L70_b (k36 : mM → Int32 → Int32 → Option (Int32 × mM)) (M : mM) (x1 : Int32) (x2 : Int32) : Option (Int32 × mM) :=
  (if x1 = 0 then (fX12_next_L89 k36 M x1 x2) else (b1 (fX12_isByte M (M 0 9) 97 122) fun r11 => (if r11 = 0 then (fX12_next_L89 k36 M x1 x2) else (k36 (wr M 0 9 ((M 0 9) + 1)) x1 x2))))
def fX12_next_L70 : Nat → mM → Int32 → Int32 → Option (Int32 × mM)
  | 0 => fun _ _ _ => none
  | n + 1 => fX12_next_L70_b (fX12_next_L70 n)
def fX12_next_L8_b (k4 : mM → Option (Int32 × mM)) (M : mM) : Option (Int32 × mM) :=
  (b1 (fX12_isByte M (M 0 8) 32 32) fun r1 => (if r1 = 0 then (b1 (fX12_isByte (wr M 0 9 (M 0 8)) ((wr M 0 9 (M 0 8)) 0 8) 97 122) fun r4 => (b1 (fX12_isByte (wr M 0 9 (M 0 8)) ((wr M 0 9 (M 0 8)) 0 8) 48 57) fun r7 => (fX12_next_L70 5000 (wr M 0 9 (M 0 8)) r4 r7))) else (k4 (wr M 0 8 ((M 0 8) + 1)))))
def fX12_next_L8 : Nat → mM → Option (Int32 × mM)
  | 0 => fun _ => none
  | n + 1 => fX12_next_L8_b (fX12_next_L8 n)
def fX12_next (M : mM) : Option (Int32 × mM) :=
  (fX12_next_L8 5000 (wr M 0 8 (M 0 9)))
def fX12_isWord_L31_b (k17 : mM → Nat → Int32 → Int32 → Option Int32) (M : mM) (x1 : Nat) (x2 : Int32) (x3 : Int32) : Option Int32 :=
  (if x2 = 0 then (gd (isB x2) (some x2)) else (gd (sok x1) (if (slen x1) ≤ x3 then (gd (isB x2) (some x2)) else (gd (ix ((M 0 8) + x3) 200) (gd (sok x1) (gd (ix x3 (lenL.getD x1 0)) (if (M 4 (Int32.toNatClampNeg ((M 0 8) + x3))) = (sch x1 x3) then (k17 M x1 1 (x3 + 1)) else (k17 M x1 0 (x3 + 1)))))))))
def fX12_isWord_L31 : Nat → mM → Nat → Int32 → Int32 → Option Int32
  | 0 => fun _ _ _ _ => none
  | n + 1 => fX12_isWord_L31_b (fX12_isWord_L31 n)
def fX12_isWord_L28 (M : mM) (x1 : Nat) (t0 : Int32) : Option Int32 :=
  (fX12_isWord_L31 5000 M x1 t0 0)
def fX12_isWord_L27 (M : mM) (x1 : Nat) : Option Int32 :=
  (fX12_isWord_L28 M x1 0)
def fX12_isWord (M : mM) (p1 : Nat) : Option Int32 :=
  (if (M 0 11) = 0 then (gd (sok p1) (if ((M 0 9) - (M 0 8)) = (slen p1) then (fX12_isWord_L28 M p1 1) else (fX12_isWord_L27 M p1))) else (fX12_isWord_L27 M p1))
def fX12_kindHere_L40 (M : mM) (t0 : Int32) : Option Int32 :=
  (if t0 < 0 then (b1 (fX12_isWord M 3) fun r13 => (if r13 = 0 then (b1 (fX12_isWord M 4) fun r16 => (if r16 = 0 then (b1 (fX12_isWord M 5) fun r19 => (if r19 = 0 then (some (-1)) else (some 5))) else (some 4))) else (some 3))) else (some t0))
def fX12_kindHere (M : mM) : Option Int32 :=
  (b1 (fX12_isWord M 0) fun r1 => (if r1 = 0 then (b1 (fX12_isWord M 1) fun r4 => (if r4 = 0 then (b1 (fX12_isWord M 2) fun r7 => (if r7 = 0 then (fX12_kindHere_L40 M (-1)) else (fX12_kindHere_L40 M 2))) else (fX12_kindHere_L40 M 1))) else (fX12_kindHere_L40 M 0)))
def fX12_takes (M : mM) (p1 : Nat) : Option (Int32 × mM) :=
  (b1 (fX12_isWord M p1) fun r1 => (if r1 = 0 then (some (r1, M)) else (b2 (fX12_next M) fun r4 M6 => (some (r1, M6)))))
def fX12_factHere_L40 (M : mM) (t0 : Int32) : Option Int32 :=
  (if t0 < 0 then (b1 (fX12_isWord M 9) fun r13 => (if r13 = 0 then (b1 (fX12_isWord M 10) fun r16 => (if r16 = 0 then (some (-1)) else (some 4))) else (some 3))) else (some t0))
def fX12_factHere (M : mM) : Option Int32 :=
  (b1 (fX12_isWord M 6) fun r1 => (if r1 = 0 then (b1 (fX12_isWord M 7) fun r4 => (if r4 = 0 then (b1 (fX12_isWord M 8) fun r7 => (if r7 = 0 then (fX12_factHere_L40 M (-1)) else (fX12_factHere_L40 M 2))) else (fX12_factHere_L40 M 1))) else (fX12_factHere_L40 M 0)))
def fX12_numberHere_L39_b (k21 : mM → Int32 → Int32 → Option Int32) (M : mM) (x1 : Int32) (x2 : Int32) : Option Int32 :=
  (if (M 0 9) ≤ x2 then (some x1) else (if x1 < 0 then (some x1) else (gd (ix x2 200) (k21 M (((10 * x1) + (M 4 (Int32.toNatClampNeg x2))) - 48) (x2 + 1)))))
def fX12_numberHere_L39 : Nat → mM → Int32 → Int32 → Option Int32
  | 0 => fun _ _ _ => none
  | n + 1 => fX12_numberHere_L39_b (fX12_numberHere_L39 n)
def fX12_numberHere_L33 (M : mM) (t0 : Int32) : Option Int32 :=
  (fX12_numberHere_L39 5000 M t0 (M 0 8))
def fX12_numberHere_L32 (M : mM) : Option Int32 :=
  (fX12_numberHere_L33 M (-1))
def fX12_numberHere (M : mM) : Option Int32 :=
  (b1 (fX12_isByte M (M 0 8) 48 57) fun r1 => (if r1 = 0 then (fX12_numberHere_L32 M) else (if 4 < ((M 0 9) - (M 0 8)) then (fX12_numberHere_L32 M) else (fX12_numberHere_L33 M 0))))
def fX12_number_L29 (M : mM) (x2 : Int32) (t1 : Int32) : Option (Int32 × mM) :=
  (gd (isB t1) (if ((wr M 0 11 t1) 0 11) = 0 then (b2 (fX12_next (wr M 0 11 t1)) fun r7 M9 => (some (x2, M9))) else (some (x2, wr M 0 11 t1))))
def fX12_number_L24 (M : mM) (x2 : Int32) : Option (Int32 × mM) :=
  (fX12_number_L29 M x2 1)
def fX12_number (M : mM) (p1 : Int32) : Option (Int32 × mM) :=
  (b1 (fX12_numberHere M) fun r1 => (if (M 0 11) = 0 then (if (fX12_in (Int32.toInt64 r1) 0 (Int32.toInt64 p1)) = 0 then (fX12_number_L24 M r1) else (fX12_number_L29 M r1 0)) else (fX12_number_L24 M r1)))
def fX12_puts (M : mM) (p1 : Int32) : Option (Int32 × mM) :=
  (if (M 0 11) = 0 then (gd (ix (95 + (M 0 7)) 295) (some (0, wr (wr M 5 (Int32.toNatClampNeg (95 + (M 0 7))) p1) 0 7 (((wr M 5 (Int32.toNatClampNeg (95 + (M 0 7))) p1) 0 7) + 1)))) else (some (0, M)))
def fX12_value (M : mM) : Option (Int32 × mM) :=
  (b1 (fX12_factHere M) fun r1 => (if r1 < 0 then (b2 (fX12_number M 9999) fun r3 M5 => (b2 (fX12_puts M5 r3) fun r6 M8 => (some (0, M8)))) else (b2 (fX12_next M) fun r9 M11 => (b2 (fX12_puts M11 ((-1) - r1)) fun r12 M14 => (some (0, M14))))))
def fX12_test_L63 (M : mM) (x1 : Int32) (t1 : Int32) : Option (Int32 × mM) :=
  (gd (isB t1) (if ((wr M 0 11 t1) 0 11) = 0 then (b2 (fX12_next (wr M 0 11 t1)) fun r25 M27 => (b2 (fX12_value M27) fun r28 M30 => (b2 (fX12_puts M30 x1) fun r31 M33 => (some (0, M33))))) else (b2 (fX12_value (wr M 0 11 t1)) fun r19 M21 => (b2 (fX12_puts M21 x1) fun r22 M24 => (some (0, M24))))))
def fX12_test_L62 (M : mM) (x1 : Int32) : Option (Int32 × mM) :=
  (fX12_test_L63 M x1 0)
def fX12_test_L58 (M : mM) (x1 : Int32) : Option (Int32 × mM) :=
  (fX12_test_L63 M x1 1)
def fX12_test_L34 (M : mM) (t0 : Int32) : Option (Int32 × mM) :=
  (if (M 0 11) = 0 then (if t0 = (-13) then (b1 (fX12_isWord M 22) fun r12 => (if r12 = 0 then (fX12_test_L58 M t0) else (fX12_test_L62 M t0))) else (fX12_test_L62 M t0)) else (fX12_test_L58 M t0))
def fX12_test (M : mM) : Option (Int32 × mM) :=
  (b2 (fX12_value M) fun r1 M3 => (b1 (fX12_isWord M3 20) fun r4 => (if r4 = 0 then (b1 (fX12_isWord M3 21) fun r7 => (if r7 = 0 then (fX12_test_L34 M3 (-13)) else (fX12_test_L34 M3 (-12)))) else (fX12_test_L34 M3 (-11)))))
def fX12_wants_L16 (M : mM) : Option (Int32 × mM) :=
  (if ((wr M 0 11 1) 0 11) = 0 then (b2 (fX12_next (wr M 0 11 1)) fun r10 M12 => (some (0, M12))) else (some (0, wr M 0 11 1)))
def fX12_wants (M : mM) (p1 : Nat) : Option (Int32 × mM) :=
  (if (M 0 11) = 0 then (b1 (fX12_isWord M p1) fun r1 => (if r1 = 0 then (fX12_wants_L16 M) else (if ((wr M 0 11 0) 0 11) = 0 then (b2 (fX12_next (wr M 0 11 0)) fun r4 M6 => (some (0, M6))) else (some (0, wr M 0 11 0))))) else (fX12_wants_L16 M))
def fX12_within_L35 (rec : mM → Option (Int32 × mM)) (M : mM) : Option (Int32 × mM) :=
  (b2 (rec (wr M 0 10 ((M 0 10) + 1))) fun r8 M10 => (b2 (fX12_wants (wr M10 0 10 ((M10 0 10) - 1)) 19) fun r11 M13 => (some (0, M13))))
def fX12_within_L21 (rec : mM → Option (Int32 × mM)) (M : mM) (t1 : Int32) : Option (Int32 × mM) :=
  (gd (isB t1) (if ((wr M 0 11 t1) 0 11) = 0 then (b2 (fX12_next (wr M 0 11 t1)) fun r4 M6 => (fX12_within_L35 rec M6)) else (fX12_within_L35 rec (wr M 0 11 t1))))
def fX12_within_L16 (rec : mM → Option (Int32 × mM)) (M : mM) : Option (Int32 × mM) :=
  (fX12_within_L21 rec M 1)
def fX12_within (rec : mM → Option (Int32 × mM)) (M : mM) : Option (Int32 × mM) :=
  (if (M 0 11) = 0 then (if (M 0 10) = 3 then (fX12_within_L16 rec M) else (fX12_within_L21 rec M 0)) else (fX12_within_L16 rec M))
def fX12_one_L37 (rec : mM → Option (Int32 × mM)) (M : mM) (x1 : Int32) : Option (Int32 × mM) :=
  (if (irem x1 2) = 1 then (b2 (fX12_puts M (-14)) fun r16 M18 => (some (0, M18))) else (some (0, M)))
def fX12_one_L2_b (rec : mM → Option (Int32 × mM)) (k2 : mM → Int32 → Option (Int32 × mM)) (M : mM) (x1 : Int32) : Option (Int32 × mM) :=
  (b2 (fX12_takes M 14) fun r1 M3 => (if r1 = 0 then (b1 (fX12_isWord M3 18) fun r5 => (if r5 = 0 then (b2 (fX12_test M3) fun r8 M10 => (fX12_one_L37 rec M10 x1)) else (b2 (fX12_within rec M3) fun r11 M13 => (fX12_one_L37 rec M13 x1)))) else (k2 M3 (x1 + 1))))
def fX12_one_L2 (rec : mM → Option (Int32 × mM)) : Nat → mM → Int32 → Option (Int32 × mM)
  | 0 => fun _ _ => none
  | n + 1 => fX12_one_L2_b rec (fX12_one_L2 rec n)
def fX12_one (rec : mM → Option (Int32 × mM)) (M : mM) : Option (Int32 × mM) :=
  (fX12_one_L2 rec 5000 M 0)
def fX12_all_L4_b (rec : mM → Option (Int32 × mM)) (k2 : mM → Option (Int32 × mM)) (M : mM) : Option (Int32 × mM) :=
  (b2 (fX12_takes M 12) fun r4 M6 => (if r4 = 0 then (some (0, M6)) else (b2 (fX12_one rec M6) fun r8 M10 => (b2 (fX12_puts M10 (-15)) fun r11 M13 => (k2 M13)))))
def fX12_all_L4 (rec : mM → Option (Int32 × mM)) : Nat → mM → Option (Int32 × mM)
  | 0 => fun _ => none
  | n + 1 => fX12_all_L4_b rec (fX12_all_L4 rec n)
def fX12_all (rec : mM → Option (Int32 × mM)) (M : mM) : Option (Int32 × mM) :=
  (b2 (fX12_one rec M) fun r1 M3 => (fX12_all_L4 rec 5000 M3))
def fX12_any_L4_b (rec : mM → Option (Int32 × mM)) (k2 : mM → Option (Int32 × mM)) (M : mM) : Option (Int32 × mM) :=
  (b2 (fX12_takes M 13) fun r4 M6 => (if r4 = 0 then (some (0, M6)) else (b2 (fX12_all rec M6) fun r8 M10 => (b2 (fX12_puts M10 (-16)) fun r11 M13 => (k2 M13)))))
def fX12_any_L4 (rec : mM → Option (Int32 × mM)) : Nat → mM → Option (Int32 × mM)
  | 0 => fun _ => none
  | n + 1 => fX12_any_L4_b rec (fX12_any_L4 rec n)
def fX12_any_b (rec : mM → Option (Int32 × mM)) (M : mM) : Option (Int32 × mM) :=
  (b2 (fX12_all rec M) fun r1 M3 => (fX12_any_L4 rec 5000 M3))
def fX12_any : Nat → mM → Option (Int32 × mM)
  | 0 => fun _ => none
  | d + 1 => fX12_any_b (fX12_any d)
def fX12_rule_L188 (M : mM) (t1 : Int32) (t2 : Int32) : Option (Int32 × mM) :=
  (gd (ix t1 295) (b2 (fX12_wants (wr M 5 (Int32.toNatClampNeg t1) t2) 23) fun r42 M44 => (gd (ix 7 295) (gd (ix 7 295) (some (0, wr M44 5 (Int32.toNatClampNeg 7) ((M44 5 (Int32.toNatClampNeg 7)) + 1)))))))
def fX12_rule_L154 (M : mM) (x2 : Int32) (x3 : Int32) (t1 : Nat) : Option (Int32 × mM) :=
  (b2 (fX12_wants M t1) fun r33 M35 => (gd (ix (x2 + 1) 295) (if 2 ≤ x3 then (fX12_rule_L188 (wr M35 5 (Int32.toNatClampNeg (x2 + 1)) x3) (x2 + 2) 0) else (b2 (fX12_number (wr M35 5 (Int32.toNatClampNeg (x2 + 1)) x3) 99) fun r37 M39 => (fX12_rule_L188 M39 (x2 + 2) r37)))))
def fX12_rule_L128 (M : mM) (x2 : Int32) (t0 : Int32) : Option (Int32 × mM) :=
  (if t0 = 0 then (fX12_rule_L154 M x2 t0 15) else (if t0 = 1 then (fX12_rule_L154 M x2 t0 16) else (fX12_rule_L154 M x2 t0 17)))
def fX12_rule_L87 (M : mM) (x2 : Int32) : Option (Int32 × mM) :=
  (gd (ix (x2 + 4) 295) (b1 (fX12_isWord (wr M 5 (Int32.toNatClampNeg (x2 + 4)) (M 0 7)) 15) fun r23 => (if r23 = 0 then (b1 (fX12_isWord (wr M 5 (Int32.toNatClampNeg (x2 + 4)) (M 0 7)) 16) fun r26 => (if r26 = 0 then (fX12_rule_L128 (wr M 5 (Int32.toNatClampNeg (x2 + 4)) (M 0 7)) x2 2) else (fX12_rule_L128 (wr M 5 (Int32.toNatClampNeg (x2 + 4)) (M 0 7)) x2 1))) else (fX12_rule_L128 (wr M 5 (Int32.toNatClampNeg (x2 + 4)) (M 0 7)) x2 0))))
def fX12_rule_L27 (M : mM) (x1 : Int32) (t1 : Int32) : Option (Int32 × mM) :=
  (gd (isB t1) (if ((wr M 0 11 t1) 0 11) = 0 then (b2 (fX12_next (wr M 0 11 t1)) fun r7 M9 => (gd (ix 7 295) (gd (ix (55 + (5 * (M9 5 (Int32.toNatClampNeg 7)))) 295) (gd (ix ((55 + (5 * (M9 5 (Int32.toNatClampNeg 7)))) + 3) 295) (b2 (fX12_takes (wr (wr M9 5 (Int32.toNatClampNeg (55 + (5 * (M9 5 (Int32.toNatClampNeg 7))))) x1) 5 (Int32.toNatClampNeg ((55 + (5 * (M9 5 (Int32.toNatClampNeg 7)))) + 3)) ((wr M9 5 (Int32.toNatClampNeg (55 + (5 * (M9 5 (Int32.toNatClampNeg 7))))) x1) 0 7)) 11) fun r13 M15 => (if r13 = 0 then (fX12_rule_L87 M15 (55 + (5 * (M9 5 (Int32.toNatClampNeg 7))))) else (b2 (fX12_any 6 M15) fun r17 M19 => (fX12_rule_L87 M19 (55 + (5 * (M9 5 (Int32.toNatClampNeg 7)))))))))))) else (some (0, wr M 0 11 t1))))
def fX12_rule_L22 (M : mM) (x1 : Int32) : Option (Int32 × mM) :=
  (fX12_rule_L27 M x1 1)
def fX12_rule (M : mM) : Option (Int32 × mM) :=
  (b1 (fX12_kindHere M) fun r1 => (if r1 < 0 then (fX12_rule_L22 M r1) else (gd (ix 7 295) (if (M 5 (Int32.toNatClampNeg 7)) = 8 then (fX12_rule_L22 M r1) else (fX12_rule_L27 M r1 0)))))
def fX12_rules_L94_b (k51 : mM → Int32 → Option (Int32 × mM)) (M : mM) (x1 : Int32) : Option (Int32 × mM) :=
  (if 295 ≤ x1 then (gd (ix 7 295) (some ((M 1 (Int32.toNatClampNeg 7)), M))) else (gd (ix x1 295) (gd (ix x1 295) (k51 (wr M 1 (Int32.toNatClampNeg x1) (M 5 (Int32.toNatClampNeg x1))) (x1 + 1)))))
def fX12_rules_L94 : Nat → mM → Int32 → Option (Int32 × mM)
  | 0 => fun _ _ => none
  | n + 1 => fX12_rules_L94_b (fX12_rules_L94 n)
def fX12_rules_L57 (M : mM) : Option (Int32 × mM) :=
  (if ((wr M 0 5 0) 0 11) = 0 then (gd (ix 7 295) (gd (ix 7 295) (fX12_rules_L94 5000 (wr (wr M 0 5 0) 1 (Int32.toNatClampNeg 7) ((wr M 0 5 0) 5 (Int32.toNatClampNeg 7))) 55))) else (some (((-100) - ((wr M 0 5 0) 0 8)), wr M 0 5 0)))
def fX12_rules_L32_b (k19 : mM → Option (Int32 × mM)) (M : mM) : Option (Int32 × mM) :=
  (if (M 0 11) = 0 then (if (M 0 5) ≤ (M 0 8) then (fX12_rules_L57 M) else (b2 (fX12_rule M) fun r5 M7 => (k19 M7))) else (fX12_rules_L57 M))
def fX12_rules_L32 : Nat → mM → Option (Int32 × mM)
  | 0 => fun _ => none
  | n + 1 => fX12_rules_L32_b (fX12_rules_L32 n)
def fX12_rules (M : mM) : Option (Int32 × mM) :=
  (gd (ix 7 295) (b2 (fX12_next (wr (wr (wr (wr (wr M 0 11 0) 0 10 0) 0 7 0) 0 9 0) 5 (Int32.toNatClampNeg 7) 0)) fun r2 M4 => (fX12_rules_L32 5000 M4)))
def fX12_sumNow_L4_b (k4 : mM → Int32 → Int32 → Option (Int32 × mM)) (M : mM) (x1 : Int32) (x2 : Int32) : Option (Int32 × mM) :=
  (gd (ix 0 295) (if (M 1 (Int32.toNatClampNeg 0)) ≤ x2 then (some (x1, M)) else (b1 (fX12_its M x2 4) fun r2 => (if r2 = 1 then (b1 (fX12_voteOf M x2) fun r4 => (b2 (fX12_powerOf M x2) fun r6 M8 => (k4 M8 (x1 + (r4 * r6)) (x2 + 1)))) else (k4 M (x1 + 0) (x2 + 1))))))
def fX12_sumNow_L4 : Nat → mM → Int32 → Int32 → Option (Int32 × mM)
  | 0 => fun _ _ _ => none
  | n + 1 => fX12_sumNow_L4_b (fX12_sumNow_L4 n)
def fX12_sumNow (M : mM) : Option (Int32 × mM) :=
  (fX12_sumNow_L4 5000 M 0 0)
def fX12_sum (M : mM) : Option (Int32 × mM) :=
  (b2 (fX12_sumNow M) fun r1 M3 => (some (r1, M3)))
def fX12_moveBy (M : mM) (p1 : Int32) : Option Int32 :=
  (gd (ix 3 295) (if p1 ≤ (M 1 (Int32.toNatClampNeg 3)) then (gd (ix 3 295) (if (-(M 1 (Int32.toNatClampNeg 3))) ≤ p1 then (some 0) else (some (-1)))) else (some 1)))
def fX12_turns (M : mM) (p1 : Int32) : Option (Int32 × mM) :=
  (gd (ix 1 295) (gd (ix 1 295) (some (0, wr M 1 (Int32.toNatClampNeg 1) (fX12_around ((M 1 (Int32.toNatClampNeg 1)) + p1))))))
def fX12_noonBy (M : mM) (p1 : Int32) : Option (Int32 × mM) :=
  (b1 (fX12_moveBy M p1) fun r1 => (b2 (fX12_turns M r1) fun r3 M5 => (gd (ix 4 295) (gd (ix 4 295) (gd (ix 2 295) (gd (ix 2 295) (gd (ix 1 295) (some (((wr (wr M5 1 (Int32.toNatClampNeg 4) (fX12_around ((M5 1 (Int32.toNatClampNeg 4)) + r1))) 1 (Int32.toNatClampNeg 2) (((wr M5 1 (Int32.toNatClampNeg 4) (fX12_around ((M5 1 (Int32.toNatClampNeg 4)) + r1))) 1 (Int32.toNatClampNeg 2)) + 1)) 1 (Int32.toNatClampNeg 1)), wr (wr M5 1 (Int32.toNatClampNeg 4) (fX12_around ((M5 1 (Int32.toNatClampNeg 4)) + r1))) 1 (Int32.toNatClampNeg 2) (((wr M5 1 (Int32.toNatClampNeg 4) (fX12_around ((M5 1 (Int32.toNatClampNeg 4)) + r1))) 1 (Int32.toNatClampNeg 2)) + 1))))))))))
def fX12_noon (M : mM) : Option (Int32 × mM) :=
  (gd (ix 2 295) (if (M 1 (Int32.toNatClampNeg 2)) = 9999 then (some ((-4), M)) else (b2 (fX12_sumNow M) fun r2 M4 => (b2 (fX12_noonBy M4 r2) fun r5 M7 => (some (r5, M7))))))
def fX12_thinks (M : mM) : Option (Int32 × mM) :=
  (gd (ix 1 295) (some (0, wr M 0 12 (M 1 (Int32.toNatClampNeg 1)))))
def fX12_laysBack (M : mM) : Option (Int32 × mM) :=
  (gd (ix 1 295) (some (0, wr M 1 (Int32.toNatClampNeg 1) (M 0 12))))
def fX12_on_L20_b (k12 : mM → Int32 → Int32 → Option (Int32 × mM)) (M : mM) (x1 : Int32) (x2 : Int32) : Option (Int32 × mM) :=
  (if x1 ≤ x2 then (gd (ix 1 295) (b2 (fX12_laysBack M) fun r7 M9 => (some ((M 1 (Int32.toNatClampNeg 1)), M9)))) else (b2 (fX12_sumNow M) fun r10 M12 => (b1 (fX12_moveBy M12 r10) fun r13 => (b2 (fX12_turns M12 r13) fun r15 M17 => (k12 M17 x1 (x2 + 1))))))
def fX12_on_L20 : Nat → mM → Int32 → Int32 → Option (Int32 × mM)
  | 0 => fun _ _ _ => none
  | n + 1 => fX12_on_L20_b (fX12_on_L20 n)
def fX12_on (M : mM) (p1 : Int32) : Option (Int32 × mM) :=
  (if (fX12_in (Int32.toInt64 p1) 0 60) = 0 then (some ((-1), M)) else (b2 (fX12_thinks M) fun r2 M4 => (fX12_on_L20 5000 M4 p1 0)))
def fX12_when_L49 (M : mM) (x2 : Int32) : Option (Int32 × mM) :=
  (b2 (fX12_laysBack M) fun r17 M19 => (if 60 < x2 then (some ((-3), M19)) else (some (x2, M19))))
def fX12_when_L15_b (k9 : mM → Int32 → Int32 → Option (Int32 × mM)) (M : mM) (x1 : Int32) (x2 : Int32) : Option (Int32 × mM) :=
  (if 60 < x2 then (fX12_when_L49 M x2) else (gd (ix 1 295) (if (M 1 (Int32.toNatClampNeg 1)) = x1 then (fX12_when_L49 M x2) else (b2 (fX12_sumNow M) fun r7 M9 => (b1 (fX12_moveBy M9 r7) fun r10 => (b2 (fX12_turns M9 r10) fun r12 M14 => (k9 M14 x1 (x2 + 1))))))))
def fX12_when_L15 : Nat → mM → Int32 → Int32 → Option (Int32 × mM)
  | 0 => fun _ _ _ => none
  | n + 1 => fX12_when_L15_b (fX12_when_L15 n)
def fX12_when (M : mM) (p1 : Int32) : Option (Int32 × mM) :=
  (if (fX12_isHour p1) = 0 then (some ((-1), M)) else (b2 (fX12_thinks M) fun r2 M4 => (fX12_when_L15 5000 M4 p1 0)))
def fX12_cycle_L39_b (k24 : mM → Int32 → Int32 → Option (Int32 × mM)) (M : mM) (x1 : Int32) (x2 : Int32) : Option (Int32 × mM) :=
  (gd (ix 1 295) (gd (ix (M 1 (Int32.toNatClampNeg 1)) 24) (if 0 ≤ (M 6 (Int32.toNatClampNeg (M 1 (Int32.toNatClampNeg 1)))) then (gd (ix 1 295) (gd (ix (M 1 (Int32.toNatClampNeg 1)) 24) (b2 (fX12_laysBack M) fun r12 M14 => (if x1 = 0 then (some ((M 6 (Int32.toNatClampNeg (M 1 (Int32.toNatClampNeg 1)))), M14)) else (some ((x2 - (M 6 (Int32.toNatClampNeg (M 1 (Int32.toNatClampNeg 1))))), M14)))))) else (gd (ix 1 295) (gd (ix (M 1 (Int32.toNatClampNeg 1)) 24) (b2 (fX12_sumNow (wr M 6 (Int32.toNatClampNeg (M 1 (Int32.toNatClampNeg 1))) x2)) fun r18 M20 => (b1 (fX12_moveBy M20 r18) fun r21 => (b2 (fX12_turns M20 r21) fun r23 M25 => (k24 M25 x1 (x2 + 1))))))))))
def fX12_cycle_L39 : Nat → mM → Int32 → Int32 → Option (Int32 × mM)
  | 0 => fun _ _ _ => none
  | n + 1 => fX12_cycle_L39_b (fX12_cycle_L39 n)
def fX12_cycle_L14_b (k10 : mM → Int32 → Int32 → Option (Int32 × mM)) (M : mM) (x1 : Int32) (x2 : Int32) : Option (Int32 × mM) :=
  (if 24 ≤ x2 then (b2 (fX12_thinks M) fun r3 M5 => (fX12_cycle_L39 5000 M5 x1 0)) else (gd (ix x2 24) (k10 (wr M 6 (Int32.toNatClampNeg x2) (-1)) x1 (x2 + 1))))
def fX12_cycle_L14 : Nat → mM → Int32 → Int32 → Option (Int32 × mM)
  | 0 => fun _ _ _ => none
  | n + 1 => fX12_cycle_L14_b (fX12_cycle_L14 n)
def fX12_cycle (M : mM) (p1 : Int32) : Option (Int32 × mM) :=
  (if (fX12_in (Int32.toInt64 p1) 0 1) = 0 then (some ((-1), M)) else (fX12_cycle_L14 5000 M p1 0))
def fX12_lulls_L2_b (k2 : mM → Int32 → Int32 → Int32 → Option (Int32 × mM)) (M : mM) (x1 : Int32) (x2 : Int32) (x3 : Int32) : Option (Int32 × mM) :=
  (gd (ix 0 295) (if (M 1 (Int32.toNatClampNeg 0)) ≤ x3 then (some (0, M)) else (if ((x1 >>> (x3 &&& 31)) &&& 1) = 1 then (b2 (fX12_sets M x3 4 x2) fun r2 M4 => (k2 M4 x1 x2 (x3 + 1))) else (k2 M x1 x2 (x3 + 1)))))
def fX12_lulls_L2 : Nat → mM → Int32 → Int32 → Int32 → Option (Int32 × mM)
  | 0 => fun _ _ _ _ => none
  | n + 1 => fX12_lulls_L2_b (fX12_lulls_L2 n)
def fX12_lulls (M : mM) (p1 : Int32) (p2 : Int32) : Option (Int32 × mM) :=
  (fX12_lulls_L2 5000 M p1 p2 0)
def fX12_priceOf_L4_b (k4 : mM → Int32 → Int32 → Int32 → Option Int32) (M : mM) (x1 : Int32) (x2 : Int32) (x3 : Int32) : Option Int32 :=
  (gd (ix 0 295) (if (M 1 (Int32.toNatClampNeg 0)) ≤ x3 then (some x2) else (b1 (fX12_its M x3 3) fun r2 => (k4 M x1 (x2 + (((x1 >>> (x3 &&& 31)) &&& 1) * r2)) (x3 + 1)))))
def fX12_priceOf_L4 : Nat → mM → Int32 → Int32 → Int32 → Option Int32
  | 0 => fun _ _ _ _ => none
  | n + 1 => fX12_priceOf_L4_b (fX12_priceOf_L4 n)
def fX12_priceOf (M : mM) (p1 : Int32) : Option Int32 :=
  (fX12_priceOf_L4 5000 M p1 0 0)
def fX12_ones_L4_b (k4 : mM → Int32 → Int32 → Int32 → Option Int32) (M : mM) (x0 : Int32) (x1 : Int32) (x2 : Int32) : Option Int32 :=
  (if 7 ≤ x2 then (some x1) else (k4 M x0 (x1 + ((x0 >>> (x2 &&& 31)) &&& 1)) (x2 + 1)))
def fX12_ones_L4 : Nat → mM → Int32 → Int32 → Int32 → Option Int32
  | 0 => fun _ _ _ _ => none
  | n + 1 => fX12_ones_L4_b (fX12_ones_L4 n)
def fX12_ones (M : mM) (p0 : Int32) : Option Int32 :=
  (fX12_ones_L4 5000 M p0 0 0)
def fX12_bestFor_L98 (k7 : mM → Int32 → Int32 → Int32 → Int32 → Option (Int32 × mM)) (M : mM) (x1 : Int32) (x2 : Int32) (x3 : Int32) (x4 : Int32) (x5 : Int32) (t0 : Int32) : Option (Int32 × mM) :=
  (if x5 = 0 then (k7 M x1 x2 x3 (x4 + 1)) else (if 0 ≤ t0 then (k7 M x1 x2 x3 (x4 + 1)) else (k7 M x1 x2 x4 (x4 + 1))))
def fX12_bestFor_L54 (k7 : mM → Int32 → Int32 → Int32 → Int32 → Option (Int32 × mM)) (M : mM) (x1 : Int32) (x2 : Int32) (x3 : Int32) (x4 : Int32) (t0 : Int32) : Option (Int32 × mM) :=
  (b2 (fX12_lulls M x4 1) fun r14 M16 => (if 0 ≤ x3 then (b1 (fX12_priceOf M16 x4) fun r17 => (b1 (fX12_priceOf M16 x3) fun r19 => (b1 (fX12_ones M16 x4) fun r21 => (b1 (fX12_ones M16 x3) fun r23 => (fX12_bestFor_L98 k7 M16 x1 x2 x3 x4 t0 (((1000 * (r17 - r19)) + r21) - r23)))))) else (fX12_bestFor_L98 k7 M16 x1 x2 x3 x4 t0 (-1))))
def fX12_bestFor_L10_b (k7 : mM → Int32 → Int32 → Int32 → Int32 → Option (Int32 × mM)) (M : mM) (x1 : Int32) (x2 : Int32) (x3 : Int32) (x4 : Int32) : Option (Int32 × mM) :=
  (if x2 < x4 then (some (x3, M)) else (if (x4 &&& (x2 ^^^ (-1))) = 0 then (b2 (fX12_lulls M x4 0) fun r3 M5 => (b2 (fX12_sumNow M5) fun r6 M8 => (b1 (fX12_moveBy M8 r6) fun r9 => (if r9 = (x1 - 1) then (fX12_bestFor_L54 k7 M8 x1 x2 x3 x4 1) else (fX12_bestFor_L54 k7 M8 x1 x2 x3 x4 0))))) else (k7 M x1 x2 x3 (x4 + 1))))
def fX12_bestFor_L10 : Nat → mM → Int32 → Int32 → Int32 → Int32 → Option (Int32 × mM)
  | 0 => fun _ _ _ _ _ => none
  | n + 1 => fX12_bestFor_L10_b (fX12_bestFor_L10 n)
def fX12_bestFor (M : mM) (p1 : Int32) : Option (Int32 × mM) :=
  (b1 (fX12_awakeSet M) fun r1 => (fX12_bestFor_L10 5000 M p1 r1 (-1) 0))
def fX12_buys (M : mM) (p1 : Int32) : Option (Int32 × mM) :=
  (if (fX12_in (Int32.toInt64 p1) 0 2) = 0 then (some ((-1), M)) else (b2 (fX12_bestFor M p1) fun r2 M4 => (if 0 ≤ r2 then (b1 (fX12_priceOf M4 r2) fun r5 => (some (r5, M4))) else (some ((-3), M4)))))
def fX12_whom (M : mM) (p1 : Int32) : Option (Int32 × mM) :=
  (if (fX12_in (Int32.toInt64 p1) 0 2) = 0 then (some ((-1), M)) else (b2 (fX12_bestFor M p1) fun r2 M4 => (if 0 ≤ r2 then (some (r2, M4)) else (some ((-3), M4)))))
def fX12_apart (p0 : Int32) (p1 : Int32) : Int32 :=
  (jmin (fX12_around (p0 - p1)) (24 - (fX12_around (p0 - p1))))
def fX12_liars_L67_b (k7 : mM → Int32 → Int32 → Int32 → Option (Int32 × mM)) (k43 : mM → Int32 → Int32 → Int32 → Int32 → Int32 → Int32 → Int32 → Int32 → Option (Int32 × mM)) (M : mM) (x1 : Int32) (x2 : Int32) (x3 : Int32) (x4 : Int32) (x5 : Int32) (x6 : Int32) (x7 : Int32) (x8 : Int32) : Option (Int32 × mM) :=
  (if 1 < x8 then (if x7 = 0 then (k7 M x1 (x2 ||| 0) (x3 + 1)) else (b1 (fX12_its M x3 4) fun r16 => (if r16 = 1 then (k7 M x1 (x2 ||| (1 <<< (x3 &&& 31))) (x3 + 1)) else (k7 M x1 (x2 ||| 0) (x3 + 1))))) else (if x7 = 0 then (gd (ix 1 295) (b1 (fX12_moveBy M (x5 + (x8 * x4))) fun r21 => (b1 (fX12_its M x3 1) fun r23 => (if x6 ≤ (fX12_apart ((M 1 (Int32.toNatClampNeg 1)) + r21) r23) then (k43 M x1 x2 x3 x4 x5 x6 0 (x8 + 1)) else (k43 M x1 x2 x3 x4 x5 x6 1 (x8 + 1)))))) else (k43 M x1 x2 x3 x4 x5 x6 1 (x8 + 1))))
def fX12_liars_L67 (k7 : mM → Int32 → Int32 → Int32 → Option (Int32 × mM)) : Nat → mM → Int32 → Int32 → Int32 → Int32 → Int32 → Int32 → Int32 → Int32 → Option (Int32 × mM)
  | 0 => fun _ _ _ _ _ _ _ _ _ => none
  | n + 1 => fX12_liars_L67_b k7 (fX12_liars_L67 k7 n)
def fX12_liars_L9_b (k7 : mM → Int32 → Int32 → Int32 → Option (Int32 × mM)) (M : mM) (x1 : Int32) (x2 : Int32) (x3 : Int32) : Option (Int32 × mM) :=
  (gd (ix 0 295) (if (M 1 (Int32.toNatClampNeg 0)) ≤ x3 then (some (x2, M)) else (b2 (fX12_powerOf M x3) fun r5 M7 => (b1 (fX12_voteOf M7 x3) fun r8 => (gd (ix 1 295) (b1 (fX12_moveBy M7 x1) fun r11 => (b1 (fX12_its M7 x3 1) fun r13 => (fX12_liars_L67 k7 5000 M7 x1 x2 x3 r5 (x1 - (r8 * r5)) (fX12_apart ((M7 1 (Int32.toNatClampNeg 1)) + r11) r13) 0 (-1)))))))))
def fX12_liars_L9 : Nat → mM → Int32 → Int32 → Int32 → Option (Int32 × mM)
  | 0 => fun _ _ _ _ => none
  | n + 1 => fX12_liars_L9_b (fX12_liars_L9 n)
def fX12_liars (M : mM) : Option (Int32 × mM) :=
  (b2 (fX12_sumNow M) fun r1 M3 => (fX12_liars_L9 5000 M3 r1 0 0))
def fX12_power_L130 (k19 : mM → Int32 → Int32 → Int32 → Int32 → Option (Int32 × mM)) (M : mM) (x1 : Int32) (x2 : Int32) (x3 : Int32) (x4 : Int32) (t0 : Int32) : Option (Int32 × mM) :=
  (if (x4 &&& (x2 ^^^ (-1))) = 0 then (if t0 = 0 then (k19 M x1 x2 (x3 + 0) (x4 + 1)) else (k19 M x1 x2 (x3 + 1) (x4 + 1))) else (k19 M x1 x2 (x3 + 0) (x4 + 1)))
def fX12_power_L48_b (k19 : mM → Int32 → Int32 → Int32 → Int32 → Option (Int32 × mM)) (k32 : mM → Int32 → Int32 → Int32 → Int32 → Int32 → Int32 → Option (Int32 × mM)) (M : mM) (x1 : Int32) (x2 : Int32) (x3 : Int32) (x4 : Int32) (x5 : Int32) (x6 : Int32) : Option (Int32 × mM) :=
  (gd (ix 0 295) (if (M 1 (Int32.toNatClampNeg 0)) ≤ x6 then (b1 (fX12_moveBy M x5) fun r12 => (b1 (fX12_voteOf M x1) fun r14 => (b2 (fX12_powerOf M x1) fun r16 M18 => (b1 (fX12_moveBy M18 (x5 + (r14 * r16))) fun r19 => (if r12 = r19 then (fX12_power_L130 k19 M18 x1 x2 x3 x4 0) else (fX12_power_L130 k19 M18 x1 x2 x3 x4 1)))))) else (if ((x4 >>> (x6 &&& 31)) &&& 1) = 1 then (b1 (fX12_voteOf M x6) fun r22 => (b2 (fX12_powerOf M x6) fun r24 M26 => (k32 M26 x1 x2 x3 x4 (x5 + (r22 * r24)) (x6 + 1)))) else (k32 M x1 x2 x3 x4 (x5 + 0) (x6 + 1)))))
def fX12_power_L48 (k19 : mM → Int32 → Int32 → Int32 → Int32 → Option (Int32 × mM)) : Nat → mM → Int32 → Int32 → Int32 → Int32 → Int32 → Int32 → Option (Int32 × mM)
  | 0 => fun _ _ _ _ _ _ _ => none
  | n + 1 => fX12_power_L48_b k19 (fX12_power_L48 k19 n)
def fX12_power_L26_b (k19 : mM → Int32 → Int32 → Int32 → Int32 → Option (Int32 × mM)) (M : mM) (x1 : Int32) (x2 : Int32) (x3 : Int32) (x4 : Int32) : Option (Int32 × mM) :=
  (if x2 < x4 then (some (x3, M)) else (b1 (fX12_its M x1 4) fun r7 => (if r7 = 1 then (fX12_power_L48 k19 5000 M x1 x2 x3 x4 0 0) else (some (x3, M)))))
def fX12_power_L26 : Nat → mM → Int32 → Int32 → Int32 → Int32 → Option (Int32 × mM)
  | 0 => fun _ _ _ _ _ => none
  | n + 1 => fX12_power_L26_b (fX12_power_L26 n)
def fX12_power (M : mM) (p1 : Int32) : Option (Int32 × mM) :=
  (b1 (fX12_isVoter M p1) fun r1 => (if r1 = 0 then (some ((-1), M)) else (b1 (fX12_awakeSet M) fun r4 => (fX12_power_L26 5000 M p1 (r4 &&& ((1 <<< (p1 &&& 31)) ^^^ (-1))) 0 0))))
def fX12_does (M : mM) (p1 : Int32) : Option (Int32 × mM) :=
  (if p1 ≤ 0 then (some (0, M)) else (b1 (fX12_its M (p1 - 1) 4) fun r1 => (b2 (fX12_sets M (p1 - 1) 4 (1 - r1)) fun r3 M5 => (some (0, M5)))))
def fX12_finds_L93 (rec : mM → Int32 → Int32 → Int32 → Option (Int32 × mM)) (k16 : mM → Int32 → Int32 → Int32 → Int32 → Int32 → Option (Int32 × mM)) (M : mM) (x1 : Int32) (x2 : Int32) (x3 : Int32) (x4 : Int32) (x5 : Int32) (x6 : Int32) (t1 : Int32) (t2 : Int32) : Option (Int32 × mM) :=
  (gd (ix t1 4) (b2 (fX12_turns (wr M 7 (Int32.toNatClampNeg t1) t2) (-x6)) fun r26 M28 => (b2 (fX12_does M28 x5) fun r29 M31 => (k16 M31 x1 x2 x3 x4 (x5 + 1)))))
def fX12_finds_L26_b (rec : mM → Int32 → Int32 → Int32 → Option (Int32 × mM)) (k16 : mM → Int32 → Int32 → Int32 → Int32 → Int32 → Option (Int32 × mM)) (M : mM) (x1 : Int32) (x2 : Int32) (x3 : Int32) (x4 : Int32) (x5 : Int32) : Option (Int32 × mM) :=
  (gd (ix 0 295) (if (M 1 (Int32.toNatClampNeg 0)) < x5 then (gd (isB x4) (some (x4, M))) else (if x4 = 0 then (b2 (fX12_does M x5) fun r7 M9 => (b2 (fX12_sumNow M9) fun r10 M12 => (b1 (fX12_moveBy M12 r10) fun r13 => (b2 (fX12_turns M12 r13) fun r15 M17 => (b2 (rec M17 (x1 - 1) x2 x3) fun r18 M20 => (if r18 = 0 then (fX12_finds_L93 rec k16 M20 x1 x2 x3 r18 x5 r13 (x2 - x1) 0) else (fX12_finds_L93 rec k16 M20 x1 x2 x3 r18 x5 r13 (x2 - x1) x5))))))) else (gd (isB x4) (some (x4, M))))))
def fX12_finds_L26 (rec : mM → Int32 → Int32 → Int32 → Option (Int32 × mM)) : Nat → mM → Int32 → Int32 → Int32 → Int32 → Int32 → Option (Int32 × mM)
  | 0 => fun _ _ _ _ _ _ => none
  | n + 1 => fX12_finds_L26_b rec (fX12_finds_L26 rec n)
def fX12_finds_b (rec : mM → Int32 → Int32 → Int32 → Option (Int32 × mM)) (M : mM) (p1 : Int32) (p2 : Int32) (p3 : Int32) : Option (Int32 × mM) :=
  (if p1 = 0 then (gd (ix 1 295) (if (M 1 (Int32.toNatClampNeg 1)) = p3 then (some (1, M)) else (some (0, M)))) else (fX12_finds_L26 rec 5000 M p1 p2 p3 0 0))
def fX12_finds : Nat → mM → Int32 → Int32 → Int32 → Option (Int32 × mM)
  | 0 => fun _ _ _ _ => none
  | d + 1 => fX12_finds_b (fX12_finds d)
def fX12_fewestFor_L2_b (k2 : mM → Int32 → Int32 → Int32 → Option (Int32 × mM)) (M : mM) (x1 : Int32) (x2 : Int32) (x3 : Int32) : Option (Int32 × mM) :=
  (if x2 < x3 then (if x2 < x3 then (some ((-1), M)) else (some (x3, M))) else (b2 (fX12_finds 6 M x3 x3 x1) fun r2 M4 => (if r2 = 0 then (k2 M4 x1 x2 (x3 + 1)) else (if x2 < x3 then (some ((-1), M4)) else (some (x3, M4))))))
def fX12_fewestFor_L2 : Nat → mM → Int32 → Int32 → Int32 → Option (Int32 × mM)
  | 0 => fun _ _ _ _ => none
  | n + 1 => fX12_fewestFor_L2_b (fX12_fewestFor_L2 n)
def fX12_fewestFor (M : mM) (p1 : Int32) (p2 : Int32) : Option (Int32 × mM) :=
  (fX12_fewestFor_L2 5000 M p1 p2 0)
def fX12_fewest (M : mM) (p1 : Int32) : Option (Int32 × mM) :=
  (if (fX12_isHour p1) = 0 then (some ((-1), M)) else (b2 (fX12_fewestFor M p1 4) fun r2 M4 => (if 0 ≤ r2 then (some (r2, M4)) else (some ((-3), M4)))))
def fX12_ith (M : mM) (p1 : Int32) (p2 : Int32) : Option (Int32 × mM) :=
  (if (fX12_isHour p1) = 0 then (some ((-1), M)) else (if (fX12_in (Int32.toInt64 p2) 0 3) = 0 then (some ((-1), M)) else (b2 (fX12_fewestFor M p1 4) fun r3 M5 => (if r3 ≤ p2 then (some ((-3), M5)) else (gd (ix p2 4) (some ((M5 7 (Int32.toNatClampNeg p2)), M5)))))))
def fX12_forgets_L2_b (k2 : mM → Int32 → Option (Int32 × mM)) (M : mM) (x1 : Int32) : Option (Int32 × mM) :=
  (if 24 ≤ x1 then (some (0, M)) else (gd (ix x1 24) (k2 (wr M 8 (Int32.toNatClampNeg x1) 0) (x1 + 1))))
def fX12_forgets_L2 : Nat → mM → Int32 → Option (Int32 × mM)
  | 0 => fun _ _ => none
  | n + 1 => fX12_forgets_L2_b (fX12_forgets_L2 n)
def fX12_forgets (M : mM) : Option (Int32 × mM) :=
  (fX12_forgets_L2 5000 M 0)
def fX12_plans_L22_b (rec : mM → Int32 → Option (Int32 × mM)) (k16 : mM → Int32 → Int32 → Option (Int32 × mM)) (M : mM) (x1 : Int32) (x2 : Int32) : Option (Int32 × mM) :=
  (gd (ix 0 295) (if (M 1 (Int32.toNatClampNeg 0)) < x2 then (some (0, M)) else (b2 (fX12_does M x2) fun r6 M8 => (b2 (fX12_sumNow M8) fun r9 M11 => (b1 (fX12_moveBy M11 r9) fun r12 => (b2 (fX12_turns M11 r12) fun r14 M16 => (b2 (rec M16 (x1 - 1)) fun r17 M19 => (b2 (fX12_turns M19 (-r12)) fun r20 M22 => (b2 (fX12_does M22 x2) fun r23 M25 => (k16 M25 x1 (x2 + 1)))))))))))
def fX12_plans_L22 (rec : mM → Int32 → Option (Int32 × mM)) : Nat → mM → Int32 → Int32 → Option (Int32 × mM)
  | 0 => fun _ _ _ => none
  | n + 1 => fX12_plans_L22_b rec (fX12_plans_L22 rec n)
def fX12_plans_b (rec : mM → Int32 → Option (Int32 × mM)) (M : mM) (p1 : Int32) : Option (Int32 × mM) :=
  (if p1 = 0 then (gd (ix 1 295) (gd (ix (M 1 (Int32.toNatClampNeg 1)) 24) (gd (ix (M 1 (Int32.toNatClampNeg 1)) 24) (some (0, wr M 8 (Int32.toNatClampNeg (M 1 (Int32.toNatClampNeg 1))) ((M 8 (Int32.toNatClampNeg (M 1 (Int32.toNatClampNeg 1)))) + 1)))))) else (fX12_plans_L22 rec 5000 M p1 0))
def fX12_plans : Nat → mM → Int32 → Option (Int32 × mM)
  | 0 => fun _ _ => none
  | d + 1 => fX12_plans_b (fX12_plans d)
def fX12_ways (M : mM) (p1 : Int32) (p2 : Int32) : Option (Int32 × mM) :=
  (if (fX12_isHour p1) = 0 then (some ((-1), M)) else (if (fX12_in (Int32.toInt64 p2) 0 4) = 0 then (some ((-1), M)) else (b2 (fX12_forgets M) fun r3 M5 => (b2 (fX12_plans 6 M5 p2) fun r6 M8 => (gd (ix p1 24) (some ((M8 8 (Int32.toNatClampNeg p1)), M8)))))))
def fX12_hours_L27_b (k17 : mM → Int32 → Int32 → Option (Int32 × mM)) (M : mM) (x2 : Int32) (x3 : Int32) : Option (Int32 × mM) :=
  (if 24 ≤ x3 then (some (x2, M)) else (gd (ix x3 24) (if (M 8 (Int32.toNatClampNeg x3)) ≤ 0 then (k17 M (x2 ||| 0) (x3 + 1)) else (k17 M (x2 ||| (1 <<< (x3 &&& 31))) (x3 + 1)))))
def fX12_hours_L27 : Nat → mM → Int32 → Int32 → Option (Int32 × mM)
  | 0 => fun _ _ _ => none
  | n + 1 => fX12_hours_L27_b (fX12_hours_L27 n)
def fX12_hours (M : mM) (p1 : Int32) : Option (Int32 × mM) :=
  (if (fX12_in (Int32.toInt64 p1) 0 4) = 0 then (some ((-1), M)) else (b2 (fX12_forgets M) fun r2 M4 => (b2 (fX12_plans 6 M4 p1) fun r5 M7 => (fX12_hours_L27 5000 M7 0 0))))
def fX12_limitFor_L68 (M : mM) (x3 : Int32) (x4 : Int32) : Option (Int32 × mM) :=
  (gd (ix 3 295) (if x4 < 0 then (some ((-3), wr M 1 (Int32.toNatClampNeg 3) x3)) else (some (x4, wr M 1 (Int32.toNatClampNeg 3) x3))))
def fX12_limitFor_L40_b (k23 : mM → Int32 → Int32 → Int32 → Int32 → Option (Int32 × mM)) (M : mM) (x1 : Int32) (x2 : Int32) (x3 : Int32) (x4 : Int32) : Option (Int32 × mM) :=
  (if x4 < 0 then (fX12_limitFor_L68 M x3 x4) else (b2 (fX12_fewestFor M x1 x2) fun r7 M9 => (if 0 ≤ r7 then (fX12_limitFor_L68 M9 x3 x4) else (gd (ix 3 295) (k23 (wr M9 1 (Int32.toNatClampNeg 3) (x4 + (-1))) x1 x2 x3 (x4 + (-1)))))))
def fX12_limitFor_L40 : Nat → mM → Int32 → Int32 → Int32 → Int32 → Option (Int32 × mM)
  | 0 => fun _ _ _ _ _ => none
  | n + 1 => fX12_limitFor_L40_b (fX12_limitFor_L40 n)
def fX12_limitFor (M : mM) (p1 : Int32) (p2 : Int32) : Option (Int32 × mM) :=
  (if (fX12_isHour p1) = 0 then (some ((-1), M)) else (if (fX12_in (Int32.toInt64 p2) 1 3) = 0 then (some ((-1), M)) else (gd (ix 3 295) (gd (ix 3 295) (fX12_limitFor_L40 5000 (wr M 1 (Int32.toNatClampNeg 3) 99) p1 p2 (M 1 (Int32.toNatClampNeg 3)) 99)))))
def fX12_worth_L62 (rec : mM → Int32 → Int32 → Option (Int32 × mM)) (k10 : mM → Int32 → Int32 → Int32 → Int32 → Int32 → Option (Int32 × mM)) (M : mM) (x1 : Int32) (x2 : Int32) (x3 : Int32) (x4 : Int32) (x5 : Int32) (x6 : Int32) (t0 : Int32) (t2 : Int32) (t3 : Int32) : Option (Int32 × mM) :=
  (b2 (rec M t2 t3) fun r16 M18 => (b2 (fX12_turns M18 (-x6)) fun r19 M21 => (b2 (fX12_does M21 x5) fun r22 M24 => (if x4 < 0 then (k10 M24 x1 x2 (t0 + r16) x5 (x5 + 1)) else (if x2 = 0 then (if x3 ≤ (t0 + r16) then (k10 M24 x1 x2 x3 x4 (x5 + 1)) else (k10 M24 x1 x2 (t0 + r16) x5 (x5 + 1))) else (if (t0 + r16) ≤ x3 then (k10 M24 x1 x2 x3 x4 (x5 + 1)) else (k10 M24 x1 x2 (t0 + r16) x5 (x5 + 1))))))))
def fX12_worth_L14_b (rec : mM → Int32 → Int32 → Option (Int32 × mM)) (k10 : mM → Int32 → Int32 → Int32 → Int32 → Int32 → Option (Int32 × mM)) (M : mM) (x1 : Int32) (x2 : Int32) (x3 : Int32) (x4 : Int32) (x5 : Int32) : Option (Int32 × mM) :=
  (gd (ix 0 295) (if (M 1 (Int32.toNatClampNeg 0)) < x5 then (some (x3, wr M 0 16 x4)) else (b2 (fX12_does M x5) fun r3 M5 => (b2 (fX12_sumNow M5) fun r6 M8 => (b1 (fX12_moveBy M8 r6) fun r9 => (b2 (fX12_turns M8 r9) fun r11 M13 => (if x2 = 0 then (fX12_worth_L62 rec k10 M13 x1 x2 x3 x4 x5 r9 r9 (x1 - 1) 1) else (fX12_worth_L62 rec k10 M13 x1 x2 x3 x4 x5 r9 r9 (x1 - 1) 0))))))))
def fX12_worth_L14 (rec : mM → Int32 → Int32 → Option (Int32 × mM)) : Nat → mM → Int32 → Int32 → Int32 → Int32 → Int32 → Option (Int32 × mM)
  | 0 => fun _ _ _ _ _ _ => none
  | n + 1 => fX12_worth_L14_b rec (fX12_worth_L14 rec n)
def fX12_worth_b (rec : mM → Int32 → Int32 → Option (Int32 × mM)) (M : mM) (p1 : Int32) (p2 : Int32) : Option (Int32 × mM) :=
  (if p1 = 0 then (some (0, M)) else (fX12_worth_L14 rec 5000 M p1 p2 0 (-1) 0))
def fX12_worth : Nat → mM → Int32 → Int32 → Option (Int32 × mM)
  | 0 => fun _ _ _ => none
  | d + 1 => fX12_worth_b (fX12_worth d)
def fX12_game (M : mM) (p1 : Int32) : Option (Int32 × mM) :=
  (if (fX12_in (Int32.toInt64 p1) 1 4) = 0 then (some ((-1), M)) else (b2 (fX12_worth 6 M p1 1) fun r2 M4 => (some ((r2 + 10), M4))))
def fX12_play (M : mM) (p1 : Int32) : Option (Int32 × mM) :=
  (if (fX12_in (Int32.toInt64 p1) 1 4) = 0 then (some ((-1), M)) else (b2 (fX12_worth 6 M p1 1) fun r2 M4 => (if (fX12_in (Int32.toInt64 r2) (-4) 4) = 0 then (some ((-1), M4)) else (some ((M4 0 16), M4)))))
def fX12_report (M : mM) (p1 : Int32) (p2 : Int32) : Option (Int32 × mM) :=
  (if (fX12_in (Int32.toInt64 p1) 0 60) = 0 then (some ((-1), M)) else (if (fX12_isHour p2) = 0 then (some ((-1), M)) else (gd (ix 6 295) (if (M 1 (Int32.toNatClampNeg 6)) = 6 then (some ((-2), M)) else (gd (ix 6 295) (gd (ix (43 + (2 * (M 1 (Int32.toNatClampNeg 6)))) 295) (gd (ix 6 295) (gd (ix ((43 + (2 * ((wr M 1 (Int32.toNatClampNeg (43 + (2 * (M 1 (Int32.toNatClampNeg 6))))) p1) 1 (Int32.toNatClampNeg 6)))) + 1) 295) (gd (ix 6 295) (gd (ix 6 295) (gd (ix 6 295) (some ((((wr (wr (wr M 1 (Int32.toNatClampNeg (43 + (2 * (M 1 (Int32.toNatClampNeg 6))))) p1) 1 (Int32.toNatClampNeg ((43 + (2 * ((wr M 1 (Int32.toNatClampNeg (43 + (2 * (M 1 (Int32.toNatClampNeg 6))))) p1) 1 (Int32.toNatClampNeg 6)))) + 1)) p2) 1 (Int32.toNatClampNeg 6) (((wr (wr M 1 (Int32.toNatClampNeg (43 + (2 * (M 1 (Int32.toNatClampNeg 6))))) p1) 1 (Int32.toNatClampNeg ((43 + (2 * ((wr M 1 (Int32.toNatClampNeg (43 + (2 * (M 1 (Int32.toNatClampNeg 6))))) p1) 1 (Int32.toNatClampNeg 6)))) + 1)) p2) 1 (Int32.toNatClampNeg 6)) + 1)) 1 (Int32.toNatClampNeg 6)) - 1), wr (wr (wr M 1 (Int32.toNatClampNeg (43 + (2 * (M 1 (Int32.toNatClampNeg 6))))) p1) 1 (Int32.toNatClampNeg ((43 + (2 * ((wr M 1 (Int32.toNatClampNeg (43 + (2 * (M 1 (Int32.toNatClampNeg 6))))) p1) 1 (Int32.toNatClampNeg 6)))) + 1)) p2) 1 (Int32.toNatClampNeg 6) (((wr (wr M 1 (Int32.toNatClampNeg (43 + (2 * (M 1 (Int32.toNatClampNeg 6))))) p1) 1 (Int32.toNatClampNeg ((43 + (2 * ((wr M 1 (Int32.toNatClampNeg (43 + (2 * (M 1 (Int32.toNatClampNeg 6))))) p1) 1 (Int32.toNatClampNeg 6)))) + 1)) p2) 1 (Int32.toNatClampNeg 6)) + 1))))))))))))))
def fX12_forget (M : mM) : Option (Int32 × mM) :=
  (b2 (fX12_becomes M 6 0) fun r1 M3 => (some (r1, M3)))
def fX12_fitting_L142 (k4 : mM → Int32 → Int32 → Int32 → Option (Int32 × mM)) (k9 : mM → Int32 → Int32 → Int32 → Int32 → Option (Int32 × mM)) (M : mM) (x1 : Int32) (x2 : Int32) (x3 : Int32) (x4 : Int32) (x5 : Int32) (t1 : Int32) : Option (Int32 × mM) :=
  (if x5 = 0 then (k9 (wr M 0 18 t1) x1 (x2 + 0) x3 (x4 + 1)) else (k9 (wr M 0 18 t1) x1 (x2 + 1) x3 (x4 + 1)))
def fX12_fitting_L138 (k4 : mM → Int32 → Int32 → Int32 → Option (Int32 × mM)) (k9 : mM → Int32 → Int32 → Int32 → Int32 → Option (Int32 × mM)) (M : mM) (x1 : Int32) (x2 : Int32) (x3 : Int32) (x4 : Int32) (x5 : Int32) : Option (Int32 × mM) :=
  (fX12_fitting_L142 k4 k9 M x1 x2 x3 x4 x5 (M 0 18))
def fX12_fitting_L120 (k4 : mM → Int32 → Int32 → Int32 → Option (Int32 × mM)) (k9 : mM → Int32 → Int32 → Int32 → Int32 → Option (Int32 × mM)) (M : mM) (x1 : Int32) (x2 : Int32) (x3 : Int32) (x4 : Int32) (x5 : Int32) (t1 : Int32) : Option (Int32 × mM) :=
  (if x5 = 0 then (fX12_fitting_L138 k4 k9 (wr M 0 17 t1) x1 x2 x3 x4 x5) else (if x2 = 0 then (fX12_fitting_L142 k4 k9 (wr M 0 17 t1) x1 x2 x3 x4 x5 x4) else (fX12_fitting_L138 k4 k9 (wr M 0 17 t1) x1 x2 x3 x4 x5)))
def fX12_fitting_L116 (k4 : mM → Int32 → Int32 → Int32 → Option (Int32 × mM)) (k9 : mM → Int32 → Int32 → Int32 → Int32 → Option (Int32 × mM)) (M : mM) (x1 : Int32) (x2 : Int32) (x3 : Int32) (x4 : Int32) (x5 : Int32) : Option (Int32 × mM) :=
  (fX12_fitting_L120 k4 k9 M x1 x2 x3 x4 x5 (M 0 17))
def fX12_fitting_L25_b (k4 : mM → Int32 → Int32 → Int32 → Option (Int32 × mM)) (k9 : mM → Int32 → Int32 → Int32 → Int32 → Option (Int32 × mM)) (k16 : mM → Int32 → Int32 → Int32 → Int32 → Int32 → Int32 → Option (Int32 × mM)) (M : mM) (x1 : Int32) (x2 : Int32) (x3 : Int32) (x4 : Int32) (x5 : Int32) (x6 : Int32) : Option (Int32 × mM) :=
  (gd (ix 6 295) (if (M 1 (Int32.toNatClampNeg 6)) ≤ x6 then (if x5 = 0 then (fX12_fitting_L116 k4 k9 M x1 x2 x3 x4 x5) else (if x2 = 0 then (fX12_fitting_L120 k4 k9 M x1 x2 x3 x4 x5 x3) else (fX12_fitting_L116 k4 k9 M x1 x2 x3 x4 x5))) else (gd (ix (43 + (2 * x6)) 295) (if x5 = 0 then (k16 M x1 x2 x3 x4 0 (x6 + 1)) else (if x6 = x1 then (k16 M x1 x2 x3 x4 1 (x6 + 1)) else (gd (ix ((43 + (2 * x6)) + 1) 295) (if (fX12_around (x4 + (x3 * (M 1 (Int32.toNatClampNeg (43 + (2 * x6))))))) = (M 1 (Int32.toNatClampNeg ((43 + (2 * x6)) + 1))) then (k16 M x1 x2 x3 x4 1 (x6 + 1)) else (k16 M x1 x2 x3 x4 0 (x6 + 1)))))))))
def fX12_fitting_L25 (k4 : mM → Int32 → Int32 → Int32 → Option (Int32 × mM)) (k9 : mM → Int32 → Int32 → Int32 → Int32 → Option (Int32 × mM)) : Nat → mM → Int32 → Int32 → Int32 → Int32 → Int32 → Int32 → Option (Int32 × mM)
  | 0 => fun _ _ _ _ _ _ _ => none
  | n + 1 => fX12_fitting_L25_b k4 k9 (fX12_fitting_L25 k4 k9 n)
def fX12_fitting_L12_b (k4 : mM → Int32 → Int32 → Int32 → Option (Int32 × mM)) (k9 : mM → Int32 → Int32 → Int32 → Int32 → Option (Int32 × mM)) (M : mM) (x1 : Int32) (x2 : Int32) (x3 : Int32) (x4 : Int32) : Option (Int32 × mM) :=
  (if 24 ≤ x4 then (k4 M x1 x2 (x3 + 1)) else (fX12_fitting_L25 k4 k9 5000 M x1 x2 x3 x4 1 0))
def fX12_fitting_L12 (k4 : mM → Int32 → Int32 → Int32 → Option (Int32 × mM)) : Nat → mM → Int32 → Int32 → Int32 → Int32 → Option (Int32 × mM)
  | 0 => fun _ _ _ _ _ => none
  | n + 1 => fX12_fitting_L12_b k4 (fX12_fitting_L12 k4 n)
def fX12_fitting_L4_b (k4 : mM → Int32 → Int32 → Int32 → Option (Int32 × mM)) (M : mM) (x1 : Int32) (x2 : Int32) (x3 : Int32) : Option (Int32 × mM) :=
  (if 1 < x3 then (some (x2, M)) else (fX12_fitting_L12 k4 5000 M x1 x2 x3 0))
def fX12_fitting_L4 : Nat → mM → Int32 → Int32 → Int32 → Option (Int32 × mM)
  | 0 => fun _ _ _ _ => none
  | n + 1 => fX12_fitting_L4_b (fX12_fitting_L4 n)
def fX12_fitting (M : mM) (p1 : Int32) : Option (Int32 × mM) :=
  (fX12_fitting_L4 5000 M p1 0 (-1))
def fX12_span (M : mM) (p1 : Int32) : Option (Int32 × mM) :=
  (if (fX12_in (Int32.toInt64 p1) 0 2) = 0 then (some ((-1), M)) else (b2 (fX12_fitting M (-1)) fun r2 M4 => (if p1 = 0 then (some (r2, M4)) else (if r2 = 0 then (some ((-3), M4)) else (if p1 = 1 then (some (((M4 0 17) + 1), M4)) else (some ((M4 0 18), M4)))))))
def fX12_liar_L45 (M : mM) (x1 : Int32) : Option (Int32 × mM) :=
  (gd (ix 6 295) (if (M 1 (Int32.toNatClampNeg 6)) ≤ x1 then (some ((-3), M)) else (some (x1, M))))
def fX12_liar_L20_b (k11 : mM → Int32 → Option (Int32 × mM)) (M : mM) (x1 : Int32) : Option (Int32 × mM) :=
  (gd (ix 6 295) (if (M 1 (Int32.toNatClampNeg 6)) ≤ x1 then (fX12_liar_L45 M x1) else (b2 (fX12_fitting M x1) fun r7 M9 => (if r7 = 0 then (k11 M9 (x1 + 1)) else (fX12_liar_L45 M9 x1)))))
def fX12_liar_L20 : Nat → mM → Int32 → Option (Int32 × mM)
  | 0 => fun _ _ => none
  | n + 1 => fX12_liar_L20_b (fX12_liar_L20 n)
def fX12_liar_L19 (M : mM) (t0 : Int32) : Option (Int32 × mM) :=
  (fX12_liar_L20 5000 M t0)
def fX12_liar (M : mM) : Option (Int32 × mM) :=
  (b2 (fX12_fitting M (-1)) fun r1 M3 => (if r1 ≤ 0 then (fX12_liar_L19 M3 0) else (gd (ix 6 295) (fX12_liar_L19 M3 (M3 1 (Int32.toNatClampNeg 6))))))
def fX12_seed (M : mM) (p1 : Int32) : Option (Int32 × mM) :=
  (b2 (fX12_becomes M 5 p1) fun r1 M3 => (some (r1, M3)))
def fX12_draw (M : mM) : Option (Int32 × mM) :=
  (gd (ix 5 295) (gd (ix 5 295) (gd (ix 5 295) (if ((iushr ((wr M 1 (Int32.toNatClampNeg 5) (((M 1 (Int32.toNatClampNeg 5)) * 1103515245) + 12345)) 1 (Int32.toNatClampNeg 5)) 16) &&& 1) = 1 then (some (1, wr M 1 (Int32.toNatClampNeg 5) (((M 1 (Int32.toNatClampNeg 5)) * 1103515245) + 12345))) else (some (0, wr M 1 (Int32.toNatClampNeg 5) (((M 1 (Int32.toNatClampNeg 5)) * 1103515245) + 12345)))))))
def fX12_sumByLot_L4_b (k4 : mM → Int32 → Int32 → Option (Int32 × mM)) (M : mM) (x1 : Int32) (x2 : Int32) : Option (Int32 × mM) :=
  (gd (ix 0 295) (if (M 1 (Int32.toNatClampNeg 0)) ≤ x2 then (some (x1, M)) else (b1 (fX12_its M x2 4) fun r2 => (if r2 = 1 then (b2 (fX12_draw M) fun r4 M6 => (if r4 = 0 then (k4 M6 x1 (x2 + 1)) else (b1 (fX12_voteOf M6 x2) fun r8 => (b2 (fX12_powerOf M6 x2) fun r10 M12 => (k4 M12 (x1 + (r8 * r10)) (x2 + 1)))))) else (k4 M x1 (x2 + 1))))))
def fX12_sumByLot_L4 : Nat → mM → Int32 → Int32 → Option (Int32 × mM)
  | 0 => fun _ _ _ => none
  | n + 1 => fX12_sumByLot_L4_b (fX12_sumByLot_L4 n)
def fX12_sumByLot (M : mM) : Option (Int32 × mM) :=
  (fX12_sumByLot_L4 5000 M 0 0)
def fX12_lot (M : mM) : Option (Int32 × mM) :=
  (gd (ix 2 295) (if (M 1 (Int32.toNatClampNeg 2)) = 9999 then (some ((-4), M)) else (b2 (fX12_sumByLot M) fun r2 M4 => (b2 (fX12_noonBy M4 r2) fun r5 M7 => (some (r5, M7))))))
def fX12_often_L34_b (k20 : mM → Int32 → Int32 → Int32 → Int32 → Int32 → Option (Int32 × mM)) (M : mM) (x1 : Int32) (x2 : Int32) (x3 : Int32) (x4 : Int32) (x5 : Int32) : Option (Int32 × mM) :=
  (if x1 ≤ x5 then (gd (ix 5 295) (some (x4, wr M 1 (Int32.toNatClampNeg 5) x3))) else (gd (ix 1 295) (b2 (fX12_sumByLot M) fun r8 M10 => (b1 (fX12_moveBy M10 r8) fun r11 => (if (fX12_around ((M 1 (Int32.toNatClampNeg 1)) + r11)) = x2 then (k20 M10 x1 x2 x3 (x4 + 1) (x5 + 1)) else (k20 M10 x1 x2 x3 (x4 + 0) (x5 + 1)))))))
def fX12_often_L34 : Nat → mM → Int32 → Int32 → Int32 → Int32 → Int32 → Option (Int32 × mM)
  | 0 => fun _ _ _ _ _ _ => none
  | n + 1 => fX12_often_L34_b (fX12_often_L34 n)
def fX12_often (M : mM) (p1 : Int32) (p2 : Int32) : Option (Int32 × mM) :=
  (if (fX12_in (Int32.toInt64 p1) 1 60) = 0 then (some ((-1), M)) else (if (fX12_isHour p2) = 0 then (some ((-1), M)) else (gd (ix 5 295) (fX12_often_L34 5000 M p1 p2 (M 1 (Int32.toNatClampNeg 5)) 0 0))))
def fX12_thinksAll (M : mM) : Option (Int32 × mM) :=
  (b2 (fX12_thinks M) fun r1 M3 => (b1 (fX12_awakeSet M3) fun r4 => (some (0, wr M3 0 21 r4))))
def fX12_laysAllBack_L6_b (k4 : mM → Int32 → Option (Int32 × mM)) (M : mM) (x1 : Int32) : Option (Int32 × mM) :=
  (gd (ix 0 295) (if (M 1 (Int32.toNatClampNeg 0)) ≤ x1 then (some (0, M)) else (b2 (fX12_sets M x1 4 (((M 0 21) >>> (x1 &&& 31)) &&& 1)) fun r5 M7 => (k4 M7 (x1 + 1)))))
def fX12_laysAllBack_L6 : Nat → mM → Int32 → Option (Int32 × mM)
  | 0 => fun _ _ => none
  | n + 1 => fX12_laysAllBack_L6_b (fX12_laysAllBack_L6 n)
def fX12_laysAllBack (M : mM) : Option (Int32 × mM) :=
  (b2 (fX12_laysBack M) fun r1 M3 => (fX12_laysAllBack_L6 5000 M3 0))
def fX12_prove_L29_b (k18 : mM → Int32 → Int32 → Option (Int32 × mM)) (M : mM) (x2 : Int32) (x3 : Int32) : Option (Int32 × mM) :=
  (if x2 ≤ x3 then (b2 (fX12_laysAllBack M) fun r10 M12 => (some (x2, wr M12 0 20 x2))) else (gd (ix x3 4) (b2 (fX12_does M (M 7 (Int32.toNatClampNeg x3))) fun r14 M16 => (b2 (fX12_sumNow M16) fun r17 M19 => (b1 (fX12_moveBy M19 r17) fun r20 => (b2 (fX12_turns M19 r20) fun r22 M24 => (gd (ix x3 4) (gd (ix (3 * x3) 12) (gd (ix ((3 * x3) + 1) 12) (gd (ix 1 295) (gd (ix ((3 * x3) + 2) 12) (k18 (wr (wr (wr M24 9 (Int32.toNatClampNeg (3 * x3)) (M24 7 (Int32.toNatClampNeg x3))) 9 (Int32.toNatClampNeg ((3 * x3) + 1)) r17) 9 (Int32.toNatClampNeg ((3 * x3) + 2)) ((wr (wr M24 9 (Int32.toNatClampNeg (3 * x3)) (M24 7 (Int32.toNatClampNeg x3))) 9 (Int32.toNatClampNeg ((3 * x3) + 1)) r17) 1 (Int32.toNatClampNeg 1))) x2 (x3 + 1)))))))))))))
def fX12_prove_L29 : Nat → mM → Int32 → Int32 → Option (Int32 × mM)
  | 0 => fun _ _ _ => none
  | n + 1 => fX12_prove_L29_b (fX12_prove_L29 n)
def fX12_prove (M : mM) (p1 : Int32) : Option (Int32 × mM) :=
  (if (fX12_isHour p1) = 0 then (some ((-1), M)) else (b2 (fX12_fewestFor M p1 4) fun r2 M4 => (if 0 ≤ r2 then (b2 (fX12_thinksAll M4) fun r5 M7 => (fX12_prove_L29 5000 M7 r2 0)) else (some ((-3), M4)))))
def fX12_isCell (M : mM) (p1 : Int32) (p2 : Int32) : Int32 :=
  (if (fX12_in (Int32.toInt64 p1) 0 (Int32.toInt64 ((M 0 20) - 1))) = 0 then 0 else (if (fX12_in (Int32.toInt64 p2) 0 2) = 0 then 0 else 1))
def fX12_row (M : mM) (p1 : Int32) (p2 : Int32) : Option Int32 :=
  (if (fX12_isCell M p1 p2) = 0 then (some (-9)) else (gd (ix ((3 * p1) + p2) 12) (some (M 9 (Int32.toNatClampNeg ((3 * p1) + p2))))))
def fX12_alterRow (M : mM) (p1 : Int32) (p2 : Int32) (p3 : Int32) : Option (Int32 × mM) :=
  (if (fX12_isCell M p1 p2) = 0 then (some (0, M)) else (gd (ix ((3 * p1) + p2) 12) (gd (ix ((3 * p1) + p2) 12) (if (M 9 (Int32.toNatClampNeg ((3 * p1) + p2))) = p3 then (some (1, wr M 9 (Int32.toNatClampNeg ((3 * p1) + p2)) p3)) else (some (2, wr M 9 (Int32.toNatClampNeg ((3 * p1) + p2)) p3))))))
def fX12_isRight_L76 (M : mM) (x1 : Int32) (x3 : Int32) (t0 : Int32) : Option (Int32 × mM) :=
  (gd (ix ((3 * x1) + 1) 12) (if (M 9 (Int32.toNatClampNeg ((3 * x1) + 1))) = x3 then (gd (ix ((3 * x1) + 2) 12) (gd (ix 1 295) (if (M 9 (Int32.toNatClampNeg ((3 * x1) + 2))) = (M 1 (Int32.toNatClampNeg 1)) then (if t0 = 0 then (some (0, M)) else (some (1, M))) else (some (0, M))))) else (some (0, M))))
def fX12_isRight_L71 (M : mM) (x1 : Int32) (x3 : Int32) : Option (Int32 × mM) :=
  (fX12_isRight_L76 M x1 x3 1)
def fX12_isRight (M : mM) (p1 : Int32) (p2 : Int32) : Option (Int32 × mM) :=
  (gd (ix (3 * p1) 12) (gd (ix 0 295) (if (fX12_in (Int32.toInt64 (M 9 (Int32.toNatClampNeg (3 * p1)))) 0 (Int32.toInt64 (M 1 (Int32.toNatClampNeg 0)))) = 0 then (some (0, M)) else (gd (ix (3 * p1) 12) (b2 (fX12_does M (M 9 (Int32.toNatClampNeg (3 * p1)))) fun r5 M7 => (b2 (fX12_sumNow M7) fun r8 M10 => (b1 (fX12_moveBy M10 r8) fun r11 => (b2 (fX12_turns M10 r11) fun r13 M15 => (if (p1 + 1) < (M15 0 20) then (fX12_isRight_L71 M15 p1 r8) else (gd (ix 1 295) (if (M15 1 (Int32.toNatClampNeg 1)) = p2 then (fX12_isRight_L71 M15 p1 r8) else (fX12_isRight_L76 M15 p1 r8 0))))))))))))
def fX12_judge_L38 (M : mM) (x2 : Int32) : Option (Int32 × mM) :=
  (b2 (fX12_laysAllBack M) fun r12 M14 => (if (M14 0 20) ≤ x2 then (some (0, M14)) else (some ((x2 + 1), M14))))
def fX12_judge_L15_b (k9 : mM → Int32 → Int32 → Option (Int32 × mM)) (M : mM) (x1 : Int32) (x2 : Int32) : Option (Int32 × mM) :=
  (if (M 0 20) ≤ x2 then (fX12_judge_L38 M x2) else (b2 (fX12_isRight M x2 x1) fun r6 M8 => (if r6 = 0 then (fX12_judge_L38 M8 x2) else (k9 M8 x1 (x2 + 1)))))
def fX12_judge_L15 : Nat → mM → Int32 → Int32 → Option (Int32 × mM)
  | 0 => fun _ _ _ => none
  | n + 1 => fX12_judge_L15_b (fX12_judge_L15 n)
def fX12_judge (M : mM) (p1 : Int32) : Option (Int32 × mM) :=
  (if (fX12_isHour p1) = 0 then (some ((-1), M)) else (b2 (fX12_thinksAll M) fun r2 M4 => (fX12_judge_L15 5000 M4 p1 0)))
def fX12_isFour (p0 : Int32) : Int32 :=
  (fX12_in (Int32.toInt64 p0) 0 3)
def fX12_sheet_L69_b (k38 : mM → Int32 → Int32 → Option (Int32 × mM)) (M : mM) (x1 : Int32) (x4 : Int32) : Option (Int32 × mM) :=
  (if 40 ≤ x4 then (some (1, M)) else (gd (ix ((40 * x1) + x4) 160) (k38 (wr M 12 (Int32.toNatClampNeg ((40 * x1) + x4)) 0) x1 (x4 + 1))))
def fX12_sheet_L69 : Nat → mM → Int32 → Int32 → Option (Int32 × mM)
  | 0 => fun _ _ _ => none
  | n + 1 => fX12_sheet_L69_b (fX12_sheet_L69 n)
def fX12_sheet_L65 (M : mM) (x1 : Int32) (t1 : Int32) (t2 : Int32) : Option (Int32 × mM) :=
  (gd (ix t1 4) (fX12_sheet_L69 5000 (wr M 11 (Int32.toNatClampNeg t1) t2) x1 0))
def fX12_sheet_L44 (M : mM) (x1 : Int32) (x2 : Int32) (x3 : Int32) : Option (Int32 × mM) :=
  (gd (ix x1 4) (if 0 ≤ x2 then (fX12_sheet_L65 (wr M 10 (Int32.toNatClampNeg x1) x2) x1 x1 x3) else (fX12_sheet_L65 (wr M 10 (Int32.toNatClampNeg x1) x2) x1 x1 0)))
def fX12_sheet_L33 (M : mM) (x1 : Int32) (x2 : Int32) (x3 : Int32) : Option (Int32 × mM) :=
  (if x2 < 0 then (fX12_sheet_L44 M x1 x2 x3) else (if 0 ≤ x3 then (fX12_sheet_L44 M x1 x2 x3) else (some ((-14), M))))
def fX12_sheet (M : mM) (p1 : Int32) (p2 : Int32) (p3 : Int32) : Option (Int32 × mM) :=
  (if (fX12_isFour p1) = 0 then (some ((-1), M)) else (if (fX12_in (Int32.toInt64 p2) (-1) 4) = 0 then (some ((-1), M)) else (if p2 < 0 then (fX12_sheet_L33 M p1 p2 p3) else (if p3 ≤ 40 then (fX12_sheet_L33 M p1 p2 p3) else (some ((-1), M))))))
def fX12_lacks_L29 (M : mM) (x1 : Int32) (x3 : Int32) : Option Int32 :=
  (gd (ix x1 4) (if (fX12_in (Int32.toInt64 x3) 0 (Int32.toInt64 ((M 11 (Int32.toNatClampNeg x1)) - 1))) = 0 then (some (-12)) else (some 0)))
def fX12_lacks (M : mM) (p1 : Int32) (p2 : Int32) (p3 : Int32) : Option Int32 :=
  (gd (ix p1 4) (if 0 ≤ (M 10 (Int32.toNatClampNeg p1)) then (if p2 < 0 then (fX12_lacks_L29 M p1 p3) else (gd (ix p1 4) (if p2 = (M 10 (Int32.toNatClampNeg p1)) then (fX12_lacks_L29 M p1 p3) else (some (-13))))) else (some (-11))))
def fX12_narrowed (p0 : Int32) (p1 : Int32) : Int32 :=
  (if p0 = 0 then (i2b p1) else (if p0 = 1 then (i2s p1) else (if p0 = 4 then (if p1 = 0 then 0 else 1) else p1)))
def fX12_write (M : mM) (p1 : Int32) (p2 : Int32) (p3 : Int32) : Option (Int32 × mM) :=
  (if (fX12_isFour p1) = 0 then (some ((-1), M)) else (b1 (fX12_lacks M p1 (-1) p2) fun r2 => (if 0 ≤ r2 then (gd (ix p1 4) (gd (ix ((40 * p1) + p2) 160) (some (1, wr M 12 (Int32.toNatClampNeg ((40 * p1) + p2)) (fX12_narrowed (M 10 (Int32.toNatClampNeg p1)) p3))))) else (some (r2, M)))))
def fX12_item (M : mM) (p1 : Int32) (p2 : Int32) (p3 : Int32) : Option Int32 :=
  (if (fX12_isFour p1) = 0 then (some (-1)) else (if (fX12_in (Int32.toInt64 p2) 0 4) = 0 then (some (-1)) else (b1 (fX12_lacks M p1 p2 p3) fun r3 => (if 0 ≤ r3 then (gd (ix ((40 * p1) + p3) 160) (some (M 12 (Int32.toNatClampNeg ((40 * p1) + p3))))) else (some r3)))))
def fX12_lacksBytes (M : mM) (p1 : Int32) : Option Int32 :=
  (gd (ix p1 4) (if 0 ≤ (M 10 (Int32.toNatClampNeg p1)) then (gd (ix p1 4) (if (M 10 (Int32.toNatClampNeg p1)) = 0 then (some 0) else (some (-13)))) else (some (-11))))
def fX12_goAll_L80 (k19 : mM → Int32 → Int32 → Int32 → Int32 → Int32 → Int32 → Option (Int32 × mM)) (M : mM) (x1 : Int32) (x2 : Int32) (x3 : Int32) (x4 : Int32) (x5 : Int32) (x6 : Int32) (t0 : Int32) : Option (Int32 × mM) :=
  (gd (ix 0 295) (if (fX12_in (Int32.toInt64 t0) 0 (Int32.toInt64 (M 1 (Int32.toNatClampNeg 0)))) = 0 then (k19 M x1 x2 x3 x4 x5 (x6 + 1)) else (gd (ix 2 295) (if 9999 ≤ (M 1 (Int32.toNatClampNeg 2)) then (k19 M x1 x2 x3 x4 x5 (x6 + 1)) else (b2 (fX12_does M t0) fun r18 M20 => (b2 (fX12_sumNow M20) fun r21 M23 => (b2 (fX12_noonBy M23 r21) fun r24 M26 => (if r21 = 0 then (k19 M26 x1 x2 x3 x4 (x5 + 0) (x6 + 1)) else (k19 M26 x1 x2 x3 x4 (x5 + 1) (x6 + 1))))))))))
def fX12_goAll_L34_b (k19 : mM → Int32 → Int32 → Int32 → Int32 → Int32 → Int32 → Option (Int32 × mM)) (M : mM) (x1 : Int32) (x2 : Int32) (x3 : Int32) (x4 : Int32) (x5 : Int32) (x6 : Int32) : Option (Int32 × mM) :=
  (if x3 ≤ x6 then (if 0 ≤ x4 then (some (x5, M)) else (some (x4, M))) else (if x4 = 0 then (b1 (fX12_lacks M x1 0 (x2 + x6)) fun r9 => (if r9 = 0 then (gd (ix (((40 * x1) + x2) + x6) 160) (fX12_goAll_L80 k19 M x1 x2 x3 r9 x5 x6 (M 12 (Int32.toNatClampNeg (((40 * x1) + x2) + x6))))) else (fX12_goAll_L80 k19 M x1 x2 x3 r9 x5 x6 (-1)))) else (if 0 ≤ x4 then (some (x5, M)) else (some (x4, M)))))
def fX12_goAll_L34 : Nat → mM → Int32 → Int32 → Int32 → Int32 → Int32 → Int32 → Option (Int32 × mM)
  | 0 => fun _ _ _ _ _ _ _ => none
  | n + 1 => fX12_goAll_L34_b (fX12_goAll_L34 n)
def fX12_goAll (M : mM) (p1 : Int32) (p2 : Int32) (p3 : Int32) : Option (Int32 × mM) :=
  (if (fX12_isFour p1) = 0 then (some ((-1), M)) else (if (fX12_in (Int32.toInt64 p3) 0 20) = 0 then (some ((-1), M)) else (b1 (fX12_lacksBytes M p1) fun r3 => (fX12_goAll_L34 5000 M p1 p2 p3 r3 0 0))))
def fX12_wouldBe_L165 (M : mM) (x4 : Int32) (x5 : Int32) : Option (Int32 × mM) :=
  (gd (ix 1 295) (b2 (fX12_laysAllBack M) fun r17 M19 => (if 0 ≤ x4 then (some (((100 * x5) + (M 1 (Int32.toNatClampNeg 1))), M19)) else (some (x4, M19)))))
def fX12_wouldBe_L115 (k21 : mM → Int32 → Int32 → Int32 → Int32 → Int32 → Int32 → Option (Int32 × mM)) (M : mM) (x1 : Int32) (x2 : Int32) (x3 : Int32) (x5 : Int32) (x6 : Int32) (x7 : Int32) (t0 : Int32) : Option (Int32 × mM) :=
  (if t0 = 0 then (b2 (fX12_does M x7) fun r25 M27 => (b2 (fX12_sumNow M27) fun r28 M30 => (b1 (fX12_moveBy M30 r28) fun r31 => (b2 (fX12_turns M30 r31) fun r33 M35 => (if r28 = 0 then (k21 M35 x1 x2 x3 t0 (x5 + 0) (x6 + 1)) else (k21 M35 x1 x2 x3 t0 (x5 + 1) (x6 + 1))))))) else (k21 M x1 x2 x3 t0 x5 (x6 + 1)))
def fX12_wouldBe_L113 (k21 : mM → Int32 → Int32 → Int32 → Int32 → Int32 → Int32 → Option (Int32 × mM)) (M : mM) (x1 : Int32) (x2 : Int32) (x3 : Int32) (x4 : Int32) (x5 : Int32) (x6 : Int32) (x7 : Int32) : Option (Int32 × mM) :=
  (fX12_wouldBe_L115 k21 M x1 x2 x3 x5 x6 x7 x4)
def fX12_wouldBe_L84 (k21 : mM → Int32 → Int32 → Int32 → Int32 → Int32 → Int32 → Option (Int32 × mM)) (M : mM) (x1 : Int32) (x2 : Int32) (x3 : Int32) (x4 : Int32) (x5 : Int32) (x6 : Int32) (t0 : Int32) : Option (Int32 × mM) :=
  (if x4 = 0 then (gd (ix 0 295) (if (fX12_in (Int32.toInt64 t0) 0 (Int32.toInt64 (M 1 (Int32.toNatClampNeg 0)))) = 0 then (fX12_wouldBe_L115 k21 M x1 x2 x3 x5 x6 t0 (-4)) else (fX12_wouldBe_L113 k21 M x1 x2 x3 x4 x5 x6 t0))) else (fX12_wouldBe_L113 k21 M x1 x2 x3 x4 x5 x6 t0))
def fX12_wouldBe_L38_b (k21 : mM → Int32 → Int32 → Int32 → Int32 → Int32 → Int32 → Option (Int32 × mM)) (M : mM) (x1 : Int32) (x2 : Int32) (x3 : Int32) (x4 : Int32) (x5 : Int32) (x6 : Int32) : Option (Int32 × mM) :=
  (if x3 ≤ x6 then (fX12_wouldBe_L165 M x4 x5) else (if x4 = 0 then (b1 (fX12_lacks M x1 0 (x2 + x6)) fun r10 => (if r10 = 0 then (gd (ix (((40 * x1) + x2) + x6) 160) (fX12_wouldBe_L84 k21 M x1 x2 x3 r10 x5 x6 (M 12 (Int32.toNatClampNeg (((40 * x1) + x2) + x6))))) else (fX12_wouldBe_L84 k21 M x1 x2 x3 r10 x5 x6 0))) else (fX12_wouldBe_L165 M x4 x5)))
def fX12_wouldBe_L38 : Nat → mM → Int32 → Int32 → Int32 → Int32 → Int32 → Int32 → Option (Int32 × mM)
  | 0 => fun _ _ _ _ _ _ _ => none
  | n + 1 => fX12_wouldBe_L38_b (fX12_wouldBe_L38 n)
def fX12_wouldBe (M : mM) (p1 : Int32) (p2 : Int32) (p3 : Int32) : Option (Int32 × mM) :=
  (if (fX12_isFour p1) = 0 then (some ((-1), M)) else (if (fX12_in (Int32.toInt64 p3) 0 20) = 0 then (some ((-1), M)) else (b1 (fX12_lacksBytes M p1) fun r3 => (b2 (fX12_thinksAll M) fun r5 M7 => (fX12_wouldBe_L38 5000 M7 p1 p2 p3 r3 0 0)))))
def fX12_shelf_L107 (M : mM) (x1 : Int32) (x3 : Int32) (x5 : Int32) (t1 : Int32) (t2 : Int32) : Option (Int32 × mM) :=
  (gd (ix t1 4) (if x5 = 0 then (gd (ix x1 4) (some (1, wr (wr M 14 (Int32.toNatClampNeg t1) t2) 15 (Int32.toNatClampNeg x1) 0))) else (gd (ix x3 4) (gd (ix x1 4) (some (1, wr (wr M 14 (Int32.toNatClampNeg t1) t2) 15 (Int32.toNatClampNeg x1) ((wr M 14 (Int32.toNatClampNeg t1) t2) 11 (Int32.toNatClampNeg x3))))))))
def fX12_shelf_L86 (M : mM) (x1 : Int32) (x3 : Int32) (x5 : Int32) (t1 : Int32) (t2 : Int32) : Option (Int32 × mM) :=
  (gd (ix t1 4) (if x5 = 0 then (fX12_shelf_L107 (wr M 13 (Int32.toNatClampNeg t1) t2) x1 x3 x5 x1 x3) else (gd (ix x3 4) (fX12_shelf_L107 (wr M 13 (Int32.toNatClampNeg t1) t2) x1 x3 x5 x1 ((wr M 13 (Int32.toNatClampNeg t1) t2) 10 (Int32.toNatClampNeg x3))))))
def fX12_shelf_L85 (M : mM) (x1 : Int32) (x2 : Int32) (x3 : Int32) (x5 : Int32) (t1 : Int32) : Option (Int32 × mM) :=
  (fX12_shelf_L86 M x1 x3 x5 t1 x2)
def fX12_shelf_L60 (M : mM) (x1 : Int32) (x2 : Int32) (x3 : Int32) (t0 : Int32) : Option (Int32 × mM) :=
  (if t0 = 0 then (fX12_shelf_L85 M x1 x2 x3 t0 x1) else (gd (ix x3 4) (if 0 ≤ (M 10 (Int32.toNatClampNeg x3)) then (fX12_shelf_L85 M x1 x2 x3 t0 x1) else (fX12_shelf_L86 M x1 x3 t0 x1 2))))
def fX12_shelf_L34 (M : mM) (x1 : Int32) (x2 : Int32) (x3 : Int32) (t0 : Int32) : Option (Int32 × mM) :=
  (if (fX12_isFour x1) = 0 then (some ((-1), M)) else (if t0 = 0 then (some ((-1), M)) else (if x2 = 1 then (fX12_shelf_L60 M x1 x2 x3 1) else (fX12_shelf_L60 M x1 x2 x3 0))))
def fX12_shelf (M : mM) (p1 : Int32) (p2 : Int32) (p3 : Int32) : Option (Int32 × mM) :=
  (if p2 = 0 then (b1 (fX12_isVoter M p3) fun r4 => (fX12_shelf_L34 M p1 p2 p3 r4)) else (if p2 = 1 then (fX12_shelf_L34 M p1 p2 p3 (fX12_isFour p3)) else (if p2 = 2 then (fX12_shelf_L34 M p1 p2 p3 1) else (fX12_shelf_L34 M p1 p2 p3 0))))
def fX12_isHeld (M : mM) (p1 : Int32) : Option Int32 :=
  (gd (ix p1 4) (if (M 13 (Int32.toNatClampNeg p1)) = 0 then (gd (ix p1 4) (b1 (fX12_isVoter M (M 14 (Int32.toNatClampNeg p1))) fun r3 => (if r3 = 0 then (some 0) else (some 1)))) else (some 0)))
def fX12_taken_L35 (M : mM) (x1 : Int32) (x2 : Int32) : Option Int32 :=
  (gd (ix x1 4) (if (M 13 (Int32.toNatClampNeg x1)) = 1 then (gd (ix x1 4) (if (x2 - 10) = (M 14 (Int32.toNatClampNeg x1)) then (gd (ix x1 4) (some (M 15 (Int32.toNatClampNeg x1)))) else (some (-13)))) else (b1 (fX12_isHeld M x1) fun r8 => (if r8 = 0 then (some (-11)) else (if 10 ≤ x2 then (some (-13)) else (gd (ix x1 4) (b1 (fX12_its M (M 14 (Int32.toNatClampNeg x1)) 0) fun r12 => (if (fX12_isUnder M r12 x2) = 0 then (some (-13)) else (gd (ix x1 4) (some (M 14 (Int32.toNatClampNeg x1))))))))))))
def fX12_taken (M : mM) (p1 : Int32) (p2 : Int32) : Option Int32 :=
  (if (fX12_isFour p1) = 0 then (some (-1)) else (if (fX12_in (Int32.toInt64 p2) 0 5) = 0 then (if (fX12_in (Int32.toInt64 p2) 10 14) = 0 then (some (-1)) else (fX12_taken_L35 M p1 p2)) else (fX12_taken_L35 M p1 p2)))
def fX12_runs (M : mM) (p1 : Int32) : Option (Int32 × mM) :=
  (if 30 ≤ (M 0 29) then (some (0, M)) else (gd (ix (M 0 29) 30) (some (0, wr (wr M 16 (Int32.toNatClampNeg (M 0 29)) p1) 0 29 (((wr M 16 (Int32.toNatClampNeg (M 0 29)) p1) 0 29) + 1)))))
def fX12_wishes (M : mM) (p1 : Int32) : Option (Int32 × mM) :=
  (if (M 0 30) = 1 then (b2 (fX12_runs M 20) fun r11 M13 => (b2 (fX12_runs M13 10) fun r14 M16 => (some ((2 * (p1 + (M16 0 32))), M16)))) else (if (M 0 30) = 3 then (b2 (fX12_runs M 50) fun r4 M6 => (b2 (fX12_runs M6 10) fun r7 M9 => (some (((p1 + (M9 0 32)) - 1), M9)))) else (b2 (fX12_runs M 10) fun r1 M3 => (some ((p1 + (M3 0 32)), M3)))))
def fX12_plainSways (M : mM) (p1 : Int32) : Option (Int32 × mM) :=
  (b2 (fX12_runs M 11) fun r1 M3 => (b2 (fX12_wishes M3 p1) fun r4 M6 => (some ((r4 - (M6 0 31)), M6))))
def fX12_sways_L16 (M : mM) (x1 : Int32) : Option (Int32 × mM) :=
  (b2 (fX12_runs M 30) fun r13 M15 => (b2 (fX12_plainSways M15 x1) fun r16 M18 => (some ((r16 ^^^ (M18 0 31)), M18))))
def fX12_sways (M : mM) (p1 : Int32) : Option (Int32 × mM) :=
  (if (M 0 30) = 2 then (fX12_sways_L16 M p1) else (if (M 0 30) = 3 then (fX12_sways_L16 M p1) else (if (M 0 30) = 5 then (b2 (fX12_runs M 60) fun r4 M6 => (b2 (fX12_plainSways M6 p1) fun r7 M9 => (some ((-r7), M9)))) else (b2 (fX12_plainSways M p1) fun r1 M3 => (some (r1, M3))))))
def fX12_plainTells (M : mM) (p1 : Int32) : Option (Int32 × mM) :=
  (b2 (fX12_runs M 13) fun r1 M3 => (b2 (fX12_sways M3 p1) fun r4 M6 => (some ((r4 ^^^ (M6 0 32)), M6))))
def fX12_plainShares_L30 (M : mM) (x1 : Int32) (t1 : Int32) : Option (Int32 × mM) :=
  (gd (isB t1) (if ((wr M 0 33 t1) 0 32) = ((wr M 0 33 t1) 0 31) then (some (0, wr M 0 33 t1)) else (gd (nz (((wr M 0 33 t1) 0 32) - ((wr M 0 33 t1) 0 31))) (some ((x1 / (((wr M 0 33 t1) 0 32) - ((wr M 0 33 t1) 0 31))), wr M 0 33 t1)))))
def fX12_plainShares_L25 (M : mM) (x1 : Int32) : Option (Int32 × mM) :=
  (fX12_plainShares_L30 M x1 1)
def fX12_plainShares (M : mM) (p1 : Int32) : Option (Int32 × mM) :=
  (b2 (fX12_runs M 12) fun r1 M3 => (if (M3 0 33) = 0 then (if (M3 0 32) = (M3 0 31) then (fX12_plainShares_L25 M3 p1) else (fX12_plainShares_L30 M3 p1 0)) else (fX12_plainShares_L25 M3 p1)))
def fX12_bakerShares (M : mM) (p1 : Int32) : Option (Int32 × mM) :=
  (b2 (fX12_runs M 40) fun r1 M3 => (b2 (fX12_plainShares M3 (p1 - 3)) fun r4 M6 => (some (r4, M6))))
def fX12_shares (M : mM) (p1 : Int32) : Option (Int32 × mM) :=
  (if (M 0 30) = 5 then (b2 (fX12_runs M 61) fun r8 M10 => (b2 (fX12_bakerShares M10 p1) fun r11 M13 => (if (M13 0 33) = 0 then (b2 (fX12_wishes M13 (M13 0 31)) fun r14 M16 => (some ((r11 - r14), M16))) else (some (0, M13))))) else (if (M 0 30) = 4 then (b2 (fX12_bakerShares M p1) fun r4 M6 => (some (r4, M6))) else (b2 (fX12_plainShares M p1) fun r1 M3 => (some (r1, M3)))))
def fX12_tells (M : mM) (p1 : Int32) : Option (Int32 × mM) :=
  (if (M 0 30) = 3 then (b2 (fX12_runs M 51) fun r4 M6 => (b2 (fX12_plainTells M6 p1) fun r7 M9 => (b2 (fX12_shares M9 (M9 0 32)) fun r10 M12 => (some ((r7 + r10), M12))))) else (b2 (fX12_plainTells M p1) fun r1 M3 => (some (r1, M3))))
def fX12_act_L113 (M : mM) (t0 : Int32) : Option (Int32 × mM) :=
  (if (M 0 33) = 0 then (some (t0, M)) else (some ((-15), M)))
def fX12_act (M : mM) (p1 : Int32) (p2 : Int32) (p3 : Int32) : Option (Int32 × mM) :=
  (if (fX12_isFour p1) = 0 then (some (0, wr M 0 29 0)) else (if (fX12_isFour p2) = 0 then (some (0, wr M 0 29 0)) else (b1 (fX12_isHeld (wr M 0 29 0) p1) fun r3 => (if r3 = 0 then (some (0, wr M 0 29 0)) else (gd (ix p1 4) (b1 (fX12_its (wr (wr M 0 29 0) 0 31 ((wr M 0 29 0) 14 (Int32.toNatClampNeg p1))) ((wr (wr M 0 29 0) 0 31 ((wr M 0 29 0) 14 (Int32.toNatClampNeg p1))) 0 31) 0) fun r7 => (b1 (fX12_its (wr (wr (wr M 0 29 0) 0 31 ((wr M 0 29 0) 14 (Int32.toNatClampNeg p1))) 0 30 r7) ((wr (wr (wr M 0 29 0) 0 31 ((wr M 0 29 0) 14 (Int32.toNatClampNeg p1))) 0 30 r7) 0 31) 1) fun r9 => (if p2 = 0 then (b2 (fX12_wishes (wr (wr (wr (wr (wr M 0 29 0) 0 31 ((wr M 0 29 0) 14 (Int32.toNatClampNeg p1))) 0 30 r7) 0 32 r9) 0 33 0) p3) fun r22 M24 => (fX12_act_L113 M24 r22)) else (if p2 = 1 then (b2 (fX12_sways (wr (wr (wr (wr (wr M 0 29 0) 0 31 ((wr M 0 29 0) 14 (Int32.toNatClampNeg p1))) 0 30 r7) 0 32 r9) 0 33 0) p3) fun r18 M20 => (fX12_act_L113 M20 r18)) else (if p2 = 2 then (b2 (fX12_shares (wr (wr (wr (wr (wr M 0 29 0) 0 31 ((wr M 0 29 0) 14 (Int32.toNatClampNeg p1))) 0 30 r7) 0 32 r9) 0 33 0) p3) fun r14 M16 => (fX12_act_L113 M16 r14)) else (b2 (fX12_tells (wr (wr (wr (wr (wr M 0 29 0) 0 31 ((wr M 0 29 0) 14 (Int32.toNatClampNeg p1))) 0 30 r7) 0 32 r9) 0 33 0) p3) fun r11 M13 => (fX12_act_L113 M13 r11))))))))))))
def fX12_trace (M : mM) (p1 : Int32) : Option Int32 :=
  (if (fX12_in (Int32.toInt64 p1) 0 (Int32.toInt64 ((M 0 29) - 1))) = 0 then (some (-3)) else (gd (ix p1 30) (some (M 16 (Int32.toNatClampNeg p1)))))
def fX12_many (M : mM) (p1 : Int32) : Option Int32 :=
  (if p1 = 0 then (gd (ix 0 295) (some (M 1 (Int32.toNatClampNeg 0)))) else (if p1 = 1 then (gd (ix 7 295) (some (M 1 (Int32.toNatClampNeg 7)))) else (if p1 = 2 then (gd (ix 2 295) (some (M 1 (Int32.toNatClampNeg 2)))) else (if p1 = 3 then (gd (ix 6 295) (some (M 1 (Int32.toNatClampNeg 6)))) else (if p1 = 4 then (some (M 0 20)) else (if p1 = 5 then (some (M 0 5)) else (if p1 = 6 then (some (M 0 29)) else (some (-1)))))))))
def fX12_become_q1_q2_L2_b (k2 : mM → Int32 → Option (Int32 × mM)) (M : mM) (x2 : Int32) : Option (Int32 × mM) :=
  (if 295 ≤ x2 then (some (0, M)) else (gd (ix x2 295) (gd (ix x2 295) (k2 (wr M 2 (Int32.toNatClampNeg x2) (M 1 (Int32.toNatClampNeg x2))) (x2 + 1)))))
def fX12_become_q1_q2_L2 : Nat → mM → Int32 → Option (Int32 × mM)
  | 0 => fun _ _ => none
  | n + 1 => fX12_become_q1_q2_L2_b (fX12_become_q1_q2_L2 n)
def fX12_become_q1_q2 (M : mM) : Option (Int32 × mM) :=
  (fX12_become_q1_q2_L2 5000 M 0)
def fX12_keep (M : mM) : Option (Int32 × mM) :=
  (b2 (fX12_become_q1_q2 M) fun r1 M3 => (some (1, wr M3 0 2 1)))
def fX12_become_q2_q1_L2_b (k2 : mM → Int32 → Option (Int32 × mM)) (M : mM) (x2 : Int32) : Option (Int32 × mM) :=
  (if 295 ≤ x2 then (some (0, M)) else (gd (ix x2 295) (gd (ix x2 295) (k2 (wr M 1 (Int32.toNatClampNeg x2) (M 2 (Int32.toNatClampNeg x2))) (x2 + 1)))))
def fX12_become_q2_q1_L2 : Nat → mM → Int32 → Option (Int32 × mM)
  | 0 => fun _ _ => none
  | n + 1 => fX12_become_q2_q1_L2_b (fX12_become_q2_q1_L2 n)
def fX12_become_q2_q1 (M : mM) : Option (Int32 × mM) :=
  (fX12_become_q2_q1_L2 5000 M 0)
def fX12_again (M : mM) : Option (Int32 × mM) :=
  (if (M 0 2) = 0 then (some ((-3), M)) else (b2 (fX12_become_q2_q1 M) fun r1 M3 => (gd (ix 0 295) (some ((M3 1 (Int32.toNatClampNeg 0)), M3)))))
