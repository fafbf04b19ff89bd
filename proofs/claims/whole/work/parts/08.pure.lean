def fX11_isIn (p0 : Int32) (p1 : Int32) (p2 : Int32) : Int32 :=
  (if p0 < p1 then 0 else (if p2 < p0 then 0 else 1))
def fX11_isHour (p0 : Int32) : Int32 :=
  (fX11_isIn p0 0 23)
def fX11_suits (p0 : Int32) (p1 : Int32) : Int32 :=
  (if p0 = 1 then (fX11_isHour p1) else (if p0 = 2 then (fX11_isIn p1 1 9) else (if p0 = 3 then (fX11_isIn p1 0 99) else 0)))
def fJ7_fill_53178C_q63_L5_b (k5 : mM → Int32 → Int32 → Int32 → Option (Int32 × mM)) (M : mM) (x1 : Int32) (x2 : Int32) (x3 : Int32) : Option (Int32 × mM) :=
  (if x3 ≤ x2 then (some (0, M)) else (gd (ix x2 3072) (k5 (wr M 63 (Int32.toNatClampNeg x2) x1) x1 (x2 + 1) x3)))
def fJ7_fill_53178C_q63_L5 : Nat → mM → Int32 → Int32 → Int32 → Option (Int32 × mM)
  | 0 => fun _ _ _ _ => none
  | n + 1 => fJ7_fill_53178C_q63_L5_b (fJ7_fill_53178C_q63_L5 n)
def fJ7_fill_53178C_q63 (M : mM) (p1 : Int32) : Option (Int32 × mM) :=
  (fJ7_fill_53178C_q63_L5 5000 M p1 0 3072)
def fX11_forgetSums (M : mM) : Option (Int32 × mM) :=
  (b2 (fJ7_fill_53178C_q63 M (-1000000)) fun r1 M3 => (some (0, M3)))
def fX11_voter (M : mM) (p1 : Int32) (p2 : Int32) (p3 : Int32) (p4 : Int32) : Option (Int32 × mM) :=
  (if (fX11_isIn p1 1 5) = 0 then (some ((-1), M)) else (if (fX11_suits 1 p2) = 0 then (some ((-1), M)) else (if (fX11_suits 2 p3) = 0 then (some ((-1), M)) else (if (fX11_suits 3 p4) = 0 then (some ((-1), M)) else (if (M 1 0) < 7 then (gd (ix (M 1 0) 7) (gd (ix (M 1 0) 7) (gd (ix (M 1 0) 7) (gd (ix (M 1 0) 7) (b2 (fX11_forgetSums (wr (wr (wr (wr (wr (wr M 2 (Int32.toNatClampNeg (M 1 0)) p1) 3 (Int32.toNatClampNeg (M 1 0)) p2) 4 (Int32.toNatClampNeg (M 1 0)) p3) 5 (Int32.toNatClampNeg (M 1 0)) p4) 1 5 (((wr (wr (wr (wr M 2 (Int32.toNatClampNeg (M 1 0)) p1) 3 (Int32.toNatClampNeg (M 1 0)) p2) 4 (Int32.toNatClampNeg (M 1 0)) p3) 5 (Int32.toNatClampNeg (M 1 0)) p4) 1 5) ||| (1 <<< ((M 1 0) &&& 31)))) 1 0 (((wr (wr (wr (wr (wr M 2 (Int32.toNatClampNeg (M 1 0)) p1) 3 (Int32.toNatClampNeg (M 1 0)) p2) 4 (Int32.toNatClampNeg (M 1 0)) p3) 5 (Int32.toNatClampNeg (M 1 0)) p4) 1 5 (((wr (wr (wr (wr M 2 (Int32.toNatClampNeg (M 1 0)) p1) 3 (Int32.toNatClampNeg (M 1 0)) p2) 4 (Int32.toNatClampNeg (M 1 0)) p3) 5 (Int32.toNatClampNeg (M 1 0)) p4) 1 5) ||| (1 <<< ((M 1 0) &&& 31)))) 1 0) + 1))) fun r9 M11 => (some ((M 1 0), M11))))))) else (some ((-2), M)))))))
def fX11_isVoter (M : mM) (p1 : Int32) : Int32 :=
  (if p1 < 0 then 0 else (if (M 1 0) ≤ p1 then 0 else 1))
def fX11_isAwake (M : mM) (p1 : Int32) : Int32 :=
  (if (((M 1 5) >>> (p1 &&& 31)) &&& 1) = 1 then 1 else 0)
def fJ9_floorMod_7cf53C (M : mM) (p0 : Int32) (p1 : Int32) : Option Int32 :=
  (gd (nz p1) (if 0 ≤ (p0 ^^^ p1) then (some (irem p0 p1)) else (if (irem p0 p1) = 0 then (some (irem p0 p1)) else (some ((irem p0 p1) + p1)))))
def fX11_voteAt (M : mM) (p1 : Int32) (p2 : Int32) : Option Int32 :=
  (gd (ix p1 7) (b1 (fJ9_floorMod_7cf53C M ((M 3 (Int32.toNatClampNeg p1)) - p2) 24) fun r2 => (if r2 = 0 then (some 0) else (if 12 < r2 then (some (-1)) else (some 1)))))
def fJ6_bitCount_0f7a4C (p0 : Int32) : Int32 :=
  ((((((((p0 - ((iushr p0 1) &&& 1431655765)) &&& 858993459) + ((iushr (p0 - ((iushr p0 1) &&& 1431655765)) 2) &&& 858993459)) + (iushr (((p0 - ((iushr p0 1) &&& 1431655765)) &&& 858993459) + ((iushr (p0 - ((iushr p0 1) &&& 1431655765)) 2) &&& 858993459)) 4)) &&& 252645135) + (iushr (((((p0 - ((iushr p0 1) &&& 1431655765)) &&& 858993459) + ((iushr (p0 - ((iushr p0 1) &&& 1431655765)) 2) &&& 858993459)) + (iushr (((p0 - ((iushr p0 1) &&& 1431655765)) &&& 858993459) + ((iushr (p0 - ((iushr p0 1) &&& 1431655765)) 2) &&& 858993459)) 4)) &&& 252645135) 8)) + (iushr ((((((p0 - ((iushr p0 1) &&& 1431655765)) &&& 858993459) + ((iushr (p0 - ((iushr p0 1) &&& 1431655765)) 2) &&& 858993459)) + (iushr (((p0 - ((iushr p0 1) &&& 1431655765)) &&& 858993459) + ((iushr (p0 - ((iushr p0 1) &&& 1431655765)) 2) &&& 858993459)) 4)) &&& 252645135) + (iushr (((((p0 - ((iushr p0 1) &&& 1431655765)) &&& 858993459) + ((iushr (p0 - ((iushr p0 1) &&& 1431655765)) 2) &&& 858993459)) + (iushr (((p0 - ((iushr p0 1) &&& 1431655765)) &&& 858993459) + ((iushr (p0 - ((iushr p0 1) &&& 1431655765)) 2) &&& 858993459)) 4)) &&& 252645135) 8)) 16)) &&& 63)
def fX11_isUnder_L19 (M : mM) (x0 : Int32) (x1 : Int32) : Int32 :=
  (if x1 = 4 then (if x0 = 5 then 1 else 0) else 0)
def fX11_isUnder (M : mM) (p0 : Int32) (p1 : Int32) : Int32 :=
  (if p1 = 0 then 1 else (if p1 = p0 then 1 else (if p1 = 2 then (if p0 = 3 then 1 else (fX11_isUnder_L19 M p0 p1)) else (fX11_isUnder_L19 M p0 p1))))
