abbrev mV : Type := va_G × ClassId × ClassId × (Nat → Nat) × (Nat → Nat) × (Nat → Nat)
abbrev mvD (V : mV) : va_G := V.1
abbrev mvI (V : mV) : ClassId := V.2.1
abbrev mvT (V : mV) : ClassId := V.2.2.1
abbrev mvA (V : mV) : Nat → Nat := V.2.2.2.1
abbrev mvK (V : mV) : Nat → Nat := V.2.2.2.2.1
abbrev mvW (V : mV) : Nat → Nat := V.2.2.2.2.2
abbrev mvY (V : mV) : List (ClassId × FieldType) := [(mvI V, .int), (mvT V, .object "HourByVote$Thing")]
def mvTh (V : mV) : Nat → Option Nat := fun i => if i < 6 then some (mvA V (50 + i)) else none
def lenL : List Nat := [5, 5, 6, 5, 5, 7, 4, 4, 6, 5, 6, 2, 3, 2, 3, 4, 4, 3, 1, 1, 1, 1, 1, 1]
def bytL : List (List Int32) := [[118, 111, 116, 101, 114], [108, 111, 118, 101, 114], [100, 101, 98, 116, 111, 114], [115, 104, 105, 102, 116], [98, 97, 107, 101, 114], [115, 108, 101, 101, 112, 101, 114], [104, 111, 117, 114], [119, 97, 110, 116], [119, 101, 105, 103, 104, 116], [97, 119, 97, 107, 101], [110, 117, 109, 98, 101, 114], [105, 102], [97, 110, 100], [111, 114], [110, 111, 116], [109, 111, 114, 101], [108, 101, 115, 115], [110, 105, 108], [40], [41], [60], [61], [62], [59]]
def refL : List (String × Nat × String × Nat) := [(RX5, 81, "voter", 0), (RX5, 87, "lover", 1), (RX5, 89, "debtor", 2), (RX5, 91, "shift", 3), (RX5, 93, "baker", 4), (RX5, 95, "sleeper", 5), (RX5, 97, "hour", 6), (RX5, 99, "want", 7), (RX5, 101, "weight", 8), (RX5, 103, "awake", 9), (RX5, 105, "number", 10), (RX5, 107, "if", 11), (RX5, 109, "and", 12), (RX5, 111, "or", 13), (RX5, 113, "not", 14), (RX5, 115, "more", 15), (RX5, 117, "less", 16), (RX5, 119, "nil", 17), (RX12, 240, "voter", 0), (RX12, 242, "lover", 1), (RX12, 244, "debtor", 2), (RX12, 246, "shift", 3), (RX12, 248, "baker", 4), (RX12, 250, "sleeper", 5), (RX12, 255, "if", 11), (RX12, 217, "not", 14), (RX12, 222, "(", 18), (RX12, 211, ")", 19), (RX12, 178, "hour", 6), (RX12, 180, "want", 7), (RX12, 182, "weight", 8), (RX12, 184, "awake", 9), (RX12, 185, "number", 10), (RX12, 199, "<", 20), (RX12, 201, "=", 21), (RX12, 203, ">", 22), (RX12, 233, "and", 12), (RX12, 238, "or", 13), (RX12, 257, "more", 15), (RX12, 259, "less", 16), (RX12, 261, "nil", 17), (RX12, 263, ";", 23)]
def ssL : mS := (24, lenL, bytL, refL)
abbrev gC_0 (V : mV) (z : Nat → Int32) : List Value := [.ref (mvA V 1), .ref (mvA V 17), .int (z 2), .ref (mvA V 33), .ref (mvA V 47), .ref (mvA V 49), .ref (mvA V 56), .ref (mvA V 63), .ref (mvA V 64), .ref (mvA V 65), .ref (mvA V 66), .ref (mvA V 67), .int (z 12)]
abbrev gC_1 (V : mV) (z : Nat → Int32) : List Value := [.int (z 0), .ref (mvA V 2), .ref (mvA V 3), .ref (mvA V 4), .ref (mvA V 5), .int (z 5), .int (z 6), .int (z 7), .int (z 8), .int (z 9), .int (z 10), .int (z 11), .ref (mvA V 6), .ref (mvA V 7), .ref (mvA V 8)]
abbrev gC_8 (V : mV) (z : Nat → Int32) : List Value := [.int (z 0), .ref (mvA V 9), .ref (mvA V 10), .ref (mvA V 11), .ref (mvA V 12), .int (z 5), .ref (mvA V 13), .ref (mvA V 14), .ref (mvA V 15), .int (z 9), .ref (mvA V 16)]
abbrev gC_17 (V : mV) (z : Nat → Int32) : List Value := [.int (z 0), .ref (mvA V 18), .ref (mvA V 19), .ref (mvA V 20), .ref (mvA V 21), .int (z 5), .int (z 6), .int (z 7), .int (z 8), .int (z 9), .int (z 10), .int (z 11), .ref (mvA V 22), .ref (mvA V 23), .ref (mvA V 24)]
abbrev gC_24 (V : mV) (z : Nat → Int32) : List Value := [.int (z 0), .ref (mvA V 25), .ref (mvA V 26), .ref (mvA V 27), .ref (mvA V 28), .int (z 5), .ref (mvA V 29), .ref (mvA V 30), .ref (mvA V 31), .int (z 9), .ref (mvA V 32)]
abbrev gC_33 (V : mV) (z : Nat → Int32) : List Value := [.int (z 0), .ref (mvA V 34), .ref (mvA V 43), .int (z 3), .ref (mvA V 44), .ref (mvA V 45), .ref (mvA V 46), .int (z 7)]
abbrev gC_34 (V : mV) (z : Nat → Int32) : List Value := [.int (z 0), .ref (mvA V 35), .ref (mvA V 36), .ref (mvA V 37), .ref (mvA V 38), .int (z 5), .ref (mvA V 39), .ref (mvA V 40), .ref (mvA V 41), .int (z 9), .ref (mvA V 42)]
abbrev gC_47 (V : mV) (z : Nat → Int32) : List Value := [.int (z 0), .int (z 1), .ref (mvA V 48)]
abbrev gC_50 (V : mV) (z : Nat → Int32) : List Value := [.ref (mvA V 47), .int (z 1), .int (z 2)]
abbrev gC_51 (V : mV) (z : Nat → Int32) : List Value := [.ref (mvA V 47), .int (z 1), .int (z 2)]
abbrev gC_52 (V : mV) (z : Nat → Int32) : List Value := [.ref (mvA V 47), .int (z 1), .int (z 2)]
abbrev gC_53 (V : mV) (z : Nat → Int32) : List Value := [.ref (mvA V 47), .int (z 1), .int (z 2)]
abbrev gC_54 (V : mV) (z : Nat → Int32) : List Value := [.ref (mvA V 47), .int (z 1), .int (z 2)]
abbrev gC_55 (V : mV) (z : Nat → Int32) : List Value := [.ref (mvA V 47), .int (z 1), .int (z 2)]
abbrev gC_56 (V : mV) (z : Nat → Int32) : List Value := [.ref (mvA V 57), .ref (mvA V 58), .ref (mvA V 59), .ref (mvA V 60), .ref (mvA V 61), .ref (mvA V 62)]
def enC (V : mV) : mE := fun q z => match q with
  | 0 => .inr (11, gC_0 V z)
  | 1 => .inr (4, gC_1 V z)
  | 2 => .inl (mvI V, 7, .inl z)
  | 3 => .inl (mvI V, 7, .inl z)
  | 4 => .inl (mvI V, 7, .inl z)
  | 5 => .inl (mvI V, 7, .inl z)
  | 6 => .inl (mvI V, 6, .inl z)
  | 7 => .inl (mvI V, 6, .inl z)
  | 8 => .inr (6, gC_8 V z)
  | 9 => .inl (mvI V, 8, .inl z)
  | 10 => .inl (mvI V, 8, .inl z)
  | 11 => .inl (mvI V, 8, .inl z)
  | 12 => .inl (mvI V, 8, .inl z)
  | 13 => .inl (mvI V, 200, .inl z)
  | 14 => .inl (mvI V, 200, .inl z)
  | 15 => .inl (mvI V, 200, .inl z)
  | 16 => .inl (mvI V, 205, .inl z)
  | 17 => .inr (4, gC_17 V z)
  | 18 => .inl (mvI V, 7, .inl z)
  | 19 => .inl (mvI V, 7, .inl z)
  | 20 => .inl (mvI V, 7, .inl z)
  | 21 => .inl (mvI V, 7, .inl z)
  | 22 => .inl (mvI V, 6, .inl z)
  | 23 => .inl (mvI V, 6, .inl z)
  | 24 => .inr (6, gC_24 V z)
  | 25 => .inl (mvI V, 8, .inl z)
  | 26 => .inl (mvI V, 8, .inl z)
  | 27 => .inl (mvI V, 8, .inl z)
  | 28 => .inl (mvI V, 8, .inl z)
  | 29 => .inl (mvI V, 200, .inl z)
  | 30 => .inl (mvI V, 200, .inl z)
  | 31 => .inl (mvI V, 200, .inl z)
  | 32 => .inl (mvI V, 205, .inl z)
  | 33 => .inr (5, gC_33 V z)
  | 34 => .inr (6, gC_34 V z)
  | 35 => .inl (mvI V, 8, .inl z)
  | 36 => .inl (mvI V, 8, .inl z)
  | 37 => .inl (mvI V, 8, .inl z)
  | 38 => .inl (mvI V, 8, .inl z)
  | 39 => .inl (mvI V, 200, .inl z)
  | 40 => .inl (mvI V, 200, .inl z)
  | 41 => .inl (mvI V, 200, .inl z)
  | 42 => .inl (mvI V, 205, .inl z)
  | 43 => .inl (mvI V, 200, .inl z)
  | 44 => .inl (mvI V, 201, .inl z)
  | 45 => .inl (mvI V, 201, .inl z)
  | 46 => .inl (mvI V, 201, .inl z)
  | 47 => .inr (10, gC_47 V z)
  | 48 => .inl (mvI V, 30, .inl z)
  | 49 => .inl (mvT V, 6, .inr (.inr (.inr (.inr (mvTh V)))))
  | 50 => .inr (9, gC_50 V z)
  | 51 => .inr (3, gC_51 V z)
  | 52 => .inr (1, gC_52 V z)
  | 53 => .inr (7, gC_53 V z)
  | 54 => .inr (0, gC_54 V z)
  | 55 => .inr (8, gC_55 V z)
  | 56 => .inr (2, gC_56 V z)
  | 57 => .inl (mvI V, 4, .inl z)
  | 58 => .inl (mvI V, 4, .inl z)
  | 59 => .inl (mvI V, 4, .inl z)
  | 60 => .inl (mvI V, 4, .inl z)
  | 61 => .inl (mvI V, 4, .inl z)
  | 62 => .inl (mvI V, 160, .inl z)
  | 63 => .inl (mvI V, 3072, .inl z)
  | 64 => .inl (mvI V, 7, .inl z)
  | 65 => .inl (mvI V, 24, .inl z)
  | 66 => .inl (mvI V, 4, .inl z)
  | 67 => .inl (mvI V, 12, .inl z)
  | _ => .inl (mvI V, 0, .inl z)
abbrev PC (V : mV) (M : mM) (A : Nat → Prop) (s : State) (H : Heap) (locs : List Loc) : Prop := mw_P (mvD V) vwCl 68 (enC V) (mvA V) M A s.heap H locs
abbrev IC (V : mV) (l : Launch) (y : MethodName) (cc : ByteArray) (nL : Nat) (rm : Room) (As : List Value) (M : mM) (r : Int32) (M' : mM) : Prop := mw_Mi (mvD V) vwCl (mvY V) 68 (enC V) (mvA V) ssL (mvK V) (mvW V) l y cc nL (some .int) rm any As M r M'
abbrev ZC (V : mV) (l : Launch) (y : MethodName) (cc : ByteArray) (nL : Nat) (rm : Room) (As : List Value) (M : mM) (r : Int32) (M' : mM) : Prop := mw_Mi (mvD V) vwCl (mvY V) 68 (enC V) (mvA V) ssL (mvK V) (mvW V) l y cc nL (some .boolean) rm isb As M r M'
abbrev UC (V : mV) (l : Launch) (y : MethodName) (cc : ByteArray) (nL : Nat) (rm : Room) (As : List Value) (M M' : mM) : Prop := mw_Mv (mvD V) vwCl (mvY V) 68 (enC V) (mvA V) ssL (mvK V) (mvW V) l y cc nL none rm As M M'
abbrev gR_0 (V : mV) (z : Nat → Int32) : List Value := [.ref (mvA V 1), .ref (mvA V 2), .int (z 2), .ref (mvA V 3), .ref (mvA V 4), .int (z 5), .ref (mvA V 5), .int (z 7), .int (z 8), .int (z 9), .int (z 10), .int (z 11), .int (z 12), .ref (mvA V 6), .ref (mvA V 7), .ref (mvA V 8), .int (z 16), .int (z 17), .int (z 18), .ref (mvA V 9), .int (z 20), .int (z 21), .ref (mvA V 10), .ref (mvA V 11), .ref (mvA V 12), .ref (mvA V 13), .ref (mvA V 14), .ref (mvA V 15), .ref (mvA V 16), .int (z 29), .int (z 30), .int (z 31), .int (z 32), .int (z 33)]
def enR (V : mV) : mE := fun q z => match q with
  | 0 => .inr (12, gR_0 V z)
  | 1 => .inl (mvI V, 295, .inl z)
  | 2 => .inl (mvI V, 295, .inl z)
  | 3 => .inl (mvI V, 200, .inl z)
  | 4 => .inl (mvI V, 200, .inl z)
  | 5 => .inl (mvI V, 295, .inl z)
  | 6 => .inl (mvI V, 24, .inl z)
  | 7 => .inl (mvI V, 4, .inl z)
  | 8 => .inl (mvI V, 24, .inl z)
  | 9 => .inl (mvI V, 12, .inl z)
  | 10 => .inl (mvI V, 4, .inl z)
  | 11 => .inl (mvI V, 4, .inl z)
  | 12 => .inl (mvI V, 160, .inl z)
  | 13 => .inl (mvI V, 4, .inl z)
  | 14 => .inl (mvI V, 4, .inl z)
  | 15 => .inl (mvI V, 4, .inl z)
  | 16 => .inl (mvI V, 30, .inl z)
  | _ => .inl (mvI V, 0, .inl z)
abbrev PR (V : mV) (M : mM) (A : Nat → Prop) (s : State) (H : Heap) (locs : List Loc) : Prop := mw_P (mvD V) vwCl 17 (enR V) (mvA V) M A s.heap H locs
abbrev IR (V : mV) (l : Launch) (y : MethodName) (cc : ByteArray) (nL : Nat) (rm : Room) (As : List Value) (M : mM) (r : Int32) (M' : mM) : Prop := mw_Mi (mvD V) vwCl (mvY V) 17 (enR V) (mvA V) ssL (mvK V) (mvW V) l y cc nL (some .int) rm any As M r M'
abbrev ZR (V : mV) (l : Launch) (y : MethodName) (cc : ByteArray) (nL : Nat) (rm : Room) (As : List Value) (M : mM) (r : Int32) (M' : mM) : Prop := mw_Mi (mvD V) vwCl (mvY V) 17 (enR V) (mvA V) ssL (mvK V) (mvW V) l y cc nL (some .boolean) rm isb As M r M'
abbrev UR (V : mV) (l : Launch) (y : MethodName) (cc : ByteArray) (nL : Nat) (rm : Room) (As : List Value) (M M' : mM) : Prop := mw_Mv (mvD V) vwCl (mvY V) 17 (enR V) (mvA V) ssL (mvK V) (mvW V) l y cc nL none rm As M M'
theorem eC_0 (V : mV) (z : Nat → Int32) : enC V 0 z = .inr (11, gC_0 V z) := rfl
theorem eC_1 (V : mV) (z : Nat → Int32) : enC V 1 z = .inr (4, gC_1 V z) := rfl
theorem eC_2 (V : mV) (z : Nat → Int32) : enC V 2 z = .inl (mvI V, 7, .inl z) := rfl
theorem eC_3 (V : mV) (z : Nat → Int32) : enC V 3 z = .inl (mvI V, 7, .inl z) := rfl
theorem eC_4 (V : mV) (z : Nat → Int32) : enC V 4 z = .inl (mvI V, 7, .inl z) := rfl
theorem eC_5 (V : mV) (z : Nat → Int32) : enC V 5 z = .inl (mvI V, 7, .inl z) := rfl
theorem eC_6 (V : mV) (z : Nat → Int32) : enC V 6 z = .inl (mvI V, 6, .inl z) := rfl
theorem eC_7 (V : mV) (z : Nat → Int32) : enC V 7 z = .inl (mvI V, 6, .inl z) := rfl
theorem eC_8 (V : mV) (z : Nat → Int32) : enC V 8 z = .inr (6, gC_8 V z) := rfl
theorem eC_9 (V : mV) (z : Nat → Int32) : enC V 9 z = .inl (mvI V, 8, .inl z) := rfl
theorem eC_10 (V : mV) (z : Nat → Int32) : enC V 10 z = .inl (mvI V, 8, .inl z) := rfl
theorem eC_11 (V : mV) (z : Nat → Int32) : enC V 11 z = .inl (mvI V, 8, .inl z) := rfl
theorem eC_12 (V : mV) (z : Nat → Int32) : enC V 12 z = .inl (mvI V, 8, .inl z) := rfl
theorem eC_13 (V : mV) (z : Nat → Int32) : enC V 13 z = .inl (mvI V, 200, .inl z) := rfl
theorem eC_14 (V : mV) (z : Nat → Int32) : enC V 14 z = .inl (mvI V, 200, .inl z) := rfl
theorem eC_15 (V : mV) (z : Nat → Int32) : enC V 15 z = .inl (mvI V, 200, .inl z) := rfl
theorem eC_16 (V : mV) (z : Nat → Int32) : enC V 16 z = .inl (mvI V, 205, .inl z) := rfl
theorem eC_17 (V : mV) (z : Nat → Int32) : enC V 17 z = .inr (4, gC_17 V z) := rfl
theorem eC_18 (V : mV) (z : Nat → Int32) : enC V 18 z = .inl (mvI V, 7, .inl z) := rfl
theorem eC_19 (V : mV) (z : Nat → Int32) : enC V 19 z = .inl (mvI V, 7, .inl z) := rfl
theorem eC_20 (V : mV) (z : Nat → Int32) : enC V 20 z = .inl (mvI V, 7, .inl z) := rfl
theorem eC_21 (V : mV) (z : Nat → Int32) : enC V 21 z = .inl (mvI V, 7, .inl z) := rfl
theorem eC_22 (V : mV) (z : Nat → Int32) : enC V 22 z = .inl (mvI V, 6, .inl z) := rfl
theorem eC_23 (V : mV) (z : Nat → Int32) : enC V 23 z = .inl (mvI V, 6, .inl z) := rfl
theorem eC_24 (V : mV) (z : Nat → Int32) : enC V 24 z = .inr (6, gC_24 V z) := rfl
theorem eC_25 (V : mV) (z : Nat → Int32) : enC V 25 z = .inl (mvI V, 8, .inl z) := rfl
theorem eC_26 (V : mV) (z : Nat → Int32) : enC V 26 z = .inl (mvI V, 8, .inl z) := rfl
theorem eC_27 (V : mV) (z : Nat → Int32) : enC V 27 z = .inl (mvI V, 8, .inl z) := rfl
theorem eC_28 (V : mV) (z : Nat → Int32) : enC V 28 z = .inl (mvI V, 8, .inl z) := rfl
theorem eC_29 (V : mV) (z : Nat → Int32) : enC V 29 z = .inl (mvI V, 200, .inl z) := rfl
theorem eC_30 (V : mV) (z : Nat → Int32) : enC V 30 z = .inl (mvI V, 200, .inl z) := rfl
theorem eC_31 (V : mV) (z : Nat → Int32) : enC V 31 z = .inl (mvI V, 200, .inl z) := rfl
theorem eC_32 (V : mV) (z : Nat → Int32) : enC V 32 z = .inl (mvI V, 205, .inl z) := rfl
theorem eC_33 (V : mV) (z : Nat → Int32) : enC V 33 z = .inr (5, gC_33 V z) := rfl
theorem eC_34 (V : mV) (z : Nat → Int32) : enC V 34 z = .inr (6, gC_34 V z) := rfl
theorem eC_35 (V : mV) (z : Nat → Int32) : enC V 35 z = .inl (mvI V, 8, .inl z) := rfl
theorem eC_36 (V : mV) (z : Nat → Int32) : enC V 36 z = .inl (mvI V, 8, .inl z) := rfl
theorem eC_37 (V : mV) (z : Nat → Int32) : enC V 37 z = .inl (mvI V, 8, .inl z) := rfl
theorem eC_38 (V : mV) (z : Nat → Int32) : enC V 38 z = .inl (mvI V, 8, .inl z) := rfl
theorem eC_39 (V : mV) (z : Nat → Int32) : enC V 39 z = .inl (mvI V, 200, .inl z) := rfl
theorem eC_40 (V : mV) (z : Nat → Int32) : enC V 40 z = .inl (mvI V, 200, .inl z) := rfl
theorem eC_41 (V : mV) (z : Nat → Int32) : enC V 41 z = .inl (mvI V, 200, .inl z) := rfl
theorem eC_42 (V : mV) (z : Nat → Int32) : enC V 42 z = .inl (mvI V, 205, .inl z) := rfl
theorem eC_43 (V : mV) (z : Nat → Int32) : enC V 43 z = .inl (mvI V, 200, .inl z) := rfl
theorem eC_44 (V : mV) (z : Nat → Int32) : enC V 44 z = .inl (mvI V, 201, .inl z) := rfl
theorem eC_45 (V : mV) (z : Nat → Int32) : enC V 45 z = .inl (mvI V, 201, .inl z) := rfl
theorem eC_46 (V : mV) (z : Nat → Int32) : enC V 46 z = .inl (mvI V, 201, .inl z) := rfl
theorem eC_47 (V : mV) (z : Nat → Int32) : enC V 47 z = .inr (10, gC_47 V z) := rfl
theorem eC_48 (V : mV) (z : Nat → Int32) : enC V 48 z = .inl (mvI V, 30, .inl z) := rfl
theorem eC_49 (V : mV) (z : Nat → Int32) : enC V 49 z = .inl (mvT V, 6, .inr (.inr (.inr (.inr (mvTh V))))) := rfl
theorem eC_50 (V : mV) (z : Nat → Int32) : enC V 50 z = .inr (9, gC_50 V z) := rfl
theorem eC_51 (V : mV) (z : Nat → Int32) : enC V 51 z = .inr (3, gC_51 V z) := rfl
theorem eC_52 (V : mV) (z : Nat → Int32) : enC V 52 z = .inr (1, gC_52 V z) := rfl
theorem eC_53 (V : mV) (z : Nat → Int32) : enC V 53 z = .inr (7, gC_53 V z) := rfl
theorem eC_54 (V : mV) (z : Nat → Int32) : enC V 54 z = .inr (0, gC_54 V z) := rfl
theorem eC_55 (V : mV) (z : Nat → Int32) : enC V 55 z = .inr (8, gC_55 V z) := rfl
theorem eC_56 (V : mV) (z : Nat → Int32) : enC V 56 z = .inr (2, gC_56 V z) := rfl
theorem eC_57 (V : mV) (z : Nat → Int32) : enC V 57 z = .inl (mvI V, 4, .inl z) := rfl
theorem eC_58 (V : mV) (z : Nat → Int32) : enC V 58 z = .inl (mvI V, 4, .inl z) := rfl
theorem eC_59 (V : mV) (z : Nat → Int32) : enC V 59 z = .inl (mvI V, 4, .inl z) := rfl
theorem eC_60 (V : mV) (z : Nat → Int32) : enC V 60 z = .inl (mvI V, 4, .inl z) := rfl
theorem eC_61 (V : mV) (z : Nat → Int32) : enC V 61 z = .inl (mvI V, 4, .inl z) := rfl
theorem eC_62 (V : mV) (z : Nat → Int32) : enC V 62 z = .inl (mvI V, 160, .inl z) := rfl
theorem eC_63 (V : mV) (z : Nat → Int32) : enC V 63 z = .inl (mvI V, 3072, .inl z) := rfl
theorem eC_64 (V : mV) (z : Nat → Int32) : enC V 64 z = .inl (mvI V, 7, .inl z) := rfl
theorem eC_65 (V : mV) (z : Nat → Int32) : enC V 65 z = .inl (mvI V, 24, .inl z) := rfl
theorem eC_66 (V : mV) (z : Nat → Int32) : enC V 66 z = .inl (mvI V, 4, .inl z) := rfl
theorem eC_67 (V : mV) (z : Nat → Int32) : enC V 67 z = .inl (mvI V, 12, .inl z) := rfl
theorem eR_0 (V : mV) (z : Nat → Int32) : enR V 0 z = .inr (12, gR_0 V z) := rfl
theorem eR_1 (V : mV) (z : Nat → Int32) : enR V 1 z = .inl (mvI V, 295, .inl z) := rfl
theorem eR_2 (V : mV) (z : Nat → Int32) : enR V 2 z = .inl (mvI V, 295, .inl z) := rfl
theorem eR_3 (V : mV) (z : Nat → Int32) : enR V 3 z = .inl (mvI V, 200, .inl z) := rfl
theorem eR_4 (V : mV) (z : Nat → Int32) : enR V 4 z = .inl (mvI V, 200, .inl z) := rfl
theorem eR_5 (V : mV) (z : Nat → Int32) : enR V 5 z = .inl (mvI V, 295, .inl z) := rfl
theorem eR_6 (V : mV) (z : Nat → Int32) : enR V 6 z = .inl (mvI V, 24, .inl z) := rfl
theorem eR_7 (V : mV) (z : Nat → Int32) : enR V 7 z = .inl (mvI V, 4, .inl z) := rfl
theorem eR_8 (V : mV) (z : Nat → Int32) : enR V 8 z = .inl (mvI V, 24, .inl z) := rfl
theorem eR_9 (V : mV) (z : Nat → Int32) : enR V 9 z = .inl (mvI V, 12, .inl z) := rfl
theorem eR_10 (V : mV) (z : Nat → Int32) : enR V 10 z = .inl (mvI V, 4, .inl z) := rfl
theorem eR_11 (V : mV) (z : Nat → Int32) : enR V 11 z = .inl (mvI V, 4, .inl z) := rfl
theorem eR_12 (V : mV) (z : Nat → Int32) : enR V 12 z = .inl (mvI V, 160, .inl z) := rfl
theorem eR_13 (V : mV) (z : Nat → Int32) : enR V 13 z = .inl (mvI V, 4, .inl z) := rfl
theorem eR_14 (V : mV) (z : Nat → Int32) : enR V 14 z = .inl (mvI V, 4, .inl z) := rfl
theorem eR_15 (V : mV) (z : Nat → Int32) : enR V 15 z = .inl (mvI V, 4, .inl z) := rfl
theorem eR_16 (V : mV) (z : Nat → Int32) : enR V 16 z = .inl (mvI V, 30, .inl z) := rfl
