def tmL (i : Nat) : Term := match i with
  | 0 => .string RX5 81
  | 1 => .string RX5 87
  | 2 => .string RX5 89
  | 3 => .string RX5 91
  | 4 => .string RX5 93
  | 5 => .string RX5 95
  | 6 => .string RX5 97
  | 7 => .string RX5 99
  | 8 => .string RX5 101
  | 9 => .string RX5 103
  | 10 => .string RX5 105
  | 11 => .string RX5 107
  | 12 => .string RX5 109
  | 13 => .string RX5 111
  | 14 => .string RX5 113
  | 15 => .string RX5 115
  | 16 => .string RX5 117
  | 17 => .string RX5 119
  | 18 => .string RX12 222
  | 19 => .string RX12 211
  | 20 => .string RX12 199
  | 21 => .string RX12 201
  | 22 => .string RX12 203
  | 23 => .string RX12 263
  | _ => .string RX5 81
theorem sp_ex {args : Array Value} {s : State} (hs : ∀ c ∈ flatC (.and given_1 narrow_1), c.before args s = true) : ∀ i, i < 24 → (Cond.exactly (tmL i) "java/lang/String").before args s = true := fun i hi => match i, hi with
  | 0, _ => hs _ (by decide +kernel)
  | 1, _ => hs _ (by decide +kernel)
  | 2, _ => hs _ (by decide +kernel)
  | 3, _ => hs _ (by decide +kernel)
  | 4, _ => hs _ (by decide +kernel)
  | 5, _ => hs _ (by decide +kernel)
  | 6, _ => hs _ (by decide +kernel)
  | 7, _ => hs _ (by decide +kernel)
  | 8, _ => hs _ (by decide +kernel)
  | 9, _ => hs _ (by decide +kernel)
  | 10, _ => hs _ (by decide +kernel)
  | 11, _ => hs _ (by decide +kernel)
  | 12, _ => hs _ (by decide +kernel)
  | 13, _ => hs _ (by decide +kernel)
  | 14, _ => hs _ (by decide +kernel)
  | 15, _ => hs _ (by decide +kernel)
  | 16, _ => hs _ (by decide +kernel)
  | 17, _ => hs _ (by decide +kernel)
  | 18, _ => hs _ (by decide +kernel)
  | 19, _ => hs _ (by decide +kernel)
  | 20, _ => hs _ (by decide +kernel)
  | 21, _ => hs _ (by decide +kernel)
  | 22, _ => hs _ (by decide +kernel)
  | 23, _ => hs _ (by decide +kernel)
  | n + 24, h => absurd h (by omega)
theorem sp_co {args : Array Value} {s : State} (hs : ∀ c ∈ flatC (.and given_1 narrow_1), c.before args s = true) : ∀ i, i < 24 → (Cond.eq (.field (tmL i) "java/lang/String" "coder" "B") (.int 0)).before args s = true := fun i hi => match i, hi with
  | 0, _ => hs _ (by decide +kernel)
  | 1, _ => hs _ (by decide +kernel)
  | 2, _ => hs _ (by decide +kernel)
  | 3, _ => hs _ (by decide +kernel)
  | 4, _ => hs _ (by decide +kernel)
  | 5, _ => hs _ (by decide +kernel)
  | 6, _ => hs _ (by decide +kernel)
  | 7, _ => hs _ (by decide +kernel)
  | 8, _ => hs _ (by decide +kernel)
  | 9, _ => hs _ (by decide +kernel)
  | 10, _ => hs _ (by decide +kernel)
  | 11, _ => hs _ (by decide +kernel)
  | 12, _ => hs _ (by decide +kernel)
  | 13, _ => hs _ (by decide +kernel)
  | 14, _ => hs _ (by decide +kernel)
  | 15, _ => hs _ (by decide +kernel)
  | 16, _ => hs _ (by decide +kernel)
  | 17, _ => hs _ (by decide +kernel)
  | 18, _ => hs _ (by decide +kernel)
  | 19, _ => hs _ (by decide +kernel)
  | 20, _ => hs _ (by decide +kernel)
  | 21, _ => hs _ (by decide +kernel)
  | 22, _ => hs _ (by decide +kernel)
  | 23, _ => hs _ (by decide +kernel)
  | n + 24, h => absurd h (by omega)
theorem sp_ar {args : Array Value} {s : State} (hs : ∀ c ∈ flatC (.and given_1 narrow_1), c.before args s = true) : ∀ i, i < 24 → (Cond.arrayOf (.field (tmL i) "java/lang/String" "value" "[B") .byte).before args s = true := fun i hi => match i, hi with
  | 0, _ => hs _ (by decide +kernel)
  | 1, _ => hs _ (by decide +kernel)
  | 2, _ => hs _ (by decide +kernel)
  | 3, _ => hs _ (by decide +kernel)
  | 4, _ => hs _ (by decide +kernel)
  | 5, _ => hs _ (by decide +kernel)
  | 6, _ => hs _ (by decide +kernel)
  | 7, _ => hs _ (by decide +kernel)
  | 8, _ => hs _ (by decide +kernel)
  | 9, _ => hs _ (by decide +kernel)
  | 10, _ => hs _ (by decide +kernel)
  | 11, _ => hs _ (by decide +kernel)
  | 12, _ => hs _ (by decide +kernel)
  | 13, _ => hs _ (by decide +kernel)
  | 14, _ => hs _ (by decide +kernel)
  | 15, _ => hs _ (by decide +kernel)
  | 16, _ => hs _ (by decide +kernel)
  | 17, _ => hs _ (by decide +kernel)
  | 18, _ => hs _ (by decide +kernel)
  | 19, _ => hs _ (by decide +kernel)
  | 20, _ => hs _ (by decide +kernel)
  | 21, _ => hs _ (by decide +kernel)
  | 22, _ => hs _ (by decide +kernel)
  | 23, _ => hs _ (by decide +kernel)
  | n + 24, h => absurd h (by omega)
theorem sp_le {args : Array Value} {s : State} (hs : ∀ c ∈ flatC (.and given_1 narrow_1), c.before args s = true) : ∀ i, i < 24 → (Cond.eq (.length (.field (tmL i) "java/lang/String" "value" "[B")) (.int (Int32.ofNat (lenL.getD i 0)))).before args s = true := fun i hi => match i, hi with
  | 0, _ => hs (Cond.eq (.length (.field (tmL 0) "java/lang/String" "value" "[B")) (.int (5 : Int32))) (by decide +kernel)
  | 1, _ => hs (Cond.eq (.length (.field (tmL 1) "java/lang/String" "value" "[B")) (.int (5 : Int32))) (by decide +kernel)
  | 2, _ => hs (Cond.eq (.length (.field (tmL 2) "java/lang/String" "value" "[B")) (.int (6 : Int32))) (by decide +kernel)
  | 3, _ => hs (Cond.eq (.length (.field (tmL 3) "java/lang/String" "value" "[B")) (.int (5 : Int32))) (by decide +kernel)
  | 4, _ => hs (Cond.eq (.length (.field (tmL 4) "java/lang/String" "value" "[B")) (.int (5 : Int32))) (by decide +kernel)
  | 5, _ => hs (Cond.eq (.length (.field (tmL 5) "java/lang/String" "value" "[B")) (.int (7 : Int32))) (by decide +kernel)
  | 6, _ => hs (Cond.eq (.length (.field (tmL 6) "java/lang/String" "value" "[B")) (.int (4 : Int32))) (by decide +kernel)
  | 7, _ => hs (Cond.eq (.length (.field (tmL 7) "java/lang/String" "value" "[B")) (.int (4 : Int32))) (by decide +kernel)
  | 8, _ => hs (Cond.eq (.length (.field (tmL 8) "java/lang/String" "value" "[B")) (.int (6 : Int32))) (by decide +kernel)
  | 9, _ => hs (Cond.eq (.length (.field (tmL 9) "java/lang/String" "value" "[B")) (.int (5 : Int32))) (by decide +kernel)
  | 10, _ => hs (Cond.eq (.length (.field (tmL 10) "java/lang/String" "value" "[B")) (.int (6 : Int32))) (by decide +kernel)
  | 11, _ => hs (Cond.eq (.length (.field (tmL 11) "java/lang/String" "value" "[B")) (.int (2 : Int32))) (by decide +kernel)
  | 12, _ => hs (Cond.eq (.length (.field (tmL 12) "java/lang/String" "value" "[B")) (.int (3 : Int32))) (by decide +kernel)
  | 13, _ => hs (Cond.eq (.length (.field (tmL 13) "java/lang/String" "value" "[B")) (.int (2 : Int32))) (by decide +kernel)
  | 14, _ => hs (Cond.eq (.length (.field (tmL 14) "java/lang/String" "value" "[B")) (.int (3 : Int32))) (by decide +kernel)
  | 15, _ => hs (Cond.eq (.length (.field (tmL 15) "java/lang/String" "value" "[B")) (.int (4 : Int32))) (by decide +kernel)
  | 16, _ => hs (Cond.eq (.length (.field (tmL 16) "java/lang/String" "value" "[B")) (.int (4 : Int32))) (by decide +kernel)
  | 17, _ => hs (Cond.eq (.length (.field (tmL 17) "java/lang/String" "value" "[B")) (.int (3 : Int32))) (by decide +kernel)
  | 18, _ => hs (Cond.eq (.length (.field (tmL 18) "java/lang/String" "value" "[B")) (.int (1 : Int32))) (by decide +kernel)
  | 19, _ => hs (Cond.eq (.length (.field (tmL 19) "java/lang/String" "value" "[B")) (.int (1 : Int32))) (by decide +kernel)
  | 20, _ => hs (Cond.eq (.length (.field (tmL 20) "java/lang/String" "value" "[B")) (.int (1 : Int32))) (by decide +kernel)
  | 21, _ => hs (Cond.eq (.length (.field (tmL 21) "java/lang/String" "value" "[B")) (.int (1 : Int32))) (by decide +kernel)
  | 22, _ => hs (Cond.eq (.length (.field (tmL 22) "java/lang/String" "value" "[B")) (.int (1 : Int32))) (by decide +kernel)
  | 23, _ => hs (Cond.eq (.length (.field (tmL 23) "java/lang/String" "value" "[B")) (.int (1 : Int32))) (by decide +kernel)
  | n + 24, h => absurd h (by omega)
theorem sp_el0 {args : Array Value} {s : State} (hs : ∀ c ∈ flatC (.and given_1 narrow_1), c.before args s = true) : ∀ j, j < 5 → (Cond.eq (.elem (.field (tmL 0) "java/lang/String" "value" "[B") (.int (Int32.ofNat j))) (.int ((bytL.getD 0 []).getD j 0))).before args s = true := fun j hj => match j, hj with
  | 0, _ => hs (Cond.eq (.elem (.field (tmL 0) "java/lang/String" "value" "[B") (.int (0 : Int32))) (.int (118 : Int32))) (by decide +kernel)
  | 1, _ => hs (Cond.eq (.elem (.field (tmL 0) "java/lang/String" "value" "[B") (.int (1 : Int32))) (.int (111 : Int32))) (by decide +kernel)
  | 2, _ => hs (Cond.eq (.elem (.field (tmL 0) "java/lang/String" "value" "[B") (.int (2 : Int32))) (.int (116 : Int32))) (by decide +kernel)
  | 3, _ => hs (Cond.eq (.elem (.field (tmL 0) "java/lang/String" "value" "[B") (.int (3 : Int32))) (.int (101 : Int32))) (by decide +kernel)
  | 4, _ => hs (Cond.eq (.elem (.field (tmL 0) "java/lang/String" "value" "[B") (.int (4 : Int32))) (.int (114 : Int32))) (by decide +kernel)
  | n + 5, h => absurd h (by omega)
theorem sp_el1 {args : Array Value} {s : State} (hs : ∀ c ∈ flatC (.and given_1 narrow_1), c.before args s = true) : ∀ j, j < 5 → (Cond.eq (.elem (.field (tmL 1) "java/lang/String" "value" "[B") (.int (Int32.ofNat j))) (.int ((bytL.getD 1 []).getD j 0))).before args s = true := fun j hj => match j, hj with
  | 0, _ => hs (Cond.eq (.elem (.field (tmL 1) "java/lang/String" "value" "[B") (.int (0 : Int32))) (.int (108 : Int32))) (by decide +kernel)
  | 1, _ => hs (Cond.eq (.elem (.field (tmL 1) "java/lang/String" "value" "[B") (.int (1 : Int32))) (.int (111 : Int32))) (by decide +kernel)
  | 2, _ => hs (Cond.eq (.elem (.field (tmL 1) "java/lang/String" "value" "[B") (.int (2 : Int32))) (.int (118 : Int32))) (by decide +kernel)
  | 3, _ => hs (Cond.eq (.elem (.field (tmL 1) "java/lang/String" "value" "[B") (.int (3 : Int32))) (.int (101 : Int32))) (by decide +kernel)
  | 4, _ => hs (Cond.eq (.elem (.field (tmL 1) "java/lang/String" "value" "[B") (.int (4 : Int32))) (.int (114 : Int32))) (by decide +kernel)
  | n + 5, h => absurd h (by omega)
theorem sp_el2 {args : Array Value} {s : State} (hs : ∀ c ∈ flatC (.and given_1 narrow_1), c.before args s = true) : ∀ j, j < 6 → (Cond.eq (.elem (.field (tmL 2) "java/lang/String" "value" "[B") (.int (Int32.ofNat j))) (.int ((bytL.getD 2 []).getD j 0))).before args s = true := fun j hj => match j, hj with
  | 0, _ => hs (Cond.eq (.elem (.field (tmL 2) "java/lang/String" "value" "[B") (.int (0 : Int32))) (.int (100 : Int32))) (by decide +kernel)
  | 1, _ => hs (Cond.eq (.elem (.field (tmL 2) "java/lang/String" "value" "[B") (.int (1 : Int32))) (.int (101 : Int32))) (by decide +kernel)
  | 2, _ => hs (Cond.eq (.elem (.field (tmL 2) "java/lang/String" "value" "[B") (.int (2 : Int32))) (.int (98 : Int32))) (by decide +kernel)
  | 3, _ => hs (Cond.eq (.elem (.field (tmL 2) "java/lang/String" "value" "[B") (.int (3 : Int32))) (.int (116 : Int32))) (by decide +kernel)
  | 4, _ => hs (Cond.eq (.elem (.field (tmL 2) "java/lang/String" "value" "[B") (.int (4 : Int32))) (.int (111 : Int32))) (by decide +kernel)
  | 5, _ => hs (Cond.eq (.elem (.field (tmL 2) "java/lang/String" "value" "[B") (.int (5 : Int32))) (.int (114 : Int32))) (by decide +kernel)
  | n + 6, h => absurd h (by omega)
theorem sp_el3 {args : Array Value} {s : State} (hs : ∀ c ∈ flatC (.and given_1 narrow_1), c.before args s = true) : ∀ j, j < 5 → (Cond.eq (.elem (.field (tmL 3) "java/lang/String" "value" "[B") (.int (Int32.ofNat j))) (.int ((bytL.getD 3 []).getD j 0))).before args s = true := fun j hj => match j, hj with
  | 0, _ => hs (Cond.eq (.elem (.field (tmL 3) "java/lang/String" "value" "[B") (.int (0 : Int32))) (.int (115 : Int32))) (by decide +kernel)
  | 1, _ => hs (Cond.eq (.elem (.field (tmL 3) "java/lang/String" "value" "[B") (.int (1 : Int32))) (.int (104 : Int32))) (by decide +kernel)
  | 2, _ => hs (Cond.eq (.elem (.field (tmL 3) "java/lang/String" "value" "[B") (.int (2 : Int32))) (.int (105 : Int32))) (by decide +kernel)
  | 3, _ => hs (Cond.eq (.elem (.field (tmL 3) "java/lang/String" "value" "[B") (.int (3 : Int32))) (.int (102 : Int32))) (by decide +kernel)
  | 4, _ => hs (Cond.eq (.elem (.field (tmL 3) "java/lang/String" "value" "[B") (.int (4 : Int32))) (.int (116 : Int32))) (by decide +kernel)
  | n + 5, h => absurd h (by omega)
theorem sp_el4 {args : Array Value} {s : State} (hs : ∀ c ∈ flatC (.and given_1 narrow_1), c.before args s = true) : ∀ j, j < 5 → (Cond.eq (.elem (.field (tmL 4) "java/lang/String" "value" "[B") (.int (Int32.ofNat j))) (.int ((bytL.getD 4 []).getD j 0))).before args s = true := fun j hj => match j, hj with
  | 0, _ => hs (Cond.eq (.elem (.field (tmL 4) "java/lang/String" "value" "[B") (.int (0 : Int32))) (.int (98 : Int32))) (by decide +kernel)
  | 1, _ => hs (Cond.eq (.elem (.field (tmL 4) "java/lang/String" "value" "[B") (.int (1 : Int32))) (.int (97 : Int32))) (by decide +kernel)
  | 2, _ => hs (Cond.eq (.elem (.field (tmL 4) "java/lang/String" "value" "[B") (.int (2 : Int32))) (.int (107 : Int32))) (by decide +kernel)
  | 3, _ => hs (Cond.eq (.elem (.field (tmL 4) "java/lang/String" "value" "[B") (.int (3 : Int32))) (.int (101 : Int32))) (by decide +kernel)
  | 4, _ => hs (Cond.eq (.elem (.field (tmL 4) "java/lang/String" "value" "[B") (.int (4 : Int32))) (.int (114 : Int32))) (by decide +kernel)
  | n + 5, h => absurd h (by omega)
theorem sp_el5 {args : Array Value} {s : State} (hs : ∀ c ∈ flatC (.and given_1 narrow_1), c.before args s = true) : ∀ j, j < 7 → (Cond.eq (.elem (.field (tmL 5) "java/lang/String" "value" "[B") (.int (Int32.ofNat j))) (.int ((bytL.getD 5 []).getD j 0))).before args s = true := fun j hj => match j, hj with
  | 0, _ => hs (Cond.eq (.elem (.field (tmL 5) "java/lang/String" "value" "[B") (.int (0 : Int32))) (.int (115 : Int32))) (by decide +kernel)
  | 1, _ => hs (Cond.eq (.elem (.field (tmL 5) "java/lang/String" "value" "[B") (.int (1 : Int32))) (.int (108 : Int32))) (by decide +kernel)
  | 2, _ => hs (Cond.eq (.elem (.field (tmL 5) "java/lang/String" "value" "[B") (.int (2 : Int32))) (.int (101 : Int32))) (by decide +kernel)
  | 3, _ => hs (Cond.eq (.elem (.field (tmL 5) "java/lang/String" "value" "[B") (.int (3 : Int32))) (.int (101 : Int32))) (by decide +kernel)
  | 4, _ => hs (Cond.eq (.elem (.field (tmL 5) "java/lang/String" "value" "[B") (.int (4 : Int32))) (.int (112 : Int32))) (by decide +kernel)
  | 5, _ => hs (Cond.eq (.elem (.field (tmL 5) "java/lang/String" "value" "[B") (.int (5 : Int32))) (.int (101 : Int32))) (by decide +kernel)
  | 6, _ => hs (Cond.eq (.elem (.field (tmL 5) "java/lang/String" "value" "[B") (.int (6 : Int32))) (.int (114 : Int32))) (by decide +kernel)
  | n + 7, h => absurd h (by omega)
theorem sp_el6 {args : Array Value} {s : State} (hs : ∀ c ∈ flatC (.and given_1 narrow_1), c.before args s = true) : ∀ j, j < 4 → (Cond.eq (.elem (.field (tmL 6) "java/lang/String" "value" "[B") (.int (Int32.ofNat j))) (.int ((bytL.getD 6 []).getD j 0))).before args s = true := fun j hj => match j, hj with
  | 0, _ => hs (Cond.eq (.elem (.field (tmL 6) "java/lang/String" "value" "[B") (.int (0 : Int32))) (.int (104 : Int32))) (by decide +kernel)
  | 1, _ => hs (Cond.eq (.elem (.field (tmL 6) "java/lang/String" "value" "[B") (.int (1 : Int32))) (.int (111 : Int32))) (by decide +kernel)
  | 2, _ => hs (Cond.eq (.elem (.field (tmL 6) "java/lang/String" "value" "[B") (.int (2 : Int32))) (.int (117 : Int32))) (by decide +kernel)
  | 3, _ => hs (Cond.eq (.elem (.field (tmL 6) "java/lang/String" "value" "[B") (.int (3 : Int32))) (.int (114 : Int32))) (by decide +kernel)
  | n + 4, h => absurd h (by omega)
theorem sp_el7 {args : Array Value} {s : State} (hs : ∀ c ∈ flatC (.and given_1 narrow_1), c.before args s = true) : ∀ j, j < 4 → (Cond.eq (.elem (.field (tmL 7) "java/lang/String" "value" "[B") (.int (Int32.ofNat j))) (.int ((bytL.getD 7 []).getD j 0))).before args s = true := fun j hj => match j, hj with
  | 0, _ => hs (Cond.eq (.elem (.field (tmL 7) "java/lang/String" "value" "[B") (.int (0 : Int32))) (.int (119 : Int32))) (by decide +kernel)
  | 1, _ => hs (Cond.eq (.elem (.field (tmL 7) "java/lang/String" "value" "[B") (.int (1 : Int32))) (.int (97 : Int32))) (by decide +kernel)
  | 2, _ => hs (Cond.eq (.elem (.field (tmL 7) "java/lang/String" "value" "[B") (.int (2 : Int32))) (.int (110 : Int32))) (by decide +kernel)
  | 3, _ => hs (Cond.eq (.elem (.field (tmL 7) "java/lang/String" "value" "[B") (.int (3 : Int32))) (.int (116 : Int32))) (by decide +kernel)
  | n + 4, h => absurd h (by omega)
theorem sp_el8 {args : Array Value} {s : State} (hs : ∀ c ∈ flatC (.and given_1 narrow_1), c.before args s = true) : ∀ j, j < 6 → (Cond.eq (.elem (.field (tmL 8) "java/lang/String" "value" "[B") (.int (Int32.ofNat j))) (.int ((bytL.getD 8 []).getD j 0))).before args s = true := fun j hj => match j, hj with
  | 0, _ => hs (Cond.eq (.elem (.field (tmL 8) "java/lang/String" "value" "[B") (.int (0 : Int32))) (.int (119 : Int32))) (by decide +kernel)
  | 1, _ => hs (Cond.eq (.elem (.field (tmL 8) "java/lang/String" "value" "[B") (.int (1 : Int32))) (.int (101 : Int32))) (by decide +kernel)
  | 2, _ => hs (Cond.eq (.elem (.field (tmL 8) "java/lang/String" "value" "[B") (.int (2 : Int32))) (.int (105 : Int32))) (by decide +kernel)
  | 3, _ => hs (Cond.eq (.elem (.field (tmL 8) "java/lang/String" "value" "[B") (.int (3 : Int32))) (.int (103 : Int32))) (by decide +kernel)
  | 4, _ => hs (Cond.eq (.elem (.field (tmL 8) "java/lang/String" "value" "[B") (.int (4 : Int32))) (.int (104 : Int32))) (by decide +kernel)
  | 5, _ => hs (Cond.eq (.elem (.field (tmL 8) "java/lang/String" "value" "[B") (.int (5 : Int32))) (.int (116 : Int32))) (by decide +kernel)
  | n + 6, h => absurd h (by omega)
theorem sp_el9 {args : Array Value} {s : State} (hs : ∀ c ∈ flatC (.and given_1 narrow_1), c.before args s = true) : ∀ j, j < 5 → (Cond.eq (.elem (.field (tmL 9) "java/lang/String" "value" "[B") (.int (Int32.ofNat j))) (.int ((bytL.getD 9 []).getD j 0))).before args s = true := fun j hj => match j, hj with
  | 0, _ => hs (Cond.eq (.elem (.field (tmL 9) "java/lang/String" "value" "[B") (.int (0 : Int32))) (.int (97 : Int32))) (by decide +kernel)
  | 1, _ => hs (Cond.eq (.elem (.field (tmL 9) "java/lang/String" "value" "[B") (.int (1 : Int32))) (.int (119 : Int32))) (by decide +kernel)
  | 2, _ => hs (Cond.eq (.elem (.field (tmL 9) "java/lang/String" "value" "[B") (.int (2 : Int32))) (.int (97 : Int32))) (by decide +kernel)
  | 3, _ => hs (Cond.eq (.elem (.field (tmL 9) "java/lang/String" "value" "[B") (.int (3 : Int32))) (.int (107 : Int32))) (by decide +kernel)
  | 4, _ => hs (Cond.eq (.elem (.field (tmL 9) "java/lang/String" "value" "[B") (.int (4 : Int32))) (.int (101 : Int32))) (by decide +kernel)
  | n + 5, h => absurd h (by omega)
theorem sp_el10 {args : Array Value} {s : State} (hs : ∀ c ∈ flatC (.and given_1 narrow_1), c.before args s = true) : ∀ j, j < 6 → (Cond.eq (.elem (.field (tmL 10) "java/lang/String" "value" "[B") (.int (Int32.ofNat j))) (.int ((bytL.getD 10 []).getD j 0))).before args s = true := fun j hj => match j, hj with
  | 0, _ => hs (Cond.eq (.elem (.field (tmL 10) "java/lang/String" "value" "[B") (.int (0 : Int32))) (.int (110 : Int32))) (by decide +kernel)
  | 1, _ => hs (Cond.eq (.elem (.field (tmL 10) "java/lang/String" "value" "[B") (.int (1 : Int32))) (.int (117 : Int32))) (by decide +kernel)
  | 2, _ => hs (Cond.eq (.elem (.field (tmL 10) "java/lang/String" "value" "[B") (.int (2 : Int32))) (.int (109 : Int32))) (by decide +kernel)
  | 3, _ => hs (Cond.eq (.elem (.field (tmL 10) "java/lang/String" "value" "[B") (.int (3 : Int32))) (.int (98 : Int32))) (by decide +kernel)
  | 4, _ => hs (Cond.eq (.elem (.field (tmL 10) "java/lang/String" "value" "[B") (.int (4 : Int32))) (.int (101 : Int32))) (by decide +kernel)
  | 5, _ => hs (Cond.eq (.elem (.field (tmL 10) "java/lang/String" "value" "[B") (.int (5 : Int32))) (.int (114 : Int32))) (by decide +kernel)
  | n + 6, h => absurd h (by omega)
theorem sp_el11 {args : Array Value} {s : State} (hs : ∀ c ∈ flatC (.and given_1 narrow_1), c.before args s = true) : ∀ j, j < 2 → (Cond.eq (.elem (.field (tmL 11) "java/lang/String" "value" "[B") (.int (Int32.ofNat j))) (.int ((bytL.getD 11 []).getD j 0))).before args s = true := fun j hj => match j, hj with
  | 0, _ => hs (Cond.eq (.elem (.field (tmL 11) "java/lang/String" "value" "[B") (.int (0 : Int32))) (.int (105 : Int32))) (by decide +kernel)
  | 1, _ => hs (Cond.eq (.elem (.field (tmL 11) "java/lang/String" "value" "[B") (.int (1 : Int32))) (.int (102 : Int32))) (by decide +kernel)
  | n + 2, h => absurd h (by omega)
theorem sp_el12 {args : Array Value} {s : State} (hs : ∀ c ∈ flatC (.and given_1 narrow_1), c.before args s = true) : ∀ j, j < 3 → (Cond.eq (.elem (.field (tmL 12) "java/lang/String" "value" "[B") (.int (Int32.ofNat j))) (.int ((bytL.getD 12 []).getD j 0))).before args s = true := fun j hj => match j, hj with
  | 0, _ => hs (Cond.eq (.elem (.field (tmL 12) "java/lang/String" "value" "[B") (.int (0 : Int32))) (.int (97 : Int32))) (by decide +kernel)
  | 1, _ => hs (Cond.eq (.elem (.field (tmL 12) "java/lang/String" "value" "[B") (.int (1 : Int32))) (.int (110 : Int32))) (by decide +kernel)
  | 2, _ => hs (Cond.eq (.elem (.field (tmL 12) "java/lang/String" "value" "[B") (.int (2 : Int32))) (.int (100 : Int32))) (by decide +kernel)
  | n + 3, h => absurd h (by omega)
theorem sp_el13 {args : Array Value} {s : State} (hs : ∀ c ∈ flatC (.and given_1 narrow_1), c.before args s = true) : ∀ j, j < 2 → (Cond.eq (.elem (.field (tmL 13) "java/lang/String" "value" "[B") (.int (Int32.ofNat j))) (.int ((bytL.getD 13 []).getD j 0))).before args s = true := fun j hj => match j, hj with
  | 0, _ => hs (Cond.eq (.elem (.field (tmL 13) "java/lang/String" "value" "[B") (.int (0 : Int32))) (.int (111 : Int32))) (by decide +kernel)
  | 1, _ => hs (Cond.eq (.elem (.field (tmL 13) "java/lang/String" "value" "[B") (.int (1 : Int32))) (.int (114 : Int32))) (by decide +kernel)
  | n + 2, h => absurd h (by omega)
theorem sp_el14 {args : Array Value} {s : State} (hs : ∀ c ∈ flatC (.and given_1 narrow_1), c.before args s = true) : ∀ j, j < 3 → (Cond.eq (.elem (.field (tmL 14) "java/lang/String" "value" "[B") (.int (Int32.ofNat j))) (.int ((bytL.getD 14 []).getD j 0))).before args s = true := fun j hj => match j, hj with
  | 0, _ => hs (Cond.eq (.elem (.field (tmL 14) "java/lang/String" "value" "[B") (.int (0 : Int32))) (.int (110 : Int32))) (by decide +kernel)
  | 1, _ => hs (Cond.eq (.elem (.field (tmL 14) "java/lang/String" "value" "[B") (.int (1 : Int32))) (.int (111 : Int32))) (by decide +kernel)
  | 2, _ => hs (Cond.eq (.elem (.field (tmL 14) "java/lang/String" "value" "[B") (.int (2 : Int32))) (.int (116 : Int32))) (by decide +kernel)
  | n + 3, h => absurd h (by omega)
theorem sp_el15 {args : Array Value} {s : State} (hs : ∀ c ∈ flatC (.and given_1 narrow_1), c.before args s = true) : ∀ j, j < 4 → (Cond.eq (.elem (.field (tmL 15) "java/lang/String" "value" "[B") (.int (Int32.ofNat j))) (.int ((bytL.getD 15 []).getD j 0))).before args s = true := fun j hj => match j, hj with
  | 0, _ => hs (Cond.eq (.elem (.field (tmL 15) "java/lang/String" "value" "[B") (.int (0 : Int32))) (.int (109 : Int32))) (by decide +kernel)
  | 1, _ => hs (Cond.eq (.elem (.field (tmL 15) "java/lang/String" "value" "[B") (.int (1 : Int32))) (.int (111 : Int32))) (by decide +kernel)
  | 2, _ => hs (Cond.eq (.elem (.field (tmL 15) "java/lang/String" "value" "[B") (.int (2 : Int32))) (.int (114 : Int32))) (by decide +kernel)
  | 3, _ => hs (Cond.eq (.elem (.field (tmL 15) "java/lang/String" "value" "[B") (.int (3 : Int32))) (.int (101 : Int32))) (by decide +kernel)
  | n + 4, h => absurd h (by omega)
theorem sp_el16 {args : Array Value} {s : State} (hs : ∀ c ∈ flatC (.and given_1 narrow_1), c.before args s = true) : ∀ j, j < 4 → (Cond.eq (.elem (.field (tmL 16) "java/lang/String" "value" "[B") (.int (Int32.ofNat j))) (.int ((bytL.getD 16 []).getD j 0))).before args s = true := fun j hj => match j, hj with
  | 0, _ => hs (Cond.eq (.elem (.field (tmL 16) "java/lang/String" "value" "[B") (.int (0 : Int32))) (.int (108 : Int32))) (by decide +kernel)
  | 1, _ => hs (Cond.eq (.elem (.field (tmL 16) "java/lang/String" "value" "[B") (.int (1 : Int32))) (.int (101 : Int32))) (by decide +kernel)
  | 2, _ => hs (Cond.eq (.elem (.field (tmL 16) "java/lang/String" "value" "[B") (.int (2 : Int32))) (.int (115 : Int32))) (by decide +kernel)
  | 3, _ => hs (Cond.eq (.elem (.field (tmL 16) "java/lang/String" "value" "[B") (.int (3 : Int32))) (.int (115 : Int32))) (by decide +kernel)
  | n + 4, h => absurd h (by omega)
theorem sp_el17 {args : Array Value} {s : State} (hs : ∀ c ∈ flatC (.and given_1 narrow_1), c.before args s = true) : ∀ j, j < 3 → (Cond.eq (.elem (.field (tmL 17) "java/lang/String" "value" "[B") (.int (Int32.ofNat j))) (.int ((bytL.getD 17 []).getD j 0))).before args s = true := fun j hj => match j, hj with
  | 0, _ => hs (Cond.eq (.elem (.field (tmL 17) "java/lang/String" "value" "[B") (.int (0 : Int32))) (.int (110 : Int32))) (by decide +kernel)
  | 1, _ => hs (Cond.eq (.elem (.field (tmL 17) "java/lang/String" "value" "[B") (.int (1 : Int32))) (.int (105 : Int32))) (by decide +kernel)
  | 2, _ => hs (Cond.eq (.elem (.field (tmL 17) "java/lang/String" "value" "[B") (.int (2 : Int32))) (.int (108 : Int32))) (by decide +kernel)
  | n + 3, h => absurd h (by omega)
theorem sp_el18 {args : Array Value} {s : State} (hs : ∀ c ∈ flatC (.and given_1 narrow_1), c.before args s = true) : ∀ j, j < 1 → (Cond.eq (.elem (.field (tmL 18) "java/lang/String" "value" "[B") (.int (Int32.ofNat j))) (.int ((bytL.getD 18 []).getD j 0))).before args s = true := fun j hj => match j, hj with
  | 0, _ => hs (Cond.eq (.elem (.field (tmL 18) "java/lang/String" "value" "[B") (.int (0 : Int32))) (.int (40 : Int32))) (by decide +kernel)
  | n + 1, h => absurd h (by omega)
theorem sp_el19 {args : Array Value} {s : State} (hs : ∀ c ∈ flatC (.and given_1 narrow_1), c.before args s = true) : ∀ j, j < 1 → (Cond.eq (.elem (.field (tmL 19) "java/lang/String" "value" "[B") (.int (Int32.ofNat j))) (.int ((bytL.getD 19 []).getD j 0))).before args s = true := fun j hj => match j, hj with
  | 0, _ => hs (Cond.eq (.elem (.field (tmL 19) "java/lang/String" "value" "[B") (.int (0 : Int32))) (.int (41 : Int32))) (by decide +kernel)
  | n + 1, h => absurd h (by omega)
theorem sp_el20 {args : Array Value} {s : State} (hs : ∀ c ∈ flatC (.and given_1 narrow_1), c.before args s = true) : ∀ j, j < 1 → (Cond.eq (.elem (.field (tmL 20) "java/lang/String" "value" "[B") (.int (Int32.ofNat j))) (.int ((bytL.getD 20 []).getD j 0))).before args s = true := fun j hj => match j, hj with
  | 0, _ => hs (Cond.eq (.elem (.field (tmL 20) "java/lang/String" "value" "[B") (.int (0 : Int32))) (.int (60 : Int32))) (by decide +kernel)
  | n + 1, h => absurd h (by omega)
theorem sp_el21 {args : Array Value} {s : State} (hs : ∀ c ∈ flatC (.and given_1 narrow_1), c.before args s = true) : ∀ j, j < 1 → (Cond.eq (.elem (.field (tmL 21) "java/lang/String" "value" "[B") (.int (Int32.ofNat j))) (.int ((bytL.getD 21 []).getD j 0))).before args s = true := fun j hj => match j, hj with
  | 0, _ => hs (Cond.eq (.elem (.field (tmL 21) "java/lang/String" "value" "[B") (.int (0 : Int32))) (.int (61 : Int32))) (by decide +kernel)
  | n + 1, h => absurd h (by omega)
theorem sp_el22 {args : Array Value} {s : State} (hs : ∀ c ∈ flatC (.and given_1 narrow_1), c.before args s = true) : ∀ j, j < 1 → (Cond.eq (.elem (.field (tmL 22) "java/lang/String" "value" "[B") (.int (Int32.ofNat j))) (.int ((bytL.getD 22 []).getD j 0))).before args s = true := fun j hj => match j, hj with
  | 0, _ => hs (Cond.eq (.elem (.field (tmL 22) "java/lang/String" "value" "[B") (.int (0 : Int32))) (.int (62 : Int32))) (by decide +kernel)
  | n + 1, h => absurd h (by omega)
theorem sp_el23 {args : Array Value} {s : State} (hs : ∀ c ∈ flatC (.and given_1 narrow_1), c.before args s = true) : ∀ j, j < 1 → (Cond.eq (.elem (.field (tmL 23) "java/lang/String" "value" "[B") (.int (Int32.ofNat j))) (.int ((bytL.getD 23 []).getD j 0))).before args s = true := fun j hj => match j, hj with
  | 0, _ => hs (Cond.eq (.elem (.field (tmL 23) "java/lang/String" "value" "[B") (.int (0 : Int32))) (.int (59 : Int32))) (by decide +kernel)
  | n + 1, h => absurd h (by omega)
theorem sp_el {args : Array Value} {s : State} (hs : ∀ c ∈ flatC (.and given_1 narrow_1), c.before args s = true) : ∀ i, i < 24 → ∀ j, j < lenL.getD i 0 → (Cond.eq (.elem (.field (tmL i) "java/lang/String" "value" "[B") (.int (Int32.ofNat j))) (.int ((bytL.getD i []).getD j 0))).before args s = true := fun i hi => match i, hi with
  | 0, _ => sp_el0 hs
  | 1, _ => sp_el1 hs
  | 2, _ => sp_el2 hs
  | 3, _ => sp_el3 hs
  | 4, _ => sp_el4 hs
  | 5, _ => sp_el5 hs
  | 6, _ => sp_el6 hs
  | 7, _ => sp_el7 hs
  | 8, _ => sp_el8 hs
  | 9, _ => sp_el9 hs
  | 10, _ => sp_el10 hs
  | 11, _ => sp_el11 hs
  | 12, _ => sp_el12 hs
  | 13, _ => sp_el13 hs
  | 14, _ => sp_el14 hs
  | 15, _ => sp_el15 hs
  | 16, _ => sp_el16 hs
  | 17, _ => sp_el17 hs
  | 18, _ => sp_el18 hs
  | 19, _ => sp_el19 hs
  | 20, _ => sp_el20 hs
  | 21, _ => sp_el21 hs
  | 22, _ => sp_el22 hs
  | 23, _ => sp_el23 hs
  | n + 24, h => absurd h (by omega)
theorem str_inj : ∀ i, i < 24 → ∀ j, j < 24 → lenL.getD i 0 = lenL.getD j 0 → (∀ k, k < lenL.getD i 0 → (bytL.getD i []).getD k 0 = (bytL.getD j []).getD k 0) → i = j := by decide +kernel
theorem sp_S {args : Array Value} {s : State} (hs : ∀ c ∈ flatC (.and given_1 narrow_1), c.before args s = true) {A : Nat → Prop} (hA : ∀ a : Nat, a < s.heap.size → ¬ A a) : ∃ ak av : Nat → Nat, vk_S 24 lenL bytL ak av A s s.heap ∧ ∀ i : Nat, i < 24 → (tmL i).eval args s none [] s = some (.ref (ak i)) := by
  have h0 : ∀ i : Nat, ∃ q : Nat × Nat, i < 24 → (tmL i).eval args s none [] s = some (.ref q.1) ∧ va_O "java/lang/String" q.1 A s s.heap ∧ va_OF "java/lang/String" "coder" "B" (.int 0) q.1 A s s.heap ∧ va_OF "java/lang/String" "value" "[B" (.ref q.2) q.1 A s s.heap ∧ va_T .byte q.2 (lenL.getD i 0) (fun j => .int ((bytL.getD i []).getD j 0)) A s s.heap := by
    intro i
    by_cases hi : i < 24
    · obtain ⟨a, c, cA, kA, q1, q2, q3, q4, q5, q6, -⟩ := Cond.exactly_spec (args := args) (first := s) (o := none) (s := s) (idx := []) (t := tmL i) (cls := "java/lang/String") (sp_ex hs i hi)
      obtain ⟨t, ht, hT⟩ := va_Tof (f := fun j => .int ((bytL.getD i []).getD j 0)) (A := A) (lenE i hi).2.1 (sp_ar hs i hi) (va_eqt (sp_le hs i hi)) (fun j hj => va_eqt (sp_el hs i hi j hj)) hA
      exact ⟨(a, t), fun _ => ⟨q1, ⟨cA, q3, q5, by rw [q6]; exact q2, hA a (Array.getElem?_eq_some_iff.mp q3).1⟩, vk_OFof q1 (va_eqt (sp_co hs i hi)) hA, vk_OFof q1 ht hA, hT⟩⟩
    · exact ⟨(0, 0), fun h => absurd h hi⟩
  obtain ⟨ad, had⟩ := Classical.axiomOfChoice h0
  refine ⟨fun i => (ad i).1, fun i => (ad i).2, ⟨fun i hi => (had i hi).2, fun i j hi hj e => ?_⟩, fun i hi => (had i hi).1⟩
  obtain ⟨-, -, -, ⟨cf, k, fi, f, cell, a1, a2, a3, a4, a5, a6⟩, ⟨ce, b1_, b2_, b3, b4, b5, b6, b7⟩⟩ := had i hi
  obtain ⟨-, -, -, ⟨cf', k', fi', f', cell', a1', a2', a3', a4', a5', a6'⟩, ⟨ce', b1', b2', b3', b4', b5', b6', b7'⟩⟩ := had j hj
  cases a1.symm.trans a1'
  have e2 : (ad i).1 = (ad j).1 := e
  rw [e2] at a3
  cases a3.symm.trans a3'
  have e3 : (ad i).2 = (ad j).2 := by
    have := a5.symm.trans a5'
    injection this with this
    injection this
  rw [e3] at b1_
  cases b1_.symm.trans b1'
  have hn : lenL.getD i 0 = lenL.getD j 0 := by
    have h1 := b5.symm.trans b5'
    exact (nI_eq (lenE i hi).2.1 (lenE j hj).2.1).mp h1
  refine str_inj i hi j hj hn (fun q hq => ?_)
  have h2 := (b6 q hq).symm.trans (b6' q (by rw [← hn]; exact hq))
  injection h2 with h2
  injection h2
theorem sp_eq {args : Array Value} {s : State} {t1 t2 : Term} {a : Nat} (h : (Cond.eq t1 t2).before args s = true) : (t1.eval args s none [] s = some (.ref a) → t2.eval args s none [] s = some (.ref a)) ∧ (t2.eval args s none [] s = some (.ref a) → t1.eval args s none [] s = some (.ref a)) := by
  constructor <;> intro h1
  · cases h2 : t2.eval args s none [] s with
    | none => simp [Cond.before, Cond.holds, Cond.value, h1, h2] at h
    | some v => cases v <;> simp_all [Cond.before, Cond.holds, Cond.value]
  · cases h2 : t1.eval args s none [] s with
    | none => simp [Cond.before, Cond.holds, Cond.value, h1, h2] at h
    | some v => cases v <;> simp_all [Cond.before, Cond.holds, Cond.value]
theorem sp_ref {args : Array Value} {s : State} (hs : ∀ c ∈ flatC (.and given_1 narrow_1), c.before args s = true) {ak : Nat → Nat} (hk : ∀ i : Nat, i < 24 → (tmL i).eval args s none [] s = some (.ref (ak i))) (hts : ∀ w ∈ lw_tbl, w.before args s = true) : ∀ (k : Nat) (q : String × Nat × String × Nat), refL[k]? = some q → vk_R q.1 q.2.1 q.2.2.1 (ak q.2.2.2) s := fun k q hq => match k, hq with
  | 0, h => by cases h; exact vk_R.of (hts (.stringRef RX5 81 "voter") (List.mem_of_getElem? (i := 595) (by decide +kernel))) (hk 0 (by decide))
  | 1, h => by cases h; exact vk_R.of (hts (.stringRef RX5 87 "lover") (List.mem_of_getElem? (i := 648) (by decide +kernel))) (hk 1 (by decide))
  | 2, h => by cases h; exact vk_R.of (hts (.stringRef RX5 89 "debtor") (List.mem_of_getElem? (i := 649) (by decide +kernel))) (hk 2 (by decide))
  | 3, h => by cases h; exact vk_R.of (hts (.stringRef RX5 91 "shift") (List.mem_of_getElem? (i := 650) (by decide +kernel))) (hk 3 (by decide))
  | 4, h => by cases h; exact vk_R.of (hts (.stringRef RX5 93 "baker") (List.mem_of_getElem? (i := 651) (by decide +kernel))) (hk 4 (by decide))
  | 5, h => by cases h; exact vk_R.of (hts (.stringRef RX5 95 "sleeper") (List.mem_of_getElem? (i := 652) (by decide +kernel))) (hk 5 (by decide))
  | 6, h => by cases h; exact vk_R.of (hts (.stringRef RX5 97 "hour") (List.mem_of_getElem? (i := 653) (by decide +kernel))) (hk 6 (by decide))
  | 7, h => by cases h; exact vk_R.of (hts (.stringRef RX5 99 "want") (List.mem_of_getElem? (i := 654) (by decide +kernel))) (hk 7 (by decide))
  | 8, h => by cases h; exact vk_R.of (hts (.stringRef RX5 101 "weight") (List.mem_of_getElem? (i := 655) (by decide +kernel))) (hk 8 (by decide))
  | 9, h => by cases h; exact vk_R.of (hts (.stringRef RX5 103 "awake") (List.mem_of_getElem? (i := 656) (by decide +kernel))) (hk 9 (by decide))
  | 10, h => by cases h; exact vk_R.of (hts (.stringRef RX5 105 "number") (List.mem_of_getElem? (i := 657) (by decide +kernel))) (hk 10 (by decide))
  | 11, h => by cases h; exact vk_R.of (hts (.stringRef RX5 107 "if") (List.mem_of_getElem? (i := 658) (by decide +kernel))) (hk 11 (by decide))
  | 12, h => by cases h; exact vk_R.of (hts (.stringRef RX5 109 "and") (List.mem_of_getElem? (i := 659) (by decide +kernel))) (hk 12 (by decide))
  | 13, h => by cases h; exact vk_R.of (hts (.stringRef RX5 111 "or") (List.mem_of_getElem? (i := 660) (by decide +kernel))) (hk 13 (by decide))
  | 14, h => by cases h; exact vk_R.of (hts (.stringRef RX5 113 "not") (List.mem_of_getElem? (i := 661) (by decide +kernel))) (hk 14 (by decide))
  | 15, h => by cases h; exact vk_R.of (hts (.stringRef RX5 115 "more") (List.mem_of_getElem? (i := 662) (by decide +kernel))) (hk 15 (by decide))
  | 16, h => by cases h; exact vk_R.of (hts (.stringRef RX5 117 "less") (List.mem_of_getElem? (i := 663) (by decide +kernel))) (hk 16 (by decide))
  | 17, h => by cases h; exact vk_R.of (hts (.stringRef RX5 119 "nil") (List.mem_of_getElem? (i := 664) (by decide +kernel))) (hk 17 (by decide))
  | 18, h => by cases h; exact vk_R.of (hts (.stringRef RX12 240 "voter") (List.mem_of_getElem? (i := 1378) (by decide +kernel))) ((sp_eq (hs (.eq (.string RX5 81) (.string RX12 240)) (by decide +kernel))).1 (hk 0 (by decide)))
  | 19, h => by cases h; exact vk_R.of (hts (.stringRef RX12 242 "lover") (List.mem_of_getElem? (i := 1385) (by decide +kernel))) ((sp_eq (hs (.eq (.string RX5 87) (.string RX12 242)) (by decide +kernel))).1 (hk 1 (by decide)))
  | 20, h => by cases h; exact vk_R.of (hts (.stringRef RX12 244 "debtor") (List.mem_of_getElem? (i := 1386) (by decide +kernel))) ((sp_eq (hs (.eq (.string RX5 89) (.string RX12 244)) (by decide +kernel))).1 (hk 2 (by decide)))
  | 21, h => by cases h; exact vk_R.of (hts (.stringRef RX12 246 "shift") (List.mem_of_getElem? (i := 1387) (by decide +kernel))) ((sp_eq (hs (.eq (.string RX5 91) (.string RX12 246)) (by decide +kernel))).1 (hk 3 (by decide)))
  | 22, h => by cases h; exact vk_R.of (hts (.stringRef RX12 248 "baker") (List.mem_of_getElem? (i := 1388) (by decide +kernel))) ((sp_eq (hs (.eq (.string RX5 93) (.string RX12 248)) (by decide +kernel))).1 (hk 4 (by decide)))
  | 23, h => by cases h; exact vk_R.of (hts (.stringRef RX12 250 "sleeper") (List.mem_of_getElem? (i := 1389) (by decide +kernel))) ((sp_eq (hs (.eq (.string RX5 95) (.string RX12 250)) (by decide +kernel))).1 (hk 5 (by decide)))
  | 24, h => by cases h; exact vk_R.of (hts (.stringRef RX12 255 "if") (List.mem_of_getElem? (i := 1390) (by decide +kernel))) ((sp_eq (hs (.eq (.string RX5 107) (.string RX12 255)) (by decide +kernel))).1 (hk 11 (by decide)))
  | 25, h => by cases h; exact vk_R.of (hts (.stringRef RX12 217 "not") (List.mem_of_getElem? (i := 1407) (by decide +kernel))) ((sp_eq (hs (.eq (.string RX5 113) (.string RX12 217)) (by decide +kernel))).1 (hk 14 (by decide)))
  | 26, h => by cases h; exact vk_R.of (hts (.stringRef RX12 222 "(") (List.mem_of_getElem? (i := 1408) (by decide +kernel))) (hk 18 (by decide))
  | 27, h => by cases h; exact vk_R.of (hts (.stringRef RX12 211 ")") (List.mem_of_getElem? (i := 1413) (by decide +kernel))) (hk 19 (by decide))
  | 28, h => by cases h; exact vk_R.of (hts (.stringRef RX12 178 "hour") (List.mem_of_getElem? (i := 1430) (by decide +kernel))) ((sp_eq (hs (.eq (.string RX5 97) (.string RX12 178)) (by decide +kernel))).1 (hk 6 (by decide)))
  | 29, h => by cases h; exact vk_R.of (hts (.stringRef RX12 180 "want") (List.mem_of_getElem? (i := 1431) (by decide +kernel))) ((sp_eq (hs (.eq (.string RX5 99) (.string RX12 180)) (by decide +kernel))).1 (hk 7 (by decide)))
  | 30, h => by cases h; exact vk_R.of (hts (.stringRef RX12 182 "weight") (List.mem_of_getElem? (i := 1432) (by decide +kernel))) ((sp_eq (hs (.eq (.string RX5 101) (.string RX12 182)) (by decide +kernel))).1 (hk 8 (by decide)))
  | 31, h => by cases h; exact vk_R.of (hts (.stringRef RX12 184 "awake") (List.mem_of_getElem? (i := 1433) (by decide +kernel))) ((sp_eq (hs (.eq (.string RX5 103) (.string RX12 184)) (by decide +kernel))).1 (hk 9 (by decide)))
  | 32, h => by cases h; exact vk_R.of (hts (.stringRef RX12 185 "number") (List.mem_of_getElem? (i := 1434) (by decide +kernel))) ((sp_eq (hs (.eq (.string RX5 105) (.string RX12 185)) (by decide +kernel))).1 (hk 10 (by decide)))
  | 33, h => by cases h; exact vk_R.of (hts (.stringRef RX12 199 "<") (List.mem_of_getElem? (i := 1447) (by decide +kernel))) (hk 20 (by decide))
  | 34, h => by cases h; exact vk_R.of (hts (.stringRef RX12 201 "=") (List.mem_of_getElem? (i := 1448) (by decide +kernel))) (hk 21 (by decide))
  | 35, h => by cases h; exact vk_R.of (hts (.stringRef RX12 203 ">") (List.mem_of_getElem? (i := 1449) (by decide +kernel))) (hk 22 (by decide))
  | 36, h => by cases h; exact vk_R.of (hts (.stringRef RX12 233 "and") (List.mem_of_getElem? (i := 1450) (by decide +kernel))) ((sp_eq (hs (.eq (.string RX5 109) (.string RX12 233)) (by decide +kernel))).1 (hk 12 (by decide)))
  | 37, h => by cases h; exact vk_R.of (hts (.stringRef RX12 238 "or") (List.mem_of_getElem? (i := 1451) (by decide +kernel))) ((sp_eq (hs (.eq (.string RX5 111) (.string RX12 238)) (by decide +kernel))).1 (hk 13 (by decide)))
  | 38, h => by cases h; exact vk_R.of (hts (.stringRef RX12 257 "more") (List.mem_of_getElem? (i := 1452) (by decide +kernel))) ((sp_eq (hs (.eq (.string RX5 115) (.string RX12 257)) (by decide +kernel))).1 (hk 15 (by decide)))
  | 39, h => by cases h; exact vk_R.of (hts (.stringRef RX12 259 "less") (List.mem_of_getElem? (i := 1453) (by decide +kernel))) ((sp_eq (hs (.eq (.string RX5 117) (.string RX12 259)) (by decide +kernel))).1 (hk 16 (by decide)))
  | 40, h => by cases h; exact vk_R.of (hts (.stringRef RX12 261 "nil") (List.mem_of_getElem? (i := 1454) (by decide +kernel))) ((sp_eq (hs (.eq (.string RX5 119) (.string RX12 261)) (by decide +kernel))).1 (hk 17 (by decide)))
  | 41, h => by cases h; exact vk_R.of (hts (.stringRef RX12 263 ";") (List.mem_of_getElem? (i := 1455) (by decide +kernel))) (hk 23 (by decide))
  | n + 42, h => by simp [refL] at h
theorem sp_K {args : Array Value} {s : State} (hts : ∀ w ∈ lw_tbl, w.before args s = true) : ∃ (D : va_G) (cI cT : ClassId), va_K D vwCl [(cI, .int), (cT, .object "HourByVote$Thing")] s := by
  have h : ∀ c : Nat, ∃ x : ClassId × (Nat → Nat), ∀ q : vw_C, vwCl[c]? = some q → u_Kn s q.1 q.2.1 q.2.2 x.1 x.2 := by
    intro c
    match c with
    | 0 => obtain ⟨cC, iS, h⟩ := u_known (n := 3) hts (fun w hw => ws_tbl w (inW0 w hw)) (hts _ (ws_tbl _ q_368)); exact ⟨(cC, iS), fun q hq => by cases hq; exact h⟩
    | 1 => obtain ⟨cC, iS, h⟩ := u_known (n := 3) hts (fun w hw => ws_tbl w (inW1 w hw)) (hts _ (ws_tbl _ q_348)); exact ⟨(cC, iS), fun q hq => by cases hq; exact h⟩
    | 2 => obtain ⟨cC, iS, h⟩ := u_known (n := 6) hts (fun w hw => ws_tbl w (inW2 w hw)) (hts _ (ws_tbl _ q_388)); exact ⟨(cC, iS), fun q hq => by cases hq; exact h⟩
    | 3 => obtain ⟨cC, iS, h⟩ := u_known (n := 3) hts (fun w hw => ws_tbl w (inW3 w hw)) (hts _ (ws_tbl _ q_338)); exact ⟨(cC, iS), fun q hq => by cases hq; exact h⟩
    | 4 => obtain ⟨cC, iS, h⟩ := u_known (n := 15) hts (fun w hw => ws_tbl w (inW4 w hw)) (hts _ (ws_tbl _ q_158)); exact ⟨(cC, iS), fun q hq => by cases hq; exact h⟩
    | 5 => obtain ⟨cC, iS, h⟩ := u_known (n := 8) hts (fun w hw => ws_tbl w (inW5 w hw)) (hts _ (ws_tbl _ q_268)); exact ⟨(cC, iS), fun q hq => by cases hq; exact h⟩
    | 6 => obtain ⟨cC, iS, h⟩ := u_known (n := 11) hts (fun w hw => ws_tbl w (inW6 w hw)) (hts _ (ws_tbl _ q_164)); exact ⟨(cC, iS), fun q hq => by cases hq; exact h⟩
    | 7 => obtain ⟨cC, iS, h⟩ := u_known (n := 3) hts (fun w hw => ws_tbl w (inW7 w hw)) (hts _ (ws_tbl _ q_358)); exact ⟨(cC, iS), fun q hq => by cases hq; exact h⟩
    | 8 => obtain ⟨cC, iS, h⟩ := u_known (n := 3) hts (fun w hw => ws_tbl w (inW8 w hw)) (hts _ (ws_tbl _ q_378)); exact ⟨(cC, iS), fun q hq => by cases hq; exact h⟩
    | 9 => obtain ⟨cC, iS, h⟩ := u_known (n := 3) hts (fun w hw => ws_tbl w (inW9 w hw)) (hts _ (ws_tbl _ q_304)); exact ⟨(cC, iS), fun q hq => by cases hq; exact h⟩
    | 10 => obtain ⟨cC, iS, h⟩ := u_known (n := 3) hts (fun w hw => ws_tbl w (inW10 w hw)) (hts _ (ws_tbl _ q_137)); exact ⟨(cC, iS), fun q hq => by cases hq; exact h⟩
    | 11 => obtain ⟨cC, iS, h⟩ := u_known (n := 13) hts (fun w hw => ws_tbl w (inW11 w hw)) (hts _ (ws_tbl _ q_129)); exact ⟨(cC, iS), fun q hq => by cases hq; exact h⟩
    | 12 => obtain ⟨cC, iS, h⟩ := u_known (n := 34) hts (fun w hw => ws_tbl w (inW12 w hw)) (hts _ (ws_tbl _ q_1141)); exact ⟨(cC, iS), fun q hq => by cases hq; exact h⟩
    | n + 13 => exact ⟨(0, fun _ => 0), fun q hq => by simp [vwCl] at hq⟩
  obtain ⟨f, hf⟩ := Classical.axiomOfChoice h
  obtain ⟨cI, kI, compI, i1, i2, i3⟩ := Cond.arrayClass_spec (hts _ (ws_tbl _ q_ai))
  obtain ⟨comp, cT, kT, t1, -, t2, t3, t4⟩ := Cond.arrayOver_spec (hts (.arrayOver (.object "HourByVote$Thing")) (List.mem_of_getElem? (i := 303) (by decide +kernel)))
  refine ⟨(fun c => (f c).1, fun c => (f c).2), cI, cT, fun c q hq => hf c q hq, fun k q hk => ?_⟩
  match k, hk with
  | 0, hk => cases hk; exact ⟨fun n z => ⟨fun k h => (by cases h), kI, i2, compI, i3⟩, i1⟩
  | 1, hk => cases hk; exact ⟨fun n z => ⟨fun k h => (by cases h), kT, t2, comp, t3⟩, kT, comp, t2, t3, t1, t4⟩
  | n + 2, hk => simp at hk
theorem sp_NW {args : Array Value} {s : State} (hts : ∀ w ∈ lw_tbl, w.before args s = true) : ∀ (k : Nat) (q : String × Nat × MethodName × String), NWl[k]? = some q → va_Nw (.methodLinkNest q.1 q.2.1 q.2.2.1 q.2.2.2) s := fun k q hq => match k, hq with
  | 0, h => by cases h; exact va_Nw.of rfl (hts _ (List.mem_of_getElem? (i := 510) (by decide +kernel)))
  | 1, h => by cases h; exact va_Nw.of rfl (hts _ (List.mem_of_getElem? (i := 665) (by decide +kernel)))
  | 2, h => by cases h; exact va_Nw.of rfl (hts _ (List.mem_of_getElem? (i := 747) (by decide +kernel)))
  | 3, h => by cases h; exact va_Nw.of rfl (hts _ (List.mem_of_getElem? (i := 138) (by decide +kernel)))
  | 4, h => by cases h; exact va_Nw.of rfl (hts _ (List.mem_of_getElem? (i := 159) (by decide +kernel)))
  | 5, h => by cases h; exact va_Nw.of rfl (hts _ (List.mem_of_getElem? (i := 165) (by decide +kernel)))
  | 6, h => by cases h; exact va_Nw.of rfl (hts _ (List.mem_of_getElem? (i := 269) (by decide +kernel)))
  | 7, h => by cases h; exact va_Nw.of rfl (hts _ (List.mem_of_getElem? (i := 274) (by decide +kernel)))
  | 8, h => by cases h; exact va_Nw.of rfl (hts _ (List.mem_of_getElem? (i := 389) (by decide +kernel)))
  | n + 9, h => by simp [NWl] at h
theorem sp_CA {args : Array Value} {s : State} (hts : ∀ w ∈ lw_tbl, w.before args s = true) : ∀ (k : Nat) (q : String), CAl[k]? = some q → va_Nw (.castable q RX9) s := fun k q hq => match k, hq with
  | 0, h => by cases h; exact va_Nw.of rfl (hts _ (List.mem_of_getElem? (i := 1778) (by decide +kernel)))
  | 1, h => by cases h; exact va_Nw.of rfl (hts _ (List.mem_of_getElem? (i := 1779) (by decide +kernel)))
  | 2, h => by cases h; exact va_Nw.of rfl (hts _ (List.mem_of_getElem? (i := 1780) (by decide +kernel)))
  | 3, h => by cases h; exact va_Nw.of rfl (hts _ (List.mem_of_getElem? (i := 1781) (by decide +kernel)))
  | 4, h => by cases h; exact va_Nw.of rfl (hts _ (List.mem_of_getElem? (i := 1782) (by decide +kernel)))
  | n + 5, h => by simp [CAl] at h
theorem sp_Z {args : Array Value} {s : State} (hs : ∀ c ∈ flatC (.and given_1 narrow_1), c.before args s = true) (hts : ∀ w ∈ lw_tbl, w.before args s = true) {A : Nat → Prop} (hA : ∀ a : Nat, a < s.heap.size → ¬ A a) : ∃ ak av : Nat → Nat, mw_Z ssL ak av A s s.heap := by
  obtain ⟨ak, av, h1, h2⟩ := sp_S hs hA
  exact ⟨ak, av, h1, sp_ref hs h2 hts, sp_NW hts,
    va_Zof (hts _ (List.mem_of_getElem? (i := 609) (by decide +kernel))) (hts _ (ws_tbl _ q_123)) (va_eqi (hs _ (by decide +kernel))) hA,
    va_Zqof (hts _ (List.mem_of_getElem? (i := 625) (by decide +kernel))) (hts _ (ws_tbl _ q_125)) (hs _ (by decide +kernel)) hA,
    sp_CA hts, hts (.arrayOver (.object "HourByVote$Thing")) (List.mem_of_getElem? (i := 303) (by decide +kernel))⟩
