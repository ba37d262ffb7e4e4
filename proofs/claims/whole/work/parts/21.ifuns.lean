def T_init3 (M : Mem) : Option (Mem) :=
  lt1 (up M 3 8 ((4 : Nat) : Int)) fun M_1 =>
  lt1 (up M_1 3 9 ((5 : Nat) : Int)) fun M_2 =>
  lt1 (up M_2 3 10 ((6 : Nat) : Int)) fun M_3 =>
  lt1 (up M_3 3 11 ((7 : Nat) : Int)) fun M_4 =>
  lt1 (up M_4 3 12 ((8 : Nat) : Int)) fun M_5 =>
  lt1 (up M_5 3 13 ((9 : Nat) : Int)) fun M_6 =>
  lt1 (up M_6 3 14 ((10 : Nat) : Int)) fun M_7 =>
  lt1 (up M_7 3 15 ((11 : Nat) : Int)) fun M_8 =>
  lt1 (up M_8 3 16 ((12 : Nat) : Int)) fun M_9 =>
  lt1 (up M_9 3 17 ((13 : Nat) : Int)) fun M_10 =>
  lt1 (up M_10 3 18 ((14 : Nat) : Int)) fun M_11 =>
  (T_clear 3 M_11).bind fun M_12 =>
  some M_12

def T_init15 (M : Mem) : Option (Mem) :=
  lt1 (up M 15 8 ((16 : Nat) : Int)) fun M_1 =>
  lt1 (up M_1 15 9 ((17 : Nat) : Int)) fun M_2 =>
  lt1 (up M_2 15 10 ((18 : Nat) : Int)) fun M_3 =>
  lt1 (up M_3 15 11 ((19 : Nat) : Int)) fun M_4 =>
  lt1 (up M_4 15 12 ((20 : Nat) : Int)) fun M_5 =>
  lt1 (up M_5 15 13 ((21 : Nat) : Int)) fun M_6 =>
  lt1 (up M_6 15 14 ((22 : Nat) : Int)) fun M_7 =>
  lt1 (up M_7 15 15 ((23 : Nat) : Int)) fun M_8 =>
  lt1 (up M_8 15 16 ((24 : Nat) : Int)) fun M_9 =>
  lt1 (up M_9 15 17 ((25 : Nat) : Int)) fun M_10 =>
  lt1 (up M_10 15 18 ((26 : Nat) : Int)) fun M_11 =>
  (T_clear 15 M_11).bind fun M_12 =>
  some M_12

def S_init28 (M : Mem) : Option (Mem) :=
  lt1 (up M 28 0 ((29 : Nat) : Int)) fun M_1 =>
  lt1 (up M_1 28 2 ((30 : Nat) : Int)) fun M_2 =>
  lt1 (up M_2 28 3 ((31 : Nat) : Int)) fun M_3 =>
  some M_3

def JS_coder (M : Mem) : Option (Int) :=
  if ¬ (1 : Int) = 0 then
    some 0
  else
    some 1

def JS_length (M : Mem) : Option (Int) :=
  (JS_coder M).bind fun r_1 =>
  some (ishr 104 r_1)

def JS_isLatin1 (M : Mem) : Option (Int) :=
  if (¬ (1 : Int) = 0) ∧ ((0 : Int) = 0) then
    some 1
  else
    some 0

def JT_charAt (ix1 : Int) (M : Mem) : Option (Int) :=
  chk (0 ≤ ix1 ∧ ix1 < 104) <|
  chk (i2c (i2c (iand (keptC (Int.toNat ix1)) 255)) = (i2c (iand (keptC (Int.toNat ix1)) 255))) <|
  some ((i2c (iand (keptC (Int.toNat ix1)) 255)))

def JS_charAt (ix0 : Int) (M : Mem) : Option (Int) :=
  (JS_isLatin1 M).bind fun r_1 =>
  if ¬ n32 r_1 = 0 then
    (JT_charAt ix0 M).bind fun r_2 =>
    chk (i2c r_2 = r_2) <|
    some r_2
  else
    none

def K_init40_b29 : Int × Int × Int × Mem → Option ((Int × Int × Int × Mem) ⊕ (Mem))
  | (l2_4, l3_5, l5_6, M_7) =>
    (JS_length M_7).bind fun r_15 =>
    if (n32 l5_6 < n32 r_15) ∧ (n32 l2_4 < 20) then
      (JS_charAt l5_6 M_7).bind fun r_16 =>
      (
        if n32 r_16 = 32 then
          chk (0 ≤ l2_4 ∧ l2_4 < 20) <|
          lt1 (up M_7 41 (Int.toNat l2_4) l3_5) fun M_25 =>
          lt1 (l2_4 + 1) fun l2_26 =>
          some (l2_26, (0 : Int), M_25)
        else
          (JS_charAt l5_6 M_7).bind fun r_27 =>
          (K_spell l3_5 r_27 M_7).bind fun r_28 =>
          some (l2_4, r_28, M_7)
      ).bind fun (l2_17, l3_18, M_19) =>
      lt1 (l5_6 + 1) fun l5_30 =>
      some (.inl (l2_17, l3_18, l5_30, M_19))
    else
      some (.inr M_7)

def K_init40 (M : Mem) : Option (Mem) :=
  lt1 (up M 40 0 ((41 : Nat) : Int)) fun M_1 =>
  lt1 (up M_1 40 9 (-1)) fun M_2 =>
  lt1 (up M_2 40 1 ((2 : Nat) : Int)) fun M_3 =>
  (it (K_init40_b29) FUEL (0, 0, 0, M_3)).bind fun M_14 =>
  some M_14

def N_init27 (M : Mem) : Option (Mem) :=
  (S_init28 M).bind fun M_1 =>
  lt1 (up M_1 27 1 ((28 : Nat) : Int)) fun M_2 =>
  lt1 (up M_2 27 2 ((32 : Nat) : Int)) fun M_3 =>
  lt1 (up M_3 27 3 ((33 : Nat) : Int)) fun M_4 =>
  lt1 (up M_4 27 4 ((34 : Nat) : Int)) fun M_5 =>
  lt1 (up M_5 27 5 ((35 : Nat) : Int)) fun M_6 =>
  lt1 (up M_6 27 6 ((36 : Nat) : Int)) fun M_7 =>
  lt1 (up M_7 27 7 ((37 : Nat) : Int)) fun M_8 =>
  lt1 (up M_8 27 8 ((38 : Nat) : Int)) fun M_9 =>
  lt1 (up M_9 27 9 ((39 : Nat) : Int)) fun M_10 =>
  (K_init40 M_10).bind fun M_11 =>
  lt1 (up M_11 27 0 ((40 : Nat) : Int)) fun M_12 =>
  some M_12

def Y_init42 (M : Mem) : Option (Mem) :=
  lt1 (up M 42 2 ((43 : Nat) : Int)) fun M_1 =>
  lt1 (up M_1 42 3 ((44 : Nat) : Int)) fun M_2 =>
  lt1 (up M_2 42 4 ((45 : Nat) : Int)) fun M_3 =>
  lt1 (up M_3 42 5 ((46 : Nat) : Int)) fun M_4 =>
  lt1 (up M_4 42 6 ((47 : Nat) : Int)) fun M_5 =>
  lt1 (up M_5 42 7 ((48 : Nat) : Int)) fun M_6 =>
  some M_6

def Y_init50 (M : Mem) : Option (Mem) :=
  lt1 (up M 50 2 ((51 : Nat) : Int)) fun M_1 =>
  lt1 (up M_1 50 3 ((52 : Nat) : Int)) fun M_2 =>
  lt1 (up M_2 50 4 ((53 : Nat) : Int)) fun M_3 =>
  lt1 (up M_3 50 5 ((54 : Nat) : Int)) fun M_4 =>
  lt1 (up M_4 50 6 ((55 : Nat) : Int)) fun M_5 =>
  lt1 (up M_5 50 7 ((56 : Nat) : Int)) fun M_6 =>
  some M_6

def Y_init57 (M : Mem) : Option (Mem) :=
  lt1 (up M 57 2 ((58 : Nat) : Int)) fun M_1 =>
  lt1 (up M_1 57 3 ((59 : Nat) : Int)) fun M_2 =>
  lt1 (up M_2 57 4 ((60 : Nat) : Int)) fun M_3 =>
  lt1 (up M_3 57 5 ((61 : Nat) : Int)) fun M_4 =>
  lt1 (up M_4 57 6 ((62 : Nat) : Int)) fun M_5 =>
  lt1 (up M_5 57 7 ((63 : Nat) : Int)) fun M_6 =>
  some M_6

def Y_init64 (M : Mem) : Option (Mem) :=
  lt1 (up M 64 2 ((65 : Nat) : Int)) fun M_1 =>
  lt1 (up M_1 64 3 ((66 : Nat) : Int)) fun M_2 =>
  lt1 (up M_2 64 4 ((67 : Nat) : Int)) fun M_3 =>
  lt1 (up M_3 64 5 ((68 : Nat) : Int)) fun M_4 =>
  lt1 (up M_4 64 6 ((69 : Nat) : Int)) fun M_5 =>
  lt1 (up M_5 64 7 ((70 : Nat) : Int)) fun M_6 =>
  some M_6

def W_init71 (M : Mem) : Option (Mem) :=
  lt1 (up M 71 2 ((72 : Nat) : Int)) fun M_1 =>
  lt1 (up M_1 71 4 ((73 : Nat) : Int)) fun M_2 =>
  some M_2

def A_init74 (M : Mem) : Option (Mem) :=
  lt1 (up M 74 5 ((75 : Nat) : Int)) fun M_1 =>
  some M_1

def P_init76 (M : Mem) : Option (Mem) :=
  lt1 (up M 76 1 ((77 : Nat) : Int)) fun M_1 =>
  some M_1

def C_init78 (M : Mem) : Option (Mem) :=
  lt1 (up M 78 3 ((79 : Nat) : Int)) fun M_1 =>
  some M_1

def X_init1 (M : Mem) : Option (Mem) :=
  lt1 (up M 1 0 ((2 : Nat) : Int)) fun M_1 =>
  (T_init3 M_1).bind fun M_2 =>
  lt1 (up M_2 1 2 ((3 : Nat) : Int)) fun M_3 =>
  (T_init15 M_3).bind fun M_4 =>
  lt1 (up M_4 1 3 ((15 : Nat) : Int)) fun M_5 =>
  (N_init27 M_5).bind fun M_6 =>
  lt1 (up M_6 1 4 ((27 : Nat) : Int)) fun M_7 =>
  (Y_init42 M_7).bind fun M_8 =>
  lt1 (up M_8 1 5 ((42 : Nat) : Int)) fun M_9 =>
  (Y_init50 M_9).bind fun M_10 =>
  lt1 (up M_10 49 (Int.toNat 0) ((50 : Nat) : Int)) fun M_11 =>
  (Y_init57 M_11).bind fun M_12 =>
  lt1 (up M_12 49 (Int.toNat 1) ((57 : Nat) : Int)) fun M_13 =>
  (Y_init64 M_13).bind fun M_14 =>
  lt1 (up M_14 49 (Int.toNat 2) ((64 : Nat) : Int)) fun M_15 =>
  lt1 (up M_15 1 6 ((49 : Nat) : Int)) fun M_16 =>
  (W_init71 M_16).bind fun M_17 =>
  lt1 (up M_17 1 7 ((71 : Nat) : Int)) fun M_18 =>
  (A_init74 M_18).bind fun M_19 =>
  lt1 (up M_19 1 8 ((74 : Nat) : Int)) fun M_20 =>
  (P_init76 M_20).bind fun M_21 =>
  lt1 (up M_21 1 9 ((76 : Nat) : Int)) fun M_22 =>
  (C_init78 M_22).bind fun M_23 =>
  lt1 (up M_23 1 10 ((78 : Nat) : Int)) fun M_24 =>
  lt1 (up M_24 1 11 ((80 : Nat) : Int)) fun M_25 =>
  chk (isTI (M_25 1 2)) <|
  lt1 (M_25 1 2).toNat fun t_27 =>
  (N_readInto t_27 0 M_25).bind fun M_29 =>
  (N_settle M_29).bind fun M_30 =>
  some M_30

def M_init81_b475 : Int × Mem → Option ((Int × Mem) ⊕ (Mem))
  | (l1_61, M_62) =>
    if n32 l1_61 < 3 then
      chk (0 ≤ l1_61 ∧ l1_61 < 3) <|
      lt1 (up M_62 132 (Int.toNat l1_61) (-1)) fun M_72 =>
      lt1 (l1_61 + 1) fun l1_73 =>
      some (.inl (l1_73, M_72))
    else
      some (.inr M_62)

def M_init81 (M : Mem) : Option (Mem) :=
  lt1 (up M 81 0 ((82 : Nat) : Int)) fun M_1 =>
  lt1 (up M_1 81 1 ((83 : Nat) : Int)) fun M_2 =>
  lt1 (up M_2 81 5 (-1)) fun M_3 =>
  lt1 (up M_3 81 11 ((84 : Nat) : Int)) fun M_4 =>
  lt1 (up M_4 81 12 ((85 : Nat) : Int)) fun M_5 =>
  lt1 (up M_5 81 13 ((86 : Nat) : Int)) fun M_6 =>
  lt1 (up M_6 81 14 ((87 : Nat) : Int)) fun M_7 =>
  lt1 (up M_7 81 15 ((88 : Nat) : Int)) fun M_8 =>
  lt1 (up M_8 81 16 ((89 : Nat) : Int)) fun M_9 =>
  lt1 (up M_9 81 17 ((90 : Nat) : Int)) fun M_10 =>
  lt1 (up M_10 81 18 ((91 : Nat) : Int)) fun M_11 =>
  lt1 (up M_11 81 19 ((92 : Nat) : Int)) fun M_12 =>
  lt1 (up M_12 81 20 ((93 : Nat) : Int)) fun M_13 =>
  lt1 (up M_13 81 21 ((94 : Nat) : Int)) fun M_14 =>
  lt1 (up M_14 81 22 ((95 : Nat) : Int)) fun M_15 =>
  lt1 (up M_15 81 23 ((96 : Nat) : Int)) fun M_16 =>
  lt1 (up M_16 81 24 ((97 : Nat) : Int)) fun M_17 =>
  lt1 (up M_17 81 25 ((98 : Nat) : Int)) fun M_18 =>
  lt1 (up M_18 81 26 ((99 : Nat) : Int)) fun M_19 =>
  lt1 (up M_19 81 27 ((100 : Nat) : Int)) fun M_20 =>
  lt1 (up M_20 81 28 ((101 : Nat) : Int)) fun M_21 =>
  lt1 (up M_21 81 29 ((102 : Nat) : Int)) fun M_22 =>
  lt1 (up M_22 81 30 ((103 : Nat) : Int)) fun M_23 =>
  lt1 (up M_23 81 31 ((104 : Nat) : Int)) fun M_24 =>
  lt1 (up M_24 81 32 ((105 : Nat) : Int)) fun M_25 =>
  lt1 (up M_25 81 33 ((106 : Nat) : Int)) fun M_26 =>
  lt1 (up M_26 81 34 ((107 : Nat) : Int)) fun M_27 =>
  lt1 (up M_27 81 35 ((108 : Nat) : Int)) fun M_28 =>
  lt1 (up M_28 81 36 ((109 : Nat) : Int)) fun M_29 =>
  lt1 (up M_29 81 37 ((110 : Nat) : Int)) fun M_30 =>
  lt1 (up M_30 81 46 ((111 : Nat) : Int)) fun M_31 =>
  lt1 (up M_31 81 47 ((112 : Nat) : Int)) fun M_32 =>
  lt1 (up M_32 81 48 ((113 : Nat) : Int)) fun M_33 =>
  lt1 (up M_33 81 49 ((114 : Nat) : Int)) fun M_34 =>
  lt1 (up M_34 81 50 ((115 : Nat) : Int)) fun M_35 =>
  lt1 (up M_35 81 51 ((116 : Nat) : Int)) fun M_36 =>
  lt1 (up M_36 81 52 ((117 : Nat) : Int)) fun M_37 =>
  lt1 (up M_37 81 53 ((118 : Nat) : Int)) fun M_38 =>
  lt1 (up M_38 81 54 ((119 : Nat) : Int)) fun M_39 =>
  lt1 (up M_39 81 55 ((120 : Nat) : Int)) fun M_40 =>
  lt1 (up M_40 81 56 ((121 : Nat) : Int)) fun M_41 =>
  lt1 (up M_41 81 59 ((122 : Nat) : Int)) fun M_42 =>
  lt1 (up M_42 81 61 ((123 : Nat) : Int)) fun M_43 =>
  lt1 (up M_43 81 62 ((124 : Nat) : Int)) fun M_44 =>
  lt1 (up M_44 81 63 ((125 : Nat) : Int)) fun M_45 =>
  lt1 (up M_45 81 64 ((126 : Nat) : Int)) fun M_46 =>
  lt1 (up M_46 81 65 ((127 : Nat) : Int)) fun M_47 =>
  lt1 (up M_47 81 66 ((128 : Nat) : Int)) fun M_48 =>
  lt1 (up M_48 81 67 ((129 : Nat) : Int)) fun M_49 =>
  lt1 (up M_49 81 68 ((130 : Nat) : Int)) fun M_50 =>
  lt1 (up M_50 81 69 ((131 : Nat) : Int)) fun M_51 =>
  lt1 (up M_51 81 71 ((132 : Nat) : Int)) fun M_52 =>
  lt1 (up M_52 81 72 ((133 : Nat) : Int)) fun M_53 =>
  lt1 (up M_53 81 73 ((134 : Nat) : Int)) fun M_54 =>
  lt1 (up M_54 81 74 ((135 : Nat) : Int)) fun M_55 =>
  lt1 (up M_55 81 75 ((136 : Nat) : Int)) fun M_56 =>
  lt1 (up M_56 81 76 ((137 : Nat) : Int)) fun M_57 =>
  lt1 (up M_57 81 77 ((138 : Nat) : Int)) fun M_58 =>
  (M_clearBank M_58).bind fun M_59 =>
  (M_layWorlds M_59).bind fun M_60 =>
  (it (M_init81_b475) FUEL (0, M_60)).bind fun M_69 =>
  some M_69

def L_law_b18 (Ls : Nat) (xs : Nat → Int32) : Int × Mem → Option ((Int × Mem) ⊕ ((Mem) ⊕ (Int × Mem)))
  | (l3_3, M_4) =>
    if n32 l3_3 ≤ n32 ((Ls : Int) - 6) then
      chk (0 ≤ l3_3 ∧ l3_3 < (Ls : Int)) <|
      jn (fun (M_14 : Mem) =>
        lt1 (l3_3 + 6) fun l3_355 =>
        some (.inl (l3_355, M_14))
      ) fun j_15 =>
      if n32 (iand (Int32.toInt (xs (Int.toNat l3_3))) 31) = 0 then
        chk (0 ≤ (l3_3 + 1) ∧ (l3_3 + 1) < (Ls : Int)) <|
        chk (0 ≤ (l3_3 + 2) ∧ (l3_3 + 2) < (Ls : Int)) <|
        chk (0 ≤ (l3_3 + 3) ∧ (l3_3 + 3) < (Ls : Int)) <|
        chk (0 ≤ (l3_3 + 4) ∧ (l3_3 + 4) < (Ls : Int)) <|
        chk (0 ≤ (l3_3 + 5) ∧ (l3_3 + 5) < (Ls : Int)) <|
        (X_feed (Int32.toInt (xs (Int.toNat (l3_3 + 1)))) (Int32.toInt (xs (Int.toNat (l3_3 + 2)))) (Int32.toInt (xs (Int.toNat (l3_3 + 3)))) (Int32.toInt (xs (Int.toNat (l3_3 + 4)))) (Int32.toInt (xs (Int.toNat (l3_3 + 5)))) M_4).bind fun (r_28, M_29) =>
        (M_feed (Int32.toInt (xs (Int.toNat (l3_3 + 1)))) (Int32.toInt (xs (Int.toNat (l3_3 + 2)))) (Int32.toInt (xs (Int.toNat (l3_3 + 3)))) (Int32.toInt (xs (Int.toNat (l3_3 + 4)))) (Int32.toInt (xs (Int.toNat (l3_3 + 5)))) M_29).bind fun (r_30, M_31) =>
        if ¬ n32 r_28 = n32 r_30 then
          some (.inr (.inr (0, M_31)))
        else
          j_15 M_31
      else
      if n32 (iand (Int32.toInt (xs (Int.toNat l3_3))) 31) = 1 then
        chk (0 ≤ (l3_3 + 1) ∧ (l3_3 + 1) < (Ls : Int)) <|
        (X_end (Int32.toInt (xs (Int.toNat (l3_3 + 1)))) M_4).bind fun (r_36, M_37) =>
        (M_end (Int32.toInt (xs (Int.toNat (l3_3 + 1)))) M_37).bind fun (r_38, M_39) =>
        if ¬ n32 r_36 = n32 r_38 then
          some (.inr (.inr (0, M_39)))
        else
          j_15 M_39
      else
      if n32 (iand (Int32.toInt (xs (Int.toNat l3_3))) 31) = 2 then
        (X_town M_4).bind fun (r_42, M_43) =>
        (M_town M_43).bind fun (r_44, M_45) =>
        if ¬ n32 r_42 = n32 r_44 then
          some (.inr (.inr (0, M_45)))
        else
          j_15 M_45
      else
      if n32 (iand (Int32.toInt (xs (Int.toNat l3_3))) 31) = 3 then
        chk (0 ≤ (l3_3 + 1) ∧ (l3_3 + 1) < (Ls : Int)) <|
        (X_fault (Int32.toInt (xs (Int.toNat (l3_3 + 1)))) M_4).bind fun r_50 =>
        (M_fault (Int32.toInt (xs (Int.toNat (l3_3 + 1)))) M_4).bind fun r_51 =>
        if ¬ n32 r_50 = n32 r_51 then
          some (.inr (.inr (0, M_4)))
        else
          j_15 M_4
      else
      if n32 (iand (Int32.toInt (xs (Int.toNat l3_3))) 31) = 4 then
        chk (0 ≤ (l3_3 + 1) ∧ (l3_3 + 1) < (Ls : Int)) <|
        chk (0 ≤ (l3_3 + 2) ∧ (l3_3 + 2) < (Ls : Int)) <|
        (X_is (Int32.toInt (xs (Int.toNat (l3_3 + 1)))) (Int32.toInt (xs (Int.toNat (l3_3 + 2)))) M_4).bind fun r_58 =>
        (M_is (Int32.toInt (xs (Int.toNat (l3_3 + 1)))) (Int32.toInt (xs (Int.toNat (l3_3 + 2)))) M_4).bind fun r_59 =>
        if ¬ n32 r_58 = n32 r_59 then
          some (.inr (.inr (0, M_4)))
        else
          j_15 M_4
      else
      if n32 (iand (Int32.toInt (xs (Int.toNat l3_3))) 31) = 5 then
        chk (0 ≤ (l3_3 + 1) ∧ (l3_3 + 1) < (Ls : Int)) <|
        chk (0 ≤ (l3_3 + 2) ∧ (l3_3 + 2) < (Ls : Int)) <|
        chk (0 ≤ (l3_3 + 3) ∧ (l3_3 + 3) < (Ls : Int)) <|
        (X_answers (Int32.toInt (xs (Int.toNat (l3_3 + 1)))) (Int32.toInt (xs (Int.toNat (l3_3 + 2)))) (Int32.toInt (xs (Int.toNat (l3_3 + 3)))) M_4).bind fun r_68 =>
        (M_answers (Int32.toInt (xs (Int.toNat (l3_3 + 1)))) (Int32.toInt (xs (Int.toNat (l3_3 + 2)))) (Int32.toInt (xs (Int.toNat (l3_3 + 3)))) M_4).bind fun r_69 =>
        if ¬ n32 r_68 = n32 r_69 then
          some (.inr (.inr (0, M_4)))
        else
          j_15 M_4
      else
      if n32 (iand (Int32.toInt (xs (Int.toNat l3_3))) 31) = 6 then
        chk (0 ≤ (l3_3 + 1) ∧ (l3_3 + 1) < (Ls : Int)) <|
        chk (0 ≤ (l3_3 + 2) ∧ (l3_3 + 2) < (Ls : Int)) <|
        (
          if ¬ n32 (Int32.toInt (xs (Int.toNat (l3_3 + 2)))) = 0 then
            some (1 : Int)
          else
            some (0 : Int)
        ).bind fun v_76 =>
        chk (0 ≤ (l3_3 + 3) ∧ (l3_3 + 3) < (Ls : Int)) <|
        (
          if ¬ n32 (Int32.toInt (xs (Int.toNat (l3_3 + 3)))) = 0 then
            some (1 : Int)
          else
            some (0 : Int)
        ).bind fun v_83 =>
        (X_lies (Int32.toInt (xs (Int.toNat (l3_3 + 1)))) v_76 v_83 M_4).bind fun r_88 =>
        (
          if ¬ n32 (Int32.toInt (xs (Int.toNat (l3_3 + 2)))) = 0 then
            some (1 : Int)
          else
            some (0 : Int)
        ).bind fun v_89 =>
        (
          if ¬ n32 (Int32.toInt (xs (Int.toNat (l3_3 + 3)))) = 0 then
            some (1 : Int)
          else
            some (0 : Int)
        ).bind fun v_94 =>
        (M_lies (Int32.toInt (xs (Int.toNat (l3_3 + 1)))) v_89 v_94 M_4).bind fun (r_99, M_100) =>
        if ¬ n32 r_88 = n32 r_99 then
          some (.inr (.inr (0, M_100)))
        else
          j_15 M_100
      else
      if n32 (iand (Int32.toInt (xs (Int.toNat l3_3))) 31) = 7 then
        chk (0 ≤ (l3_3 + 1) ∧ (l3_3 + 1) < (Ls : Int)) <|
        chk (0 ≤ (l3_3 + 2) ∧ (l3_3 + 2) < (Ls : Int)) <|
        chk (0 ≤ (l3_3 + 3) ∧ (l3_3 + 3) < (Ls : Int)) <|
        (
          if ¬ n32 (Int32.toInt (xs (Int.toNat (l3_3 + 3)))) = 0 then
            some (1 : Int)
          else
            some (0 : Int)
        ).bind fun v_109 =>
        chk (0 ≤ (l3_3 + 4) ∧ (l3_3 + 4) < (Ls : Int)) <|
        (
          if ¬ n32 (Int32.toInt (xs (Int.toNat (l3_3 + 4)))) = 0 then
            some (1 : Int)
          else
            some (0 : Int)
        ).bind fun v_116 =>
        chk (0 ≤ (l3_3 + 5) ∧ (l3_3 + 5) < (Ls : Int)) <|
        (X_may (Int32.toInt (xs (Int.toNat (l3_3 + 1)))) (Int32.toInt (xs (Int.toNat (l3_3 + 2)))) v_109 v_116 (Int32.toInt (xs (Int.toNat (l3_3 + 5)))) M_4).bind fun (r_123, M_124) =>
        (
          if ¬ n32 (Int32.toInt (xs (Int.toNat (l3_3 + 3)))) = 0 then
            some (1 : Int)
          else
            some (0 : Int)
        ).bind fun v_125 =>
        (
          if ¬ n32 (Int32.toInt (xs (Int.toNat (l3_3 + 4)))) = 0 then
            some (1 : Int)
          else
            some (0 : Int)
        ).bind fun v_130 =>
        (M_may (Int32.toInt (xs (Int.toNat (l3_3 + 1)))) (Int32.toInt (xs (Int.toNat (l3_3 + 2)))) v_125 v_130 (Int32.toInt (xs (Int.toNat (l3_3 + 5)))) M_124).bind fun (r_135, M_136) =>
        if ¬ n32 r_123 = n32 r_135 then
          some (.inr (.inr (0, M_136)))
        else
          j_15 M_136
      else
      if n32 (iand (Int32.toInt (xs (Int.toNat l3_3))) 31) = 8 then
        chk (0 ≤ (l3_3 + 1) ∧ (l3_3 + 1) < (Ls : Int)) <|
        chk (0 ≤ (l3_3 + 2) ∧ (l3_3 + 2) < (Ls : Int)) <|
        chk (0 ≤ (l3_3 + 3) ∧ (l3_3 + 3) < (Ls : Int)) <|
        (
          if ¬ n32 (Int32.toInt (xs (Int.toNat (l3_3 + 3)))) = 0 then
            some (1 : Int)
          else
            some (0 : Int)
        ).bind fun v_145 =>
        chk (0 ≤ (l3_3 + 4) ∧ (l3_3 + 4) < (Ls : Int)) <|
        (
          if ¬ n32 (Int32.toInt (xs (Int.toNat (l3_3 + 4)))) = 0 then
            some (1 : Int)
          else
            some (0 : Int)
        ).bind fun v_152 =>
        (X_say (Int32.toInt (xs (Int.toNat (l3_3 + 1)))) (Int32.toInt (xs (Int.toNat (l3_3 + 2)))) v_145 v_152 M_4).bind fun (r_157, M_158) =>
        (
          if ¬ n32 (Int32.toInt (xs (Int.toNat (l3_3 + 3)))) = 0 then
            some (1 : Int)
          else
            some (0 : Int)
        ).bind fun v_159 =>
        (
          if ¬ n32 (Int32.toInt (xs (Int.toNat (l3_3 + 4)))) = 0 then
            some (1 : Int)
          else
            some (0 : Int)
        ).bind fun v_164 =>
        (M_say (Int32.toInt (xs (Int.toNat (l3_3 + 1)))) (Int32.toInt (xs (Int.toNat (l3_3 + 2)))) v_159 v_164 M_158).bind fun (r_169, M_170) =>
        if ¬ n32 r_157 = n32 r_169 then
          some (.inr (.inr (0, M_170)))
        else
          j_15 M_170
      else
      if n32 (iand (Int32.toInt (xs (Int.toNat l3_3))) 31) = 9 then
        chk (0 ≤ (l3_3 + 1) ∧ (l3_3 + 1) < (Ls : Int)) <|
        (X_untell (Int32.toInt (xs (Int.toNat (l3_3 + 1)))) M_4).bind fun (r_175, M_176) =>
        (M_untell (Int32.toInt (xs (Int.toNat (l3_3 + 1)))) M_176).bind fun (r_177, M_178) =>
        if ¬ n32 r_175 = n32 r_177 then
          some (.inr (.inr (0, M_178)))
        else
          j_15 M_178
      else
      if n32 (iand (Int32.toInt (xs (Int.toNat l3_3))) 31) = 10 then
        chk (0 ≤ (l3_3 + 1) ∧ (l3_3 + 1) < (Ls : Int)) <|
        (X_later (Int32.toInt (xs (Int.toNat (l3_3 + 1)))) M_4).bind fun (r_183, M_184) =>
        (M_later (Int32.toInt (xs (Int.toNat (l3_3 + 1)))) M_184).bind fun (r_185, M_186) =>
        if ¬ n32 r_183 = n32 r_185 then
          some (.inr (.inr (0, M_186)))
        else
          j_15 M_186
      else
      if n32 (iand (Int32.toInt (xs (Int.toNat l3_3))) 31) = 11 then
        chk (0 ≤ (l3_3 + 1) ∧ (l3_3 + 1) < (Ls : Int)) <|
        (X_left (Int32.toInt (xs (Int.toNat (l3_3 + 1)))) M_4).bind fun (r_191, M_192) =>
        (M_left (Int32.toInt (xs (Int.toNat (l3_3 + 1)))) M_192).bind fun (r_193, M_194) =>
        if ¬ n32 r_191 = n32 r_193 then
          some (.inr (.inr (0, M_194)))
        else
          j_15 M_194
      else
      if n32 (iand (Int32.toInt (xs (Int.toNat l3_3))) 31) = 12 then
        chk (0 ≤ (l3_3 + 1) ∧ (l3_3 + 1) < (Ls : Int)) <|
        chk (0 ≤ (l3_3 + 2) ∧ (l3_3 + 2) < (Ls : Int)) <|
        (X_world (Int32.toInt (xs (Int.toNat (l3_3 + 1)))) (Int32.toInt (xs (Int.toNat (l3_3 + 2)))) M_4).bind fun (r_201, M_202) =>
        (M_world (Int32.toInt (xs (Int.toNat (l3_3 + 1)))) (Int32.toInt (xs (Int.toNat (l3_3 + 2)))) M_202).bind fun (r_203, M_204) =>
        if ¬ n32 r_201 = n32 r_203 then
          some (.inr (.inr (0, M_204)))
        else
          j_15 M_204
      else
      if n32 (iand (Int32.toInt (xs (Int.toNat l3_3))) 31) = 13 then
        chk (0 ≤ (l3_3 + 1) ∧ (l3_3 + 1) < (Ls : Int)) <|
        chk (0 ≤ (l3_3 + 2) ∧ (l3_3 + 2) < (Ls : Int)) <|
        (X_sure (Int32.toInt (xs (Int.toNat (l3_3 + 1)))) (Int32.toInt (xs (Int.toNat (l3_3 + 2)))) M_4).bind fun (r_211, M_212) =>
        (M_sure (Int32.toInt (xs (Int.toNat (l3_3 + 1)))) (Int32.toInt (xs (Int.toNat (l3_3 + 2)))) M_212).bind fun (r_213, M_214) =>
        if ¬ n32 r_211 = n32 r_213 then
          some (.inr (.inr (0, M_214)))
        else
          j_15 M_214
      else
      if n32 (iand (Int32.toInt (xs (Int.toNat l3_3))) 31) = 14 then
        chk (0 ≤ (l3_3 + 1) ∧ (l3_3 + 1) < (Ls : Int)) <|
        chk (0 ≤ (l3_3 + 2) ∧ (l3_3 + 2) < (Ls : Int)) <|
        (X_proof (Int32.toInt (xs (Int.toNat (l3_3 + 1)))) (Int32.toInt (xs (Int.toNat (l3_3 + 2)))) M_4).bind fun (r_221, M_222) =>
        (M_proof (Int32.toInt (xs (Int.toNat (l3_3 + 1)))) (Int32.toInt (xs (Int.toNat (l3_3 + 2)))) M_222).bind fun (r_223, M_224) =>
        if ¬ n32 r_221 = n32 r_223 then
          some (.inr (.inr (0, M_224)))
        else
          j_15 M_224
      else
      if n32 (iand (Int32.toInt (xs (Int.toNat l3_3))) 31) = 15 then
        chk (0 ≤ (l3_3 + 1) ∧ (l3_3 + 1) < (Ls : Int)) <|
        chk (0 ≤ (l3_3 + 2) ∧ (l3_3 + 2) < (Ls : Int)) <|
        (X_judge (Int32.toInt (xs (Int.toNat (l3_3 + 1)))) (Int32.toInt (xs (Int.toNat (l3_3 + 2)))) M_4).bind fun (r_231, M_232) =>
        (M_judge (Int32.toInt (xs (Int.toNat (l3_3 + 1)))) (Int32.toInt (xs (Int.toNat (l3_3 + 2)))) M_232).bind fun (r_233, M_234) =>
        if ¬ n32 r_231 = n32 r_233 then
          some (.inr (.inr (0, M_234)))
        else
          j_15 M_234
      else
      if n32 (iand (Int32.toInt (xs (Int.toNat l3_3))) 31) = 16 then
        chk (0 ≤ (l3_3 + 1) ∧ (l3_3 + 1) < (Ls : Int)) <|
        chk (0 ≤ (l3_3 + 2) ∧ (l3_3 + 2) < (Ls : Int)) <|
        (X_next (Int32.toInt (xs (Int.toNat (l3_3 + 1)))) (Int32.toInt (xs (Int.toNat (l3_3 + 2)))) M_4).bind fun (r_241, M_242) =>
        (M_next (Int32.toInt (xs (Int.toNat (l3_3 + 1)))) (Int32.toInt (xs (Int.toNat (l3_3 + 2)))) M_242).bind fun (r_243, M_244) =>
        if ¬ n32 r_241 = n32 r_243 then
          some (.inr (.inr (0, M_244)))
        else
          j_15 M_244
      else
      if n32 (iand (Int32.toInt (xs (Int.toNat l3_3))) 31) = 17 then
        chk (0 ≤ (l3_3 + 1) ∧ (l3_3 + 1) < (Ls : Int)) <|
        chk (0 ≤ (l3_3 + 2) ∧ (l3_3 + 2) < (Ls : Int)) <|
        (X_askings (Int32.toInt (xs (Int.toNat (l3_3 + 1)))) (Int32.toInt (xs (Int.toNat (l3_3 + 2)))) M_4).bind fun (r_251, M_252) =>
        (M_askings (Int32.toInt (xs (Int.toNat (l3_3 + 1)))) (Int32.toInt (xs (Int.toNat (l3_3 + 2)))) M_252).bind fun (r_253, M_254) =>
        if ¬ n32 r_251 = n32 r_253 then
          some (.inr (.inr (0, M_254)))
        else
          j_15 M_254
      else
      if n32 (iand (Int32.toInt (xs (Int.toNat l3_3))) 31) = 18 then
        chk (0 ≤ (l3_3 + 1) ∧ (l3_3 + 1) < (Ls : Int)) <|
        chk (0 ≤ (l3_3 + 2) ∧ (l3_3 + 2) < (Ls : Int)) <|
        chk (0 ≤ (l3_3 + 3) ∧ (l3_3 + 3) < (Ls : Int)) <|
        chk (0 ≤ (l3_3 + 4) ∧ (l3_3 + 4) < (Ls : Int)) <|
        (X_lasts (Int32.toInt (xs (Int.toNat (l3_3 + 1)))) (Int32.toInt (xs (Int.toNat (l3_3 + 2)))) (Int32.toInt (xs (Int.toNat (l3_3 + 3)))) (Int32.toInt (xs (Int.toNat (l3_3 + 4)))) M_4).bind fun r_265 =>
        (M_lasts (Int32.toInt (xs (Int.toNat (l3_3 + 1)))) (Int32.toInt (xs (Int.toNat (l3_3 + 2)))) (Int32.toInt (xs (Int.toNat (l3_3 + 3)))) (Int32.toInt (xs (Int.toNat (l3_3 + 4)))) M_4).bind fun r_266 =>
        if ¬ n32 r_265 = n32 r_266 then
          some (.inr (.inr (0, M_4)))
        else
          j_15 M_4
      else
      if n32 (iand (Int32.toInt (xs (Int.toNat l3_3))) 31) = 19 then
        chk (0 ≤ (l3_3 + 1) ∧ (l3_3 + 1) < (Ls : Int)) <|
        chk (0 ≤ (l3_3 + 2) ∧ (l3_3 + 2) < (Ls : Int)) <|
        chk (0 ≤ (l3_3 + 3) ∧ (l3_3 + 3) < (Ls : Int)) <|
        (X_with (Int32.toInt (xs (Int.toNat (l3_3 + 1)))) (Int32.toInt (xs (Int.toNat (l3_3 + 2)))) (Int32.toInt (xs (Int.toNat (l3_3 + 3)))) M_4).bind fun r_275 =>
        (M_with (Int32.toInt (xs (Int.toNat (l3_3 + 1)))) (Int32.toInt (xs (Int.toNat (l3_3 + 2)))) (Int32.toInt (xs (Int.toNat (l3_3 + 3)))) M_4).bind fun r_276 =>
        if ¬ n32 r_275 = n32 r_276 then
          some (.inr (.inr (0, M_4)))
        else
          j_15 M_4
      else
      if n32 (iand (Int32.toInt (xs (Int.toNat l3_3))) 31) = 20 then
        chk (0 ≤ (l3_3 + 1) ∧ (l3_3 + 1) < (Ls : Int)) <|
        chk (0 ≤ (l3_3 + 2) ∧ (l3_3 + 2) < (Ls : Int)) <|
        (X_rest (Int32.toInt (xs (Int.toNat (l3_3 + 1)))) (Int32.toInt (xs (Int.toNat (l3_3 + 2)))) M_4).bind fun (r_283, M_284) =>
        (M_rest (Int32.toInt (xs (Int.toNat (l3_3 + 1)))) (Int32.toInt (xs (Int.toNat (l3_3 + 2)))) M_284).bind fun r_285 =>
        if ¬ n32 r_283 = n32 r_285 then
          some (.inr (.inr (0, M_284)))
        else
          j_15 M_284
      else
      if n32 (iand (Int32.toInt (xs (Int.toNat l3_3))) 31) = 21 then
        chk (0 ≤ (l3_3 + 1) ∧ (l3_3 + 1) < (Ls : Int)) <|
        chk (0 ≤ (l3_3 + 2) ∧ (l3_3 + 2) < (Ls : Int)) <|
        chk (0 ≤ (l3_3 + 3) ∧ (l3_3 + 3) < (Ls : Int)) <|
        chk (0 ≤ (l3_3 + 4) ∧ (l3_3 + 4) < (Ls : Int)) <|
        chk (0 ≤ (l3_3 + 5) ∧ (l3_3 + 5) < (Ls : Int)) <|
        (X_truth (Int32.toInt (xs (Int.toNat (l3_3 + 1)))) (Int32.toInt (xs (Int.toNat (l3_3 + 2)))) (Int32.toInt (xs (Int.toNat (l3_3 + 3)))) (Int32.toInt (xs (Int.toNat (l3_3 + 4)))) (Int32.toInt (xs (Int.toNat (l3_3 + 5)))) M_4).bind fun (r_298, M_299) =>
        (M_truth (Int32.toInt (xs (Int.toNat (l3_3 + 1)))) (Int32.toInt (xs (Int.toNat (l3_3 + 2)))) (Int32.toInt (xs (Int.toNat (l3_3 + 3)))) (Int32.toInt (xs (Int.toNat (l3_3 + 4)))) (Int32.toInt (xs (Int.toNat (l3_3 + 5)))) M_299).bind fun (r_300, M_301) =>
        if ¬ n32 r_298 = n32 r_300 then
          some (.inr (.inr (0, M_301)))
        else
          j_15 M_301
      else
      if n32 (iand (Int32.toInt (xs (Int.toNat l3_3))) 31) = 22 then
        chk (0 ≤ (l3_3 + 1) ∧ (l3_3 + 1) < (Ls : Int)) <|
        chk (0 ≤ (l3_3 + 2) ∧ (l3_3 + 2) < (Ls : Int)) <|
        (X_leagues (Int32.toInt (xs (Int.toNat (l3_3 + 1)))) (Int32.toInt (xs (Int.toNat (l3_3 + 2)))) M_4).bind fun (r_308, M_309) =>
        (M_leagues (Int32.toInt (xs (Int.toNat (l3_3 + 1)))) (Int32.toInt (xs (Int.toNat (l3_3 + 2)))) M_309).bind fun (r_310, M_311) =>
        if ¬ n32 r_308 = n32 r_310 then
          some (.inr (.inr (0, M_311)))
        else
          j_15 M_311
      else
      if n32 (iand (Int32.toInt (xs (Int.toNat l3_3))) 31) = 23 then
        chk (0 ≤ (l3_3 + 1) ∧ (l3_3 + 1) < (Ls : Int)) <|
        (X_plain (Int32.toInt (xs (Int.toNat (l3_3 + 1)))) M_4).bind fun (r_316, M_317) =>
        (M_plain (Int32.toInt (xs (Int.toNat (l3_3 + 1)))) M_317).bind fun (r_318, M_319) =>
        if ¬ n32 r_316 = n32 r_318 then
          some (.inr (.inr (0, M_319)))
        else
          j_15 M_319
      else
      if n32 (iand (Int32.toInt (xs (Int.toNat l3_3))) 31) = 24 then
        chk (0 ≤ (l3_3 + 1) ∧ (l3_3 + 1) < (Ls : Int)) <|
        chk (0 ≤ (l3_3 + 2) ∧ (l3_3 + 2) < (Ls : Int)) <|
        chk (0 ≤ (l3_3 + 3) ∧ (l3_3 + 3) < (Ls : Int)) <|
        (X_vote (Int32.toInt (xs (Int.toNat (l3_3 + 1)))) (Int32.toInt (xs (Int.toNat (l3_3 + 2)))) (Int32.toInt (xs (Int.toNat (l3_3 + 3)))) M_4).bind fun (r_328, M_329) =>
        (M_vote (Int32.toInt (xs (Int.toNat (l3_3 + 1)))) (Int32.toInt (xs (Int.toNat (l3_3 + 2)))) (Int32.toInt (xs (Int.toNat (l3_3 + 3)))) M_329).bind fun r_330 =>
        if ¬ n32 r_328 = n32 r_330 then
          some (.inr (.inr (0, M_329)))
        else
          j_15 M_329
      else
      if n32 (iand (Int32.toInt (xs (Int.toNat l3_3))) 31) = 25 then
        chk (0 ≤ (l3_3 + 1) ∧ (l3_3 + 1) < (Ls : Int)) <|
        (X_image (Int32.toInt (xs (Int.toNat (l3_3 + 1)))) M_4).bind fun (r_335, M_336) =>
        (M_image (Int32.toInt (xs (Int.toNat (l3_3 + 1)))) M_336).bind fun (r_337, M_338) =>
        if ¬ n32 r_335 = n32 r_337 then
          some (.inr (.inr (0, M_338)))
        else
          j_15 M_338
      else
      if n32 (iand (Int32.toInt (xs (Int.toNat l3_3))) 31) = 26 then
        chk (0 ≤ (l3_3 + 1) ∧ (l3_3 + 1) < (Ls : Int)) <|
        (X_back (Int32.toInt (xs (Int.toNat (l3_3 + 1)))) M_4).bind fun (r_343, M_344) =>
        (M_back (Int32.toInt (xs (Int.toNat (l3_3 + 1)))) M_344).bind fun (r_345, M_346) =>
        if ¬ n32 r_343 = n32 r_345 then
          some (.inr (.inr (0, M_346)))
        else
          j_15 M_346
      else
      if n32 (iand (Int32.toInt (xs (Int.toNat l3_3))) 31) = 27 then
        chk (0 ≤ (l3_3 + 1) ∧ (l3_3 + 1) < (Ls : Int)) <|
        (X_about (Int32.toInt (xs (Int.toNat (l3_3 + 1)))) M_4).bind fun r_351 =>
        (M_about (Int32.toInt (xs (Int.toNat (l3_3 + 1)))) M_4).bind fun r_352 =>
        if ¬ n32 r_351 = n32 r_352 then
          some (.inr (.inr (0, M_4)))
        else
          j_15 M_4
      else
      j_15 M_4
    else
      some (.inr (.inl M_4))

def L_law (Ls : Nat) (xs : Nat → Int32) (M : Mem) : Option (Int × Mem) :=
  (X_init1 M).bind fun M_1 =>
  (M_init81 M_1).bind fun M_2 =>
  (it (L_law_b18 Ls xs) FUEL (0, M_2)).bind fun x => match x with
  | .inl M_11 =>
    some (1, M_11)
  | .inr rv_357 => some rv_357
