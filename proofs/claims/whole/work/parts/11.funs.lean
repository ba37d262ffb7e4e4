def T_clear_b32 (t : Nat) : Int × Mem → Option ((Int × Mem) ⊕ (Mem))
  | (l1_7, M_8) =>
    if n32 l1_7 < 8 then
      chk (0 ≤ l1_7 ∧ l1_7 < 8) <|
      lt1 (up M_8 (t + 3) (Int.toNat l1_7) 0) fun M_18 =>
      lt1 (l1_7 + 1) fun l1_19 =>
      some (.inl (l1_19, M_18))
    else
      some (.inr M_8)

def T_clear_b53 (t : Nat) : Int × Mem → Option ((Int × Mem) ⊕ (Mem))
  | (l1_21, M_22) =>
    if n32 l1_21 < 96 then
      chk (0 ≤ l1_21 ∧ l1_21 < 96) <|
      lt1 (up M_22 (t + 7) (Int.toNat l1_21) (-1)) fun M_32 =>
      lt1 (l1_21 + 1) fun l1_33 =>
      some (.inl (l1_33, M_32))
    else
      some (.inr M_22)
def T_clear (t : Nat) (M : Mem) : Option (Mem) :=
  lt1 (up M t 0 0) fun M_1 =>
  lt1 (up M_1 t 1 0) fun M_2 =>
  lt1 (up M_2 t 2 0) fun M_3 =>
  lt1 (up M_3 t 3 0) fun M_4 =>
  lt1 (up M_4 t 4 0) fun M_5 =>
  lt1 (up M_5 t 5 0) fun M_6 =>
  (it (T_clear_b32 t) FUEL (0, M_6)).bind fun M_15 =>
  (it (T_clear_b53 t) FUEL (0, M_15)).bind fun M_29 =>
  some M_29

def K_spell (ahead : Int) (letter : Int) (M : Mem) : Option (Int) :=
  some ((ahead * 32) + (n32 ((letter - 97) + 1)))

def K_isBlank (sign : Int) (M : Mem) : Option (Int) :=
  if (n32 sign = 32) ∨ (n32 sign = 10) then
    some 1
  else
    some 0

def K_isLetter (sign : Int) (M : Mem) : Option (Int) :=
  if (97 ≤ n32 sign) ∧ (n32 sign ≤ 122) then
    some 1
  else
    some 0

def K_fail (what : Int) (M : Mem) : Option (Mem) :=
  if ¬ n32 (M 40 4) = 24 then
    lt1 (up M 40 4 24) fun M_1 =>
    lt1 (up M_1 40 8 what) fun M_2 =>
    lt1 (up M_2 40 9 (M_2 40 5)) fun M_3 =>
    some M_3
  else
    some M

def K_readWord_b5 : Mem → Option ((Mem) ⊕ (Mem))
  | M_2 =>
    (
      if n32 (M_2 40 3) < n32 (M_2 40 2) then
        chk (0 ≤ (M_2 40 3) ∧ (M_2 40 3) < 1600) <|
        (K_isLetter (M_2 2 (Int.toNat (M_2 40 3))) M_2).bind fun r_17 =>
        if ¬ n32 r_17 = 0 then
          some true
        else
          some false
      else
        some false
    ).bind fun c_14 =>
    if c_14 = true then
      chk (0 ≤ (M_2 40 3) ∧ (M_2 40 3) < 1600) <|
      (K_spell (M_2 40 7) (M_2 2 (Int.toNat (M_2 40 3))) M_2).bind fun r_20 =>
      lt1 (up M_2 40 7 r_20) fun M_21 =>
      lt1 (up M_21 40 3 ((M_21 40 3) + 1)) fun M_22 =>
      some (.inl M_22)
    else
      some (.inr M_2)

def K_readWord_b92 : Int × Mem → Option ((Int × Mem) ⊕ (Mem))
  | (l1_25, M_26) =>
    if n32 l1_25 < 20 then
      chk (0 ≤ l1_25 ∧ l1_25 < 20) <|
      (
        if n64 (M_26 41 (Int.toNat l1_25)) = n64 (M_26 40 7) then
          lt1 (up M_26 40 4 (l1_25 + 1)) fun M_40 =>
          some M_40
        else
          some M_26
      ).bind fun M_36 =>
      lt1 (l1_25 + 1) fun l1_42 =>
      some (.inl (l1_42, M_36))
    else
      some (.inr M_26)
def K_readWord (M : Mem) : Option (Mem) :=
  lt1 (up M 40 7 0) fun M_1 =>
  (it (K_readWord_b5) FUEL M_1).bind fun M_9 =>
  if 8 < n32 ((M_9 40 3) - (M_9 40 5)) then
    (K_fail 1 M_9).bind fun M_23 =>
    some M_23
  else
    lt1 (up M_9 40 4 21) fun M_24 =>
    (it (K_readWord_b92) FUEL (0, M_24)).bind fun M_33 =>
    some M_33

def K_isDigit (sign : Int) (M : Mem) : Option (Int) :=
  if (48 ≤ n32 sign) ∧ (n32 sign ≤ 57) then
    some 1
  else
    some 0

def K_readNumber_b5 : Mem → Option ((Mem) ⊕ (Mem))
  | M_2 =>
    (
      if n32 (M_2 40 3) < n32 (M_2 40 2) then
        chk (0 ≤ (M_2 40 3) ∧ (M_2 40 3) < 1600) <|
        (K_isDigit (M_2 2 (Int.toNat (M_2 40 3))) M_2).bind fun r_17 =>
        if ¬ n32 r_17 = 0 then
          some true
        else
          some false
      else
        some false
    ).bind fun c_14 =>
    if c_14 = true then
      chk (0 ≤ (M_2 40 3) ∧ (M_2 40 3) < 1600) <|
      lt1 (up M_2 40 6 (((M_2 40 6) * 10) + ((M_2 2 (Int.toNat (M_2 40 3))) - 48))) fun M_20 =>
      lt1 (up M_20 40 3 ((M_20 40 3) + 1)) fun M_21 =>
      some (.inl M_21)
    else
      some (.inr M_2)
def K_readNumber (M : Mem) : Option (Mem) :=
  lt1 (up M 40 6 0) fun M_1 =>
  (it (K_readNumber_b5) FUEL M_1).bind fun M_9 =>
  jn (fun (M_22 : Mem) =>
    (K_fail 1 M_22).bind fun M_36 =>
    some M_36
  ) fun j_23 =>
  if n32 ((M_9 40 3) - (M_9 40 5)) ≤ 4 then
    (
      if n32 (M_9 40 3) < n32 (M_9 40 2) then
        chk (0 ≤ (M_9 40 3) ∧ (M_9 40 3) < 1600) <|
        (K_isLetter (M_9 2 (Int.toNat (M_9 40 3))) M_9).bind fun r_33 =>
        if ¬ n32 r_33 = 0 then
          some true
        else
          some false
      else
        some false
    ).bind fun c_30 =>
    if c_30 = true then
      j_23 M_9
    else
      lt1 (up M_9 40 4 22) fun M_34 =>
      some M_34
  else
    j_23 M_9

def K_isSign (sign : Int) (M : Mem) : Option (Int) :=
  if (n32 sign = 59) ∨ ((n32 sign = 40) ∨ ((n32 sign = 41) ∨ ((n32 sign = 60) ∨ ((n32 sign = 62) ∨ ((n32 sign = 61) ∨ ((n32 sign = 43) ∨ (n32 sign = 45))))))) then
    some 1
  else
    some 0

def K_pass_b10 : Mem → Option ((Mem) ⊕ (Mem))
  | M_1 =>
    (
      if n32 (M_1 40 3) < n32 (M_1 40 2) then
        chk (0 ≤ (M_1 40 3) ∧ (M_1 40 3) < 1600) <|
        (K_isBlank (M_1 2 (Int.toNat (M_1 40 3))) M_1).bind fun r_16 =>
        if ¬ n32 r_16 = 0 then
          some true
        else
          some false
      else
        some false
    ).bind fun c_13 =>
    if c_13 = true then
      lt1 (up M_1 40 3 ((M_1 40 3) + 1)) fun M_17 =>
      some (.inl M_17)
    else
      some (.inr M_1)
def K_pass (M : Mem) : Option (Mem) :=
  if n32 (M 40 4) = 24 then
    some M
  else
    (it (K_pass_b10) FUEL M).bind fun M_8 =>
    lt1 (up M_8 40 5 (M_8 40 3)) fun M_18 =>
    if n32 (M_18 40 2) ≤ n32 (M_18 40 3) then
      lt1 (up M_18 40 4 23) fun M_19 =>
      some M_19
    else
      chk (0 ≤ (M_18 40 3) ∧ (M_18 40 3) < 1600) <|
      (K_isLetter (M_18 2 (Int.toNat (M_18 40 3))) M_18).bind fun r_22 =>
      if ¬ n32 r_22 = 0 then
        (K_readWord M_18).bind fun M_23 =>
        some M_23
      else
        (K_isDigit (M_18 2 (Int.toNat (M_18 40 3))) M_18).bind fun r_24 =>
        if ¬ n32 r_24 = 0 then
          (K_readNumber M_18).bind fun M_25 =>
          some M_25
        else
          (K_isSign (M_18 2 (Int.toNat (M_18 40 3))) M_18).bind fun r_26 =>
          if ¬ n32 r_26 = 0 then
            lt1 (up M_18 40 4 (M_18 2 (Int.toNat (M_18 40 3)))) fun M_27 =>
            lt1 (up M_27 40 3 ((M_27 40 3) + 1)) fun M_28 =>
            some M_28
          else
            (K_fail 1 M_18).bind fun M_29 =>
            some M_29

def K_start (bytes : Int) (M : Mem) : Option (Mem) :=
  lt1 (up M 40 2 bytes) fun M_1 =>
  lt1 (up M_1 40 3 0) fun M_2 =>
  lt1 (up M_2 40 8 0) fun M_3 =>
  lt1 (up M_3 40 9 (-1)) fun M_4 =>
  lt1 (up M_4 40 4 23) fun M_5 =>
  (K_pass M_5).bind fun M_6 =>
  some M_6

def K_goesOn (M : Mem) : Option (Int) :=
  if (¬ n32 (M 40 4) = 23) ∧ (¬ n32 (M 40 4) = 24) then
    some 1
  else
    some 0

def N_begin (room : Int) (M : Mem) : Option (Mem) :=
  if ¬ n32 room = 0 then
    (K_pass M).bind fun M_1 =>
    some M_1
  else
    (K_fail 2 M).bind fun M_2 =>
    some M_2

def N_seesName (M : Mem) : Option (Int × Mem) :=
  (
    if ¬ n32 (M 40 4) = 21 then
      (K_fail 2 M).bind fun M_5 =>
      some M_5
    else
      some M
  ).bind fun M_1 =>
  if n32 (M_1 40 4) = 21 then
    some (1, M_1)
  else
    some (0, M_1)

def N_find_b2 (names : Nat) (count : Int) (M : Mem) : Int → Option ((Int) ⊕ ((Unit) ⊕ (Int)))
  | l3_1 =>
    if n32 l3_1 < n32 count then
      chk (0 ≤ l3_1 ∧ l3_1 < aJ 80 names) <|
      if n64 (M names (Int.toNat l3_1)) = n64 (M 40 7) then
        some (.inr (.inr l3_1))
      else
        lt1 (l3_1 + 1) fun l3_15 =>
        some (.inl l3_15)
    else
      some (.inr (.inl ()))
def N_find (names : Nat) (count : Int) (M : Mem) : Option (Int) :=
  (it (N_find_b2 names count M) FUEL 0).bind fun x => match x with
  | .inl _ =>
    some (-1)
  | .inr rv_18 => some rv_18

def N_findFact (M : Mem) : Option (Int) :=
  chk (isTI (M 27 16)) <|
  lt1 (M 27 16).toNat fun t_2 =>
  (N_find 32 (M t_2 0) M).bind fun r_4 =>
  some r_4

def N_findRow (M : Mem) : Option (Int) :=
  chk (isTI (M 27 16)) <|
  lt1 (M 27 16).toNat fun t_2 =>
  (N_find 34 (M t_2 2) M).bind fun r_4 =>
  some r_4

def N_takeName (M : Mem) : Option (Int × Mem) :=
  lt1 ((M 40 7)) fun l1_1 =>
  (K_pass M).bind fun M_2 =>
  some (l1_1, M_2)

def N_readNewOfFactsAndRows (M : Mem) : Option (Int × Mem) :=
  (N_seesName M).bind fun (r_1, M_2) =>
  (
    if ¬ n32 r_1 = 0 then
      (N_findFact M_2).bind fun r_7 =>
      (
        if n32 r_7 = (-1) then
          (N_findRow M_2).bind fun r_13 =>
          if ¬ n32 r_13 = (-1) then
            some true
          else
            some false
        else
          some true
      ).bind fun c_12 =>
      if c_12 = true then
        (K_fail 3 M_2).bind fun M_14 =>
        some M_14
      else
        some M_2
    else
      some M_2
  ).bind fun M_3 =>
  (N_takeName M_3).bind fun (r_16, M_17) =>
  some (r_16, M_17)

def K_expect (wanted : Int) (M : Mem) : Option (Mem) :=
  if n32 (M 40 4) = n32 wanted then
    (K_pass M).bind fun M_1 =>
    some M_1
  else
    (K_fail 2 M).bind fun M_2 =>
    some M_2

def N_readFact (M : Mem) : Option (Mem) :=
  chk (isTI (M 27 16)) <|
  lt1 (M 27 16).toNat fun t_2 =>
  (
    if n32 (M t_2 0) < 8 then
      some (1 : Int)
    else
      some (0 : Int)
  ).bind fun v_4 =>
  (N_begin v_4 M).bind fun M_9 =>
  (N_readNewOfFactsAndRows M_9).bind fun (r_10, M_11) =>
  (K_expect 59 M_11).bind fun M_12 =>
  if ¬ n32 (M_12 40 4) = 24 then
    chk (isTI (M_12 27 16)) <|
    lt1 (M_12 27 16).toNat fun t_14 =>
    chk (0 ≤ (M_12 t_14 0) ∧ (M_12 t_14 0) < 8) <|
    lt1 (up M_12 32 (Int.toNat (M_12 t_14 0)) r_10) fun M_18 =>
    chk (isTI (M_18 27 16)) <|
    lt1 (M_18 27 16).toNat fun t_20 =>
    lt1 (up M_18 t_20 0 ((M_18 t_20 0) + 1)) fun M_22 =>
    some M_22
  else
    some M_12

def N_readSmall (M : Mem) : Option (Int × Mem) :=
  (
    if ¬ n32 (M 40 4) = 22 then
      (K_fail 2 M).bind fun M_5 =>
      some M_5
    else
      if 99 < n32 (M 40 6) then
        (K_fail 4 M).bind fun M_6 =>
        some M_6
      else
        some M
  ).bind fun M_1 =>
  lt1 ((M_1 40 6)) fun l1_9 =>
  (K_pass M_1).bind fun M_10 =>
  some (l1_9, M_10)

def X_hasBit (bits : Int) (i : Int) (M : Mem) : Option (Int) :=
  if ¬ n32 (iand (ishr bits i) 1) = 0 then
    some 1
  else
    some 0

def N_readFactBit (known : Int) (M : Mem) : Option (Int × Mem) :=
  (N_seesName M).bind fun (r_1, M_2) =>
  (
    if ¬ n32 r_1 = 0 then
      (N_findFact M_2).bind fun r_7 =>
      some r_7
    else
      some (-1 : Int)
  ).bind fun v_3 =>
  if n32 v_3 = (-1) then
    (K_fail 5 M_2).bind fun M_9 =>
    some (0, M_9)
  else
    (X_hasBit known v_3 M_2).bind fun r_10 =>
    (
      if ¬ n32 r_10 = 0 then
        (K_fail 3 M_2).bind fun M_15 =>
        some M_15
      else
        some M_2
    ).bind fun M_11 =>
    (K_pass M_11).bind fun M_17 =>
    some ((ishl 1 v_3), M_17)

def N_readKnown_b8 : Int × Int × Mem → Option ((Int × Int × Mem) ⊕ (Int × Mem))
  | (l1_3, l2_4, M_5) =>
    if (n32 l2_4 < 8) ∧ (n32 (M_5 40 4) = 21) then
      (N_readFactBit l1_3 M_5).bind fun (r_14, M_15) =>
      lt1 ((ior' l1_3 r_14)) fun l1_16 =>
      lt1 (l2_4 + 1) fun l2_17 =>
      some (.inl (l1_16, l2_17, M_15))
    else
      some (.inr (l1_3, M_5))
def N_readKnown (M : Mem) : Option (Int × Mem) :=
  (N_readFactBit 0 M).bind fun (r_1, M_2) =>
  (it (N_readKnown_b8) FUEL (r_1, 0, M_2)).bind fun (l1_12, M_13) =>
  some (l1_12, M_13)

def N_readPerson (M : Mem) : Option (Mem) :=
  chk (isTI (M 27 16)) <|
  lt1 (M 27 16).toNat fun t_2 =>
  (
    if n32 (M t_2 1) < 8 then
      some (1 : Int)
    else
      some (0 : Int)
  ).bind fun v_4 =>
  (N_begin v_4 M).bind fun M_9 =>
  (N_seesName M_9).bind fun (r_10, M_11) =>
  (
    (
      if ¬ n32 r_10 = 0 then
        chk (isTI (M_11 27 16)) <|
        lt1 (M_11 27 16).toNat fun t_22 =>
        (N_find 33 (M_11 t_22 1) M_11).bind fun r_24 =>
        if ¬ n32 r_24 = (-1) then
          some true
        else
          some false
      else
        some false
    ).bind fun c_20 =>
    if c_20 = true then
      (K_fail 3 M_11).bind fun M_25 =>
      some M_25
    else
      some M_11
  ).bind fun M_12 =>
  (N_takeName M_12).bind fun (r_26, M_27) =>
  (K_expect 3 M_27).bind fun M_28 =>
  (N_readSmall M_28).bind fun (r_29, M_30) =>
  (
    if n32 (M_30 40 4) = 4 then
      (K_pass M_30).bind fun M_36 =>
      (N_readKnown M_36).bind fun (r_37, M_38) =>
      some (r_37, M_38)
    else
      some ((0 : Int), M_30)
  ).bind fun (l4_31, M_32) =>
  (K_expect 59 M_32).bind fun M_40 =>
  if ¬ n32 (M_40 40 4) = 24 then
    chk (isTI (M_40 27 16)) <|
    lt1 (M_40 27 16).toNat fun t_42 =>
    chk (0 ≤ (M_40 t_42 1) ∧ (M_40 t_42 1) < 8) <|
    lt1 (up M_40 33 (Int.toNat (M_40 t_42 1)) r_26) fun M_46 =>
    chk (isTI (M_46 27 16)) <|
    lt1 (M_46 27 16).toNat fun t_48 =>
    chk (0 ≤ (M_46 t_48 1) ∧ (M_46 t_48 1) < 8) <|
    lt1 (up M_46 (t_48 + 1) (Int.toNat (M_46 t_48 1)) r_29) fun M_52 =>
    chk (isTI (M_52 27 16)) <|
    lt1 (M_52 27 16).toNat fun t_54 =>
    chk (0 ≤ (M_52 t_54 1) ∧ (M_52 t_54 1) < 8) <|
    lt1 (up M_52 (t_54 + 2) (Int.toNat (M_52 t_54 1)) l4_31) fun M_58 =>
    chk (isTI (M_58 27 16)) <|
    lt1 (M_58 27 16).toNat fun t_60 =>
    lt1 (up M_58 t_60 1 ((M_58 t_60 1) + 1)) fun M_62 =>
    some M_62
  else
    some M_40

def S_add (sign : Int) (of_ : Int) (M : Mem) : Option (Mem) :=
  if n32 (M 28 1) < 720 then
    chk (0 ≤ (M 28 1) ∧ (M 28 1) < 720) <|
    lt1 (up M 29 (Int.toNat (M 28 1)) (ior' (ishl of_ 8) sign)) fun M_3 =>
    lt1 (up M_3 28 1 ((M_3 28 1) + 1)) fun M_4 =>
    some M_4
  else
    some M

def N_takesUnit (begins : Int) (depth : Int) (M : Mem) : Option (Int × Mem) :=
  (
    if (n32 (M 40 4) = 40) ∧ (7 ≤ n32 depth) then
      some (1 : Int)
    else
      some (0 : Int)
  ).bind fun v_1 =>
  (
    if ¬ n32 begins = 0 then
      if n32 v_1 = 0 then
        chk (isTI (M 27 16)) <|
        lt1 (M 27 16).toNat fun t_17 =>
        if 80 ≤ n32 (M t_17 5) then
          some true
        else
          some false
      else
        some true
    else
      some true
  ).bind fun c_15 =>
  if c_15 = true then
    (K_fail 2 M).bind fun M_19 =>
    some (0, M_19)
  else
    chk (isTI (M 27 16)) <|
    lt1 (M 27 16).toNat fun t_21 =>
    lt1 (up M t_21 5 ((M t_21 5) + 1)) fun M_23 =>
    some (1, M_23)

def N_seePerson (M : Mem) : Option (Int × Mem) :=
  (N_seesName M).bind fun (r_1, M_2) =>
  (
    if ¬ n32 r_1 = 0 then
      chk (isTI (M_2 27 16)) <|
      lt1 (M_2 27 16).toNat fun t_8 =>
      (N_find 33 (M_2 t_8 1) M_2).bind fun r_10 =>
      some r_10
    else
      some (-1 : Int)
  ).bind fun v_3 =>
  (
    if n32 v_3 = (-1) then
      (K_fail 5 M_2).bind fun M_16 =>
      some M_16
    else
      some M_2
  ).bind fun M_12 =>
  some (v_3, M_12)

def N_readBoth_b7 (rec_ : Int → Mem → Option (Mem)) (depth : Int) : Int × Mem → Option ((Int × Mem) ⊕ (Mem))
  | (l2_2, M_3) =>
    if (n32 l2_2 < 80) ∧ (n32 (M_3 40 4) = 14) then
      (K_pass M_3).bind fun M_11 =>
      (rec_ depth M_11).bind fun M_12 =>
      (S_add 14 0 M_12).bind fun M_13 =>
      lt1 (l2_2 + 1) fun l2_14 =>
      some (.inl (l2_14, M_13))
    else
      some (.inr M_3)
def N_readBoth (rec_ : Int → Mem → Option (Mem)) (depth : Int) (M : Mem) : Option (Mem) :=
  (rec_ depth M).bind fun M_1 =>
  (it (N_readBoth_b7 rec_ depth) FUEL (0, M_1)).bind fun M_10 =>
  some M_10

def N_readAlt_b7 (rec_ : Int → Mem → Option (Mem)) (depth : Int) : Int × Mem → Option ((Int × Mem) ⊕ (Mem))
  | (l2_2, M_3) =>
    if (n32 l2_2 < 80) ∧ (n32 (M_3 40 4) = 13) then
      (K_pass M_3).bind fun M_11 =>
      (N_readBoth rec_ depth M_11).bind fun M_12 =>
      (S_add 13 0 M_12).bind fun M_13 =>
      lt1 (l2_2 + 1) fun l2_14 =>
      some (.inl (l2_14, M_13))
    else
      some (.inr M_3)
def N_readAlt (rec_ : Int → Mem → Option (Mem)) (depth : Int) (M : Mem) : Option (Mem) :=
  (N_readBoth rec_ depth M).bind fun M_1 =>
  (it (N_readAlt_b7 rec_ depth) FUEL (0, M_1)).bind fun M_10 =>
  some M_10

def N_readE (rec_ : Int → Mem → Option (Mem)) (depth : Int) (M : Mem) : Option (Mem) :=
  (N_readAlt rec_ depth M).bind fun M_1 =>
  if n32 (M_1 40 4) = 12 then
    (K_pass M_1).bind fun M_2 =>
    (N_readAlt rec_ depth M_2).bind fun M_3 =>
    (S_add 12 0 M_3).bind fun M_4 =>
    some M_4
  else
    some M_1

def N_readUnit (rec_ : Int → Mem → Option (Mem)) (depth : Int) (M : Mem) : Option (Mem) :=
  (
    if n32 (M 40 4) = 40 then
      some (1 : Int)
    else
      some (0 : Int)
  ).bind fun v_1 =>
  (
    if (¬ n32 v_1 = 0) ∨ (n32 (M 40 4) = 21) then
      some (1 : Int)
    else
      some (0 : Int)
  ).bind fun v_6 =>
  (N_takesUnit v_6 depth M).bind fun (r_16, M_17) =>
  if n32 r_16 = 0 then
    some M_17
  else
    if ¬ n32 v_1 = 0 then
      (K_pass M_17).bind fun M_18 =>
      (N_readE rec_ (depth + 1) M_18).bind fun M_19 =>
      (K_expect 41 M_19).bind fun M_20 =>
      some M_20
    else
      (N_findFact M_17).bind fun r_21 =>
      (N_findRow M_17).bind fun r_22 =>
      (
        if ¬ n32 r_21 = (-1) then
          (S_add 1 r_21 M_17).bind fun M_27 =>
          some M_27
        else
          jn (fun (M_28 : Mem) =>
            (K_fail 5 M_28).bind fun M_45 =>
            some M_45
          ) fun j_29 =>
          if ¬ n32 r_22 = (-1) then
            (
              if ¬ n32 (M_17 27 14) = 0 then
                chk (0 ≤ r_22 ∧ r_22 < 12) <|
                if n32 (M_17 37 (Int.toNat r_22)) = 0 then
                  some true
                else
                  some false
              else
                some true
            ).bind fun c_36 =>
            if c_36 = true then
              chk (0 ≤ r_22 ∧ r_22 < 12) <|
              chk ((ior' (M_17 27 15) (M_17 37 (Int.toNat r_22))) = 0 ∨ (ior' (M_17 27 15) (M_17 37 (Int.toNat r_22))) = 1) <|
              lt1 (up M_17 27 15 (ior' (M_17 27 15) (M_17 37 (Int.toNat r_22)))) fun M_42 =>
              (S_add 5 r_22 M_42).bind fun M_43 =>
              some M_43
            else
              j_29 M_17
          else
            j_29 M_17
      ).bind fun M_23 =>
      (K_pass M_23).bind fun M_47 =>
      some M_47

def N_readOne_s (rec_ : Int → Mem → Option (Mem)) (depth : Int) (M : Mem) : Option (Mem) :=
  lt1 ((M 40 4)) fun l2_1 =>
  (
    if (n32 l2_1 = 16) ∨ (n32 l2_1 = 17) then
      some (1 : Int)
    else
      some (0 : Int)
  ).bind fun v_2 =>
  if (¬ n32 l2_1 = 15) ∧ (n32 v_2 = 0) then
    (N_readUnit rec_ depth M).bind fun M_12 =>
    some M_12
  else
    jn (fun (M_13 : Mem) =>
      (K_fail 2 M_13).bind fun M_37 =>
      some M_37
    ) fun j_14 =>
    if n32 depth < 7 then
      if (¬ n32 v_2 = 0) ∧ (¬ n32 (M 27 14) = 0) then
        j_14 M
      else
        (K_pass M).bind fun M_17 =>
        (
          if ¬ n32 v_2 = 0 then
            lt1 (up M_17 27 15 1) fun M_23 =>
            (N_seePerson M_23).bind fun (r_24, M_25) =>
            (K_pass M_25).bind fun M_26 =>
            some (r_24, M_26)
          else
            some ((0 : Int), M_17)
        ).bind fun (l4_18, M_19) =>
        (rec_ (depth + 1) M_19).bind fun M_28 =>
        (S_add l2_1 l4_18 M_28).bind fun M_29 =>
        some M_29
    else
      j_14 M
def N_readOne : Nat → Int → Mem → Option (Mem)
  | 0, _, _ => none
  | d + 1, x0, M => N_readOne_s (N_readOne d) x0 M

def N_readRow (M : Mem) : Option (Mem) :=
  chk (isTI (M 27 16)) <|
  lt1 (M 27 16).toNat fun t_2 =>
  (
    if n32 (M t_2 2) < 12 then
      some (1 : Int)
    else
      some (0 : Int)
  ).bind fun v_4 =>
  (N_begin v_4 M).bind fun M_9 =>
  (N_readNewOfFactsAndRows M_9).bind fun (r_10, M_11) =>
  lt1 ((M_11 28 1)) fun l3_12 =>
  lt1 (up M_11 27 14 0) fun M_13 =>
  lt1 (up M_13 27 15 0) fun M_14 =>
  (N_readE (N_readOne 10) 0 M_14).bind fun M_15 =>
  lt1 ((M_15 28 1)) fun l4_16 =>
  (K_expect 59 M_15).bind fun M_17 =>
  if ¬ n32 (M_17 40 4) = 24 then
    chk (isTI (M_17 27 16)) <|
    lt1 (M_17 27 16).toNat fun t_19 =>
    chk (0 ≤ (M_17 t_19 2) ∧ (M_17 t_19 2) < 12) <|
    lt1 (up M_17 34 (Int.toNat (M_17 t_19 2)) r_10) fun M_23 =>
    chk (isTI (M_23 27 16)) <|
    lt1 (M_23 27 16).toNat fun t_25 =>
    chk (0 ≤ (M_23 t_25 2) ∧ (M_23 t_25 2) < 12) <|
    lt1 (up M_23 35 (Int.toNat (M_23 t_25 2)) l3_12) fun M_29 =>
    chk (isTI (M_29 27 16)) <|
    lt1 (M_29 27 16).toNat fun t_31 =>
    chk (0 ≤ (M_29 t_31 2) ∧ (M_29 t_31 2) < 12) <|
    lt1 (up M_29 36 (Int.toNat (M_29 t_31 2)) l4_16) fun M_35 =>
    chk (isTI (M_35 27 16)) <|
    lt1 (M_35 27 16).toNat fun t_37 =>
    chk (0 ≤ (M_35 t_37 2) ∧ (M_35 t_37 2) < 12) <|
    chk ((M_35 27 15) = 0 ∨ (M_35 27 15) = 1) <|
    lt1 (up M_35 37 (Int.toNat (M_35 t_37 2)) (M_35 27 15)) fun M_42 =>
    chk (isTI (M_42 27 16)) <|
    lt1 (M_42 27 16).toNat fun t_44 =>
    lt1 (up M_42 t_44 2 ((M_42 t_44 2) + 1)) fun M_46 =>
    some M_46
  else
    some M_17

def N_readAlways (M : Mem) : Option (Mem) :=
  (
    if n32 (M 27 10) < 4 then
      some (1 : Int)
    else
      some (0 : Int)
  ).bind fun v_1 =>
  (N_begin v_1 M).bind fun M_6 =>
  lt1 ((M_6 28 1)) fun l1_7 =>
  lt1 (up M_6 27 14 1) fun M_8 =>
  (N_readE (N_readOne 10) 0 M_8).bind fun M_9 =>
  lt1 ((M_9 28 1)) fun l2_10 =>
  (K_expect 59 M_9).bind fun M_11 =>
  if ¬ n32 (M_11 40 4) = 24 then
    chk (0 ≤ (M_11 27 10) ∧ (M_11 27 10) < 4) <|
    lt1 (up M_11 38 (Int.toNat (M_11 27 10)) l1_7) fun M_14 =>
    chk (0 ≤ (M_14 27 10) ∧ (M_14 27 10) < 4) <|
    lt1 (up M_14 39 (Int.toNat (M_14 27 10)) l2_10) fun M_17 =>
    lt1 (up M_17 27 10 ((M_17 27 10) + 1)) fun M_18 =>
    some M_18
  else
    some M_11

def N_readTie (M : Mem) : Option (Mem) :=
  chk (isTI (M 27 16)) <|
  lt1 (M 27 16).toNat fun t_2 =>
  (
    if n32 (M t_2 3) < 12 then
      some (1 : Int)
    else
      some (0 : Int)
  ).bind fun v_4 =>
  (N_begin v_4 M).bind fun M_9 =>
  (N_seePerson M_9).bind fun (r_10, M_11) =>
  (K_pass M_11).bind fun M_12 =>
  (N_seePerson M_12).bind fun (r_13, M_14) =>
  (
    if (¬ n32 r_10 = (-1)) ∧ (¬ n32 r_13 = (-1)) then
      (
        if ¬ n32 r_10 = n32 r_13 then
          chk (isTI (M_14 27 16)) <|
          lt1 (M_14 27 16).toNat fun t_25 =>
          chk (0 ≤ r_10 ∧ r_10 < 8) <|
          (X_hasBit (M_14 (t_25 + 3) (Int.toNat r_10)) r_13 M_14).bind fun r_29 =>
          if ¬ n32 r_29 = 0 then
            some true
          else
            some false
        else
          some true
      ).bind fun c_23 =>
      if c_23 = true then
        (K_fail 3 M_14).bind fun M_30 =>
        some M_30
      else
        some M_14
    else
      some M_14
  ).bind fun M_15 =>
  (K_pass M_15).bind fun M_37 =>
  (K_expect 8 M_37).bind fun M_38 =>
  (N_readSmall M_38).bind fun (r_39, M_40) =>
  (K_expect 59 M_40).bind fun M_41 =>
  if (¬ n32 (M_41 40 4) = 24) ∧ ((¬ n32 r_10 = (-1)) ∧ (¬ n32 r_13 = (-1))) then
    chk (isTI (M_41 27 16)) <|
    lt1 (M_41 27 16).toNat fun t_43 =>
    chk (0 ≤ (M_41 t_43 3) ∧ (M_41 t_43 3) < 12) <|
    lt1 (up M_41 (t_43 + 4) (Int.toNat (M_41 t_43 3)) r_10) fun M_47 =>
    chk (isTI (M_47 27 16)) <|
    lt1 (M_47 27 16).toNat fun t_49 =>
    chk (0 ≤ (M_47 t_49 3) ∧ (M_47 t_49 3) < 12) <|
    lt1 (up M_47 (t_49 + 5) (Int.toNat (M_47 t_49 3)) r_13) fun M_53 =>
    chk (isTI (M_53 27 16)) <|
    lt1 (M_53 27 16).toNat fun t_55 =>
    chk (0 ≤ (M_53 t_55 3) ∧ (M_53 t_55 3) < 12) <|
    lt1 (up M_53 (t_55 + 6) (Int.toNat (M_53 t_55 3)) r_39) fun M_59 =>
    chk (isTI (M_59 27 16)) <|
    lt1 (M_59 27 16).toNat fun t_61 =>
    chk (0 ≤ r_10 ∧ r_10 < 8) <|
    lt1 (up M_59 (t_61 + 3) (Int.toNat r_10) (ior' (M_59 (t_61 + 3) (Int.toNat r_10)) (ishl 1 r_13))) fun M_65 =>
    chk (isTI (M_65 27 16)) <|
    lt1 (M_65 27 16).toNat fun t_67 =>
    chk (0 ≤ r_13 ∧ r_13 < 8) <|
    lt1 (up M_65 (t_67 + 3) (Int.toNat r_13) (ior' (M_65 (t_67 + 3) (Int.toNat r_13)) (ishl 1 r_10))) fun M_71 =>
    chk (isTI (M_71 27 16)) <|
    lt1 (M_71 27 16).toNat fun t_73 =>
    lt1 (up M_71 t_73 3 ((M_71 t_73 3) + 1)) fun M_75 =>
    some M_75
  else
    some M_41

def N_readWish (M : Mem) : Option (Mem) :=
  chk (isTI (M 27 16)) <|
  lt1 (M 27 16).toNat fun t_2 =>
  (
    if n32 (M t_2 4) < 12 then
      some (1 : Int)
    else
      some (0 : Int)
  ).bind fun v_4 =>
  (N_begin v_4 M).bind fun M_9 =>
  (N_seePerson M_9).bind fun (r_10, M_11) =>
  (K_pass M_11).bind fun M_12 =>
  (N_seesName M_12).bind fun (r_13, M_14) =>
  (
    if ¬ n32 r_13 = 0 then
      (N_findRow M_14).bind fun r_19 =>
      some r_19
    else
      some (-1 : Int)
  ).bind fun v_15 =>
  (
    if n32 v_15 = (-1) then
      (K_fail 5 M_14).bind fun M_25 =>
      some M_25
    else
      (
        if ¬ n32 r_10 = (-1) then
          chk (isTI (M_14 27 16)) <|
          lt1 (M_14 27 16).toNat fun t_32 =>
          chk (0 ≤ ((r_10 * 12) + v_15) ∧ ((r_10 * 12) + v_15) < 96) <|
          if ¬ n32 (M_14 (t_32 + 7) (Int.toNat ((r_10 * 12) + v_15))) = (-1) then
            some true
          else
            some false
        else
          some false
      ).bind fun c_30 =>
      if c_30 = true then
        (K_fail 3 M_14).bind fun M_36 =>
        some M_36
      else
        some M_14
  ).bind fun M_21 =>
  (K_pass M_21).bind fun M_38 =>
  (K_expect 10 M_38).bind fun M_39 =>
  (N_readSmall M_39).bind fun (r_40, M_41) =>
  (K_expect 59 M_41).bind fun M_42 =>
  if (¬ n32 (M_42 40 4) = 24) ∧ ((¬ n32 r_10 = (-1)) ∧ (¬ n32 v_15 = (-1))) then
    chk (isTI (M_42 27 16)) <|
    lt1 (M_42 27 16).toNat fun t_44 =>
    chk (0 ≤ ((r_10 * 12) + v_15) ∧ ((r_10 * 12) + v_15) < 96) <|
    lt1 (up M_42 (t_44 + 7) (Int.toNat ((r_10 * 12) + v_15)) r_40) fun M_48 =>
    chk (isTI (M_48 27 16)) <|
    lt1 (M_48 27 16).toNat fun t_50 =>
    lt1 (up M_48 t_50 4 ((M_48 t_50 4) + 1)) fun M_52 =>
    some M_52
  else
    some M_42

def N_readSum_b7 (rec_ : Int → Mem → Option (Mem)) (depth : Int) : Int × Mem → Option ((Int × Mem) ⊕ (Mem))
  | (l2_2, M_3) =>
    if n32 l2_2 < 80 then
      if (n32 (M_3 40 4) = 43) ∨ (n32 (M_3 40 4) = 45) then
        lt1 ((M_3 40 4)) fun l3_11 =>
        (K_pass M_3).bind fun M_12 =>
        (rec_ depth M_12).bind fun M_13 =>
        (S_add l3_11 0 M_13).bind fun M_14 =>
        lt1 (l2_2 + 1) fun l2_15 =>
        some (.inl (l2_15, M_14))
      else
        some (.inr M_3)
    else
      some (.inr M_3)
def N_readSum (rec_ : Int → Mem → Option (Mem)) (depth : Int) (M : Mem) : Option (Mem) :=
  (rec_ depth M).bind fun M_1 =>
  (it (N_readSum_b7 rec_ depth) FUEL (0, M_1)).bind fun M_10 =>
  some M_10

def N_readAny (rec_ : Int → Mem → Option (Mem)) (depth : Int) (M : Mem) : Option (Mem) :=
  (N_readSum rec_ depth M).bind fun M_1 =>
  lt1 ((M_1 40 4)) fun l2_2 =>
  if (n32 l2_2 = 60) ∨ ((n32 l2_2 = 62) ∨ (n32 l2_2 = 61)) then
    (K_pass M_1).bind fun M_3 =>
    (N_readSum rec_ depth M_3).bind fun M_4 =>
    (S_add l2_2 0 M_4).bind fun M_5 =>
    some M_5
  else
    some M_1

def N_readF_b7 (rec_ : Int → Mem → Option (Mem)) (depth : Int) : Int × Mem → Option ((Int × Mem) ⊕ (Mem))
  | (l2_2, M_3) =>
    if (n32 l2_2 < 80) ∧ (n32 (M_3 40 4) = 13) then
      (K_pass M_3).bind fun M_11 =>
      (N_readAny rec_ depth M_11).bind fun M_12 =>
      (S_add 13 0 M_12).bind fun M_13 =>
      lt1 (l2_2 + 1) fun l2_14 =>
      some (.inl (l2_14, M_13))
    else
      some (.inr M_3)
def N_readF (rec_ : Int → Mem → Option (Mem)) (depth : Int) (M : Mem) : Option (Mem) :=
  (N_readAny rec_ depth M).bind fun M_1 =>
  (it (N_readF_b7 rec_ depth) FUEL (0, M_1)).bind fun M_10 =>
  some M_10

def N_readPart_s (rec_ : Int → Mem → Option (Mem)) (depth : Int) (M : Mem) : Option (Mem) :=
  lt1 ((M 40 4)) fun l2_1 =>
  (
    if (n32 l2_1 = 18) ∨ ((n32 l2_1 = 19) ∨ ((n32 l2_1 = 20) ∨ (n32 l2_1 = 17))) then
      some (1 : Int)
    else
      some (0 : Int)
  ).bind fun v_2 =>
  (
    if (¬ n32 v_2 = 0) ∨ ((n32 l2_1 = 22) ∨ (n32 l2_1 = 40)) then
      some (1 : Int)
    else
      some (0 : Int)
  ).bind fun v_16 =>
  (N_takesUnit v_16 depth M).bind fun (r_28, M_29) =>
  if n32 r_28 = 0 then
    some M_29
  else
    if n32 l2_1 = 40 then
      (K_pass M_29).bind fun M_30 =>
      (N_readF rec_ (depth + 1) M_30).bind fun M_31 =>
      (K_expect 41 M_31).bind fun M_32 =>
      some M_32
    else
      (
        if n32 l2_1 = 22 then
          some (M_29 40 6)
        else
          some (0 : Int)
      ).bind fun v_33 =>
      (S_add l2_1 v_33 M_29).bind fun M_38 =>
      (K_pass M_38).bind fun M_39 =>
      some M_39
def N_readPart : Nat → Int → Mem → Option (Mem)
  | 0, _, _ => none
  | d + 1, x0, M => N_readPart_s (N_readPart d) x0 M

def N_readLaw (M : Mem) : Option (Mem) :=
  (
    if n32 (M 27 13) = 0 then
      some (1 : Int)
    else
      some (0 : Int)
  ).bind fun v_1 =>
  (N_begin v_1 M).bind fun M_6 =>
  lt1 (up M_6 27 13 1) fun M_7 =>
  lt1 (up M_7 27 11 (M_7 28 1)) fun M_8 =>
  (N_readF (N_readPart 10) 0 M_8).bind fun M_9 =>
  lt1 (up M_9 27 12 (M_9 28 1)) fun M_10 =>
  (K_expect 59 M_10).bind fun M_11 =>
  some M_11

def N_readInto_b40 : Int × Mem → Option ((Int × Mem) ⊕ (Mem))
  | (l3_10, M_11) =>
    (
      if n32 l3_10 ≤ 1600 then
        (K_goesOn M_11).bind fun r_24 =>
        if ¬ n32 r_24 = 0 then
          some true
        else
          some false
      else
        some false
    ).bind fun c_23 =>
    if c_23 = true then
      (
        if n32 (M_11 40 4) = 1 then
          (N_readFact M_11).bind fun M_29 =>
          some M_29
        else
        if n32 (M_11 40 4) = 2 then
          (N_readPerson M_11).bind fun M_31 =>
          some M_31
        else
        if n32 (M_11 40 4) = 5 then
          (N_readRow M_11).bind fun M_33 =>
          some M_33
        else
        if n32 (M_11 40 4) = 6 then
          (N_readAlways M_11).bind fun M_35 =>
          some M_35
        else
        if n32 (M_11 40 4) = 7 then
          (N_readTie M_11).bind fun M_37 =>
          some M_37
        else
        if n32 (M_11 40 4) = 9 then
          (N_readWish M_11).bind fun M_39 =>
          some M_39
        else
        if n32 (M_11 40 4) = 11 then
          (N_readLaw M_11).bind fun M_41 =>
          some M_41
        else
        (K_fail 2 M_11).bind fun M_43 =>
        some M_43
      ).bind fun M_25 =>
      lt1 (l3_10 + 1) fun l3_45 =>
      some (.inl (l3_45, M_25))
    else
      some (.inr M_11)
def N_readInto (tinto : Nat) (length : Int) (M : Mem) : Option (Mem) :=
  lt1 (up M 27 16 ((tinto : Nat) : Int)) fun M_1 =>
  chk (isTI (M_1 27 16)) <|
  lt1 (M_1 27 16).toNat fun t_3 =>
  (T_clear t_3 M_1).bind fun M_5 =>
  lt1 (up M_5 28 1 0) fun M_6 =>
  lt1 (up M_6 27 10 0) fun M_7 =>
  lt1 (up M_7 27 13 0) fun M_8 =>
  (K_start length M_8).bind fun M_9 =>
  (it (N_readInto_b40) FUEL (0, M_9)).bind fun M_18 =>
  some M_18

def S_ofWay (sign : Int) (way : Int) (M : Mem) : Option (Int) :=
  if n32 sign = 18 then
    some ((ishr way 3) + 1)
  else
  if n32 sign = 19 then
    some (iand (ishr way 2) 1)
  else
  if n32 sign = 20 then
    some (iand (ishr way 1) 1)
  else
  some (iand way 1)

def S_joined (sign : Int) (one_ : Int) (other : Int) (M : Mem) : Option (Int) :=
  if n32 sign = 43 then
    some (one_ + other)
  else
  if n32 sign = 45 then
    some (one_ - other)
  else
  if n32 sign = 60 then
    if n32 one_ < n32 other then
      some 1
    else
      some 0
  else
  if n32 sign = 62 then
    if n32 other < n32 one_ then
      some 1
    else
      some 0
  else
  if n32 sign = 61 then
    if n32 one_ = n32 other then
      some 1
    else
      some 0
  else
  if (¬ n32 one_ = 0) ∨ (¬ n32 other = 0) then
    some 1
  else
    some 0

def S_value_b6 (end_ : Int) (way : Int) : Int × Int × Mem → Option ((Int × Int × Mem) ⊕ (Int × Mem))
  | (l4_1, l5_2, M_3) =>
    if n32 l5_2 < n32 end_ then
      chk (0 ≤ l5_2 ∧ l5_2 < 720) <|
      lt1 ((iand (M_3 29 (Int.toNat l5_2)) 255)) fun l6_14 =>
      (
        if (n32 l6_14 = 22) ∨ ((n32 l6_14 = 18) ∨ ((n32 l6_14 = 19) ∨ ((n32 l6_14 = 20) ∨ (n32 l6_14 = 17)))) then
          if n32 l4_1 < 25 then
            (
              if n32 l6_14 = 22 then
                some (ishr (M_3 29 (Int.toNat l5_2)) 8)
              else
                (S_ofWay l6_14 way M_3).bind fun r_24 =>
                some r_24
            ).bind fun v_20 =>
            chk (0 ≤ l4_1 ∧ l4_1 < 25) <|
            lt1 (up M_3 31 (Int.toNat l4_1) v_20) fun M_28 =>
            lt1 (l4_1 + 1) fun l4_29 =>
            some (l4_29, M_28)
          else
            some (l4_1, M_3)
        else
          if 1 < n32 l4_1 then
            lt1 (l4_1 + (-1)) fun l4_31 =>
            chk (0 ≤ (l4_31 - 1) ∧ (l4_31 - 1) < 25) <|
            chk (0 ≤ l4_31 ∧ l4_31 < 25) <|
            (S_joined l6_14 (M_3 31 (Int.toNat (l4_31 - 1))) (M_3 31 (Int.toNat l4_31)) M_3).bind fun r_36 =>
            lt1 (up M_3 31 (Int.toNat (l4_31 - 1)) r_36) fun M_37 =>
            some (l4_31, M_37)
          else
            some (l4_1, M_3)
      ).bind fun (l4_15, M_16) =>
      lt1 (l5_2 + 1) fun l5_51 =>
      some (.inl (l4_15, l5_51, M_16))
    else
      some (.inr (l4_1, M_3))
def S_value (start : Int) (end_ : Int) (way : Int) (M : Mem) : Option (Int × Mem) :=
  (it (S_value_b6 end_ way) FUEL (0, start, M)).bind fun (l4_10, M_11) =>
  if 0 < n32 l4_10 then
    some ((M_11 31 (Int.toNat 0)), M_11)
  else
    some (0, M_11)

def N_fillLaw_b10 : Int × Mem → Option ((Int × Mem) ⊕ (Mem))
  | (l1_5, M_6) =>
    chk (isTI (M_6 27 16)) <|
    lt1 (M_6 27 16).toNat fun t_15 =>
    if n32 l1_5 < n32 (ishl (M_6 t_15 1) 3) then
      (
        if ¬ n32 (M_6 27 13) = 0 then
          (S_value (M_6 27 11) (M_6 27 12) l1_5 M_6).bind fun (r_22, M_23) =>
          if ¬ n32 r_22 = 0 then
            some ((1 : Int), M_23)
          else
            some ((0 : Int), M_23)
        else
          if 0 < n32 (ishr l1_5 3) then
            some ((1 : Int), M_6)
          else
            some ((0 : Int), M_6)
      ).bind fun (v_17, M_18) =>
      (
        if ¬ n32 v_17 = 0 then
          chk (isTI (M_18 27 16)) <|
          lt1 (M_18 27 16).toNat fun t_32 =>
          lt1 (up M_18 t_32 7 (jor (M_18 t_32 7) (jshl 1 l1_5))) fun M_34 =>
          some M_34
        else
          some M_18
      ).bind fun M_27 =>
      lt1 (l1_5 + 1) fun l1_36 =>
      some (.inl (l1_36, M_27))
    else
      some (.inr M_6)
def N_fillLaw (M : Mem) : Option (Mem) :=
  chk (isTI (M 27 16)) <|
  lt1 (M 27 16).toNat fun t_2 =>
  lt1 (up M t_2 7 0) fun M_4 =>
  (it (N_fillLaw_b10) FUEL (0, M_4)).bind fun M_13 =>
  some M_13

def T_allOfWord (t : Nat) (M : Mem) : Option (Int) :=
  if 6 ≤ n32 (M t 0) then
    some (-1)
  else
    some ((jshl 1 (ishl 1 (M t 0))) - 1)

def S_push_b3 (ttown : Nat) (sign : Int) (of_ : Int) (at_ : Int) : Int × Mem → Option ((Int × Mem) ⊕ (Mem))
  | (l5_1, M_2) =>
    if n32 l5_1 < n32 (M_2 ttown 6) then
      (
        if n32 sign = 5 then
          chk (0 ≤ ((of_ * 4) + l5_1) ∧ ((of_ * 4) + l5_1) < 48) <|
          chk (0 ≤ (at_ + l5_1) ∧ (at_ + l5_1) < 100) <|
          lt1 (up M_2 30 (Int.toNat (at_ + l5_1)) (M_2 (ttown + 9) (Int.toNat ((of_ * 4) + l5_1)))) fun M_18 =>
          some M_18
        else
          if n32 of_ < 6 then
            chk (0 ≤ of_ ∧ of_ < 6) <|
            (T_allOfWord ttown M_2).bind fun r_21 =>
            chk (0 ≤ (at_ + l5_1) ∧ (at_ + l5_1) < 100) <|
            lt1 (up M_2 30 (Int.toNat (at_ + l5_1)) (jand (fbI (Int.toNat of_)) r_21)) fun M_24 =>
            some M_24
          else
            (X_hasBit l5_1 (of_ - 6) M_2).bind fun r_25 =>
            (
              if ¬ n32 r_25 = 0 then
                some (-1 : Int)
              else
                some (0 : Int)
            ).bind fun v_26 =>
            chk (0 ≤ (at_ + l5_1) ∧ (at_ + l5_1) < 100) <|
            lt1 (up M_2 30 (Int.toNat (at_ + l5_1)) v_26) fun M_33 =>
            some M_33
      ).bind fun M_10 =>
      lt1 (l5_1 + 1) fun l5_36 =>
      some (.inl (l5_36, M_10))
    else
      some (.inr M_2)
def S_push (ttown : Nat) (sign : Int) (of_ : Int) (at_ : Int) (M : Mem) : Option (Mem) :=
  (it (S_push_b3 ttown sign of_ at_) FUEL (0, M)).bind fun M_9 =>
  some M_9

def S_join_b3 (ttown : Nat) (sign : Int) (at_ : Int) : Int × Mem → Option ((Int × Mem) ⊕ (Mem))
  | (l4_1, M_2) =>
    if n32 l4_1 < n32 (M_2 ttown 6) then
      chk (0 ≤ (at_ + l4_1) ∧ (at_ + l4_1) < 100) <|
      lt1 ((M_2 30 (Int.toNat (at_ + l4_1)))) fun l5_12 =>
      chk (0 ≤ ((at_ + 4) + l4_1) ∧ ((at_ + 4) + l4_1) < 100) <|
      lt1 ((M_2 30 (Int.toNat ((at_ + 4) + l4_1)))) fun l7_15 =>
      (
        if n32 sign = 14 then
          lt1 (up M_2 30 (Int.toNat (at_ + l4_1)) (jand l5_12 l7_15)) fun M_20 =>
          some M_20
        else
          if n32 sign = 13 then
            lt1 (up M_2 30 (Int.toNat (at_ + l4_1)) (jor l5_12 l7_15)) fun M_21 =>
            some M_21
          else
            (T_allOfWord ttown M_2).bind fun r_22 =>
            lt1 (up M_2 30 (Int.toNat (at_ + l4_1)) (jor l5_12 (jand (jxor l7_15 (-1)) r_22))) fun M_23 =>
            some M_23
      ).bind fun M_16 =>
      lt1 (l4_1 + 1) fun l4_26 =>
      some (.inl (l4_26, M_16))
    else
      some (.inr M_2)
def S_join (ttown : Nat) (sign : Int) (at_ : Int) (M : Mem) : Option (Mem) :=
  (it (S_join_b3 ttown sign at_) FUEL (0, M)).bind fun M_9 =>
  some M_9

def T_flip_b2 (t : Nat) (sets : Nat) (at_ : Int) : Int × Mem → Option ((Int × Mem) ⊕ (Mem))
  | (l3_1, M_2) =>
    if n32 l3_1 < n32 (M_2 t 6) then
      chk (0 ≤ (at_ + l3_1) ∧ (at_ + l3_1) < aJ 80 sets) <|
      chk (0 ≤ l3_1 ∧ l3_1 < 4) <|
      lt1 (up M_2 sets (Int.toNat (at_ + l3_1)) (jand (jxor (M_2 sets (Int.toNat (at_ + l3_1))) (-1)) (M_2 (t + 8) (Int.toNat l3_1)))) fun M_19 =>
      lt1 (l3_1 + 1) fun l3_20 =>
      some (.inl (l3_20, M_19))
    else
      some (.inr M_2)
def T_flip (t : Nat) (sets : Nat) (at_ : Int) (M : Mem) : Option (Mem) :=
  (it (T_flip_b2 t sets at_) FUEL (0, M)).bind fun M_9 =>
  some M_9

def T_keepBase_b2 (t : Nat) (sets : Nat) (at_ : Int) : Int × Mem → Option ((Int × Mem) ⊕ (Mem))
  | (l3_1, M_2) =>
    if n32 l3_1 < n32 (M_2 t 6) then
      chk (0 ≤ (at_ + l3_1) ∧ (at_ + l3_1) < aJ 80 sets) <|
      chk (0 ≤ l3_1 ∧ l3_1 < 4) <|
      lt1 (up M_2 sets (Int.toNat (at_ + l3_1)) (jand (M_2 sets (Int.toNat (at_ + l3_1))) (M_2 (t + 8) (Int.toNat l3_1)))) fun M_19 =>
      lt1 (l3_1 + 1) fun l3_20 =>
      some (.inl (l3_20, M_19))
    else
      some (.inr M_2)
def T_keepBase (t : Nat) (sets : Nat) (at_ : Int) (M : Mem) : Option (Mem) :=
  (it (T_keepBase_b2 t sets at_) FUEL (0, M)).bind fun M_9 =>
  some M_9

def T_forget_b21 (t : Nat) (sets : Nat) (at_ : Int) (l4_1 : Int) (l5_4 : Int) : Int × Mem → Option ((Int × Mem) ⊕ (Mem))
  | (l7_5, M_6) =>
    if n32 l7_5 < n32 (at_ + (M_6 t 6)) then
      chk (0 ≤ l7_5 ∧ l7_5 < aJ 80 sets) <|
      lt1 ((M_6 sets (Int.toNat l7_5))) fun l8_21 =>
      lt1 (up M_6 sets (Int.toNat l7_5) (jor (jor l8_21 (jushr (jand l8_21 l5_4) l4_1)) (jshl (jand l8_21 (jxor l5_4 (-1))) l4_1))) fun M_22 =>
      lt1 (l7_5 + 1) fun l7_23 =>
      some (.inl (l7_23, M_22))
    else
      some (.inr M_6)

def T_forget_b84 (t : Nat) (sets : Nat) (at_ : Int) (l4_25 : Int) : Int × Mem → Option ((Int × Mem) ⊕ (Mem))
  | (l5_26, M_27) =>
    if n32 (l5_26 + l4_25) < n32 (M_27 t 6) then
      (
        if n32 (iand l5_26 l4_25) = 0 then
          chk (0 ≤ (at_ + l5_26) ∧ (at_ + l5_26) < aJ 80 sets) <|
          chk (0 ≤ ((at_ + l5_26) + l4_25) ∧ ((at_ + l5_26) + l4_25) < aJ 80 sets) <|
          lt1 ((jor (M_27 sets (Int.toNat (at_ + l5_26))) (M_27 sets (Int.toNat ((at_ + l5_26) + l4_25))))) fun l6_53 =>
          lt1 (up M_27 sets (Int.toNat (at_ + l5_26)) l6_53) fun M_54 =>
          lt1 (up M_54 sets (Int.toNat ((at_ + l5_26) + l4_25)) l6_53) fun M_55 =>
          some M_55
        else
          some M_27
      ).bind fun M_35 =>
      lt1 (l5_26 + 1) fun l5_57 =>
      some (.inl (l5_57, M_35))
    else
      some (.inr M_27)
def T_forget (t : Nat) (sets : Nat) (at_ : Int) (fact : Int) (M : Mem) : Option (Mem) :=
  if n32 fact < 6 then
    lt1 ((ishl 1 fact)) fun l4_1 =>
    chk (0 ≤ fact ∧ fact < 6) <|
    lt1 ((fbI (Int.toNat fact))) fun l5_4 =>
    (it (T_forget_b21 t sets at_ l4_1 l5_4) FUEL (at_, M)).bind fun M_13 =>
    some M_13
  else
    lt1 ((ishl 1 (fact - 6))) fun l4_25 =>
    (it (T_forget_b84 t sets at_ l4_25) FUEL (0, M)).bind fun M_34 =>
    some M_34

def T_widen_b9 (t : Nat) (sets : Nat) (at_ : Int) (person : Int) : Int × Mem → Option ((Int × Mem) ⊕ (Mem))
  | (l4_2, M_3) =>
    if n32 l4_2 < n32 (M_3 t 0) then
      chk (0 ≤ person ∧ person < 8) <|
      (X_hasBit (M_3 (t + 2) (Int.toNat person)) l4_2 M_3).bind fun r_13 =>
      (
        if n32 r_13 = 0 then
          (T_forget t sets at_ l4_2 M_3).bind fun M_18 =>
          some M_18
        else
          some M_3
      ).bind fun M_14 =>
      lt1 (l4_2 + 1) fun l4_20 =>
      some (.inl (l4_20, M_14))
    else
      some (.inr M_3)
def T_widen (t : Nat) (sets : Nat) (at_ : Int) (person : Int) (M : Mem) : Option (Mem) :=
  (T_keepBase t sets at_ M).bind fun M_1 =>
  (it (T_widen_b9 t sets at_ person) FUEL (0, M_1)).bind fun M_10 =>
  (T_keepBase t sets at_ M_10).bind fun M_22 =>
  some M_22

def T_keepHeld (t : Nat) (sets : Nat) (at_ : Int) (person : Int) (M : Mem) : Option (Mem) :=
  (T_flip t sets at_ M).bind fun M_1 =>
  (T_widen t sets at_ person M_1).bind fun M_2 =>
  (T_flip t sets at_ M_2).bind fun M_3 =>
  some M_3

def S_change_b43 (ttown : Nat) (at_ : Int) : Int × Mem → Option ((Int × Mem) ⊕ (Mem))
  | (l5_3, M_4) =>
    if n32 l5_3 < n32 (M_4 ttown 6) then
      chk (0 ≤ (at_ + l5_3) ∧ (at_ + l5_3) < 100) <|
      (T_allOfWord ttown M_4).bind fun r_14 =>
      lt1 (up M_4 30 (Int.toNat (at_ + l5_3)) (jand (jxor (M_4 30 (Int.toNat (at_ + l5_3))) (-1)) r_14)) fun M_15 =>
      lt1 (l5_3 + 1) fun l5_16 =>
      some (.inl (l5_16, M_15))
    else
      some (.inr M_4)
def S_change (ttown : Nat) (sign : Int) (of_ : Int) (at_ : Int) (M : Mem) : Option (Mem) :=
  if n32 sign = 16 then
    (T_keepHeld ttown 30 at_ of_ M).bind fun M_1 =>
    some M_1
  else
    if n32 sign = 17 then
      (T_widen ttown 30 at_ of_ M).bind fun M_2 =>
      some M_2
    else
      (it (S_change_b43 ttown at_) FUEL (0, M)).bind fun M_11 =>
      some M_11

def S_putSet_b6 (ttown : Nat) (end_ : Int) : Int × Int × Mem → Option ((Int × Int × Mem) ⊕ (Mem))
  | (l4_1, l5_2, M_3) =>
    if n32 l5_2 < n32 end_ then
      chk (0 ≤ l5_2 ∧ l5_2 < 720) <|
      lt1 ((iand (M_3 29 (Int.toNat l5_2)) 255)) fun l6_13 =>
      lt1 ((ishr (M_3 29 (Int.toNat l5_2)) 8)) fun l7_14 =>
      (
        if (n32 l6_13 = 1) ∨ (n32 l6_13 = 5) then
          if n32 l4_1 < 25 then
            (S_push ttown l6_13 l7_14 (l4_1 * 4) M_3).bind fun M_20 =>
            lt1 (l4_1 + 1) fun l4_21 =>
            some (l4_21, M_20)
          else
            some (l4_1, M_3)
        else
          if (n32 l6_13 = 14) ∨ ((n32 l6_13 = 13) ∨ (n32 l6_13 = 12)) then
            if 1 < n32 l4_1 then
              lt1 (l4_1 + (-1)) fun l4_23 =>
              (S_join ttown l6_13 ((l4_23 - 1) * 4) M_3).bind fun M_24 =>
              some (l4_23, M_24)
            else
              some (l4_1, M_3)
          else
            if 0 < n32 l4_1 then
              (S_change ttown l6_13 l7_14 ((l4_1 - 1) * 4) M_3).bind fun M_26 =>
              some (l4_1, M_26)
            else
              some (l4_1, M_3)
      ).bind fun (l4_15, M_16) =>
      lt1 (l5_2 + 1) fun l5_42 =>
      some (.inl (l4_15, l5_42, M_16))
    else
      some (.inr M_3)
def S_putSet (ttown : Nat) (start : Int) (end_ : Int) (M : Mem) : Option (Mem) :=
  (it (S_putSet_b6 ttown end_) FUEL (0, start, M)).bind fun M_10 =>
  some M_10

def N_fillRows_b2 (holds_ : Int) : Int × Mem → Option ((Int × Mem) ⊕ (Mem))
  | (l2_1, M_2) =>
    chk (isTI (M_2 27 16)) <|
    lt1 (M_2 27 16).toNat fun t_11 =>
    if n32 l2_1 < n32 (M_2 t_11 2) then
      chk (0 ≤ l2_1 ∧ l2_1 < 12) <|
      (
        if n32 (M_2 37 (Int.toNat l2_1)) = n32 holds_ then
          (S_putSet t_11 (M_2 35 (Int.toNat l2_1)) (M_2 36 (Int.toNat l2_1)) M_2).bind fun M_19 =>
          chk (isTI (M_19 27 16)) <|
          lt1 (M_19 27 16).toNat fun t_21 =>
          chk ((0 : Int) ≤ 0 ∧ (0 : Int) ≤ (l2_1 * 4) ∧ (0 : Int) ≤ (M_19 t_21 6) ∧ 0 + (M_19 t_21 6) ≤ 100 ∧ (l2_1 * 4) + (M_19 t_21 6) ≤ 48) <|
          lt1 (cpy M_19 30 (t_21 + 9) (Int.toNat 0) (Int.toNat (l2_1 * 4)) (Int.toNat (M_19 t_21 6))) fun M_28 =>
          some M_28
        else
          some M_2
      ).bind fun M_15 =>
      lt1 (l2_1 + 1) fun l2_30 =>
      some (.inl (l2_30, M_15))
    else
      some (.inr M_2)
def N_fillRows (holds_ : Int) (M : Mem) : Option (Mem) :=
  (it (N_fillRows_b2 holds_) FUEL (0, M)).bind fun M_9 =>
  some M_9

def T_place (person : Int) (row : Int) (M : Mem) : Option (Int) :=
  some (((person * 12) + row) * 4)

def T_fillAnswers_b12 (t : Nat) (l1_1 : Int) : Int × Mem → Option ((Int × Mem) ⊕ (Mem))
  | (l2_10, M_11) =>
    if n32 l2_10 < n32 (M_11 t 2) then
      (T_place l1_1 l2_10 M_11).bind fun r_19 =>
      chk ((0 : Int) ≤ (l2_10 * 4) ∧ (0 : Int) ≤ r_19 ∧ (0 : Int) ≤ (M_11 t 6) ∧ (l2_10 * 4) + (M_11 t 6) ≤ 48 ∧ r_19 + (M_11 t 6) ≤ 384) <|
      lt1 (cpy M_11 (t + 9) (t + 10) (Int.toNat (l2_10 * 4)) (Int.toNat r_19) (Int.toNat (M_11 t 6))) fun M_25 =>
      (T_keepHeld t (t + 10) r_19 l1_1 M_25).bind fun M_26 =>
      chk ((0 : Int) ≤ (l2_10 * 4) ∧ (0 : Int) ≤ r_19 ∧ (0 : Int) ≤ (M_26 t 6) ∧ (l2_10 * 4) + (M_26 t 6) ≤ 48 ∧ r_19 + (M_26 t 6) ≤ 384) <|
      lt1 (cpy M_26 (t + 9) (t + 11) (Int.toNat (l2_10 * 4)) (Int.toNat r_19) (Int.toNat (M_26 t 6))) fun M_32 =>
      (T_widen t (t + 11) r_19 l1_1 M_32).bind fun M_33 =>
      (T_flip t (t + 11) r_19 M_33).bind fun M_34 =>
      lt1 (l2_10 + 1) fun l2_35 =>
      some (.inl (l2_35, M_34))
    else
      some (.inr M_11)

def T_fillAnswers_b2 (t : Nat) : Int × Mem → Option ((Int × Mem) ⊕ (Mem))
  | (l1_1, M_2) =>
    if n32 l1_1 < n32 (M_2 t 1) then
      (it (T_fillAnswers_b12 t l1_1) FUEL (0, M_2)).bind fun M_18 =>
      lt1 (l1_1 + 1) fun l1_37 =>
      some (.inl (l1_37, M_18))
    else
      some (.inr M_2)
def T_fillAnswers (t : Nat) (M : Mem) : Option (Mem) :=
  (it (T_fillAnswers_b2 t) FUEL (0, M)).bind fun M_9 =>
  some M_9

def N_settle_b46 : Int × Mem → Option ((Int × Mem) ⊕ (Mem))
  | (l1_12, M_13) =>
    chk (isTI (M_13 27 16)) <|
    lt1 (M_13 27 16).toNat fun t_22 =>
    if n32 l1_12 < n32 (M_13 t_22 6) then
      (T_allOfWord t_22 M_13).bind fun r_24 =>
      chk (0 ≤ l1_12 ∧ l1_12 < 4) <|
      lt1 (up M_13 (t_22 + 8) (Int.toNat l1_12) r_24) fun M_27 =>
      lt1 (l1_12 + 1) fun l1_28 =>
      some (.inl (l1_28, M_27))
    else
      some (.inr M_13)

def N_settle_b81 : Int × Mem → Option ((Int × Mem) ⊕ (Mem))
  | (l1_30, M_31) =>
    if n32 l1_30 < n32 (M_31 27 10) then
      chk (isTI (M_31 27 16)) <|
      lt1 (M_31 27 16).toNat fun t_40 =>
      chk (0 ≤ l1_30 ∧ l1_30 < 4) <|
      (S_putSet t_40 (M_31 38 (Int.toNat l1_30)) (M_31 39 (Int.toNat l1_30)) M_31).bind fun M_44 =>
      chk (isTI (M_44 27 16)) <|
      lt1 (M_44 27 16).toNat fun t_46 =>
      (T_keepBase t_46 30 0 M_44).bind fun M_48 =>
      chk (isTI (M_48 27 16)) <|
      lt1 (M_48 27 16).toNat fun t_50 =>
      chk ((0 : Int) ≤ 0 ∧ (0 : Int) ≤ 0 ∧ (0 : Int) ≤ (M_48 t_50 6) ∧ 0 + (M_48 t_50 6) ≤ 100 ∧ 0 + (M_48 t_50 6) ≤ 4) <|
      lt1 (cpy M_48 30 (t_50 + 8) (Int.toNat 0) (Int.toNat 0) (Int.toNat (M_48 t_50 6))) fun M_57 =>
      lt1 (l1_30 + 1) fun l1_58 =>
      some (.inl (l1_58, M_57))
    else
      some (.inr M_31)
def N_settle (M : Mem) : Option (Mem) :=
  chk (isTI (M 27 16)) <|
  lt1 (M 27 16).toNat fun t_2 =>
  (
    if n32 (M t_2 0) ≤ 6 then
      some (1 : Int)
    else
      some (ishl 1 ((M t_2 0) - 6))
  ).bind fun v_4 =>
  lt1 (up M t_2 6 v_4) fun M_9 =>
  (N_fillLaw M_9).bind fun M_10 =>
  (N_fillRows 0 M_10).bind fun M_11 =>
  (it (N_settle_b46) FUEL (0, M_11)).bind fun M_20 =>
  (it (N_settle_b81) FUEL (0, M_20)).bind fun M_38 =>
  (N_fillRows 1 M_38).bind fun M_60 =>
  chk (isTI (M_60 27 16)) <|
  lt1 (M_60 27 16).toNat fun t_62 =>
  (T_fillAnswers t_62 M_60).bind fun M_64 =>
  some M_64

def X_putFour_b3 (number : Int) : Int × Mem → Option ((Int × Mem) ⊕ (Mem))
  | (l2_1, M_2) =>
    if (0 ≤ n32 l2_1) ∧ (n32 (M_2 1 1) < 1600) then
      chk (0 ≤ (M_2 1 1) ∧ (M_2 1 1) < 1600) <|
      chk (-128 ≤ (i2b (ishr number l2_1)) ∧ (i2b (ishr number l2_1)) < 128) <|
      lt1 (up M_2 2 (Int.toNat (M_2 1 1)) (i2b (ishr number l2_1))) fun M_14 =>
      lt1 (up M_14 1 1 ((M_14 1 1) + 1)) fun M_15 =>
      lt1 (l2_1 + (-8)) fun l2_16 =>
      some (.inl (l2_16, M_15))
    else
      some (.inr M_2)
def X_putFour (number : Int) (M : Mem) : Option (Mem) :=
  (it (X_putFour_b3 number) FUEL (24, M)).bind fun M_9 =>
  some M_9

def X_feed (a : Int) (b : Int) (c : Int) (d : Int) (e : Int) (M : Mem) : Option (Int × Mem) :=
  if 1600 < n32 ((M 1 1) + 20) then
    some ((-1), M)
  else
    (X_putFour a M).bind fun M_1 =>
    (X_putFour b M_1).bind fun M_2 =>
    (X_putFour c M_2).bind fun M_3 =>
    (X_putFour d M_3).bind fun M_4 =>
    (X_putFour e M_4).bind fun M_5 =>
    some ((M_5 1 1), M_5)

def X_end (n_ : Int) (M : Mem) : Option (Int × Mem) :=
  if (n32 n_ < 0) ∨ (n32 (M 1 1) < n32 n_) then
    some ((-1), M)
  else
    lt1 (up M 1 1 n_) fun M_1 =>
    some (n_, M_1)

def JL_bitCount (a0 : Int) (M : Mem) : Option (Int) :=
  lt1 ((a0 - (jand (jushr a0 1) 6148914691236517205))) fun l0_1 =>
  lt1 (((jand l0_1 3689348814741910323) + (jand (jushr l0_1 2) 3689348814741910323))) fun l0_2 =>
  lt1 ((jand (l0_2 + (jushr l0_2 4)) 1085102592571150095)) fun l0_3 =>
  lt1 ((l0_3 + (jushr l0_3 8))) fun l0_4 =>
  lt1 ((l0_4 + (jushr l0_4 16))) fun l0_5 =>
  lt1 ((l0_5 + (jushr l0_5 32))) fun l0_6 =>
  some (iand (l2i l0_6) 127)

def X_sizeOfSet_b5 (sets : Nat) (at_ : Int) (words : Int) (M : Mem) : Int × Int → Option ((Int × Int) ⊕ (Int))
  | (l3_1, l4_2) =>
    if n32 l4_2 < n32 words then
      chk (0 ≤ (at_ + l4_2) ∧ (at_ + l4_2) < aJ 80 sets) <|
      (JL_bitCount (M sets (Int.toNat (at_ + l4_2))) M).bind fun r_17 =>
      lt1 ((l3_1 + r_17)) fun l3_18 =>
      lt1 (l4_2 + 1) fun l4_19 =>
      some (.inl (l3_18, l4_19))
    else
      some (.inr l3_1)
def X_sizeOfSet (sets : Nat) (at_ : Int) (words : Int) (M : Mem) : Option (Int) :=
  (it (X_sizeOfSet_b5 sets at_ words M) FUEL (0, 0)).bind fun l3_9 =>
  some l3_9

def T_size (t : Nat) (M : Mem) : Option (Int) :=
  (X_sizeOfSet (t + 8) 0 (M t 6) M).bind fun r_1 =>
  some r_1

def X_town_b72 : Int × Mem → Option ((Int × Mem) ⊕ (Mem))
  | (l3_17, M_18) =>
    if n32 l3_17 < 3 then
      chk (0 ≤ l3_17 ∧ l3_17 < 3) <|
      lt1 (50 + 7 * (Int.toNat l3_17)) fun s_28 =>
      lt1 (up M_18 s_28 1 0) fun M_29 =>
      lt1 (l3_17 + 1) fun l3_30 =>
      some (.inl (l3_30, M_29))
    else
      some (.inr M_18)
def X_town (M : Mem) : Option (Int × Mem) :=
  lt1 ((M 1 1)) fun l1_1 =>
  lt1 (up M 1 1 0) fun M_2 =>
  chk (isTI (M_2 1 3)) <|
  lt1 (M_2 1 3).toNat fun t_4 =>
  (N_readInto t_4 l1_1 M_2).bind fun M_6 =>
  if ¬ n32 (M_6 40 8) = 0 then
    some ((-1), M_6)
  else
    (N_settle M_6).bind fun M_7 =>
    chk (isTI (M_7 1 2)) <|
    lt1 (M_7 1 2).toNat fun t_9 =>
    chk (isTI (M_7 1 3)) <|
    lt1 (M_7 1 3).toNat fun t_12 =>
    lt1 (up M_7 1 2 ((t_12 : Nat) : Int)) fun M_14 =>
    lt1 (up M_14 1 3 ((t_9 : Nat) : Int)) fun M_15 =>
    lt1 (up M_15 42 0 0) fun M_16 =>
    (it (X_town_b72) FUEL (0, M_16)).bind fun M_25 =>
    chk (isTI (M_25 1 2)) <|
    lt1 (M_25 1 2).toNat fun t_33 =>
    (T_size t_33 M_25).bind fun r_35 =>
    some (r_35, M_25)

def X_fault (what : Int) (M : Mem) : Option (Int) :=
  if n32 what = 0 then
    some (M 40 8)
  else
    if n32 what = 1 then
      some (M 40 9)
    else
      some (-1)

def T_hasRow (t : Nat) (row : Int) (M : Mem) : Option (Int) :=
  if (0 ≤ n32 row) ∧ (n32 row < n32 (M t 2)) then
    some 1
  else
    some 0

def X_has (sets : Nat) (at_ : Int) (world : Int) (M : Mem) : Option (Int) :=
  chk (0 ≤ (at_ + (ishr world 6)) ∧ (at_ + (ishr world 6)) < aJ 80 sets) <|
  if ¬ n64 (jand (jushr (M sets (Int.toNat (at_ + (ishr world 6)))) (iand world 63)) 1) = n64 0 then
    some 1
  else
    some 0

def T_hasWorld (t : Nat) (world : Int) (M : Mem) : Option (Int) :=
  (
    if 0 ≤ n32 world then
      if n32 world < n32 (ishl 1 (M t 0)) then
        (X_has (t + 8) 0 world M).bind fun r_6 =>
        if ¬ n32 r_6 = 0 then
          some true
        else
          some false
      else
        some false
    else
      some false
  ).bind fun c_5 =>
  if c_5 = true then
    some 1
  else
    some 0

def T_canBe (t : Nat) (row : Int) (world : Int) (M : Mem) : Option (Int) :=
  (T_hasRow t row M).bind fun r_1 =>
  (
    if ¬ n32 r_1 = 0 then
      (T_hasWorld t world M).bind fun r_7 =>
      if ¬ n32 r_7 = 0 then
        some true
      else
        some false
    else
      some false
  ).bind fun c_6 =>
  if c_6 = true then
    some 1
  else
    some 0

def T_isSo (t : Nat) (row : Int) (world : Int) (M : Mem) : Option (Int) :=
  (X_has (t + 9) (row * 4) world M).bind fun r_1 =>
  chk (r_1 = 0 ∨ r_1 = 1) <|
  some r_1

def X_is (row : Int) (world : Int) (M : Mem) : Option (Int) :=
  chk (isTI (M 1 2)) <|
  lt1 (M 1 2).toNat fun t_2 =>
  (T_canBe t_2 row world M).bind fun r_4 =>
  if n32 r_4 = 0 then
    some (-1)
  else
    (T_isSo t_2 row world M).bind fun r_5 =>
    if ¬ n32 r_5 = 0 then
      some 1
    else
      some 0

def T_hasPerson (t : Nat) (person : Int) (M : Mem) : Option (Int) :=
  if (0 ≤ n32 person) ∧ (n32 person < n32 (M t 1)) then
    some 1
  else
    some 0

def T_answer (t : Nat) (person : Int) (row : Int) (world : Int) (M : Mem) : Option (Int) :=
  (T_place person row M).bind fun r_1 =>
  (X_has (t + 10) r_1 world M).bind fun r_2 =>
  if ¬ n32 r_2 = 0 then
    some 1
  else
    (X_has (t + 11) r_1 world M).bind fun r_3 =>
    if ¬ n32 r_3 = 0 then
      some 0
    else
      some 2

def X_answers (person : Int) (row : Int) (world : Int) (M : Mem) : Option (Int) :=
  chk (isTI (M 1 2)) <|
  lt1 (M 1 2).toNat fun t_2 =>
  (T_hasPerson t_2 person M).bind fun r_4 =>
  (
    if ¬ n32 r_4 = 0 then
      (T_canBe t_2 row world M).bind fun r_10 =>
      if n32 r_10 = 0 then
        some true
      else
        some false
    else
      some true
  ).bind fun c_9 =>
  if c_9 = true then
    some (-1)
  else
    (T_answer t_2 person row world M).bind fun r_11 =>
    some r_11

def T_hasPersons (t : Nat) (bits : Int) (M : Mem) : Option (Int) :=
  if (0 < n32 bits) ∧ (n32 bits < n32 (ishl 1 (M t 1))) then
    some 1
  else
    some 0

def JI_bitCount (a0 : Int) (M : Mem) : Option (Int) :=
  lt1 ((a0 - (iand (iushr a0 1) 1431655765))) fun l0_1 =>
  lt1 (((iand l0_1 858993459) + (iand (iushr l0_1 2) 858993459))) fun l0_2 =>
  lt1 ((iand (l0_2 + (iushr l0_2 4)) 252645135)) fun l0_3 =>
  lt1 ((l0_3 + (iushr l0_3 8))) fun l0_4 =>
  lt1 ((l0_4 + (iushr l0_4 16))) fun l0_5 =>
  some (iand l0_5 63)

def T_way (voices : Int) (apart : Int) (tied : Int) (thinks : Int) (M : Mem) : Option (Int) :=
  (
    if ¬ n32 apart = 0 then
      some (4 : Int)
    else
      some (0 : Int)
  ).bind fun v_1 =>
  (
    if ¬ n32 tied = 0 then
      some (2 : Int)
    else
      some (0 : Int)
  ).bind fun v_6 =>
  (
    if ¬ n32 thinks = 0 then
      some (1 : Int)
    else
      some (0 : Int)
  ).bind fun v_11 =>
  some (ior' (ior' (ior' (ishl (voices - 1) 3) v_1) v_6) v_11)

def T_mayLie_b6 (t : Nat) (bits : Int) (M : Mem) : Int × Int → Option ((Int × Int) ⊕ (Int))
  | (l4_1, l5_2) =>
    if n32 l5_2 < n32 (M t 1) then
      (X_hasBit bits l5_2 M).bind fun r_10 =>
      (
        (
          if ¬ n32 r_10 = 0 then
            chk (0 ≤ l5_2 ∧ l5_2 < 8) <|
            if ¬ n32 (iand bits (M (t + 3) (Int.toNat l5_2))) = 0 then
              some true
            else
              some false
          else
            some false
        ).bind fun c_19 =>
        if c_19 = true then
          some (1 : Int)
        else
          some (0 : Int)
      ).bind fun v_11 =>
      lt1 ((ior' l4_1 v_11)) fun l4_22 =>
      lt1 (l5_2 + 1) fun l5_23 =>
      some (.inl (l4_22, l5_23))
    else
      some (.inr l4_1)
def T_mayLie (t : Nat) (bits : Int) (apart : Int) (surely : Int) (M : Mem) : Option (Int) :=
  (it (T_mayLie_b6 t bits M) FUEL (0, 0)).bind fun l4_9 =>
  (JI_bitCount bits M).bind fun r_25 =>
  (
    if n32 surely = 0 then
      some (1 : Int)
    else
      some (0 : Int)
  ).bind fun v_26 =>
  (T_way r_25 apart l4_9 v_26 M).bind fun r_31 =>
  if ¬ n64 (jand (jushr (M t 7) r_31) 1) = n64 0 then
    some 1
  else
    some 0

def X_lies (persons : Int) (apart : Int) (surely : Int) (M : Mem) : Option (Int) :=
  chk (isTI (M 1 2)) <|
  lt1 (M 1 2).toNat fun t_2 =>
  (T_hasPersons t_2 persons M).bind fun r_4 =>
  if n32 r_4 = 0 then
    some (-1)
  else
    (T_mayLie t_2 persons apart surely M).bind fun r_5 =>
    if ¬ n32 r_5 = 0 then
      some 1
    else
      some 0

def T_putSayable_b60 (t : Nat) (surely : Int) (to_ : Nat) (at_ : Int) (r_28 : Int) : Int × Mem → Option ((Int × Mem) ⊕ (Mem))
  | (l9_29, M_30) =>
    if n32 l9_29 < n32 (M_30 t 6) then
      chk (0 ≤ (at_ + l9_29) ∧ (at_ + l9_29) < aJ 80 to_) <|
      (
        if ¬ n32 surely = 0 then
          chk (0 ≤ (r_28 + l9_29) ∧ (r_28 + l9_29) < 384) <|
          some (M_30 (t + 10) (Int.toNat (r_28 + l9_29)))
        else
          chk (0 ≤ (r_28 + l9_29) ∧ (r_28 + l9_29) < 384) <|
          some (jxor (M_30 (t + 11) (Int.toNat (r_28 + l9_29))) (-1))
      ).bind fun v_45 =>
      lt1 (up M_30 to_ (Int.toNat (at_ + l9_29)) (jand (M_30 to_ (Int.toNat (at_ + l9_29))) v_45)) fun M_54 =>
      lt1 (l9_29 + 1) fun l9_55 =>
      some (.inl (l9_55, M_54))
    else
      some (.inr M_30)

def T_putSayable_b31 (t : Nat) (bits : Int) (row : Int) (surely : Int) (to_ : Nat) (at_ : Int) : Int × Mem → Option ((Int × Mem) ⊕ (Mem))
  | (l7_14, M_15) =>
    if n32 l7_14 < n32 (M_15 t 1) then
      (X_hasBit bits l7_14 M_15).bind fun r_23 =>
      (
        if ¬ n32 r_23 = 0 then
          (T_place l7_14 row M_15).bind fun r_28 =>
          (it (T_putSayable_b60 t surely to_ at_ r_28) FUEL (0, M_15)).bind fun M_37 =>
          some M_37
        else
          some M_15
      ).bind fun M_24 =>
      lt1 (l7_14 + 1) fun l7_58 =>
      some (.inl (l7_58, M_24))
    else
      some (.inr M_15)
def T_putSayable (t : Nat) (bits : Int) (row : Int) (apart : Int) (surely : Int) (to_ : Nat) (at_ : Int) (M : Mem) : Option (Mem) :=
  chk ((0 : Int) ≤ 0 ∧ (0 : Int) ≤ at_ ∧ (0 : Int) ≤ (M t 6) ∧ 0 + (M t 6) ≤ 4 ∧ at_ + (M t 6) ≤ aJ 80 to_ ∧ 0 < aJ 80 to_) <|
  lt1 (cpy M (t + 8) to_ (Int.toNat 0) (Int.toNat at_) (Int.toNat (M t 6))) fun M_7 =>
  (T_mayLie t bits apart surely M_7).bind fun r_13 =>
  if ¬ n32 r_13 = 0 then
    some M_7
  else
    (it (T_putSayable_b31 t bits row surely to_ at_) FUEL (0, M_7)).bind fun M_22 =>
    some M_22

def X_may (persons : Int) (row : Int) (apart : Int) (surely : Int) (world : Int) (M : Mem) : Option (Int × Mem) :=
  chk (isTI (M 1 2)) <|
  lt1 (M 1 2).toNat fun t_2 =>
  (T_hasPersons t_2 persons M).bind fun r_4 =>
  (
    if ¬ n32 r_4 = 0 then
      (T_canBe t_2 row world M).bind fun r_10 =>
      if n32 r_10 = 0 then
        some true
      else
        some false
    else
      some true
  ).bind fun c_9 =>
  if c_9 = true then
    some ((-1), M)
  else
    (T_putSayable t_2 persons row apart surely 80 0 M).bind fun M_11 =>
    (X_has 80 0 world M_11).bind fun r_12 =>
    if ¬ n32 r_12 = 0 then
      some (1, M_11)
    else
      some (0, M_11)

def Y_add (s : Nat) (who : Int) (row : Int) (isSure : Int) (time : Int) (M : Mem) : Option (Mem) :=
  chk (0 ≤ (M s 0) ∧ (M s 0) < 40) <|
  lt1 (up M (s + 1) (Int.toNat (M s 0)) who) fun M_3 =>
  chk (0 ≤ (M_3 s 0) ∧ (M_3 s 0) < 40) <|
  lt1 (up M_3 (s + 2) (Int.toNat (M_3 s 0)) row) fun M_6 =>
  chk (0 ≤ (M_6 s 0) ∧ (M_6 s 0) < 40) <|
  chk (isSure = 0 ∨ isSure = 1) <|
  lt1 (up M_6 (s + 3) (Int.toNat (M_6 s 0)) isSure) fun M_10 =>
  chk (0 ≤ (M_10 s 0) ∧ (M_10 s 0) < 40) <|
  lt1 (up M_10 (s + 4) (Int.toNat (M_10 s 0)) time) fun M_13 =>
  chk (0 ≤ (M_13 s 0) ∧ (M_13 s 0) < 40) <|
  lt1 (up M_13 (s + 5) (Int.toNat (M_13 s 0)) (-1)) fun M_16 =>
  lt1 (up M_16 s 0 ((M_16 s 0) + 1)) fun M_17 =>
  some M_17

def X_say (persons : Int) (row : Int) (apart : Int) (surely : Int) (M : Mem) : Option (Int × Mem) :=
  lt1 ((M 42 0)) fun l5_1 =>
  chk (isTI (M 1 2)) <|
  lt1 (M 1 2).toNat fun t_3 =>
  (T_hasPersons t_3 persons M).bind fun r_5 =>
  (
    if ¬ n32 r_5 = 0 then
      (T_hasRow t_3 row M).bind fun r_11 =>
      if ¬ n32 r_11 = 0 then
        if 40 ≤ n32 l5_1 then
          some true
        else
          some false
      else
        some true
    else
      some true
  ).bind fun c_10 =>
  if c_10 = true then
    some ((-1), M)
  else
    (Y_add 42 persons row surely (M 1 12) M).bind fun M_12 =>
    chk (isTI (M_12 1 2)) <|
    lt1 (M_12 1 2).toNat fun t_14 =>
    (T_putSayable t_14 persons row apart surely 48 (l5_1 * 4) M_12).bind fun M_16 =>
    some (l5_1, M_16)

def X_untell (saying : Int) (M : Mem) : Option (Int × Mem) :=
  (
    if 0 ≤ n32 saying then
      if n32 saying < n32 (M 42 0) then
        chk (0 ≤ saying ∧ saying < 40) <|
        if ¬ n32 (M 47 (Int.toNat saying)) = (-1) then
          some true
        else
          some false
      else
        some true
    else
      some true
  ).bind fun c_5 =>
  if c_5 = true then
    some (0, M)
  else
    chk (0 ≤ saying ∧ saying < 40) <|
    lt1 (up M 47 (Int.toNat saying) (M 1 12)) fun M_10 =>
    some (1, M_10)

def X_later (by_ : Int) (M : Mem) : Option (Int × Mem) :=
  if (n32 by_ < 0) ∨ ((1000 < n32 by_) ∨ (100000 < n32 ((M 1 12) + by_))) then
    some ((-1), M)
  else
    lt1 (up M 1 12 ((M 1 12) + by_)) fun M_1 =>
    some ((M_1 1 12), M_1)

def Y_counts (s : Nat) (saying : Int) (k : Int) (M : Mem) : Option (Int) :=
  chk (0 ≤ saying ∧ saying < 40) <|
  (
    (
      if ¬ n32 (M (s + 5) (Int.toNat saying)) = (-1) then
        if n32 (M (s + 5) (Int.toNat saying)) ≤ n32 k then
          some true
        else
          some false
      else
        some false
    ).bind fun c_11 =>
    if c_11 = true then
      some (1 : Int)
    else
      some (0 : Int)
  ).bind fun v_3 =>
  if (n32 (M (s + 4) (Int.toNat saying)) ≤ n32 k) ∧ (n32 v_3 = 0) then
    some 1
  else
    some 0

def W_look_b90 (l4_13 : Int) : Int × Mem → Option ((Int × Mem) ⊕ (Mem))
  | (l5_32, M_33) =>
    chk (isTI (M_33 71 0)) <|
    lt1 (M_33 71 0).toNat fun t_42 =>
    if n32 l5_32 < n32 (M_33 t_42 6) then
      chk (0 ≤ l5_32 ∧ l5_32 < 4) <|
      chk (M_33 71 1 = ((42 : Nat) : Int)) <|
      chk (0 ≤ ((l4_13 * 4) + l5_32) ∧ ((l4_13 * 4) + l5_32) < 160) <|
      lt1 (up M_33 73 (Int.toNat l5_32) (jand (M_33 73 (Int.toNat l5_32)) (M_33 48 (Int.toNat ((l4_13 * 4) + l5_32))))) fun M_49 =>
      lt1 (l5_32 + 1) fun l5_50 =>
      some (.inl (l5_50, M_49))
    else
      some (.inr M_33)

def W_look_b41 (k : Int) : Int × Mem → Option ((Int × Mem) ⊕ (Mem))
  | (l4_13, M_14) =>
    chk (M_14 71 1 = ((42 : Nat) : Int)) <|
    if n32 l4_13 < n32 (M_14 42 0) then
      (Y_counts 42 l4_13 k M_14).bind fun r_23 =>
      (
        if ¬ n32 r_23 = 0 then
          chk (0 ≤ (M_14 71 3) ∧ (M_14 71 3) < 40) <|
          lt1 (up M_14 72 (Int.toNat (M_14 71 3)) l4_13) fun M_30 =>
          lt1 (up M_30 71 3 ((M_30 71 3) + 1)) fun M_31 =>
          (it (W_look_b90 l4_13) FUEL (0, M_31)).bind fun M_40 =>
          some M_40
        else
          some M_14
      ).bind fun M_24 =>
      lt1 (l4_13 + 1) fun l4_53 =>
      some (.inl (l4_53, M_24))
    else
      some (.inr M_14)
def W_look (tat_ : Nat) (k : Int) (M : Mem) : Option (Mem) :=
  lt1 (up M 71 0 ((tat_ : Nat) : Int)) fun M_1 =>
  lt1 (up M_1 71 1 ((42 : Nat) : Int)) fun M_2 =>
  lt1 (up M_2 71 3 0) fun M_3 =>
  chk (isTI (M_3 71 0)) <|
  lt1 (M_3 71 0).toNat fun t_5 =>
  chk ((0 : Int) ≤ 0 ∧ (0 : Int) ≤ 0 ∧ (0 : Int) ≤ (M_3 t_5 6) ∧ 0 + (M_3 t_5 6) ≤ 4 ∧ 0 + (M_3 t_5 6) ≤ 4) <|
  lt1 (cpy M_3 (t_5 + 8) 73 (Int.toNat 0) (Int.toNat 0) (Int.toNat (M_3 t_5 6))) fun M_12 =>
  (it (W_look_b41 k) FUEL (0, M_12)).bind fun M_21 =>
  chk (isTI (M_21 71 0)) <|
  lt1 (M_21 71 0).toNat fun t_56 =>
  (X_sizeOfSet 73 0 (M_21 t_56 6) M_21).bind fun r_58 =>
  lt1 (up M_21 71 5 r_58) fun M_59 =>
  some M_59

def X_left (k : Int) (M : Mem) : Option (Int × Mem) :=
  chk (isTI (M 1 2)) <|
  lt1 (M 1 2).toNat fun t_2 =>
  (W_look t_2 k M).bind fun M_4 =>
  some ((M_4 71 5), M_4)

def X_world_b38 (i : Int) (M_4 : Mem) : Int × Int → Option ((Int × Int) ⊕ ((Unit) ⊕ (Int × Mem)))
  | (l3_5, l4_6) =>
    chk (isTI (M_4 1 2)) <|
    lt1 (M_4 1 2).toNat fun t_14 =>
    if n32 l4_6 < n32 (ishl 1 (M_4 t_14 0)) then
      (X_has 73 0 l4_6 M_4).bind fun r_16 =>
      jn (fun (l3_17 : Int) =>
        lt1 (l4_6 + 1) fun l4_24 =>
        some (.inl (l3_17, l4_24))
      ) fun j_18 =>
      if ¬ n32 r_16 = 0 then
        if n32 l3_5 = n32 i then
          some (.inr (.inr (l4_6, M_4)))
        else
          lt1 (l3_5 + 1) fun l3_21 =>
          j_18 l3_21
      else
        j_18 l3_5
    else
      some (.inr (.inl ()))
def X_world (i : Int) (k : Int) (M : Mem) : Option (Int × Mem) :=
  chk (isTI (M 1 2)) <|
  lt1 (M 1 2).toNat fun t_2 =>
  (W_look t_2 k M).bind fun M_4 =>
  if (n32 i < 0) ∨ (n32 (M_4 71 5) ≤ n32 i) then
    some ((-1), M_4)
  else
    (it (X_world_b38 i M_4) FUEL (0, 0)).bind fun x => match x with
    | .inl _ =>
      some ((-1), M_4)
    | .inr rv_26 => some rv_26

def W_sizeWith_b5 (sets : Nat) (at_ : Int) (M : Mem) : Int × Int → Option ((Int × Int) ⊕ (Int))
  | (l3_1, l4_2) =>
    chk (isTI (M 71 0)) <|
    lt1 (M 71 0).toNat fun t_11 =>
    if n32 l4_2 < n32 (M t_11 6) then
      chk (0 ≤ l4_2 ∧ l4_2 < 4) <|
      chk (0 ≤ (at_ + l4_2) ∧ (at_ + l4_2) < aJ 80 sets) <|
      (JL_bitCount (jand (M 73 (Int.toNat l4_2)) (M sets (Int.toNat (at_ + l4_2)))) M).bind fun r_22 =>
      lt1 ((l3_1 + r_22)) fun l3_23 =>
      lt1 (l4_2 + 1) fun l4_24 =>
      some (.inl (l3_23, l4_24))
    else
      some (.inr l3_1)
def W_sizeWith (sets : Nat) (at_ : Int) (M : Mem) : Option (Int) :=
  (it (W_sizeWith_b5 sets at_ M) FUEL (0, 0)).bind fun l3_9 =>
  some l3_9

def W_sizeOf (row : Int) (M : Mem) : Option (Int) :=
  chk (isTI (M 71 0)) <|
  lt1 (M 71 0).toNat fun t_2 =>
  (W_sizeWith (t_2 + 9) (row * 4) M).bind fun r_4 =>
  some r_4

def X_sure (row : Int) (k : Int) (M : Mem) : Option (Int × Mem) :=
  chk (isTI (M 1 2)) <|
  lt1 (M 1 2).toNat fun t_2 =>
  (W_look t_2 k M).bind fun M_4 =>
  chk (isTI (M_4 1 2)) <|
  lt1 (M_4 1 2).toNat fun t_6 =>
  (T_hasRow t_6 row M_4).bind fun r_8 =>
  if (n32 r_8 = 0) ∨ (n32 (M_4 71 5) = 0) then
    some ((-1), M_4)
  else
    (W_sizeOf row M_4).bind fun r_9 =>
    if n32 r_9 = 0 then
      some (0, M_4)
    else
      if n32 r_9 = n32 (M_4 71 5) then
        some (1, M_4)
      else
        some ((-2), M_4)

def W_proves_b45 (set_ : Int) (M : Mem) (l3_1 : Int) : Int × Int → Option ((Int × Int) ⊕ (Int))
  | (l4_16, l6_17) =>
    if n32 l6_17 < n32 (M 71 3) then
      (X_hasBit set_ l6_17 M).bind fun r_25 =>
      (
        if ¬ n32 r_25 = 0 then
          chk (M 71 1 = ((42 : Nat) : Int)) <|
          chk (0 ≤ l6_17 ∧ l6_17 < 40) <|
          chk (0 ≤ (((M 72 (Int.toNat l6_17)) * 4) + l3_1) ∧ (((M 72 (Int.toNat l6_17)) * 4) + l3_1) < 160) <|
          lt1 ((jand l4_16 (M 48 (Int.toNat (((M 72 (Int.toNat l6_17)) * 4) + l3_1))))) fun l4_35 =>
          some l4_35
        else
          some l4_16
      ).bind fun l4_26 =>
      lt1 (l6_17 + 1) fun l6_37 =>
      some (.inl (l4_26, l6_37))
    else
      some (.inr l4_16)

def W_proves_b2 (set_ : Int) (row : Int) (M : Mem) : Int → Option ((Int) ⊕ ((Unit) ⊕ (Int)))
  | l3_1 =>
    chk (isTI (M 71 0)) <|
    lt1 (M 71 0).toNat fun t_9 =>
    if n32 l3_1 < n32 (M t_9 6) then
      chk (0 ≤ l3_1 ∧ l3_1 < 4) <|
      chk (0 ≤ ((row * 4) + l3_1) ∧ ((row * 4) + l3_1) < 48) <|
      lt1 ((jand (M (t_9 + 8) (Int.toNat l3_1)) (jxor (M (t_9 + 9) (Int.toNat ((row * 4) + l3_1))) (-1)))) fun l4_15 =>
      (it (W_proves_b45 set_ M l3_1) FUEL (l4_15, 0)).bind fun l4_24 =>
      if ¬ n64 l4_24 = n64 0 then
        some (.inr (.inr 0))
      else
        lt1 (l3_1 + 1) fun l3_39 =>
        some (.inl l3_39)
    else
      some (.inr (.inl ()))
def W_proves (set_ : Int) (row : Int) (M : Mem) : Option (Int) :=
  (it (W_proves_b2 set_ row M) FUEL 0).bind fun x => match x with
  | .inl _ =>
    some 1
  | .inr rv_42 => some rv_42

def W_fewestProving_b8 (row : Int) (M : Mem) : Int × Int × Int → Option ((Int × Int × Int) ⊕ (Int))
  | (l2_1, l3_2, l4_3) =>
    if n32 l4_3 < n32 (ishl 1 (M 71 3)) then
      (JI_bitCount l4_3 M).bind fun r_11 =>
      (
        (
          if n32 r_11 < n32 l3_2 then
            (W_proves l4_3 row M).bind fun r_22 =>
            if ¬ n32 r_22 = 0 then
              some true
            else
              some false
          else
            some false
        ).bind fun c_21 =>
        if c_21 = true then
          some (l4_3, r_11)
        else
          some (l2_1, l3_2)
      ).bind fun (l2_12, l3_13) =>
      lt1 (l4_3 + 1) fun l4_23 =>
      some (.inl (l2_12, l3_13, l4_23))
    else
      some (.inr l2_1)
def W_fewestProving (row : Int) (M : Mem) : Option (Int) :=
  (it (W_fewestProving_b8 row M) FUEL ((-1), 11, 0)).bind fun l2_10 =>
  some l2_10

def X_proof (row : Int) (k : Int) (M : Mem) : Option (Int × Mem) :=
  chk (isTI (M 1 2)) <|
  lt1 (M 1 2).toNat fun t_2 =>
  (W_look t_2 k M).bind fun M_4 =>
  chk (isTI (M_4 1 2)) <|
  lt1 (M_4 1 2).toNat fun t_6 =>
  (T_hasRow t_6 row M_4).bind fun r_8 =>
  (
    if ¬ n32 r_8 = 0 then
      if ¬ n32 (M_4 71 5) = 0 then
        (W_sizeOf row M_4).bind fun r_14 =>
        if ¬ n32 r_14 = n32 (M_4 71 5) then
          some true
        else
          some false
      else
        some true
    else
      some true
  ).bind fun c_13 =>
  if c_13 = true then
    some ((-1), M_4)
  else
    if 10 < n32 (M_4 71 3) then
      some ((-2), M_4)
    else
      (W_fewestProving row M_4).bind fun r_15 =>
      some (r_15, M_4)

def X_judge_b32 (world : Int) (M_5 : Mem) : Int → Option ((Int) ⊕ ((Unit) ⊕ (Int × Mem)))
  | l3_6 =>
    if n32 l3_6 < n32 (M_5 71 3) then
      chk (0 ≤ l3_6 ∧ l3_6 < 40) <|
      lt1 ((M_5 72 (Int.toNat l3_6))) fun l4_15 =>
      (X_has 48 (l4_15 * 4) world M_5).bind fun r_16 =>
      if n32 r_16 = 0 then
        some (.inr (.inr (l4_15, M_5)))
      else
        lt1 (l3_6 + 1) fun l3_17 =>
        some (.inl l3_17)
    else
      some (.inr (.inl ()))
def X_judge (world : Int) (k : Int) (M : Mem) : Option (Int × Mem) :=
  chk (isTI (M 1 2)) <|
  lt1 (M 1 2).toNat fun t_2 =>
  (T_hasWorld t_2 world M).bind fun r_4 =>
  if n32 r_4 = 0 then
    some ((-2), M)
  else
    (W_look t_2 k M).bind fun M_5 =>
    (it (X_judge_b32 world M_5) FUEL 0).bind fun x => match x with
    | .inl _ =>
      some ((-1), M_5)
    | .inr rv_20 => some rv_20

def A_choose_b26 (l3_3 : Int) : Int × Mem → Option ((Int × Mem) ⊕ (Mem))
  | (l4_15, M_16) =>
    chk (isTI (M_16 74 0)) <|
    lt1 (M_16 74 0).toNat fun t_25 =>
    if n32 l4_15 < n32 (M_16 t_25 2) then
      (T_place l3_3 l4_15 M_16).bind fun r_27 =>
      (W_sizeWith (t_25 + 10) r_27 M_16).bind fun r_28 =>
      (W_sizeWith (t_25 + 11) r_27 M_16).bind fun r_29 =>
      lt1 ((imax (imax r_28 r_29) (((M_16 71 5) - r_28) - r_29))) fun l8_30 =>
      (
        jn (fun (_ : Unit) =>
          lt1 (up M_16 74 1 l3_3) fun M_53 =>
          lt1 (up M_53 74 2 l4_15) fun M_54 =>
          lt1 (up M_54 74 3 l8_30) fun M_55 =>
          some M_55
        ) fun j_35 =>
        if (¬ n32 (M_16 74 1) = (-1)) ∧ (n32 (M_16 74 3) ≤ n32 l8_30) then
          (
            if n32 l8_30 = n32 (M_16 74 3) then
              chk (0 ≤ l3_3 ∧ l3_3 < 8) <|
              chk (0 ≤ (M_16 74 1) ∧ (M_16 74 1) < 8) <|
              if n32 (M_16 (t_25 + 1) (Int.toNat l3_3)) < n32 (M_16 (t_25 + 1) (Int.toNat (M_16 74 1))) then
                some true
              else
                some false
            else
              some false
          ).bind fun c_42 =>
          if c_42 = true then
            j_35 ()
          else
            some M_16
        else
          j_35 ()
      ).bind fun M_31 =>
      lt1 (l4_15 + 1) fun l4_56 =>
      some (.inl (l4_56, M_31))
    else
      some (.inr M_16)

def A_choose_b12 : Int × Mem → Option ((Int × Mem) ⊕ (Mem))
  | (l3_3, M_4) =>
    chk (isTI (M_4 74 0)) <|
    lt1 (M_4 74 0).toNat fun t_13 =>
    if n32 l3_3 < n32 (M_4 t_13 1) then
      (it (A_choose_b26 l3_3) FUEL (0, M_4)).bind fun M_23 =>
      lt1 (l3_3 + 1) fun l3_58 =>
      some (.inl (l3_58, M_23))
    else
      some (.inr M_4)
def A_choose (tat_ : Nat) (M : Mem) : Option (Mem) :=
  lt1 (up M 74 0 ((tat_ : Nat) : Int)) fun M_1 =>
  lt1 (up M_1 74 1 (-1)) fun M_2 =>
  (it (A_choose_b12) FUEL (0, M_2)).bind fun M_11 =>
  some M_11

def X_next (what : Int) (k : Int) (M : Mem) : Option (Int × Mem) :=
  chk (isTI (M 1 2)) <|
  lt1 (M 1 2).toNat fun t_2 =>
  (W_look t_2 k M).bind fun M_4 =>
  (
    if 0 ≤ n32 what then
      if n32 what ≤ 2 then
        chk (isTI (M_4 1 2)) <|
        lt1 (M_4 1 2).toNat fun t_11 =>
        if ¬ n32 (M_4 t_11 1) = 0 then
          if ¬ n32 (M_4 t_11 2) = 0 then
            if n32 (M_4 71 5) = 0 then
              some true
            else
              some false
          else
            some true
        else
          some true
      else
        some true
    else
      some true
  ).bind fun c_9 =>
  if c_9 = true then
    some ((-1), M_4)
  else
    chk (isTI (M_4 1 2)) <|
    lt1 (M_4 1 2).toNat fun t_14 =>
    (A_choose t_14 M_4).bind fun M_16 =>
    if n32 what = 0 then
      some ((M_16 74 1), M_16)
    else
      if n32 what = 1 then
        some ((M_16 74 2), M_16)
      else
        some ((M_16 74 3), M_16)

def A_isTold_b7 (at_ : Int) (M : Mem) : Int × Int × Int → Option ((Int × Int × Int) ⊕ (Int × Int))
  | (l2_1, l3_2, l4_3) =>
    chk (isTI (M 74 0)) <|
    lt1 (M 74 0).toNat fun t_13 =>
    if n32 l4_3 < n32 (M t_13 6) then
      chk (0 ≤ (at_ + l4_3) ∧ (at_ + l4_3) < 16) <|
      lt1 ((M 75 (Int.toNat (at_ + l4_3)))) fun l5_17 =>
      chk (0 ≤ ((M 74 4) + l4_3) ∧ ((M 74 4) + l4_3) < 48) <|
      (
        if ¬ n64 (jand l5_17 (M (t_13 + 9) (Int.toNat ((M 74 4) + l4_3)))) = n64 0 then
          some (1 : Int)
        else
          some (0 : Int)
      ).bind fun v_20 =>
      lt1 ((ior' l2_1 v_20)) fun l2_25 =>
      (
        if ¬ n64 (jand l5_17 (jxor (M (t_13 + 9) (Int.toNat ((M 74 4) + l4_3))) (-1))) = n64 0 then
          some (1 : Int)
        else
          some (0 : Int)
      ).bind fun v_26 =>
      lt1 ((ior' l3_2 v_26)) fun l3_31 =>
      lt1 (l4_3 + 1) fun l4_32 =>
      some (.inl (l2_25, l3_31, l4_32))
    else
      some (.inr (l2_1, l3_2))
def A_isTold (at_ : Int) (M : Mem) : Option (Int) :=
  (it (A_isTold_b7 at_ M) FUEL (0, 0, 0)).bind fun (l2_10, l3_11) =>
  if (n32 l2_10 = 0) ∨ (n32 l3_11 = 0) then
    some 1
  else
    some 0

def A_answersIn (set_ : Int) (yes : Int) (no : Int) (M : Mem) : Option (Int) :=
  (
    if ¬ n64 (jand set_ yes) = n64 0 then
      some (1 : Int)
    else
      some (0 : Int)
  ).bind fun v_1 =>
  (
    if ¬ n64 (jand set_ no) = n64 0 then
      some (2 : Int)
    else
      some (0 : Int)
  ).bind fun v_6 =>
  (
    if ¬ n64 (jand set_ (jxor (jor yes no) (-1))) = n64 0 then
      some (4 : Int)
    else
      some (0 : Int)
  ).bind fun v_11 =>
  some (ior' (ior' v_1 v_6) v_11)

def A_tells_b8 (at_ : Int) (place : Int) (M : Mem) : Int × Int × Int → Option ((Int × Int × Int) ⊕ ((Unit) ⊕ (Int)))
  | (l3_1, l4_2, l5_3) =>
    chk (isTI (M 74 0)) <|
    lt1 (M 74 0).toNat fun t_11 =>
    if n32 l5_3 < n32 (M t_11 6) then
      chk (0 ≤ (at_ + l5_3) ∧ (at_ + l5_3) < 16) <|
      lt1 ((M 75 (Int.toNat (at_ + l5_3)))) fun l6_15 =>
      chk (0 ≤ (place + l5_3) ∧ (place + l5_3) < 384) <|
      lt1 ((M (t_11 + 10) (Int.toNat (place + l5_3)))) fun l8_18 =>
      lt1 ((M (t_11 + 11) (Int.toNat (place + l5_3)))) fun l10_19 =>
      chk (0 ≤ ((M 74 4) + l5_3) ∧ ((M 74 4) + l5_3) < 48) <|
      (A_answersIn (jand l6_15 (M (t_11 + 9) (Int.toNat ((M 74 4) + l5_3)))) l8_18 l10_19 M).bind fun r_22 =>
      lt1 ((ior' l3_1 r_22)) fun l3_23 =>
      (A_answersIn (jand l6_15 (jxor (M (t_11 + 9) (Int.toNat ((M 74 4) + l5_3))) (-1))) l8_18 l10_19 M).bind fun r_24 =>
      lt1 ((ior' l4_2 r_24)) fun l4_25 =>
      if ¬ n32 (iand l3_23 l4_25) = 0 then
        some (.inr (.inr 0))
      else
        lt1 (l5_3 + 1) fun l5_26 =>
        some (.inl (l3_23, l4_25, l5_26))
    else
      some (.inr (.inl ()))
def A_tells (at_ : Int) (place : Int) (M : Mem) : Option (Int) :=
  (it (A_tells_b8 at_ place M) FUEL (0, 0, 0)).bind fun x => match x with
  | .inl _ =>
    some 1
  | .inr rv_29 => some rv_29

def A_oneIsEnough_b15 (at_ : Int) (M : Mem) (l2_1 : Int) (t_9 : Nat) : Int → Option ((Int) ⊕ ((Unit) ⊕ (Int)))
  | l3_11 =>
    if n32 l3_11 < n32 (M t_9 2) then
      (T_place l2_1 l3_11 M).bind fun r_18 =>
      (A_tells at_ r_18 M).bind fun r_19 =>
      if ¬ n32 r_19 = 0 then
        some (.inr (.inr 1))
      else
        lt1 (l3_11 + 1) fun l3_20 =>
        some (.inl l3_20)
    else
      some (.inr (.inl ()))

def A_oneIsEnough_b2 (at_ : Int) (M : Mem) : Int → Option ((Int) ⊕ ((Unit) ⊕ (Int)))
  | l2_1 =>
    chk (isTI (M 74 0)) <|
    lt1 (M 74 0).toNat fun t_9 =>
    if n32 l2_1 < n32 (M t_9 1) then
      (it (A_oneIsEnough_b15 at_ M l2_1 t_9) FUEL 0).bind fun x => match x with
      | .inl _ =>
        lt1 (l2_1 + 1) fun l2_23 =>
        some (.inl l2_23)
      | .inr rv_24 => some (.inr (.inr rv_24))
    else
      some (.inr (.inl ()))
def A_oneIsEnough (at_ : Int) (M : Mem) : Option (Int) :=
  (it (A_oneIsEnough_b2 at_ M) FUEL 0).bind fun x => match x with
  | .inl _ =>
    some 0
  | .inr rv_26 => some rv_26

def A_split_b2 (place : Int) : Int × Mem → Option ((Int × Mem) ⊕ (Mem))
  | (l2_1, M_2) =>
    chk (isTI (M_2 74 0)) <|
    lt1 (M_2 74 0).toNat fun t_11 =>
    if n32 l2_1 < n32 (M_2 t_11 6) then
      chk (0 ≤ l2_1 ∧ l2_1 < 16) <|
      chk (0 ≤ (place + l2_1) ∧ (place + l2_1) < 384) <|
      lt1 ((jand (M_2 75 (Int.toNat l2_1)) (M_2 (t_11 + 10) (Int.toNat (place + l2_1))))) fun l3_17 =>
      lt1 ((jand (M_2 75 (Int.toNat l2_1)) (M_2 (t_11 + 11) (Int.toNat (place + l2_1))))) fun l5_18 =>
      chk (0 ≤ (4 + l2_1) ∧ (4 + l2_1) < 16) <|
      lt1 (up M_2 75 (Int.toNat (4 + l2_1)) l3_17) fun M_21 =>
      chk (0 ≤ (8 + l2_1) ∧ (8 + l2_1) < 16) <|
      lt1 (up M_21 75 (Int.toNat (8 + l2_1)) l5_18) fun M_24 =>
      chk (0 ≤ (12 + l2_1) ∧ (12 + l2_1) < 16) <|
      lt1 (up M_24 75 (Int.toNat (12 + l2_1)) (jand (M_24 75 (Int.toNat l2_1)) (jxor (jor l3_17 l5_18) (-1)))) fun M_27 =>
      lt1 (l2_1 + 1) fun l2_28 =>
      some (.inl (l2_28, M_27))
    else
      some (.inr M_2)
def A_split (place : Int) (M : Mem) : Option (Mem) :=
  (it (A_split_b2 place) FUEL (0, M)).bind fun M_9 =>
  some M_9

def A_isWhole_b2 (at_ : Int) (M : Mem) : Int → Option ((Int) ⊕ ((Unit) ⊕ (Int)))
  | l2_1 =>
    chk (isTI (M 74 0)) <|
    lt1 (M 74 0).toNat fun t_9 =>
    if n32 l2_1 < n32 (M t_9 6) then
      chk (0 ≤ (at_ + l2_1) ∧ (at_ + l2_1) < 16) <|
      chk (0 ≤ l2_1 ∧ l2_1 < 16) <|
      if ¬ n64 (M 75 (Int.toNat (at_ + l2_1))) = n64 (M 75 (Int.toNat l2_1)) then
        some (.inr (.inr 0))
      else
        lt1 (l2_1 + 1) fun l2_15 =>
        some (.inl l2_15)
    else
      some (.inr (.inl ()))
def A_isWhole (at_ : Int) (M : Mem) : Option (Int) :=
  (it (A_isWhole_b2 at_ M) FUEL 0).bind fun x => match x with
  | .inl _ =>
    some 1
  | .inr rv_18 => some rv_18

def A_eachIsTold_b2 (M : Mem) : Int → Option ((Int) ⊕ ((Unit) ⊕ (Int)))
  | l1_1 =>
    if n32 l1_1 ≤ 12 then
      (A_isTold l1_1 M).bind fun r_8 =>
      jn (fun (_ : Unit) =>
        lt1 (l1_1 + 4) fun l1_20 =>
        some (.inl l1_20)
      ) fun j_9 =>
      if n32 r_8 = 0 then
        (A_isWhole l1_1 M).bind fun r_12 =>
        (
          if n32 r_12 = 0 then
            (A_oneIsEnough l1_1 M).bind fun r_18 =>
            if n32 r_18 = 0 then
              some true
            else
              some false
          else
            some true
        ).bind fun c_17 =>
        if c_17 = true then
          some (.inr (.inr 0))
        else
          j_9 ()
      else
        j_9 ()
    else
      some (.inr (.inl ()))
def A_eachIsTold (M : Mem) : Option (Int) :=
  (it (A_eachIsTold_b2 M) FUEL 4).bind fun x => match x with
  | .inl _ =>
    some 1
  | .inr rv_22 => some rv_22

def A_twoAreEnough_b15 (l1_1 : Int) : Int × Mem → Option ((Int × Mem) ⊕ ((Mem) ⊕ (Int × Mem)))
  | (l2_13, M_14) =>
    chk (isTI (M_14 74 0)) <|
    lt1 (M_14 74 0).toNat fun t_23 =>
    if n32 l2_13 < n32 (M_14 t_23 2) then
      (T_place l1_1 l2_13 M_14).bind fun r_25 =>
      (A_split r_25 M_14).bind fun M_26 =>
      (A_eachIsTold M_26).bind fun r_27 =>
      if ¬ n32 r_27 = 0 then
        some (.inr (.inr (1, M_26)))
      else
        lt1 (l2_13 + 1) fun l2_28 =>
        some (.inl (l2_28, M_26))
    else
      some (.inr (.inl M_14))

def A_twoAreEnough_b2 : Int × Mem → Option ((Int × Mem) ⊕ ((Mem) ⊕ (Int × Mem)))
  | (l1_1, M_2) =>
    chk (isTI (M_2 74 0)) <|
    lt1 (M_2 74 0).toNat fun t_11 =>
    if n32 l1_1 < n32 (M_2 t_11 1) then
      (it (A_twoAreEnough_b15 l1_1) FUEL (0, M_2)).bind fun x => match x with
      | .inl M_21 =>
        lt1 (l1_1 + 1) fun l1_31 =>
        some (.inl (l1_31, M_21))
      | .inr rv_32 => some (.inr (.inr rv_32))
    else
      some (.inr (.inl M_2))
def A_twoAreEnough (M : Mem) : Option (Int × Mem) :=
  (it (A_twoAreEnough_b2) FUEL (0, M)).bind fun x => match x with
  | .inl M_9 =>
    some (0, M_9)
  | .inr rv_34 => some rv_34

def A_countAskings (tat_ : Nat) (about : Int) (M : Mem) : Option (Int × Mem) :=
  lt1 (up M 74 0 ((tat_ : Nat) : Int)) fun M_1 =>
  lt1 (up M_1 74 4 (about * 4)) fun M_2 =>
  chk (isTI (M_2 74 0)) <|
  lt1 (M_2 74 0).toNat fun t_4 =>
  chk ((0 : Int) ≤ 0 ∧ (0 : Int) ≤ 0 ∧ (0 : Int) ≤ (M_2 t_4 6) ∧ 0 + (M_2 t_4 6) ≤ 4 ∧ 0 + (M_2 t_4 6) ≤ 16) <|
  lt1 (cpy M_2 73 75 (Int.toNat 0) (Int.toNat 0) (Int.toNat (M_2 t_4 6))) fun M_11 =>
  (A_isTold 0 M_11).bind fun r_12 =>
  if ¬ n32 r_12 = 0 then
    some (0, M_11)
  else
    (A_oneIsEnough 0 M_11).bind fun r_13 =>
    if ¬ n32 r_13 = 0 then
      some (1, M_11)
    else
      (A_twoAreEnough M_11).bind fun (r_14, M_15) =>
      if ¬ n32 r_14 = 0 then
        some (2, M_15)
      else
        some ((-1), M_15)

def X_askings (row : Int) (k : Int) (M : Mem) : Option (Int × Mem) :=
  chk (isTI (M 1 2)) <|
  lt1 (M 1 2).toNat fun t_2 =>
  (W_look t_2 k M).bind fun M_4 =>
  chk (isTI (M_4 1 2)) <|
  lt1 (M_4 1 2).toNat fun t_6 =>
  (T_hasRow t_6 row M_4).bind fun r_8 =>
  if (n32 r_8 = 0) ∨ (n32 (M_4 71 5) = 0) then
    some ((-2), M_4)
  else
    (A_countAskings t_6 row M_4).bind fun (r_9, M_10) =>
    some (r_9, M_10)

def T_fooled_b6 (t : Nat) (liars : Int) (row : Int) (world : Int) (M : Mem) : Int × Int → Option ((Int × Int) ⊕ (Int))
  | (l4_1, l5_2) =>
    if n32 l5_2 < n32 (M t 1) then
      (X_hasBit liars l5_2 M).bind fun r_10 =>
      (
        (
          if n32 r_10 = 0 then
            (T_answer t l5_2 row world M).bind fun r_20 =>
            if ¬ n32 r_20 = 0 then
              some true
            else
              some false
          else
            some false
        ).bind fun c_19 =>
        if c_19 = true then
          lt1 (l4_1 + 1) fun l4_21 =>
          some l4_21
        else
          some l4_1
      ).bind fun l4_11 =>
      lt1 (l5_2 + 1) fun l5_22 =>
      some (.inl (l4_11, l5_22))
    else
      some (.inr l4_1)
def T_fooled (t : Nat) (liars : Int) (row : Int) (world : Int) (M : Mem) : Option (Int) :=
  (it (T_fooled_b6 t liars row world M) FUEL (0, 0)).bind fun l4_9 =>
  some l4_9

def X_lasts (a : Int) (b : Int) (row : Int) (world : Int) (M : Mem) : Option (Int) :=
  chk (isTI (M 1 2)) <|
  lt1 (M 1 2).toNat fun t_2 =>
  (T_hasPerson t_2 a M).bind fun r_4 =>
  (
    (
      if ¬ n32 r_4 = 0 then
        (T_hasPerson t_2 b M).bind fun r_14 =>
        if ¬ n32 r_14 = 0 then
          if ¬ n32 a = n32 b then
            some true
          else
            some false
        else
          some false
      else
        some false
    ).bind fun c_13 =>
    if c_13 = true then
      some (1 : Int)
    else
      some (0 : Int)
  ).bind fun v_5 =>
  (
    if ¬ n32 v_5 = 0 then
      (T_canBe t_2 row world M).bind fun r_20 =>
      if ¬ n32 r_20 = 0 then
        (T_isSo t_2 row world M).bind fun r_21 =>
        if ¬ n32 r_21 = 0 then
          some true
        else
          some false
      else
        some true
    else
      some true
  ).bind fun c_19 =>
  if c_19 = true then
    some (-1)
  else
    (T_fooled t_2 (ior' (ishl 1 a) (ishl 1 b)) row world M).bind fun r_22 =>
    some r_22

def T_pairOf (t : Nat) (tie : Int) (M : Mem) : Option (Int) :=
  chk (0 ≤ tie ∧ tie < 12) <|
  some (ior' (ishl 1 (M (t + 4) (Int.toNat tie))) (ishl 1 (M (t + 5) (Int.toNat tie))))

def T_tieOf_b11 (t : Nat) (M : Mem) (l3_1 : Int) : Int → Option ((Int) ⊕ ((Unit) ⊕ (Int)))
  | l4_2 =>
    if n32 l4_2 < n32 (M t 3) then
      (T_pairOf t l4_2 M).bind fun r_9 =>
      if n32 r_9 = n32 l3_1 then
        some (.inr (.inr l4_2))
      else
        lt1 (l4_2 + 1) fun l4_10 =>
        some (.inl l4_10)
    else
      some (.inr (.inl ()))
def T_tieOf (t : Nat) (person : Int) (other : Int) (M : Mem) : Option (Int) :=
  lt1 ((ior' (ishl 1 person) (ishl 1 other))) fun l3_1 =>
  (it (T_tieOf_b11 t M l3_1) FUEL 0).bind fun x => match x with
  | .inl _ =>
    some 0
  | .inr rv_13 => some rv_13

def T_bestPartner_b9 (t : Nat) (person : Int) (row : Int) (world : Int) (M : Mem) : Int × Int × Int → Option ((Int × Int × Int) ⊕ (Int))
  | (l4_1, l5_2, l6_3) =>
    if n32 l6_3 < n32 (M t 1) then
      chk (0 ≤ person ∧ person < 8) <|
      (X_hasBit (M (t + 3) (Int.toNat person)) l6_3 M).bind fun r_13 =>
      (
        if ¬ n32 r_13 = 0 then
          (T_fooled t (ior' (ishl 1 person) (ishl 1 l6_3)) row world M).bind fun r_19 =>
          (T_tieOf t person l6_3 M).bind fun r_20 =>
          chk (0 ≤ r_20 ∧ r_20 < 12) <|
          lt1 (((r_19 * 10) - (M (t + 6) (Int.toNat r_20)))) fun l8_23 =>
          if (n32 l4_1 = (-1)) ∨ (n32 l5_2 < n32 l8_23) then
            some (l6_3, l8_23)
          else
            some (l4_1, l5_2)
        else
          some (l4_1, l5_2)
      ).bind fun (l4_14, l5_15) =>
      lt1 (l6_3 + 1) fun l6_31 =>
      some (.inl (l4_14, l5_15, l6_31))
    else
      some (.inr l4_1)
def T_bestPartner (t : Nat) (person : Int) (row : Int) (world : Int) (M : Mem) : Option (Int) :=
  (it (T_bestPartner_b9 t person row world M) FUEL ((-1), 0, 0)).bind fun l4_10 =>
  some l4_10

def X_with (person : Int) (row : Int) (world : Int) (M : Mem) : Option (Int) :=
  chk (isTI (M 1 2)) <|
  lt1 (M 1 2).toNat fun t_2 =>
  (T_hasPerson t_2 person M).bind fun r_4 =>
  (
    if ¬ n32 r_4 = 0 then
      (T_canBe t_2 row world M).bind fun r_10 =>
      if ¬ n32 r_10 = 0 then
        (T_isSo t_2 row world M).bind fun r_11 =>
        if ¬ n32 r_11 = 0 then
          some true
        else
          some false
      else
        some true
    else
      some true
  ).bind fun c_9 =>
  if c_9 = true then
    some (-1)
  else
    (T_bestPartner t_2 person row world M).bind fun r_12 =>
    some r_12

def T_mostWished_b5 (t : Nat) (tie : Int) (world : Int) (M : Mem) : Int × Int → Option ((Int × Int) ⊕ (Int))
  | (l3_1, l4_2) =>
    if n32 l4_2 < n32 (M t 2) then
      chk (0 ≤ tie ∧ tie < 12) <|
      chk (0 ≤ (((M (t + 4) (Int.toNat tie)) * 12) + l4_2) ∧ (((M (t + 4) (Int.toNat tie)) * 12) + l4_2) < 96) <|
      lt1 ((M (t + 7) (Int.toNat (((M (t + 4) (Int.toNat tie)) * 12) + l4_2)))) fun l5_14 =>
      chk (0 ≤ (((M (t + 5) (Int.toNat tie)) * 12) + l4_2) ∧ (((M (t + 5) (Int.toNat tie)) * 12) + l4_2) < 96) <|
      lt1 ((M (t + 7) (Int.toNat (((M (t + 5) (Int.toNat tie)) * 12) + l4_2)))) fun l6_17 =>
      (
        (
          if ¬ n32 l5_14 = (-1) then
            if ¬ n32 l6_17 = (-1) then
              (T_isSo t l4_2 world M).bind fun r_27 =>
              if n32 r_27 = 0 then
                some true
              else
                some false
            else
              some false
          else
            some false
        ).bind fun c_26 =>
        if c_26 = true then
          lt1 ((imax l3_1 (l5_14 + l6_17))) fun l3_28 =>
          some l3_28
        else
          some l3_1
      ).bind fun l3_18 =>
      lt1 (l4_2 + 1) fun l4_29 =>
      some (.inl (l3_18, l4_29))
    else
      some (.inr l3_1)
def T_mostWished (t : Nat) (tie : Int) (world : Int) (M : Mem) : Option (Int) :=
  (it (T_mostWished_b5 t tie world M) FUEL (0, 0)).bind fun l3_9 =>
  some l3_9

def P_seekMost_b39 (rec_ : Int → Int → Int → Int → Mem → Option (Mem)) (used : Int) (sum : Int) (taken : Int) : Int × Mem → Option ((Int × Mem) ⊕ (Mem))
  | (l5_17, M_18) =>
    chk (isTI (M_18 76 0)) <|
    lt1 (M_18 76 0).toNat fun t_27 =>
    if n32 l5_17 < n32 (M_18 t_27 3) then
      (T_pairOf t_27 l5_17 M_18).bind fun r_29 =>
      chk (0 ≤ l5_17 ∧ l5_17 < 12) <|
      (
        if (0 < n32 (M_18 77 (Int.toNat l5_17))) ∧ (n32 (iand used r_29) = 0) then
          (rec_ (l5_17 + 1) (ior' used r_29) (sum + (M_18 77 (Int.toNat l5_17))) (ior' taken (ishl 1 l5_17)) M_18).bind fun M_36 =>
          some M_36
        else
          some M_18
      ).bind fun M_32 =>
      lt1 (l5_17 + 1) fun l5_43 =>
      some (.inl (l5_43, M_32))
    else
      some (.inr M_18)
def P_seekMost_s (rec_ : Int → Int → Int → Int → Mem → Option (Mem)) (tie : Int) (used : Int) (sum : Int) (taken : Int) (M : Mem) : Option (Mem) :=
  (
    jn (fun (_ : Unit) =>
      lt1 (up M 76 2 sum) fun M_15 =>
      lt1 (up M_15 76 3 taken) fun M_16 =>
      some M_16
    ) fun j_5 =>
    if n32 sum ≤ n32 (M 76 2) then
      if (n32 sum = n32 (M 76 2)) ∧ (n32 taken < n32 (M 76 3)) then
        j_5 ()
      else
        some M
    else
      j_5 ()
  ).bind fun M_1 =>
  (it (P_seekMost_b39 rec_ used sum taken) FUEL (tie, M_1)).bind fun M_25 =>
  some M_25
def P_seekMost : Nat → Int → Int → Int → Int → Mem → Option (Mem)
  | 0, _, _, _, _, _ => none
  | d + 1, x0, x1, x2, x3, M => P_seekMost_s (P_seekMost d) x0 x1 x2 x3 M

def P_settleGains_b7 (world : Int) : Int × Mem → Option ((Int × Mem) ⊕ (Mem))
  | (l3_2, M_3) =>
    chk (isTI (M_3 76 0)) <|
    lt1 (M_3 76 0).toNat fun t_12 =>
    if n32 l3_2 < n32 (M_3 t_12 3) then
      (T_mostWished t_12 l3_2 world M_3).bind fun r_14 =>
      chk (0 ≤ l3_2 ∧ l3_2 < 12) <|
      lt1 (up M_3 77 (Int.toNat l3_2) (r_14 - (2 * (M_3 (t_12 + 6) (Int.toNat l3_2))))) fun M_17 =>
      lt1 (l3_2 + 1) fun l3_18 =>
      some (.inl (l3_18, M_17))
    else
      some (.inr M_3)
def P_settleGains (tat_ : Nat) (world : Int) (M : Mem) : Option (Mem) :=
  lt1 (up M 76 0 ((tat_ : Nat) : Int)) fun M_1 =>
  (it (P_settleGains_b7 world) FUEL (0, M_1)).bind fun M_10 =>
  lt1 (up M_10 76 2 0) fun M_20 =>
  lt1 (up M_20 76 3 0) fun M_21 =>
  (P_seekMost 14 0 0 0 0 M_21).bind fun M_22 =>
  some M_22

def X_rest (world : Int) (what : Int) (M : Mem) : Option (Int × Mem) :=
  chk (isTI (M 1 2)) <|
  lt1 (M 1 2).toNat fun t_2 =>
  (T_hasWorld t_2 world M).bind fun r_4 =>
  if (n32 r_4 = 0) ∨ ((n32 what < 0) ∨ (1 < n32 what)) then
    some ((-1), M)
  else
    (P_settleGains t_2 world M).bind fun M_5 =>
    if n32 what = 0 then
      some ((M_5 76 2), M_5)
    else
      some ((M_5 76 3), M_5)

def X_commonDivisor_b7 : Int × Int × Int → Option ((Int × Int × Int) ⊕ (Int))
  | (l2_1, l3_2, l4_3) =>
    if (n32 l4_3 < 64) ∧ (¬ n32 l3_2 = 0) then
      chk (¬ n32 l3_2 = 0) <|
      lt1 ((irem' l2_1 l3_2)) fun l5_12 =>
      lt1 (l4_3 + 1) fun l4_13 =>
      some (.inl (l3_2, l5_12, l4_13))
    else
      some (.inr l2_1)
def X_commonDivisor (a : Int) (b : Int) (M : Mem) : Option (Int) :=
  (it (X_commonDivisor_b7) FUEL (a, b, 0)).bind fun l2_10 =>
  if n32 l2_10 = 0 then
    some 1
  else
    some l2_10

def X_truth (row : Int) (c : Int) (d : Int) (part : Int) (k : Int) (M : Mem) : Option (Int × Mem) :=
  (
    if (0 ≤ n32 c) ∧ ((n32 c ≤ 10) ∧ ((0 ≤ n32 d) ∧ (n32 d ≤ 10))) then
      some (1 : Int)
    else
      some (0 : Int)
  ).bind fun v_1 =>
  (
    if ¬ n32 v_1 = 0 then
      if 0 ≤ n32 part then
        if n32 part ≤ 1 then
          chk (isTI (M 1 2)) <|
          lt1 (M 1 2).toNat fun t_21 =>
          (T_hasRow t_21 row M).bind fun r_23 =>
          if n32 r_23 = 0 then
            some true
          else
            some false
        else
          some true
      else
        some true
    else
      some true
  ).bind fun c_19 =>
  if c_19 = true then
    some ((-1), M)
  else
    chk (isTI (M 1 2)) <|
    lt1 (M 1 2).toNat fun t_25 =>
    (W_look t_25 k M).bind fun M_27 =>
    (W_sizeOf row M_27).bind fun r_28 =>
    lt1 ((r_28 * c)) fun l8_29 =>
    lt1 ((l8_29 + (((M_27 71 5) - r_28) * d))) fun l9_30 =>
    if n32 l9_30 = 0 then
      some ((-1), M_27)
    else
      (X_commonDivisor l9_30 l8_29 M_27).bind fun r_31 =>
      (
        if n32 part = 0 then
          some l8_29
        else
          some l9_30
      ).bind fun v_32 =>
      chk (¬ n32 r_31 = 0) <|
      some ((idiv' v_32 r_31), M_27)

def C_notePairs_b28 (saying : Int) (l2_4 : Int) (l3_5 : Int) : Int × Mem → Option ((Int × Mem) ⊕ (Mem))
  | (l4_18, M_19) =>
    chk (isTI (M_19 78 0)) <|
    lt1 (M_19 78 0).toNat fun t_28 =>
    if n32 l4_18 < n32 (M_19 t_28 1) then
      (X_hasBit l2_4 l3_5 M_19).bind fun r_30 =>
      (
        (
          if ¬ n32 r_30 = 0 then
            (X_hasBit l2_4 l4_18 M_19).bind fun r_40 =>
            if ¬ n32 r_40 = 0 then
              some true
            else
              some false
          else
            some false
        ).bind fun c_39 =>
        if c_39 = true then
          chk (0 ≤ ((l3_5 * 8) + l4_18) ∧ ((l3_5 * 8) + l4_18) < 64) <|
          lt1 (up M_19 79 (Int.toNat ((l3_5 * 8) + l4_18)) (jor (M_19 79 (Int.toNat ((l3_5 * 8) + l4_18))) (jshl 1 saying))) fun M_43 =>
          some M_43
        else
          some M_19
      ).bind fun M_31 =>
      lt1 (l4_18 + 1) fun l4_44 =>
      some (.inl (l4_44, M_31))
    else
      some (.inr M_19)

def C_notePairs_b12 (saying : Int) (l2_4 : Int) : Int × Mem → Option ((Int × Mem) ⊕ (Mem))
  | (l3_5, M_6) =>
    chk (isTI (M_6 78 0)) <|
    lt1 (M_6 78 0).toNat fun t_15 =>
    if n32 l3_5 < n32 (M_6 t_15 1) then
      lt1 ((l3_5 + 1)) fun l4_17 =>
      (it (C_notePairs_b28 saying l2_4 l3_5) FUEL (l4_17, M_6)).bind fun M_26 =>
      lt1 (l3_5 + 1) fun l3_46 =>
      some (.inl (l3_46, M_26))
    else
      some (.inr M_6)
def C_notePairs (saying : Int) (M : Mem) : Option (Mem) :=
  chk (M 78 1 = ((42 : Nat) : Int)) <|
  chk (0 ≤ saying ∧ saying < 40) <|
  lt1 ((M 43 (Int.toNat saying))) fun l2_4 =>
  (it (C_notePairs_b12 saying l2_4) FUEL (0, M)).bind fun M_13 =>
  some M_13

def C_watch_b23 : Int × Mem → Option ((Int × Mem) ⊕ (Mem))
  | (l4_5, M_6) =>
    if n32 l4_5 < 64 then
      chk (0 ≤ l4_5 ∧ l4_5 < 64) <|
      lt1 (up M_6 79 (Int.toNat l4_5) 0) fun M_16 =>
      lt1 (l4_5 + 1) fun l4_17 =>
      some (.inl (l4_17, M_16))
    else
      some (.inr M_6)

def C_watch_b47 : Int × Mem → Option ((Int × Mem) ⊕ (Mem))
  | (l4_19, M_20) =>
    chk (M_20 78 2 = ((71 : Nat) : Int)) <|
    if n32 l4_19 < n32 (M_20 71 3) then
      chk (0 ≤ l4_19 ∧ l4_19 < 40) <|
      lt1 ((M_20 72 (Int.toNat l4_19))) fun l5_31 =>
      chk (M_20 78 1 = ((42 : Nat) : Int)) <|
      chk (0 ≤ l5_31 ∧ l5_31 < 40) <|
      (
        (
          if ¬ n32 (M_20 45 (Int.toNat l5_31)) = 0 then
            (JI_bitCount (M_20 43 (Int.toNat l5_31)) M_20).bind fun r_44 =>
            if 1 < n32 r_44 then
              some true
            else
              some false
          else
            some false
        ).bind fun c_43 =>
        if c_43 = true then
          lt1 (up M_20 78 4 (jor (M_20 78 4) (jshl 1 l5_31))) fun M_45 =>
          (C_notePairs l5_31 M_45).bind fun M_46 =>
          some M_46
        else
          some M_20
      ).bind fun M_35 =>
      lt1 (l4_19 + 1) fun l4_47 =>
      some (.inl (l4_47, M_35))
    else
      some (.inr M_20)
def C_watch (tat_ : Nat) (M : Mem) : Option (Mem) :=
  lt1 (up M 78 0 ((tat_ : Nat) : Int)) fun M_1 =>
  lt1 (up M_1 78 1 ((42 : Nat) : Int)) fun M_2 =>
  lt1 (up M_2 78 2 ((71 : Nat) : Int)) fun M_3 =>
  lt1 (up M_3 78 4 0) fun M_4 =>
  (it (C_watch_b23) FUEL (0, M_4)).bind fun M_13 =>
  (it (C_watch_b47) FUEL (0, M_13)).bind fun M_27 =>
  some M_27

def C_tightest_b6 (open_ : Int) (used : Int) (M : Mem) : Int × Int → Option ((Int × Int) ⊕ (Int))
  | (l4_1, l5_2) =>
    chk (M 78 2 = ((71 : Nat) : Int)) <|
    if n32 l5_2 < n32 (M 71 3) then
      chk (0 ≤ l5_2 ∧ l5_2 < 40) <|
      lt1 ((M 72 (Int.toNat l5_2))) fun l6_13 =>
      (
        if ¬ n64 (jand (jushr open_ l6_13) 1) = n64 0 then
          chk (M 78 1 = ((42 : Nat) : Int)) <|
          chk (0 ≤ l6_13 ∧ l6_13 < 40) <|
          lt1 ((iand (M 43 (Int.toNat l6_13)) (ixor' used (-1)))) fun l7_21 =>
          (
            if ¬ n32 l4_1 = (-1) then
              (JI_bitCount l7_21 M).bind fun r_27 =>
              (JI_bitCount l4_1 M).bind fun r_28 =>
              if n32 r_27 < n32 r_28 then
                some true
              else
                some false
            else
              some true
          ).bind fun c_26 =>
          if c_26 = true then
            some l7_21
          else
            some l4_1
        else
          some l4_1
      ).bind fun l4_14 =>
      lt1 (l5_2 + 1) fun l5_30 =>
      some (.inl (l4_14, l5_30))
    else
      some (.inr l4_1)
def C_tightest (open_ : Int) (used : Int) (M : Mem) : Option (Int) :=
  (it (C_tightest_b6 open_ used M) FUEL ((-1), 0)).bind fun l4_9 =>
  some l4_9

def C_fewestFor_b50 (rec_ : Int → Int → Int → Mem → Option (Int)) (open_ : Int) (used : Int) (most : Int) (M : Mem) (v_1 : Int) (l7_8 : Int) (t_17 : Nat) : Int × Int → Option ((Int × Int) ⊕ (Int))
  | (l6_20, l8_21) =>
    if n32 l8_21 < n32 (M t_17 1) then
      (X_hasBit v_1 l7_8 M).bind fun r_29 =>
      (
        (
          if ¬ n32 r_29 = 0 then
            (X_hasBit v_1 l8_21 M).bind fun r_39 =>
            if ¬ n32 r_39 = 0 then
              some true
            else
              some false
          else
            some false
        ).bind fun c_38 =>
        if c_38 = true then
          chk (0 ≤ ((l7_8 * 8) + l8_21) ∧ ((l7_8 * 8) + l8_21) < 64) <|
          lt1 ((jand open_ (jxor (M 79 (Int.toNat ((l7_8 * 8) + l8_21))) (-1)))) fun l9_42 =>
          lt1 (((imin most (l6_20 - 1)) - 1)) fun l11_43 =>
          if 0 ≤ n32 l11_43 then
            (rec_ l9_42 (ior' (ior' used (ishl 1 l7_8)) (ishl 1 l8_21)) l11_43 M).bind fun r_44 =>
            lt1 ((1 + r_44)) fun l12_45 =>
            lt1 ((imin l6_20 l12_45)) fun l6_46 =>
            some l6_46
          else
            some l6_20
        else
          some l6_20
      ).bind fun l6_30 =>
      lt1 (l8_21 + 1) fun l8_48 =>
      some (.inl (l6_30, l8_48))
    else
      some (.inr l6_20)

def C_fewestFor_b32 (rec_ : Int → Int → Int → Mem → Option (Int)) (open_ : Int) (used : Int) (most : Int) (M : Mem) (v_1 : Int) : Int × Int → Option ((Int × Int) ⊕ (Int))
  | (l6_7, l7_8) =>
    chk (isTI (M 78 0)) <|
    lt1 (M 78 0).toNat fun t_17 =>
    if n32 l7_8 < n32 (M t_17 1) then
      lt1 ((l7_8 + 1)) fun l8_19 =>
      (it (C_fewestFor_b50 rec_ open_ used most M v_1 l7_8 t_17) FUEL (l6_7, l8_19)).bind fun l6_28 =>
      lt1 (l7_8 + 1) fun l7_50 =>
      some (.inl (l6_28, l7_50))
    else
      some (.inr l6_7)
def C_fewestFor_s (rec_ : Int → Int → Int → Mem → Option (Int)) (open_ : Int) (used : Int) (most : Int) (M : Mem) : Option (Int) :=
  if n64 open_ = n64 0 then
    some 0
  else
    (
      if 0 < n32 most then
        (C_tightest open_ used M).bind fun r_5 =>
        some r_5
      else
        some (0 : Int)
    ).bind fun v_1 =>
    (it (C_fewestFor_b32 rec_ open_ used most M v_1) FUEL (8, 0)).bind fun l6_15 =>
    some l6_15
def C_fewestFor : Nat → Int → Int → Int → Mem → Option (Int)
  | 0, _, _, _, _ => none
  | d + 1, x0, x1, x2, M => C_fewestFor_s (C_fewestFor d) x0 x1 x2 M

def C_fewestIn_b5 (world : Int) (M : Mem) : Int × Int → Option ((Int × Int) ⊕ (Int))
  | (l3_1, l5_2) =>
    chk (M 78 2 = ((71 : Nat) : Int)) <|
    if n32 l5_2 < n32 (M 71 3) then
      chk (0 ≤ l5_2 ∧ l5_2 < 40) <|
      lt1 ((M 72 (Int.toNat l5_2))) fun l6_13 =>
      (
        (
          if ¬ n64 (jand (jushr (M 78 4) l6_13) 1) = n64 0 then
            chk (isTI (M 78 0)) <|
            lt1 (M 78 0).toNat fun t_24 =>
            chk (M 78 1 = ((42 : Nat) : Int)) <|
            chk (0 ≤ l6_13 ∧ l6_13 < 40) <|
            (T_isSo t_24 (M 44 (Int.toNat l6_13)) world M).bind fun r_29 =>
            if n32 r_29 = 0 then
              some true
            else
              some false
          else
            some false
        ).bind fun c_22 =>
        if c_22 = true then
          lt1 ((jor l3_1 (jshl 1 l6_13))) fun l3_30 =>
          some l3_30
        else
          some l3_1
      ).bind fun l3_14 =>
      lt1 (l5_2 + 1) fun l5_31 =>
      some (.inl (l3_14, l5_31))
    else
      some (.inr l3_1)
def C_fewestIn (world : Int) (most : Int) (M : Mem) : Option (Int) :=
  (it (C_fewestIn_b5 world M) FUEL (0, 0)).bind fun l3_9 =>
  (C_fewestFor 6 l3_9 0 most M).bind fun r_33 =>
  some r_33

def X_leagues (world : Int) (k : Int) (M : Mem) : Option (Int × Mem) :=
  chk (isTI (M 1 2)) <|
  lt1 (M 1 2).toNat fun t_2 =>
  (T_hasWorld t_2 world M).bind fun r_4 =>
  if n32 r_4 = 0 then
    some ((-2), M)
  else
    (W_look t_2 k M).bind fun M_5 =>
    chk (isTI (M_5 1 2)) <|
    lt1 (M_5 1 2).toNat fun t_7 =>
    (C_watch t_7 M_5).bind fun M_9 =>
    (C_fewestIn world 4 M_9).bind fun r_10 =>
    if 4 < n32 r_10 then
      some ((-1), M_9)
    else
      some (r_10, M_9)

def X_plain_b42 (M_8 : Mem) : Int × Int × Int → Option ((Int × Int × Int) ⊕ (Int))
  | (l2_9, l3_10, l4_11) =>
    chk (isTI (M_8 1 2)) <|
    lt1 (M_8 1 2).toNat fun t_20 =>
    if (n32 l4_11 < n32 (ishl 1 (M_8 t_20 0))) ∧ (0 < n32 l3_10) then
      (X_has 73 0 l4_11 M_8).bind fun r_22 =>
      (
        if ¬ n32 r_22 = 0 then
          (C_fewestIn l4_11 (l3_10 - 1) M_8).bind fun r_28 =>
          if n32 r_28 < n32 l3_10 then
            some (l4_11, r_28)
          else
            some (l2_9, l3_10)
        else
          some (l2_9, l3_10)
      ).bind fun (l2_23, l3_24) =>
      lt1 (l4_11 + 1) fun l4_31 =>
      some (.inl (l2_23, l3_24, l4_31))
    else
      some (.inr l2_9)
def X_plain (k : Int) (M : Mem) : Option (Int × Mem) :=
  chk (isTI (M 1 2)) <|
  lt1 (M 1 2).toNat fun t_2 =>
  (W_look t_2 k M).bind fun M_4 =>
  chk (isTI (M_4 1 2)) <|
  lt1 (M_4 1 2).toNat fun t_6 =>
  (C_watch t_6 M_4).bind fun M_8 =>
  (it (X_plain_b42 M_8) FUEL ((-1), 5, 0)).bind fun l2_18 =>
  some (l2_18, M_8)

def T_countAnswering_b6 (t : Nat) (row : Int) (world : Int) (answer : Int) (M : Mem) : Int × Int → Option ((Int × Int) ⊕ (Int))
  | (l4_1, l5_2) =>
    if n32 l5_2 < n32 (M t 1) then
      (T_answer t l5_2 row world M).bind fun r_10 =>
      (
        if n32 r_10 = n32 answer then
          lt1 (l4_1 + 1) fun l4_15 =>
          some l4_15
        else
          some l4_1
      ).bind fun l4_11 =>
      lt1 (l5_2 + 1) fun l5_17 =>
      some (.inl (l4_11, l5_17))
    else
      some (.inr l4_1)
def T_countAnswering (t : Nat) (row : Int) (world : Int) (answer : Int) (M : Mem) : Option (Int) :=
  (it (T_countAnswering_b6 t row world answer M) FUEL (0, 0)).bind fun l4_9 =>
  some l4_9

def P_voice (person : Int) (row : Int) (world : Int) (M : Mem) : Option (Int) :=
  chk (isTI (M 76 0)) <|
  lt1 (M 76 0).toNat fun t_2 =>
  (T_answer t_2 person row world M).bind fun r_4 =>
  if n32 r_4 = 1 then
    some 1
  else
    if n32 r_4 = 0 then
      some (-1)
    else
      some 0

def P_seekFewest_b28 (rec_ : Int → Int → Int → Int → Mem → Option (Mem)) (used : Int) (sum : Int) (count : Int) : Int × Mem → Option ((Int × Mem) ⊕ (Mem))
  | (l5_2, M_3) =>
    chk (isTI (M_3 76 0)) <|
    lt1 (M_3 76 0).toNat fun t_12 =>
    if n32 l5_2 < n32 (M_3 t_12 3) then
      (T_pairOf t_12 l5_2 M_3).bind fun r_14 =>
      (
        if n32 (iand used r_14) = 0 then
          chk (0 ≤ l5_2 ∧ l5_2 < 12) <|
          (rec_ (l5_2 + 1) (ior' used r_14) (sum + (M_3 77 (Int.toNat l5_2))) (count + 1) M_3).bind fun M_21 =>
          some M_21
        else
          some M_3
      ).bind fun M_15 =>
      lt1 (l5_2 + 1) fun l5_23 =>
      some (.inl (l5_23, M_15))
    else
      some (.inr M_3)
def P_seekFewest_s (rec_ : Int → Int → Int → Int → Mem → Option (Mem)) (tie : Int) (used : Int) (sum : Int) (count : Int) (M : Mem) : Option (Mem) :=
  if n32 (M 76 5) ≤ n32 count then
    some M
  else
    if n32 (M 76 4) ≤ n32 sum then
      lt1 (up M 76 5 count) fun M_1 =>
      some M_1
    else
      (it (P_seekFewest_b28 rec_ used sum count) FUEL (tie, M)).bind fun M_10 =>
      some M_10
def P_seekFewest : Nat → Int → Int → Int → Int → Mem → Option (Mem)
  | 0, _, _, _, _, _ => none
  | d + 1, x0, x1, x2, x3, M => P_seekFewest_s (P_seekFewest d) x0 x1 x2 x3 M

def P_fewestTurning_b44 (row : Int) (world : Int) (v_2 : Int) : Int × Mem → Option ((Int × Mem) ⊕ (Mem))
  | (l6_14, M_15) =>
    chk (isTI (M_15 76 0)) <|
    lt1 (M_15 76 0).toNat fun t_24 =>
    if n32 l6_14 < n32 (M_15 t_24 3) then
      chk (0 ≤ l6_14 ∧ l6_14 < 12) <|
      (P_voice (M_15 (t_24 + 4) (Int.toNat l6_14)) row world M_15).bind fun r_28 =>
      (P_voice (M_15 (t_24 + 5) (Int.toNat l6_14)) row world M_15).bind fun r_29 =>
      lt1 ((r_28 + r_29)) fun l7_30 =>
      (
        if ¬ n32 v_2 = 0 then
          some (2 + l7_30)
        else
          some (2 - l7_30)
      ).bind fun v_31 =>
      lt1 (up M_15 77 (Int.toNat l6_14) v_31) fun M_36 =>
      lt1 (l6_14 + 1) fun l6_37 =>
      some (.inl (l6_37, M_36))
    else
      some (.inr M_15)
def P_fewestTurning (tat_ : Nat) (row : Int) (world : Int) (lead : Int) (M : Mem) : Option (Int × Mem) :=
  lt1 (up M 76 0 ((tat_ : Nat) : Int)) fun M_1 =>
  (
    if 0 < n32 lead then
      some (1 : Int)
    else
      some (0 : Int)
  ).bind fun v_2 =>
  (
    if ¬ n32 v_2 = 0 then
      some lead
    else
      some (1 - lead)
  ).bind fun v_7 =>
  lt1 (up M_1 76 4 v_7) fun M_12 =>
  lt1 (up M_12 76 5 13) fun M_13 =>
  (it (P_fewestTurning_b44 row world v_2) FUEL (0, M_13)).bind fun M_22 =>
  (P_seekFewest 14 0 0 0 0 M_22).bind fun M_39 =>
  if 12 < n32 (M_39 76 5) then
    some ((-1), M_39)
  else
    some ((M_39 76 5), M_39)

def X_vote (row : Int) (world : Int) (what : Int) (M : Mem) : Option (Int × Mem) :=
  chk (isTI (M 1 2)) <|
  lt1 (M 1 2).toNat fun t_2 =>
  (T_canBe t_2 row world M).bind fun r_4 =>
  if (n32 r_4 = 0) ∨ ((n32 what < 0) ∨ (3 < n32 what)) then
    some ((-1), M)
  else
    (T_countAnswering t_2 row world 1 M).bind fun r_5 =>
    (T_countAnswering t_2 row world 0 M).bind fun r_6 =>
    if n32 what = 0 then
      some (r_5, M)
    else
    if n32 what = 1 then
      some (r_6, M)
    else
    if n32 what = 2 then
      if n32 r_6 < n32 r_5 then
        some (1, M)
      else
        some (0, M)
    else
    (P_fewestTurning t_2 row world (r_5 - r_6) M).bind fun (r_11, M_12) =>
    some (r_11, M_12)

def Y_copy (s : Nat) (sfrom_ : Nat) (M : Mem) : Option (Mem) :=
  lt1 (up M s 0 (M sfrom_ 0)) fun M_1 =>
  chk ((0 : Int) ≤ 0 ∧ (0 : Int) ≤ 0 ∧ (0 : Int) ≤ (M_1 s 0) ∧ 0 + (M_1 s 0) ≤ 40 ∧ 0 + (M_1 s 0) ≤ 40) <|
  lt1 (cpy M_1 (sfrom_ + 1) (s + 1) (Int.toNat 0) (Int.toNat 0) (Int.toNat (M_1 s 0))) fun M_7 =>
  chk ((0 : Int) ≤ 0 ∧ (0 : Int) ≤ 0 ∧ (0 : Int) ≤ (M_7 s 0) ∧ 0 + (M_7 s 0) ≤ 40 ∧ 0 + (M_7 s 0) ≤ 40) <|
  lt1 (cpy M_7 (sfrom_ + 2) (s + 2) (Int.toNat 0) (Int.toNat 0) (Int.toNat (M_7 s 0))) fun M_13 =>
  chk ((0 : Int) ≤ 0 ∧ (0 : Int) ≤ 0 ∧ (0 : Int) ≤ (M_13 s 0) ∧ 0 + (M_13 s 0) ≤ 40 ∧ 0 + (M_13 s 0) ≤ 40 ∧ (∀ i, i < Int.toNat (M_13 s 0) → M_13 (sfrom_ + 3) (Int.toNat 0 + i) = 0 ∨ M_13 (sfrom_ + 3) (Int.toNat 0 + i) = 1)) <|
  lt1 (cpy M_13 (sfrom_ + 3) (s + 3) (Int.toNat 0) (Int.toNat 0) (Int.toNat (M_13 s 0))) fun M_20 =>
  chk ((0 : Int) ≤ 0 ∧ (0 : Int) ≤ 0 ∧ (0 : Int) ≤ (M_20 s 0) ∧ 0 + (M_20 s 0) ≤ 40 ∧ 0 + (M_20 s 0) ≤ 40) <|
  lt1 (cpy M_20 (sfrom_ + 4) (s + 4) (Int.toNat 0) (Int.toNat 0) (Int.toNat (M_20 s 0))) fun M_26 =>
  chk ((0 : Int) ≤ 0 ∧ (0 : Int) ≤ 0 ∧ (0 : Int) ≤ (M_26 s 0) ∧ 0 + (M_26 s 0) ≤ 40 ∧ 0 + (M_26 s 0) ≤ 40) <|
  lt1 (cpy M_26 (sfrom_ + 5) (s + 5) (Int.toNat 0) (Int.toNat 0) (Int.toNat (M_26 s 0))) fun M_32 =>
  chk ((0 : Int) ≤ 0 ∧ (0 : Int) ≤ 0 ∧ (0 : Int) ≤ ((M_32 s 0) * 4) ∧ 0 + ((M_32 s 0) * 4) ≤ 160 ∧ 0 + ((M_32 s 0) * 4) ≤ 160) <|
  lt1 (cpy M_32 (sfrom_ + 6) (s + 6) (Int.toNat 0) (Int.toNat 0) (Int.toNat ((M_32 s 0) * 4))) fun M_38 =>
  some M_38

def X_image (box : Int) (M : Mem) : Option (Int × Mem) :=
  if (n32 box < 0) ∨ (3 ≤ n32 box) then
    some ((-1), M)
  else
    chk (0 ≤ box ∧ box < 3) <|
    lt1 (50 + 7 * (Int.toNat box)) fun s_3 =>
    (Y_copy s_3 42 M).bind fun M_4 =>
    lt1 (50 + 7 * (Int.toNat box)) fun s_5 =>
    lt1 (up M_4 s_5 1 1) fun M_6 =>
    some ((M_6 42 0), M_6)

def X_back (box : Int) (M : Mem) : Option (Int × Mem) :=
  (
    if 0 ≤ n32 box then
      if n32 box < 3 then
        chk (0 ≤ box ∧ box < 3) <|
        lt1 (50 + 7 * (Int.toNat box)) fun s_8 =>
        if n32 (M s_8 1) = 0 then
          some true
        else
          some false
      else
        some true
    else
      some true
  ).bind fun c_5 =>
  if c_5 = true then
    some ((-1), M)
  else
    chk (0 ≤ box ∧ box < 3) <|
    lt1 (50 + 7 * (Int.toNat box)) fun s_11 =>
    (Y_copy 42 s_11 M).bind fun M_12 =>
    some ((M_12 42 0), M_12)

def X_about (what : Int) (M : Mem) : Option (Int) :=
  if n32 what = 0 then
    chk (isTI (M 1 2)) <|
    lt1 (M 1 2).toNat fun t_2 =>
    some (M t_2 0)
  else
  if n32 what = 1 then
    chk (isTI (M 1 2)) <|
    lt1 (M 1 2).toNat fun t_6 =>
    some (M t_6 1)
  else
  if n32 what = 2 then
    chk (isTI (M 1 2)) <|
    lt1 (M 1 2).toNat fun t_10 =>
    some (M t_10 2)
  else
  if n32 what = 3 then
    chk (isTI (M 1 2)) <|
    lt1 (M 1 2).toNat fun t_14 =>
    some (M t_14 3)
  else
  if n32 what = 4 then
    chk (isTI (M 1 2)) <|
    lt1 (M 1 2).toNat fun t_18 =>
    some (M t_18 4)
  else
  if n32 what = 5 then
    some (M 42 0)
  else
  if n32 what = 6 then
    some (M 1 12)
  else
  if n32 what = 7 then
    some (M 1 1)
  else
  if n32 what = 8 then
    chk (isTI (M 1 2)) <|
    lt1 (M 1 2).toNat fun t_25 =>
    some (M t_25 5)
  else
  if n32 what = 9 then
    chk (isTI (M 1 2)) <|
    lt1 (M 1 2).toNat fun t_29 =>
    (T_size t_29 M).bind fun r_31 =>
    some r_31
  else
  some (-1)

def M_clearBank (M : Mem) : Option (Mem) :=
  chk (0 ≤ (M 81 39) ∧ (M 81 39) < 2) <|
  lt1 (up M 84 (Int.toNat (M 81 39)) 0) fun M_3 =>
  chk (0 ≤ (M_3 81 39) ∧ (M_3 81 39) < 2) <|
  lt1 (up M_3 85 (Int.toNat (M_3 81 39)) 0) fun M_6 =>
  chk (0 ≤ (M_6 81 39) ∧ (M_6 81 39) < 2) <|
  lt1 (up M_6 86 (Int.toNat (M_6 81 39)) 0) fun M_9 =>
  chk (0 ≤ (M_9 81 39) ∧ (M_9 81 39) < 2) <|
  lt1 (up M_9 87 (Int.toNat (M_9 81 39)) 0) fun M_12 =>
  chk (0 ≤ (M_12 81 39) ∧ (M_12 81 39) < 2) <|
  lt1 (up M_12 88 (Int.toNat (M_12 81 39)) 0) fun M_15 =>
  chk (0 ≤ (M_15 81 39) ∧ (M_15 81 39) < 2) <|
  lt1 (up M_15 89 (Int.toNat (M_15 81 39)) 0) fun M_18 =>
  chk (0 ≤ (M_18 81 39) ∧ (M_18 81 39) < 2) <|
  lt1 (up M_18 90 (Int.toNat (M_18 81 39)) 0) fun M_21 =>
  chk (0 ≤ (M_21 81 39) ∧ (M_21 81 39) < 2) <|
  lt1 (up M_21 91 (Int.toNat (M_21 81 39)) 0) fun M_24 =>
  lt1 (up M_24 81 40 (900 * (M_24 81 39))) fun M_25 =>
  some M_25

def M_factMany (M : Mem) : Option (Int) :=
  chk (0 ≤ (M 81 38) ∧ (M 81 38) < 2) <|
  some (M 84 (Int.toNat (M 81 38)))

def M_worldMany (M : Mem) : Option (Int) :=
  (M_factMany M).bind fun r_1 =>
  some (ishl 1 r_1)

def M_rowMany (M : Mem) : Option (Int) :=
  chk (0 ≤ (M 81 38) ∧ (M 81 38) < 2) <|
  some (M 86 (Int.toNat (M 81 38)))

def M_spot (r : Int) (w : Int) (M : Mem) : Option (Int) :=
  some ((256 * r) + w)

def M_minds_b34 (top : Int) (holds_ : Int) (l4_3 : Int) (l5_4 : Int) (M_5 : Mem) : Int × Int → Option ((Int × Int) ⊕ (Int))
  | (l6_14, l7_15) =>
    (M_worldMany M_5).bind fun r_23 =>
    if n32 l7_15 < n32 r_23 then
      chk (0 ≤ l7_15 ∧ l7_15 < 256) <|
      (
        if ¬ n32 (M_5 111 (Int.toNat l7_15)) = 0 then
          if ¬ n32 (iand (ixor' l7_15 l5_4) l4_3) = 0 then
            some l6_14
          else
            (
              if ¬ n32 holds_ = 0 then
                (
                  if ¬ n32 l6_14 = 0 then
                    (M_spot top l7_15 M_5).bind fun r_39 =>
                    chk (0 ≤ r_39 ∧ r_39 < 20480) <|
                    if ¬ n32 (M_5 113 (Int.toNat r_39)) = 0 then
                      some true
                    else
                      some false
                  else
                    some false
                ).bind fun c_38 =>
                if c_38 = true then
                  some (1 : Int)
                else
                  some (0 : Int)
              else
                (
                  if n32 l6_14 = 0 then
                    (M_spot top l7_15 M_5).bind fun r_47 =>
                    chk (0 ≤ r_47 ∧ r_47 < 20480) <|
                    if ¬ n32 (M_5 113 (Int.toNat r_47)) = 0 then
                      some true
                    else
                      some false
                  else
                    some true
                ).bind fun c_46 =>
                if c_46 = true then
                  some (1 : Int)
                else
                  some (0 : Int)
            ).bind fun v_30 =>
            some v_30
        else
          some l6_14
      ).bind fun l6_26 =>
      lt1 (l7_15 + 1) fun l7_53 =>
      some (.inl (l6_26, l7_53))
    else
      some (.inr l6_14)

def M_minds_b19 (top : Int) (holds_ : Int) (l4_3 : Int) : Int × Mem → Option ((Int × Mem) ⊕ (Mem))
  | (l5_4, M_5) =>
    (M_worldMany M_5).bind fun r_13 =>
    if n32 l5_4 < n32 r_13 then
      (it (M_minds_b34 top holds_ l4_3 l5_4 M_5) FUEL (holds_, 0)).bind fun l6_22 =>
      (M_spot (top + 1) l5_4 M_5).bind fun r_55 =>
      chk (0 ≤ r_55 ∧ r_55 < 20480) <|
      chk (l6_22 = 0 ∨ l6_22 = 1) <|
      lt1 (up M_5 113 (Int.toNat r_55) l6_22) fun M_59 =>
      lt1 (l5_4 + 1) fun l5_60 =>
      some (.inl (l5_60, M_59))
    else
      some (.inr M_5)

def M_minds_b154 (top : Int) : Int × Mem → Option ((Int × Mem) ⊕ (Mem))
  | (l5_62, M_63) =>
    (M_worldMany M_63).bind fun r_71 =>
    if n32 l5_62 < n32 r_71 then
      (M_spot top l5_62 M_63).bind fun r_72 =>
      (M_spot (top + 1) l5_62 M_63).bind fun r_73 =>
      chk (0 ≤ r_73 ∧ r_73 < 20480) <|
      chk (0 ≤ r_72 ∧ r_72 < 20480) <|
      chk ((M_63 113 (Int.toNat r_73)) = 0 ∨ (M_63 113 (Int.toNat r_73)) = 1) <|
      lt1 (up M_63 113 (Int.toNat r_72) (M_63 113 (Int.toNat r_73))) fun M_79 =>
      lt1 (l5_62 + 1) fun l5_80 =>
      some (.inl (l5_80, M_79))
    else
      some (.inr M_63)
def M_minds (top : Int) (p : Int) (holds_ : Int) (M : Mem) : Option (Mem) :=
  chk (0 ≤ ((8 * (M 81 38)) + p) ∧ ((8 * (M 81 38)) + p) < 16) <|
  lt1 ((M 97 (Int.toNat ((8 * (M 81 38)) + p)))) fun l4_3 =>
  (it (M_minds_b19 top holds_ l4_3) FUEL (0, M)).bind fun M_12 =>
  (it (M_minds_b154 top) FUEL (0, M_12)).bind fun M_70 =>
  some M_70

def M_bothOf_b2 (c : Int) (top : Int) : Int × Mem → Option ((Int × Mem) ⊕ (Mem))
  | (l3_1, M_2) =>
    (M_worldMany M_2).bind fun r_10 =>
    if n32 l3_1 < n32 r_10 then
      (M_spot (top - 1) l3_1 M_2).bind fun r_11 =>
      chk (0 ≤ r_11 ∧ r_11 < 20480) <|
      lt1 ((M_2 113 (Int.toNat r_11))) fun l4_14 =>
      (M_spot top l3_1 M_2).bind fun r_15 =>
      chk (0 ≤ r_15 ∧ r_15 < 20480) <|
      lt1 ((M_2 113 (Int.toNat r_15))) fun l5_18 =>
      (M_spot (top - 1) l3_1 M_2).bind fun r_19 =>
      (
        if n32 c = 6 then
          if (¬ n32 l4_14 = 0) ∧ (¬ n32 l5_18 = 0) then
            some (1 : Int)
          else
            some (0 : Int)
        else
          if n32 c = 7 then
            if (¬ n32 l4_14 = 0) ∨ (¬ n32 l5_18 = 0) then
              some (1 : Int)
            else
              some (0 : Int)
          else
            if (¬ n32 l4_14 = 0) ∨ (n32 l5_18 = 0) then
              some (1 : Int)
            else
              some (0 : Int)
      ).bind fun v_20 =>
      chk (0 ≤ r_19 ∧ r_19 < 20480) <|
      chk (v_20 = 0 ∨ v_20 = 1) <|
      lt1 (up M_2 113 (Int.toNat r_19) v_20) fun M_47 =>
      lt1 (l3_1 + 1) fun l3_48 =>
      some (.inl (l3_48, M_47))
    else
      some (.inr M_2)
def M_bothOf (c : Int) (top : Int) (M : Mem) : Option (Mem) :=
  (it (M_bothOf_b2 c top) FUEL (0, M)).bind fun M_9 =>
  some M_9

def M_layColumn_b50 (l2_4 : Int) (l4_16 : Int) (l5_17 : Int) : Int × Mem → Option ((Int × Mem) ⊕ (Mem))
  | (l6_23, M_24) =>
    (M_worldMany M_24).bind fun r_32 =>
    if n32 l6_23 < n32 r_32 then
      (M_spot l2_4 l6_23 M_24).bind fun r_33 =>
      (
        if n32 l4_16 = 1 then
          if n32 (iand (ishr l6_23 l5_17) 1) = 1 then
            some (1 : Int)
          else
            some (0 : Int)
        else
          (M_spot l5_17 l6_23 M_24).bind fun r_39 =>
          chk (0 ≤ r_39 ∧ r_39 < 3072) <|
          some (M_24 112 (Int.toNat r_39))
      ).bind fun v_34 =>
      chk (0 ≤ r_33 ∧ r_33 < 20480) <|
      chk (v_34 = 0 ∨ v_34 = 1) <|
      lt1 (up M_24 113 (Int.toNat r_33) v_34) fun M_46 =>
      lt1 (l6_23 + 1) fun l6_47 =>
      some (.inl (l6_47, M_46))
    else
      some (.inr M_24)

def M_layColumn_b128 (l2_4 : Int) : Int × Mem → Option ((Int × Mem) ⊕ (Mem))
  | (l6_50, M_51) =>
    (M_worldMany M_51).bind fun r_59 =>
    if n32 l6_50 < n32 r_59 then
      (M_spot (l2_4 - 1) l6_50 M_51).bind fun r_60 =>
      (M_spot (l2_4 - 1) l6_50 M_51).bind fun r_61 =>
      chk (0 ≤ r_61 ∧ r_61 < 20480) <|
      (
        if n32 (M_51 113 (Int.toNat r_61)) = 0 then
          some (1 : Int)
        else
          some (0 : Int)
      ).bind fun v_64 =>
      chk (0 ≤ r_60 ∧ r_60 < 20480) <|
      chk (v_64 = 0 ∨ v_64 = 1) <|
      lt1 (up M_51 113 (Int.toNat r_60) v_64) fun M_72 =>
      lt1 (l6_50 + 1) fun l6_73 =>
      some (.inl (l6_73, M_72))
    else
      some (.inr M_51)

def M_layColumn_b9 (u : Int) : Int × Int × Mem → Option ((Int × Int × Mem) ⊕ (Mem))
  | (l2_4, l3_5, M_6) =>
    if n32 l3_5 < n32 (M_6 105 (Int.toNat u)) then
      chk (0 ≤ l3_5 ∧ l3_5 < 1800) <|
      lt1 ((M_6 106 (Int.toNat l3_5))) fun l4_16 =>
      lt1 ((M_6 107 (Int.toNat l3_5))) fun l5_17 =>
      (
        if (n32 l4_16 = 1) ∨ (n32 l4_16 = 2) then
          (it (M_layColumn_b50 l2_4 l4_16 l5_17) FUEL (0, M_6)).bind fun M_31 =>
          lt1 (l2_4 + 1) fun l2_49 =>
          some (l2_49, M_31)
        else
          if n32 l4_16 = 3 then
            (it (M_layColumn_b128 l2_4) FUEL (0, M_6)).bind fun M_58 =>
            some (l2_4, M_58)
          else
            if (n32 l4_16 = 4) ∨ (n32 l4_16 = 5) then
              (
                if n32 l4_16 = 4 then
                  some (1 : Int)
                else
                  some (0 : Int)
              ).bind fun v_75 =>
              (M_minds (l2_4 - 1) l5_17 v_75 M_6).bind fun M_80 =>
              some (l2_4, M_80)
            else
              (M_bothOf l4_16 (l2_4 - 1) M_6).bind fun M_81 =>
              lt1 (l2_4 + (-1)) fun l2_82 =>
              some (l2_82, M_81)
      ).bind fun (l2_18, M_19) =>
      lt1 (l3_5 + 1) fun l3_96 =>
      some (.inl (l2_18, l3_96, M_19))
    else
      some (.inr M_6)
def M_layColumn (u : Int) (M : Mem) : Option (Mem) :=
  chk (0 ≤ u ∧ u < 34) <|
  lt1 ((M 104 (Int.toNat u))) fun l3_3 =>
  (it (M_layColumn_b9 u) FUEL (0, l3_3, M)).bind fun M_13 =>
  some M_13

def M_layRows_b46 (l2_1 : Int) : Int × Mem → Option ((Int × Mem) ⊕ (Mem))
  | (l3_18, M_19) =>
    (M_worldMany M_19).bind fun r_27 =>
    if n32 l3_18 < n32 r_27 then
      (M_spot l2_1 l3_18 M_19).bind fun r_28 =>
      chk (0 ≤ l3_18 ∧ l3_18 < 20480) <|
      chk (0 ≤ r_28 ∧ r_28 < 3072) <|
      chk ((M_19 113 (Int.toNat l3_18)) = 0 ∨ (M_19 113 (Int.toNat l3_18)) = 1) <|
      lt1 (up M_19 112 (Int.toNat r_28) (M_19 113 (Int.toNat l3_18))) fun M_34 =>
      lt1 (l3_18 + 1) fun l3_35 =>
      some (.inl (l3_35, M_34))
    else
      some (.inr M_19)

def M_layRows_b2 (thinkingOnes : Int) : Int × Mem → Option ((Int × Mem) ⊕ (Mem))
  | (l2_1, M_2) =>
    (M_rowMany M_2).bind fun r_10 =>
    if n32 l2_1 < n32 r_10 then
      chk (0 ≤ ((12 * (M_2 81 38)) + l2_1) ∧ ((12 * (M_2 81 38)) + l2_1) < 24) <|
      (
        if ¬ n32 (M_2 92 (Int.toNat ((12 * (M_2 81 38)) + l2_1))) = n32 thinkingOnes then
          some M_2
        else
          (M_layColumn ((17 * (M_2 81 38)) + l2_1) M_2).bind fun M_17 =>
          (it (M_layRows_b46 l2_1) FUEL (0, M_17)).bind fun M_26 =>
          some M_26
      ).bind fun M_13 =>
      lt1 (l2_1 + 1) fun l2_38 =>
      some (.inl (l2_38, M_13))
    else
      some (.inr M_2)
def M_layRows (thinkingOnes : Int) (M : Mem) : Option (Mem) :=
  (it (M_layRows_b2 thinkingOnes) FUEL (0, M)).bind fun M_9 =>
  some M_9

def M_personMany (M : Mem) : Option (Int) :=
  chk (0 ≤ (M 81 38) ∧ (M 81 38) < 2) <|
  some (M 85 (Int.toNat (M 81 38)))

def M_answerOf_b25 (r : Int) (w : Int) (M : Mem) (l4_3 : Int) : Int × Int × Int → Option ((Int × Int × Int) ⊕ (Int × Int))
  | (l5_4, l6_5, l7_6) =>
    (M_worldMany M).bind fun r_15 =>
    if n32 l7_6 < n32 r_15 then
      chk (0 ≤ l7_6 ∧ l7_6 < 256) <|
      (
        if ¬ n32 (M 111 (Int.toNat l7_6)) = 0 then
          if ¬ n32 (iand (ixor' l7_6 w) l4_3) = 0 then
            some (l5_4, l6_5)
          else
            (
              (
                if n32 l5_4 = 0 then
                  (M_spot r l7_6 M).bind fun r_32 =>
                  chk (0 ≤ r_32 ∧ r_32 < 3072) <|
                  if ¬ n32 (M 112 (Int.toNat r_32)) = 0 then
                    some true
                  else
                    some false
                else
                  some true
              ).bind fun c_31 =>
              if c_31 = true then
                some (1 : Int)
              else
                some (0 : Int)
            ).bind fun v_23 =>
            (
              (
                if ¬ n32 l6_5 = 0 then
                  (M_spot r l7_6 M).bind fun r_44 =>
                  chk (0 ≤ r_44 ∧ r_44 < 3072) <|
                  if ¬ n32 (M 112 (Int.toNat r_44)) = 0 then
                    some true
                  else
                    some false
                else
                  some false
              ).bind fun c_43 =>
              if c_43 = true then
                some (1 : Int)
              else
                some (0 : Int)
            ).bind fun v_35 =>
            some (v_23, v_35)
        else
          some (l5_4, l6_5)
      ).bind fun (l5_18, l6_19) =>
      lt1 (l7_6 + 1) fun l7_49 =>
      some (.inl (l5_18, l6_19, l7_49))
    else
      some (.inr (l5_4, l6_5))
def M_answerOf (p : Int) (r : Int) (w : Int) (M : Mem) : Option (Int) :=
  chk (0 ≤ ((8 * (M 81 38)) + p) ∧ ((8 * (M 81 38)) + p) < 16) <|
  lt1 ((M 97 (Int.toNat ((8 * (M 81 38)) + p)))) fun l4_3 =>
  (it (M_answerOf_b25 r w M l4_3) FUEL (0, 1, 0)).bind fun (l5_13, l6_14) =>
  if ¬ n32 l6_14 = 0 then
    some 1
  else
    if ¬ n32 l5_13 = 0 then
      some 2
    else
      some 0

def M_layWorlds_b2 : Int × Mem → Option ((Int × Mem) ⊕ (Mem))
  | (l1_1, M_2) =>
    if n32 l1_1 < 256 then
      (M_worldMany M_2).bind fun r_10 =>
      (
        if n32 l1_1 < n32 r_10 then
          some (1 : Int)
        else
          some (0 : Int)
      ).bind fun v_11 =>
      chk (0 ≤ l1_1 ∧ l1_1 < 256) <|
      chk (v_11 = 0 ∨ v_11 = 1) <|
      lt1 (up M_2 111 (Int.toNat l1_1) v_11) fun M_19 =>
      lt1 (l1_1 + 1) fun l1_20 =>
      some (.inl (l1_20, M_19))
    else
      some (.inr M_2)

def M_layWorlds_b72 : Int × Mem → Option ((Int × Mem) ⊕ (Mem))
  | (l2_35, M_36) =>
    (M_worldMany M_36).bind fun r_44 =>
    if n32 l2_35 < n32 r_44 then
      chk (0 ≤ l2_35 ∧ l2_35 < 256) <|
      (
        (
          if ¬ n32 (M_36 111 (Int.toNat l2_35)) = 0 then
            chk (0 ≤ l2_35 ∧ l2_35 < 20480) <|
            if ¬ n32 (M_36 113 (Int.toNat l2_35)) = 0 then
              some true
            else
              some false
          else
            some false
        ).bind fun c_55 =>
        if c_55 = true then
          some (1 : Int)
        else
          some (0 : Int)
      ).bind fun v_47 =>
      chk (v_47 = 0 ∨ v_47 = 1) <|
      lt1 (up M_36 111 (Int.toNat l2_35) v_47) fun M_59 =>
      lt1 (l2_35 + 1) fun l2_60 =>
      some (.inl (l2_60, M_59))
    else
      some (.inr M_36)

def M_layWorlds_b41 : Int × Mem → Option ((Int × Mem) ⊕ (Mem))
  | (l1_23, M_24) =>
    chk (0 ≤ (M_24 81 38) ∧ (M_24 81 38) < 2) <|
    if n32 l1_23 < n32 (M_24 87 (Int.toNat (M_24 81 38))) then
      (M_layColumn (((17 * (M_24 81 38)) + 12) + l1_23) M_24).bind fun M_34 =>
      (it (M_layWorlds_b72) FUEL (0, M_34)).bind fun M_43 =>
      lt1 (l1_23 + 1) fun l1_62 =>
      some (.inl (l1_62, M_43))
    else
      some (.inr M_24)

def M_layWorlds_b148 (l1_65 : Int) (l2_75 : Int) : Int × Mem → Option ((Int × Mem) ⊕ (Mem))
  | (l3_85, M_86) =>
    (M_worldMany M_86).bind fun r_94 =>
    if n32 l3_85 < n32 r_94 then
      chk (0 ≤ l3_85 ∧ l3_85 < 256) <|
      (
        if ¬ n32 (M_86 111 (Int.toNat l3_85)) = 0 then
          (M_answerOf l1_65 l2_75 l3_85 M_86).bind fun r_101 =>
          chk (0 ≤ ((256 * ((12 * l1_65) + l2_75)) + l3_85) ∧ ((256 * ((12 * l1_65) + l2_75)) + l3_85) < 24576) <|
          lt1 (up M_86 114 (Int.toNat ((256 * ((12 * l1_65) + l2_75)) + l3_85)) r_101) fun M_104 =>
          some M_104
        else
          some M_86
      ).bind fun M_97 =>
      lt1 (l3_85 + 1) fun l3_106 =>
      some (.inl (l3_106, M_97))
    else
      some (.inr M_86)

def M_layWorlds_b138 (l1_65 : Int) : Int × Mem → Option ((Int × Mem) ⊕ (Mem))
  | (l2_75, M_76) =>
    (M_rowMany M_76).bind fun r_84 =>
    if n32 l2_75 < n32 r_84 then
      (it (M_layWorlds_b148 l1_65 l2_75) FUEL (0, M_76)).bind fun M_93 =>
      lt1 (l2_75 + 1) fun l2_108 =>
      some (.inl (l2_108, M_93))
    else
      some (.inr M_76)

def M_layWorlds_b128 : Int × Mem → Option ((Int × Mem) ⊕ (Mem))
  | (l1_65, M_66) =>
    (M_personMany M_66).bind fun r_74 =>
    if n32 l1_65 < n32 r_74 then
      (it (M_layWorlds_b138 l1_65) FUEL (0, M_66)).bind fun M_83 =>
      lt1 (l1_65 + 1) fun l1_110 =>
      some (.inl (l1_110, M_83))
    else
      some (.inr M_66)
def M_layWorlds (M : Mem) : Option (Mem) :=
  (it (M_layWorlds_b2) FUEL (0, M)).bind fun M_9 =>
  (M_layRows 0 M_9).bind fun M_22 =>
  (it (M_layWorlds_b41) FUEL (0, M_22)).bind fun M_31 =>
  (M_layRows 1 M_31).bind fun M_64 =>
  (it (M_layWorlds_b128) FUEL (0, M_64)).bind fun M_73 =>
  some M_73

def M_sign (k : Int) (M : Mem) : Option (Int) :=
  if n32 k < n32 (M 81 3) then
    chk (0 ≤ k ∧ k < 1600) <|
    some (iand (M 83 (Int.toNat k)) 255)
  else
    some 0

def M_isLetter (c : Int) (M : Mem) : Option (Int) :=
  if (97 ≤ n32 c) ∧ (n32 c ≤ 122) then
    some 1
  else
    some 0

def M_isKept (v : Int) (M : Mem) : Option (Int) :=
  (
    if (n64 v = n64 1717658484) ∨ ((n64 v = n64 123581014175598) ∨ ((n64 v = n64 1668248436) ∨ ((n64 v = n64 461414299507) ∨ ((n64 v = n64 7499639) ∨ ((n64 v = n64 107118487239027) ∨ ((n64 v = n64 7629157) ∨ ((n64 v = n64 482955846501) ∨ ((n64 v = n64 2003399528) ∨ (n64 v = n64 512970880104))))))))) then
      some (1 : Int)
    else
      some (0 : Int)
  ).bind fun v_1 =>
  if (¬ n32 v_1 = 0) ∨ ((n64 v = n64 7102839) ∨ ((n64 v = n64 26982) ∨ ((n64 v = n64 28530) ∨ ((n64 v = n64 6385252) ∨ ((n64 v = n64 7237492) ∨ ((n64 v = n64 448545973363) ∨ ((n64 v = n64 127991794264947) ∨ ((n64 v = n64 130220881569139) ∨ ((n64 v = n64 418497262196) ∨ (n64 v = n64 1953064292)))))))))) then
    some 1
  else
    some 0

def M_isDigit (c : Int) (M : Mem) : Option (Int) :=
  if (48 ≤ n32 c) ∧ (n32 c ≤ 57) then
    some 1
  else
    some 0

def M_isSign (c : Int) (M : Mem) : Option (Int) :=
  if (n32 c = 59) ∨ ((n32 c = 40) ∨ ((n32 c = 41) ∨ ((n32 c = 60) ∨ ((n32 c = 62) ∨ ((n32 c = 61) ∨ ((n32 c = 43) ∨ (n32 c = 45))))))) then
    some 1
  else
    some 0

def M_goOn_b8 : Mem → Option ((Mem) ⊕ (Mem))
  | M_2 =>
    if n32 (M_2 81 6) < n32 (M_2 81 3) then
      (M_sign (M_2 81 6) M_2).bind fun r_10 =>
      (
        if ¬ n32 r_10 = 32 then
          (M_sign (M_2 81 6) M_2).bind fun r_16 =>
          if n32 r_16 = 10 then
            some true
          else
            some false
        else
          some true
      ).bind fun c_15 =>
      if c_15 = true then
        lt1 (up M_2 81 6 ((M_2 81 6) + 1)) fun M_17 =>
        some (.inl M_17)
      else
        some (.inr M_2)
    else
      some (.inr M_2)

def M_goOn_b119 : Mem → Option ((Mem) ⊕ (Mem))
  | M_25 =>
    (M_sign (M_25 81 7) M_25).bind fun r_33 =>
    (M_isLetter r_33 M_25).bind fun r_34 =>
    if ¬ n32 r_34 = 0 then
      lt1 (up M_25 81 7 ((M_25 81 7) + 1)) fun M_35 =>
      some (.inl M_35)
    else
      some (.inr M_25)

def M_goOn_b156 : Int × Mem → Option ((Int × Mem) ⊕ (Mem))
  | (l2_39, M_40) =>
    if (n32 l2_39 < n32 (M_40 81 7)) ∧ (n32 l2_39 < n32 ((M_40 81 6) + 8)) then
      (M_sign l2_39 M_40).bind fun r_48 =>
      lt1 (up M_40 81 10 (jor (jshl (M_40 81 10) 8) (n32 r_48))) fun M_49 =>
      lt1 (l2_39 + 1) fun l2_50 =>
      some (.inl (l2_50, M_49))
    else
      some (.inr M_40)

def M_goOn_b259 : Mem → Option ((Mem) ⊕ (Mem))
  | M_68 =>
    (M_sign (M_68 81 7) M_68).bind fun r_76 =>
    (M_isDigit r_76 M_68).bind fun r_77 =>
    if ¬ n32 r_77 = 0 then
      (
        if n32 ((M_68 81 7) - (M_68 81 6)) < 4 then
          (M_sign (M_68 81 7) M_68).bind fun r_82 =>
          lt1 (up M_68 81 9 (((10 * (M_68 81 9)) + r_82) - 48)) fun M_83 =>
          some M_83
        else
          some M_68
      ).bind fun M_78 =>
      lt1 (up M_78 81 7 ((M_78 81 7) + 1)) fun M_85 =>
      some (.inl M_85)
    else
      some (.inr M_68)
def M_goOn (M : Mem) : Option (Mem) :=
  lt1 (up M 81 6 (M 81 7)) fun M_1 =>
  (it (M_goOn_b8) FUEL M_1).bind fun M_9 =>
  (M_sign (M_9 81 6) M_9).bind fun r_19 =>
  lt1 (up M_9 81 7 ((M_9 81 6) + 1)) fun M_20 =>
  if n32 (M_20 81 3) ≤ n32 (M_20 81 6) then
    lt1 (up M_20 81 8 0) fun M_21 =>
    lt1 (up M_21 81 6 (M_21 81 3)) fun M_22 =>
    lt1 (up M_22 81 7 (M_22 81 3)) fun M_23 =>
    some M_23
  else
    (M_isLetter r_19 M_20).bind fun r_24 =>
    if ¬ n32 r_24 = 0 then
      (it (M_goOn_b119) FUEL M_20).bind fun M_32 =>
      lt1 (up M_32 81 10 0) fun M_37 =>
      lt1 ((M_37 81 6)) fun l2_38 =>
      (it (M_goOn_b156) FUEL (l2_38, M_37)).bind fun M_47 =>
      (
        if 8 < n32 ((M_47 81 7) - (M_47 81 6)) then
          some (1 : Int)
        else
          (M_isKept (M_47 81 10) M_47).bind fun r_61 =>
          if ¬ n32 r_61 = 0 then
            some (3 : Int)
          else
            some (2 : Int)
      ).bind fun v_57 =>
      lt1 (up M_47 81 8 v_57) fun M_64 =>
      some M_64
    else
      (M_isDigit r_19 M_20).bind fun r_65 =>
      if ¬ n32 r_65 = 0 then
        lt1 (up M_20 81 9 0) fun M_66 =>
        lt1 (up M_66 81 7 (M_66 81 6)) fun M_67 =>
        (it (M_goOn_b259) FUEL M_67).bind fun M_75 =>
        (
          (
            if n32 ((M_75 81 7) - (M_75 81 6)) ≤ 4 then
              (M_sign (M_75 81 7) M_75).bind fun r_96 =>
              (M_isLetter r_96 M_75).bind fun r_97 =>
              if ¬ n32 r_97 = 0 then
                some true
              else
                some false
            else
              some true
          ).bind fun c_95 =>
          if c_95 = true then
            some (1 : Int)
          else
            some (4 : Int)
        ).bind fun v_87 =>
        lt1 (up M_75 81 8 v_87) fun M_98 =>
        some M_98
      else
        (M_isSign r_19 M_20).bind fun r_99 =>
        (
          if ¬ n32 r_99 = 0 then
            some (5 : Int)
          else
            some (1 : Int)
        ).bind fun v_100 =>
        lt1 (up M_20 81 8 v_100) fun M_105 =>
        some M_105

def M_isGood (M : Mem) : Option (Int) :=
  if n32 (M 81 4) = 0 then
    some 1
  else
    some 0

def M_isWord (w : Int) (M : Mem) : Option (Int) :=
  if (n32 (M 81 8) = 3) ∧ (n64 (M 81 10) = n64 w) then
    some 1
  else
    some 0

def M_isFull (M : Mem) : Option (Int) :=
  (M_isWord 1717658484 M).bind fun r_1 =>
  if ¬ n32 r_1 = 0 then
    chk (0 ≤ (M 81 39) ∧ (M 81 39) < 2) <|
    if n32 (M 84 (Int.toNat (M 81 39))) = 8 then
      some 1
    else
      some 0
  else
    (M_isWord 123581014175598 M).bind fun r_5 =>
    if ¬ n32 r_5 = 0 then
      chk (0 ≤ (M 81 39) ∧ (M 81 39) < 2) <|
      if n32 (M 85 (Int.toNat (M 81 39))) = 8 then
        some 1
      else
        some 0
    else
      (M_isWord 7499639 M).bind fun r_9 =>
      if ¬ n32 r_9 = 0 then
        chk (0 ≤ (M 81 39) ∧ (M 81 39) < 2) <|
        if n32 (M 86 (Int.toNat (M 81 39))) = 12 then
          some 1
        else
          some 0
      else
        (M_isWord 107118487239027 M).bind fun r_13 =>
        if ¬ n32 r_13 = 0 then
          chk (0 ≤ (M 81 39) ∧ (M 81 39) < 2) <|
          if n32 (M 87 (Int.toNat (M 81 39))) = 4 then
            some 1
          else
            some 0
        else
          (M_isWord 7629157 M).bind fun r_17 =>
          if ¬ n32 r_17 = 0 then
            chk (0 ≤ (M 81 39) ∧ (M 81 39) < 2) <|
            if n32 (M 88 (Int.toNat (M 81 39))) = 12 then
              some 1
            else
              some 0
          else
            (M_isWord 2003399528 M).bind fun r_21 =>
            if ¬ n32 r_21 = 0 then
              chk (0 ≤ (M 81 39) ∧ (M 81 39) < 2) <|
              if n32 (M 89 (Int.toNat (M 81 39))) = 12 then
                some 1
              else
                some 0
            else
              (M_isWord 7102839 M).bind fun r_25 =>
              (
                if ¬ n32 r_25 = 0 then
                  chk (0 ≤ (M 81 39) ∧ (M 81 39) < 2) <|
                  if ¬ n32 (M 91 (Int.toNat (M 81 39))) = 0 then
                    some true
                  else
                    some false
                else
                  some true
              ).bind fun c_30 =>
              if c_30 = true then
                some 1
              else
                some 0

def M_fails (kind : Int) (place : Int) (M : Mem) : Option (Mem) :=
  if 0 < n32 (M 81 4) then
    some M
  else
    lt1 (up M 81 4 kind) fun M_1 =>
    lt1 (up M_1 81 5 place) fun M_2 =>
    some M_2

def M_misplaced (M : Mem) : Option (Mem) :=
  (
    if n32 (M 81 8) = 1 then
      some (1 : Int)
    else
      some (2 : Int)
  ).bind fun v_1 =>
  (M_fails v_1 (M 81 6) M).bind fun M_6 =>
  some M_6

def M_here_b3 (row : Nat) (from_ : Int) (many : Int) (M : Mem) : Int → Option ((Int) ⊕ ((Unit) ⊕ (Int)))
  | l4_1 =>
    if n32 l4_1 < n32 many then
      (
        if n32 (M 81 8) = 2 then
          chk (0 ≤ (from_ + l4_1) ∧ (from_ + l4_1) < aJ 138 row) <|
          if n64 (M row (Int.toNat (from_ + l4_1))) = n64 (M 81 10) then
            some true
          else
            some false
        else
          some false
      ).bind fun c_12 =>
      if c_12 = true then
        some (.inr (.inr l4_1))
      else
        lt1 (l4_1 + 1) fun l4_20 =>
        some (.inl l4_20)
    else
      some (.inr (.inl ()))
def M_here (row : Nat) (from_ : Int) (many : Int) (M : Mem) : Option (Int) :=
  (it (M_here_b3 row from_ many M) FUEL 0).bind fun x => match x with
  | .inl _ =>
    some (-1)
  | .inr rv_22 => some rv_22

def M_factHere (M : Mem) : Option (Int) :=
  chk (0 ≤ (M 81 39) ∧ (M 81 39) < 2) <|
  (M_here 93 (8 * (M 81 39)) (M 84 (Int.toNat (M 81 39))) M).bind fun r_3 =>
  some r_3

def M_rowHere (M : Mem) : Option (Int) :=
  chk (0 ≤ (M 81 39) ∧ (M 81 39) < 2) <|
  (M_here 95 (12 * (M 81 39)) (M 86 (Int.toNat (M 81 39))) M).bind fun r_3 =>
  some r_3

def M_fresh (has_ : Int) (M : Mem) : Option (Int × Mem) :=
  (M_isGood M).bind fun r_1 =>
  if n32 r_1 = 0 then
    some (0, M)
  else
    (
      if ¬ n32 (M 81 8) = 2 then
        (M_misplaced M).bind fun M_6 =>
        some M_6
      else
        if ¬ n32 has_ = 0 then
          (M_fails 3 (M 81 6) M).bind fun M_7 =>
          some M_7
        else
          some M
    ).bind fun M_2 =>
    lt1 ((M_2 81 10)) fun l2_10 =>
    (M_isGood M_2).bind fun r_11 =>
    (
      if ¬ n32 r_11 = 0 then
        (M_goOn M_2).bind fun M_16 =>
        some M_16
      else
        some M_2
    ).bind fun M_12 =>
    some (l2_10, M_12)

def M_readFact (M : Mem) : Option (Mem) :=
  chk (0 ≤ (M 81 39) ∧ (M 81 39) < 2) <|
  (M_factHere M).bind fun r_3 =>
  (
    (
      if n32 r_3 < 0 then
        (M_rowHere M).bind fun r_13 =>
        if 0 ≤ n32 r_13 then
          some true
        else
          some false
      else
        some true
    ).bind fun c_12 =>
    if c_12 = true then
      some (1 : Int)
    else
      some (0 : Int)
  ).bind fun v_4 =>
  (M_fresh v_4 M).bind fun (r_14, M_15) =>
  chk (0 ≤ ((8 * (M 81 39)) + (M 84 (Int.toNat (M 81 39)))) ∧ ((8 * (M 81 39)) + (M 84 (Int.toNat (M 81 39)))) < 16) <|
  lt1 (up M_15 93 (Int.toNat ((8 * (M 81 39)) + (M 84 (Int.toNat (M 81 39))))) r_14) fun M_18 =>
  chk (0 ≤ (M_18 81 39) ∧ (M_18 81 39) < 2) <|
  lt1 (up M_18 84 (Int.toNat (M_18 81 39)) ((M_18 84 (Int.toNat (M_18 81 39))) + 1)) fun M_21 =>
  some M_21

def M_personHere (M : Mem) : Option (Int) :=
  chk (0 ≤ (M 81 39) ∧ (M 81 39) < 2) <|
  (M_here 94 (8 * (M 81 39)) (M 85 (Int.toNat (M 81 39))) M).bind fun r_3 =>
  some r_3

def M_must (is_ : Int) (M : Mem) : Option (Mem) :=
  (M_isGood M).bind fun r_1 =>
  if n32 r_1 = 0 then
    some M
  else
    if ¬ n32 is_ = 0 then
      (M_goOn M).bind fun M_2 =>
      some M_2
    else
      (M_misplaced M).bind fun M_3 =>
      some M_3

def M_after (word : Int) (most : Int) (M : Mem) : Option (Int × Mem) :=
  (M_isWord word M).bind fun r_1 =>
  (M_must r_1 M).bind fun M_2 =>
  (M_isGood M_2).bind fun r_3 =>
  if n32 r_3 = 0 then
    some (0, M_2)
  else
    (
      if ¬ n32 (M_2 81 8) = 4 then
        (M_misplaced M_2).bind fun M_8 =>
        some M_8
      else
        if n32 most < n32 (M_2 81 9) then
          (M_fails 4 (M_2 81 6) M_2).bind fun M_9 =>
          some M_9
        else
          some M_2
    ).bind fun M_4 =>
    lt1 ((M_4 81 9)) fun l4_12 =>
    (M_isGood M_4).bind fun r_13 =>
    (
      if ¬ n32 r_13 = 0 then
        (M_goOn M_4).bind fun M_18 =>
        some M_18
      else
        some M_4
    ).bind fun M_14 =>
    some (l4_12, M_14)

def M_told (which : Int) (M : Mem) : Option (Int × Mem) :=
  (M_isGood M).bind fun r_1 =>
  if n32 r_1 = 0 then
    some (0, M)
  else
    (
      if ¬ n32 (M 81 8) = 2 then
        (M_misplaced M).bind fun M_6 =>
        some M_6
      else
        if n32 which < 0 then
          (M_fails 5 (M 81 6) M).bind fun M_7 =>
          some M_7
        else
          some M
    ).bind fun M_2 =>
    (M_isGood M_2).bind fun r_10 =>
    (
      if ¬ n32 r_10 = 0 then
        (M_goOn M_2).bind fun M_15 =>
        some M_15
      else
        some M_2
    ).bind fun M_11 =>
    if n32 which < 0 then
      some (0, M_11)
    else
      some (which, M_11)

def M_readPerson_b99 (l1_3 : Int) : Int × Mem → Option ((Int × Mem) ⊕ (Mem))
  | (l2_30, M_31) =>
    (M_isGood M_31).bind fun r_39 =>
    if ¬ n32 r_39 = 0 then
      if (¬ n32 l2_30 = 0) ∨ (n32 (M_31 81 8) = 2) then
        (M_factHere M_31).bind fun r_40 =>
        (
          (
            if 0 ≤ n32 r_40 then
              if n32 (iand (ishr (M_31 97 (Int.toNat l1_3)) r_40) 1) = 1 then
                some true
              else
                some false
            else
              some false
          ).bind fun c_49 =>
          if c_49 = true then
            (M_fails 3 (M_31 81 6) M_31).bind fun M_50 =>
            some M_50
          else
            some M_31
        ).bind fun M_41 =>
        (M_told r_40 M_41).bind fun (r_51, M_52) =>
        lt1 (up M_52 97 (Int.toNat l1_3) (ior' (M_41 97 (Int.toNat l1_3)) (ishl 1 r_51))) fun M_53 =>
        some (.inl (0, M_53))
      else
        some (.inr M_31)
    else
      some (.inr M_31)
def M_readPerson (M : Mem) : Option (Mem) :=
  chk (0 ≤ (M 81 39) ∧ (M 81 39) < 2) <|
  lt1 (((8 * (M 81 39)) + (M 85 (Int.toNat (M 81 39))))) fun l1_3 =>
  (M_personHere M).bind fun r_4 =>
  (
    if 0 ≤ n32 r_4 then
      some (1 : Int)
    else
      some (0 : Int)
  ).bind fun v_5 =>
  (M_fresh v_5 M).bind fun (r_10, M_11) =>
  chk (0 ≤ l1_3 ∧ l1_3 < 16) <|
  lt1 (up M_11 94 (Int.toNat l1_3) r_10) fun M_14 =>
  (M_after 1668248436 99 M_14).bind fun (r_15, M_16) =>
  lt1 (up M_16 96 (Int.toNat l1_3) r_15) fun M_17 =>
  lt1 (up M_17 97 (Int.toNat l1_3) 0) fun M_18 =>
  chk (0 ≤ (M_18 81 39) ∧ (M_18 81 39) < 2) <|
  lt1 (up M_18 85 (Int.toNat (M_18 81 39)) ((M_18 85 (Int.toNat (M_18 81 39))) + 1)) fun M_21 =>
  (M_isGood M_21).bind fun r_22 =>
  (
    if ¬ n32 r_22 = 0 then
      (M_isWord 461414299507 M_21).bind fun r_28 =>
      if n32 r_28 = 0 then
        some true
      else
        some false
    else
      some true
  ).bind fun c_27 =>
  if c_27 = true then
    some M_21
  else
    (M_goOn M_21).bind fun M_29 =>
    (it (M_readPerson_b99 l1_3) FUEL (1, M_29)).bind fun M_38 =>
    some M_38

def M_pushE (what : Int) (sign : Int) (n_ : Int) (M : Mem) : Option (Mem) :=
  chk (0 ≤ (M 81 42) ∧ (M 81 42) < 120) <|
  lt1 (up M 108 (Int.toNat (M 81 42)) what) fun M_3 =>
  chk (0 ≤ (M_3 81 42) ∧ (M_3 81 42) < 120) <|
  lt1 (up M_3 109 (Int.toNat (M_3 81 42)) sign) fun M_6 =>
  chk (0 ≤ (M_6 81 42) ∧ (M_6 81 42) < 120) <|
  lt1 (up M_6 110 (Int.toNat (M_6 81 42)) n_) fun M_9 =>
  lt1 (up M_9 81 42 ((M_9 81 42) + 1)) fun M_10 =>
  some M_10

def M_stands (c : Int) (M : Mem) : Option (Int) :=
  (
    if n32 (M 81 8) = 5 then
      (M_sign (M 81 6) M).bind fun r_6 =>
      if n32 r_6 = n32 c then
        some true
      else
        some false
    else
      some false
  ).bind fun c_5 =>
  if c_5 = true then
    some 1
  else
    some 0

def M_opens (what : Int) (sign : Int) (n_ : Int) (M : Mem) : Option (Int × Mem) :=
  (M_pushE what sign n_ M).bind fun M_1 =>
  lt1 (up M_1 81 41 ((M_1 81 41) + 1)) fun M_2 =>
  some (1, M_2)

def M_emit (c : Int) (n_ : Int) (M : Mem) : Option (Mem) :=
  chk (0 ≤ (M 81 40) ∧ (M 81 40) < 1800) <|
  lt1 (up M 106 (Int.toNat (M 81 40)) c) fun M_3 =>
  chk (0 ≤ (M_3 81 40) ∧ (M_3 81 40) < 1800) <|
  lt1 (up M_3 107 (Int.toNat (M_3 81 40)) n_) fun M_6 =>
  lt1 (up M_6 81 40 ((M_6 81 40) + 1)) fun M_7 =>
  some M_7

def M_part (M : Mem) : Option (Int × Mem) :=
  (M_stands 40 M).bind fun r_1 =>
  (
    if n32 (M 81 8) = 4 then
      some (11 : Int)
    else
      (M_isWord 130220881569139 M).bind fun r_6 =>
      if ¬ n32 r_6 = 0 then
        some (12 : Int)
      else
        (M_isWord 418497262196 M).bind fun r_7 =>
        if ¬ n32 r_7 = 0 then
          some (13 : Int)
        else
          (M_isWord 1953064292 M).bind fun r_8 =>
          if ¬ n32 r_8 = 0 then
            some (14 : Int)
          else
            (M_isWord 127991794264947 M).bind fun r_9 =>
            if ¬ n32 r_9 = 0 then
              some (15 : Int)
            else
              some (0 : Int)
  ).bind fun v_2 =>
  (
    jn (fun (_ : Unit) =>
      (M_misplaced M).bind fun M_37 =>
      some M_37
    ) fun j_19 =>
    (
      if n32 v_2 = 0 then
        if ¬ n32 r_1 = 0 then
          chk (0 ≤ (M 81 39) ∧ (M 81 39) < 2) <|
          if ¬ n32 (M 90 (Int.toNat (M 81 39))) = 80 then
            some true
          else
            some false
        else
          some false
      else
        chk (0 ≤ (M 81 39) ∧ (M 81 39) < 2) <|
        if ¬ n32 (M 90 (Int.toNat (M 81 39))) = 80 then
          some true
        else
          some false
    ).bind fun c_26 =>
    if c_26 = true then
      if (¬ n32 r_1 = 0) ∧ (n32 (M 81 41) = 7) then
        j_19 ()
      else
        some M
    else
      j_19 ()
  ).bind fun M_15 =>
  (M_isGood M_15).bind fun r_38 =>
  if n32 r_38 = 0 then
    some (1, M_15)
  else
    chk (0 ≤ (M_15 81 39) ∧ (M_15 81 39) < 2) <|
    lt1 (up M_15 90 (Int.toNat (M_15 81 39)) ((M_15 90 (Int.toNat (M_15 81 39))) + 1)) fun M_41 =>
    lt1 ((M_41 81 9)) fun l3_42 =>
    (M_goOn M_41).bind fun M_43 =>
    if ¬ n32 r_1 = 0 then
      (M_opens 7 0 0 M_43).bind fun (r_44, M_45) =>
      chk (r_44 = 0 ∨ r_44 = 1) <|
      some (r_44, M_45)
    else
      (M_emit v_2 l3_42 M_43).bind fun M_47 =>
      some (0, M_47)

def M_mindful (sign : Int) (M : Mem) : Option (Int × Mem) :=
  (M_goOn M).bind fun M_1 =>
  lt1 (up M_1 81 45 1) fun M_2 =>
  (M_personHere M_2).bind fun r_3 =>
  (M_told r_3 M_2).bind fun (r_4, M_5) =>
  (M_opens 4 sign r_4 M_5).bind fun (r_6, M_7) =>
  chk (r_6 = 0 ∨ r_6 = 1) <|
  some (r_6, M_7)

def M_unit (M : Mem) : Option (Int × Mem) :=
  (M_isWord 7237492 M).bind fun r_1 =>
  (M_isWord 448545973363 M).bind fun r_2 =>
  (
    (
      if n32 r_2 = 0 then
        (M_isWord 127991794264947 M).bind fun r_12 =>
        if ¬ n32 r_12 = 0 then
          some true
        else
          some false
      else
        some true
    ).bind fun c_11 =>
    if c_11 = true then
      some (1 : Int)
    else
      some (0 : Int)
  ).bind fun v_3 =>
  (M_stands 40 M).bind fun r_13 =>
  (
    if (¬ n32 r_1 = 0) ∨ (¬ n32 v_3 = 0) then
      some (1 : Int)
    else
      some (0 : Int)
  ).bind fun v_14 =>
  (
    jn (fun (_ : Unit) =>
      (M_misplaced M).bind fun M_60 =>
      some M_60
    ) fun j_28 =>
    jn (fun (_ : Unit) =>
      if ((n32 v_14 = 0) ∧ ((n32 r_13 = 0) ∨ (¬ n32 (M 81 41) = 7))) ∨ ((¬ n32 v_14 = 0) ∧ (¬ n32 (M 81 41) = 7)) then
        if (¬ n32 v_3 = 0) ∧ (¬ n32 (M 81 44) = 0) then
          j_28 ()
        else
          some M
      else
        j_28 ()
    ) fun j_31 =>
    if n32 v_14 = 0 then
      (
        if ¬ n32 (M 81 8) = 2 then
          if ¬ n32 r_13 = 0 then
            chk (0 ≤ (M 81 39) ∧ (M 81 39) < 2) <|
            if ¬ n32 (M 90 (Int.toNat (M 81 39))) = 80 then
              some true
            else
              some false
          else
            some false
        else
          chk (0 ≤ (M 81 39) ∧ (M 81 39) < 2) <|
          if ¬ n32 (M 90 (Int.toNat (M 81 39))) = 80 then
            some true
          else
            some false
      ).bind fun c_38 =>
      if c_38 = true then
        j_31 ()
      else
        j_28 ()
    else
      j_31 ()
  ).bind fun M_24 =>
  (M_isGood M_24).bind fun r_61 =>
  if n32 r_61 = 0 then
    some (1, M_24)
  else
    if ¬ n32 v_3 = 0 then
      (M_isWord 448545973363 M_24).bind fun r_62 =>
      (
        if ¬ n32 r_62 = 0 then
          some (4 : Int)
        else
          some (5 : Int)
      ).bind fun v_63 =>
      (M_mindful v_63 M_24).bind fun (r_68, M_69) =>
      chk (r_68 = 0 ∨ r_68 = 1) <|
      some (r_68, M_69)
    else
      if ¬ n32 r_1 = 0 then
        (M_goOn M_24).bind fun M_71 =>
        (M_opens 4 3 0 M_71).bind fun (r_72, M_73) =>
        chk (r_72 = 0 ∨ r_72 = 1) <|
        some (r_72, M_73)
      else
        chk (0 ≤ (M_24 81 39) ∧ (M_24 81 39) < 2) <|
        lt1 (up M_24 90 (Int.toNat (M_24 81 39)) ((M_24 90 (Int.toNat (M_24 81 39))) + 1)) fun M_77 =>
        if ¬ n32 r_13 = 0 then
          (M_goOn M_77).bind fun M_78 =>
          (M_opens 7 0 0 M_78).bind fun (r_79, M_80) =>
          chk (r_79 = 0 ∨ r_79 = 1) <|
          some (r_79, M_80)
        else
          (M_factHere M_77).bind fun r_82 =>
          (M_rowHere M_77).bind fun r_83 =>
          (
            if n32 r_82 < 0 then
              jn (fun (_ : Unit) =>
                (M_fails 5 (M_77 81 6) M_77).bind fun M_99 =>
                some M_99
              ) fun j_88 =>
              if 0 ≤ n32 r_83 then
                (
                  if ¬ n32 (M_77 81 44) = 0 then
                    chk (0 ≤ ((12 * (M_77 81 39)) + r_83) ∧ ((12 * (M_77 81 39)) + r_83) < 24) <|
                    if ¬ n32 (M_77 92 (Int.toNat ((12 * (M_77 81 39)) + r_83))) = 0 then
                      some true
                    else
                      some false
                  else
                    some false
                ).bind fun c_95 =>
                if c_95 = true then
                  j_88 ()
                else
                  some M_77
              else
                j_88 ()
            else
              some M_77
          ).bind fun M_84 =>
          (M_isGood M_84).bind fun r_101 =>
          if n32 r_101 = 0 then
            some (1, M_84)
          else
            (
              jn (fun (_ : Unit) =>
                some (1 : Int)
              ) fun j_106 =>
              if n32 (M_84 81 45) = 0 then
                (
                  if n32 r_82 < 0 then
                    chk (0 ≤ ((12 * (M_84 81 39)) + r_83) ∧ ((12 * (M_84 81 39)) + r_83) < 24) <|
                    if ¬ n32 (M_84 92 (Int.toNat ((12 * (M_84 81 39)) + r_83))) = 0 then
                      some true
                    else
                      some false
                  else
                    some false
                ).bind fun c_113 =>
                if c_113 = true then
                  j_106 ()
                else
                  some (0 : Int)
              else
                j_106 ()
            ).bind fun v_102 =>
            chk (v_102 = 0 ∨ v_102 = 1) <|
            lt1 (up M_84 81 45 v_102) fun M_118 =>
            (
              if n32 r_82 < 0 then
                some (2 : Int)
              else
                some (1 : Int)
            ).bind fun v_119 =>
            (
              if n32 r_82 < 0 then
                some r_83
              else
                some r_82
            ).bind fun v_124 =>
            (M_emit v_119 v_124 M_118).bind fun M_129 =>
            (M_goOn M_129).bind fun M_130 =>
            some (0, M_130)

def M_rankHere (M : Mem) : Option (Int) :=
  (M_isWord 28530 M).bind fun r_1 =>
  if ¬ n32 r_1 = 0 then
    some 2
  else
    if ¬ n32 (M 81 43) = 0 then
      (M_stands 60 M).bind fun r_2 =>
      (
        if n32 r_2 = 0 then
          (M_stands 62 M).bind fun r_8 =>
          if n32 r_8 = 0 then
            (M_stands 61 M).bind fun r_9 =>
            if ¬ n32 r_9 = 0 then
              some true
            else
              some false
          else
            some true
        else
          some true
      ).bind fun c_7 =>
      if c_7 = true then
        some 5
      else
        (M_stands 43 M).bind fun r_10 =>
        (
          if n32 r_10 = 0 then
            (M_stands 45 M).bind fun r_16 =>
            if ¬ n32 r_16 = 0 then
              some true
            else
              some false
          else
            some true
        ).bind fun c_15 =>
        if c_15 = true then
          some 6
        else
          some 0
    else
      (M_isWord 26982 M).bind fun r_17 =>
      if ¬ n32 r_17 = 0 then
        some 1
      else
        (M_isWord 6385252 M).bind fun r_18 =>
        if ¬ n32 r_18 = 0 then
          some 3
        else
          some 0

def M_isAgain_b7 (rank : Int) (M : Mem) : Int → Option ((Int) ⊕ (Int))
  | l2_2 =>
    chk (0 ≤ l2_2 ∧ l2_2 < 120) <|
    if n32 (M 108 (Int.toNat l2_2)) < 7 then
      jn (fun (_ : Unit) =>
        lt1 (l2_2 + (-1)) fun l2_18 =>
        some (.inl l2_18)
      ) fun j_12 =>
      if n32 rank = 1 then
        if 1 < n32 (M 108 (Int.toNat l2_2)) then
          j_12 ()
        else
          some (.inr l2_2)
      else
        if n32 (M 108 (Int.toNat l2_2)) = 6 then
          j_12 ()
        else
          some (.inr l2_2)
    else
      some (.inr l2_2)
def M_isAgain (rank : Int) (M : Mem) : Option (Int) :=
  lt1 (((M 81 42) - 1)) fun l2_1 =>
  (it (M_isAgain_b7 rank M) FUEL l2_1).bind fun l2_9 =>
  chk (0 ≤ l2_9 ∧ l2_9 < 120) <|
  if n32 (M 108 (Int.toNat l2_9)) = n32 rank then
    some 1
  else
    some 0

def M_behindUnit_b29 (r_1 : Int) : Mem → Option ((Mem) ⊕ (Mem))
  | M_14 =>
    chk (0 ≤ ((M_14 81 42) - 1) ∧ ((M_14 81 42) - 1) < 120) <|
    (
      if n32 (M_14 108 (Int.toNat ((M_14 81 42) - 1))) < 7 then
        if n32 r_1 ≤ n32 (M_14 108 (Int.toNat ((M_14 81 42) - 1))) then
          some true
        else
          some false
      else
        some false
    ).bind fun c_28 =>
    if c_28 = true then
      lt1 (up M_14 81 42 ((M_14 81 42) - 1)) fun M_29 =>
      chk (0 ≤ (M_29 81 42) ∧ (M_29 81 42) < 120) <|
      (
        if n32 (M_29 108 (Int.toNat (M_29 81 42))) = 4 then
          lt1 (up M_29 81 41 ((M_29 81 41) - 1)) fun M_36 =>
          some M_36
        else
          some M_29
      ).bind fun M_32 =>
      chk (0 ≤ (M_32 81 42) ∧ (M_32 81 42) < 120) <|
      (M_emit (M_32 109 (Int.toNat (M_32 81 42))) (M_32 110 (Int.toNat (M_32 81 42))) M_32).bind fun M_40 =>
      some (.inl M_40)
    else
      some (.inr M_14)
def M_behindUnit (M : Mem) : Option (Int × Mem) :=
  (M_rankHere M).bind fun r_1 =>
  jn (fun (M_2 : Mem) =>
    (it (M_behindUnit_b29 r_1) FUEL M_2).bind fun M_21 =>
    if 0 < n32 r_1 then
      (
        if n32 r_1 = 1 then
          some (8 : Int)
        else
          if n32 r_1 = 2 then
            some (7 : Int)
          else
            if n32 r_1 = 3 then
              some (6 : Int)
            else
              (M_sign (M_21 81 6) M_21).bind fun r_45 =>
              some r_45
      ).bind fun v_41 =>
      (M_pushE r_1 v_41 0 M_21).bind fun M_49 =>
      (M_goOn M_49).bind fun M_50 =>
      some (1, M_50)
    else
      lt1 (up M_21 81 42 ((M_21 81 42) - 1)) fun M_51 =>
      chk (0 ≤ (M_51 81 42) ∧ (M_51 81 42) < 120) <|
      (
        if n32 (M_51 108 (Int.toNat (M_51 81 42))) = 7 then
          lt1 (up M_51 81 41 ((M_51 81 41) - 1)) fun M_58 =>
          (M_stands 41 M_58).bind fun r_59 =>
          (M_must r_59 M_58).bind fun M_60 =>
          some M_60
        else
          some M_51
      ).bind fun M_54 =>
      some (0, M_54)
  ) fun j_3 =>
  (
    if ¬ n32 r_1 = 1 then
      if n32 r_1 = 5 then
        (M_isAgain r_1 M).bind fun r_12 =>
        if ¬ n32 r_12 = 0 then
          some true
        else
          some false
      else
        some false
    else
      (M_isAgain r_1 M).bind fun r_11 =>
      if ¬ n32 r_11 = 0 then
        some true
      else
        some false
  ).bind fun c_10 =>
  if c_10 = true then
    (M_misplaced M).bind fun M_13 =>
    some (1, M_13)
  else
    j_3 M

def M_e_b20 : Int × Mem → Option ((Int × Mem) ⊕ (Mem))
  | (l1_4, M_5) =>
    (M_isGood M_5).bind fun r_13 =>
    if (¬ n32 r_13 = 0) ∧ (0 < n32 (M_5 81 42)) then
      (
        if ¬ n32 l1_4 = 0 then
          if ¬ n32 (M_5 81 43) = 0 then
            (M_part M_5).bind fun (r_19, M_20) =>
            some (r_19, M_20)
          else
            (M_unit M_5).bind fun (r_21, M_22) =>
            some (r_21, M_22)
        else
          (M_behindUnit M_5).bind fun (r_24, M_25) =>
          some (r_24, M_25)
      ).bind fun (v_14, M_15) =>
      some (.inl (v_14, M_15))
    else
      some (.inr M_5)
def M_e (M : Mem) : Option (Mem) :=
  lt1 (up M 81 42 0) fun M_1 =>
  lt1 (up M_1 81 41 0) fun M_2 =>
  (M_pushE 8 0 0 M_2).bind fun M_3 =>
  (it (M_e_b20) FUEL (1, M_3)).bind fun M_12 =>
  some M_12

def M_readRow (M : Mem) : Option (Mem) :=
  chk (0 ≤ (M 81 39) ∧ (M 81 39) < 2) <|
  lt1 (((12 * (M 81 39)) + (M 86 (Int.toNat (M 81 39))))) fun l1_3 =>
  (M_factHere M).bind fun r_4 =>
  (
    (
      if n32 r_4 < 0 then
        (M_rowHere M).bind fun r_14 =>
        if 0 ≤ n32 r_14 then
          some true
        else
          some false
      else
        some true
    ).bind fun c_13 =>
    if c_13 = true then
      some (1 : Int)
    else
      some (0 : Int)
  ).bind fun v_5 =>
  (M_fresh v_5 M).bind fun (r_15, M_16) =>
  chk (0 ≤ l1_3 ∧ l1_3 < 24) <|
  lt1 (up M_16 95 (Int.toNat l1_3) r_15) fun M_19 =>
  chk (0 ≤ (M_19 81 39) ∧ (M_19 81 39) < 2) <|
  lt1 (((17 * (M_19 81 39)) + (M_19 86 (Int.toNat (M_19 81 39))))) fun l2_22 =>
  chk (0 ≤ l2_22 ∧ l2_22 < 34) <|
  lt1 (up M_19 104 (Int.toNat l2_22) (M_19 81 40)) fun M_25 =>
  lt1 (up M_25 81 43 0) fun M_26 =>
  lt1 (up M_26 81 44 0) fun M_27 =>
  lt1 (up M_27 81 45 0) fun M_28 =>
  (M_isGood M_28).bind fun r_29 =>
  (
    if ¬ n32 r_29 = 0 then
      (M_e M_28).bind fun M_34 =>
      some M_34
    else
      some M_28
  ).bind fun M_30 =>
  lt1 (up M_30 105 (Int.toNat l2_22) (M_30 81 40)) fun M_36 =>
  chk ((M_36 81 45) = 0 ∨ (M_36 81 45) = 1) <|
  lt1 (up M_36 92 (Int.toNat l1_3) (M_36 81 45)) fun M_38 =>
  chk (0 ≤ (M_38 81 39) ∧ (M_38 81 39) < 2) <|
  lt1 (up M_38 86 (Int.toNat (M_38 81 39)) ((M_38 86 (Int.toNat (M_38 81 39))) + 1)) fun M_41 =>
  some M_41

def M_readAlways (M : Mem) : Option (Mem) :=
  chk (0 ≤ (M 81 39) ∧ (M 81 39) < 2) <|
  lt1 ((((17 * (M 81 39)) + 12) + (M 87 (Int.toNat (M 81 39))))) fun l1_3 =>
  chk (0 ≤ l1_3 ∧ l1_3 < 34) <|
  lt1 (up M 104 (Int.toNat l1_3) (M 81 40)) fun M_6 =>
  lt1 (up M_6 81 43 0) fun M_7 =>
  lt1 (up M_7 81 44 1) fun M_8 =>
  (M_e M_8).bind fun M_9 =>
  lt1 (up M_9 105 (Int.toNat l1_3) (M_9 81 40)) fun M_10 =>
  chk (0 ≤ (M_10 81 39) ∧ (M_10 81 39) < 2) <|
  lt1 (up M_10 87 (Int.toNat (M_10 81 39)) ((M_10 87 (Int.toNat (M_10 81 39))) + 1)) fun M_13 =>
  some M_13

def M_readTie_b57 (l1_3 : Int) (r_5 : Int) (M_6 : Mem) (r_7 : Int) : Int × Int → Option ((Int × Int) ⊕ (Int))
  | (l4_19, l5_20) =>
    if n32 l5_20 < n32 l1_3 then
      (
        jn (fun (_ : Unit) =>
          some (1 : Int)
        ) fun j_32 =>
        if n32 l4_19 = 0 then
          jn (fun (_ : Unit) =>
            some (0 : Int)
          ) fun j_35 =>
          if 0 ≤ n32 r_7 then
            chk (0 ≤ l5_20 ∧ l5_20 < 24) <|
            (
              if n32 (M_6 98 (Int.toNat l5_20)) = n32 r_5 then
                if ¬ n32 (M_6 99 (Int.toNat l5_20)) = n32 r_7 then
                  some true
                else
                  some false
              else
                some true
            ).bind fun c_44 =>
            if c_44 = true then
              (
                if n32 (M_6 98 (Int.toNat l5_20)) = n32 r_7 then
                  if n32 (M_6 99 (Int.toNat l5_20)) = n32 r_5 then
                    some true
                  else
                    some false
                else
                  some false
              ).bind fun c_49 =>
              if c_49 = true then
                j_32 ()
              else
                j_35 ()
            else
              j_32 ()
          else
            j_35 ()
        else
          j_32 ()
      ).bind fun v_28 =>
      lt1 (l5_20 + 1) fun l5_52 =>
      some (.inl (v_28, l5_52))
    else
      some (.inr l4_19)
def M_readTie (M : Mem) : Option (Mem) :=
  chk (0 ≤ (M 81 39) ∧ (M 81 39) < 2) <|
  lt1 (((12 * (M 81 39)) + (M 88 (Int.toNat (M 81 39))))) fun l1_3 =>
  (M_personHere M).bind fun r_4 =>
  (M_told r_4 M).bind fun (r_5, M_6) =>
  (M_personHere M_6).bind fun r_7 =>
  (
    if (0 ≤ n32 r_7) ∧ (n32 r_5 = n32 r_7) then
      some (1 : Int)
    else
      some (0 : Int)
  ).bind fun v_8 =>
  lt1 ((12 * (M_6 81 39))) fun l5_18 =>
  (it (M_readTie_b57 l1_3 r_5 M_6 r_7) FUEL (v_8, l5_18)).bind fun l4_27 =>
  (M_isGood M_6).bind fun r_54 =>
  (
    if (¬ n32 r_54 = 0) ∧ (¬ n32 l4_27 = 0) then
      (M_fails 3 (M_6 81 6) M_6).bind fun M_59 =>
      some M_59
    else
      some M_6
  ).bind fun M_55 =>
  chk (0 ≤ l1_3 ∧ l1_3 < 24) <|
  lt1 (up M_55 98 (Int.toNat l1_3) r_5) fun M_68 =>
  (M_told r_7 M_68).bind fun (r_69, M_70) =>
  lt1 (up M_70 99 (Int.toNat l1_3) r_69) fun M_71 =>
  (M_after 482955846501 99 M_71).bind fun (r_72, M_73) =>
  lt1 (up M_73 100 (Int.toNat l1_3) r_72) fun M_74 =>
  chk (0 ≤ (M_74 81 39) ∧ (M_74 81 39) < 2) <|
  lt1 (up M_74 88 (Int.toNat (M_74 81 39)) ((M_74 88 (Int.toNat (M_74 81 39))) + 1)) fun M_77 =>
  some M_77

def M_readWish_b41 (l1_3 : Int) (r_5 : Int) (r_7 : Int) : Int × Mem → Option ((Int × Mem) ⊕ (Mem))
  | (l4_9, M_10) =>
    (
      if n32 l4_9 < n32 l1_3 then
        (M_isGood M_10).bind fun r_23 =>
        if ¬ n32 r_23 = 0 then
          some true
        else
          some false
      else
        some false
    ).bind fun c_22 =>
    if c_22 = true then
      (
        (
          if 0 ≤ n32 r_7 then
            chk (0 ≤ l4_9 ∧ l4_9 < 24) <|
            if n32 (M_10 101 (Int.toNat l4_9)) = n32 r_5 then
              if n32 (M_10 102 (Int.toNat l4_9)) = n32 r_7 then
                some true
              else
                some false
            else
              some false
          else
            some false
        ).bind fun c_32 =>
        if c_32 = true then
          (M_fails 3 (M_10 81 6) M_10).bind fun M_35 =>
          some M_35
        else
          some M_10
      ).bind fun M_24 =>
      lt1 (l4_9 + 1) fun l4_36 =>
      some (.inl (l4_36, M_24))
    else
      some (.inr M_10)
def M_readWish (M : Mem) : Option (Mem) :=
  chk (0 ≤ (M 81 39) ∧ (M 81 39) < 2) <|
  lt1 (((12 * (M 81 39)) + (M 89 (Int.toNat (M 81 39))))) fun l1_3 =>
  (M_personHere M).bind fun r_4 =>
  (M_told r_4 M).bind fun (r_5, M_6) =>
  (M_rowHere M_6).bind fun r_7 =>
  lt1 ((12 * (M_6 81 39))) fun l4_8 =>
  (it (M_readWish_b41 l1_3 r_5 r_7) FUEL (l4_8, M_6)).bind fun M_17 =>
  chk (0 ≤ l1_3 ∧ l1_3 < 24) <|
  lt1 (up M_17 101 (Int.toNat l1_3) r_5) fun M_39 =>
  (M_told r_7 M_39).bind fun (r_40, M_41) =>
  lt1 (up M_41 102 (Int.toNat l1_3) r_40) fun M_42 =>
  (M_after 512970880104 99 M_42).bind fun (r_43, M_44) =>
  lt1 (up M_44 103 (Int.toNat l1_3) r_43) fun M_45 =>
  chk (0 ≤ (M_45 81 39) ∧ (M_45 81 39) < 2) <|
  lt1 (up M_45 89 (Int.toNat (M_45 81 39)) ((M_45 89 (Int.toNat (M_45 81 39))) + 1)) fun M_48 =>
  some M_48

def M_readLaw (M : Mem) : Option (Mem) :=
  lt1 (((17 * (M 81 39)) + 16)) fun l1_1 =>
  chk (0 ≤ l1_1 ∧ l1_1 < 34) <|
  lt1 (up M 104 (Int.toNat l1_1) (M 81 40)) fun M_4 =>
  lt1 (up M_4 81 43 1) fun M_5 =>
  (M_e M_5).bind fun M_6 =>
  lt1 (up M_6 105 (Int.toNat l1_1) (M_6 81 40)) fun M_7 =>
  chk (0 ≤ (M_7 81 39) ∧ (M_7 81 39) < 2) <|
  lt1 (up M_7 91 (Int.toNat (M_7 81 39)) 1) fun M_10 =>
  some M_10

def M_readLine (M : Mem) : Option (Mem) :=
  lt1 ((M 81 10)) fun l1_1 =>
  (
    (
      if n32 (M 81 8) = 3 then
        (M_isFull M).bind fun r_11 =>
        if ¬ n32 r_11 = 0 then
          some true
        else
          some false
      else
        some true
    ).bind fun c_10 =>
    if c_10 = true then
      (M_misplaced M).bind fun M_12 =>
      some M_12
    else
      some M
  ).bind fun M_2 =>
  (M_isGood M_2).bind fun r_13 =>
  if n32 r_13 = 0 then
    some M_2
  else
    (M_goOn M_2).bind fun M_14 =>
    (
      if n64 l1_1 = n64 1717658484 then
        (M_readFact M_14).bind fun M_19 =>
        some M_19
      else
        some M_14
    ).bind fun M_15 =>
    (
      if n64 l1_1 = n64 123581014175598 then
        (M_readPerson M_15).bind fun M_25 =>
        some M_25
      else
        some M_15
    ).bind fun M_21 =>
    (
      if n64 l1_1 = n64 7499639 then
        (M_readRow M_21).bind fun M_31 =>
        some M_31
      else
        some M_21
    ).bind fun M_27 =>
    (
      if n64 l1_1 = n64 107118487239027 then
        (M_readAlways M_27).bind fun M_37 =>
        some M_37
      else
        some M_27
    ).bind fun M_33 =>
    (
      if n64 l1_1 = n64 7629157 then
        (M_readTie M_33).bind fun M_43 =>
        some M_43
      else
        some M_33
    ).bind fun M_39 =>
    (
      if n64 l1_1 = n64 2003399528 then
        (M_readWish M_39).bind fun M_49 =>
        some M_49
      else
        some M_39
    ).bind fun M_45 =>
    (
      if n64 l1_1 = n64 7102839 then
        (M_readLaw M_45).bind fun M_55 =>
        some M_55
      else
        some M_45
    ).bind fun M_51 =>
    (M_stands 59 M_51).bind fun r_57 =>
    (M_must r_57 M_51).bind fun M_58 =>
    some M_58

def M_baseMany_b4 (M : Mem) : Int × Int → Option ((Int × Int) ⊕ (Int))
  | (l1_1, l2_2) =>
    (M_worldMany M).bind fun r_10 =>
    if n32 l2_2 < n32 r_10 then
      chk (0 ≤ l2_2 ∧ l2_2 < 256) <|
      (
        if ¬ n32 (M 111 (Int.toNat l2_2)) = 0 then
          some (1 : Int)
        else
          some (0 : Int)
      ).bind fun v_13 =>
      lt1 ((l1_1 + v_13)) fun l1_18 =>
      lt1 (l2_2 + 1) fun l2_19 =>
      some (.inl (l1_18, l2_19))
    else
      some (.inr l1_1)
def M_baseMany (M : Mem) : Option (Int) :=
  (it (M_baseMany_b4 M) FUEL (0, 0)).bind fun l1_9 =>
  some l1_9

def M_town_b20 : Int × Mem → Option ((Int × Mem) ⊕ (Mem))
  | (l1_4, M_5) =>
    if n32 l1_4 < n32 (M_5 81 3) then
      chk (0 ≤ l1_4 ∧ l1_4 < 1620) <|
      chk (0 ≤ l1_4 ∧ l1_4 < 1600) <|
      chk (-128 ≤ (M_5 82 (Int.toNat l1_4)) ∧ (M_5 82 (Int.toNat l1_4)) < 128) <|
      lt1 (up M_5 83 (Int.toNat l1_4) (M_5 82 (Int.toNat l1_4))) fun M_19 =>
      lt1 (l1_4 + 1) fun l1_20 =>
      some (.inl (l1_20, M_19))
    else
      some (.inr M_5)

def M_town_b74 : Mem → Option ((Mem) ⊕ (Mem))
  | M_27 =>
    (M_isGood M_27).bind fun r_35 =>
    if (¬ n32 r_35 = 0) ∧ (¬ n32 (M_27 81 8) = 0) then
      (M_readLine M_27).bind fun M_36 =>
      some (.inl M_36)
    else
      some (.inr M_27)

def M_town_b119 : Int × Mem → Option ((Int × Mem) ⊕ (Mem))
  | (l1_46, M_47) =>
    if n32 l1_46 < 3 then
      chk (0 ≤ l1_46 ∧ l1_46 < 3) <|
      lt1 (up M_47 132 (Int.toNat l1_46) (-1)) fun M_57 =>
      lt1 (l1_46 + 1) fun l1_58 =>
      some (.inl (l1_58, M_57))
    else
      some (.inr M_47)
def M_town (M : Mem) : Option (Int × Mem) :=
  lt1 (up M 81 4 0) fun M_1 =>
  lt1 (up M_1 81 5 (-1)) fun M_2 =>
  lt1 (up M_2 81 3 (M_2 81 2)) fun M_3 =>
  (it (M_town_b20) FUEL (0, M_3)).bind fun M_12 =>
  lt1 (up M_12 81 2 0) fun M_22 =>
  lt1 (up M_22 81 7 0) fun M_23 =>
  lt1 (up M_23 81 39 (1 - (M_23 81 38))) fun M_24 =>
  (M_clearBank M_24).bind fun M_25 =>
  (M_goOn M_25).bind fun M_26 =>
  (it (M_town_b74) FUEL M_26).bind fun M_34 =>
  (M_isGood M_34).bind fun r_43 =>
  if n32 r_43 = 0 then
    some ((-1), M_34)
  else
    lt1 (up M_34 81 38 (M_34 81 39)) fun M_44 =>
    lt1 (up M_44 81 57 0) fun M_45 =>
    (it (M_town_b119) FUEL (0, M_45)).bind fun M_54 =>
    (M_layWorlds M_54).bind fun M_60 =>
    (M_baseMany M_60).bind fun r_61 =>
    some (r_61, M_60)

def M_fault (what : Int) (M : Mem) : Option (Int) :=
  if n32 what = 0 then
    some (M 81 4)
  else
    if n32 what = 1 then
      some (M 81 5)
    else
      some (-1)

def M_isIn (v : Int) (least : Int) (most : Int) (M : Mem) : Option (Int) :=
  if (n32 least ≤ n32 v) ∧ (n32 v ≤ n32 most) then
    some 1
  else
    some 0

def M_isRow (r : Int) (M : Mem) : Option (Int) :=
  (M_rowMany M).bind fun r_1 =>
  (M_isIn r 0 (r_1 - 1) M).bind fun r_2 =>
  chk (r_2 = 0 ∨ r_2 = 1) <|
  some r_2

def M_isWorld (w : Int) (M : Mem) : Option (Int) :=
  (M_worldMany M).bind fun r_1 =>
  (M_isIn w 0 (r_1 - 1) M).bind fun r_2 =>
  (
    if ¬ n32 r_2 = 0 then
      chk (0 ≤ w ∧ w < 256) <|
      if ¬ n32 (M 111 (Int.toNat w)) = 0 then
        some true
      else
        some false
    else
      some false
  ).bind fun c_7 =>
  if c_7 = true then
    some 1
  else
    some 0

def M_is (r : Int) (w : Int) (M : Mem) : Option (Int) :=
  (M_isRow r M).bind fun r_1 =>
  (
    if ¬ n32 r_1 = 0 then
      (M_isWorld w M).bind fun r_7 =>
      if n32 r_7 = 0 then
        some true
      else
        some false
    else
      some true
  ).bind fun c_6 =>
  if c_6 = true then
    some (-1)
  else
    (M_spot r w M).bind fun r_8 =>
    chk (0 ≤ r_8 ∧ r_8 < 3072) <|
    if ¬ n32 (M 112 (Int.toNat r_8)) = 0 then
      some 1
    else
      some 0

def M_isPerson (p : Int) (M : Mem) : Option (Int) :=
  (M_personMany M).bind fun r_1 =>
  (M_isIn p 0 (r_1 - 1) M).bind fun r_2 =>
  chk (r_2 = 0 ∨ r_2 = 1) <|
  some r_2

def M_answerAt (p : Int) (r : Int) (w : Int) (M : Mem) : Option (Int) :=
  chk (0 ≤ ((256 * ((12 * p) + r)) + w) ∧ ((256 * ((12 * p) + r)) + w) < 24576) <|
  some (M 114 (Int.toNat ((256 * ((12 * p) + r)) + w)))

def M_answers (p : Int) (r : Int) (w : Int) (M : Mem) : Option (Int) :=
  (M_isPerson p M).bind fun r_1 =>
  (
    if ¬ n32 r_1 = 0 then
      (M_isRow r M).bind fun r_7 =>
      if ¬ n32 r_7 = 0 then
        (M_isWorld w M).bind fun r_8 =>
        if ¬ n32 r_8 = 0 then
          some true
        else
          some false
      else
        some false
    else
      some false
  ).bind fun c_6 =>
  if c_6 = true then
    (M_answerAt p r w M).bind fun r_9 =>
    some r_9
  else
    some (-1)

def M_areSome (set_ : Int) (M : Mem) : Option (Int) :=
  (
    if 0 < n32 set_ then
      (M_personMany M).bind fun r_6 =>
      if n32 set_ < n32 (ishl 1 r_6) then
        some true
      else
        some false
    else
      some false
  ).bind fun c_5 =>
  if c_5 = true then
    some 1
  else
    some 0

def M_bitsOf_b4 (set_ : Int) : Int × Int → Option ((Int × Int) ⊕ (Int))
  | (l1_1, l2_2) =>
    if n32 l2_2 < 31 then
      lt1 ((l1_1 + (iand (ishr set_ l2_2) 1))) fun l1_10 =>
      lt1 (l2_2 + 1) fun l2_11 =>
      some (.inl (l1_10, l2_11))
    else
      some (.inr l1_1)
def M_bitsOf (set_ : Int) (M : Mem) : Option (Int) :=
  (it (M_bitsOf_b4 set_) FUEL (0, 0)).bind fun l1_9 =>
  some l1_9

def M_tiedIn_b8 (set_ : Int) (M : Mem) : Int → Option ((Int) ⊕ ((Unit) ⊕ (Int)))
  | l2_2 =>
    chk (0 ≤ (M 81 38) ∧ (M 81 38) < 2) <|
    if n32 l2_2 < n32 ((12 * (M 81 38)) + (M 88 (Int.toNat (M 81 38)))) then
      chk (0 ≤ l2_2 ∧ l2_2 < 24) <|
      if n32 (iand (iand (ishr set_ (M 98 (Int.toNat l2_2))) (ishr set_ (M 99 (Int.toNat l2_2)))) 1) = 1 then
        some (.inr (.inr 1))
      else
        lt1 (l2_2 + 1) fun l2_13 =>
        some (.inl l2_13)
    else
      some (.inr (.inl ()))
def M_tiedIn (set_ : Int) (M : Mem) : Option (Int) :=
  lt1 ((12 * (M 81 38))) fun l2_1 =>
  (it (M_tiedIn_b8 set_ M) FUEL l2_1).bind fun x => match x with
  | .inl _ =>
    some 0
  | .inr rv_16 => some rv_16

def M_partOf (k : Int) (set_ : Int) (apart : Int) (surely : Int) (M : Mem) : Option (Int) :=
  chk (0 ≤ k ∧ k < 1800) <|
  if n32 (M 106 (Int.toNat k)) = 11 then
    some (M 107 (Int.toNat k))
  else
  if n32 (M 106 (Int.toNat k)) = 12 then
    (M_bitsOf set_ M).bind fun r_4 =>
    some r_4
  else
  if n32 (M 106 (Int.toNat k)) = 13 then
    if ¬ n32 apart = 0 then
      some 1
    else
      some 0
  else
  if n32 (M 106 (Int.toNat k)) = 14 then
    (M_tiedIn set_ M).bind fun r_8 =>
    some r_8
  else
  if ¬ n32 surely = 0 then
    some 0
  else
    some 1

def M_two (c : Int) (a : Int) (b : Int) (M : Mem) : Option (Int) :=
  if n32 c = 7 then
    if (¬ n32 a = 0) ∨ (¬ n32 b = 0) then
      some 1
    else
      some 0
  else
  if n32 c = 43 then
    some (a + b)
  else
  if n32 c = 45 then
    some (a - b)
  else
  if n32 c = 60 then
    if n32 a < n32 b then
      some 1
    else
      some 0
  else
  if n32 c = 62 then
    if n32 b < n32 a then
      some 1
    else
      some 0
  else
  if n32 a = n32 b then
    some 1
  else
    some 0

def M_mayLie_b50 (set_ : Int) (apart : Int) (surely : Int) (l4_5 : Int) : Int × Int × Mem → Option ((Int × Int × Mem) ⊕ (Mem))
  | (l5_9, l6_10, M_11) =>
    if n32 l6_10 < n32 (M_11 105 (Int.toNat l4_5)) then
      chk (0 ≤ l6_10 ∧ l6_10 < 1800) <|
      (M_isIn (M_11 106 (Int.toNat l6_10)) 11 15 M_11).bind fun r_21 =>
      (
        if ¬ n32 r_21 = 0 then
          (M_partOf l6_10 set_ apart surely M_11).bind fun r_27 =>
          chk (0 ≤ l5_9 ∧ l5_9 < 120) <|
          lt1 (up M_11 115 (Int.toNat l5_9) r_27) fun M_30 =>
          lt1 (l5_9 + 1) fun l5_31 =>
          some (l5_31, M_30)
        else
          lt1 (l5_9 + (-1)) fun l5_32 =>
          chk (0 ≤ (l5_32 - 1) ∧ (l5_32 - 1) < 120) <|
          chk (0 ≤ l5_32 ∧ l5_32 < 120) <|
          (M_two (M_11 106 (Int.toNat l6_10)) (M_11 115 (Int.toNat (l5_32 - 1))) (M_11 115 (Int.toNat l5_32)) M_11).bind fun r_37 =>
          lt1 (up M_11 115 (Int.toNat (l5_32 - 1)) r_37) fun M_38 =>
          some (l5_32, M_38)
      ).bind fun (l5_22, M_23) =>
      lt1 (l6_10 + 1) fun l6_40 =>
      some (.inl (l5_22, l6_40, M_23))
    else
      some (.inr M_11)
def M_mayLie (set_ : Int) (apart : Int) (surely : Int) (M : Mem) : Option (Int × Mem) :=
  chk (0 ≤ (M 81 38) ∧ (M 81 38) < 2) <|
  if n32 (M 91 (Int.toNat (M 81 38))) = 0 then
    (M_bitsOf set_ M).bind fun r_3 =>
    if 1 < n32 r_3 then
      some (1, M)
    else
      some (0, M)
  else
    lt1 (((17 * (M 81 38)) + 16)) fun l4_5 =>
    chk (0 ≤ l4_5 ∧ l4_5 < 34) <|
    lt1 ((M 104 (Int.toNat l4_5))) fun l6_8 =>
    (it (M_mayLie_b50 set_ apart surely l4_5) FUEL (0, l6_8, M)).bind fun M_18 =>
    if ¬ n32 (M_18 115 (Int.toNat 0)) = 0 then
      some (1, M_18)
    else
      some (0, M_18)

def M_lies (set_ : Int) (apart : Int) (surely : Int) (M : Mem) : Option (Int × Mem) :=
  (M_areSome set_ M).bind fun r_1 =>
  if n32 r_1 = 0 then
    some ((-1), M)
  else
    (M_mayLie set_ apart surely M).bind fun (r_2, M_3) =>
    if ¬ n32 r_2 = 0 then
      some (1, M_3)
    else
      some (0, M_3)

def M_canSay_b16 (set_ : Int) (r : Int) (surely : Int) (w : Int) (M_2 : Mem) : Int → Option ((Int) ⊕ ((Unit) ⊕ (Int × Mem)))
  | l6_3 =>
    (M_personMany M_2).bind fun r_10 =>
    if n32 l6_3 < n32 r_10 then
      jn (fun (_ : Unit) =>
        lt1 (l6_3 + 1) fun l6_23 =>
        some (.inl l6_23)
      ) fun j_11 =>
      if n32 (iand (ishr set_ l6_3) 1) = 1 then
        jn (fun (_ : Unit) =>
          some (.inr (.inr (0, M_2)))
        ) fun j_14 =>
        if ¬ n32 surely = 0 then
          (M_answerAt l6_3 r w M_2).bind fun r_17 =>
          if ¬ n32 r_17 = 1 then
            j_14 ()
          else
            j_11 ()
        else
          (M_answerAt l6_3 r w M_2).bind fun r_19 =>
          if n32 r_19 = 0 then
            j_14 ()
          else
            j_11 ()
      else
        j_11 ()
    else
      some (.inr (.inl ()))
def M_canSay (set_ : Int) (r : Int) (apart : Int) (surely : Int) (w : Int) (M : Mem) : Option (Int × Mem) :=
  (M_mayLie set_ apart surely M).bind fun (r_1, M_2) =>
  if ¬ n32 r_1 = 0 then
    some (1, M_2)
  else
    (it (M_canSay_b16 set_ r surely w M_2) FUEL 0).bind fun x => match x with
    | .inl _ =>
      some (1, M_2)
    | .inr rv_25 => some rv_25

def M_may (set_ : Int) (r : Int) (apart : Int) (surely : Int) (w : Int) (M : Mem) : Option (Int × Mem) :=
  (M_areSome set_ M).bind fun r_1 =>
  (
    if ¬ n32 r_1 = 0 then
      (M_isRow r M).bind fun r_7 =>
      if ¬ n32 r_7 = 0 then
        (M_isWorld w M).bind fun r_8 =>
        if n32 r_8 = 0 then
          some true
        else
          some false
      else
        some true
    else
      some true
  ).bind fun c_6 =>
  if c_6 = true then
    some ((-1), M)
  else
    (M_canSay set_ r apart surely w M).bind fun (r_9, M_10) =>
    if ¬ n32 r_9 = 0 then
      some (1, M_10)
    else
      some (0, M_10)

def M_say (set_ : Int) (r : Int) (apart : Int) (surely : Int) (M : Mem) : Option (Int × Mem) :=
  (M_areSome set_ M).bind fun r_1 =>
  (
    if ¬ n32 r_1 = 0 then
      (M_isRow r M).bind fun r_7 =>
      if ¬ n32 r_7 = 0 then
        if n32 (M 81 57) = 40 then
          some true
        else
          some false
      else
        some true
    else
      some true
  ).bind fun c_6 =>
  if c_6 = true then
    some ((-1), M)
  else
    chk (0 ≤ (M 81 57) ∧ (M 81 57) < 40) <|
    lt1 (up M 116 (Int.toNat (M 81 57)) set_) fun M_10 =>
    chk (0 ≤ (M_10 81 57) ∧ (M_10 81 57) < 40) <|
    lt1 (up M_10 117 (Int.toNat (M_10 81 57)) r) fun M_13 =>
    chk (0 ≤ (M_13 81 57) ∧ (M_13 81 57) < 40) <|
    chk (apart = 0 ∨ apart = 1) <|
    lt1 (up M_13 120 (Int.toNat (M_13 81 57)) apart) fun M_17 =>
    chk (0 ≤ (M_17 81 57) ∧ (M_17 81 57) < 40) <|
    chk (surely = 0 ∨ surely = 1) <|
    lt1 (up M_17 121 (Int.toNat (M_17 81 57)) surely) fun M_21 =>
    chk (0 ≤ (M_21 81 57) ∧ (M_21 81 57) < 40) <|
    lt1 (up M_21 118 (Int.toNat (M_21 81 57)) (M_21 81 58)) fun M_24 =>
    chk (0 ≤ (M_24 81 57) ∧ (M_24 81 57) < 40) <|
    lt1 (up M_24 119 (Int.toNat (M_24 81 57)) (-1)) fun M_27 =>
    lt1 (up M_27 81 57 ((M_27 81 57) + 1)) fun M_28 =>
    some (((M_28 81 57) - 1), M_28)

def M_untell (n_ : Int) (M : Mem) : Option (Int × Mem) :=
  (M_isIn n_ 0 ((M 81 57) - 1) M).bind fun r_1 =>
  (
    if ¬ n32 r_1 = 0 then
      chk (0 ≤ n_ ∧ n_ < 40) <|
      if 0 ≤ n32 (M 119 (Int.toNat n_)) then
        some true
      else
        some false
    else
      some true
  ).bind fun c_6 =>
  if c_6 = true then
    some (0, M)
  else
    chk (0 ≤ n_ ∧ n_ < 40) <|
    lt1 (up M 119 (Int.toNat n_) (M 81 58)) fun M_11 =>
    some (1, M_11)

def M_later (by_ : Int) (M : Mem) : Option (Int × Mem) :=
  (M_isIn by_ 0 1000 M).bind fun r_1 =>
  if (n32 r_1 = 0) ∨ (100000 < n32 ((M 81 58) + by_)) then
    some ((-1), M)
  else
    lt1 (up M 81 58 ((M 81 58) + by_)) fun M_2 =>
    some ((M_2 81 58), M_2)

def M_counts (n_ : Int) (k : Int) (M : Mem) : Option (Int) :=
  chk (0 ≤ n_ ∧ n_ < 40) <|
  jn (fun (_ : Unit) =>
    some 0
  ) fun j_3 =>
  if n32 (M 118 (Int.toNat n_)) ≤ n32 k then
    (
      if 0 ≤ n32 (M 119 (Int.toNat n_)) then
        if n32 k < n32 (M 119 (Int.toNat n_)) then
          some true
        else
          some false
      else
        some true
    ).bind fun c_10 =>
    if c_10 = true then
      some 1
    else
      j_3 ()
  else
    j_3 ()

def M_canBe (n_ : Int) (w : Int) (M : Mem) : Option (Int × Mem) :=
  chk (0 ≤ n_ ∧ n_ < 40) <|
  (M_canSay (M 116 (Int.toNat n_)) (M 117 (Int.toNat n_)) (M 120 (Int.toNat n_)) (M 121 (Int.toNat n_)) w M).bind fun (r_3, M_4) =>
  chk (r_3 = 0 ∨ r_3 = 1) <|
  some (r_3, M_4)

def M_findLeft_b25 (k : Int) (l2_2 : Int) : Int × Int × Mem → Option ((Int × Int × Mem) ⊕ (Int × Mem))
  | (l3_15, l4_16, M_17) =>
    if (n32 l4_16 < n32 (M_17 81 57)) ∧ (¬ n32 l3_15 = 0) then
      (M_counts l4_16 k M_17).bind fun r_26 =>
      (
        jn (fun (M_32 : Mem) =>
          some ((1 : Int), M_32)
        ) fun j_33 =>
        if ¬ n32 r_26 = 0 then
          (M_canBe l4_16 l2_2 M_17).bind fun (r_36, M_37) =>
          if ¬ n32 r_36 = 0 then
            j_33 M_37
          else
            some ((0 : Int), M_37)
        else
          j_33 M_17
      ).bind fun (v_27, M_28) =>
      lt1 (l4_16 + 1) fun l4_40 =>
      some (.inl (v_27, l4_40, M_28))
    else
      some (.inr (l3_15, M_17))

def M_findLeft_b7 (k : Int) : Int × Mem → Option ((Int × Mem) ⊕ (Mem))
  | (l2_2, M_3) =>
    (M_worldMany M_3).bind fun r_11 =>
    if n32 l2_2 < n32 r_11 then
      chk (0 ≤ l2_2 ∧ l2_2 < 256) <|
      lt1 ((M_3 111 (Int.toNat l2_2))) fun l3_14 =>
      (it (M_findLeft_b25 k l2_2) FUEL (l3_14, 0, M_3)).bind fun (l3_24, M_25) =>
      chk (l3_24 = 0 ∨ l3_24 = 1) <|
      lt1 (up M_25 122 (Int.toNat l2_2) l3_24) fun M_48 =>
      (
        if ¬ n32 l3_24 = 0 then
          some (1 : Int)
        else
          some (0 : Int)
      ).bind fun v_49 =>
      lt1 (up M_48 81 60 ((M_48 81 60) + v_49)) fun M_54 =>
      lt1 (l2_2 + 1) fun l2_55 =>
      some (.inl (l2_55, M_54))
    else
      some (.inr M_3)
def M_findLeft (k : Int) (M : Mem) : Option (Mem) :=
  lt1 (up M 81 60 0) fun M_1 =>
  (it (M_findLeft_b7 k) FUEL (0, M_1)).bind fun M_10 =>
  some M_10

def M_left (k : Int) (M : Mem) : Option (Int × Mem) :=
  (M_findLeft k M).bind fun M_1 =>
  some ((M_1 81 60), M_1)

def M_world_b10 (M_1 : Mem) : Int × Int → Option ((Int × Int) ⊕ ((Unit) ⊕ (Int × Mem)))
  | (l3_2, l4_3) =>
    (M_worldMany M_1).bind fun r_10 =>
    if (n32 l4_3 < n32 r_10) ∧ (0 ≤ n32 l3_2) then
      chk (0 ≤ l4_3 ∧ l4_3 < 256) <|
      jn (fun (l3_13 : Int) =>
        lt1 (l4_3 + 1) fun l4_20 =>
        some (.inl (l3_13, l4_20))
      ) fun j_14 =>
      if n32 (M_1 122 (Int.toNat l4_3)) = 0 then
        j_14 l3_2
      else
        if n32 l3_2 = 0 then
          some (.inr (.inr (l4_3, M_1)))
        else
          lt1 (l3_2 + (-1)) fun l3_17 =>
          j_14 l3_17
    else
      some (.inr (.inl ()))
def M_world (i : Int) (k : Int) (M : Mem) : Option (Int × Mem) :=
  (M_findLeft k M).bind fun M_1 =>
  (it (M_world_b10 M_1) FUEL (i, 0)).bind fun x => match x with
  | .inl _ =>
    some ((-1), M_1)
  | .inr rv_27 => some rv_27

def M_soMany_b4 (r : Int) (M : Mem) : Int × Int → Option ((Int × Int) ⊕ (Int))
  | (l2_1, l3_2) =>
    (M_worldMany M).bind fun r_10 =>
    if n32 l3_2 < n32 r_10 then
      chk (0 ≤ l3_2 ∧ l3_2 < 256) <|
      (
        (
          if ¬ n32 (M 122 (Int.toNat l3_2)) = 0 then
            (M_spot r l3_2 M).bind fun r_22 =>
            chk (0 ≤ r_22 ∧ r_22 < 3072) <|
            if ¬ n32 (M 112 (Int.toNat r_22)) = 0 then
              some true
            else
              some false
          else
            some false
        ).bind fun c_21 =>
        if c_21 = true then
          some (1 : Int)
        else
          some (0 : Int)
      ).bind fun v_13 =>
      lt1 ((l2_1 + v_13)) fun l2_25 =>
      lt1 (l3_2 + 1) fun l3_26 =>
      some (.inl (l2_25, l3_26))
    else
      some (.inr l2_1)
def M_soMany (r : Int) (M : Mem) : Option (Int) :=
  (it (M_soMany_b4 r M) FUEL (0, 0)).bind fun l2_9 =>
  some l2_9

def M_sure (r : Int) (k : Int) (M : Mem) : Option (Int × Mem) :=
  (M_isRow r M).bind fun r_1 =>
  if n32 r_1 = 0 then
    some ((-1), M)
  else
    (M_findLeft k M).bind fun M_2 =>
    (M_soMany r M_2).bind fun r_3 =>
    if n32 (M_2 81 60) = 0 then
      some ((-1), M_2)
    else
      if n32 r_3 = n32 (M_2 81 60) then
        some (1, M_2)
      else
        if n32 r_3 = 0 then
          some (0, M_2)
        else
          some ((-2), M_2)

def M_isProved_b46 (set_ : Int) (many : Int) (M : Mem) (l4_1 : Int) : Int × Int → Option ((Int × Int) ⊕ (Int))
  | (l5_23, l6_24) =>
    if (n32 l6_24 < n32 many) ∧ (¬ n32 l5_23 = 0) then
      (
        (
          if ¬ n32 (iand (ishr set_ l6_24) 1) = 0 then
            (M_spot l6_24 l4_1 M).bind fun r_41 =>
            chk (0 ≤ r_41 ∧ r_41 < 2560) <|
            if ¬ n32 (M 124 (Int.toNat r_41)) = 0 then
              some true
            else
              some false
          else
            some true
        ).bind fun c_40 =>
        if c_40 = true then
          some (1 : Int)
        else
          some (0 : Int)
      ).bind fun v_32 =>
      lt1 (l6_24 + 1) fun l6_44 =>
      some (.inl (v_32, l6_44))
    else
      some (.inr l5_23)

def M_isProved_b3 (r : Int) (set_ : Int) (many : Int) (M : Mem) : Int → Option ((Int) ⊕ ((Unit) ⊕ (Int)))
  | l4_1 =>
    (M_worldMany M).bind fun r_8 =>
    if n32 l4_1 < n32 r_8 then
      chk (0 ≤ l4_1 ∧ l4_1 < 256) <|
      (
        (
          if ¬ n32 (M 111 (Int.toNat l4_1)) = 0 then
            (M_spot r l4_1 M).bind fun r_20 =>
            chk (0 ≤ r_20 ∧ r_20 < 3072) <|
            if n32 (M 112 (Int.toNat r_20)) = 0 then
              some true
            else
              some false
          else
            some false
        ).bind fun c_19 =>
        if c_19 = true then
          some (1 : Int)
        else
          some (0 : Int)
      ).bind fun v_11 =>
      (it (M_isProved_b46 set_ many M l4_1) FUEL (v_11, 0)).bind fun l5_31 =>
      if ¬ n32 l5_31 = 0 then
        some (.inr (.inr 0))
      else
        lt1 (l4_1 + 1) fun l4_51 =>
        some (.inl l4_51)
    else
      some (.inr (.inl ()))
def M_isProved (r : Int) (set_ : Int) (many : Int) (M : Mem) : Option (Int) :=
  (it (M_isProved_b3 r set_ many M) FUEL 0).bind fun x => match x with
  | .inl _ =>
    some 1
  | .inr rv_54 => some rv_54

def M_proof_b17 (k : Int) : Int × Int × Mem → Option ((Int × Int × Mem) ⊕ (Int × Mem))
  | (l3_3, l4_4, M_5) =>
    if n32 l4_4 < n32 (M_5 81 57) then
      (M_counts l4_4 k M_5).bind fun r_14 =>
      (
        if n32 r_14 = 0 then
          some (l3_3, M_5)
        else
          chk (0 ≤ l3_3 ∧ l3_3 < 40) <|
          lt1 (up M_5 123 (Int.toNat l3_3) l4_4) fun M_22 =>
          lt1 (l3_3 + 1) fun l3_23 =>
          some (l3_23, M_22)
      ).bind fun (l3_15, M_16) =>
      lt1 (l4_4 + 1) fun l4_25 =>
      some (.inl (l3_15, l4_25, M_16))
    else
      some (.inr (l3_3, M_5))

def M_proof_b77 (l4_27 : Int) : Int × Mem → Option ((Int × Mem) ⊕ (Mem))
  | (l5_36, M_37) =>
    (M_worldMany M_37).bind fun r_45 =>
    if n32 l5_36 < n32 r_45 then
      (M_spot l4_27 l5_36 M_37).bind fun r_46 =>
      chk (0 ≤ l5_36 ∧ l5_36 < 256) <|
      (
        jn (fun (M_54 : Mem) =>
          some ((0 : Int), M_54)
        ) fun j_55 =>
        if ¬ n32 (M_37 111 (Int.toNat l5_36)) = 0 then
          chk (0 ≤ l4_27 ∧ l4_27 < 40) <|
          (M_canBe (M_37 123 (Int.toNat l4_27)) l5_36 M_37).bind fun (r_60, M_61) =>
          if ¬ n32 r_60 = 0 then
            some ((1 : Int), M_61)
          else
            j_55 M_61
        else
          j_55 M_37
      ).bind fun (v_49, M_50) =>
      chk (0 ≤ r_46 ∧ r_46 < 2560) <|
      chk (v_49 = 0 ∨ v_49 = 1) <|
      lt1 (up M_50 124 (Int.toNat r_46) v_49) fun M_67 =>
      lt1 (l5_36 + 1) fun l5_68 =>
      some (.inl (l5_68, M_67))
    else
      some (.inr M_37)

def M_proof_b68 (l3_12 : Int) : Int × Mem → Option ((Int × Mem) ⊕ (Mem))
  | (l4_27, M_28) =>
    if n32 l4_27 < n32 l3_12 then
      (it (M_proof_b77 l4_27) FUEL (0, M_28)).bind fun M_44 =>
      lt1 (l4_27 + 1) fun l4_70 =>
      some (.inl (l4_70, M_44))
    else
      some (.inr M_28)

def M_proof_b147 (r : Int) (l3_12 : Int) (M_35 : Mem) : Int × Int → Option ((Int × Int) ⊕ (Int))
  | (l4_72, l5_73) =>
    if n32 l5_73 < n32 (ishl 1 l3_12) then
      (
        (
          if 0 ≤ n32 l4_72 then
            (M_bitsOf l5_73 M_35).bind fun r_91 =>
            (M_bitsOf l4_72 M_35).bind fun r_92 =>
            if n32 r_91 < n32 r_92 then
              (M_isProved r l5_73 l3_12 M_35).bind fun r_93 =>
              if ¬ n32 r_93 = 0 then
                some true
              else
                some false
            else
              some false
          else
            (M_isProved r l5_73 l3_12 M_35).bind fun r_90 =>
            if ¬ n32 r_90 = 0 then
              some true
            else
              some false
        ).bind fun c_89 =>
        if c_89 = true then
          some l5_73
        else
          some l4_72
      ).bind fun l4_81 =>
      lt1 (l5_73 + 1) fun l5_94 =>
      some (.inl (l4_81, l5_94))
    else
      some (.inr l4_72)
def M_proof (r : Int) (k : Int) (M : Mem) : Option (Int × Mem) :=
  (M_sure r k M).bind fun (r_1, M_2) =>
  if ¬ n32 r_1 = 1 then
    some ((-1), M_2)
  else
    (it (M_proof_b17 k) FUEL (0, 0, M_2)).bind fun (l3_12, M_13) =>
    if 10 < n32 l3_12 then
      some ((-2), M_13)
    else
      (it (M_proof_b68 l3_12) FUEL (0, M_13)).bind fun M_35 =>
      (it (M_proof_b147 r l3_12 M_35) FUEL ((-1), 0)).bind fun l4_80 =>
      some (l4_80, M_35)

def M_judge_b13 (w : Int) (k : Int) : Int × Mem → Option ((Int × Mem) ⊕ ((Mem) ⊕ (Int × Mem)))
  | (l3_2, M_3) =>
    if n32 l3_2 < n32 (M_3 81 57) then
      (M_counts l3_2 k M_3).bind fun r_11 =>
      jn (fun (M_12 : Mem) =>
        lt1 (l3_2 + 1) fun l3_20 =>
        some (.inl (l3_20, M_12))
      ) fun j_13 =>
      if ¬ n32 r_11 = 0 then
        (M_canBe l3_2 w M_3).bind fun (r_16, M_17) =>
        if n32 r_16 = 0 then
          some (.inr (.inr (l3_2, M_17)))
        else
          j_13 M_17
      else
        j_13 M_3
    else
      some (.inr (.inl M_3))
def M_judge (w : Int) (k : Int) (M : Mem) : Option (Int × Mem) :=
  (M_isWorld w M).bind fun r_1 =>
  if n32 r_1 = 0 then
    some ((-2), M)
  else
    (it (M_judge_b13 w k) FUEL (0, M)).bind fun x => match x with
    | .inl M_10 =>
      some ((-1), M_10)
    | .inr rv_22 => some rv_22

def M_next_b58 : Int × Mem → Option ((Int × Mem) ⊕ (Mem))
  | (l8_35, M_36) =>
    if n32 l8_35 < 3 then
      chk (0 ≤ l8_35 ∧ l8_35 < 3) <|
      lt1 (up M_36 125 (Int.toNat l8_35) 0) fun M_46 =>
      lt1 (l8_35 + 1) fun l8_47 =>
      some (.inl (l8_47, M_46))
    else
      some (.inr M_36)

def M_next_b81 (l6_6 : Int) (l7_22 : Int) : Int × Mem → Option ((Int × Mem) ⊕ (Mem))
  | (l8_49, M_50) =>
    (M_worldMany M_50).bind fun r_58 =>
    if n32 l8_49 < n32 r_58 then
      chk (0 ≤ l8_49 ∧ l8_49 < 256) <|
      (
        if ¬ n32 (M_50 122 (Int.toNat l8_49)) = 0 then
          (M_answerAt l6_6 l7_22 l8_49 M_50).bind fun r_65 =>
          chk (0 ≤ r_65 ∧ r_65 < 3) <|
          lt1 (up M_50 125 (Int.toNat r_65) ((M_50 125 (Int.toNat r_65)) + 1)) fun M_68 =>
          some M_68
        else
          some M_50
      ).bind fun M_61 =>
      lt1 (l8_49 + 1) fun l8_70 =>
      some (.inl (l8_70, M_61))
    else
      some (.inr M_50)

def M_next_b46 (l6_6 : Int) : Int × Int × Int × Int × Mem → Option ((Int × Int × Int × Int × Mem) ⊕ (Int × Int × Int × Mem))
  | (l3_19, l4_20, l5_21, l7_22, M_23) =>
    (M_rowMany M_23).bind fun r_34 =>
    if n32 l7_22 < n32 r_34 then
      (it (M_next_b58) FUEL (0, M_23)).bind fun M_43 =>
      (it (M_next_b81 l6_6 l7_22) FUEL (0, M_43)).bind fun M_57 =>
      (
        if n32 (M_57 125 (Int.toNat 1)) < n32 (M_57 125 (Int.toNat 0)) then
          some (M_57 125 (Int.toNat 0))
        else
          some (M_57 125 (Int.toNat 1))
      ).bind fun v_72 =>
      (
        if n32 v_72 < n32 (M_57 125 (Int.toNat 2)) then
          some (M_57 125 (Int.toNat 2))
        else
          some v_72
      ).bind fun v_77 =>
      (
        (
          if n32 v_77 = n32 l5_21 then
            if 0 ≤ n32 l3_19 then
              chk (0 ≤ ((8 * (M_57 81 38)) + l6_6) ∧ ((8 * (M_57 81 38)) + l6_6) < 16) <|
              chk (0 ≤ ((8 * (M_57 81 38)) + l3_19) ∧ ((8 * (M_57 81 38)) + l3_19) < 16) <|
              if n32 (M_57 96 (Int.toNat ((8 * (M_57 81 38)) + l6_6))) < n32 (M_57 96 (Int.toNat ((8 * (M_57 81 38)) + l3_19))) then
                some true
              else
                some false
            else
              some false
          else
            some false
        ).bind fun c_90 =>
        if c_90 = true then
          some (1 : Int)
        else
          some (0 : Int)
      ).bind fun v_82 =>
      (
        if (0 ≤ n32 l3_19) ∧ ((n32 l5_21 ≤ n32 v_77) ∧ (n32 v_82 = 0)) then
          some (l3_19, l4_20, l5_21)
        else
          some (l6_6, l7_22, v_77)
      ).bind fun (l3_95, l4_96, l5_97) =>
      lt1 (l7_22 + 1) fun l7_109 =>
      some (.inl (l3_95, l4_96, l5_97, l7_109, M_57))
    else
      some (.inr (l3_19, l4_20, l5_21, M_23))

def M_next_b27 : Int × Int × Int × Int × Mem → Option ((Int × Int × Int × Int × Mem) ⊕ (Int × Int × Int × Mem))
  | (l3_3, l4_4, l5_5, l6_6, M_7) =>
    (M_personMany M_7).bind fun r_18 =>
    if (n32 l6_6 < n32 r_18) ∧ (0 < n32 (M_7 81 60)) then
      (it (M_next_b46 l6_6) FUEL (l3_3, l4_4, l5_5, 0, M_7)).bind fun (l3_30, l4_31, l5_32, M_33) =>
      lt1 (l6_6 + 1) fun l6_111 =>
      some (.inl (l3_30, l4_31, l5_32, l6_111, M_33))
    else
      some (.inr (l3_3, l4_4, l5_5, M_7))
def M_next (what : Int) (k : Int) (M : Mem) : Option (Int × Mem) :=
  (M_isIn what 0 2 M).bind fun r_1 =>
  if n32 r_1 = 0 then
    some ((-1), M)
  else
    (M_findLeft k M).bind fun M_2 =>
    (it (M_next_b27) FUEL ((-1), (-1), 0, 0, M_2)).bind fun (l3_14, l4_15, l5_16, M_17) =>
    if n32 l3_14 < 0 then
      some ((-1), M_17)
    else
      if n32 what = 0 then
        some (l3_14, M_17)
      else
        if n32 what = 1 then
          some (l4_15, M_17)
        else
          some (l5_16, M_17)

def M_layHeard_b2 : Int × Mem → Option ((Int × Mem) ⊕ (Mem))
  | (l2_1, M_2) =>
    if n32 l2_1 < 1152 then
      chk (0 ≤ l2_1 ∧ l2_1 < 1152) <|
      lt1 (up M_2 127 (Int.toNat l2_1) 0) fun M_12 =>
      lt1 (l2_1 + 1) fun l2_13 =>
      some (.inl (l2_13, M_12))
    else
      some (.inr M_2)

def M_layHeard_b24 : Int × Mem → Option ((Int × Mem) ⊕ (Mem))
  | (l2_15, M_16) =>
    if n32 l2_15 < 4 then
      chk (0 ≤ l2_15 ∧ l2_15 < 4) <|
      lt1 (up M_16 128 (Int.toNat l2_15) 0) fun M_26 =>
      chk (0 ≤ l2_15 ∧ l2_15 < 16) <|
      lt1 (up M_26 126 (Int.toNat l2_15) 0) fun M_29 =>
      lt1 (l2_15 + 1) fun l2_30 =>
      some (.inl (l2_30, M_29))
    else
      some (.inr M_16)

def M_layHeard_b137 (l2_32 : Int) (l3_62 : Int) : Int × Mem → Option ((Int × Mem) ⊕ (Mem))
  | (l4_72, M_73) =>
    (M_rowMany M_73).bind fun r_81 =>
    if n32 l4_72 < n32 r_81 then
      (M_answerAt l3_62 l4_72 l2_32 M_73).bind fun r_82 =>
      chk (0 ≤ (((12 * ((12 * l3_62) + l4_72)) + (4 * r_82)) + (idiv' l2_32 64)) ∧ (((12 * ((12 * l3_62) + l4_72)) + (4 * r_82)) + (idiv' l2_32 64)) < 1152) <|
      lt1 (up M_73 127 (Int.toNat (((12 * ((12 * l3_62) + l4_72)) + (4 * r_82)) + (idiv' l2_32 64))) (jor (M_73 127 (Int.toNat (((12 * ((12 * l3_62) + l4_72)) + (4 * r_82)) + (idiv' l2_32 64)))) (jshl 1 (irem' l2_32 64)))) fun M_85 =>
      lt1 (l4_72 + 1) fun l4_86 =>
      some (.inl (l4_86, M_85))
    else
      some (.inr M_73)

def M_layHeard_b126 (l2_32 : Int) : Int × Mem → Option ((Int × Mem) ⊕ (Mem))
  | (l3_62, M_63) =>
    (M_personMany M_63).bind fun r_71 =>
    if n32 l3_62 < n32 r_71 then
      (it (M_layHeard_b137 l2_32 l3_62) FUEL (0, M_63)).bind fun M_80 =>
      lt1 (l3_62 + 1) fun l3_88 =>
      some (.inl (l3_88, M_80))
    else
      some (.inr M_63)

def M_layHeard_b51 (r : Int) : Int × Mem → Option ((Int × Mem) ⊕ (Mem))
  | (l2_32, M_33) =>
    (M_worldMany M_33).bind fun r_41 =>
    if n32 l2_32 < n32 r_41 then
      chk (0 ≤ l2_32 ∧ l2_32 < 256) <|
      (
        if n32 (M_33 122 (Int.toNat l2_32)) = 0 then
          some M_33
        else
          chk (0 ≤ (idiv' l2_32 64) ∧ (idiv' l2_32 64) < 16) <|
          lt1 (up M_33 126 (Int.toNat (idiv' l2_32 64)) (jor (M_33 126 (Int.toNat (idiv' l2_32 64))) (jshl 1 (irem' l2_32 64)))) fun M_50 =>
          chk (0 ≤ (idiv' l2_32 64) ∧ (idiv' l2_32 64) < 4) <|
          (M_spot r l2_32 M_50).bind fun r_53 =>
          chk (0 ≤ r_53 ∧ r_53 < 3072) <|
          (
            if ¬ n32 (M_50 112 (Int.toNat r_53)) = 0 then
              some (jshl 1 (irem' l2_32 64))
            else
              some (0 : Int)
          ).bind fun v_56 =>
          lt1 (up M_50 128 (Int.toNat (idiv' l2_32 64)) (jor (M_50 128 (Int.toNat (idiv' l2_32 64))) v_56)) fun M_61 =>
          (it (M_layHeard_b126 l2_32) FUEL (0, M_61)).bind fun M_70 =>
          some M_70
      ).bind fun M_44 =>
      lt1 (l2_32 + 1) fun l2_91 =>
      some (.inl (l2_91, M_44))
    else
      some (.inr M_33)
def M_layHeard (r : Int) (M : Mem) : Option (Mem) :=
  (it (M_layHeard_b2) FUEL (0, M)).bind fun M_9 =>
  (it (M_layHeard_b24) FUEL (0, M_9)).bind fun M_23 =>
  (it (M_layHeard_b51 r) FUEL (0, M_23)).bind fun M_40 =>
  some M_40

def M_isOne_b7 (level : Int) (M : Mem) : Int × Int × Int → Option ((Int × Int × Int) ⊕ (Int × Int))
  | (l2_1, l3_2, l4_3) =>
    if n32 l4_3 < 4 then
      (
        (
          if n32 l2_1 = 0 then
            chk (0 ≤ ((4 * level) + l4_3) ∧ ((4 * level) + l4_3) < 16) <|
            chk (0 ≤ l4_3 ∧ l4_3 < 4) <|
            if ¬ n64 (jand (M 126 (Int.toNat ((4 * level) + l4_3))) (M 128 (Int.toNat l4_3))) = n64 0 then
              some true
            else
              some false
          else
            some true
        ).bind fun c_20 =>
        if c_20 = true then
          some (1 : Int)
        else
          some (0 : Int)
      ).bind fun v_12 =>
      (
        (
          if n32 l3_2 = 0 then
            chk (0 ≤ ((4 * level) + l4_3) ∧ ((4 * level) + l4_3) < 16) <|
            chk (0 ≤ l4_3 ∧ l4_3 < 4) <|
            if ¬ n64 (jand (M 126 (Int.toNat ((4 * level) + l4_3))) (jxor (M 128 (Int.toNat l4_3)) (-1))) = n64 0 then
              some true
            else
              some false
          else
            some true
        ).bind fun c_33 =>
        if c_33 = true then
          some (1 : Int)
        else
          some (0 : Int)
      ).bind fun v_25 =>
      lt1 (l4_3 + 1) fun l4_38 =>
      some (.inl (v_12, v_25, l4_38))
    else
      some (.inr (l2_1, l3_2))
def M_isOne (level : Int) (M : Mem) : Option (Int) :=
  (it (M_isOne_b7 level M) FUEL (0, 0, 0)).bind fun (l2_10, l3_11) =>
  if (n32 l2_10 = 0) ∨ (n32 l3_11 = 0) then
    some 1
  else
    some 0

def M_splits_b26 (level : Int) (asked : Int) (M : Mem) (l3_2 : Int) : Int × Int → Option ((Int × Int) ⊕ (Int))
  | (l4_9, l5_10) =>
    if n32 l5_10 < 4 then
      (
        (
          if ¬ n32 l4_9 = 0 then
            chk (0 ≤ ((4 * level) + l5_10) ∧ ((4 * level) + l5_10) < 16) <|
            chk (0 ≤ (((12 * asked) + (4 * l3_2)) + l5_10) ∧ (((12 * asked) + (4 * l3_2)) + l5_10) < 1152) <|
            if n64 (jand (M 126 (Int.toNat ((4 * level) + l5_10))) (jxor (M 127 (Int.toNat (((12 * asked) + (4 * l3_2)) + l5_10))) (-1))) = n64 0 then
              some true
            else
              some false
          else
            some false
        ).bind fun c_26 =>
        if c_26 = true then
          some (1 : Int)
        else
          some (0 : Int)
      ).bind fun v_18 =>
      lt1 (l5_10 + 1) fun l5_31 =>
      some (.inl (v_18, l5_31))
    else
      some (.inr l4_9)

def M_splits_b15 (level : Int) (asked : Int) (M : Mem) : Int → Option ((Int) ⊕ ((Unit) ⊕ (Int)))
  | l3_2 =>
    if n32 l3_2 < 3 then
      (it (M_splits_b26 level asked M l3_2) FUEL (1, 0)).bind fun l4_17 =>
      if ¬ n32 l4_17 = 0 then
        some (.inr (.inr 0))
      else
        lt1 (l3_2 + 1) fun l3_33 =>
        some (.inl l3_33)
    else
      some (.inr (.inl ()))
def M_splits (level : Int) (asked : Int) (M : Mem) : Option (Int) :=
  (M_rowMany M).bind fun r_1 =>
  if n32 r_1 ≤ n32 (irem' asked 12) then
    some 0
  else
    (it (M_splits_b15 level asked M) FUEL 0).bind fun x => match x with
    | .inl _ =>
      some 1
    | .inr rv_36 => some rv_36

def M_take_b3 (level : Int) (asked : Int) (a : Int) : Int × Mem → Option ((Int × Mem) ⊕ (Mem))
  | (l4_1, M_2) =>
    if n32 l4_1 < 4 then
      chk (0 ≤ ((4 * level) + l4_1) ∧ ((4 * level) + l4_1) < 16) <|
      chk (0 ≤ (((12 * asked) + (4 * a)) + l4_1) ∧ (((12 * asked) + (4 * a)) + l4_1) < 1152) <|
      chk (0 ≤ (((4 * level) + 4) + l4_1) ∧ (((4 * level) + 4) + l4_1) < 16) <|
      lt1 (up M_2 126 (Int.toNat (((4 * level) + 4) + l4_1)) (jand (M_2 126 (Int.toNat ((4 * level) + l4_1))) (M_2 127 (Int.toNat (((12 * asked) + (4 * a)) + l4_1))))) fun M_16 =>
      lt1 (l4_1 + 1) fun l4_17 =>
      some (.inl (l4_17, M_16))
    else
      some (.inr M_2)
def M_take (level : Int) (asked : Int) (a : Int) (M : Mem) : Option (Mem) :=
  (it (M_take_b3 level asked a) FUEL (0, M)).bind fun M_9 =>
  some M_9

def M_byOne_b40 (level : Int) (l2_2 : Int) : Int × Int × Mem → Option ((Int × Int × Mem) ⊕ (Int × Mem))
  | (l3_17, l4_18, M_19) =>
    if (n32 l4_18 < 3) ∧ (¬ n32 l3_17 = 0) then
      (M_take level l2_2 l4_18 M_19).bind fun M_28 =>
      (M_isOne (level + 1) M_28).bind fun r_29 =>
      lt1 (l4_18 + 1) fun l4_30 =>
      some (.inl (r_29, l4_30, M_28))
    else
      some (.inr (l3_17, M_19))

def M_byOne_b12 (level : Int) : Int × Mem → Option ((Int × Mem) ⊕ ((Mem) ⊕ (Int × Mem)))
  | (l2_2, M_3) =>
    (M_personMany M_3).bind fun r_11 =>
    if n32 l2_2 < n32 (12 * r_11) then
      (M_splits level l2_2 M_3).bind fun r_12 =>
      jn (fun (M_13 : Mem) =>
        lt1 (l2_2 + 1) fun l2_39 =>
        some (.inl (l2_39, M_13))
      ) fun j_14 =>
      if n32 r_12 = 0 then
        j_14 M_3
      else
        (it (M_byOne_b40 level l2_2) FUEL (1, 0, M_3)).bind fun (l3_26, M_27) =>
        if ¬ n32 l3_26 = 0 then
          some (.inr (.inr (1, M_27)))
        else
          j_14 M_27
    else
      some (.inr (.inl M_3))
def M_byOne (level : Int) (M : Mem) : Option (Int × Mem) :=
  (M_isOne level M).bind fun r_1 =>
  if ¬ n32 r_1 = 0 then
    some (1, M)
  else
    (it (M_byOne_b12 level) FUEL (0, M)).bind fun x => match x with
    | .inl M_10 =>
      some (0, M_10)
    | .inr rv_41 => some rv_41

def M_byTwo_b40 (level : Int) (l2_3 : Int) : Int × Int × Mem → Option ((Int × Int × Mem) ⊕ (Int × Mem))
  | (l3_18, l4_19, M_20) =>
    if (n32 l4_19 < 3) ∧ (¬ n32 l3_18 = 0) then
      (M_take level l2_3 l4_19 M_20).bind fun M_29 =>
      (M_byOne (level + 1) M_29).bind fun (r_30, M_31) =>
      lt1 (l4_19 + 1) fun l4_32 =>
      some (.inl (r_30, l4_32, M_31))
    else
      some (.inr (l3_18, M_20))

def M_byTwo_b12 (level : Int) : Int × Mem → Option ((Int × Mem) ⊕ ((Mem) ⊕ (Int × Mem)))
  | (l2_3, M_4) =>
    (M_personMany M_4).bind fun r_12 =>
    if n32 l2_3 < n32 (12 * r_12) then
      (M_splits level l2_3 M_4).bind fun r_13 =>
      jn (fun (M_14 : Mem) =>
        lt1 (l2_3 + 1) fun l2_41 =>
        some (.inl (l2_41, M_14))
      ) fun j_15 =>
      if n32 r_13 = 0 then
        j_15 M_4
      else
        (it (M_byTwo_b40 level l2_3) FUEL (1, 0, M_4)).bind fun (l3_27, M_28) =>
        if ¬ n32 l3_27 = 0 then
          some (.inr (.inr (1, M_28)))
        else
          j_15 M_28
    else
      some (.inr (.inl M_4))
def M_byTwo (level : Int) (M : Mem) : Option (Int × Mem) :=
  (M_byOne level M).bind fun (r_1, M_2) =>
  if ¬ n32 r_1 = 0 then
    some (1, M_2)
  else
    (it (M_byTwo_b12 level) FUEL (0, M_2)).bind fun x => match x with
    | .inl M_11 =>
      some (0, M_11)
    | .inr rv_43 => some rv_43

def M_askings (r : Int) (k : Int) (M : Mem) : Option (Int × Mem) :=
  (M_isRow r M).bind fun r_1 =>
  if n32 r_1 = 0 then
    some ((-2), M)
  else
    (M_findLeft k M).bind fun M_2 =>
    if n32 (M_2 81 60) = 0 then
      some ((-2), M_2)
    else
      (M_layHeard r M_2).bind fun M_3 =>
      (M_isOne 0 M_3).bind fun r_4 =>
      if ¬ n32 r_4 = 0 then
        some (0, M_3)
      else
        (M_byOne 0 M_3).bind fun (r_5, M_6) =>
        if ¬ n32 r_5 = 0 then
          some (1, M_6)
        else
          (M_byTwo 0 M_6).bind fun (r_7, M_8) =>
          if ¬ n32 r_7 = 0 then
            some (2, M_8)
          else
            some ((-1), M_8)

def M_isLie (r : Int) (w : Int) (M : Mem) : Option (Int) :=
  (M_isRow r M).bind fun r_1 =>
  (
    if ¬ n32 r_1 = 0 then
      (M_isWorld w M).bind fun r_7 =>
      if ¬ n32 r_7 = 0 then
        (M_spot r w M).bind fun r_8 =>
        chk (0 ≤ r_8 ∧ r_8 < 3072) <|
        if n32 (M 112 (Int.toNat r_8)) = 0 then
          some true
        else
          some false
      else
        some false
    else
      some false
  ).bind fun c_6 =>
  if c_6 = true then
    some 1
  else
    some 0

def M_lastsOf_b6 (a : Int) (b : Int) (r : Int) (w : Int) (M : Mem) : Int × Int → Option ((Int × Int) ⊕ (Int))
  | (l5_1, l6_2) =>
    (M_personMany M).bind fun r_10 =>
    if n32 l6_2 < n32 r_10 then
      (
        (
          if ¬ n32 l6_2 = n32 a then
            if ¬ n32 l6_2 = n32 b then
              (M_answerAt l6_2 r w M).bind fun r_20 =>
              if ¬ n32 r_20 = 0 then
                some true
              else
                some false
            else
              some false
          else
            some false
        ).bind fun c_19 =>
        if c_19 = true then
          some (1 : Int)
        else
          some (0 : Int)
      ).bind fun v_11 =>
      lt1 ((l5_1 + v_11)) fun l5_21 =>
      lt1 (l6_2 + 1) fun l6_22 =>
      some (.inl (l5_21, l6_22))
    else
      some (.inr l5_1)
def M_lastsOf (a : Int) (b : Int) (r : Int) (w : Int) (M : Mem) : Option (Int) :=
  (it (M_lastsOf_b6 a b r w M) FUEL (0, 0)).bind fun l5_9 =>
  some l5_9

def M_lasts (a : Int) (b : Int) (r : Int) (w : Int) (M : Mem) : Option (Int) :=
  (M_isPerson a M).bind fun r_1 =>
  (
    if ¬ n32 r_1 = 0 then
      (M_isPerson b M).bind fun r_7 =>
      if ¬ n32 r_7 = 0 then
        if ¬ n32 a = n32 b then
          (M_isLie r w M).bind fun r_8 =>
          if ¬ n32 r_8 = 0 then
            some true
          else
            some false
        else
          some false
      else
        some false
    else
      some false
  ).bind fun c_6 =>
  if c_6 = true then
    (M_lastsOf a b r w M).bind fun r_9 =>
    some r_9
  else
    some (-1)

def M_with_b46 (p : Int) (r : Int) (w : Int) (M : Mem) (l6_10 : Int) : Int × Int × Int → Option ((Int × Int × Int) ⊕ (Int × Int))
  | (l4_20, l5_21, l7_22) =>
    chk (0 ≤ (M 81 38) ∧ (M 81 38) < 2) <|
    if n32 l7_22 < n32 ((12 * (M 81 38)) + (M 88 (Int.toNat (M 81 38)))) then
      chk (0 ≤ l7_22 ∧ l7_22 < 24) <|
      (
        jn (fun (_ : Unit) =>
          (M_lastsOf p l6_10 r w M).bind fun r_50 =>
          lt1 (((10 * r_50) - (M 100 (Int.toNat l7_22)))) fun l8_51 =>
          if (0 ≤ n32 l4_20) ∧ (n32 l8_51 ≤ n32 l5_21) then
            some (l4_20, l5_21)
          else
            some (l6_10, l8_51)
        ) fun j_40 =>
        (
          if n32 (M 98 (Int.toNat l7_22)) = n32 p then
            if ¬ n32 (M 99 (Int.toNat l7_22)) = n32 l6_10 then
              some true
            else
              some false
          else
            some true
        ).bind fun c_47 =>
        if c_47 = true then
          if n32 (M 98 (Int.toNat l7_22)) = n32 l6_10 then
            if ¬ n32 (M 99 (Int.toNat l7_22)) = n32 p then
              some (l4_20, l5_21)
            else
              j_40 ()
          else
            some (l4_20, l5_21)
        else
          j_40 ()
      ).bind fun (l4_35, l5_36) =>
      lt1 (l7_22 + 1) fun l7_58 =>
      some (.inl (l4_35, l5_36, l7_58))
    else
      some (.inr (l4_20, l5_21))

def M_with_b28 (p : Int) (r : Int) (w : Int) (M : Mem) : Int × Int × Int → Option ((Int × Int × Int) ⊕ (Int))
  | (l4_8, l5_9, l6_10) =>
    (M_personMany M).bind fun r_18 =>
    if n32 l6_10 < n32 r_18 then
      lt1 ((12 * (M 81 38))) fun l7_19 =>
      (it (M_with_b46 p r w M l6_10) FUEL (l4_8, l5_9, l7_19)).bind fun (l4_29, l5_30) =>
      lt1 (l6_10 + 1) fun l6_60 =>
      some (.inl (l4_29, l5_30, l6_60))
    else
      some (.inr l4_8)
def M_with (p : Int) (r : Int) (w : Int) (M : Mem) : Option (Int) :=
  (M_isPerson p M).bind fun r_1 =>
  (
    if ¬ n32 r_1 = 0 then
      (M_isLie r w M).bind fun r_7 =>
      if n32 r_7 = 0 then
        some true
      else
        some false
    else
      some true
  ).bind fun c_6 =>
  if c_6 = true then
    some (-1)
  else
    (it (M_with_b28 p r w M) FUEL ((-1), 0, 0)).bind fun l4_17 =>
    some l4_17

def M_areApart_b4 (set_ : Int) (M : Mem) : Int × Int → Option ((Int × Int) ⊕ ((Unit) ⊕ (Int)))
  | (l2_1, l3_2) =>
    chk (0 ≤ (M 81 38) ∧ (M 81 38) < 2) <|
    if n32 l3_2 < n32 (M 88 (Int.toNat (M 81 38))) then
      jn (fun (l2_11 : Int) =>
        lt1 (l3_2 + 1) fun l3_21 =>
        some (.inl (l2_11, l3_21))
      ) fun j_12 =>
      if n32 (iand (ishr set_ l3_2) 1) = 0 then
        j_12 l2_1
      else
        chk (0 ≤ ((12 * (M 81 38)) + l3_2) ∧ ((12 * (M 81 38)) + l3_2) < 24) <|
        lt1 ((ior' (ishl 1 (M 98 (Int.toNat ((12 * (M 81 38)) + l3_2)))) (ishl 1 (M 99 (Int.toNat ((12 * (M 81 38)) + l3_2)))))) fun l4_17 =>
        if ¬ n32 (iand l2_1 l4_17) = 0 then
          some (.inr (.inr 0))
        else
          lt1 ((ior' l2_1 l4_17)) fun l2_18 =>
          j_12 l2_18
    else
      some (.inr (.inl ()))
def M_areApart (set_ : Int) (M : Mem) : Option (Int) :=
  (it (M_areApart_b4 set_ M) FUEL (0, 0)).bind fun x => match x with
  | .inl _ =>
    some 1
  | .inr rv_23 => some rv_23

def M_wished_b8 (p : Int) (r : Int) (M : Mem) : Int → Option ((Int) ⊕ ((Unit) ⊕ (Int)))
  | l3_2 =>
    chk (0 ≤ (M 81 38) ∧ (M 81 38) < 2) <|
    if n32 l3_2 < n32 ((12 * (M 81 38)) + (M 89 (Int.toNat (M 81 38)))) then
      chk (0 ≤ l3_2 ∧ l3_2 < 24) <|
      (
        if n32 (M 101 (Int.toNat l3_2)) = n32 p then
          if n32 (M 102 (Int.toNat l3_2)) = n32 r then
            some true
          else
            some false
        else
          some false
      ).bind fun c_17 =>
      if c_17 = true then
        some (.inr (.inr (M 103 (Int.toNat l3_2))))
      else
        lt1 (l3_2 + 1) fun l3_18 =>
        some (.inl l3_18)
    else
      some (.inr (.inl ()))
def M_wished (p : Int) (r : Int) (M : Mem) : Option (Int) :=
  lt1 ((12 * (M 81 38))) fun l3_1 =>
  (it (M_wished_b8 p r M) FUEL l3_1).bind fun x => match x with
  | .inl _ =>
    some (-1)
  | .inr rv_20 => some rv_20

def M_gainOf_b5 (t : Int) (w : Int) (M : Mem) : Int × Int → Option ((Int × Int) ⊕ (Int))
  | (l3_1, l4_2) =>
    (M_rowMany M).bind fun r_10 =>
    if n32 l4_2 < n32 r_10 then
      chk (0 ≤ t ∧ t < 24) <|
      (M_wished (M 98 (Int.toNat t)) l4_2 M).bind fun r_13 =>
      (M_wished (M 99 (Int.toNat t)) l4_2 M).bind fun r_14 =>
      (
        (
          if 0 ≤ n32 r_13 then
            if 0 ≤ n32 r_14 then
              (M_spot l4_2 w M).bind fun r_24 =>
              chk (0 ≤ r_24 ∧ r_24 < 3072) <|
              if n32 (M 112 (Int.toNat r_24)) = 0 then
                if n32 l3_1 < n32 (r_13 + r_14) then
                  some true
                else
                  some false
              else
                some false
            else
              some false
          else
            some false
        ).bind fun c_23 =>
        if c_23 = true then
          lt1 ((r_13 + r_14)) fun l3_27 =>
          some l3_27
        else
          some l3_1
      ).bind fun l3_15 =>
      lt1 (l4_2 + 1) fun l4_28 =>
      some (.inl (l3_15, l4_28))
    else
      some (.inr l3_1)
def M_gainOf (t : Int) (w : Int) (M : Mem) : Option (Int) :=
  (it (M_gainOf_b5 t w M) FUEL (0, 0)).bind fun l3_9 =>
  chk (0 ≤ t ∧ t < 24) <|
  some (l3_9 - (2 * (M 100 (Int.toNat t))))

def M_rest_b61 (w : Int) (M : Mem) (l5_10 : Int) : Int × Int → Option ((Int × Int) ⊕ (Int))
  | (l6_27, l7_28) =>
    if n32 l7_28 < n32 (M 88 (Int.toNat (M 81 38))) then
      (
        if n32 (iand (ishr l5_10 l7_28) 1) = 1 then
          (M_gainOf ((12 * (M 81 38)) + l7_28) w M).bind fun r_40 =>
          some r_40
        else
          some (0 : Int)
      ).bind fun v_36 =>
      lt1 ((l6_27 + v_36)) fun l6_42 =>
      lt1 (l7_28 + 1) fun l7_43 =>
      some (.inl (l6_42, l7_43))
    else
      some (.inr l6_27)

def M_rest_b27 (w : Int) (M : Mem) : Int × Int × Int → Option ((Int × Int × Int) ⊕ (Int × Int))
  | (l3_8, l4_9, l5_10) =>
    chk (0 ≤ (M 81 38) ∧ (M 81 38) < 2) <|
    if n32 l5_10 < n32 (ishl 1 (M 88 (Int.toNat (M 81 38)))) then
      (M_areApart l5_10 M).bind fun r_21 =>
      (
        if n32 r_21 = 0 then
          some (l3_8, l4_9)
        else
          (it (M_rest_b61 w M l5_10) FUEL (0, 0)).bind fun l6_35 =>
          if n32 l6_35 ≤ n32 l4_9 then
            some (l3_8, l4_9)
          else
            some (l5_10, l6_35)
      ).bind fun (l3_22, l4_23) =>
      lt1 (l5_10 + 1) fun l5_47 =>
      some (.inl (l3_22, l4_23, l5_47))
    else
      some (.inr (l3_8, l4_9))
def M_rest (w : Int) (what : Int) (M : Mem) : Option (Int) :=
  (M_isWorld w M).bind fun r_1 =>
  (
    if ¬ n32 r_1 = 0 then
      (M_isIn what 0 1 M).bind fun r_7 =>
      if n32 r_7 = 0 then
        some true
      else
        some false
    else
      some true
  ).bind fun c_6 =>
  if c_6 = true then
    some (-1)
  else
    (it (M_rest_b27 w M) FUEL (0, 0, 1)).bind fun (l3_17, l4_18) =>
    if n32 what = 0 then
      some l4_18
    else
      some l3_17

def M_common_b4 : Int × Int → Option ((Int × Int) ⊕ (Int))
  | (l2_1, l3_2) =>
    if ¬ n32 l3_2 = 0 then
      chk (¬ n32 l3_2 = 0) <|
      lt1 ((irem' l2_1 l3_2)) fun l4_11 =>
      some (.inl (l3_2, l4_11))
    else
      some (.inr l2_1)
def M_common (a : Int) (b : Int) (M : Mem) : Option (Int) :=
  (it (M_common_b4) FUEL (a, b)).bind fun l2_9 =>
  some l2_9

def M_truth (r : Int) (c : Int) (d : Int) (half_ : Int) (k : Int) (M : Mem) : Option (Int × Mem) :=
  (M_isRow r M).bind fun r_1 =>
  (
    if ¬ n32 r_1 = 0 then
      (M_isIn c 0 10 M).bind fun r_7 =>
      if ¬ n32 r_7 = 0 then
        (M_isIn d 0 10 M).bind fun r_8 =>
        if ¬ n32 r_8 = 0 then
          (M_isIn half_ 0 1 M).bind fun r_9 =>
          if n32 r_9 = 0 then
            some true
          else
            some false
        else
          some true
      else
        some true
    else
      some true
  ).bind fun c_6 =>
  if c_6 = true then
    some ((-1), M)
  else
    (M_findLeft k M).bind fun M_10 =>
    (M_soMany r M_10).bind fun r_11 =>
    lt1 ((c * r_11)) fun l6_12 =>
    (M_soMany r M_10).bind fun r_13 =>
    lt1 ((l6_12 + (d * ((M_10 81 60) - r_13)))) fun l7_14 =>
    if n32 l7_14 = 0 then
      some ((-1), M_10)
    else
      (M_common l6_12 l7_14 M_10).bind fun r_15 =>
      if n32 half_ = 0 then
        chk (¬ n32 r_15 = 0) <|
        some ((idiv' l6_12 r_15), M_10)
      else
        chk (¬ n32 r_15 = 0) <|
        some ((idiv' l7_14 r_15), M_10)

def M_areMet_b14 (M : Mem) (l1_1 : Int) : Int × Int → Option ((Int × Int) ⊕ (Int))
  | (l2_8, l3_9) =>
    (M_personMany M).bind fun r_17 =>
    if n32 l3_9 < n32 r_17 then
      (
        jn (fun (_ : Unit) =>
          some (1 : Int)
        ) fun j_22 =>
        if n32 l2_8 = 0 then
          chk (0 ≤ l3_9 ∧ l3_9 < 8) <|
          (
            if n32 l3_9 < n32 (M 130 (Int.toNat l3_9)) then
              chk (0 ≤ l1_1 ∧ l1_1 < 40) <|
              if n32 (iand (iand (ishr (M 129 (Int.toNat l1_1)) l3_9) (ishr (M 129 (Int.toNat l1_1)) (M 130 (Int.toNat l3_9)))) 1) = 1 then
                some true
              else
                some false
            else
              some false
          ).bind fun c_31 =>
          if c_31 = true then
            j_22 ()
          else
            some (0 : Int)
        else
          j_22 ()
      ).bind fun v_18 =>
      lt1 (l3_9 + 1) fun l3_35 =>
      some (.inl (v_18, l3_35))
    else
      some (.inr l2_8)

def M_areMet_b2 (M : Mem) : Int → Option ((Int) ⊕ ((Unit) ⊕ (Int)))
  | l1_1 =>
    if n32 l1_1 < n32 (M 81 70) then
      (it (M_areMet_b14 M l1_1) FUEL (0, 0)).bind fun l2_16 =>
      if n32 l2_16 = 0 then
        some (.inr (.inr 0))
      else
        lt1 (l1_1 + 1) fun l1_37 =>
        some (.inl l1_37)
    else
      some (.inr (.inl ()))
def M_areMet (M : Mem) : Option (Int) :=
  (it (M_areMet_b2 M) FUEL 0).bind fun x => match x with
  | .inl _ =>
    some 1
  | .inr rv_40 => some rv_40

def M_pairs_b4 (M : Mem) : Int × Int → Option ((Int × Int) ⊕ (Int))
  | (l1_1, l2_2) =>
    (M_personMany M).bind fun r_10 =>
    if n32 l2_2 < n32 r_10 then
      chk (0 ≤ l2_2 ∧ l2_2 < 8) <|
      (
        if n32 l2_2 < n32 (M 130 (Int.toNat l2_2)) then
          some (1 : Int)
        else
          some (0 : Int)
      ).bind fun v_13 =>
      lt1 ((l1_1 + v_13)) fun l1_18 =>
      lt1 (l2_2 + 1) fun l2_19 =>
      some (.inl (l1_18, l2_19))
    else
      some (.inr l1_1)
def M_pairs (M : Mem) : Option (Int) :=
  (it (M_pairs_b4 M) FUEL (0, 0)).bind fun l1_9 =>
  some l1_9

def M_stepPair_b47 (p : Int) (M_4 : Mem) : Int → Option ((Int) ⊕ (Int))
  | l3_22 =>
    (M_personMany M_4).bind fun r_30 =>
    if n32 l3_22 < n32 r_30 then
      chk (0 ≤ l3_22 ∧ l3_22 < 8) <|
      (
        if n32 (M_4 130 (Int.toNat l3_22)) < 0 then
          chk (0 ≤ p ∧ p < 8) <|
          if 0 ≤ n32 (M_4 130 (Int.toNat p)) then
            some true
          else
            some false
        else
          some true
      ).bind fun c_37 =>
      if c_37 = true then
        lt1 (l3_22 + 1) fun l3_40 =>
        some (.inl l3_40)
      else
        some (.inr l3_22)
    else
      some (.inr l3_22)
def M_stepPair (p : Int) (M : Mem) : Option (Int × Mem) :=
  chk (0 ≤ p ∧ p < 9) <|
  lt1 ((M 131 (Int.toNat p))) fun l2_3 =>
  (
    if (0 ≤ n32 l2_3) ∧ (¬ n32 l2_3 = n32 p) then
      chk (0 ≤ p ∧ p < 8) <|
      lt1 (up M 130 (Int.toNat p) (-1)) fun M_10 =>
      chk (0 ≤ l2_3 ∧ l2_3 < 8) <|
      lt1 (up M_10 130 (Int.toNat l2_3) (-1)) fun M_13 =>
      some M_13
    else
      some M
  ).bind fun M_4 =>
  if n32 l2_3 < 0 then
    lt1 (up M_4 131 (Int.toNat p) p) fun M_20 =>
    some (1, M_20)
  else
    lt1 ((l2_3 + 1)) fun l3_21 =>
    (it (M_stepPair_b47 p M_4) FUEL l3_21).bind fun l3_29 =>
    (M_personMany M_4).bind fun r_42 =>
    (
      if n32 l3_29 < n32 r_42 then
        chk (0 ≤ p ∧ p < 8) <|
        if 0 ≤ n32 (M_4 130 (Int.toNat p)) then
          some true
        else
          some false
      else
        some true
    ).bind fun c_47 =>
    if c_47 = true then
      lt1 (up M_4 131 (Int.toNat p) (-1)) fun M_50 =>
      some (0, M_50)
    else
      lt1 (up M_4 131 (Int.toNat p) l3_29) fun M_51 =>
      chk (0 ≤ p ∧ p < 8) <|
      lt1 (up M_51 130 (Int.toNat p) l3_29) fun M_54 =>
      chk (0 ≤ l3_29 ∧ l3_29 < 8) <|
      lt1 (up M_54 130 (Int.toNat l3_29) p) fun M_57 =>
      some (1, M_57)

def M_leaguesOf_b7 (w : Int) (k : Int) : Int × Mem → Option ((Int × Mem) ⊕ (Mem))
  | (l3_2, M_3) =>
    if n32 l3_2 < n32 (M_3 81 57) then
      (M_counts l3_2 k M_3).bind fun r_11 =>
      (
        (
          if ¬ n32 r_11 = 0 then
            chk (0 ≤ l3_2 ∧ l3_2 < 40) <|
            if ¬ n32 (M_3 121 (Int.toNat l3_2)) = 0 then
              (M_bitsOf (M_3 116 (Int.toNat l3_2)) M_3).bind fun r_23 =>
              if 2 ≤ n32 r_23 then
                some true
              else
                some false
            else
              some false
          else
            some false
        ).bind fun c_20 =>
        if c_20 = true then
          chk (0 ≤ l3_2 ∧ l3_2 < 40) <|
          (M_spot (M_3 117 (Int.toNat l3_2)) w M_3).bind fun r_26 =>
          chk (0 ≤ r_26 ∧ r_26 < 3072) <|
          if ¬ n32 (M_3 112 (Int.toNat r_26)) = 0 then
            some M_3
          else
            chk (0 ≤ (M_3 81 70) ∧ (M_3 81 70) < 40) <|
            lt1 (up M_3 129 (Int.toNat (M_3 81 70)) (M_3 116 (Int.toNat l3_2))) fun M_31 =>
            lt1 (up M_31 81 70 ((M_31 81 70) + 1)) fun M_32 =>
            some M_32
        else
          some M_3
      ).bind fun M_12 =>
      lt1 (l3_2 + 1) fun l3_34 =>
      some (.inl (l3_34, M_12))
    else
      some (.inr M_3)

def M_leaguesOf_b100 : Int × Mem → Option ((Int × Mem) ⊕ (Mem))
  | (l3_36, M_37) =>
    if n32 l3_36 < 8 then
      chk (0 ≤ l3_36 ∧ l3_36 < 8) <|
      lt1 (up M_37 130 (Int.toNat l3_36) (-1)) fun M_47 =>
      chk (0 ≤ l3_36 ∧ l3_36 < 9) <|
      lt1 (up M_47 131 (Int.toNat l3_36) (-1)) fun M_50 =>
      lt1 (l3_36 + 1) fun l3_51 =>
      some (.inl (l3_51, M_50))
    else
      some (.inr M_37)

def M_leaguesOf_b142 : Int × Int × Mem → Option ((Int × Int × Mem) ⊕ (Int × Mem))
  | (l3_59, l4_60, M_61) =>
    if (0 ≤ n32 l4_60) ∧ (¬ n32 l3_59 = 0) then
      (M_personMany M_61).bind fun r_70 =>
      if n32 l4_60 = n32 r_70 then
        (M_areMet M_61).bind fun r_71 =>
        (
          if ¬ n32 r_71 = 0 then
            (
              if 0 ≤ n32 l3_59 then
                (M_pairs M_61).bind fun r_81 =>
                if n32 r_81 < n32 l3_59 then
                  some true
                else
                  some false
              else
                some true
            ).bind fun c_80 =>
            if c_80 = true then
              (M_pairs M_61).bind fun r_82 =>
              some r_82
            else
              some l3_59
          else
            some l3_59
        ).bind fun l3_72 =>
        lt1 (l4_60 + (-1)) fun l4_84 =>
        some (.inl (l3_72, l4_84, M_61))
      else
        (M_stepPair l4_60 M_61).bind fun (r_85, M_86) =>
        (
          if ¬ n32 r_85 = 0 then
            some (l4_60 + 1)
          else
            some (l4_60 - 1)
        ).bind fun v_87 =>
        some (.inl (l3_59, v_87, M_86))
    else
      some (.inr (l3_59, M_61))
def M_leaguesOf (w : Int) (k : Int) (M : Mem) : Option (Int × Mem) :=
  lt1 (up M 81 70 0) fun M_1 =>
  (it (M_leaguesOf_b7 w k) FUEL (0, M_1)).bind fun M_10 =>
  (it (M_leaguesOf_b100) FUEL (0, M_10)).bind fun M_44 =>
  (M_areMet M_44).bind fun r_53 =>
  (
    if ¬ n32 r_53 = 0 then
      some (0 : Int)
    else
      some (-1 : Int)
  ).bind fun v_54 =>
  (it (M_leaguesOf_b142) FUEL (v_54, 0, M_44)).bind fun (l3_68, M_69) =>
  some (l3_68, M_69)

def M_leagues (w : Int) (k : Int) (M : Mem) : Option (Int × Mem) :=
  (M_isWorld w M).bind fun r_1 =>
  if ¬ n32 r_1 = 0 then
    (M_leaguesOf w k M).bind fun (r_2, M_3) =>
    some (r_2, M_3)
  else
    some ((-2), M)

def M_plain_b12 (k : Int) : Int × Int × Int × Mem → Option ((Int × Int × Int × Mem) ⊕ (Int × Mem))
  | (l2_2, l3_3, l4_4, M_5) =>
    (M_worldMany M_5).bind fun r_14 =>
    if n32 l4_4 < n32 r_14 then
      chk (0 ≤ l4_4 ∧ l4_4 < 256) <|
      (
        if ¬ n32 (M_5 122 (Int.toNat l4_4)) = 0 then
          (M_leaguesOf l4_4 k M_5).bind fun (r_22, M_23) =>
          some (r_22, M_23)
        else
          some ((-1 : Int), M_5)
      ).bind fun (v_17, M_18) =>
      (
        if 0 ≤ n32 v_17 then
          if (0 ≤ n32 l2_2) ∧ (n32 l3_3 ≤ n32 v_17) then
            some (l2_2, l3_3)
          else
            some (l4_4, v_17)
        else
          some (l2_2, l3_3)
      ).bind fun (l2_25, l3_26) =>
      lt1 (l4_4 + 1) fun l4_37 =>
      some (.inl (l2_25, l3_26, l4_37, M_18))
    else
      some (.inr (l2_2, M_5))
def M_plain (k : Int) (M : Mem) : Option (Int × Mem) :=
  (M_findLeft k M).bind fun M_1 =>
  (it (M_plain_b12 k) FUEL ((-1), 0, 0, M_1)).bind fun (l2_12, M_13) =>
  some (l2_12, M_13)

def M_turns (answered : Int) (toYes : Int) (M : Mem) : Option (Int) :=
  (
    if ¬ n32 toYes = 0 then
      some (1 : Int)
    else
      some (-1 : Int)
  ).bind fun v_1 =>
  (
    if n32 answered = 2 then
      some (0 : Int)
    else
      if n32 answered = 1 then
        some (1 : Int)
      else
        some (-1 : Int)
  ).bind fun v_6 =>
  some (v_1 - v_6)

def M_turned_b66 (r : Int) (w : Int) (M : Mem) (v_1 : Int) (l6_7 : Int) : Int × Int → Option ((Int × Int) ⊕ (Int))
  | (l7_28, l8_29) =>
    if n32 l8_29 < n32 (M 88 (Int.toNat (M 81 38))) then
      (
        if n32 (iand (ishr l6_7 l8_29) 1) = 1 then
          chk (0 ≤ ((12 * (M 81 38)) + l8_29) ∧ ((12 * (M 81 38)) + l8_29) < 24) <|
          (M_answerAt (M 98 (Int.toNat ((12 * (M 81 38)) + l8_29))) r w M).bind fun r_43 =>
          (M_turns r_43 v_1 M).bind fun r_44 =>
          (M_answerAt (M 99 (Int.toNat ((12 * (M 81 38)) + l8_29))) r w M).bind fun r_45 =>
          (M_turns r_45 v_1 M).bind fun r_46 =>
          lt1 ((l7_28 + (r_44 + r_46))) fun l7_47 =>
          some l7_47
        else
          some l7_28
      ).bind fun l7_37 =>
      lt1 (l8_29 + 1) fun l8_49 =>
      some (.inl (l7_37, l8_49))
    else
      some (.inr l7_28)

def M_turned_b17 (r : Int) (w : Int) (over : Int) (M : Mem) (v_1 : Int) : Int × Int → Option ((Int × Int) ⊕ (Int))
  | (l5_6, l6_7) =>
    chk (0 ≤ (M 81 38) ∧ (M 81 38) < 2) <|
    if n32 l6_7 < n32 (ishl 1 (M 88 (Int.toNat (M 81 38)))) then
      (
        (
          if 0 ≤ n32 l5_6 then
            (M_bitsOf l6_7 M).bind fun r_26 =>
            if n32 r_26 < n32 l5_6 then
              some true
            else
              some false
          else
            some true
        ).bind fun c_25 =>
        if c_25 = true then
          (M_areApart l6_7 M).bind fun r_27 =>
          if n32 r_27 = 0 then
            some l5_6
          else
            (it (M_turned_b66 r w M v_1 l6_7) FUEL (over, 0)).bind fun l7_36 =>
            (
              if 0 < n32 l7_36 then
                some (1 : Int)
              else
                some (0 : Int)
            ).bind fun v_51 =>
            if n32 v_51 = n32 v_1 then
              (M_bitsOf l6_7 M).bind fun r_56 =>
              some r_56
            else
              some l5_6
        else
          some l5_6
      ).bind fun l5_17 =>
      lt1 (l6_7 + 1) fun l6_59 =>
      some (.inl (l5_17, l6_59))
    else
      some (.inr l5_6)
def M_turned (r : Int) (w : Int) (over : Int) (M : Mem) : Option (Int) :=
  (
    if n32 over ≤ 0 then
      some (1 : Int)
    else
      some (0 : Int)
  ).bind fun v_1 =>
  (it (M_turned_b17 r w over M v_1) FUEL ((-1), 1)).bind fun l5_14 =>
  some l5_14

def M_vote_b36 (r : Int) (w : Int) (M : Mem) : Int × Int × Int → Option ((Int × Int × Int) ⊕ (Int × Int))
  | (l4_9, l5_10, l6_11) =>
    (M_personMany M).bind fun r_20 =>
    if n32 l6_11 < n32 r_20 then
      (M_answerAt l6_11 r w M).bind fun r_21 =>
      (
        if n32 r_21 = 1 then
          some (1 : Int)
        else
          some (0 : Int)
      ).bind fun v_22 =>
      lt1 ((l4_9 + v_22)) fun l4_27 =>
      (M_answerAt l6_11 r w M).bind fun r_28 =>
      (
        if n32 r_28 = 0 then
          some (1 : Int)
        else
          some (0 : Int)
      ).bind fun v_29 =>
      lt1 ((l5_10 + v_29)) fun l5_34 =>
      lt1 (l6_11 + 1) fun l6_35 =>
      some (.inl (l4_27, l5_34, l6_35))
    else
      some (.inr (l4_9, l5_10))
def M_vote (r : Int) (w : Int) (what : Int) (M : Mem) : Option (Int) :=
  (M_isRow r M).bind fun r_1 =>
  (
    if ¬ n32 r_1 = 0 then
      (M_isWorld w M).bind fun r_7 =>
      if ¬ n32 r_7 = 0 then
        (M_isIn what 0 3 M).bind fun r_8 =>
        if n32 r_8 = 0 then
          some true
        else
          some false
      else
        some true
    else
      some true
  ).bind fun c_6 =>
  if c_6 = true then
    some (-1)
  else
    (it (M_vote_b36 r w M) FUEL (0, 0, 0)).bind fun (l4_18, l5_19) =>
    if n32 what = 0 then
      some l4_18
    else
      if n32 what = 1 then
        some l5_19
      else
        if n32 what = 2 then
          if n32 l5_19 < n32 l4_18 then
            some 1
          else
            some 0
        else
          (M_turned r w (l4_18 - l5_19) M).bind fun r_38 =>
          some r_38

def M_image_b23 (box : Int) : Int × Mem → Option ((Int × Mem) ⊕ (Mem))
  | (l2_5, M_6) =>
    if n32 l2_5 < n32 (M_6 81 57) then
      lt1 (((40 * box) + l2_5)) fun l3_14 =>
      chk (0 ≤ l2_5 ∧ l2_5 < 40) <|
      chk (0 ≤ l3_14 ∧ l3_14 < 120) <|
      lt1 (up M_6 133 (Int.toNat l3_14) (M_6 116 (Int.toNat l2_5))) fun M_19 =>
      lt1 (up M_19 134 (Int.toNat l3_14) (M_19 117 (Int.toNat l2_5))) fun M_20 =>
      lt1 (up M_20 135 (Int.toNat l3_14) (M_20 118 (Int.toNat l2_5))) fun M_21 =>
      lt1 (up M_21 136 (Int.toNat l3_14) (M_21 119 (Int.toNat l2_5))) fun M_22 =>
      chk ((M_22 120 (Int.toNat l2_5)) = 0 ∨ (M_22 120 (Int.toNat l2_5)) = 1) <|
      lt1 (up M_22 137 (Int.toNat l3_14) (M_22 120 (Int.toNat l2_5))) fun M_24 =>
      chk ((M_24 121 (Int.toNat l2_5)) = 0 ∨ (M_24 121 (Int.toNat l2_5)) = 1) <|
      lt1 (up M_24 138 (Int.toNat l3_14) (M_24 121 (Int.toNat l2_5))) fun M_26 =>
      lt1 (l2_5 + 1) fun l2_27 =>
      some (.inl (l2_27, M_26))
    else
      some (.inr M_6)
def M_image (box : Int) (M : Mem) : Option (Int × Mem) :=
  (M_isIn box 0 2 M).bind fun r_1 =>
  if n32 r_1 = 0 then
    some ((-1), M)
  else
    chk (0 ≤ box ∧ box < 3) <|
    lt1 (up M 132 (Int.toNat box) (M 81 57)) fun M_4 =>
    (it (M_image_b23 box) FUEL (0, M_4)).bind fun M_13 =>
    some ((M_13 81 57), M_13)

def M_back_b32 (box : Int) : Int × Mem → Option ((Int × Mem) ⊕ (Mem))
  | (l2_12, M_13) =>
    if n32 l2_12 < n32 (M_13 81 57) then
      lt1 (((40 * box) + l2_12)) fun l3_21 =>
      chk (0 ≤ l3_21 ∧ l3_21 < 120) <|
      chk (0 ≤ l2_12 ∧ l2_12 < 40) <|
      lt1 (up M_13 116 (Int.toNat l2_12) (M_13 133 (Int.toNat l3_21))) fun M_26 =>
      lt1 (up M_26 117 (Int.toNat l2_12) (M_26 134 (Int.toNat l3_21))) fun M_27 =>
      lt1 (up M_27 118 (Int.toNat l2_12) (M_27 135 (Int.toNat l3_21))) fun M_28 =>
      lt1 (up M_28 119 (Int.toNat l2_12) (M_28 136 (Int.toNat l3_21))) fun M_29 =>
      chk ((M_29 137 (Int.toNat l3_21)) = 0 ∨ (M_29 137 (Int.toNat l3_21)) = 1) <|
      lt1 (up M_29 120 (Int.toNat l2_12) (M_29 137 (Int.toNat l3_21))) fun M_31 =>
      chk ((M_31 138 (Int.toNat l3_21)) = 0 ∨ (M_31 138 (Int.toNat l3_21)) = 1) <|
      lt1 (up M_31 121 (Int.toNat l2_12) (M_31 138 (Int.toNat l3_21))) fun M_33 =>
      lt1 (l2_12 + 1) fun l2_34 =>
      some (.inl (l2_34, M_33))
    else
      some (.inr M_13)
def M_back (box : Int) (M : Mem) : Option (Int × Mem) :=
  (M_isIn box 0 2 M).bind fun r_1 =>
  (
    if ¬ n32 r_1 = 0 then
      chk (0 ≤ box ∧ box < 3) <|
      if n32 (M 132 (Int.toNat box)) < 0 then
        some true
      else
        some false
    else
      some true
  ).bind fun c_6 =>
  if c_6 = true then
    some ((-1), M)
  else
    chk (0 ≤ box ∧ box < 3) <|
    lt1 (up M 81 57 (M 132 (Int.toNat box))) fun M_11 =>
    (it (M_back_b32 box) FUEL (0, M_11)).bind fun M_20 =>
    some ((M_20 81 57), M_20)

def M_about (what : Int) (M : Mem) : Option (Int) :=
  if n32 what = 0 then
    (M_factMany M).bind fun r_1 =>
    some r_1
  else
  if n32 what = 1 then
    (M_personMany M).bind fun r_3 =>
    some r_3
  else
  if n32 what = 2 then
    (M_rowMany M).bind fun r_5 =>
    some r_5
  else
  if n32 what = 3 then
    chk (0 ≤ (M 81 38) ∧ (M 81 38) < 2) <|
    some (M 88 (Int.toNat (M 81 38)))
  else
  if n32 what = 4 then
    chk (0 ≤ (M 81 38) ∧ (M 81 38) < 2) <|
    some (M 89 (Int.toNat (M 81 38)))
  else
  if n32 what = 5 then
    some (M 81 57)
  else
  if n32 what = 6 then
    some (M 81 58)
  else
  if n32 what = 7 then
    some (M 81 2)
  else
  if n32 what = 8 then
    chk (0 ≤ (M 81 38) ∧ (M 81 38) < 2) <|
    some (M 90 (Int.toNat (M 81 38)))
  else
  if n32 what = 9 then
    (M_baseMany M).bind fun r_19 =>
    some r_19
  else
  some (-1)

def M_feed_b18 (a : Int) (b : Int) (c : Int) (d : Int) (e : Int) : Int × Mem → Option ((Int × Mem) ⊕ (Mem))
  | (l6_1, M_2) =>
    if n32 l6_1 < 20 then
      (
        if n32 l6_1 < 4 then
          some a
        else
          if n32 l6_1 < 8 then
            some b
          else
            if n32 l6_1 < 12 then
              some c
            else
              if n32 l6_1 < 16 then
                some d
              else
                some e
      ).bind fun v_10 =>
      chk (0 ≤ ((M_2 81 2) + l6_1) ∧ ((M_2 81 2) + l6_1) < 1620) <|
      chk (-128 ≤ (i2b (ishr v_10 (24 - (8 * (iand l6_1 3))))) ∧ (i2b (ishr v_10 (24 - (8 * (iand l6_1 3))))) < 128) <|
      lt1 (up M_2 82 (Int.toNat ((M_2 81 2) + l6_1)) (i2b (ishr v_10 (24 - (8 * (iand l6_1 3)))))) fun M_22 =>
      lt1 (l6_1 + 1) fun l6_23 =>
      some (.inl (l6_23, M_22))
    else
      some (.inr M_2)
def M_feed (a : Int) (b : Int) (c : Int) (d : Int) (e : Int) (M : Mem) : Option (Int × Mem) :=
  if 1600 < n32 ((M 81 2) + 20) then
    some ((-1), M)
  else
    (it (M_feed_b18 a b c d e) FUEL (0, M)).bind fun M_9 =>
    lt1 (up M_9 81 2 ((M_9 81 2) + 20)) fun M_25 =>
    some ((M_25 81 2), M_25)

def M_end (n_ : Int) (M : Mem) : Option (Int × Mem) :=
  if (n32 n_ < 0) ∨ (n32 (M 81 2) < n32 n_) then
    some ((-1), M)
  else
    lt1 (up M 81 2 n_) fun M_1 =>
    some (n_, M_1)
