/-! ===== a new object: the reference ===== -/
def Wi (c k : Nat) : Prop := c ≠ 81 ∨ k = 2 ∨ k = 3 ∨ k = 4 ∨ k = 38 ∨ k = 39 ∨ k = 57 ∨ k = 58
def Pn (M M' : Mem) : Prop := (∀ c k, Wi c k → M' c k = M c k) ∧ M' 81 5 = -1
theorem Pn_s {M M1 M2 : Mem} {s : Nat} {v : Int} (h : Pn M M1) (hs : ¬ (s = 2 ∨ s = 3 ∨ s = 4 ∨ s = 5 ∨ s = 38 ∨ s = 39 ∨ s = 57 ∨ s = 58)) (e : up M1 81 s v = M2) : Pn M M2 := by
  subst e
  refine ⟨fun c k hw => ?_, ?_⟩
  · unfold Wi at hw
    rw [up_at, if_neg (by omega)]
    exact h.1 c k hw
  · rw [up_k (by omega)]
    exact h.2
theorem Wn_s {M M1 M2 : Mem} {s : Nat} {v : Int} (h : ∀ c k, Wi c k → M1 c k = M c k) (hs : ¬ (s = 2 ∨ s = 3 ∨ s = 4 ∨ s = 38 ∨ s = 39 ∨ s = 57 ∨ s = 58)) (e : up M1 81 s v = M2) : ∀ c k, Wi c k → M2 c k = M c k := by
  subst e
  intro c k hw
  unfold Wi at hw
  rw [up_at, if_neg (by omega)]
  exact h c k hw
theorem init_R1 {M : Mem} : ∃ M58, M_init81 M = ((M_clearBank M58).bind fun M_59 => (M_layWorlds M_59).bind fun M_60 => (it (M_init81_b475) FUEL (0, M_60)).bind fun M_69 => some M_69) ∧ Pn M M58 := by
  unfold M_init81
  rw [lt1_eq]
  generalize e1 : up M 81 0 ((82 : Nat) : Int) = M_1
  have h1 : ∀ c k, Wi c k → M_1 c k = M c k := Wn_s (fun _ _ _ => rfl) (by omega) e1
  rw [lt1_eq]
  generalize e2 : up M_1 81 1 ((83 : Nat) : Int) = M_2
  have h2 : ∀ c k, Wi c k → M_2 c k = M c k := Wn_s h1 (by omega) e2
  rw [lt1_eq]
  generalize e3 : up M_2 81 5 (-1) = M_3
  have h3 : Pn M M_3 := ⟨Wn_s h2 (by omega) e3, by rw [← e3, up_eq]⟩
  rw [lt1_eq]
  generalize e4 : up M_3 81 11 ((84 : Nat) : Int) = M_4
  have h4 : Pn M M_4 := Pn_s h3 (by omega) e4
  rw [lt1_eq]
  generalize e5 : up M_4 81 12 ((85 : Nat) : Int) = M_5
  have h5 : Pn M M_5 := Pn_s h4 (by omega) e5
  rw [lt1_eq]
  generalize e6 : up M_5 81 13 ((86 : Nat) : Int) = M_6
  have h6 : Pn M M_6 := Pn_s h5 (by omega) e6
  rw [lt1_eq]
  generalize e7 : up M_6 81 14 ((87 : Nat) : Int) = M_7
  have h7 : Pn M M_7 := Pn_s h6 (by omega) e7
  rw [lt1_eq]
  generalize e8 : up M_7 81 15 ((88 : Nat) : Int) = M_8
  have h8 : Pn M M_8 := Pn_s h7 (by omega) e8
  rw [lt1_eq]
  generalize e9 : up M_8 81 16 ((89 : Nat) : Int) = M_9
  have h9 : Pn M M_9 := Pn_s h8 (by omega) e9
  rw [lt1_eq]
  generalize e10 : up M_9 81 17 ((90 : Nat) : Int) = M_10
  have h10 : Pn M M_10 := Pn_s h9 (by omega) e10
  rw [lt1_eq]
  generalize e11 : up M_10 81 18 ((91 : Nat) : Int) = M_11
  have h11 : Pn M M_11 := Pn_s h10 (by omega) e11
  rw [lt1_eq]
  generalize e12 : up M_11 81 19 ((92 : Nat) : Int) = M_12
  have h12 : Pn M M_12 := Pn_s h11 (by omega) e12
  rw [lt1_eq]
  generalize e13 : up M_12 81 20 ((93 : Nat) : Int) = M_13
  have h13 : Pn M M_13 := Pn_s h12 (by omega) e13
  rw [lt1_eq]
  generalize e14 : up M_13 81 21 ((94 : Nat) : Int) = M_14
  have h14 : Pn M M_14 := Pn_s h13 (by omega) e14
  rw [lt1_eq]
  generalize e15 : up M_14 81 22 ((95 : Nat) : Int) = M_15
  have h15 : Pn M M_15 := Pn_s h14 (by omega) e15
  rw [lt1_eq]
  generalize e16 : up M_15 81 23 ((96 : Nat) : Int) = M_16
  have h16 : Pn M M_16 := Pn_s h15 (by omega) e16
  rw [lt1_eq]
  generalize e17 : up M_16 81 24 ((97 : Nat) : Int) = M_17
  have h17 : Pn M M_17 := Pn_s h16 (by omega) e17
  rw [lt1_eq]
  generalize e18 : up M_17 81 25 ((98 : Nat) : Int) = M_18
  have h18 : Pn M M_18 := Pn_s h17 (by omega) e18
  rw [lt1_eq]
  generalize e19 : up M_18 81 26 ((99 : Nat) : Int) = M_19
  have h19 : Pn M M_19 := Pn_s h18 (by omega) e19
  rw [lt1_eq]
  generalize e20 : up M_19 81 27 ((100 : Nat) : Int) = M_20
  have h20 : Pn M M_20 := Pn_s h19 (by omega) e20
  rw [lt1_eq]
  generalize e21 : up M_20 81 28 ((101 : Nat) : Int) = M_21
  have h21 : Pn M M_21 := Pn_s h20 (by omega) e21
  rw [lt1_eq]
  generalize e22 : up M_21 81 29 ((102 : Nat) : Int) = M_22
  have h22 : Pn M M_22 := Pn_s h21 (by omega) e22
  rw [lt1_eq]
  generalize e23 : up M_22 81 30 ((103 : Nat) : Int) = M_23
  have h23 : Pn M M_23 := Pn_s h22 (by omega) e23
  rw [lt1_eq]
  generalize e24 : up M_23 81 31 ((104 : Nat) : Int) = M_24
  have h24 : Pn M M_24 := Pn_s h23 (by omega) e24
  rw [lt1_eq]
  generalize e25 : up M_24 81 32 ((105 : Nat) : Int) = M_25
  have h25 : Pn M M_25 := Pn_s h24 (by omega) e25
  rw [lt1_eq]
  generalize e26 : up M_25 81 33 ((106 : Nat) : Int) = M_26
  have h26 : Pn M M_26 := Pn_s h25 (by omega) e26
  rw [lt1_eq]
  generalize e27 : up M_26 81 34 ((107 : Nat) : Int) = M_27
  have h27 : Pn M M_27 := Pn_s h26 (by omega) e27
  rw [lt1_eq]
  generalize e28 : up M_27 81 35 ((108 : Nat) : Int) = M_28
  have h28 : Pn M M_28 := Pn_s h27 (by omega) e28
  rw [lt1_eq]
  generalize e29 : up M_28 81 36 ((109 : Nat) : Int) = M_29
  have h29 : Pn M M_29 := Pn_s h28 (by omega) e29
  rw [lt1_eq]
  generalize e30 : up M_29 81 37 ((110 : Nat) : Int) = M_30
  have h30 : Pn M M_30 := Pn_s h29 (by omega) e30
  rw [lt1_eq]
  generalize e31 : up M_30 81 46 ((111 : Nat) : Int) = M_31
  have h31 : Pn M M_31 := Pn_s h30 (by omega) e31
  rw [lt1_eq]
  generalize e32 : up M_31 81 47 ((112 : Nat) : Int) = M_32
  have h32 : Pn M M_32 := Pn_s h31 (by omega) e32
  rw [lt1_eq]
  generalize e33 : up M_32 81 48 ((113 : Nat) : Int) = M_33
  have h33 : Pn M M_33 := Pn_s h32 (by omega) e33
  rw [lt1_eq]
  generalize e34 : up M_33 81 49 ((114 : Nat) : Int) = M_34
  have h34 : Pn M M_34 := Pn_s h33 (by omega) e34
  rw [lt1_eq]
  generalize e35 : up M_34 81 50 ((115 : Nat) : Int) = M_35
  have h35 : Pn M M_35 := Pn_s h34 (by omega) e35
  rw [lt1_eq]
  generalize e36 : up M_35 81 51 ((116 : Nat) : Int) = M_36
  have h36 : Pn M M_36 := Pn_s h35 (by omega) e36
  rw [lt1_eq]
  generalize e37 : up M_36 81 52 ((117 : Nat) : Int) = M_37
  have h37 : Pn M M_37 := Pn_s h36 (by omega) e37
  rw [lt1_eq]
  generalize e38 : up M_37 81 53 ((118 : Nat) : Int) = M_38
  have h38 : Pn M M_38 := Pn_s h37 (by omega) e38
  rw [lt1_eq]
  generalize e39 : up M_38 81 54 ((119 : Nat) : Int) = M_39
  have h39 : Pn M M_39 := Pn_s h38 (by omega) e39
  rw [lt1_eq]
  generalize e40 : up M_39 81 55 ((120 : Nat) : Int) = M_40
  have h40 : Pn M M_40 := Pn_s h39 (by omega) e40
  rw [lt1_eq]
  generalize e41 : up M_40 81 56 ((121 : Nat) : Int) = M_41
  have h41 : Pn M M_41 := Pn_s h40 (by omega) e41
  rw [lt1_eq]
  generalize e42 : up M_41 81 59 ((122 : Nat) : Int) = M_42
  have h42 : Pn M M_42 := Pn_s h41 (by omega) e42
  rw [lt1_eq]
  generalize e43 : up M_42 81 61 ((123 : Nat) : Int) = M_43
  have h43 : Pn M M_43 := Pn_s h42 (by omega) e43
  rw [lt1_eq]
  generalize e44 : up M_43 81 62 ((124 : Nat) : Int) = M_44
  have h44 : Pn M M_44 := Pn_s h43 (by omega) e44
  rw [lt1_eq]
  generalize e45 : up M_44 81 63 ((125 : Nat) : Int) = M_45
  have h45 : Pn M M_45 := Pn_s h44 (by omega) e45
  rw [lt1_eq]
  generalize e46 : up M_45 81 64 ((126 : Nat) : Int) = M_46
  have h46 : Pn M M_46 := Pn_s h45 (by omega) e46
  rw [lt1_eq]
  generalize e47 : up M_46 81 65 ((127 : Nat) : Int) = M_47
  have h47 : Pn M M_47 := Pn_s h46 (by omega) e47
  rw [lt1_eq]
  generalize e48 : up M_47 81 66 ((128 : Nat) : Int) = M_48
  have h48 : Pn M M_48 := Pn_s h47 (by omega) e48
  rw [lt1_eq]
  generalize e49 : up M_48 81 67 ((129 : Nat) : Int) = M_49
  have h49 : Pn M M_49 := Pn_s h48 (by omega) e49
  rw [lt1_eq]
  generalize e50 : up M_49 81 68 ((130 : Nat) : Int) = M_50
  have h50 : Pn M M_50 := Pn_s h49 (by omega) e50
  rw [lt1_eq]
  generalize e51 : up M_50 81 69 ((131 : Nat) : Int) = M_51
  have h51 : Pn M M_51 := Pn_s h50 (by omega) e51
  rw [lt1_eq]
  generalize e52 : up M_51 81 71 ((132 : Nat) : Int) = M_52
  have h52 : Pn M M_52 := Pn_s h51 (by omega) e52
  rw [lt1_eq]
  generalize e53 : up M_52 81 72 ((133 : Nat) : Int) = M_53
  have h53 : Pn M M_53 := Pn_s h52 (by omega) e53
  rw [lt1_eq]
  generalize e54 : up M_53 81 73 ((134 : Nat) : Int) = M_54
  have h54 : Pn M M_54 := Pn_s h53 (by omega) e54
  rw [lt1_eq]
  generalize e55 : up M_54 81 74 ((135 : Nat) : Int) = M_55
  have h55 : Pn M M_55 := Pn_s h54 (by omega) e55
  rw [lt1_eq]
  generalize e56 : up M_55 81 75 ((136 : Nat) : Int) = M_56
  have h56 : Pn M M_56 := Pn_s h55 (by omega) e56
  rw [lt1_eq]
  generalize e57 : up M_56 81 76 ((137 : Nat) : Int) = M_57
  have h57 : Pn M M_57 := Pn_s h56 (by omega) e57
  rw [lt1_eq]
  generalize e58 : up M_57 81 77 ((138 : Nat) : Int) = M_58
  have h58 : Pn M M_58 := Pn_s h57 (by omega) e58
  exact ⟨_, rfl, h58⟩
