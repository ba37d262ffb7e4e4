
theorem i32_add (a b : Int) : Int32.ofInt a + Int32.ofInt b = Int32.ofInt (a + b) := by
  apply Int32.toBitVec_inj.mp; simp [BitVec.ofInt_add]
theorem i32_mul (a b : Int) : Int32.ofInt a * Int32.ofInt b = Int32.ofInt (a * b) := by
  apply Int32.toBitVec_inj.mp; simp [BitVec.ofInt_mul]
theorem i32_sub (a b : Int) : Int32.ofInt a - Int32.ofInt b = Int32.ofInt (a - b) := by
  rw [Int32.sub_eq_add_neg, Int32.neg_ofInt, i32_add, Int.sub_eq_add_neg]
theorem i64_add (a b : Int) : Int64.ofInt a + Int64.ofInt b = Int64.ofInt (a + b) := by
  apply Int64.toBitVec_inj.mp; simp [BitVec.ofInt_add]
theorem i64_mul (a b : Int) : Int64.ofInt a * Int64.ofInt b = Int64.ofInt (a * b) := by
  apply Int64.toBitVec_inj.mp; simp [BitVec.ofInt_mul]
theorem i64_sub (a b : Int) : Int64.ofInt a - Int64.ofInt b = Int64.ofInt (a - b) := by
  rw [Int64.sub_eq_add_neg, Int64.neg_ofInt, i64_add, Int.sub_eq_add_neg]
/-- an int as the machine sees it -/
def n32 (a : Int) : Int := (Int32.ofInt a).toInt
def n64 (a : Int) : Int := (Int64.ofInt a).toInt
def iand (a b : Int) : Int := (Int32.ofInt a &&& Int32.ofInt b).toInt
def ior' (a b : Int) : Int := (Int32.ofInt a ||| Int32.ofInt b).toInt
def ixor' (a b : Int) : Int := (Int32.ofInt a ^^^ Int32.ofInt b).toInt
def ishl (a b : Int) : Int := (Int32.ofInt a <<< (Int32.ofInt b &&& 31)).toInt
def ishr (a b : Int) : Int := (Int32.ofInt a >>> (Int32.ofInt b &&& 31)).toInt
def iushr (a b : Int) : Int := ((Int32.ofInt a).toUInt32 >>> ((Int32.ofInt b).toUInt32 &&& Int32.toUInt32 31)).toInt32.toInt
def idiv' (a b : Int) : Int := (Int32.ofInt a / Int32.ofInt b).toInt
def irem' (a b : Int) : Int := (Int32.ofInt a - Int32.ofInt a / Int32.ofInt b * Int32.ofInt b).toInt
def i2b (a : Int) : Int := (Int32.ofInt a).toInt8.toInt32.toInt
def jand (a b : Int) : Int := (Int64.ofInt a &&& Int64.ofInt b).toInt
def jor (a b : Int) : Int := (Int64.ofInt a ||| Int64.ofInt b).toInt
def jxor (a b : Int) : Int := (Int64.ofInt a ^^^ Int64.ofInt b).toInt
def jshl (a b : Int) : Int := (Int64.ofInt a <<< ((Int32.ofInt b).toInt64 &&& 63)).toInt
def jshr (a b : Int) : Int := (Int64.ofInt a >>> ((Int32.ofInt b).toInt64 &&& 63)).toInt
def jushr (a b : Int) : Int := ((Int64.ofInt a).toUInt64 >>> ((Int32.ofInt b).toInt64.toUInt64 &&& Int64.toUInt64 63)).toInt64.toInt
def jcmp (a b : Int) : Int := (lg_cmp (Int64.ofInt a) (Int64.ofInt b)).toInt
def l2i (a : Int) : Int := (Int64.ofInt a).toInt32.toInt
theorem n32_inj {a b : Int} : Int32.ofInt a = Int32.ofInt b ↔ n32 a = n32 b := Int32.toInt_inj.symm
theorem n32_z {a : Int} : Int32.ofInt a = 0 ↔ n32 a = 0 := by
  rw [← Int32.toInt_inj]; rfl
def isJ (v : aV) : Bool := match v with
  | .inr (.inl _) => true
  | _ => false
theorem isJ_cat (ρ : Nat → Nat) (v : aV) : ((cA ρ v).category == 2) = isJ v := by
  rcases v with a | a | a <;> rfl
def sto1 (i : Nat) (v : aV) (L : List (Nat × aV)) : List (Nat × aV) := (i, v) :: L.filter (fun q => !(q.1 == i) && !(q.1 + 1 == i && isJ q.2))
def sto2 (i : Nat) (v : aV) (L : List (Nat × aV)) : List (Nat × aV) := (i, v) :: L.filter (fun q => !(q.1 == i) && (!(q.1 == i + 1) && !(q.1 + 1 == i && isJ q.2)))
theorem sto1_map (ρ : Nat → Nat) (i : Nat) (v : aV) (L : List (Nat × aV)) : (i, cA ρ v) :: (L.map fun q => (q.1, cA ρ q.2)).filter (fun q => !(q.1 == i) && !(q.1 + 1 == i && q.2.category == 2)) = (sto1 i v L).map fun q => (q.1, cA ρ q.2) := by
  unfold sto1
  rw [List.map_cons, List.filter_map]
  congr 2
  apply List.filter_congr
  intro q _
  simp only [Function.comp, isJ_cat]
theorem sto2_map (ρ : Nat → Nat) (i : Nat) (v : aV) (L : List (Nat × aV)) : (i, cA ρ v) :: (L.map fun q => (q.1, cA ρ q.2)).filter (fun q => !(q.1 == i) && (!(q.1 == i + 1) && !(q.1 + 1 == i && q.2.category == 2))) = (sto2 i v L).map fun q => (q.1, cA ρ q.2) := by
  unfold sto2
  rw [List.map_cons, List.filter_map]
  congr 2
  apply List.filter_congr
  intro q _
  simp only [Function.comp, isJ_cat]
theorem loc_at {ρ : Nat → Nat} {L : List (Nat × aV)} {ls : Array Slot} {nL : Nat} (hl : lv_has ls nL (L.map fun q => (q.1, cA ρ q.2))) (j : Nat) {i : Nat} {v : aV} (h : L[j]? = some (i, v)) : ls[i]? = some (.val (cA ρ v)) :=
  lv_at hl j (by rw [List.getElem?_map, h]; rfl)
section ROWS
variable {y : MI} {B : BI} {Q : Option aV → Mem → Prop} {pc : Nat} {L L' : List (Nat × aV)} {S : List aV} {E : Nat → Bool} {n : Nat} {M : Mem}

theorem R_iadd {a b : Int} (d : Dc y pc .iadd 1) (k : Rr y B Q (pc + 1) L (vI (a + b) :: S) E n M) : Rr y B Q pc L (vI b :: vI a :: S) E n M := by
  intro l D p e s m args below meth c H ls locs A ρ0 ρ κ0 κ f g r sS hA ag hn hl
  have k := k l D p e s m args below meth c H ls locs A ρ0 ρ κ0 κ f g r sS hA ag hn hl
  change W _ _ _ _ _ _ _ _ _ _ _ _ _ _ _ (F0 m (pc + 1) ls (.int (Int32.ofInt (a + b)) :: S.map (cA ρ))) at k
  change W _ _ _ _ _ _ _ _ _ _ _ _ _ _ _ (F0 m pc ls (.int (Int32.ofInt b) :: .int (Int32.ofInt a) :: S.map (cA ρ)))
  refine lv_iadd f.1 f.2.1 d ?_
  rw [i32_add]
  exact k
theorem R_isub {a b : Int} (d : Dc y pc .isub 1) (k : Rr y B Q (pc + 1) L (vI (a - b) :: S) E n M) : Rr y B Q pc L (vI b :: vI a :: S) E n M := by
  intro l D p e s m args below meth c H ls locs A ρ0 ρ κ0 κ f g r sS hA ag hn hl
  have k := k l D p e s m args below meth c H ls locs A ρ0 ρ κ0 κ f g r sS hA ag hn hl
  change W _ _ _ _ _ _ _ _ _ _ _ _ _ _ _ (F0 m (pc + 1) ls (.int (Int32.ofInt (a - b)) :: S.map (cA ρ))) at k
  change W _ _ _ _ _ _ _ _ _ _ _ _ _ _ _ (F0 m pc ls (.int (Int32.ofInt b) :: .int (Int32.ofInt a) :: S.map (cA ρ)))
  refine lv_isub f.1 f.2.1 d ?_
  rw [i32_sub]
  exact k
theorem R_imul {a b : Int} (d : Dc y pc .imul 1) (k : Rr y B Q (pc + 1) L (vI (a * b) :: S) E n M) : Rr y B Q pc L (vI b :: vI a :: S) E n M := by
  intro l D p e s m args below meth c H ls locs A ρ0 ρ κ0 κ f g r sS hA ag hn hl
  have k := k l D p e s m args below meth c H ls locs A ρ0 ρ κ0 κ f g r sS hA ag hn hl
  change W _ _ _ _ _ _ _ _ _ _ _ _ _ _ _ (F0 m (pc + 1) ls (.int (Int32.ofInt (a * b)) :: S.map (cA ρ))) at k
  change W _ _ _ _ _ _ _ _ _ _ _ _ _ _ _ (F0 m pc ls (.int (Int32.ofInt b) :: .int (Int32.ofInt a) :: S.map (cA ρ)))
  refine lv_imul f.1 f.2.1 d ?_
  rw [i32_mul]
  exact k
theorem R_ladd {a b : Int} (d : Dc y pc .ladd 1) (k : Rr y B Q (pc + 1) L (vJ (a + b) :: S) E n M) : Rr y B Q pc L (vJ b :: vJ a :: S) E n M := by
  intro l D p e s m args below meth c H ls locs A ρ0 ρ κ0 κ f g r sS hA ag hn hl
  have k := k l D p e s m args below meth c H ls locs A ρ0 ρ κ0 κ f g r sS hA ag hn hl
  change W _ _ _ _ _ _ _ _ _ _ _ _ _ _ _ (F0 m (pc + 1) ls (.long (Int64.ofInt (a + b)) :: S.map (cA ρ))) at k
  change W _ _ _ _ _ _ _ _ _ _ _ _ _ _ _ (F0 m pc ls (.long (Int64.ofInt b) :: .long (Int64.ofInt a) :: S.map (cA ρ)))
  refine lv_ladd f.1 f.2.1 d ?_
  rw [i64_add]
  exact k
theorem R_lsub {a b : Int} (d : Dc y pc .lsub 1) (k : Rr y B Q (pc + 1) L (vJ (a - b) :: S) E n M) : Rr y B Q pc L (vJ b :: vJ a :: S) E n M := by
  intro l D p e s m args below meth c H ls locs A ρ0 ρ κ0 κ f g r sS hA ag hn hl
  have k := k l D p e s m args below meth c H ls locs A ρ0 ρ κ0 κ f g r sS hA ag hn hl
  change W _ _ _ _ _ _ _ _ _ _ _ _ _ _ _ (F0 m (pc + 1) ls (.long (Int64.ofInt (a - b)) :: S.map (cA ρ))) at k
  change W _ _ _ _ _ _ _ _ _ _ _ _ _ _ _ (F0 m pc ls (.long (Int64.ofInt b) :: .long (Int64.ofInt a) :: S.map (cA ρ)))
  refine lv_lsub f.1 f.2.1 d ?_
  rw [i64_sub]
  exact k
theorem R_lmul {a b : Int} (d : Dc y pc .lmul 1) (k : Rr y B Q (pc + 1) L (vJ (a * b) :: S) E n M) : Rr y B Q pc L (vJ b :: vJ a :: S) E n M := by
  intro l D p e s m args below meth c H ls locs A ρ0 ρ κ0 κ f g r sS hA ag hn hl
  have k := k l D p e s m args below meth c H ls locs A ρ0 ρ κ0 κ f g r sS hA ag hn hl
  change W _ _ _ _ _ _ _ _ _ _ _ _ _ _ _ (F0 m (pc + 1) ls (.long (Int64.ofInt (a * b)) :: S.map (cA ρ))) at k
  change W _ _ _ _ _ _ _ _ _ _ _ _ _ _ _ (F0 m pc ls (.long (Int64.ofInt b) :: .long (Int64.ofInt a) :: S.map (cA ρ)))
  refine lv_lmul f.1 f.2.1 d ?_
  rw [i64_mul]
  exact k
theorem R_iand {a b : Int} (d : Dc y pc .iand 1) (k : Rr y B Q (pc + 1) L (vI (iand a b) :: S) E n M) : Rr y B Q pc L (vI b :: vI a :: S) E n M := by
  intro l D p e s m args below meth c H ls locs A ρ0 ρ κ0 κ f g r sS hA ag hn hl
  have k := k l D p e s m args below meth c H ls locs A ρ0 ρ κ0 κ f g r sS hA ag hn hl
  change W _ _ _ _ _ _ _ _ _ _ _ _ _ _ _ (F0 m (pc + 1) ls (.int (Int32.ofInt (iand a b)) :: S.map (cA ρ))) at k
  change W _ _ _ _ _ _ _ _ _ _ _ _ _ _ _ (F0 m pc ls (.int (Int32.ofInt b) :: .int (Int32.ofInt a) :: S.map (cA ρ)))
  refine lv_iand f.1 f.2.1 d ?_
  rw [iand, Int32.ofInt_toInt] at k
  exact k
theorem R_ior {a b : Int} (d : Dc y pc .ior 1) (k : Rr y B Q (pc + 1) L (vI (ior' a b) :: S) E n M) : Rr y B Q pc L (vI b :: vI a :: S) E n M := by
  intro l D p e s m args below meth c H ls locs A ρ0 ρ κ0 κ f g r sS hA ag hn hl
  have k := k l D p e s m args below meth c H ls locs A ρ0 ρ κ0 κ f g r sS hA ag hn hl
  change W _ _ _ _ _ _ _ _ _ _ _ _ _ _ _ (F0 m (pc + 1) ls (.int (Int32.ofInt (ior' a b)) :: S.map (cA ρ))) at k
  change W _ _ _ _ _ _ _ _ _ _ _ _ _ _ _ (F0 m pc ls (.int (Int32.ofInt b) :: .int (Int32.ofInt a) :: S.map (cA ρ)))
  refine lv_ior f.1 f.2.1 d ?_
  rw [ior', Int32.ofInt_toInt] at k
  exact k
theorem R_ixor {a b : Int} (d : Dc y pc .ixor 1) (k : Rr y B Q (pc + 1) L (vI (ixor' a b) :: S) E n M) : Rr y B Q pc L (vI b :: vI a :: S) E n M := by
  intro l D p e s m args below meth c H ls locs A ρ0 ρ κ0 κ f g r sS hA ag hn hl
  have k := k l D p e s m args below meth c H ls locs A ρ0 ρ κ0 κ f g r sS hA ag hn hl
  change W _ _ _ _ _ _ _ _ _ _ _ _ _ _ _ (F0 m (pc + 1) ls (.int (Int32.ofInt (ixor' a b)) :: S.map (cA ρ))) at k
  change W _ _ _ _ _ _ _ _ _ _ _ _ _ _ _ (F0 m pc ls (.int (Int32.ofInt b) :: .int (Int32.ofInt a) :: S.map (cA ρ)))
  refine lv_ixor f.1 f.2.1 d ?_
  rw [ixor', Int32.ofInt_toInt] at k
  exact k
theorem R_ishl {a b : Int} (d : Dc y pc .ishl 1) (k : Rr y B Q (pc + 1) L (vI (ishl a b) :: S) E n M) : Rr y B Q pc L (vI b :: vI a :: S) E n M := by
  intro l D p e s m args below meth c H ls locs A ρ0 ρ κ0 κ f g r sS hA ag hn hl
  have k := k l D p e s m args below meth c H ls locs A ρ0 ρ κ0 κ f g r sS hA ag hn hl
  change W _ _ _ _ _ _ _ _ _ _ _ _ _ _ _ (F0 m (pc + 1) ls (.int (Int32.ofInt (ishl a b)) :: S.map (cA ρ))) at k
  change W _ _ _ _ _ _ _ _ _ _ _ _ _ _ _ (F0 m pc ls (.int (Int32.ofInt b) :: .int (Int32.ofInt a) :: S.map (cA ρ)))
  refine lv_ishl f.1 f.2.1 d ?_
  rw [ishl, Int32.ofInt_toInt] at k
  exact k
theorem R_ishr {a b : Int} (d : Dc y pc .ishr 1) (k : Rr y B Q (pc + 1) L (vI (ishr a b) :: S) E n M) : Rr y B Q pc L (vI b :: vI a :: S) E n M := by
  intro l D p e s m args below meth c H ls locs A ρ0 ρ κ0 κ f g r sS hA ag hn hl
  have k := k l D p e s m args below meth c H ls locs A ρ0 ρ κ0 κ f g r sS hA ag hn hl
  change W _ _ _ _ _ _ _ _ _ _ _ _ _ _ _ (F0 m (pc + 1) ls (.int (Int32.ofInt (ishr a b)) :: S.map (cA ρ))) at k
  change W _ _ _ _ _ _ _ _ _ _ _ _ _ _ _ (F0 m pc ls (.int (Int32.ofInt b) :: .int (Int32.ofInt a) :: S.map (cA ρ)))
  refine lv_ishr f.1 f.2.1 d ?_
  rw [ishr, Int32.ofInt_toInt] at k
  exact k
theorem R_iushr {a b : Int} (d : Dc y pc .iushr 1) (k : Rr y B Q (pc + 1) L (vI (iushr a b) :: S) E n M) : Rr y B Q pc L (vI b :: vI a :: S) E n M := by
  intro l D p e s m args below meth c H ls locs A ρ0 ρ κ0 κ f g r sS hA ag hn hl
  have k := k l D p e s m args below meth c H ls locs A ρ0 ρ κ0 κ f g r sS hA ag hn hl
  change W _ _ _ _ _ _ _ _ _ _ _ _ _ _ _ (F0 m (pc + 1) ls (.int (Int32.ofInt (iushr a b)) :: S.map (cA ρ))) at k
  change W _ _ _ _ _ _ _ _ _ _ _ _ _ _ _ (F0 m pc ls (.int (Int32.ofInt b) :: .int (Int32.ofInt a) :: S.map (cA ρ)))
  refine lv_iushr f.1 f.2.1 d rfl ?_
  rw [iushr, Int32.ofInt_toInt] at k
  exact k
theorem R_land {a b : Int} (d : Dc y pc .land 1) (k : Rr y B Q (pc + 1) L (vJ (jand a b) :: S) E n M) : Rr y B Q pc L (vJ b :: vJ a :: S) E n M := by
  intro l D p e s m args below meth c H ls locs A ρ0 ρ κ0 κ f g r sS hA ag hn hl
  have k := k l D p e s m args below meth c H ls locs A ρ0 ρ κ0 κ f g r sS hA ag hn hl
  change W _ _ _ _ _ _ _ _ _ _ _ _ _ _ _ (F0 m (pc + 1) ls (.long (Int64.ofInt (jand a b)) :: S.map (cA ρ))) at k
  change W _ _ _ _ _ _ _ _ _ _ _ _ _ _ _ (F0 m pc ls (.long (Int64.ofInt b) :: .long (Int64.ofInt a) :: S.map (cA ρ)))
  refine lv_land f.1 f.2.1 d ?_
  rw [jand, Int64.ofInt_toInt] at k
  exact k
theorem R_lor {a b : Int} (d : Dc y pc .lor 1) (k : Rr y B Q (pc + 1) L (vJ (jor a b) :: S) E n M) : Rr y B Q pc L (vJ b :: vJ a :: S) E n M := by
  intro l D p e s m args below meth c H ls locs A ρ0 ρ κ0 κ f g r sS hA ag hn hl
  have k := k l D p e s m args below meth c H ls locs A ρ0 ρ κ0 κ f g r sS hA ag hn hl
  change W _ _ _ _ _ _ _ _ _ _ _ _ _ _ _ (F0 m (pc + 1) ls (.long (Int64.ofInt (jor a b)) :: S.map (cA ρ))) at k
  change W _ _ _ _ _ _ _ _ _ _ _ _ _ _ _ (F0 m pc ls (.long (Int64.ofInt b) :: .long (Int64.ofInt a) :: S.map (cA ρ)))
  refine lv_lor f.1 f.2.1 d ?_
  rw [jor, Int64.ofInt_toInt] at k
  exact k
theorem R_lxor {a b : Int} (d : Dc y pc .lxor 1) (k : Rr y B Q (pc + 1) L (vJ (jxor a b) :: S) E n M) : Rr y B Q pc L (vJ b :: vJ a :: S) E n M := by
  intro l D p e s m args below meth c H ls locs A ρ0 ρ κ0 κ f g r sS hA ag hn hl
  have k := k l D p e s m args below meth c H ls locs A ρ0 ρ κ0 κ f g r sS hA ag hn hl
  change W _ _ _ _ _ _ _ _ _ _ _ _ _ _ _ (F0 m (pc + 1) ls (.long (Int64.ofInt (jxor a b)) :: S.map (cA ρ))) at k
  change W _ _ _ _ _ _ _ _ _ _ _ _ _ _ _ (F0 m pc ls (.long (Int64.ofInt b) :: .long (Int64.ofInt a) :: S.map (cA ρ)))
  refine lv_lxor f.1 f.2.1 d ?_
  rw [jxor, Int64.ofInt_toInt] at k
  exact k
theorem R_lshl {a b : Int} (d : Dc y pc .lshl 1) (k : Rr y B Q (pc + 1) L (vJ (jshl a b) :: S) E n M) : Rr y B Q pc L (vI b :: vJ a :: S) E n M := by
  intro l D p e s m args below meth c H ls locs A ρ0 ρ κ0 κ f g r sS hA ag hn hl
  have k := k l D p e s m args below meth c H ls locs A ρ0 ρ κ0 κ f g r sS hA ag hn hl
  change W _ _ _ _ _ _ _ _ _ _ _ _ _ _ _ (F0 m (pc + 1) ls (.long (Int64.ofInt (jshl a b)) :: S.map (cA ρ))) at k
  change W _ _ _ _ _ _ _ _ _ _ _ _ _ _ _ (F0 m pc ls (.int (Int32.ofInt b) :: .long (Int64.ofInt a) :: S.map (cA ρ)))
  refine lv_lshl f.1 f.2.1 d rfl ?_
  rw [jshl, Int64.ofInt_toInt] at k
  exact k
theorem R_lshr {a b : Int} (d : Dc y pc .lshr 1) (k : Rr y B Q (pc + 1) L (vJ (jshr a b) :: S) E n M) : Rr y B Q pc L (vI b :: vJ a :: S) E n M := by
  intro l D p e s m args below meth c H ls locs A ρ0 ρ κ0 κ f g r sS hA ag hn hl
  have k := k l D p e s m args below meth c H ls locs A ρ0 ρ κ0 κ f g r sS hA ag hn hl
  change W _ _ _ _ _ _ _ _ _ _ _ _ _ _ _ (F0 m (pc + 1) ls (.long (Int64.ofInt (jshr a b)) :: S.map (cA ρ))) at k
  change W _ _ _ _ _ _ _ _ _ _ _ _ _ _ _ (F0 m pc ls (.int (Int32.ofInt b) :: .long (Int64.ofInt a) :: S.map (cA ρ)))
  refine lv_lshr f.1 f.2.1 d rfl ?_
  rw [jshr, Int64.ofInt_toInt] at k
  exact k
theorem R_lushr {a b : Int} (d : Dc y pc .lushr 1) (k : Rr y B Q (pc + 1) L (vJ (jushr a b) :: S) E n M) : Rr y B Q pc L (vI b :: vJ a :: S) E n M := by
  intro l D p e s m args below meth c H ls locs A ρ0 ρ κ0 κ f g r sS hA ag hn hl
  have k := k l D p e s m args below meth c H ls locs A ρ0 ρ κ0 κ f g r sS hA ag hn hl
  change W _ _ _ _ _ _ _ _ _ _ _ _ _ _ _ (F0 m (pc + 1) ls (.long (Int64.ofInt (jushr a b)) :: S.map (cA ρ))) at k
  change W _ _ _ _ _ _ _ _ _ _ _ _ _ _ _ (F0 m pc ls (.int (Int32.ofInt b) :: .long (Int64.ofInt a) :: S.map (cA ρ)))
  refine lv_lushr f.1 f.2.1 d rfl ?_
  rw [jushr, Int64.ofInt_toInt] at k
  exact k
theorem R_i2l {a : Int} (d : Dc y pc .i2l 1) (k : Rr y B Q (pc + 1) L (vJ (n32 a) :: S) E n M) : Rr y B Q pc L (vI a :: S) E n M := by
  intro l D p e s m args below meth c H ls locs A ρ0 ρ κ0 κ f g r sS hA ag hn hl
  have k := k l D p e s m args below meth c H ls locs A ρ0 ρ κ0 κ f g r sS hA ag hn hl
  change W _ _ _ _ _ _ _ _ _ _ _ _ _ _ _ (F0 m (pc + 1) ls (.long (Int64.ofInt (n32 a)) :: S.map (cA ρ))) at k
  change W _ _ _ _ _ _ _ _ _ _ _ _ _ _ _ (F0 m pc ls (.int (Int32.ofInt a) :: S.map (cA ρ)))
  refine lv_i2l f.1 f.2.1 d rfl ?_
  rw [n32, Int64.ofInt_int32ToInt] at k
  exact k
theorem R_l2i {a : Int} (d : Dc y pc .l2i 1) (k : Rr y B Q (pc + 1) L (vI (l2i a) :: S) E n M) : Rr y B Q pc L (vJ a :: S) E n M := by
  intro l D p e s m args below meth c H ls locs A ρ0 ρ κ0 κ f g r sS hA ag hn hl
  have k := k l D p e s m args below meth c H ls locs A ρ0 ρ κ0 κ f g r sS hA ag hn hl
  change W _ _ _ _ _ _ _ _ _ _ _ _ _ _ _ (F0 m (pc + 1) ls (.int (Int32.ofInt (l2i a)) :: S.map (cA ρ))) at k
  change W _ _ _ _ _ _ _ _ _ _ _ _ _ _ _ (F0 m pc ls (.long (Int64.ofInt a) :: S.map (cA ρ)))
  refine lv_l2i f.1 f.2.1 d rfl ?_
  rw [l2i, Int32.ofInt_toInt] at k
  exact k
theorem R_i2b {a : Int} (d : Dc y pc .i2b 1) (k : Rr y B Q (pc + 1) L (vI (i2b a) :: S) E n M) : Rr y B Q pc L (vI a :: S) E n M := by
  intro l D p e s m args below meth c H ls locs A ρ0 ρ κ0 κ f g r sS hA ag hn hl
  have k := k l D p e s m args below meth c H ls locs A ρ0 ρ κ0 κ f g r sS hA ag hn hl
  change W _ _ _ _ _ _ _ _ _ _ _ _ _ _ _ (F0 m (pc + 1) ls (.int (Int32.ofInt (i2b a)) :: S.map (cA ρ))) at k
  change W _ _ _ _ _ _ _ _ _ _ _ _ _ _ _ (F0 m pc ls (.int (Int32.ofInt a) :: S.map (cA ρ)))
  refine lv_i2b f.1 f.2.1 d rfl ?_
  rw [i2b, Int32.ofInt_toInt] at k
  exact k
theorem R_lcmp {a b : Int} (d : Dc y pc .lcmp 1) (k : Rr y B Q (pc + 1) L (vI (jcmp a b) :: S) E n M) : Rr y B Q pc L (vJ b :: vJ a :: S) E n M := by
  intro l D p e s m args below meth c H ls locs A ρ0 ρ κ0 κ f g r sS hA ag hn hl
  have k := k l D p e s m args below meth c H ls locs A ρ0 ρ κ0 κ f g r sS hA ag hn hl
  change W _ _ _ _ _ _ _ _ _ _ _ _ _ _ _ (F0 m (pc + 1) ls (.int (Int32.ofInt (jcmp a b)) :: S.map (cA ρ))) at k
  change W _ _ _ _ _ _ _ _ _ _ _ _ _ _ _ (F0 m pc ls (.long (Int64.ofInt b) :: .long (Int64.ofInt a) :: S.map (cA ρ)))
  refine W.lcmp f.1 f.2.1 d ?_
  rw [jcmp, Int32.ofInt_toInt] at k
  exact k
theorem R_idiv {a b : Int} (d : Dc y pc .idiv 1) (h : ¬ n32 b = 0) (k : Rr y B Q (pc + 1) L (vI (idiv' a b) :: S) E n M) : Rr y B Q pc L (vI b :: vI a :: S) E n M := by
  intro l D p e s m args below meth c H ls locs A ρ0 ρ κ0 κ f g r sS hA ag hn hl
  have k := k l D p e s m args below meth c H ls locs A ρ0 ρ κ0 κ f g r sS hA ag hn hl
  change W _ _ _ _ _ _ _ _ _ _ _ _ _ _ _ (F0 m (pc + 1) ls (.int (Int32.ofInt (idiv' a b)) :: S.map (cA ρ))) at k
  change W _ _ _ _ _ _ _ _ _ _ _ _ _ _ _ (F0 m pc ls (.int (Int32.ofInt b) :: .int (Int32.ofInt a) :: S.map (cA ρ)))
  refine lv_idiv f.1 f.2.1 d (fun q => h (n32_z.mp q)) ?_
  rw [idiv', Int32.ofInt_toInt] at k
  exact k
theorem R_irem {a b : Int} (d : Dc y pc .irem 1) (h : ¬ n32 b = 0) (k : Rr y B Q (pc + 1) L (vI (irem' a b) :: S) E n M) : Rr y B Q pc L (vI b :: vI a :: S) E n M := by
  intro l D p e s m args below meth c H ls locs A ρ0 ρ κ0 κ f g r sS hA ag hn hl
  have k := k l D p e s m args below meth c H ls locs A ρ0 ρ κ0 κ f g r sS hA ag hn hl
  change W _ _ _ _ _ _ _ _ _ _ _ _ _ _ _ (F0 m (pc + 1) ls (.int (Int32.ofInt (irem' a b)) :: S.map (cA ρ))) at k
  change W _ _ _ _ _ _ _ _ _ _ _ _ _ _ _ (F0 m pc ls (.int (Int32.ofInt b) :: .int (Int32.ofInt a) :: S.map (cA ρ)))
  refine lv_irem f.1 f.2.1 d (fun q => h (n32_z.mp q)) ?_
  rw [irem', Int32.ofInt_toInt] at k
  exact k
theorem R_iconst {a : Int} (d : Dc y pc (.iconst a) 1) (k : Rr y B Q (pc + 1) L (vI a :: S) E n M) : Rr y B Q pc L (S) E n M := by
  intro l D p e s m args below meth c H ls locs A ρ0 ρ κ0 κ f g r sS hA ag hn hl
  have k := k l D p e s m args below meth c H ls locs A ρ0 ρ κ0 κ f g r sS hA ag hn hl
  change W _ _ _ _ _ _ _ _ _ _ _ _ _ _ _ (F0 m (pc + 1) ls (.int (Int32.ofInt a) :: S.map (cA ρ))) at k
  change W _ _ _ _ _ _ _ _ _ _ _ _ _ _ _ (F0 m pc ls (S.map (cA ρ)))
  refine lv_iconst f.1 f.2.1 d rfl ?_
  exact k
theorem R_bipush {a : Int} (d : Dc y pc (.bipush a) 2) (h : (Int8.ofInt a).toInt32 = Int32.ofInt a) (k : Rr y B Q (pc + 2) L (vI a :: S) E n M) : Rr y B Q pc L (S) E n M := by
  intro l D p e s m args below meth c H ls locs A ρ0 ρ κ0 κ f g r sS hA ag hn hl
  have k := k l D p e s m args below meth c H ls locs A ρ0 ρ κ0 κ f g r sS hA ag hn hl
  change W _ _ _ _ _ _ _ _ _ _ _ _ _ _ _ (F0 m (pc + 2) ls (.int (Int32.ofInt a) :: S.map (cA ρ))) at k
  change W _ _ _ _ _ _ _ _ _ _ _ _ _ _ _ (F0 m pc ls (S.map (cA ρ)))
  refine lv_bipush f.1 f.2.1 d h ?_
  exact k
theorem R_sipush {a : Int} (d : Dc y pc (.sipush a) 3) (h : (Int16.ofInt a).toInt32 = Int32.ofInt a) (k : Rr y B Q (pc + 3) L (vI a :: S) E n M) : Rr y B Q pc L (S) E n M := by
  intro l D p e s m args below meth c H ls locs A ρ0 ρ κ0 κ f g r sS hA ag hn hl
  have k := k l D p e s m args below meth c H ls locs A ρ0 ρ κ0 κ f g r sS hA ag hn hl
  change W _ _ _ _ _ _ _ _ _ _ _ _ _ _ _ (F0 m (pc + 3) ls (.int (Int32.ofInt a) :: S.map (cA ρ))) at k
  change W _ _ _ _ _ _ _ _ _ _ _ _ _ _ _ (F0 m pc ls (S.map (cA ρ)))
  refine lv_sipush f.1 f.2.1 d h ?_
  exact k
theorem R_lconst {a : Int} {j : Fin 2} (d : Dc y pc (.lconst j) 1) (h : Int64.ofNat (j : Nat) = Int64.ofInt a) (k : Rr y B Q (pc + 1) L (vJ a :: S) E n M) : Rr y B Q pc L (S) E n M := by
  intro l D p e s m args below meth c H ls locs A ρ0 ρ κ0 κ f g r sS hA ag hn hl
  have k := k l D p e s m args below meth c H ls locs A ρ0 ρ κ0 κ f g r sS hA ag hn hl
  change W _ _ _ _ _ _ _ _ _ _ _ _ _ _ _ (F0 m (pc + 1) ls (.long (Int64.ofInt a) :: S.map (cA ρ))) at k
  change W _ _ _ _ _ _ _ _ _ _ _ _ _ _ _ (F0 m pc ls (S.map (cA ρ)))
  refine lv_lconst f.1 f.2.1 d h ?_
  exact k
theorem R_ldc {a : Int} {ix : Nat} (d : Dc y pc (.ldc ix) 2) (h : Cond.constant y.1.cls ix (Int32.ofInt a) ∈ tbG) (k : Rr y B Q (pc + 2) L (vI a :: S) E n M) : Rr y B Q pc L (S) E n M := by
  intro l D p e s m args below meth c H ls locs A ρ0 ρ κ0 κ f g r sS hA ag hn hl
  have k := k l D p e s m args below meth c H ls locs A ρ0 ρ κ0 κ f g r sS hA ag hn hl
  change W _ _ _ _ _ _ _ _ _ _ _ _ _ _ _ (F0 m (pc + 2) ls (.int (Int32.ofInt a) :: S.map (cA ρ))) at k
  change W _ _ _ _ _ _ _ _ _ _ _ _ _ _ _ (F0 m pc ls (S.map (cA ρ)))
  refine lv_ldc f.1 f.2.1 f.2.2.2.2.2.1 (f.2.2.2.2.2.2.2 _ h) d ?_
  exact k
theorem R_ldcw {a : Int} {ix : Nat} (d : Dc y pc (.ldc_w ix) 3) (h : Cond.constant y.1.cls ix (Int32.ofInt a) ∈ tbG) (k : Rr y B Q (pc + 3) L (vI a :: S) E n M) : Rr y B Q pc L (S) E n M := by
  intro l D p e s m args below meth c H ls locs A ρ0 ρ κ0 κ f g r sS hA ag hn hl
  have k := k l D p e s m args below meth c H ls locs A ρ0 ρ κ0 κ f g r sS hA ag hn hl
  change W _ _ _ _ _ _ _ _ _ _ _ _ _ _ _ (F0 m (pc + 3) ls (.int (Int32.ofInt a) :: S.map (cA ρ))) at k
  change W _ _ _ _ _ _ _ _ _ _ _ _ _ _ _ (F0 m pc ls (S.map (cA ρ)))
  refine lv_ldcw f.1 f.2.1 f.2.2.2.2.2.1 (f.2.2.2.2.2.2.2 _ h) d ?_
  exact k
theorem R_ldc2 {a : Int} {ix : Nat} (d : Dc y pc (.ldc2_w ix) 3) (h : Cond.constantLong y.1.cls ix (Int64.ofInt a) ∈ tbG) (k : Rr y B Q (pc + 3) L (vJ a :: S) E n M) : Rr y B Q pc L (S) E n M := by
  intro l D p e s m args below meth c H ls locs A ρ0 ρ κ0 κ f g r sS hA ag hn hl
  have k := k l D p e s m args below meth c H ls locs A ρ0 ρ κ0 κ f g r sS hA ag hn hl
  change W _ _ _ _ _ _ _ _ _ _ _ _ _ _ _ (F0 m (pc + 3) ls (.long (Int64.ofInt a) :: S.map (cA ρ))) at k
  change W _ _ _ _ _ _ _ _ _ _ _ _ _ _ _ (F0 m pc ls (S.map (cA ρ)))
  refine lv_ldc2 f.1 f.2.1 f.2.2.2.2.2.1 (f.2.2.2.2.2.2.2 _ h) d ?_
  exact k
theorem R_iload_n {a : Int} {q : Fin 4} {i : Nat} (j : Nat) (d : Dc y pc (.iload_n q) 1) (hi : (q : Nat) = i) (h : L[j]? = some (i, vI a)) (k : Rr y B Q (pc + 1) L (vI a :: S) E n M) : Rr y B Q pc L (S) E n M := by
  intro l D p e s m args below meth c H ls locs A ρ0 ρ κ0 κ f g r sS hA ag hn hl
  have k := k l D p e s m args below meth c H ls locs A ρ0 ρ κ0 κ f g r sS hA ag hn hl
  change W _ _ _ _ _ _ _ _ _ _ _ _ _ _ _ (F0 m (pc + 1) ls (.int (Int32.ofInt a) :: S.map (cA ρ))) at k
  change W _ _ _ _ _ _ _ _ _ _ _ _ _ _ _ (F0 m pc ls (S.map (cA ρ)))
  refine lv_iload_n f.1 f.2.1 d hi (loc_at hl j h) ?_
  exact k
theorem R_iload {a : Int} {i : Nat} (j : Nat) (d : Dc y pc (.iload i) 2) (h : L[j]? = some (i, vI a)) (k : Rr y B Q (pc + 2) L (vI a :: S) E n M) : Rr y B Q pc L (S) E n M := by
  intro l D p e s m args below meth c H ls locs A ρ0 ρ κ0 κ f g r sS hA ag hn hl
  have k := k l D p e s m args below meth c H ls locs A ρ0 ρ κ0 κ f g r sS hA ag hn hl
  change W _ _ _ _ _ _ _ _ _ _ _ _ _ _ _ (F0 m (pc + 2) ls (.int (Int32.ofInt a) :: S.map (cA ρ))) at k
  change W _ _ _ _ _ _ _ _ _ _ _ _ _ _ _ (F0 m pc ls (S.map (cA ρ)))
  refine lv_iload f.1 f.2.1 d (loc_at hl j h) ?_
  exact k
theorem R_istore_n {a : Int} {i : Nat} {q : Fin 4} (d : Dc y pc (.istore_n q) 1) (hi : (q : Nat) = i) (hn' : i < y.2.2.1) (hL : sto1 i (vI a) L = L') (k : Rr y B Q (pc + 1) L' S E n M) : Rr y B Q pc L (vI a :: S) E n M := by
  intro l D p e s m args below meth c H ls locs A ρ0 ρ κ0 κ f g r sS hA ag hn hl
  change W _ _ _ _ _ _ _ _ _ _ _ _ _ _ _ (F0 m pc ls (.int (Int32.ofInt a) :: S.map (cA ρ)))
  refine lv_istore_n f.1 f.2.1 d hi hl hn' (sto1_map ρ i (vI a) L) fun ls' hl' => ?_
  rw [hL] at hl'
  exact k l D p e s m args below meth c H ls' locs A ρ0 ρ κ0 κ f g r sS hA ag hn hl'
theorem R_istore {a : Int} {i : Nat} (d : Dc y pc (.istore i) 2) (hn' : i < y.2.2.1) (hL : sto1 i (vI a) L = L') (k : Rr y B Q (pc + 2) L' S E n M) : Rr y B Q pc L (vI a :: S) E n M := by
  intro l D p e s m args below meth c H ls locs A ρ0 ρ κ0 κ f g r sS hA ag hn hl
  change W _ _ _ _ _ _ _ _ _ _ _ _ _ _ _ (F0 m pc ls (.int (Int32.ofInt a) :: S.map (cA ρ)))
  refine lv_istore f.1 f.2.1 d  hl hn' (sto1_map ρ i (vI a) L) fun ls' hl' => ?_
  rw [hL] at hl'
  exact k l D p e s m args below meth c H ls' locs A ρ0 ρ κ0 κ f g r sS hA ag hn hl'
theorem R_lload_n {a : Int} {q : Fin 4} {i : Nat} (j : Nat) (d : Dc y pc (.lload_n q) 1) (hi : (q : Nat) = i) (h : L[j]? = some (i, vJ a)) (k : Rr y B Q (pc + 1) L (vJ a :: S) E n M) : Rr y B Q pc L (S) E n M := by
  intro l D p e s m args below meth c H ls locs A ρ0 ρ κ0 κ f g r sS hA ag hn hl
  have k := k l D p e s m args below meth c H ls locs A ρ0 ρ κ0 κ f g r sS hA ag hn hl
  change W _ _ _ _ _ _ _ _ _ _ _ _ _ _ _ (F0 m (pc + 1) ls (.long (Int64.ofInt a) :: S.map (cA ρ))) at k
  change W _ _ _ _ _ _ _ _ _ _ _ _ _ _ _ (F0 m pc ls (S.map (cA ρ)))
  refine lv_lload_n f.1 f.2.1 d hi (loc_at hl j h) ?_
  exact k
theorem R_lload {a : Int} {i : Nat} (j : Nat) (d : Dc y pc (.lload i) 2) (h : L[j]? = some (i, vJ a)) (k : Rr y B Q (pc + 2) L (vJ a :: S) E n M) : Rr y B Q pc L (S) E n M := by
  intro l D p e s m args below meth c H ls locs A ρ0 ρ κ0 κ f g r sS hA ag hn hl
  have k := k l D p e s m args below meth c H ls locs A ρ0 ρ κ0 κ f g r sS hA ag hn hl
  change W _ _ _ _ _ _ _ _ _ _ _ _ _ _ _ (F0 m (pc + 2) ls (.long (Int64.ofInt a) :: S.map (cA ρ))) at k
  change W _ _ _ _ _ _ _ _ _ _ _ _ _ _ _ (F0 m pc ls (S.map (cA ρ)))
  refine lv_lload f.1 f.2.1 d (loc_at hl j h) ?_
  exact k
theorem R_lstore_n {a : Int} {i : Nat} {q : Fin 4} (d : Dc y pc (.lstore_n q) 1) (hi : (q : Nat) = i) (hn' : i + 1 < y.2.2.1) (hL : sto2 i (vJ a) L = L') (k : Rr y B Q (pc + 1) L' S E n M) : Rr y B Q pc L (vJ a :: S) E n M := by
  intro l D p e s m args below meth c H ls locs A ρ0 ρ κ0 κ f g r sS hA ag hn hl
  change W _ _ _ _ _ _ _ _ _ _ _ _ _ _ _ (F0 m pc ls (.long (Int64.ofInt a) :: S.map (cA ρ)))
  refine lv_lstore_n f.1 f.2.1 d hi hl hn' (sto2_map ρ i (vJ a) L) fun ls' hl' => ?_
  rw [hL] at hl'
  exact k l D p e s m args below meth c H ls' locs A ρ0 ρ κ0 κ f g r sS hA ag hn hl'
theorem R_lstore {a : Int} {i : Nat} (d : Dc y pc (.lstore i) 2) (hn' : i + 1 < y.2.2.1) (hL : sto2 i (vJ a) L = L') (k : Rr y B Q (pc + 2) L' S E n M) : Rr y B Q pc L (vJ a :: S) E n M := by
  intro l D p e s m args below meth c H ls locs A ρ0 ρ κ0 κ f g r sS hA ag hn hl
  change W _ _ _ _ _ _ _ _ _ _ _ _ _ _ _ (F0 m pc ls (.long (Int64.ofInt a) :: S.map (cA ρ)))
  refine lv_lstore f.1 f.2.1 d  hl hn' (sto2_map ρ i (vJ a) L) fun ls' hl' => ?_
  rw [hL] at hl'
  exact k l D p e s m args below meth c H ls' locs A ρ0 ρ κ0 κ f g r sS hA ag hn hl'
theorem R_aload_n {a : Nat} {q : Fin 4} {i : Nat} (j : Nat) (d : Dc y pc (.aload_n q) 1) (hi : (q : Nat) = i) (h : L[j]? = some (i, vR a)) (k : Rr y B Q (pc + 1) L (vR a :: S) E n M) : Rr y B Q pc L (S) E n M := by
  intro l D p e s m args below meth c H ls locs A ρ0 ρ κ0 κ f g r sS hA ag hn hl
  have k := k l D p e s m args below meth c H ls locs A ρ0 ρ κ0 κ f g r sS hA ag hn hl
  change W _ _ _ _ _ _ _ _ _ _ _ _ _ _ _ (F0 m (pc + 1) ls (.ref (ρ a) :: S.map (cA ρ))) at k
  change W _ _ _ _ _ _ _ _ _ _ _ _ _ _ _ (F0 m pc ls (S.map (cA ρ)))
  refine lv_aload_n f.1 f.2.1 d hi (loc_at hl j h) ?_
  exact k
theorem R_aload {a : Nat} {i : Nat} (j : Nat) (d : Dc y pc (.aload i) 2) (h : L[j]? = some (i, vR a)) (k : Rr y B Q (pc + 2) L (vR a :: S) E n M) : Rr y B Q pc L (S) E n M := by
  intro l D p e s m args below meth c H ls locs A ρ0 ρ κ0 κ f g r sS hA ag hn hl
  have k := k l D p e s m args below meth c H ls locs A ρ0 ρ κ0 κ f g r sS hA ag hn hl
  change W _ _ _ _ _ _ _ _ _ _ _ _ _ _ _ (F0 m (pc + 2) ls (.ref (ρ a) :: S.map (cA ρ))) at k
  change W _ _ _ _ _ _ _ _ _ _ _ _ _ _ _ (F0 m pc ls (S.map (cA ρ)))
  refine lv_aload f.1 f.2.1 d (loc_at hl j h) ?_
  exact k
theorem R_astore_n {a : Nat} {i : Nat} {q : Fin 4} (d : Dc y pc (.astore_n q) 1) (hi : (q : Nat) = i) (hn' : i < y.2.2.1) (hL : sto1 i (vR a) L = L') (k : Rr y B Q (pc + 1) L' S E n M) : Rr y B Q pc L (vR a :: S) E n M := by
  intro l D p e s m args below meth c H ls locs A ρ0 ρ κ0 κ f g r sS hA ag hn hl
  change W _ _ _ _ _ _ _ _ _ _ _ _ _ _ _ (F0 m pc ls (.ref (ρ a) :: S.map (cA ρ)))
  refine lv_astore_n f.1 f.2.1 d hi hl hn' (sto1_map ρ i (vR a) L) fun ls' hl' => ?_
  rw [hL] at hl'
  exact k l D p e s m args below meth c H ls' locs A ρ0 ρ κ0 κ f g r sS hA ag hn hl'
theorem R_astore {a : Nat} {i : Nat} (d : Dc y pc (.astore i) 2) (hn' : i < y.2.2.1) (hL : sto1 i (vR a) L = L') (k : Rr y B Q (pc + 2) L' S E n M) : Rr y B Q pc L (vR a :: S) E n M := by
  intro l D p e s m args below meth c H ls locs A ρ0 ρ κ0 κ f g r sS hA ag hn hl
  change W _ _ _ _ _ _ _ _ _ _ _ _ _ _ _ (F0 m pc ls (.ref (ρ a) :: S.map (cA ρ)))
  refine lv_astore f.1 f.2.1 d  hl hn' (sto1_map ρ i (vR a) L) fun ls' hl' => ?_
  rw [hL] at hl'
  exact k l D p e s m args below meth c H ls' locs A ρ0 ρ κ0 κ f g r sS hA ag hn hl'
theorem R_iinc {a z : Int} {i : Nat} (j : Nat) (d : Dc y pc (.iinc i z) 3) (h : L[j]? = some (i, vI a)) (hn' : i < y.2.2.1) (hL : sto1 i (vI (a + z)) L = L') (k : Rr y B Q (pc + 3) L' S E n M) : Rr y B Q pc L S E n M := by
  intro l D p e s m args below meth c H ls locs A ρ0 ρ κ0 κ f g r sS hA ag hn hl
  refine lv_iinc f.1 f.2.1 d hl (k := j) (x := Int32.ofInt a) (v := Int32.ofInt (a + z)) (by rw [List.getElem?_map, h]; rfl) (i32_add a z) hn' (sto1_map ρ i (vI (a + z)) L) fun ls' hl' => ?_
  rw [hL] at hl'
  exact k l D p e s m args below meth c H ls' locs A ρ0 ρ κ0 κ f g r sS hA ag hn hl'
theorem R_dup {v : aV} (d : Dc y pc .dup 1) (hv : isJ v = false) (k : Rr y B Q (pc + 1) L (v :: v :: S) E n M) : Rr y B Q pc L (v :: S) E n M := by
  intro l D p e s m args below meth c H ls locs A ρ0 ρ κ0 κ f g r sS hA ag hn hl
  have k := k l D p e s m args below meth c H ls locs A ρ0 ρ κ0 κ f g r sS hA ag hn hl
  change W _ _ _ _ _ _ _ _ _ _ _ _ _ _ _ (F0 m pc ls (cA ρ v :: S.map (cA ρ)))
  refine lv_dup f.1 f.2.1 d ?_ k
  rcases v with a | a | a
  · rfl
  · cases hv
  · rfl
theorem R_dup2 {v w : aV} (d : Dc y pc .dup2 1) (hv : isJ v = false) (hw : isJ w = false) (k : Rr y B Q (pc + 1) L (v :: w :: v :: w :: S) E n M) : Rr y B Q pc L (v :: w :: S) E n M := by
  intro l D p e s m args below meth c H ls locs A ρ0 ρ κ0 κ f g r sS hA ag hn hl
  have k := k l D p e s m args below meth c H ls locs A ρ0 ρ κ0 κ f g r sS hA ag hn hl
  change W _ _ _ _ _ _ _ _ _ _ _ _ _ _ _ (F0 m pc ls (cA ρ v :: cA ρ w :: S.map (cA ρ)))
  refine lv_dup2_11 f.1 f.2.1 d ?_ ?_ k
  · rcases v with a | a | a
    · rfl
    · cases hv
    · rfl
  · rcases w with a | a | a
    · rfl
    · cases hw
    · rfl
theorem R_if_eq {a : Int} {off : Int} (tgt : Nat) (d : Dc y pc (.ifCond .eq off) 3) (ht : (pc : Int) + off = (tgt : Int)) (kt : n32 a = 0 → Rr y B Q tgt L S E n M) (kf : ¬ (n32 a = 0) → Rr y B Q (pc + 3) L S E n M) : Rr y B Q pc L (vI a :: S) E n M := by
  intro l D p e s m args below meth c H ls locs A ρ0 ρ κ0 κ f g r sS hA ag hn hl
  change W _ _ _ _ _ _ _ _ _ _ _ _ _ _ _ (F0 m pc ls (.int (Int32.ofInt a) :: S.map (cA ρ)))
  refine lv_if_eq f.1 f.2.1 d ht (fun q => kt ?_ l D p e s m args below meth c H ls locs A ρ0 ρ κ0 κ f g r sS hA ag hn hl) (fun q => kf ?_ l D p e s m args below meth c H ls locs A ρ0 ρ κ0 κ f g r sS hA ag hn hl)
  · exact (n32_z).mp q
  · exact fun z => q ((n32_z).mpr z)
theorem R_icmp_eq {a b : Int} {off : Int} (tgt : Nat) (d : Dc y pc (.if_icmp .eq off) 3) (ht : (pc : Int) + off = (tgt : Int)) (kt : n32 a = n32 b → Rr y B Q tgt L S E n M) (kf : ¬ (n32 a = n32 b) → Rr y B Q (pc + 3) L S E n M) : Rr y B Q pc L (vI b :: vI a :: S) E n M := by
  intro l D p e s m args below meth c H ls locs A ρ0 ρ κ0 κ f g r sS hA ag hn hl
  change W _ _ _ _ _ _ _ _ _ _ _ _ _ _ _ (F0 m pc ls (.int (Int32.ofInt b) :: .int (Int32.ofInt a) :: S.map (cA ρ)))
  refine lv_icmp_eq f.1 f.2.1 d ht (fun q => kt ?_ l D p e s m args below meth c H ls locs A ρ0 ρ κ0 κ f g r sS hA ag hn hl) (fun q => kf ?_ l D p e s m args below meth c H ls locs A ρ0 ρ κ0 κ f g r sS hA ag hn hl)
  · exact (n32_inj).mp q
  · exact fun z => q ((n32_inj).mpr z)
theorem R_if_ne {a : Int} {off : Int} (tgt : Nat) (d : Dc y pc (.ifCond .ne off) 3) (ht : (pc : Int) + off = (tgt : Int)) (kt : ¬ n32 a = 0 → Rr y B Q tgt L S E n M) (kf : ¬ (¬ n32 a = 0) → Rr y B Q (pc + 3) L S E n M) : Rr y B Q pc L (vI a :: S) E n M := by
  intro l D p e s m args below meth c H ls locs A ρ0 ρ κ0 κ f g r sS hA ag hn hl
  change W _ _ _ _ _ _ _ _ _ _ _ _ _ _ _ (F0 m pc ls (.int (Int32.ofInt a) :: S.map (cA ρ)))
  refine lv_if_ne f.1 f.2.1 d ht (fun q => kt ?_ l D p e s m args below meth c H ls locs A ρ0 ρ κ0 κ f g r sS hA ag hn hl) (fun q => kf ?_ l D p e s m args below meth c H ls locs A ρ0 ρ κ0 κ f g r sS hA ag hn hl)
  · exact ((not_congr n32_z)).mp q
  · exact fun z => z (n32_z.mp q)
theorem R_icmp_ne {a b : Int} {off : Int} (tgt : Nat) (d : Dc y pc (.if_icmp .ne off) 3) (ht : (pc : Int) + off = (tgt : Int)) (kt : ¬ n32 a = n32 b → Rr y B Q tgt L S E n M) (kf : ¬ (¬ n32 a = n32 b) → Rr y B Q (pc + 3) L S E n M) : Rr y B Q pc L (vI b :: vI a :: S) E n M := by
  intro l D p e s m args below meth c H ls locs A ρ0 ρ κ0 κ f g r sS hA ag hn hl
  change W _ _ _ _ _ _ _ _ _ _ _ _ _ _ _ (F0 m pc ls (.int (Int32.ofInt b) :: .int (Int32.ofInt a) :: S.map (cA ρ)))
  refine lv_icmp_ne f.1 f.2.1 d ht (fun q => kt ?_ l D p e s m args below meth c H ls locs A ρ0 ρ κ0 κ f g r sS hA ag hn hl) (fun q => kf ?_ l D p e s m args below meth c H ls locs A ρ0 ρ κ0 κ f g r sS hA ag hn hl)
  · exact ((not_congr n32_inj)).mp q
  · exact fun z => z (n32_inj.mp q)
theorem R_if_lt {a : Int} {off : Int} (tgt : Nat) (d : Dc y pc (.ifCond .lt off) 3) (ht : (pc : Int) + off = (tgt : Int)) (kt : n32 a < 0 → Rr y B Q tgt L S E n M) (kf : ¬ (n32 a < 0) → Rr y B Q (pc + 3) L S E n M) : Rr y B Q pc L (vI a :: S) E n M := by
  intro l D p e s m args below meth c H ls locs A ρ0 ρ κ0 κ f g r sS hA ag hn hl
  change W _ _ _ _ _ _ _ _ _ _ _ _ _ _ _ (F0 m pc ls (.int (Int32.ofInt a) :: S.map (cA ρ)))
  refine lv_if_lt f.1 f.2.1 d ht (fun q => kt ?_ l D p e s m args below meth c H ls locs A ρ0 ρ κ0 κ f g r sS hA ag hn hl) (fun q => kf ?_ l D p e s m args below meth c H ls locs A ρ0 ρ κ0 κ f g r sS hA ag hn hl)
  · exact (Int32.lt_iff_toInt_lt).mp q
  · exact fun z => q ((Int32.lt_iff_toInt_lt).mpr z)
theorem R_icmp_lt {a b : Int} {off : Int} (tgt : Nat) (d : Dc y pc (.if_icmp .lt off) 3) (ht : (pc : Int) + off = (tgt : Int)) (kt : n32 a < n32 b → Rr y B Q tgt L S E n M) (kf : ¬ (n32 a < n32 b) → Rr y B Q (pc + 3) L S E n M) : Rr y B Q pc L (vI b :: vI a :: S) E n M := by
  intro l D p e s m args below meth c H ls locs A ρ0 ρ κ0 κ f g r sS hA ag hn hl
  change W _ _ _ _ _ _ _ _ _ _ _ _ _ _ _ (F0 m pc ls (.int (Int32.ofInt b) :: .int (Int32.ofInt a) :: S.map (cA ρ)))
  refine lv_icmp_lt f.1 f.2.1 d ht (fun q => kt ?_ l D p e s m args below meth c H ls locs A ρ0 ρ κ0 κ f g r sS hA ag hn hl) (fun q => kf ?_ l D p e s m args below meth c H ls locs A ρ0 ρ κ0 κ f g r sS hA ag hn hl)
  · exact (Int32.lt_iff_toInt_lt).mp q
  · exact fun z => q ((Int32.lt_iff_toInt_lt).mpr z)
theorem R_if_ge {a : Int} {off : Int} (tgt : Nat) (d : Dc y pc (.ifCond .ge off) 3) (ht : (pc : Int) + off = (tgt : Int)) (kt : 0 ≤ n32 a → Rr y B Q tgt L S E n M) (kf : ¬ (0 ≤ n32 a) → Rr y B Q (pc + 3) L S E n M) : Rr y B Q pc L (vI a :: S) E n M := by
  intro l D p e s m args below meth c H ls locs A ρ0 ρ κ0 κ f g r sS hA ag hn hl
  change W _ _ _ _ _ _ _ _ _ _ _ _ _ _ _ (F0 m pc ls (.int (Int32.ofInt a) :: S.map (cA ρ)))
  refine lv_if_ge f.1 f.2.1 d ht (fun q => kt ?_ l D p e s m args below meth c H ls locs A ρ0 ρ κ0 κ f g r sS hA ag hn hl) (fun q => kf ?_ l D p e s m args below meth c H ls locs A ρ0 ρ κ0 κ f g r sS hA ag hn hl)
  · exact (Int32.le_iff_toInt_le).mp q
  · exact fun z => q ((Int32.le_iff_toInt_le).mpr z)
theorem R_icmp_ge {a b : Int} {off : Int} (tgt : Nat) (d : Dc y pc (.if_icmp .ge off) 3) (ht : (pc : Int) + off = (tgt : Int)) (kt : n32 b ≤ n32 a → Rr y B Q tgt L S E n M) (kf : ¬ (n32 b ≤ n32 a) → Rr y B Q (pc + 3) L S E n M) : Rr y B Q pc L (vI b :: vI a :: S) E n M := by
  intro l D p e s m args below meth c H ls locs A ρ0 ρ κ0 κ f g r sS hA ag hn hl
  change W _ _ _ _ _ _ _ _ _ _ _ _ _ _ _ (F0 m pc ls (.int (Int32.ofInt b) :: .int (Int32.ofInt a) :: S.map (cA ρ)))
  refine lv_icmp_ge f.1 f.2.1 d ht (fun q => kt ?_ l D p e s m args below meth c H ls locs A ρ0 ρ κ0 κ f g r sS hA ag hn hl) (fun q => kf ?_ l D p e s m args below meth c H ls locs A ρ0 ρ κ0 κ f g r sS hA ag hn hl)
  · exact (Int32.le_iff_toInt_le).mp q
  · exact fun z => q ((Int32.le_iff_toInt_le).mpr z)
theorem R_if_gt {a : Int} {off : Int} (tgt : Nat) (d : Dc y pc (.ifCond .gt off) 3) (ht : (pc : Int) + off = (tgt : Int)) (kt : 0 < n32 a → Rr y B Q tgt L S E n M) (kf : ¬ (0 < n32 a) → Rr y B Q (pc + 3) L S E n M) : Rr y B Q pc L (vI a :: S) E n M := by
  intro l D p e s m args below meth c H ls locs A ρ0 ρ κ0 κ f g r sS hA ag hn hl
  change W _ _ _ _ _ _ _ _ _ _ _ _ _ _ _ (F0 m pc ls (.int (Int32.ofInt a) :: S.map (cA ρ)))
  refine lv_if_gt f.1 f.2.1 d ht (fun q => kt ?_ l D p e s m args below meth c H ls locs A ρ0 ρ κ0 κ f g r sS hA ag hn hl) (fun q => kf ?_ l D p e s m args below meth c H ls locs A ρ0 ρ κ0 κ f g r sS hA ag hn hl)
  · exact (Int32.lt_iff_toInt_lt).mp q
  · exact fun z => q ((Int32.lt_iff_toInt_lt).mpr z)
theorem R_icmp_gt {a b : Int} {off : Int} (tgt : Nat) (d : Dc y pc (.if_icmp .gt off) 3) (ht : (pc : Int) + off = (tgt : Int)) (kt : n32 b < n32 a → Rr y B Q tgt L S E n M) (kf : ¬ (n32 b < n32 a) → Rr y B Q (pc + 3) L S E n M) : Rr y B Q pc L (vI b :: vI a :: S) E n M := by
  intro l D p e s m args below meth c H ls locs A ρ0 ρ κ0 κ f g r sS hA ag hn hl
  change W _ _ _ _ _ _ _ _ _ _ _ _ _ _ _ (F0 m pc ls (.int (Int32.ofInt b) :: .int (Int32.ofInt a) :: S.map (cA ρ)))
  refine lv_icmp_gt f.1 f.2.1 d ht (fun q => kt ?_ l D p e s m args below meth c H ls locs A ρ0 ρ κ0 κ f g r sS hA ag hn hl) (fun q => kf ?_ l D p e s m args below meth c H ls locs A ρ0 ρ κ0 κ f g r sS hA ag hn hl)
  · exact (Int32.lt_iff_toInt_lt).mp q
  · exact fun z => q ((Int32.lt_iff_toInt_lt).mpr z)
theorem R_if_le {a : Int} {off : Int} (tgt : Nat) (d : Dc y pc (.ifCond .le off) 3) (ht : (pc : Int) + off = (tgt : Int)) (kt : n32 a ≤ 0 → Rr y B Q tgt L S E n M) (kf : ¬ (n32 a ≤ 0) → Rr y B Q (pc + 3) L S E n M) : Rr y B Q pc L (vI a :: S) E n M := by
  intro l D p e s m args below meth c H ls locs A ρ0 ρ κ0 κ f g r sS hA ag hn hl
  change W _ _ _ _ _ _ _ _ _ _ _ _ _ _ _ (F0 m pc ls (.int (Int32.ofInt a) :: S.map (cA ρ)))
  refine lv_if_le f.1 f.2.1 d ht (fun q => kt ?_ l D p e s m args below meth c H ls locs A ρ0 ρ κ0 κ f g r sS hA ag hn hl) (fun q => kf ?_ l D p e s m args below meth c H ls locs A ρ0 ρ κ0 κ f g r sS hA ag hn hl)
  · exact (Int32.le_iff_toInt_le).mp q
  · exact fun z => q ((Int32.le_iff_toInt_le).mpr z)
theorem R_icmp_le {a b : Int} {off : Int} (tgt : Nat) (d : Dc y pc (.if_icmp .le off) 3) (ht : (pc : Int) + off = (tgt : Int)) (kt : n32 a ≤ n32 b → Rr y B Q tgt L S E n M) (kf : ¬ (n32 a ≤ n32 b) → Rr y B Q (pc + 3) L S E n M) : Rr y B Q pc L (vI b :: vI a :: S) E n M := by
  intro l D p e s m args below meth c H ls locs A ρ0 ρ κ0 κ f g r sS hA ag hn hl
  change W _ _ _ _ _ _ _ _ _ _ _ _ _ _ _ (F0 m pc ls (.int (Int32.ofInt b) :: .int (Int32.ofInt a) :: S.map (cA ρ)))
  refine lv_icmp_le f.1 f.2.1 d ht (fun q => kt ?_ l D p e s m args below meth c H ls locs A ρ0 ρ κ0 κ f g r sS hA ag hn hl) (fun q => kf ?_ l D p e s m args below meth c H ls locs A ρ0 ρ κ0 κ f g r sS hA ag hn hl)
  · exact (Int32.le_iff_toInt_le).mp q
  · exact fun z => q ((Int32.le_iff_toInt_le).mpr z)
theorem R_goto {off : Int} (tgt : Nat) (d : Dc y pc (.goto off) 3) (ht : (pc : Int) + off = (tgt : Int)) (k : Rr y B Q tgt L S E n M) : Rr y B Q pc L S E n M := by
  intro l D p e s m args below meth c H ls locs A ρ0 ρ κ0 κ f g r sS hA ag hn hl
  exact lv_goto f.1 f.2.1 d ht (k l D p e s m args below meth c H ls locs A ρ0 ρ κ0 κ f g r sS hA ag hn hl)
theorem R_tabIn {a v off dflt lo hi : Int} {offs : Array Int} {len : Nat} (tgt : Nat) (d : Dc y pc (.tableswitch dflt lo hi offs) len) (hv : n32 a = v) (h1 : lo ≤ v) (h2 : v ≤ hi) (ho : offs[(v - lo).toNat]? = some off) (ht : (pc : Int) + off = (tgt : Int)) (k : Rr y B Q tgt L S E n M) : Rr y B Q pc L (vI a :: S) E n M := by
  intro l D p e s m args below meth c H ls locs A ρ0 ρ κ0 κ f g r sS hA ag hn hl
  change W _ _ _ _ _ _ _ _ _ _ _ _ _ _ _ (F0 m pc ls (.int (Int32.ofInt a) :: S.map (cA ρ)))
  have hv' : (Int32.ofInt a).toInt = v := hv
  exact lv_tableIn f.1 f.2.1 d (by rw [hv']; omega) (by rw [hv']; omega) (by rw [hv']; exact ho) ht (k l D p e s m args below meth c H ls locs A ρ0 ρ κ0 κ f g r sS hA ag hn hl)
theorem R_tabOut {a dflt lo hi : Int} {offs : Array Int} {len : Nat} (tgt : Nat) (d : Dc y pc (.tableswitch dflt lo hi offs) len) (hv : n32 a < lo ∨ hi < n32 a) (ht : (pc : Int) + dflt = (tgt : Int)) (k : Rr y B Q tgt L S E n M) : Rr y B Q pc L (vI a :: S) E n M := by
  intro l D p e s m args below meth c H ls locs A ρ0 ρ κ0 κ f g r sS hA ag hn hl
  change W _ _ _ _ _ _ _ _ _ _ _ _ _ _ _ (F0 m pc ls (.int (Int32.ofInt a) :: S.map (cA ρ)))
  exact lv_tableOut f.1 f.2.1 d hv ht (k l D p e s m args below meth c H ls locs A ρ0 ρ κ0 κ f g r sS hA ag hn hl)
theorem R_lookup {a off dflt : Int} {ps : Array (Int × Int)} {len : Nat} (tgt : Nat) (d : Dc y pc (.lookupswitch dflt ps) len) (hp : (ps.toList.zip (ps.toList.drop 1)).all (fun (a, next) => a.1 < next.1) = true) (ho : Op.lookupswitch.offset ps.toList dflt (n32 a) = off) (ht : (pc : Int) + off = (tgt : Int)) (k : Rr y B Q tgt L S E n M) : Rr y B Q pc L (vI a :: S) E n M := by
  intro l D p e s m args below meth c H ls locs A ρ0 ρ κ0 κ f g r sS hA ag hn hl
  change W _ _ _ _ _ _ _ _ _ _ _ _ _ _ _ (F0 m pc ls (.int (Int32.ofInt a) :: S.map (cA ρ)))
  exact lv_lookup f.1 f.2.1 d hp ho ht (k l D p e s m args below meth c H ls locs A ρ0 ρ κ0 κ f g r sS hA ag hn hl)
theorem R_sub (ks : List Nat) (hL : ks.filterMap (fun k => L[k]?) = L') (k : Rr y B Q pc L' S E n M) : Rr y B Q pc L S E n M := by
  intro l D p e s m args below meth c H ls locs A ρ0 ρ κ0 κ f g r sS hA ag hn hl
  refine k l D p e s m args below meth c H ls locs A ρ0 ρ κ0 κ f g r sS hA ag hn (lv_sub hl ks ?_)
  rw [← hL, lv_pick, List.map_filterMap]
  congr 1
  funext j
  rw [List.getElem?_map]
end ROWS
