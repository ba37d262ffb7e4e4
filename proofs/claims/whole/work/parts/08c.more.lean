def i2c (a : Int) : Int := ((Int32.ofInt a).toUInt32 % 65536).toInt32.toInt
section MORE
variable {y y' : MI} {B : BI} {Q : Option aV → Mem → Prop} {pc : Nat} {L : List (Nat × aV)} {S : List aV} {E : Nat → Bool} {n : Nat} {M : Mem}
/-- the law's script -/
theorem R_sld {i : Int} {Ls : Nat} {xs : Nat → Int32} (hy : y.2.2.2.2 = some (Ls, xs)) (d : Dc y pc .iaload 1) (h0 : 0 ≤ i) (h1 : i < (Ls : Int)) (hLs : Ls ≤ 30000) (kk : Rr y B Q (pc + 1) L (vI (xs i.toNat).toInt :: S) E n M) : Rr y B Q pc L (vI i :: vR 996 :: S) E n M := by
  intro l D p e s m args below meth c0 H ls locs A ρ0 ρ κ0 κ f g r sS hA ag hn hl
  have kk := kk l D p e s m args below meth c0 H ls locs A ρ0 ρ κ0 κ f g r sS hA ag hn hl
  have gx := g.2
  rw [hy] at gx
  obtain ⟨x1, x2⟩ := ix_in h0 h1 hLs
  change W _ _ _ _ _ _ _ _ _ _ _ _ _ _ _ (F0 m (pc + 1) ls (.int (Int32.ofInt (xs i.toNat).toInt) :: S.map (cA ρ))) at kk
  rw [Int32.ofInt_toInt] at kk
  change W _ _ _ _ _ _ _ _ _ _ _ _ _ _ _ (F0 m pc ls (.int (Int32.ofInt i) :: .ref (ρ 996) :: S.map (cA ρ)))
  exact va_sld f.1 f.2.1 gx.1 gx.2.1 gx.2.2 sS x1 d (by rw [x2]; exact kk)
theorem R_slen {Ls : Nat} {xs : Nat → Int32} (hy : y.2.2.2.2 = some (Ls, xs)) (d : Dc y pc .arraylength 1) (kk : Rr y B Q (pc + 1) L (vI (Ls : Int) :: S) E n M) : Rr y B Q pc L (vR 996 :: S) E n M := by
  intro l D p e s m args below meth c0 H ls locs A ρ0 ρ κ0 κ f g r sS hA ag hn hl
  have kk := kk l D p e s m args below meth c0 H ls locs A ρ0 ρ κ0 κ f g r sS hA ag hn hl
  have gx := g.2
  rw [hy] at gx
  change W _ _ _ _ _ _ _ _ _ _ _ _ _ _ _ (F0 m (pc + 1) ls (.int (Int32.ofInt (Ls : Int)) :: S.map (cA ρ))) at kk
  rw [show Int32.ofInt (Ls : Int) = Int32.ofNat Ls from Int32.ofInt_eq_ofNat] at kk
  exact va_slen f.1 f.2.1 gx.1 gx.2.1 gx.2.2 sS d kk
/-- the text of the kept words -/
theorem R_ldcS (hy : y.1.cls = "LieOfTwo$Tokens") (d : Dc y pc (.ldc 23) 2) (kk : Rr y B Q (pc + 2) L (vR 998 :: S) E n M) : Rr y B Q pc L S E n M := by
  intro l D p e s m args below meth c0 H ls locs A ρ0 ρ κ0 κ f g r sS hA ag hn hl
  have kk := kk l D p e s m args below meth c0 H ls locs A ρ0 ρ κ0 κ f g r sS hA ag hn hl
  exact va_ldcS f.1 f.2.1 (by rw [← hy]; exact f.2.2.2.2.2.1) g.1.2.2.1 d kk
theorem R_strV {ix : Nat} (d : Dc y pc (.getfield ix) 3) (h : Cond.fieldLink y.1.cls ix "java/lang/String" "value" "[B" ∈ tbG) (kk : Rr y B Q (pc + 3) L (vR 997 :: S) E n M) : Rr y B Q pc L (vR 998 :: S) E n M := by
  intro l D p e s m args below meth c0 H ls locs A ρ0 ρ κ0 κ f g r sS hA ag hn hl
  have kk := kk l D p e s m args below meth c0 H ls locs A ρ0 ρ κ0 κ f g r sS hA ag hn hl
  exact vk_getf f.1 f.2.1 (g.1.2.2.2.1.1 0 (by omega)).2.2.1 sS f.2.2.2.2.2.1 (f.2.2.2.2.2.2.2 _ h) (fun _ z => z) d kk
theorem R_strC {ix : Nat} (d : Dc y pc (.getfield ix) 3) (h : Cond.fieldLink y.1.cls ix "java/lang/String" "coder" "B" ∈ tbG) (kk : Rr y B Q (pc + 3) L (vI 0 :: S) E n M) : Rr y B Q pc L (vR 998 :: S) E n M := by
  intro l D p e s m args below meth c0 H ls locs A ρ0 ρ κ0 κ f g r sS hA ag hn hl
  have kk := kk l D p e s m args below meth c0 H ls locs A ρ0 ρ κ0 κ f g r sS hA ag hn hl
  exact vk_getf f.1 f.2.1 (g.1.2.2.2.1.1 0 (by omega)).2.1 sS f.2.2.2.2.2.1 (f.2.2.2.2.2.2.2 _ h) (fun _ z => z) d kk
theorem R_cmpct {ix : Nat} (d : Dc y pc (.getstatic ix) 3) (h : Cond.fieldLink y.1.cls ix "java/lang/String" "COMPACT_STRINGS" "Z" ∈ tbG) (kk : Rr y B Q (pc + 3) L (vI 1 :: S) E n M) : Rr y B Q pc L S E n M := by
  intro l D p e s m args below meth c0 H ls locs A ρ0 ρ κ0 κ f g r sS hA ag hn hl
  have kk := kk l D p e s m args below meth c0 H ls locs A ρ0 ρ κ0 κ f g r sS hA ag hn hl
  exact va_gets f.1 f.2.1 g.1.2.2.2.2.1 sS f.2.2.2.2.2.1 (f.2.2.2.2.2.2.2 _ h) (fun _ z => z) d kk
theorem R_strLen (d : Dc y pc .arraylength 1) (kk : Rr y B Q (pc + 1) L (vI 104 :: S) E n M) : Rr y B Q pc L (vR 997 :: S) E n M := by
  intro l D p e s m args below meth c0 H ls locs A ρ0 ρ κ0 κ f g r sS hA ag hn hl
  have kk := kk l D p e s m args below meth c0 H ls locs A ρ0 ρ κ0 κ f g r sS hA ag hn hl
  exact va_tlen f.1 f.2.1 (g.1.2.2.2.1.1 0 (by omega)).2.2.2 sS rfl d kk
def keptC (j : Nat) : Int := (keptB.getD j 0).toInt
theorem R_strB {i : Int} (d : Dc y pc .baload 1) (h0 : 0 ≤ i) (h1 : i < 104) (kk : Rr y B Q (pc + 1) L (vI (keptC i.toNat) :: S) E n M) : Rr y B Q pc L (vI i :: vR 997 :: S) E n M := by
  intro l D p e s m args below meth c0 H ls locs A ρ0 ρ κ0 κ f g r sS hA ag hn hl
  have kk := kk l D p e s m args below meth c0 H ls locs A ρ0 ρ κ0 κ f g r sS hA ag hn hl
  obtain ⟨x1, x2⟩ := ix_in (len := 104) h0 h1 (by omega)
  change W _ _ _ _ _ _ _ _ _ _ _ _ _ _ _ (F0 m (pc + 1) ls (.int (Int32.ofInt (keptC i.toNat)) :: S.map (cA ρ))) at kk
  rw [keptC, Int32.ofInt_toInt] at kk
  exact va_tb f.1 f.2.1 (g.1.2.2.2.1.1 0 (by omega)).2.2.2 sS x1 (by rw [x2]; rfl) d kk
theorem R_i2c {a : Int} (d : Dc y pc .i2c 1) (kk : Rr y B Q (pc + 1) L (vI (i2c a) :: S) E n M) : Rr y B Q pc L (vI a :: S) E n M := by
  intro l D p e s m args below meth c0 H ls locs A ρ0 ρ κ0 κ f g r sS hA ag hn hl
  have kk := kk l D p e s m args below meth c0 H ls locs A ρ0 ρ κ0 κ f g r sS hA ag hn hl
  change W _ _ _ _ _ _ _ _ _ _ _ _ _ _ _ (F0 m (pc + 1) ls (.int (Int32.ofInt (i2c a)) :: S.map (cA ρ))) at kk
  rw [i2c, Int32.ofInt_toInt] at kk
  exact lv_i2c f.1 f.2.1 d rfl kk
theorem R_cret {a : Int} {ty : FieldType} (d : Dc y pc .ireturn 1) (hr : y.2.2.2.1 = some ty) (ha : narrow ty (.int (Int32.ofInt a)) = .int (Int32.ofInt a)) (hn1 : n = B.2.2.2.1) (hE : E = B.2.2.2.2) (hq : Q (some (vI a)) M) : Rr y B Q pc L [vI a] E n M := by
  intro l D p e s m args below meth c0 H ls locs A ρ0 ρ κ0 κ f g r sS hA ag hn hl
  subst hn1; subst hE
  exact W.zret f.1 f.2.1 (f.2.2.2.1.trans hr) ha (fun t ht hW => ⟨⟨some (vI a), M, ρ, κ, rfl, hq, ag, by rw [ht]; exact r.moved hW.alike⟩, sS.F ht⟩) sS.2.2 d f.2.2.2.2.1
end MORE
