section RETS
variable {y : MI} {B : BI} {Q : Option aV → Mem → Prop} {pc : Nat} {L : List (Nat × aV)} {S : List aV} {E : Nat → Bool} {n : Nat} {M : Mem}
theorem R_iret {a : Int} (d : Dc y pc .ireturn 1) (hr : y.2.2.2.1 = some .int) (hn1 : n = B.2.2.2.1) (hE : E = B.2.2.2.2) (hq : Q (some (vI a)) M) : Rr y B Q pc L [vI a] E n M := by
  intro l D p e s m args below meth c0 H ls locs A ρ0 ρ κ0 κ f g r sS hA ag hn hl
  subst hn1; subst hE
  exact W.iret f.1 f.2.1 (f.2.2.2.1.trans hr) (fun t ht hW => ⟨⟨some (vI a), M, ρ, κ, rfl, hq, ag, by rw [ht]; exact r.moved hW.alike⟩, sS.F ht⟩) sS.2.2 d f.2.2.2.2.1
theorem R_zret {a : Int} (d : Dc y pc .ireturn 1) (hr : y.2.2.2.1 = some .boolean) (ha : a = 0 ∨ a = 1) (hn1 : n = B.2.2.2.1) (hE : E = B.2.2.2.2) (hq : Q (some (vI a)) M) : Rr y B Q pc L [vI a] E n M := by
  intro l D p e s m args below meth c0 H ls locs A ρ0 ρ κ0 κ f g r sS hA ag hn hl
  subst hn1; subst hE
  exact W.zret f.1 f.2.1 (f.2.2.2.1.trans hr) (by rcases ha with h | h <;> subst h <;> rfl) (fun t ht hW => ⟨⟨some (vI a), M, ρ, κ, rfl, hq, ag, by rw [ht]; exact r.moved hW.alike⟩, sS.F ht⟩) sS.2.2 d f.2.2.2.2.1
theorem R_lret {a : Int} (d : Dc y pc .lreturn 1) (hr : y.2.2.2.1 = some .long) (hn1 : n = B.2.2.2.1) (hE : E = B.2.2.2.2) (hq : Q (some (vJ a)) M) : Rr y B Q pc L [vJ a] E n M := by
  intro l D p e s m args below meth c0 H ls locs A ρ0 ρ κ0 κ f g r sS hA ag hn hl
  subst hn1; subst hE
  exact W.lret f.1 f.2.1 (f.2.2.2.1.trans hr) (fun t ht hW => ⟨⟨some (vJ a), M, ρ, κ, rfl, hq, ag, by rw [ht]; exact r.moved hW.alike⟩, sS.F ht⟩) sS.2.2 d f.2.2.2.2.1
theorem R_vret (d : Dc y pc .return_ 1) (hr : y.2.2.2.1 = none) (hn1 : n = B.2.2.2.1) (hE : E = B.2.2.2.2) (hq : Q none M) : Rr y B Q pc L [] E n M := by
  intro l D p e s m args below meth c0 H ls locs A ρ0 ρ κ0 κ f g r sS hA ag hn hl
  subst hn1; subst hE
  exact W.vret f.1 f.2.1 (f.2.2.2.1.trans hr) (fun t ht hW => ⟨⟨none, M, ρ, κ, rfl, hq, ag, by rw [ht]; exact r.moved hW.alike⟩, sS.F ht⟩) sS.2.2 d f.2.2.2.2.1
/-- the table of bits -/
theorem R_gets {ix : Nat} (d : Dc y pc (.getstatic ix) 3) (h : Cond.fieldLink y.1.cls ix "LieOfTwo" "FACT_BITS" "[J" ∈ tbG ∨ ∃ host, Cond.fieldLinkNest y.1.cls ix "LieOfTwo" "FACT_BITS" "[J" host ∈ tbN) (kk : Rr y B Q (pc + 3) L (vR 999 :: S) E n M) : Rr y B Q pc L S E n M := by
  intro l D p e s m args below meth c0 H ls locs A ρ0 ρ κ0 κ f g r sS hA ag hn hl
  have kk := kk l D p e s m args below meth c0 H ls locs A ρ0 ρ κ0 κ f g r sS hA ag hn hl
  rcases h with h | ⟨host, h⟩
  · exact va_gets f.1 f.2.1 g.1.1 sS f.2.2.2.2.2.1 (f.2.2.2.2.2.2.2 _ h) (fun _ z => z) d kk
  · exact va_getsN f.1 f.2.1 g.1.1 sS f.2.2.2.2.2.1 (va_Nw.use rfl (g.1.2.2.2.2.2.1 _ h)) (fun _ z => z) d kk
def fbI (j : Nat) : Int := (fbit j).toInt
theorem R_tl {i : Int} (d : Dc y pc .laload 1) (h0 : 0 ≤ i) (h1 : i < 6) (kk : Rr y B Q (pc + 1) L (vJ (fbI i.toNat) :: S) E n M) : Rr y B Q pc L (vI i :: vR 999 :: S) E n M := by
  intro l D p e s m args below meth c0 H ls locs A ρ0 ρ κ0 κ f g r sS hA ag hn hl
  have kk := kk l D p e s m args below meth c0 H ls locs A ρ0 ρ κ0 κ f g r sS hA ag hn hl
  obtain ⟨x1, x2⟩ := ix_in (len := 6) h0 h1 (by omega)
  change W _ _ _ _ _ _ _ _ _ _ _ _ _ _ _ (F0 m (pc + 1) ls (.long (Int64.ofInt (fbI i.toNat)) :: S.map (cA ρ))) at kk
  rw [fbI, Int64.ofInt_toInt] at kk
  exact va_tl f.1 f.2.1 g.1.2.1 sS x1 (by rw [x2]) d kk
def imax (a b : Int) : Int := if n32 a < n32 b then b else a
def imin (a b : Int) : Int := if n32 b < n32 a then b else a
theorem mm_words : Cond.static Lib.Math.max.name ∈ tbG ∧ Cond.initialized "java/lang/Math" ∈ tbG ∧ Cond.code Lib.Math.max.name Lib.Math.max.code 2 (some .int) ∈ tbG ∧ Cond.static Lib.Math.min.name ∈ tbG ∧ Cond.code Lib.Math.min.name Lib.Math.min.code 2 (some .int) ∈ tbG := by decide +kernel
theorem R_max {a b : Int} {ix : Nat} (d : Dc y pc (.invokestatic ix) 3) (h : Cond.methodLink y.1.cls ix Lib.Math.max.name ∈ tbG) (hB : 1 ≤ B.1) (hB2 : wid S + 13 ≤ B.2.1) (kk : Rr y B Q (pc + 3) L (vI (imax a b) :: S) E n M) : Rr y B Q pc L (vI b :: vI a :: S) E n M := by
  intro l D p e s m args below meth c0 H ls locs A ρ0 ρ κ0 κ f g r sS hA ag hn hl
  have kk := kk l D p e s m args below meth c0 H ls locs A ρ0 ρ κ0 κ f g r sS hA ag hn hl
  have hc := cumS_mono hn.2
  have hn2 := hn.2
  have hT := f.2.2.2.2.2.2.2
  refine va_mmax f.1 f.2.1 (f.2.2.1.trans hl.1.symm) f.2.2.2.2.2.1 (hT _ h) (hT _ mm_words.1) (hT _ mm_words.2.1) (hT _ mm_words.2.2.1) hB (by rw [catA]; exact hB2) (by show n - B.2.2.1 ≤ B.2.2.2.1 - B.2.2.1; omega) (by show cumS n - cumS B.2.2.1 ≤ cumS B.2.2.2.1 - cumS B.2.2.1; omega) d ?_
  have e : (if Int32.ofInt a < Int32.ofInt b then Int32.ofInt b else Int32.ofInt a) = Int32.ofInt (imax a b) := by
    unfold imax n32
    simp only [Int32.lt_iff_toInt_lt]
    split <;> rfl
  rw [e]
  exact kk
theorem R_min {a b : Int} {ix : Nat} (d : Dc y pc (.invokestatic ix) 3) (h : Cond.methodLink y.1.cls ix Lib.Math.min.name ∈ tbG) (hB : 1 ≤ B.1) (hB2 : wid S + 13 ≤ B.2.1) (kk : Rr y B Q (pc + 3) L (vI (imin a b) :: S) E n M) : Rr y B Q pc L (vI b :: vI a :: S) E n M := by
  intro l D p e s m args below meth c0 H ls locs A ρ0 ρ κ0 κ f g r sS hA ag hn hl
  have kk := kk l D p e s m args below meth c0 H ls locs A ρ0 ρ κ0 κ f g r sS hA ag hn hl
  have hc := cumS_mono hn.2
  have hn2 := hn.2
  have hT := f.2.2.2.2.2.2.2
  refine va_mmin f.1 f.2.1 (f.2.2.1.trans hl.1.symm) f.2.2.2.2.2.1 (hT _ h) (hT _ mm_words.2.2.2.1) (hT _ mm_words.2.1) (hT _ mm_words.2.2.2.2) hB (by rw [catA]; exact hB2) (by show n - B.2.2.1 ≤ B.2.2.2.1 - B.2.2.1; omega) (by show cumS n - cumS B.2.2.1 ≤ cumS B.2.2.2.1 - cumS B.2.2.1; omega) d ?_
  have e : (if Int32.ofInt b < Int32.ofInt a then Int32.ofInt b else Int32.ofInt a) = Int32.ofInt (imin a b) := by
    unfold imin n32
    simp only [Int32.lt_iff_toInt_lt]
    split <;> rfl
  rw [e]
  exact kk
/-- cells c to c', from sp on to dp on, len of them -/
def cpy (M : Mem) (c c' : Nat) (sp dp len : Nat) : Mem := fun b j => if b = c' ∧ dp ≤ j ∧ j < dp + len then M c (sp + (j - dp)) else M b j
theorem Rl.cpy {D : va_G} {E : Nat → Bool} {ρ : Nat → Nat} {κ : Nat → ClassId} {n c c' sp dp len : Nat} {M : Mem} {A : Nat → Prop} {s : State} {H H1 : Heap} (r : Rl D E ρ κ n M A s H) (hP : va_P D cls (wsM E ρ κ n (cpy M c c' sp dp len)) H1) (hD : va_D A (wsM E ρ κ n (cpy M c c' sp dp len))) (h2 : c' ≤ n) (h : ∀ k, isRs c' k = false) : Rl D E ρ κ n (cpy M c c' sp dp len) A s H1 := by
  refine ⟨hP, hD, r.2.2.1, r.2.2.2.1, fun b k g1 g2 g3 => ?_, fun b k g => ?_⟩
  · have hb : b ≠ c' := fun e => by rw [e, h k] at g3; cases g3
    have := r.2.2.2.2.1 b k g1 g2 g3
    simpa [fld, _root_.Jvm.Pilot.@@N@@.cpy, hb] using this
  · have hb : b ≠ c' := by omega
    simp [_root_.Jvm.Pilot.@@N@@.cpy, hb, r.2.2.2.2.2 b k g]
theorem cp_words : Cond.native arraycopyName ∈ tbG ∧ Cond.static arraycopyName ∈ tbG ∧ Cond.initialized "java/lang/System" ∈ tbG := by decide +kernel
theorem toN {i : Int} (h0 : 0 ≤ i) (h1 : i ≤ 30000) : ¬ Int32.ofInt i < 0 ∧ (Int32.ofInt i).toNatClampNeg = i.toNat := by
  refine ⟨?_, Int32.toNatClampNeg_ofInt_of_le (by omega) (by omega)⟩
  rw [Int32.lt_iff_toInt_lt, Int32.toInt_ofInt_of_le (by omega) (by omega)]
  have : (0 : Int32).toInt = 0 := rfl
  omega
theorem R_copyI {ix c c' n0 n1 : Nat} {ty : FieldType} {sp dp len : Int} (hty : ty = .int ∨ ty = .boolean) (d : Dc y pc (.invokestatic ix) 3) (h : Cond.methodLink y.1.cls ix arraycopyName ∈ tbG) (hc : lay c = .inr (ty, n0)) (hc' : lay c' = .inr (ty, n1)) (h1 : 1 ≤ c) (h2 : c ≤ n) (h1' : 1 ≤ c') (h2' : c' ≤ n) (hs : 0 ≤ sp) (hd : 0 ≤ dp) (hlen : 0 ≤ len) (hsl : sp + len ≤ (n0 : Int)) (hdl : dp + len ≤ (n1 : Int)) (hbl : ty = .int ∨ ∀ i, i < len.toNat → M c (sp.toNat + i) = 0 ∨ M c (sp.toNat + i) = 1)
    (hB : 1 ≤ B.1) (hB2 : wid S + 18 ≤ B.2.1) (kk : Rr y B Q (pc + 3) L S E n (cpy M c c' sp.toNat dp.toNat len.toNat)) : Rr y B Q pc L (vI len :: vI dp :: vR c' :: vI sp :: vR c :: S) E n M := by
  intro l D p e s m args below meth c0 H ls locs A ρ0 ρ κ0 κ f g r sS hA ag hn hl
  have hT := f.2.2.2.2.2.2.2
  have l0 := lay_len hc
  have l1 := lay_len hc'
  obtain ⟨s1, s2⟩ := toN hs (by omega)
  obtain ⟨d1, d2⟩ := toN hd (by omega)
  obtain ⟨e1, e2⟩ := toN hlen (by omega)
  have hp := wsM_at (E := E) (ρ := ρ) (κ := κ) (M := M) h1 h2
  rw [cE_arr hc] at hp
  have hp' := wsM_at (E := E) (ρ := ρ) (κ := κ) (M := M) h1' h2'
  rw [cE_arr hc'] at hp'
  have hpr : prim ty = true := by rcases hty with h | h <;> subst h <;> rfl
  have hcF : ∀ g : Nat → Int, cF ρ ty g = .inl fun j => Int32.ofInt (g j) := by
    intro g; rcases hty with h | h <;> subst h <;> rfl
  rw [hcF] at hp hp'
  have hK : va_K D cls [(κ c, ty), (κ c', ty)] s := (r.K1 h1 h2 hc).app (r.K1 h1' h2' hc')
  have hws : (wsM E ρ κ n M).set (c' - 1) (ρ c', .inl (κ c', n1, .inl (va_cpy (fun j => Int32.ofInt (fld E M c j)) (fun j => Int32.ofInt (fld E M c' j)) sp.toNat dp.toNat len.toNat))) = wsM E ρ κ n (cpy M c c' sp.toNat dp.toNat len.toNat) := by
    refine wsM_set h1' ?_ fun b hb => cE_ne fun j => by simp [fld, cpy, hb]
    rw [cE_arr hc', hcF]
    show (Sum.inl (κ c', n1, Sum.inl (va_cpy _ _ _ _ _)) : va_E) = Sum.inl (κ c', n1, Sum.inl _)
    congr 4
    funext j
    have r1 := rf_arr hc hpr
    have r2 := rf_arr hc' hpr
    simp only [va_cpy, fld, r1, r2, cpy]
    simp only [ne_eq, not_true_eq_false, and_false, ↓reduceIte, true_and]
    split <;> rfl
  have hfb : ∀ i, i < (Int32.ofInt len).toNatClampNeg → fits ty (.int (Int32.ofInt (fld E M c ((Int32.ofInt sp).toNatClampNeg + i)))) = true := by
    intro i hi
    rw [e2] at hi
    rw [s2, fld_0 (rf_arr hc hpr _)]
    rcases hbl with h | h
    · subst h; rfl
    · rcases hty with h' | h' <;> subst h'
      · rfl
      · rcases h i hi with z | z <;> rw [z] <;> rfl
  refine va_copyi f.1 f.2.1 (f.2.2.1.trans hl.1.symm) f.2.2.2.2.2.1 (hT _ h) (hT _ cp_words.1) (hT _ cp_words.2.1) (hT _ cp_words.2.2) hK r.1 r.2.1 sS (c - 1) (c' - 1) 0 1 hp hp' rfl rfl (by rcases hty with h | h <;> subst h <;> rfl) s1 d1 e1 (by rw [s2, e2]; omega) (by rw [d2, e2]; omega) hfb hB (by rw [catA]; exact hB2) d fun H1 locs1 hP1 hD1 hS1 => ?_
  rw [s2, d2, e2, hws] at hP1 hD1
  exact kk l D p e s m args below meth c0 H1 ls locs1 A ρ0 ρ κ0 κ f g (r.cpy hP1 hD1 h2' (fun k => by unfold isRs; rw [hc']; first | rfl | (rcases hty with h | h <;> subst h <;> rfl))) hS1 hA ag hn hl
theorem R_copyJ {ix c c' n0 n1 : Nat} {sp dp len : Int} (d : Dc y pc (.invokestatic ix) 3) (h : Cond.methodLink y.1.cls ix arraycopyName ∈ tbG) (hc : lay c = .inr (.long, n0)) (hc' : lay c' = .inr (.long, n1)) (h1 : 1 ≤ c) (h2 : c ≤ n) (h1' : 1 ≤ c') (h2' : c' ≤ n) (hs : 0 ≤ sp) (hd : 0 ≤ dp) (hlen : 0 ≤ len) (hsl : sp + len ≤ (n0 : Int)) (hdl : dp + len ≤ (n1 : Int))
    (hB : 1 ≤ B.1) (hB2 : wid S + 18 ≤ B.2.1) (kk : Rr y B Q (pc + 3) L S E n (cpy M c c' sp.toNat dp.toNat len.toNat)) : Rr y B Q pc L (vI len :: vI dp :: vR c' :: vI sp :: vR c :: S) E n M := by
  intro l D p e s m args below meth c0 H ls locs A ρ0 ρ κ0 κ f g r sS hA ag hn hl
  have hT := f.2.2.2.2.2.2.2
  have l0 := lay_len hc
  have l1 := lay_len hc'
  obtain ⟨s1, s2⟩ := toN hs (by omega)
  obtain ⟨d1, d2⟩ := toN hd (by omega)
  obtain ⟨e1, e2⟩ := toN hlen (by omega)
  have hp := wsM_at (E := E) (ρ := ρ) (κ := κ) (M := M) h1 h2
  rw [cE_arr hc] at hp
  have hp' := wsM_at (E := E) (ρ := ρ) (κ := κ) (M := M) h1' h2'
  rw [cE_arr hc'] at hp'
  have hK : va_K D cls [(κ c, .long), (κ c', .long)] s := (r.K1 h1 h2 hc).app (r.K1 h1' h2' hc')
  have hws : (wsM E ρ κ n M).set (c' - 1) (ρ c', .inl (κ c', n1, .inr (.inl (va_cpy (fun j => Int64.ofInt (fld E M c j)) (fun j => Int64.ofInt (fld E M c' j)) sp.toNat dp.toNat len.toNat)))) = wsM E ρ κ n (cpy M c c' sp.toNat dp.toNat len.toNat) := by
    refine wsM_set h1' ?_ fun b hb => cE_ne fun j => by simp [fld, cpy, hb]
    rw [cE_arr hc']
    show (Sum.inl (κ c', n1, Sum.inr (Sum.inl (va_cpy _ _ _ _ _))) : va_E) = Sum.inl (κ c', n1, Sum.inr (Sum.inl _))
    congr 5
    funext j
    have r1 := rf_arr hc rfl
    have r2 := rf_arr hc' rfl
    simp only [va_cpy, fld, r1, r2, cpy]
    simp only [ne_eq, not_true_eq_false, and_false, ↓reduceIte, true_and]
    split <;> rfl
  refine va_copyl f.1 f.2.1 (f.2.2.1.trans hl.1.symm) f.2.2.2.2.2.1 (hT _ h) (hT _ cp_words.1) (hT _ cp_words.2.1) (hT _ cp_words.2.2) hK r.1 r.2.1 sS (c - 1) (c' - 1) 0 1 hp hp' rfl rfl rfl s1 d1 e1 (by rw [s2, e2]; omega) (by rw [d2, e2]; omega) (fun i _ => rfl) hB (by rw [catA]; exact hB2) d fun H1 locs1 hP1 hD1 hS1 => ?_
  rw [s2, d2, e2, hws] at hP1 hD1
  exact kk l D p e s m args below meth c0 H1 ls locs1 A ρ0 ρ κ0 κ f g (r.cpy hP1 hD1 h2' (fun k => by unfold isRs; rw [hc']; first | rfl | (rcases hty with h | h <;> subst h <;> rfl))) hS1 hA ag hn hl
end RETS
