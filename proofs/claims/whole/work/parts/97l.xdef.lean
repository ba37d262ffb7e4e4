/-! ===== expressions: states, the reference's steps ===== -/
def XF (t b s0 : Nat) (C0 R0 C R : Mem) : Prop := (∀ a k, ¬ (a = 40 ∨ (a = 28 ∧ k = 1) ∨ (a = 29 ∧ s0 ≤ k) ∨ (a = 27 ∧ k = 15) ∨ (a = t ∧ k = 5)) → C a k = C0 a k) ∧ ∀ a k, ¬ ((a = 81 ∧ ((4 ≤ k ∧ k ≤ 10) ∨ (40 ≤ k ∧ k ≤ 42) ∨ k = 45)) ∨ ((a = 106 ∨ a = 107) ∧ 900 * b + s0 ≤ k) ∨ (a = 90 ∧ k = b) ∨ a = 108 ∨ a = 109 ∨ a = 110) → R a k = R0 a k
def XN (t b u s m d : Nat) (C R : Mem) : Prop := (C t 5 = (u : Int) ∧ R 90 b = (u : Int) ∧ u ≤ 80) ∧ (C 28 1 = (s : Int) ∧ R 81 40 = ((900 * b + s : Nat) : Int) ∧ s ≤ 720) ∧ R 81 42 = (m : Int) ∧ R 81 41 = (d : Int)
def XS (t b s0 : Nat) (C0 R0 : Mem) (u s m d : Nat) (C R : Mem) : Prop := XF t b s0 C0 R0 C R ∧ XN t b u s m d C R ∧ XP m R ∧ s0 ≤ s
def XH (h : Nat) (C R : Mem) : Prop := C 27 15 = (h : Int) ∧ R 81 45 = (h : Int) ∧ h ≤ 1
def Reach (k : Nat) (x y : Int × Mem) : Prop := ∀ f, it M_e_b20 (f + 1 + k) x = it M_e_b20 (f + 1) y
/-- what the steps ahead of s were, they are -/
def Old (b s : Nat) (C R C' R' : Mem) : Prop := (∀ k, k < s → C' 29 k = C 29 k) ∧ ∀ k, k < 900 * b + s → R' 106 k = R 106 k ∧ R' 107 k = R 107 k
def Pil (m : Nat) (R R' : Mem) : Prop := ∀ j, j < m → R' 108 j = R 108 j ∧ R' 109 j = R 109 j ∧ R' 110 j = R 110 j
def RE (b s0 : Nat) (R0 R : Mem) : Prop := ∀ a k, ¬ ((a = 81 ∧ ((4 ≤ k ∧ k ≤ 10) ∨ (40 ≤ k ∧ k ≤ 42) ∨ k = 45)) ∨ ((a = 106 ∨ a = 107) ∧ 900 * b + s0 ≤ k) ∨ (a = 90 ∧ k = b) ∨ a = 108 ∨ a = 109 ∨ a = 110) → R a k = R0 a k
/-- the reference's loop ends failing at q with f, in few steps -/
def Dn (b s0 : Nat) (R0 : Mem) (p : Nat) (x : Int × Mem) (f q : Int) : Prop := ∃ j R', j + p ≤ 1610 ∧ 1 ≤ j ∧ it M_e_b20 j x = some R' ∧ FBr R' f q ∧ RE b s0 R0 R' ∧ (x.2 81 45 = 0 ∨ x.2 81 45 = 1 → R' 81 45 = 0 ∨ R' 81 45 = 1)
/-- the class has failed, or will at its next expecting: D are the kinds that can't stand -/
def DmC (D : Nat → Prop) (C : Mem) (f q : Int) : Prop := (∃ s : Nat, s ≤ 720 ∧ C 28 1 = (s : Int)) ∧ ((C 40 4 = 24 ∧ C 40 8 = f ∧ C 40 9 = q) ∨ (f = 2 ∧ (∃ kd : Nat, D kd ∧ C 40 4 = (kd : Int)) ∧ C 40 5 = q))
theorem Reach_0 {x y : Int × Mem} (h : M_e_b20 x = M_e_b20 y) : Reach 0 x y := by
  intro f
  show (M_e_b20 x).bind _ = (M_e_b20 y).bind _
  rw [h]
theorem Reach_1 {x y : Int × Mem} (h : M_e_b20 x = some (.inl y)) : Reach 1 x y := fun f => it_step h
theorem Reach_trans {k l : Nat} {x y z : Int × Mem} (h1 : Reach k x y) (h2 : Reach l y z) : Reach (k + l) x z := by
  intro f
  have := h1 (f + l)
  rw [show f + 1 + (k + l) = f + l + 1 + k by omega, this, show f + l + 1 = f + 1 + l by omega]
  exact h2 f
theorem Dn_reach {b s0 : Nat} {R0 : Mem} {p p' k : Nat} {x y : Int × Mem} {f q : Int} (h : Reach k x y) (hp : p + k ≤ p') (h45 : (x.2 81 45 = 0 ∨ x.2 81 45 = 1) → (y.2 81 45 = 0 ∨ y.2 81 45 = 1)) (hd : Dn b s0 R0 p' y f q) : Dn b s0 R0 p x f q := by
  obtain ⟨j, R', j1, j2, j3, j4, j5, j6⟩ := hd
  refine ⟨j + k, R', by omega, by omega, ?_, j4, j5, fun z => j6 (h45 z)⟩
  have := h (j - 1)
  rw [show j - 1 + 1 = j by omega] at this
  rw [this]
  exact j3
section XD
variable {t b n s0 : Nat} {C0 R0 C R : Mem}
theorem XF_TB (hB : TB n C0 R0) (ht : isT t) (h : XF t b s0 C0 R0 C R) : TB n C R := by
  have ht2 : t = 3 ∨ t = 15 := ht
  obtain ⟨h1, h2, h3, h4, h5⟩ := hB
  refine ⟨h1, fun i hi => by rw [h.1 _ _ (by omega)]; exact h2 i hi, by rw [h.2 _ _ (by omega)]; exact h3, fun i hi => by rw [h.2 _ _ (by omega), h.1 _ _ (by omega)]; exact h4 i hi, fun i hi => by rw [h.1 _ _ (by omega)]; exact h5 i hi⟩
theorem XF_HN (hI : HN t b C0 R0) (h : XF t b s0 C0 R0 C R) : HN t b C R := by
  have ht : t = 3 ∨ t = 15 := hI.1.1
  exact HN_keep hI (fun a k z => h.1 a k (by omega)) (fun a k z => h.2 a k (by omega))
theorem on_self : OnT C R C R := ⟨fun _ _ _ => rfl, fun _ _ _ => rfl⟩
/-- tokens move on: the state stays -/
theorem XS_on {u s m d : Nat} {C' R' : Mem} (ht : isT t) (h : XS t b s0 C0 R0 u s m d C R) (hon : OnT C R C' R') : XS t b s0 C0 R0 u s m d C' R' := by
  have ht2 : t = 3 ∨ t = 15 := ht
  obtain ⟨⟨f1, f2⟩, ⟨⟨n1, n2, n3⟩, ⟨n4, n5, n6⟩, n7, n8⟩, ⟨p1, p2, p3⟩, hs⟩ := h
  refine ⟨⟨fun a k z => (hon.1 a k (by omega)).trans (f1 a k z), fun a k z => (hon.2 a k (by omega)).trans (f2 a k z)⟩, ⟨⟨(hon.1 _ _ (by omega)).trans n1, (hon.2 _ _ (by omega)).trans n2, n3⟩, ⟨(hon.1 _ _ (by omega)).trans n4, (hon.2 _ _ (by omega)).trans n5, n6⟩, (hon.2 _ _ (by omega)).trans n7, (hon.2 _ _ (by omega)).trans n8⟩, ⟨p1, (hon.2 _ _ (by omega)).trans p2, fun k z1 z2 => by rw [hon.2 _ _ (by omega)]; exact p3 k z1 z2⟩, hs⟩
theorem XF_RE (h : XF t b s0 C0 R0 C R) : RE b s0 R0 R := h.2
/-- the loop ends at once where the reference has failed -/
theorem Dn_flt {p : Nat} {v : Int} {f q : Int} (hp : p ≤ 1605) (hf : Flt R f q) (h6 : ∃ z : Nat, z ≤ 1600 ∧ R 81 6 = (z : Int)) (hre : RE b s0 R0 R) : Dn b s0 R0 p (v, R) f q := by
  refine ⟨1, R, by omega, by omega, ?_, ⟨h6, Or.inl hf⟩, hre, fun z => z⟩
  have e : M_e_b20 (v, R) = some (.inr R) := by
    unfold M_e_b20
    dsimp only
    rw [fl_good hf, bind_some', if_neg (fun z => nz0 z.1)]
  exact it_last e
def behK (r_1 : Int) (M_21 : Mem) : Option (Int × Mem) := if 0 < n32 r_1 then ((if n32 r_1 = 1 then some (8 : Int) else if n32 r_1 = 2 then some (7 : Int) else if n32 r_1 = 3 then some (6 : Int) else (M_sign (M_21 81 6) M_21).bind fun r_45 => some r_45).bind fun v_41 => (M_pushE r_1 v_41 0 M_21).bind fun M_49 => (M_goOn M_49).bind fun M_50 => some (1, M_50)) else lt1 (up M_21 81 42 ((M_21 81 42) - 1)) fun M_51 => chk (0 ≤ (M_51 81 42) ∧ (M_51 81 42) < 120) <| (if n32 (M_51 108 (Int.toNat (M_51 81 42))) = 7 then lt1 (up M_51 81 41 ((M_51 81 41) - 1)) fun M_58 => (M_stands 41 M_58).bind fun r_59 => (M_must r_59 M_58).bind fun M_60 => some M_60 else some M_51).bind fun M_54 => some (0, M_54)
theorem beh_go {r : Nat} (hr : M_rankHere R = some (r : Int)) (hr10 : r < 10) (hag : r = 1 ∨ r = 5 → M_isAgain (r : Int) R = some 0) : M_behindUnit R = (it (M_behindUnit_b29 (r : Int)) FUEL R).bind (behK (r : Int)) := by
  unfold M_behindUnit
  rw [hr, bind_some', jn_eq, n32_nat (by omega)]
  have e : (if ¬ (r : Int) = 1 then (if (r : Int) = 5 then (M_isAgain (r : Int) R).bind fun r_12 => if ¬ n32 r_12 = 0 then some true else some false else some false) else (M_isAgain (r : Int) R).bind fun r_11 => if ¬ n32 r_11 = 0 then some true else some false) = some false := by
    by_cases q1 : r = 1
    · rw [if_neg (by omega), hag (Or.inl q1), bind_some', if_neg nz0]
    · rw [if_pos (by omega)]
      by_cases q5 : r = 5
      · rw [if_pos (by omega), hag (Or.inr q5), bind_some', if_neg nz0]
      · rw [if_neg (by omega)]
  rw [e, bind_some', if_neg (by decide)]
  dsimp only
  congr 1
  funext M
  unfold behK
  rw [n32_nat (by omega)]
theorem beh_again {r : Nat} (hr : M_rankHere R = some (r : Int)) (hr15 : r = 1 ∨ r = 5) (hag : M_isAgain (r : Int) R = some 1) : M_behindUnit R = (M_misplaced R).bind fun M_13 => some (1, M_13) := by
  unfold M_behindUnit
  rw [hr, bind_some', jn_eq, n32_nat (by omega), hag, bind_some']
  have e : (if ¬ (r : Int) = 1 then (if (r : Int) = 5 then (if ¬ n32 1 = 0 then some true else some false) else some false) else (if ¬ n32 1 = 0 then some true else some false)) = some true := by
    rcases hr15 with rfl | rfl
    · rw [if_neg (by decide), if_pos nz1]
    · rw [if_pos (by decide), if_pos (by decide), if_pos nz1]
  rw [e, bind_some', if_pos rfl]
theorem e_beh {m : Nat} (hg : R 81 4 = 0) (h42 : R 81 42 = (m : Int)) (hm : 0 < m) (hm2 : m < 200) : M_e_b20 (0, R) = (M_behindUnit R).bind fun x => some (.inl (x.1, x.2)) := by
  unfold M_e_b20
  dsimp only
  rw [gd_good hg, bind_some', h42, n32_nat (by omega), if_pos ⟨nz1, by omega⟩, if_neg nz0]
  cases M_behindUnit R with
  | none => rfl
  | some x => rfl
theorem e_unit {m : Nat} (hg : R 81 4 = 0) (h42 : R 81 42 = (m : Int)) (hm : 0 < m) (hm2 : m < 200) (h43 : R 81 43 = 0) : M_e_b20 (1, R) = (M_unit R).bind fun x => some (.inl (x.1, x.2)) := by
  unfold M_e_b20
  dsimp only
  rw [gd_good hg, bind_some', h42, n32_nat (by omega), if_pos ⟨nz1, by omega⟩, if_pos nz1, h43, if_neg nz0]
  cases M_unit R with
  | none => rfl
  | some x => rfl
theorem e_part {m : Nat} (hg : R 81 4 = 0) (h42 : R 81 42 = (m : Int)) (hm : 0 < m) (hm2 : m < 200) (h43 : R 81 43 = 1) : M_e_b20 (1, R) = (M_part R).bind fun x => some (.inl (x.1, x.2)) := by
  unfold M_e_b20
  dsimp only
  rw [gd_good hg, bind_some', h42, n32_nat (by omega), if_pos ⟨nz1, by omega⟩, if_pos nz1, h43, if_pos nz1]
  cases M_part R with
  | none => rfl
  | some x => rfl
/-- a pop ahead of what comes behind a unit changes nothing -/
theorem e_pop {m s r : Nat} (hP : XP m R) (hm : 2 ≤ m) (hm2 : m ≤ 110) (hb : b < 2) (hs : s + m < 900) (h42 : R 81 42 = (m : Int)) (h40 : R 81 40 = ((900 * b + s : Nat) : Int)) (hg : R 81 4 = 0) (hr10 : r < 10) (ht : R 108 (m - 1) < 7) (hr2 : (r : Int) ≤ R 108 (m - 1)) (hr : M_rankHere R = some (r : Int)) (hr' : M_rankHere (popR b s m R) = some (r : Int)) (hag : (r = 1 ∨ r = 5) → agR r R m = false) : M_e_b20 (0, R) = M_e_b20 (0, popR b s m R) := by
  have hP' := popR_XP (b := b) (s := s) hP hm
  have hag' : (r = 1 ∨ r = 5) → agR r (popR b s m R) (m - 1) = false := by
    intro hrr
    have h1 := hag hrr
    have h2 : agR r R (m - 1) = false := by
      obtain ⟨m', rfl⟩ : ∃ m', m = m' + 1 := ⟨m - 1, by omega⟩
      rw [show m' + 1 - 1 = m' by omega] at *
      unfold agR at h1
      by_cases q : R 108 m' < 7 ∧ (if r = 1 then 1 < R 108 m' else R 108 m' = 6)
      · rw [if_pos q] at h1; exact h1
      · rw [if_neg q, decide_eq_false_iff_not] at h1
        exfalso
        apply q
        refine ⟨ht, ?_⟩
        rcases hrr with rfl | rfl
        · rw [if_pos rfl]; omega
        · rw [if_neg (by decide)]
          obtain ⟨g1, g2⟩ := XP_rng hP (show m' < m' + 1 by omega)
          omega
    rw [agR_congr (fun k hk => popR_o (by omega))]
    exact h2
  rw [e_beh hg h42 (by omega) (by omega), e_beh (m := m - 1) (by rw [popR_o (by omega)]; exact hg) popR_42 (by omega) (by omega)]
  rw [beh_go hr hr10 (fun z => by rw [isAgain_eq hP hm2 h42 z, hag z]; rfl), beh_go hr' hr10 (fun z => by rw [isAgain_eq hP' (by omega) popR_42 z, hag' z]; rfl), pop_eq hP hm hm2 hb hs h42 h40 hr10 ht hr2]
theorem push_eq {m what sign nn : Nat} (h42 : R 81 42 = (m : Int)) (hm : m < 118) (w sg v : Int) : M_pushE w sg v R = some (up (up (up (up R 108 m w) 109 m sg) 110 m v) 81 42 ((m + 1 : Nat) : Int)) := by
  unfold M_pushE
  rw [h42, chk_pos (by omega), lt1_eq, tn_nat, up_c (show (81 : Nat) ≠ 108 by decide), h42, chk_pos (by omega), lt1_eq, tn_nat, up_c (show (81 : Nat) ≠ 109 by decide), up_c (show (81 : Nat) ≠ 108 by decide), h42, chk_pos (by omega), lt1_eq, tn_nat, lt1_eq, up_c (show (81 : Nat) ≠ 110 by decide), up_c (show (81 : Nat) ≠ 109 by decide), up_c (show (81 : Nat) ≠ 108 by decide), h42]
  rfl
/-! the class, failed -/
theorem add_eq {s : Nat} (h : C 28 1 = (s : Int)) (hs : s < 720) (sg o : Nat) (hsg : sg < 256) (ho : o < 10000) : S_add (sg : Int) (o : Int) C = some (up (up C 29 s ((256 * o + sg : Nat) : Int)) 28 1 ((s + 1 : Nat) : Int)) := by
  have e : ior' (ishl (o : Int) 8) (sg : Int) = ((256 * o + sg : Nat) : Int) := by
    have h1 : ishl (o : Int) 8 = ((256 * o : Nat) : Int) := by
      unfold ishl
      have e8 : (Int32.ofInt 8 &&& 31) = Int32.ofInt 8 := by decide
      rw [e8]
      have hb : (Int32.ofInt (o : Int) <<< Int32.ofInt 8).toBitVec.toNat = 256 * o := by
        rw [Int32.toBitVec_shiftLeft, BitVec.shiftLeft_eq', Int32.toBitVec_ofInt]
        have e9 : ((Int32.ofInt 8).toBitVec.smod 32).toNat = 8 := by decide
        rw [e9, BitVec.toNat_shiftLeft, bv_nat (by omega), Nat.shiftLeft_eq]
        omega
      show (Int32.ofInt (o : Int) <<< Int32.ofInt 8).toBitVec.toInt = _
      rw [toInt_small (by omega), hb]
    rw [h1, ior_nat (by omega) (by omega)]
    congr 1
    have := Nat.shiftLeft_add_eq_or_of_lt (b := sg) (i := 8) (by omega) o
    rw [Nat.shiftLeft_eq] at this
    rw [show 256 * o = o * 2 ^ 8 by omega]
    exact this.symm
  unfold S_add
  rw [h, n32_nat (by omega), if_pos (by omega), chk_pos (by omega), lt1_eq, tn_nat, lt1_eq, up_c (show (28 : Nat) ≠ 29 by decide), h, e]
  rfl
theorem add_tot {s : Nat} (h : C 28 1 = (s : Int)) (hs : s ≤ 720) (sg o : Int) : ∃ C' s', S_add sg o C = some C' ∧ C' 28 1 = ((s' : Nat) : Int) ∧ s' ≤ 720 ∧ ∀ a k, a ≠ 28 → a ≠ 29 → C' a k = C a k := by
  unfold S_add
  rw [h, n32_nat (by omega)]
  by_cases q : s < 720
  · rw [if_pos (by omega), chk_pos (by omega), lt1_eq, lt1_eq, up_c (show (28 : Nat) ≠ 29 by decide), h]
    exact ⟨_, s + 1, rfl, by rw [up_eq]; rfl, by omega, fun a k z1 z2 => by rw [up_c z1, up_c z2]⟩
  · rw [if_neg (by omega)]
    exact ⟨_, s, rfl, h, hs, fun _ _ _ _ => rfl⟩
theorem DmC_add {D : Nat → Prop} {f q : Int} (h : DmC D C f q) (sg o : Int) : ∃ C', S_add sg o C = some C' ∧ DmC D C' f q ∧ C' 40 4 = C 40 4 := by
  obtain ⟨⟨s, s1, s2⟩, h⟩ := h
  obtain ⟨C', s', e1, e2, e3, e4⟩ := add_tot s2 s1 sg o
  refine ⟨C', e1, ⟨⟨s', e3, e2⟩, ?_⟩, e4 _ _ (by decide) (by decide)⟩
  rw [e4 40 4 (by decide) (by decide), e4 40 8 (by decide) (by decide), e4 40 9 (by decide) (by decide), e4 40 5 (by decide) (by decide)]
  exact h
end XD
