theorem qT1 {t : Nat} (h : isT t) : 1 ≤ t := by unfold isT at h; omega
theorem qT0 {t : Nat} (h : isT t) : t ≠ 0 := by unfold isT at h; omega
theorem qTn {t n : Nat} (h : isT t) (hn : 80 ≤ n) : t + 11 ≤ n := by unfold isT at h; omega
theorem qTE {t : Nat} {E : Nat → Bool} (h : isT t) (hE : ∀ c, 1 ≤ c → c ≤ 80 → E c = true) : E t = true := hE t (by unfold isT at h; omega) (by unfold isT at h; omega)
theorem qTn_0 {t n : Nat} (h : t + 11 ≤ n) : t ≤ n := by omega
theorem qTn_k {t n j : Nat} (h : t + 11 ≤ n) (hj : j ≤ 11) : t + j ≤ n := by omega
theorem lT {t : Nat} (h : isT t) : lay t = .inl 1 := by rcases h with rfl | rfl <;> rfl
theorem lT_1 {t : Nat} (h : isT t) : lay (t + 1) = .inr (.int, 8) := by rcases h with rfl | rfl <;> rfl
theorem lT_2 {t : Nat} (h : isT t) : lay (t + 2) = .inr (.int, 8) := by rcases h with rfl | rfl <;> rfl
theorem lT_3 {t : Nat} (h : isT t) : lay (t + 3) = .inr (.int, 8) := by rcases h with rfl | rfl <;> rfl
theorem lT_4 {t : Nat} (h : isT t) : lay (t + 4) = .inr (.int, 12) := by rcases h with rfl | rfl <;> rfl
theorem lT_5 {t : Nat} (h : isT t) : lay (t + 5) = .inr (.int, 12) := by rcases h with rfl | rfl <;> rfl
theorem lT_6 {t : Nat} (h : isT t) : lay (t + 6) = .inr (.int, 12) := by rcases h with rfl | rfl <;> rfl
theorem lT_7 {t : Nat} (h : isT t) : lay (t + 7) = .inr (.int, 96) := by rcases h with rfl | rfl <;> rfl
theorem lT_8 {t : Nat} (h : isT t) : lay (t + 8) = .inr (.long, 4) := by rcases h with rfl | rfl <;> rfl
theorem lT_9 {t : Nat} (h : isT t) : lay (t + 9) = .inr (.long, 48) := by rcases h with rfl | rfl <;> rfl
theorem lT_10 {t : Nat} (h : isT t) : lay (t + 10) = .inr (.long, 384) := by rcases h with rfl | rfl <;> rfl
theorem lT_11 {t : Nat} (h : isT t) : lay (t + 11) = .inr (.long, 384) := by rcases h with rfl | rfl <;> rfl
theorem rT_0 {t : Nat} (h : isT t) : rf t 0 = 0 := by rcases h with rfl | rfl <;> rfl
theorem rT_1 {t : Nat} (h : isT t) : rf t 1 = 0 := by rcases h with rfl | rfl <;> rfl
theorem rT_2 {t : Nat} (h : isT t) : rf t 2 = 0 := by rcases h with rfl | rfl <;> rfl
theorem rT_3 {t : Nat} (h : isT t) : rf t 3 = 0 := by rcases h with rfl | rfl <;> rfl
theorem rT_4 {t : Nat} (h : isT t) : rf t 4 = 0 := by rcases h with rfl | rfl <;> rfl
theorem rT_5 {t : Nat} (h : isT t) : rf t 5 = 0 := by rcases h with rfl | rfl <;> rfl
theorem rT_6 {t : Nat} (h : isT t) : rf t 6 = 0 := by rcases h with rfl | rfl <;> rfl
theorem rT_7 {t : Nat} (h : isT t) : rf t 7 = 0 := by rcases h with rfl | rfl <;> rfl
theorem rT_8 {t : Nat} (h : isT t) : rf t 8 = t + 1 := by rcases h with rfl | rfl <;> rfl
theorem rT_9 {t : Nat} (h : isT t) : rf t 9 = t + 2 := by rcases h with rfl | rfl <;> rfl
theorem rT_10 {t : Nat} (h : isT t) : rf t 10 = t + 3 := by rcases h with rfl | rfl <;> rfl
theorem rT_11 {t : Nat} (h : isT t) : rf t 11 = t + 4 := by rcases h with rfl | rfl <;> rfl
theorem rT_12 {t : Nat} (h : isT t) : rf t 12 = t + 5 := by rcases h with rfl | rfl <;> rfl
theorem rT_13 {t : Nat} (h : isT t) : rf t 13 = t + 6 := by rcases h with rfl | rfl <;> rfl
theorem rT_14 {t : Nat} (h : isT t) : rf t 14 = t + 7 := by rcases h with rfl | rfl <;> rfl
theorem rT_15 {t : Nat} (h : isT t) : rf t 15 = t + 8 := by rcases h with rfl | rfl <;> rfl
theorem rT_16 {t : Nat} (h : isT t) : rf t 16 = t + 9 := by rcases h with rfl | rfl <;> rfl
theorem rT_17 {t : Nat} (h : isT t) : rf t 17 = t + 10 := by rcases h with rfl | rfl <;> rfl
theorem rT_18 {t : Nat} (h : isT t) : rf t 18 = t + 11 := by rcases h with rfl | rfl <;> rfl
theorem qY1 {t : Nat} (h : isY t) : 1 ≤ t := by unfold isY at h; omega
theorem qY0 {t : Nat} (h : isY t) : t ≠ 0 := by unfold isY at h; omega
theorem qYn {t n : Nat} (h : isY t) (hn : 80 ≤ n) : t + 6 ≤ n := by unfold isY at h; omega
theorem qYE {t : Nat} {E : Nat → Bool} (h : isY t) (hE : ∀ c, 1 ≤ c → c ≤ 80 → E c = true) : E t = true := hE t (by unfold isY at h; omega) (by unfold isY at h; omega)
theorem qYn_0 {t n : Nat} (h : t + 6 ≤ n) : t ≤ n := by omega
theorem qYn_k {t n j : Nat} (h : t + 6 ≤ n) (hj : j ≤ 6) : t + j ≤ n := by omega
theorem lY {t : Nat} (h : isY t) : lay t = .inl 5 := by rcases h with rfl | rfl | rfl | rfl <;> rfl
theorem lY_1 {t : Nat} (h : isY t) : lay (t + 1) = .inr (.int, 40) := by rcases h with rfl | rfl | rfl | rfl <;> rfl
theorem lY_2 {t : Nat} (h : isY t) : lay (t + 2) = .inr (.int, 40) := by rcases h with rfl | rfl | rfl | rfl <;> rfl
theorem lY_3 {t : Nat} (h : isY t) : lay (t + 3) = .inr (.boolean, 40) := by rcases h with rfl | rfl | rfl | rfl <;> rfl
theorem lY_4 {t : Nat} (h : isY t) : lay (t + 4) = .inr (.int, 40) := by rcases h with rfl | rfl | rfl | rfl <;> rfl
theorem lY_5 {t : Nat} (h : isY t) : lay (t + 5) = .inr (.int, 40) := by rcases h with rfl | rfl | rfl | rfl <;> rfl
theorem lY_6 {t : Nat} (h : isY t) : lay (t + 6) = .inr (.long, 160) := by rcases h with rfl | rfl | rfl | rfl <;> rfl
theorem rY_0 {t : Nat} (h : isY t) : rf t 0 = 0 := by rcases h with rfl | rfl | rfl | rfl <;> rfl
theorem rY_1 {t : Nat} (h : isY t) : rf t 1 = 0 := by rcases h with rfl | rfl | rfl | rfl <;> rfl
theorem rY_2 {t : Nat} (h : isY t) : rf t 2 = t + 1 := by rcases h with rfl | rfl | rfl | rfl <;> rfl
theorem rY_3 {t : Nat} (h : isY t) : rf t 3 = t + 2 := by rcases h with rfl | rfl | rfl | rfl <;> rfl
theorem rY_4 {t : Nat} (h : isY t) : rf t 4 = t + 3 := by rcases h with rfl | rfl | rfl | rfl <;> rfl
theorem rY_5 {t : Nat} (h : isY t) : rf t 5 = t + 4 := by rcases h with rfl | rfl | rfl | rfl <;> rfl
theorem rY_6 {t : Nat} (h : isY t) : rf t 6 = t + 5 := by rcases h with rfl | rfl | rfl | rfl <;> rfl
theorem rY_7 {t : Nat} (h : isY t) : rf t 7 = t + 6 := by rcases h with rfl | rfl | rfl | rfl <;> rfl
theorem qY42 : isY 42 := Or.inl rfl
theorem box_at {E : Nat → Bool} {i : Int} {x : Nat} (h0 : 0 ≤ i) (h1 : i < 3) (hx : x = 50 + 7 * i.toNat) (hE : E 49 = true) (M : Mem) : fld E M 49 i.toNat = (x : Int) ∧ isY x := by
  have h : i.toNat = 0 ∨ i.toNat = 1 ∨ i.toNat = 2 := by omega
  subst hx
  rcases h with h | h | h <;> rw [h] <;> exact ⟨by rw [fld_s hE (by decide)]; rfl, by unfold isY; omega⟩
theorem isTI.at' {x : Int} {t : Nat} (h : isTI x) (e : t = x.toNat) : x = (t : Int) ∧ isT t := by
  subst e
  exact isTI.to h
theorem aJ_eq {m c : Nat} (h : 0 < aJ m c) : ∃ len : Nat, lay c = .inr (.long, len) ∧ aJ m c = (len : Int) ∧ c ≤ m ∧ 1 ≤ c := by
  obtain ⟨len, h1, h2, h3, h4⟩ := aJ_at (Int.le_refl 0) h
  refine ⟨len, h1, ?_, h3, h4⟩
  unfold aJ
  rw [if_pos h3, h1]
section CP
variable {y : MI} {B : BI} {Q : Option aV → Mem → Prop} {pc : Nat} {L : List (Nat × aV)} {S : List aV} {E : Nat → Bool} {n : Nat} {M M1 : Mem}
theorem R_copyIE {ix c c' n0 n1 : Nat} {ty : FieldType} {sp dp len : Int} (hty : ty = .int ∨ ty = .boolean) (d : Dc y pc (.invokestatic ix) 3) (h : Cond.methodLink y.1.cls ix arraycopyName ∈ tbG) (hc : lay c = .inr (ty, n0)) (hc' : lay c' = .inr (ty, n1)) (h1 : 1 ≤ c) (h2 : c ≤ n) (h1' : 1 ≤ c') (h2' : c' ≤ n) (hs : 0 ≤ sp) (hd : 0 ≤ dp) (hlen : 0 ≤ len) (hsl : sp + len ≤ (n0 : Int)) (hdl : dp + len ≤ (n1 : Int)) (hbl : ty = .int ∨ ∀ i, i < len.toNat → M c (sp.toNat + i) = 0 ∨ M c (sp.toNat + i) = 1)
    (hB : 1 ≤ B.1) (hB2 : wid S + 18 ≤ B.2.1) (hM : M1 = cpy M c c' sp.toNat dp.toNat len.toNat) (kk : Rr y B Q (pc + 3) L S E n M1) : Rr y B Q pc L (vI len :: vI dp :: vR c' :: vI sp :: vR c :: S) E n M := by
  subst hM; exact R_copyI hty d h hc hc' h1 h2 h1' h2' hs hd hlen hsl hdl hbl hB hB2 kk
theorem R_copyJE {ix c c' n0 n1 : Nat} {sp dp len : Int} (d : Dc y pc (.invokestatic ix) 3) (h : Cond.methodLink y.1.cls ix arraycopyName ∈ tbG) (hc : lay c = .inr (.long, n0)) (hc' : lay c' = .inr (.long, n1)) (h1 : 1 ≤ c) (h2 : c ≤ n) (h1' : 1 ≤ c') (h2' : c' ≤ n) (hs : 0 ≤ sp) (hd : 0 ≤ dp) (hlen : 0 ≤ len) (hsl : sp + len ≤ (n0 : Int)) (hdl : dp + len ≤ (n1 : Int))
    (hB : 1 ≤ B.1) (hB2 : wid S + 18 ≤ B.2.1) (hM : M1 = cpy M c c' sp.toNat dp.toNat len.toNat) (kk : Rr y B Q (pc + 3) L S E n M1) : Rr y B Q pc L (vI len :: vI dp :: vR c' :: vI sp :: vR c :: S) E n M := by
  subst hM; exact R_copyJ d h hc hc' h1 h2 h1' h2' hs hd hlen hsl hdl hB hB2 kk
end CP
