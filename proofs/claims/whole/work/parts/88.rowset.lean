/-! ===== rows and always: class and reference lay the same sets ===== -/
section ROWSET
variable {t b F : Nat} {C R : Mem}
/-- a segment of steps of an e, in the class and in the reference -/
def SegE (t b : Nat) (flag : Prop) (r lc len : Nat) (C R : Mem) : Prop := ∀ i, i < len → ∃ c o : Nat, R 106 (900 * b + lc + i) = (c : Int) ∧ R 107 (900 * b + lc + i) = (o : Int) ∧ C 29 (lc + i) = ((256 * o + sgE c : Nat) : Int) ∧ (1 ≤ c ∧ c ≤ 8) ∧ o < 100 ∧ (c = 1 → o < nF R b) ∧ (c = 2 → o < r ∧ (¬ flag → C 37 o = 0)) ∧ (c = 4 ∨ c = 5 → o < nP R b ∧ flag)
def RowsP (t b : Nat) (C R : Mem) : Prop := ∀ r, r < nR R b → ∃ lc len : Nat, C 35 r = (lc : Int) ∧ C 36 r = ((lc + len : Nat) : Int) ∧ R 104 (17 * b + r) = ((900 * b + lc : Nat) : Int) ∧ R 105 (17 * b + r) = ((900 * b + lc + len : Nat) : Int) ∧ lc + len ≤ 720 ∧ (C 37 r = 0 ∨ C 37 r = 1) ∧ R 92 (12 * b + r) = C 37 r ∧ hR (R 106) (900 * b + lc) len 0 = some 1 ∧ SegE t b (C 37 r = 1) r lc len C R
def AlwP (t b : Nat) (C R : Mem) : Prop := ∃ na : Nat, na ≤ 4 ∧ C 27 10 = (na : Int) ∧ R 87 b = (na : Int) ∧ ∀ a, a < na → ∃ lc len : Nat, C 38 a = (lc : Int) ∧ C 39 a = ((lc + len : Nat) : Int) ∧ R 104 (17 * b + 12 + a) = ((900 * b + lc : Nat) : Int) ∧ R 105 (17 * b + 12 + a) = ((900 * b + lc + len : Nat) : Int) ∧ lc + len ≤ 720 ∧ hR (R 106) (900 * b + lc) len 0 = some 1 ∧ SegE t b False (nR R b) lc len C R
def KnoP (t b : Nat) (C R : Mem) : Prop := ∀ p, p < nP R b → C (t + 2) p = R 97 (8 * b + p) ∧ 0 ≤ R 97 (8 * b + p) ∧ R 97 (8 * b + p) < 256
/-- what the laying of sets may change -/
def FC (t : Nat) (C C1 : Mem) : Prop := ∀ a k, a ≠ 30 → a ≠ 31 → a ≠ t + 8 → a ≠ t + 9 → a ≠ t + 10 → a ≠ t + 11 → ¬ (a = t ∧ (k = 6 ∨ k = 7)) → C1 a k = C a k
def FR (R R1 : Mem) : Prop := ∀ c k, c ≠ 111 → c ≠ 112 → c ≠ 113 → c ≠ 114 → R1 c k = R c k
def RowD (t F : Nat) (W : Nat → Prop) (r : Nat) (C R : Mem) : Prop := (∀ w, w < 2 ^ F → R 112 (256 * r + w) = b1 (rowI R r w)) ∧ ∀ w, W w → sb C (t + 9) (4 * r) w = rowI R r w
/-- the numbers of a town as told, ahead of its sets -/
def StP (t b F : Nat) (C R : Mem) : Prop := isT t ∧ b < 2 ∧ NumR t b C R ∧ F = nF R b ∧ R 81 38 = (b : Int) ∧ C 27 16 = (t : Int) ∧ KnoP t b C R
theorem StP_C (h : StP t b F C R) {C1 : Mem} (hC : FC t C C1) (h6 : C1 t 6 = (nwd F : Int)) : WmC t F C1 := by
  obtain ⟨ht, hb, hN, rfl, -⟩ := h
  have ht2 : t ≤ 15 := by unfold isT at ht; omega
  have hF := num_F hN
  exact ⟨ht, by rw [hC t 0 (by omega) (by omega) (by omega) (by omega) (by omega) (by omega) (by omega)]; exact hF.2.1, h6, hF.2.2⟩
theorem StP_R (h : StP t b F C R) {R1 : Mem} (hR : FR R R1) : WmR b F R1 := by
  obtain ⟨ht, hb, hN, rfl, h38, -⟩ := h
  have hF := num_F hN
  exact ⟨hb, by rw [hR _ _ (by decide) (by decide) (by decide) (by decide)]; exact h38, by rw [hR _ _ (by decide) (by decide) (by decide) (by decide)]; exact hF.1, hF.2.2⟩
theorem row_set (h : StP t b F C R) {C1 R1 : Mem} (hC : FC t C C1) (h6 : C1 t 6 = (nwd F : Int)) (hfr : FR R R1) {flag : Prop} {r lc len : Nat} (hr : r ≤ nR R b) (hlen : lc + len ≤ 720) (hseg : SegE t b flag r lc len C R) (hh : hR (R 106) (900 * b + lc) len 0 = some 1) {W : Nat → Prop} (hW : ∀ w, W w → w < 2 ^ F) (hD : ∀ o, o < r → (¬ flag → C 37 o = 0) → RowD t F W o C1 R1) (hM : flag → (∀ w, w < 2 ^ F → R1 111 w = b1 (isB R1 w)) ∧ (∀ w, w < 64 * nwd F → sb C1 (t + 8) 0 w = (decide (w < 2 ^ F) && isB R1 w)) ∧ ∀ w, w < 2 ^ F → (W w ↔ isB R1 w = true)) : ∃ x : Nat → Bool, Z (S_putSet t (lc : Int) ((lc + len : Nat) : Int) C1) (fun C' => (∀ a k, a ≠ 30 → C' a k = C1 a k) ∧ QC W C' 0 x) ∧ ∀ u, u < 34 → R 104 u = ((900 * b + lc : Nat) : Int) → R 105 u = ((900 * b + lc + len : Nat) : Int) → Z (M_layColumn (u : Int) R1) (fun R' => (∀ c k, c ≠ 113 → R' c k = R1 c k) ∧ QR F R' 0 x) := by
  have hwc := StP_C h hC h6
  have hwr := StP_R h hfr
  obtain ⟨ht, hb, hN, hFe, h38, h27, hK⟩ := h
  have ht2 : t ≤ 15 := by unfold isT at ht; omega
  have hnP := num_P hN
  have hnR := num_R hN
  have e106 : R1 106 = R 106 := funext fun k => hfr _ _ (by decide) (by decide) (by decide) (by decide)
  have e107 : R1 107 = R 107 := funext fun k => hfr _ _ (by decide) (by decide) (by decide) (by decide)
  have hkn : ∀ o, o < nP R b → C1 (t + 2) o = (knR b R1 o : Int) ∧ knR b R1 o < 256 ∧ R1 97 (8 * b + o) = (knR b R1 o : Int) := by
    intro o ho
    obtain ⟨k1, k2, k3⟩ := hK o ho
    have e : R1 97 (8 * b + o) = R 97 (8 * b + o) := hfr _ _ (by decide) (by decide) (by decide) (by decide)
    unfold knR
    rw [hC (t + 2) o (by omega) (by omega) (by omega) (by omega) (by omega) (by omega) (by omega), k1, e]
    omega
  have sC : SgC t F (isB R1) (knR b R1) (rowI R1) W (R1 106) (R1 107) (900 * b + lc) lc len C1 := by
    intro i hi
    obtain ⟨c, o, z1, z2, z3, z4, z5, z6, z7, z8⟩ := hseg i hi
    refine ⟨c, o, by rw [e106]; exact z1, by rw [e107]; exact z2, by rw [hC 29 _ (by decide) (by decide) (by omega) (by omega) (by omega) (by omega) (by omega)]; exact z3, z4, z5, fun q => by rw [hFe]; exact z6 q, fun q => ⟨by have := (z7 q).1; omega, (hD o (z7 q).1 (z7 q).2).2⟩, fun q => ?_⟩
    obtain ⟨q1, q2⟩ := z8 q
    obtain ⟨m1, m2, m3⟩ := hM q2
    exact ⟨by omega, (hkn o q1).1, (hkn o q1).2.1, m2, m3⟩
  have sR : SgR b F (900 * b + lc) len R1 := by
    intro i hi
    obtain ⟨c, o, z1, z2, z3, z4, z5, z6, z7, z8⟩ := hseg i hi
    refine ⟨c, o, by rw [e106]; exact z1, by rw [e107]; exact z2, z4, fun q => by have := z6 q; have := num_F hN; omega, fun q => ⟨by have := (z7 q).1; omega, (hD o (z7 q).1 (z7 q).2).1⟩, fun q => ?_⟩
    obtain ⟨q1, q2⟩ := z8 q
    obtain ⟨m1, m2, m3⟩ := hM q2
    exact ⟨by omega, (hkn o q1).2.2, (hkn o q1).2.1, m1⟩
  obtain ⟨C', ec, f1, x, ex, q1⟩ := put_eq hwc hW hlen sC (by rw [e106]; exact hh)
  refine ⟨x, ⟨C', ec, f1, q1⟩, fun u hu h104 h105 => ?_⟩
  refine Z_mono (col_eq (b := b) (F := F) (R := R1) (u := u) (lo := 900 * b + lc) (len := len) hwr hu (by rw [hfr _ _ (by decide) (by decide) (by decide) (by decide)]; exact h104) (by rw [hfr _ _ (by decide) (by decide) (by decide) (by decide)]; exact h105) (by omega) sR (by rw [e106]; exact hh)) ?_
  rintro R' ⟨f2, x', ex', q2⟩
  rw [ex] at ex'
  cases ex'
  exact ⟨f2, q2⟩
end ROWSET
theorem two_for_k {α β γ δ : Type} {b1 : α → Option (α ⊕ β)} {b2 : γ → Option (γ ⊕ δ)} {J : Nat → α → γ → Prop} {K : β → δ → Prop} {n : Nat} (hs : ∀ i a c, i < n → J i a c → ∃ a' c', b1 a = some (.inl a') ∧ b2 c = some (.inl c') ∧ J (i + 1) a' c') (hl : ∀ a c, J n a c → ∃ x y, b1 a = some (.inr x) ∧ b2 c = some (.inr y) ∧ K x y) : ∀ (d i f : Nat) (a : α) (c : γ), i + d = n → d < f → J i a c → ∃ x y, it b1 f a = some x ∧ it b2 f c = some y ∧ K x y
  | _, _, 0, _, _, _, h, _ => by omega
  | 0, i, f + 1, a, c, e, _, hj => by
    obtain rfl : i = n := by omega
    obtain ⟨x, y, q1, q2, q3⟩ := hl a c hj
    exact ⟨x, y, it_last q1, it_last q2, q3⟩
  | d + 1, i, f + 1, a, c, e, hf, hj => by
    obtain ⟨a', c', q1, q2, q3⟩ := hs i a c (by omega) hj
    rw [it_step q1, it_step q2]
    exact two_for_k hs hl d (i + 1) f a' c' (by omega) (by omega) q3
theorem two_for {α β γ δ : Type} {b1 : α → Option (α ⊕ β)} {b2 : γ → Option (γ ⊕ δ)} (J : Nat → α → γ → Prop) {K : β → δ → Prop} (n : Nat) {a : α} {c : γ} (hn : n < FUEL) (h0 : J 0 a c) (hs : ∀ i a c, i < n → J i a c → ∃ a' c', b1 a = some (.inl a') ∧ b2 c = some (.inl c') ∧ J (i + 1) a' c') (hl : ∀ a c, J n a c → ∃ x y, b1 a = some (.inr x) ∧ b2 c = some (.inr y) ∧ K x y) : ∃ x y, it b1 FUEL a = some x ∧ it b2 FUEL c = some y ∧ K x y :=
  two_for_k hs hl n 0 FUEL a c (by omega) hn h0
