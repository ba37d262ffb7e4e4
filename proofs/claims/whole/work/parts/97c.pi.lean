/-! ===== what holds between the lines of a text ===== -/
def TieQ (t b : Nat) (C R : Mem) : Prop := (∀ i, i < nT R b → (C (t + 4) i = R 98 (12 * b + i) ∧ C (t + 5) i = R 99 (12 * b + i) ∧ C (t + 6) i = R 100 (12 * b + i)) ∧ (0 ≤ R 98 (12 * b + i) ∧ tOne R b i < nP R b) ∧ (0 ≤ R 99 (12 * b + i) ∧ tTwo R b i < nP R b) ∧ tOne R b i ≠ tTwo R b i ∧ (0 ≤ R 100 (12 * b + i) ∧ R 100 (12 * b + i) ≤ 99)) ∧
  (∀ i j, i < j → j < nT R b → ¬ (tOne R b i = tOne R b j ∧ tTwo R b i = tTwo R b j) ∧ ¬ (tOne R b i = tTwo R b j ∧ tTwo R b i = tOne R b j)) ∧
  (∀ p, p < 8 → (0 ≤ C (t + 3) p ∧ C (t + 3) p < 256) ∧ ∀ q, (C (t + 3) p).toNat.testBit q = anyB (fun i => (decide (tOne R b i = p) && decide (tTwo R b i = q)) || (decide (tOne R b i = q) && decide (tTwo R b i = p))) (nT R b))
def WishQ (t b : Nat) (C R : Mem) : Prop := (∀ k, k < nW R b → 0 ≤ R 101 (12 * b + k) ∧ 0 ≤ R 102 (12 * b + k) ∧ 0 ≤ R 103 (12 * b + k) ∧ R 103 (12 * b + k) ≤ 99 ∧ R 101 (12 * b + k) < 8 ∧ R 102 (12 * b + k) < 12) ∧
  (∀ p r : Nat, p < 8 → r < 12 → (∀ k, k < nW R b → R 101 (12 * b + k) = (p : Int) → R 102 (12 * b + k) = (r : Int) → C (t + 7) (12 * p + r) = R 103 (12 * b + k)) ∧ ((∀ k, k < nW R b → ¬ (R 101 (12 * b + k) = (p : Int) ∧ R 102 (12 * b + k) = (r : Int))) → C (t + 7) (12 * p + r) = -1))
def RowsQ (t b s : Nat) (C R : Mem) : Prop := ∀ r, r < nR R b → ∃ lc len : Nat, C 35 r = (lc : Int) ∧ C 36 r = ((lc + len : Nat) : Int) ∧ R 104 (17 * b + r) = ((900 * b + lc : Nat) : Int) ∧ R 105 (17 * b + r) = ((900 * b + lc + len : Nat) : Int) ∧ lc + len ≤ s ∧ (C 37 r = 0 ∨ C 37 r = 1) ∧ R 92 (12 * b + r) = C 37 r ∧ hR (R 106) (900 * b + lc) len 0 = some 1 ∧ SegE t b (C 37 r = 1) r lc len C R
def AlwQ (t b s : Nat) (C R : Mem) : Prop := ∃ na : Nat, na ≤ 4 ∧ C 27 10 = (na : Int) ∧ R 87 b = (na : Int) ∧ ∀ a, a < na → ∃ lc len : Nat, C 38 a = (lc : Int) ∧ C 39 a = ((lc + len : Nat) : Int) ∧ R 104 (17 * b + 12 + a) = ((900 * b + lc : Nat) : Int) ∧ R 105 (17 * b + 12 + a) = ((900 * b + lc + len : Nat) : Int) ∧ lc + len ≤ s ∧ hR (R 106) (900 * b + lc) len 0 = some 1 ∧ SegE t b False (nR R b) lc len C R
def LwQ (b s : Nat) (C R : Mem) : Prop := C 27 13 = R 91 b ∧ (R 91 b = 0 ∨ R 91 b = 1) ∧ (R 91 b = 1 → ∃ lc len : Nat, C 27 11 = (lc : Int) ∧ C 27 12 = ((lc + len : Nat) : Int) ∧ R 104 (17 * b + 16) = ((900 * b + lc : Nat) : Int) ∧ R 105 (17 * b + 16) = ((900 * b + lc + len : Nat) : Int) ∧ lc + len ≤ s ∧ lH (R 106) (900 * b + lc) len = some 1 ∧ SgL (900 * b + lc) lc len C R)
def HdP (t b : Nat) (C R : Mem) : Prop := isT t ∧ b < 2 ∧ C 27 16 = (t : Int) ∧ R 81 39 = (b : Int)
def NmP (b : Nat) (C R : Mem) : Prop := NmQ 32 93 (8 * b) (nF R b) C R ∧ NmQ 33 94 (8 * b) (nP R b) C R ∧ NmQ 34 95 (12 * b) (nR R b) C R
def CntP (b s : Nat) (C R : Mem) : Prop := s ≤ 720 ∧ C 28 1 = (s : Int) ∧ R 81 40 = ((900 * b + s : Nat) : Int) ∧ (s : Int) ≤ 9 * R 90 b
def PI (t b s : Nat) (C R : Mem) : Prop := HdP t b C R ∧ NumR t b C R ∧ NmP b C R ∧ CostR t b C R ∧ TieQ t b C R ∧ WishQ t b C R ∧ KnoP t b C R ∧ CntP b s C R ∧ RowsQ t b s C R ∧ AlwQ t b s C R ∧ LwQ b s C R
theorem hR_congr {f f' : Nat → Int} {lo : Nat} : ∀ {n h : Nat}, (∀ i, i < n → f' (lo + i) = f (lo + i)) → hR f' lo n h = hR f lo n h
  | 0, _, _ => rfl
  | n + 1, h, hh => by
    show (hR f' lo n h).bind (hS (f' (lo + n))) = (hR f lo n h).bind (hS (f (lo + n)))
    rw [hR_congr (fun i hi => hh i (by omega)), hh n (by omega)]
theorem lH_congr {f f' : Nat → Int} {lo : Nat} : ∀ {n : Nat}, (∀ i, i < n → f' (lo + i) = f (lo + i)) → lH f' lo n = lH f lo n
  | 0, _ => rfl
  | n + 1, hh => by
    show (lH f' lo n).bind _ = (lH f lo n).bind _
    rw [lH_congr (fun i hi => hh i (by omega)), hh n (by omega)]
section PIK
variable {t b s s' : Nat} {C R C' R' : Mem}
theorem SegE_keep {flag : Prop} {r r' lc len : Nat} (h : SegE t b flag r lc len C R) (hr : r ≤ r') (hs : lc + len ≤ s) (h29 : ∀ k, k < s → C' 29 k = C 29 k) (h106 : ∀ k, k < 900 * b + s → R' 106 k = R 106 k ∧ R' 107 k = R 107 k) (hF : nF R b ≤ nF R' b) (hP : nP R b ≤ nP R' b) (h37 : ∀ o, o < r → C' 37 o = C 37 o) : SegE t b flag r' lc len C' R' := by
  intro i hi
  obtain ⟨c, o, z1, z2, z3, z4, z5, z6, z7, z8⟩ := h i hi
  obtain ⟨y1, y2⟩ := h106 (900 * b + lc + i) (by omega)
  exact ⟨c, o, by rw [y1]; exact z1, by rw [y2]; exact z2, by rw [h29 _ (by omega)]; exact z3, z4, z5, fun q => by have := z6 q; omega, fun q => ⟨by have := (z7 q).1; omega, fun nf => by rw [h37 o (z7 q).1]; exact (z7 q).2 nf⟩, fun q => ⟨by have := (z8 q).1; omega, (z8 q).2⟩⟩
theorem RowsQ_keep (h : RowsQ t b s C R) (hs : s ≤ s') (hb : b < 2) (hR12 : nR R b ≤ 12) (hn : nR R' b = nR R b) (hF : nF R b ≤ nF R' b) (hP : nP R b ≤ nP R' b) (h35 : ∀ k, k < nR R b → C' 35 k = C 35 k ∧ C' 36 k = C 36 k ∧ C' 37 k = C 37 k) (h29 : ∀ k, k < s → C' 29 k = C 29 k) (h104 : ∀ k, k < 12 → R' 104 (17 * b + k) = R 104 (17 * b + k) ∧ R' 105 (17 * b + k) = R 105 (17 * b + k) ∧ R' 92 (12 * b + k) = R 92 (12 * b + k)) (h106 : ∀ k, k < 900 * b + s → R' 106 k = R 106 k ∧ R' 107 k = R 107 k) : RowsQ t b s' C' R' := by
  intro r hr
  rw [hn] at hr
  obtain ⟨lc, len, s1, s2, s3, s4, s5, s6, s7, s8, s9⟩ := h r hr
  obtain ⟨k1, k2, k3⟩ := h35 r hr
  obtain ⟨k4, k5, k6⟩ := h104 r (by omega)
  refine ⟨lc, len, k1.trans s1, k2.trans s2, k4.trans s3, k5.trans s4, by omega, by rw [k3]; exact s6, by rw [k6, k3]; exact s7, ?_, ?_⟩
  · rw [hR_congr (fun i hi => (h106 _ (by omega)).1)]
    exact s8
  · rw [k3]
    exact SegE_keep s9 (Nat.le_refl _) s5 h29 h106 hF hP (fun o ho => (h35 o (by omega)).2.2)
theorem AlwQ_keep (h : AlwQ t b s C R) (hs : s ≤ s') (hb : b < 2) (hn : nR R b ≤ nR R' b) (hF : nF R b ≤ nF R' b) (hP : nP R b ≤ nP R' b) (h27 : C' 27 10 = C 27 10) (h87 : R' 87 b = R 87 b) (h37 : ∀ k, k < nR R b → C' 37 k = C 37 k) (h38 : ∀ k, k < 4 → C' 38 k = C 38 k ∧ C' 39 k = C 39 k) (h29 : ∀ k, k < s → C' 29 k = C 29 k) (h104 : ∀ k, 12 ≤ k → k < 16 → R' 104 (17 * b + k) = R 104 (17 * b + k) ∧ R' 105 (17 * b + k) = R 105 (17 * b + k)) (h106 : ∀ k, k < 900 * b + s → R' 106 k = R 106 k ∧ R' 107 k = R 107 k) : AlwQ t b s' C' R' := by
  obtain ⟨na, n1, n2, n3, hh⟩ := h
  refine ⟨na, n1, h27.trans n2, h87.trans n3, fun a ha => ?_⟩
  obtain ⟨lc, len, s1, s2, s3, s4, s5, s8, s9⟩ := hh a ha
  obtain ⟨k1, k2⟩ := h38 a (by omega)
  obtain ⟨k4, k5⟩ := h104 (12 + a) (by omega) (by omega)
  rw [← Nat.add_assoc] at k4 k5
  refine ⟨lc, len, k1.trans s1, k2.trans s2, k4.trans s3, k5.trans s4, by omega, ?_, ?_⟩
  · rw [hR_congr (fun i hi => (h106 _ (by omega)).1)]
    exact s8
  · exact SegE_keep s9 hn s5 h29 h106 hF hP h37
theorem LwQ_keep (h : LwQ b s C R) (hs : s ≤ s') (h27 : C' 27 13 = C 27 13 ∧ C' 27 11 = C 27 11 ∧ C' 27 12 = C 27 12) (h91 : R' 91 b = R 91 b) (h29 : ∀ k, k < s → C' 29 k = C 29 k) (h104 : R' 104 (17 * b + 16) = R 104 (17 * b + 16) ∧ R' 105 (17 * b + 16) = R 105 (17 * b + 16)) (h106 : ∀ k, k < 900 * b + s → R' 106 k = R 106 k ∧ R' 107 k = R 107 k) : LwQ b s' C' R' := by
  obtain ⟨l1, l2, l3⟩ := h
  refine ⟨by rw [h27.1, h91]; exact l1, by rw [h91]; exact l2, fun e => ?_⟩
  rw [h91] at e
  obtain ⟨lc, len, s1, s2, s3, s4, s5, s6, s7⟩ := l3 e
  refine ⟨lc, len, h27.2.1.trans s1, h27.2.2.trans s2, h104.1.trans s3, h104.2.trans s4, by omega, ?_, fun i hi => ?_⟩
  · rw [lH_congr (fun i hi => (h106 _ (by omega)).1)]
    exact s6
  · obtain ⟨c, o, z1, z2, z3, z4⟩ := s7 i hi
    obtain ⟨y1, y2⟩ := h106 (900 * b + lc + i) (by omega)
    exact ⟨c, o, by rw [y1]; exact z1, fun q => by rw [y2]; exact z2 q, by rw [h29 _ (by omega)]; exact z3, z4⟩
theorem NmQ_keep {cc rc off cnt : Nat} (h : NmQ cc rc off cnt C R) (h1 : ∀ i, i < cnt → C' cc i = C cc i) (h2 : ∀ i, i < cnt → R' rc (off + i) = R rc (off + i)) : NmQ cc rc off cnt C' R' := by
  intro i hi
  obtain ⟨m, z1, z2, z3⟩ := h i hi
  exact ⟨m, z1, by rw [h1 i hi]; exact z2, by rw [h2 i hi]; exact z3⟩
theorem NmQ_add {cc rc off cnt : Nat} (h : NmQ cc rc off cnt C R) (h1 : ∀ i, i < cnt → C' cc i = C cc i) (h2 : ∀ i, i < cnt → R' rc (off + i) = R rc (off + i)) (h3 : ∃ m : Nat, m < 2 ^ 40 ∧ C' cc cnt = (m : Int) ∧ R' rc (off + cnt) = ((w256 m : Nat) : Int)) : NmQ cc rc off (cnt + 1) C' R' := by
  intro i hi
  by_cases e : i = cnt
  · subst e; exact h3
  · exact NmQ_keep h h1 h2 i (by omega)
theorem CostR_keep (h : CostR t b C R) (hn : nP R' b = nP R b) (h1 : ∀ k, k < nP R b → C' (t + 1) k = C (t + 1) k) (h2 : ∀ k, k < nP R b → R' 96 (8 * b + k) = R 96 (8 * b + k)) : CostR t b C' R' := by
  intro p hp
  rw [hn] at hp
  rw [h1 p hp, h2 p hp]
  exact h p hp
theorem KnoP_keep (h : KnoP t b C R) (hn : nP R' b = nP R b) (h1 : ∀ k, k < nP R b → C' (t + 2) k = C (t + 2) k) (h2 : ∀ k, k < nP R b → R' 97 (8 * b + k) = R 97 (8 * b + k)) : KnoP t b C' R' := by
  intro p hp
  rw [hn] at hp
  rw [h1 p hp, h2 p hp]
  exact h p hp
theorem TieQ_keep (h : TieQ t b C R) (hb : b < 2) (hT12 : nT R b ≤ 12) (hn : nT R' b = nT R b) (hP : nP R b ≤ nP R' b) (h1 : ∀ a k, a = t + 3 ∨ a = t + 4 ∨ a = t + 5 ∨ a = t + 6 → C' a k = C a k) (h2 : ∀ k, k < 12 → R' 98 (12 * b + k) = R 98 (12 * b + k) ∧ R' 99 (12 * b + k) = R 99 (12 * b + k) ∧ R' 100 (12 * b + k) = R 100 (12 * b + k)) : TieQ t b C' R' := by
  obtain ⟨q1, q2, q3⟩ := h
  have e1 : ∀ i, i < nT R b → tOne R' b i = tOne R b i := fun i hi => by unfold tOne; rw [(h2 i (by omega)).1]
  have e2 : ∀ i, i < nT R b → tTwo R' b i = tTwo R b i := fun i hi => by unfold tTwo; rw [(h2 i (by omega)).2.1]
  refine ⟨fun i hi => ?_, fun i j hij hj => ?_, fun p hp => ⟨?_, fun q => ?_⟩⟩
  · rw [hn] at hi
    obtain ⟨y1, y2, y3⟩ := h2 i (by omega)
    rw [h1 (t + 4) _ (by omega), h1 (t + 5) _ (by omega), h1 (t + 6) _ (by omega), y1, y2, y3, e1 i hi, e2 i hi]
    obtain ⟨z1, z2, z3, z4, z5⟩ := q1 i hi
    exact ⟨z1, ⟨z2.1, by omega⟩, ⟨z3.1, by omega⟩, z4, z5⟩
  · rw [hn] at hj
    rw [e1 i (by omega), e1 j hj, e2 i (by omega), e2 j hj]
    exact q2 i j hij hj
  · rw [h1 (t + 3) _ (by omega)]
    exact (q3 p hp).1
  · rw [h1 (t + 3) _ (by omega), hn, (q3 p hp).2 q]
    exact anyB_congr (fun i hi => by rw [e1 i hi, e2 i hi])
theorem WishQ_keep (h : WishQ t b C R) (hb : b < 2) (hW12 : nW R b ≤ 12) (hn : nW R' b = nW R b) (h1 : ∀ k, C' (t + 7) k = C (t + 7) k) (h2 : ∀ k, k < 12 → R' 101 (12 * b + k) = R 101 (12 * b + k) ∧ R' 102 (12 * b + k) = R 102 (12 * b + k) ∧ R' 103 (12 * b + k) = R 103 (12 * b + k)) : WishQ t b C' R' := by
  obtain ⟨q1, q2⟩ := h
  refine ⟨fun k hk => ?_, fun p r hp hr => ⟨fun k hk z1 z2 => ?_, fun hh => ?_⟩⟩
  · rw [hn] at hk
    obtain ⟨y1, y2, y3⟩ := h2 k (by omega)
    rw [y1, y2, y3]
    exact q1 k hk
  · rw [hn] at hk
    obtain ⟨y1, y2, y3⟩ := h2 k (by omega)
    rw [y1] at z1
    rw [y2] at z2
    rw [h1, y3]
    exact (q2 p r hp hr).1 k hk z1 z2
  · rw [h1]
    refine (q2 p r hp hr).2 (fun k hk z => ?_)
    obtain ⟨y1, y2, y3⟩ := h2 k (by omega)
    exact hh k (by rw [hn]; exact hk) (by rw [y1, y2]; exact z)
/-- at the end of a good text, all that the laying of its sets wants -/
theorem PI_rows (h : RowsQ t b s C R) (hs : s ≤ 720) : RowsP t b C R := fun r hr => by
  obtain ⟨lc, len, s1, s2, s3, s4, s5, s6⟩ := h r hr
  exact ⟨lc, len, s1, s2, s3, s4, by omega, s6⟩
theorem PI_alw (h : AlwQ t b s C R) (hs : s ≤ 720) : AlwP t b C R := by
  obtain ⟨na, n1, n2, n3, hh⟩ := h
  refine ⟨na, n1, n2, n3, fun a ha => ?_⟩
  obtain ⟨lc, len, s1, s2, s3, s4, s5, s6⟩ := hh a ha
  exact ⟨lc, len, s1, s2, s3, s4, by omega, s6⟩
theorem PI_lw (h : LwQ b s C R) (hs : s ≤ 720) : LwP b C R := by
  obtain ⟨l1, l2, l3⟩ := h
  refine ⟨l1, l2, fun e => ?_⟩
  obtain ⟨lc, len, s1, s2, s3, s4, s5, s6, s7⟩ := l3 e
  exact ⟨lc, len, s1, s2, s3, s4, by omega, s6, s7⟩
theorem PI_tie (h : TieQ t b C R) (hP : nP R b ≤ 8) : TieR t b C R := ⟨h.1, h.2.1, fun p hp => h.2.2 p (by omega)⟩
theorem PI_wish (h : WishQ t b C R) (hP : nP R b ≤ 8) (hR12 : nR R b ≤ 12) : WishR t b C R := ⟨h.1, fun p r hp hr => h.2 p r (by omega) (by omega)⟩
end PIK
