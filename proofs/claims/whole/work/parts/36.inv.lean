/-! ===== what class (C) and reference (R) hold between calls ===== -/
def nF (R : Mem) (b : Nat) : Nat := (R 84 b).toNat
def nP (R : Mem) (b : Nat) : Nat := (R 85 b).toNat
def nR (R : Mem) (b : Nat) : Nat := (R 86 b).toNat
def nT (R : Mem) (b : Nat) : Nat := (R 88 b).toNat
def nW (R : Mem) (b : Nat) : Nat := (R 89 b).toNat
def nwd (n : Nat) : Nat := if n ≤ 6 then 1 else 2 ^ (n - 6)
def isB (R : Mem) (w : Nat) : Bool := decide (R 111 w = 1)
def rowI (R : Mem) (r w : Nat) : Bool := decide (R 112 (256 * r + w) = 1)
def ansV (R : Mem) (p r w : Nat) : Int := R 114 (256 * (12 * p + r) + w)
def popc (n : Nat) : Nat := cnt n.testBit 31
def tOne (R : Mem) (b i : Nat) : Nat := (R 98 (12 * b + i)).toNat
def tTwo (R : Mem) (b i : Nat) : Nat := (R 99 (12 * b + i)).toNat
def tiedI (R : Mem) (b set : Nat) : Bool := anyB (fun i => set.testBit (tOne R b i) && set.testBit (tTwo R b i)) (nT R b)
def lTwo (c x y : Int) : Int := if c = 7 then (if ¬ n32 x = 0 ∨ ¬ n32 y = 0 then 1 else 0) else if c = 43 then x + y else if c = 45 then x - y else if c = 60 then (if n32 x < n32 y then 1 else 0) else if c = 62 then (if n32 y < n32 x then 1 else 0) else (if n32 x = n32 y then 1 else 0)
def lPush (c : Int) : Bool := decide (11 ≤ c ∧ c ≤ 15)
def lVal (c n v ap ti th : Int) : Int := if c = 11 then n else if c = 12 then v else if c = 13 then ap else if c = 14 then ti else th
/-- the value of a law, its steps by number; the pile has its top first -/
def lStep (c n v ap ti th : Int) (st : List Int) : List Int := if lPush c then lVal c n v ap ti th :: st else match st with
  | y :: x :: s => lTwo c x y :: s
  | s => s
def lRun (f g : Nat → Int) (lo : Nat) (v ap ti th : Int) : Nat → List Int
  | 0 => []
  | n + 1 => lStep (f (lo + n)) (g (lo + n)) v ap ti th (lRun f g lo v ap ti th n)
/-- how high the pile is -/
def lH (f : Nat → Int) (lo : Nat) : Nat → Option Nat
  | 0 => some 0
  | n + 1 => (lH f lo n).bind fun h => if lPush (f (lo + n)) then (if h < 25 then some (h + 1) else none) else if 2 ≤ h then some (h - 1) else none
def lawLo (R : Mem) (b : Nat) : Nat := (R 104 (17 * b + 16)).toNat
def lawLen (R : Mem) (b : Nat) : Nat := (R 105 (17 * b + 16)).toNat - lawLo R b
def lawB (R : Mem) (b : Nat) (v ap ti th : Int) : Bool := if R 91 b = 0 then decide (1 < v) else !decide (n32 ((lRun (R 106) (R 107) (lawLo R b) v ap ti th (lawLen R b)).headD 0) = 0)
def LawOK (R : Mem) (b : Nat) : Prop := (R 91 b = 0 ∨ R 91 b = 1) ∧ (R 91 b = 1 → ((900 * b : Nat) : Int) ≤ R 104 (17 * b + 16) ∧ R 104 (17 * b + 16) ≤ R 105 (17 * b + 16) ∧ R 105 (17 * b + 16) ≤ ((900 * b + 900 : Nat) : Int) ∧ lH (R 106) (lawLo R b) (lawLen R b) = some 1 ∧ ∀ i, i < lawLen R b → 1 ≤ R 106 (lawLo R b + i) ∧ R 106 (lawLo R b + i) < 64)
def b1 (x : Bool) : Int := if x then 1 else 0
def canS (R : Mem) (b : Nat) (set r ap su : Int) (w : Nat) : Bool :=
  lawB R b (popc set.toNat) ap (b1 (tiedI R b set.toNat)) (1 - su) || allB (fun p => !set.toNat.testBit p || (if su = 1 then decide (ansV R p r.toNat w = 1) else !decide (ansV R p r.toNat w = 0))) (nP R b)
def TapeR (C R : Mem) : Prop := ∃ n : Nat, C 1 1 = (n : Int) ∧ R 81 2 = (n : Int) ∧ n ≤ 1600 ∧ ∀ i, i < n → C 2 i = R 82 i ∧ -128 ≤ C 2 i ∧ C 2 i < 128
def TimeR (C R : Mem) : Prop := C 1 12 = R 81 58 ∧ 0 ≤ C 1 12 ∧ C 1 12 ≤ 100000
def FaultR (C R : Mem) : Prop := C 40 8 = R 81 4 ∧ C 40 9 = R 81 5
def kwL : List Int := [197748, 542723566, 114292, 12009203, 18935, 46892851, 20773, 17376357, 763496, 24627848, 12343, 294, 498, 1476, 14836, 8892563, 679786867, 754224307, 1574484, 664740]
def kw (i : Nat) : Int := kwL.getD i 0
def KeptR (C : Mem) : Prop := ∀ i, i < 20 → C 41 i = kw i
def NumR (t b : Nat) (C R : Mem) : Prop := (C t 0 = R 84 b ∧ 0 ≤ R 84 b ∧ R 84 b ≤ 8) ∧ (C t 1 = R 85 b ∧ 0 ≤ R 85 b ∧ R 85 b ≤ 8) ∧ (C t 2 = R 86 b ∧ 0 ≤ R 86 b ∧ R 86 b ≤ 12) ∧ (C t 3 = R 88 b ∧ 0 ≤ R 88 b ∧ R 88 b ≤ 12) ∧ (C t 4 = R 89 b ∧ 0 ≤ R 89 b ∧ R 89 b ≤ 12) ∧ (C t 5 = R 90 b ∧ 0 ≤ R 90 b ∧ R 90 b ≤ 80)
def WdR (t b : Nat) (C R : Mem) : Prop := C t 6 = (nwd (nF R b) : Int)
def CostR (t b : Nat) (C R : Mem) : Prop := ∀ p, p < nP R b → C (t + 1) p = R 96 (8 * b + p) ∧ 0 ≤ R 96 (8 * b + p) ∧ R 96 (8 * b + p) ≤ 99
def TieR (t b : Nat) (C R : Mem) : Prop := (∀ i, i < nT R b → (C (t + 4) i = R 98 (12 * b + i) ∧ C (t + 5) i = R 99 (12 * b + i) ∧ C (t + 6) i = R 100 (12 * b + i)) ∧ (0 ≤ R 98 (12 * b + i) ∧ tOne R b i < nP R b) ∧ (0 ≤ R 99 (12 * b + i) ∧ tTwo R b i < nP R b) ∧ tOne R b i ≠ tTwo R b i ∧ (0 ≤ R 100 (12 * b + i) ∧ R 100 (12 * b + i) ≤ 99)) ∧
  (∀ i j, i < j → j < nT R b → ¬ (tOne R b i = tOne R b j ∧ tTwo R b i = tTwo R b j) ∧ ¬ (tOne R b i = tTwo R b j ∧ tTwo R b i = tOne R b j)) ∧
  (∀ p, p < nP R b → (0 ≤ C (t + 3) p ∧ C (t + 3) p < 256) ∧ ∀ q, (C (t + 3) p).toNat.testBit q = anyB (fun i => (decide (tOne R b i = p) && decide (tTwo R b i = q)) || (decide (tOne R b i = q) && decide (tTwo R b i = p))) (nT R b))
def WishR (t b : Nat) (C R : Mem) : Prop := (∀ k, k < nW R b → 0 ≤ R 101 (12 * b + k) ∧ 0 ≤ R 102 (12 * b + k) ∧ 0 ≤ R 103 (12 * b + k) ∧ R 103 (12 * b + k) ≤ 99 ∧ R 101 (12 * b + k) < 8 ∧ R 102 (12 * b + k) < 12) ∧
  (∀ p r : Nat, p < nP R b → r < nR R b → (∀ k, k < nW R b → R 101 (12 * b + k) = (p : Int) → R 102 (12 * b + k) = (r : Int) → C (t + 7) (12 * p + r) = R 103 (12 * b + k)) ∧ ((∀ k, k < nW R b → ¬ (R 101 (12 * b + k) = (p : Int) ∧ R 102 (12 * b + k) = (r : Int))) → C (t + 7) (12 * p + r) = -1))
def BaseR (t b : Nat) (C R : Mem) : Prop := (∀ w, w < 256 → R 111 w = 0 ∨ R 111 w = 1) ∧ (∀ w, 2 ^ nF R b ≤ w → w < 256 → R 111 w = 0) ∧ ∀ w, w < 64 * nwd (nF R b) → sb C (t + 8) 0 w = isB R w
def RowR (t b : Nat) (C R : Mem) : Prop := ∀ r w, r < nR R b → w < 2 ^ nF R b → isB R w = true → (R 112 (256 * r + w) = 0 ∨ R 112 (256 * r + w) = 1) ∧ sb C (t + 9) (4 * r) w = rowI R r w
def AnsR (t b : Nat) (C R : Mem) : Prop := ∀ p r w, p < nP R b → r < nR R b → w < 64 * nwd (nF R b) → (isB R w = true → ansV R p r w = 0 ∨ ansV R p r w = 1 ∨ ansV R p r w = 2) ∧ sb C (t + 10) (4 * (12 * p + r)) w = (isB R w && decide (ansV R p r w = 1)) ∧ sb C (t + 11) (4 * (12 * p + r)) w = (isB R w && decide (ansV R p r w = 0))
def LawR (t b : Nat) (C R : Mem) : Prop := LawOK R b ∧ ∀ v ap ti th : Nat, v < nP R b → ap < 2 → ti < 2 → th < 2 → qb (C t 7) (8 * v + 4 * ap + 2 * ti + th) = lawB R b ((v : Int) + 1) ap ti th
def Town (t b : Nat) (C R : Mem) : Prop := NumR t b C R ∧ WdR t b C R ∧ CostR t b C R ∧ TieR t b C R ∧ WishR t b C R ∧ BaseR t b C R ∧ RowR t b C R ∧ AnsR t b C R ∧ LawR t b C R
def SayR (s cs cr ct cu ca cy o m t b : Nat) (C R : Mem) : Prop := ∀ n, n < m → (C (s + 1) n = R cs (o + n) ∧ 0 < R cs (o + n) ∧ R cs (o + n) < ((2 ^ nP R b : Nat) : Int)) ∧ (C (s + 2) n = R cr (o + n) ∧ 0 ≤ R cr (o + n) ∧ R cr (o + n) < R 86 b) ∧ (C (s + 3) n = R cy (o + n) ∧ (R cy (o + n) = 0 ∨ R cy (o + n) = 1)) ∧ (C (s + 4) n = R ct (o + n) ∧ 0 ≤ R ct (o + n) ∧ R ct (o + n) ≤ 100000) ∧ (C (s + 5) n = R cu (o + n) ∧ -1 ≤ R cu (o + n) ∧ R cu (o + n) ≤ 100000) ∧ (R ca (o + n) = 0 ∨ R ca (o + n) = 1) ∧
  ∀ w, w < 64 * nwd (nF R b) → sb C (s + 6) (4 * n) w = (isB R w && canS R b (R cs (o + n)) (R cr (o + n)) (R ca (o + n)) (R cy (o + n)) w)
def Says (t b : Nat) (C R : Mem) : Prop := ∃ m : Nat, m ≤ 40 ∧ C 42 0 = (m : Int) ∧ R 81 57 = (m : Int) ∧ SayR 42 116 117 118 119 120 121 0 m t b C R
def BoxR (t b : Nat) (C R : Mem) : Prop := ∀ x, x < 3 → (C (50 + 7 * x) 1 = 0 ∧ R 132 x = -1) ∨ (C (50 + 7 * x) 1 = 1 ∧ ∃ m : Nat, m ≤ 40 ∧ C (50 + 7 * x) 0 = (m : Int) ∧ R 132 x = (m : Int) ∧ SayR (50 + 7 * x) 133 134 135 136 137 138 (40 * x) m t b C R)
def Inv (C R : Mem) : Prop := ∃ t b : Nat, isT t ∧ C 1 2 = (t : Int) ∧ C 1 3 = ((18 - t : Nat) : Int) ∧ b < 2 ∧ R 81 38 = (b : Int) ∧ TapeR C R ∧ TimeR C R ∧ FaultR C R ∧ KeptR C ∧ Town t b C R ∧ Says t b C R ∧ BoxR t b C R
/-! what stays when scratch cells change -/
def prC (c : Nat) : Bool := decide (c ≤ 70)
def prR (c k : Nat) : Bool := decide (81 ≤ c) && !(c == 113 || c == 115 || (decide (122 ≤ c) && decide (c ≤ 131)) || (c == 81 && (k == 60 || k == 70)))
theorem lRun_congr {f f' g g' : Nat → Int} (h1 : f' = f) (h2 : g' = g) (lo : Nat) (v ap ti th : Int) (n : Nat) : lRun f' g' lo v ap ti th n = lRun f g lo v ap ti th n := by rw [h1, h2]
section KEEP
variable {C C' R R' : Mem} {t b : Nat}
/-- the numbers and the sets of a town are read from these cells of the reference -/
def SameR (R R' : Mem) : Prop := (∀ k, R' 84 k = R 84 k) ∧ (∀ k, R' 85 k = R 85 k) ∧ (∀ k, R' 86 k = R 86 k) ∧ (∀ k, R' 88 k = R 88 k) ∧ (∀ k, R' 89 k = R 89 k) ∧ (∀ k, R' 90 k = R 90 k) ∧ (∀ k, R' 91 k = R 91 k) ∧ (∀ k, R' 96 k = R 96 k) ∧ (∀ k, R' 98 k = R 98 k) ∧ (∀ k, R' 99 k = R 99 k) ∧ (∀ k, R' 100 k = R 100 k) ∧ (∀ k, R' 101 k = R 101 k) ∧ (∀ k, R' 102 k = R 102 k) ∧ (∀ k, R' 103 k = R 103 k) ∧ (∀ k, R' 104 k = R 104 k) ∧ (∀ k, R' 105 k = R 105 k) ∧ R' 106 = R 106 ∧ R' 107 = R 107 ∧ (∀ k, R' 111 k = R 111 k) ∧ (∀ k, R' 112 k = R 112 k) ∧ (∀ k, R' 114 k = R 114 k)
theorem keep_nF (h : SameR R R') : nF R' b = nF R b := by unfold nF; rw [h.1]
theorem keep_nP (h : SameR R R') : nP R' b = nP R b := by unfold nP; rw [h.2.1]
theorem keep_nR (h : SameR R R') : nR R' b = nR R b := by unfold nR; rw [h.2.2.1]
theorem keep_nT (h : SameR R R') : nT R' b = nT R b := by unfold nT; rw [h.2.2.2.1]
theorem keep_nW (h : SameR R R') : nW R' b = nW R b := by unfold nW; rw [h.2.2.2.2.1]
theorem keep_tOne (h : SameR R R') : tOne R' b = tOne R b := by
  funext i
  obtain ⟨-, -, -, -, -, -, -, -, h98, -⟩ := h
  unfold tOne; rw [h98]
theorem keep_tTwo (h : SameR R R') : tTwo R' b = tTwo R b := by
  funext i
  obtain ⟨-, -, -, -, -, -, -, -, -, h99, -⟩ := h
  unfold tTwo; rw [h99]
theorem keep_tiedI (h : SameR R R') (s : Nat) : tiedI R' b s = tiedI R b s := by unfold tiedI; rw [keep_tOne h, keep_tTwo h, keep_nT h]
theorem keep_isB (h : SameR R R') (w : Nat) : isB R' w = isB R w := by
  obtain ⟨-, -, -, -, -, -, -, -, -, -, -, -, -, -, -, -, -, -, h1, -⟩ := h
  unfold isB; rw [h1]
theorem keep_rowI (h : SameR R R') (r w : Nat) : rowI R' r w = rowI R r w := by
  obtain ⟨-, -, -, -, -, -, -, -, -, -, -, -, -, -, -, -, -, -, -, h1, -⟩ := h
  unfold rowI; rw [h1]
theorem keep_ansV (h : SameR R R') (p r w : Nat) : ansV R' p r w = ansV R p r w := by
  obtain ⟨-, -, -, -, -, -, -, -, -, -, -, -, -, -, -, -, -, -, -, -, h1⟩ := h
  unfold ansV; rw [h1]
theorem keep_law (h : SameR R R') : lawLo R' b = lawLo R b ∧ lawLen R' b = lawLen R b ∧ (LawOK R' b ↔ LawOK R b) ∧ ∀ v ap ti th, lawB R' b v ap ti th = lawB R b v ap ti th := by
  obtain ⟨-, -, -, -, -, -, h91, -, -, -, -, -, -, -, h104, h105, h106, h107, -, -, -⟩ := h
  have e1 : lawLo R' b = lawLo R b := by unfold lawLo; rw [h104]
  have e2 : lawLen R' b = lawLen R b := by unfold lawLen; rw [h105, e1]
  refine ⟨e1, e2, ?_, ?_⟩
  · unfold LawOK; rw [e1, e2, h91, h104, h105, h106]
  · intro v ap ti th
    unfold lawB; rw [e1, e2, h91, h106, h107]
theorem keep_canS (h : SameR R R') (set r ap su : Int) (w : Nat) : canS R' b set r ap su w = canS R b set r ap su w := by
  unfold canS
  rw [(keep_law h).2.2.2, keep_tiedI h, keep_nP h]
  simp only [keep_ansV h]
theorem SayR_keep {s cs cr ct cu ca cy o m : Nat} (h : SameR R R') (h1 : ∀ c k, s < c → c ≤ s + 6 → C' c k = C c k) (h2 : ∀ k, R' cs k = R cs k) (h3 : ∀ k, R' cr k = R cr k) (h4 : ∀ k, R' ct k = R ct k) (h5 : ∀ k, R' cu k = R cu k) (h6 : ∀ k, R' ca k = R ca k) (h7 : ∀ k, R' cy k = R cy k) (hi : SayR s cs cr ct cu ca cy o m t b C R) : SayR s cs cr ct cu ca cy o m t b C' R' := by
  intro n hn
  have hh := hi n hn
  simp only [sb] at hh ⊢
  rw [keep_nP h, keep_nF h, h.2.2.1, h2, h3, h4, h5, h6, h7]
  simp only [keep_canS h, keep_isB h]
  rw [h1 (s + 1) _ (by omega) (by omega), h1 (s + 2) _ (by omega) (by omega), h1 (s + 3) _ (by omega) (by omega), h1 (s + 4) _ (by omega) (by omega), h1 (s + 5) _ (by omega) (by omega)]
  simp only [h1 (s + 6) _ (Nat.lt_add_of_pos_right (by omega)) (Nat.le_refl _)]
  exact hh
theorem Town_keep (h : SameR R R') (h1 : ∀ c k, t ≤ c → c ≤ t + 11 → C' c k = C c k) (hi : Town t b C R) : Town t b C' R' := by
  obtain ⟨i1, i2, i3, i4, i5, i6, i7, i8, i9⟩ := hi
  have hF := keep_nF (b := b) h
  have hP := keep_nP (b := b) h
  have hR := keep_nR (b := b) h
  have hT := keep_nT (b := b) h
  have hW := keep_nW (b := b) h
  have hO := keep_tOne (b := b) h
  have hU := keep_tTwo (b := b) h
  have hB := keep_isB h
  have hI := keep_rowI h
  have hA := keep_ansV h
  obtain ⟨-, -, hL1, hL2⟩ := keep_law (b := b) h
  obtain ⟨h84, h85, h86, h88, h89, h90, -, h96, h98, h99, h100, h101, h102, h103, -, -, -, -, h111, h112, -⟩ := h
  have c0 : ∀ k, C' t k = C t k := fun k => h1 _ k (by omega) (by omega)
  have c1 : ∀ k, C' (t + 1) k = C (t + 1) k := fun k => h1 _ k (by omega) (by omega)
  have c3 : ∀ k, C' (t + 3) k = C (t + 3) k := fun k => h1 _ k (by omega) (by omega)
  have c4 : ∀ k, C' (t + 4) k = C (t + 4) k := fun k => h1 _ k (by omega) (by omega)
  have c5 : ∀ k, C' (t + 5) k = C (t + 5) k := fun k => h1 _ k (by omega) (by omega)
  have c6 : ∀ k, C' (t + 6) k = C (t + 6) k := fun k => h1 _ k (by omega) (by omega)
  have c7 : ∀ k, C' (t + 7) k = C (t + 7) k := fun k => h1 _ k (by omega) (by omega)
  have c8 : ∀ k, C' (t + 8) k = C (t + 8) k := fun k => h1 _ k (by omega) (by omega)
  have c9 : ∀ k, C' (t + 9) k = C (t + 9) k := fun k => h1 _ k (by omega) (by omega)
  have c10 : ∀ k, C' (t + 10) k = C (t + 10) k := fun k => h1 _ k (by omega) (by omega)
  have c11 : ∀ k, C' (t + 11) k = C (t + 11) k := fun k => h1 _ k (by omega) (by omega)
  refine ⟨?_, ?_, ?_, ?_, ?_, ?_, ?_, ?_, ?_⟩
  · unfold NumR; simp only [c0, h84, h85, h86, h88, h89, h90]; exact i1
  · unfold WdR; simp only [c0, hF]; exact i2
  · unfold CostR; simp only [c1, h96, hP]; exact i3
  · unfold TieR; simp only [c3, c4, c5, c6, h98, h99, h100, hO, hU, hT, hP]; exact i4
  · unfold WishR; simp only [c7, h101, h102, h103, hW, hP, hR]; exact i5
  · unfold BaseR; simp only [sb, c8, h111, hF, hB]; exact i6
  · unfold RowR; simp only [sb, c9, h112, hF, hR, hB, hI]; exact i7
  · unfold AnsR; simp only [sb, c10, c11, hF, hP, hR, hB, hA]; exact i8
  · unfold LawR; simp only [c0, hP, hL1, hL2]; exact i9
theorem Inv_q (hC : ∀ c k, c ≤ 70 → C' c k = C c k) (hR : ∀ c k, prR c k = true → R' c k = R c k) (hi : Inv C R) : Inv C' R' := by
  obtain ⟨t, b, ht, h12, h13, hb, h38, ⟨n, a1, a2, a3, a4⟩, a5, a6, a7, a8, ⟨m, a9, a10, a11, a12⟩, a13⟩ := hi
  have hq : ∀ c, 81 < c → c ≠ 113 → c ≠ 115 → (c < 122 ∨ 131 < c) → ∀ k, R' c k = R c k := by
    intro c q1 q2 q3 q4 k
    refine hR c k ?_
    simp [prR, q2, q3]
    omega
  have hS : SameR R R' := by
    refine ⟨?_, ?_, ?_, ?_, ?_, ?_, ?_, ?_, ?_, ?_, ?_, ?_, ?_, ?_, ?_, ?_, ?_, ?_, ?_, ?_, ?_⟩ <;> first | exact hq _ (by omega) (by omega) (by omega) (by omega) | (funext k; exact hq _ (by omega) (by omega) (by omega) (by omega) k)
  have ht2 : t ≤ 15 := by unfold isT at ht; omega
  refine ⟨t, b, ht, ?_, ?_, hb, ?_, ⟨n, ?_, ?_, a3, ?_⟩, ?_, ?_, ?_, Town_keep hS (fun c k h1 h2 => hC c k (by omega)) a8, ⟨m, a9, ?_, ?_, SayR_keep hS (fun c k h1 h2 => hC c k (by omega)) (hq _ (by omega) (by omega) (by omega) (by omega)) (hq _ (by omega) (by omega) (by omega) (by omega)) (hq _ (by omega) (by omega) (by omega) (by omega)) (hq _ (by omega) (by omega) (by omega) (by omega)) (hq _ (by omega) (by omega) (by omega) (by omega)) (hq _ (by omega) (by omega) (by omega) (by omega)) a12⟩, ?_⟩
  · rw [hC _ _ (by omega)]; exact h12
  · rw [hC _ _ (by omega)]; exact h13
  · rw [hR _ _ rfl]; exact h38
  · rw [hC _ _ (by omega)]; exact a1
  · rw [hR _ _ rfl]; exact a2
  · intro i hi
    rw [hC _ _ (by omega), hq _ (by omega) (by omega) (by omega) (by omega)]
    exact a4 i hi
  · unfold TimeR; rw [hC _ _ (by omega), hR _ _ rfl]; exact a5
  · unfold FaultR; rw [hC _ _ (by omega), hC _ _ (by omega), hR _ _ rfl, hR _ _ rfl]; exact a6
  · intro i hi; rw [hC _ _ (by omega)]; exact a7 i hi
  · rw [hC _ _ (by omega)]; exact a10
  · rw [hR _ _ rfl]; exact a11
  · intro x hx
    rcases a13 x hx with ⟨h1, h2⟩ | ⟨h1, m', h2, h3, h4, h5⟩
    · refine Or.inl ⟨?_, ?_⟩
      · rw [hC _ _ (by omega)]; exact h1
      · rw [hq _ (by omega) (by omega) (by omega) (by omega)]; exact h2
    · refine Or.inr ⟨?_, m', h2, ?_, ?_, SayR_keep hS (fun c k h1 h2 => hC c k (by omega)) (hq _ (by omega) (by omega) (by omega) (by omega)) (hq _ (by omega) (by omega) (by omega) (by omega)) (hq _ (by omega) (by omega) (by omega) (by omega)) (hq _ (by omega) (by omega) (by omega) (by omega)) (hq _ (by omega) (by omega) (by omega) (by omega)) (hq _ (by omega) (by omega) (by omega) (by omega)) h5⟩
      · rw [hC _ _ (by omega)]; exact h1
      · rw [hC _ _ (by omega)]; exact h3
      · rw [hq _ (by omega) (by omega) (by omega) (by omega)]; exact h4
end KEEP
