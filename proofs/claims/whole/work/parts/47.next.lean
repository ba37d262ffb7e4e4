/-! ===== operation: next ===== -/
def ansC (R : Mem) (b : Nat) (k : Int) (p r : Nat) (a : Int) (w : Nat) : Bool := lfB R b k w && decide (ansV R p r w = a)
def anN (R : Mem) (b : Nat) (k : Int) (p r : Nat) (a : Int) : Nat := cnt (ansC R b k p r a) (2 ^ nF R b)
def mst (R : Mem) (b : Nat) (k : Int) (p r : Nat) : Nat := max (max (anN R b k p r 1) (anN R b k p r 0)) (anN R b k p r 2)
def nstep (R : Mem) (b : Nat) (k : Int) (p r : Nat) (s : Int × Int × Int) : Int × Int × Int := if (¬ s.1 = -1 ∧ s.2.2 ≤ (mst R b k p r : Int)) ∧ ¬ ((mst R b k p r : Int) = s.2.2 ∧ R 96 (8 * b + p) < R 96 (8 * b + s.1.toNat)) then s else ((p : Int), (r : Int), (mst R b k p r : Int))
def selR (R : Mem) (b : Nat) (k : Int) (p : Nat) (s : Int × Int × Int) : Nat → Int × Int × Int
  | 0 => s
  | n + 1 => nstep R b k p n (selR R b k p s n)
def selP (R : Mem) (b : Nat) (k : Int) (s : Int × Int × Int) : Nat → Int × Int × Int
  | 0 => s
  | n + 1 => selR R b k n (selP R b k s n) (nR R b)
section NEXT
variable {t b : Nat} {C R : Mem}
theorem an_sum (hA : AnsR t b C R) {k : Int} {p r : Nat} (hp : p < nP R b) (hr : r < nR R b) : ∀ n, n ≤ 64 * nwd (nF R b) → cnt (ansC R b k p r 1) n + cnt (ansC R b k p r 0) n + cnt (ansC R b k p r 2) n = cnt (lfB R b k) n
  | 0, _ => rfl
  | n + 1, h => by
    have ih := an_sum hA hp hr (k := k) n (by omega)
    have e : ∀ q : Nat → Bool, cnt q (n + 1) = cnt q n + (if q n = true then 1 else 0) := fun q => rfl
    rw [e, e, e, e]
    cases hl : lfB R b k n with
    | false =>
      unfold ansC
      unfold ansC at ih
      rw [hl]
      simp only [Bool.false_and]
      simpa using ih
    | true =>
      have h3 := (hA p r n hp hr (by omega)).1 (lfB_base hl)
      have f : ∀ a : Int, ansC R b k p r a n = decide (ansV R p r n = a) := fun a => by unfold ansC; rw [hl, Bool.true_and]
      rw [f, f, f]
      rcases h3 with e | e | e <;> rw [e] <;> simp <;> omega
theorem nstep_rng {k : Int} {p r : Nat} {s : Int × Int × Int} (hp : p < nP R b) (hr : r < nR R b) (h1 : -1 ≤ s.1 ∧ s.1 < (nP R b : Int)) (h2 : ¬ s.1 = -1 → 0 ≤ s.2.2 ∧ s.2.2 ≤ 256) (hF : nF R b ≤ 8) : (-1 ≤ (nstep R b k p r s).1 ∧ (nstep R b k p r s).1 < (nP R b : Int)) ∧ (¬ (nstep R b k p r s).1 = -1 → 0 ≤ (nstep R b k p r s).2.2 ∧ (nstep R b k p r s).2.2 ≤ 256) ∧ ¬ (nstep R b k p r s).1 = -1 := by
  have hm : mst R b k p r ≤ 256 := by
    have := two_pow8 hF
    have a0 := cnt_le (ansC R b k p r 0) (2 ^ nF R b)
    have a1 := cnt_le (ansC R b k p r 1) (2 ^ nF R b)
    have a2 := cnt_le (ansC R b k p r 2) (2 ^ nF R b)
    unfold mst anN
    omega
  unfold nstep
  split
  · rename_i h
    exact ⟨h1, h2, h.1.1⟩
  · dsimp only
    exact ⟨by omega, fun _ => by omega, by omega⟩
/-- within the rows of one person -/
theorem selR_rng {k : Int} {p : Nat} {s : Int × Int × Int} (hp : p < nP R b) (h1 : -1 ≤ s.1 ∧ s.1 < (nP R b : Int)) (h2 : ¬ s.1 = -1 → 0 ≤ s.2.2 ∧ s.2.2 ≤ 256) (hF : nF R b ≤ 8) : ∀ n, n ≤ nR R b → (-1 ≤ (selR R b k p s n).1 ∧ (selR R b k p s n).1 < (nP R b : Int)) ∧ (¬ (selR R b k p s n).1 = -1 → 0 ≤ (selR R b k p s n).2.2 ∧ (selR R b k p s n).2.2 ≤ 256)
  | 0, _ => ⟨h1, h2⟩
  | n + 1, h => by
    obtain ⟨g1, g2⟩ := selR_rng hp h1 h2 hF n (by omega)
    obtain ⟨g3, g4, -⟩ := nstep_rng (k := k) (p := p) (r := n) hp (by omega) g1 g2 hF
    exact ⟨g3, g4⟩
theorem selP_rng {k : Int} {s : Int × Int × Int} (h1 : s.1 = -1) (hF : nF R b ≤ 8) : ∀ n, n ≤ nP R b → (-1 ≤ (selP R b k s n).1 ∧ (selP R b k s n).1 < (nP R b : Int)) ∧ (¬ (selP R b k s n).1 = -1 → 0 ≤ (selP R b k s n).2.2 ∧ (selP R b k s n).2.2 ≤ 256)
  | 0, h => ⟨by show -1 ≤ s.1 ∧ s.1 < _; omega, fun z => absurd h1 z⟩
  | n + 1, h => by
    obtain ⟨g1, g2⟩ := selP_rng (k := k) h1 hF n (by omega)
    exact selR_rng (by omega) g1 g2 hF _ (Nat.le_refl _)
theorem nstep_first {k : Int} {p r : Nat} {s : Int × Int × Int} (h : s.1 = -1) : nstep R b k p r s = ((p : Int), (r : Int), (mst R b k p r : Int)) := by
  unfold nstep
  rw [if_neg (fun z => z.1.1 h)]
theorem selR_eq {k : Int} {p : Nat} {s s' : Int × Int × Int} (h : s.1 = -1) (h' : s'.1 = -1) : ∀ n, 0 < n → selR R b k p s n = selR R b k p s' n
  | 0, hn => by omega
  | 1, _ => by
    show nstep R b k p 0 s = nstep R b k p 0 s'
    rw [nstep_first h, nstep_first h']
  | n + 2, _ => by
    show nstep R b k p (n + 1) (selR R b k p s (n + 1)) = nstep R b k p (n + 1) (selR R b k p s' (n + 1))
    rw [selR_eq h h' (n + 1) (by omega)]
theorem selP_eq {k : Int} {s s' : Int × Int × Int} (h : s.1 = -1) (h' : s'.1 = -1) (hr : 0 < nR R b) : ∀ n, 0 < n → selP R b k s n = selP R b k s' n
  | 0, hn => by omega
  | 1, _ => selR_eq h h' _ hr
  | n + 2, _ => by
    show selR R b k (n + 1) (selP R b k s (n + 1)) _ = selR R b k (n + 1) (selP R b k s' (n + 1)) _
    rw [selP_eq h h' hr (n + 1) (by omega)]
theorem selP_pos {k : Int} {s : Int × Int × Int} (h : s.1 = -1) (hr : 0 < nR R b) (hF : nF R b ≤ 8) {n : Nat} (hn : 0 < n) (hn2 : n ≤ nP R b) : ¬ (selP R b k s n).1 = -1 := by
  obtain ⟨n, rfl⟩ : ∃ m, n = m + 1 := ⟨n - 1, by omega⟩
  obtain ⟨g1, g2⟩ := selP_rng (b := b) (R := R) (k := k) h hF n (by omega)
  show ¬ (selR R b k n (selP R b k s n) (nR R b)).1 = -1
  obtain ⟨m, hm⟩ : ∃ m, nR R b = m + 1 := ⟨nR R b - 1, by omega⟩
  rw [hm]
  obtain ⟨g3, g4⟩ := selR_rng (k := k) (p := n) (s := selP R b k s n) (by omega) g1 g2 hF m (by omega)
  exact (nstep_rng (k := k) (p := n) (r := m) (by omega) (by omega) g3 g4 hF).2.2
theorem imax_nat {a c : Nat} (ha : a < 2147483648) (hc : c < 2147483648) : imax (a : Int) (c : Int) = ((max a c : Nat) : Int) := by
  unfold imax
  rw [n32_nat ha, n32_nat hc]
  by_cases q : (a : Int) < (c : Int)
  · rw [if_pos q]; congr 1; omega
  · rw [if_neg q]; congr 1; omega
/-! the class -/
theorem KnR_keep {k : Int} {C' : Mem} (hk : KnR t b k C R) (h : ∀ c j, c = 71 ∨ c = 72 ∨ c = 73 → C' c j = C c j) : KnR t b k C' R := by
  obtain ⟨k0, k1, k3, kj, k4, k5⟩ := hk
  refine ⟨(h _ _ (by omega)).trans k0, (h _ _ (by omega)).trans k1, (h _ _ (by omega)).trans k3, fun j hj => (h _ _ (by omega)).trans (kj j hj), fun w hw => ?_, (h _ _ (by omega)).trans k5⟩
  rw [← k4 w hw]
  exact sb_eq (h _ _ (by omega))
theorem W_an (ht : isT t) (hT : Town t b C R) {k : Int} (hk : KnR t b k C R) {p r : Nat} (hp : p < nP R b) (hr : r < nR R b) : W_sizeWith (t + 10) (((p : Int) * 12 + (r : Int)) * 4) C = some ((anN R b k p r 1 : Nat) : Int) ∧ W_sizeWith (t + 11) (((p : Int) * 12 + (r : Int)) * 4) C = some ((anN R b k p r 0 : Nat) : Int) := by
  obtain ⟨k0, -, -, -, k4, -⟩ := hk
  obtain ⟨h, hW, -, -, -, hB, -, hA, -⟩ := hT
  have hF := num_F h
  have hP := num_P h
  have hR := num_R h
  have h3 := pow_wd hF.2.2
  have eq : ((p : Int) * 12 + (r : Int)) * 4 = ((4 * (12 * p + r) : Nat) : Int) := by omega
  have fin : ∀ (c : Nat) (a : Int), (∀ w, w < 64 * nwd (nF R b) → sb C c (4 * (12 * p + r)) w = (isB R w && decide (ansV R p r w = a))) → cnt (fun w => sb C 73 0 w && sb C c (4 * (12 * p + r)) w) (64 * nwd (nF R b)) = anN R b k p r a := by
    intro c a hc
    unfold anN
    have e1 : cnt (fun w => sb C 73 0 w && sb C c (4 * (12 * p + r)) w) (64 * nwd (nF R b)) = cnt (ansC R b k p r a) (64 * nwd (nF R b)) := by
      refine cnt_congr (fun w hw => ?_)
      rw [k4 w hw, hc w hw]
      unfold ansC
      cases hl : lfB R b k w with
      | false => rfl
      | true => rw [lfB_base hl, Bool.true_and]
    rw [e1, cnt_cut h3.1 (fun w h1 h2 => ?_)]
    unfold ansC lfB isB
    rw [hB.2.1 w h1 (by omega)]
    rfl
  rw [eq]
  constructor
  · rw [W_sizeWith_eq ht k0 (wd := nwd (nF R b)) hW (by omega) (aJ1 ht).2.2.1 (by omega), fin (t + 10) 1 (fun w hw => (hA p r w hp hr hw).2.1)]
  · rw [W_sizeWith_eq ht k0 (wd := nwd (nF R b)) hW (by omega) (aJ1 ht).2.2.2 (by omega), fin (t + 11) 0 (fun w hw => (hA p r w hp hr hw).2.2)]
theorem A_choose_eq (ht : isT t) (hT : Town t b C R) {k : Int} (hk : KnR t b k C R) : Z (A_choose t C) (fun C' => (C' 74 1, C' 74 2, C' 74 3) = selP R b k (-1, C 74 2, C 74 3) (nP R b) ∧ ∀ c j, c ≠ 74 → C' c j = C c j) := by
  have hP := num_P hT.1
  have hR := num_R hT.1
  have hF := num_F hT.1
  have h6 := two_pow8 hF.2.2
  have ht2 : t ≤ 15 := by unfold isT at ht; omega
  have hsz := hk.2.2.2.2.2
  unfold A_choose
  rw [lt1_eq, lt1_eq, Z_bind_iff]
  refine it_Z (fun p st => st.1 = (p : Int) ∧ st.2 74 0 = (t : Int) ∧ (st.2 74 1, st.2 74 2, st.2 74 3) = selP R b k (-1, C 74 2, C 74 3) p ∧ ∀ c j, c ≠ 74 → st.2 c j = C c j) (nP R b) (by unfold FUEL; omega) ⟨rfl, by dsimp only; rw [up_k (by decide), up_eq], by dsimp only; rw [up_eq, up_k (by decide), up_k (by decide), up_k (by decide), up_k (by decide)]; rfl, fun c j hc => by dsimp only; rw [up_c hc, up_c hc]⟩ ?_ ?_
  · rintro p ⟨l, M⟩ hp ⟨el, g0, g1, gf⟩
    dsimp only at el g0 g1 gf
    subst el
    unfold A_choose_b12
    dsimp only
    rw [g0, chk_pos (isTI_of rfl ht), lt1_eq, tn_nat, gf _ _ (by omega), hP.2.1, n32_nat (by omega), n32_nat (by omega), if_pos (by omega), Z_bind_iff]
    obtain ⟨s1, s2⟩ := selP_rng (b := b) (R := R) (k := k) (s := (-1, C 74 2, C 74 3)) rfl hF.2.2 p (by omega)
    have J : Z (it (A_choose_b26 (p : Int)) FUEL (0, M)) (fun M2 => M2 74 0 = (t : Int) ∧ (M2 74 1, M2 74 2, M2 74 3) = selR R b k p (selP R b k (-1, C 74 2, C 74 3) p) (nR R b) ∧ ∀ c j, c ≠ 74 → M2 c j = C c j) := by
      refine it_Z (fun r st => st.1 = (r : Int) ∧ st.2 74 0 = (t : Int) ∧ (st.2 74 1, st.2 74 2, st.2 74 3) = selR R b k p (selP R b k (-1, C 74 2, C 74 3) p) r ∧ ∀ c j, c ≠ 74 → st.2 c j = C c j) (nR R b) (by unfold FUEL; omega) ⟨rfl, g0, g1, gf⟩ ?_ ?_
      · rintro r ⟨l, M2⟩ hr ⟨el, f0, f1, ff⟩
        dsimp only at el f0 f1 ff
        subst el
        obtain ⟨r1, r2⟩ := selR_rng (k := k) (p := p) hp s1 s2 hF.2.2 r (by omega)
        have hk2 : KnR t b k M2 R := KnR_keep hk (fun c j hc => ff c j (by omega))
        have hT2 : Town t b M2 R := Town_tw (fun c j q1 q2 => ff c j (by omega)) hT
        obtain ⟨w1, w0⟩ := W_an ht hT2 hk2 hp hr
        have hsum := an_sum hT.2.2.2.2.2.2.2.1 (k := k) hp hr (2 ^ nF R b) (pow_wd hF.2.2).1
        have b0 := cnt_le (ansC R b k p r 0) (2 ^ nF R b)
        have b1' := cnt_le (ansC R b k p r 1) (2 ^ nF R b)
        have b2 := cnt_le (ansC R b k p r 2) (2 ^ nF R b)
        have hcp := hT.2.2.1 p hp
        unfold A_choose_b26
        dsimp only
        rw [f0, chk_pos (isTI_of rfl ht), lt1_eq, tn_nat, ff t _ (by omega), hR.2.1, n32_nat (by omega), n32_nat (by omega), if_pos (by omega)]
        unfold T_place
        rw [bind_some', w1, bind_some', w0, bind_some', lt1_eq, ff 71 5 (by omega), hsz, jn_eq]
        have em : imax (imax ((anN R b k p r 1 : Nat) : Int) ((anN R b k p r 0 : Nat) : Int)) (((cnt (lfB R b k) (2 ^ nF R b) : Nat) : Int) - ((anN R b k p r 1 : Nat) : Int) - ((anN R b k p r 0 : Nat) : Int)) = (mst R b k p r : Int) := by
          have e2 : ((cnt (lfB R b k) (2 ^ nF R b) : Nat) : Int) - ((anN R b k p r 1 : Nat) : Int) - ((anN R b k p r 0 : Nat) : Int) = ((anN R b k p r 2 : Nat) : Int) := by
            unfold anN
            omega
          rw [e2, imax_nat (by unfold anN; omega) (by unfold anN; omega), imax_nat (by unfold anN; omega) (by unfold anN; omega)]
          rfl
        rw [em]
        have hm : mst R b k p r ≤ 256 := by unfold mst anN; omega
        have hnx : selR R b k p (selP R b k (-1, C 74 2, C 74 3) p) (r + 1) = nstep R b k p r (M2 74 1, M2 74 2, M2 74 3) := by rw [f1]; rfl
        rw [← f1] at r1 r2
        dsimp only at r1 r2
        have take : ¬ ((¬ M2 74 1 = -1 ∧ M2 74 3 ≤ (mst R b k p r : Int)) ∧ ¬ ((mst R b k p r : Int) = M2 74 3 ∧ R 96 (8 * b + p) < R 96 (8 * b + (M2 74 1).toNat))) → Z ((lt1 (up M2 74 1 (p : Int)) fun M_53 => lt1 (up M_53 74 2 (r : Int)) fun M_54 => lt1 (up M_54 74 3 (mst R b k p r : Int)) fun M_55 => some M_55).bind fun M_31 => lt1 ((r : Int) + 1) fun l4_56 => some (Sum.inl (l4_56, M_31))) (fun q => (∃ a' : Int × Mem, q = (Sum.inl a' : (Int × Mem) ⊕ Mem) ∧ a'.1 = ((r + 1 : Nat) : Int) ∧ a'.2 74 0 = (t : Int) ∧ (a'.2 74 1, a'.2 74 2, a'.2 74 3) = selR R b k p (selP R b k (-1, C 74 2, C 74 3) p) (r + 1) ∧ ∀ c j, c ≠ 74 → a'.2 c j = C c j) ∨ ∃ b_1, q = Sum.inr b_1 ∧ b_1 74 0 = (t : Int) ∧ (b_1 74 1, b_1 74 2, b_1 74 3) = selR R b k p (selP R b k (-1, C 74 2, C 74 3) p) (nR R b) ∧ ∀ c j, c ≠ 74 → b_1 c j = C c j) := by
          intro hno
          refine Z_of (Or.inl ⟨_, rfl, rfl, ?_, ?_, fun c j hc => ?_⟩)
          · dsimp only
            rw [up_k (by decide), up_k (by decide), up_k (by decide)]
            exact f0
          · dsimp only
            rw [hnx]
            unfold nstep
            rw [if_neg hno]
            rfl
          · dsimp only
            rw [up_c hc, up_c hc, up_c hc]
            exact ff c j hc
        have skip : ((¬ M2 74 1 = -1 ∧ M2 74 3 ≤ (mst R b k p r : Int)) ∧ ¬ ((mst R b k p r : Int) = M2 74 3 ∧ R 96 (8 * b + p) < R 96 (8 * b + (M2 74 1).toNat))) → Z ((some M2).bind fun M_31 => lt1 ((r : Int) + 1) fun l4_56 => some (Sum.inl (l4_56, M_31))) (fun q => (∃ a' : Int × Mem, q = (Sum.inl a' : (Int × Mem) ⊕ Mem) ∧ a'.1 = ((r + 1 : Nat) : Int) ∧ a'.2 74 0 = (t : Int) ∧ (a'.2 74 1, a'.2 74 2, a'.2 74 3) = selR R b k p (selP R b k (-1, C 74 2, C 74 3) p) (r + 1) ∧ ∀ c j, c ≠ 74 → a'.2 c j = C c j) ∨ ∃ b_1, q = Sum.inr b_1 ∧ b_1 74 0 = (t : Int) ∧ (b_1 74 1, b_1 74 2, b_1 74 3) = selR R b k p (selP R b k (-1, C 74 2, C 74 3) p) (nR R b) ∧ ∀ c j, c ≠ 74 → b_1 c j = C c j) := by
          intro hyes
          refine Z_of (Or.inl ⟨_, rfl, rfl, f0, ?_, ff⟩)
          dsimp only
          rw [hnx]
          unfold nstep
          rw [if_pos hyes]
        rw [n32_of (a := M2 74 1) (by omega) (by omega), n32_nat (a := mst R b k p r) (by omega)]
        by_cases z1 : M2 74 1 = -1
        · rw [if_neg (fun z => z.1 z1)]
          exact take (fun z => z.1.1 z1)
        · have z2 := r2 z1
          rw [n32_of (a := M2 74 3) (by omega) (by omega)]
          by_cases z3 : M2 74 3 ≤ (mst R b k p r : Int)
          · rw [if_pos ⟨z1, z3⟩]
            by_cases z4 : (mst R b k p r : Int) = M2 74 3
            · obtain ⟨q, hq⟩ : ∃ q : Nat, M2 74 1 = (q : Int) := ⟨(M2 74 1).toNat, by omega⟩
              have hcq := hT.2.2.1 q (by omega)
              rw [if_pos z4, chk_pos (by omega), chk_pos (by omega), tn_nat, ff (t + 1) _ (by omega), ff (t + 1) _ (by omega), hq, tn_nat, hcp.1, hcq.1, n32_of (a := R 96 (8 * b + p)) (by omega) (by omega), n32_of (a := R 96 (8 * b + q)) (by omega) (by omega)]
              rw [hq, tn_nat] at take skip
              by_cases z5 : R 96 (8 * b + p) < R 96 (8 * b + q)
              · rw [if_pos z5, bind_some', if_pos rfl]
                exact take (fun z => z.2 ⟨z4, z5⟩)
              · rw [if_neg z5, bind_some', if_neg (by decide)]
                exact skip ⟨⟨by omega, z3⟩, fun z => z5 z.2⟩
            · rw [if_neg z4, bind_some', if_neg (by decide)]
              exact skip ⟨⟨z1, z3⟩, fun z => z4 z.1⟩
          · rw [if_neg (fun z => z3 z.2)]
            exact take (fun z => z3 z.1.2)
      · rintro ⟨l, M2⟩ ⟨el, f0, f1, ff⟩
        dsimp only at el f0 f1 ff
        subst el
        unfold A_choose_b26
        dsimp only
        rw [f0, chk_pos (isTI_of rfl ht), lt1_eq, tn_nat, ff t _ (by omega), hR.2.1, if_neg (by omega)]
        exact Z_of ⟨_, rfl, f0, f1, ff⟩
    refine Z_mono J ?_
    rintro M2 ⟨f0, f1, ff⟩
    exact Z_of (Or.inl ⟨_, rfl, rfl, f0, f1, ff⟩)
  · rintro ⟨l, M⟩ ⟨el, g0, g1, gf⟩
    dsimp only at el g0 g1 gf
    subst el
    unfold A_choose_b12
    dsimp only
    rw [g0, chk_pos (isTI_of rfl ht), lt1_eq, tn_nat, gf _ _ (by omega), hP.2.1, if_neg (by omega)]
    exact Z_of ⟨_, rfl, Z_of ⟨g1, gf⟩⟩
/-! the reference -/
theorem M_part_eq (hb : b < 2) (h38 : R 81 38 = (b : Int)) (hT : Town t b C R) {k : Int} {p r : Nat} (hp : p < nP R b) (hr : r < nR R b) {M : Mem} (hM : ∀ c j, (84 ≤ c ∧ c ≤ 114 ∧ c ≠ 113) ∨ (c = 81 ∧ j = 38) → M c j = R c j) (h122 : ∀ w, w < 2 ^ nF R b → M 122 w = b1 (lfB R b k w)) : ∃ M', ((it M_next_b58 FUEL (0, M)).bind fun M_43 => it (M_next_b81 (p : Int) (r : Int)) FUEL (0, M_43)) = some M' ∧ M' 125 0 = ((anN R b k p r 0 : Nat) : Int) ∧ M' 125 1 = ((anN R b k p r 1 : Nat) : Int) ∧ M' 125 2 = ((anN R b k p r 2 : Nat) : Int) ∧ ∀ c j, c ≠ 125 → M' c j = M c j := by
  have hSR : SameR R M := SameR_of (fun c j q1 q2 q3 => hM c j (by omega))
  have hP := num_P hT.1
  have hR := num_R hT.1
  have hF := num_F hT.1
  have h6 := two_pow8 hF.2.2
  have h3 := pow_wd hF.2.2
  have e1 : it M_next_b58 FUEL (0, M) = some (wup M 125 0 3 (fun _ => 0)) := by
    refine it_for (fun i => ((i : Int), wup M 125 0 i (fun _ => 0))) 3 (by unfold FUEL; omega) (by rw [wup_0]; rfl) ?_ ?_
    · intro i hi
      unfold M_next_b58
      dsimp only
      rw [n32_nat (by omega), if_pos (by omega), chk_pos (by omega), lt1_eq, lt1_eq, tn_nat]
      have e := wup_s (M := M) (c := 125) (o := 0) (i := i) (f := fun _ => 0) (v := 0) rfl
      rw [Nat.zero_add] at e
      rw [e]
      rfl
    · rfl
  rw [e1, bind_some']
  have J : Z (it (M_next_b81 (p : Int) (r : Int)) FUEL (0, wup M 125 0 3 (fun _ => 0))) (fun M' => M' 125 0 = ((anN R b k p r 0 : Nat) : Int) ∧ M' 125 1 = ((anN R b k p r 1 : Nat) : Int) ∧ M' 125 2 = ((anN R b k p r 2 : Nat) : Int) ∧ ∀ c j, c ≠ 125 → M' c j = M c j) := by
    refine it_Z (fun w st => st.1 = (w : Int) ∧ st.2 125 0 = ((cnt (ansC R b k p r 0) w : Nat) : Int) ∧ st.2 125 1 = ((cnt (ansC R b k p r 1) w : Nat) : Int) ∧ st.2 125 2 = ((cnt (ansC R b k p r 2) w : Nat) : Int) ∧ ∀ c j, c ≠ 125 → st.2 c j = M c j) (2 ^ nF R b) (by unfold FUEL; omega) ⟨rfl, rfl, rfl, rfl, fun c j hc => wup_c (M := M) (c := 125) (o := 0) (n := 3) (f := fun _ => 0) hc⟩ ?_ ?_
    · rintro w ⟨l, M2⟩ hw ⟨el, g0, g1, g2, gf⟩
      dsimp only at el g0 g1 g2 gf
      subst el
      have hSR2 : SameR R M2 := SameR_of (fun c j q1 q2 q3 => (gf c j (by omega)).trans (hM c j (by omega)))
      have hT2 : Town t b C M2 := Town_keep hSR2 (fun _ _ _ _ => rfl) hT
      unfold M_next_b81
      dsimp only
      rw [M_worldMany_eq hb (((gf _ _ (by omega)).trans (hM _ _ (by omega))).trans h38) hT2.1, bind_some', keep_nF hSR2, n32_nat (by omega), n32_nat (by omega), if_pos (by omega), chk_pos (by omega), tn_nat, gf 122 _ (by omega), h122 w hw]
      have ec : ∀ a : Int, cnt (ansC R b k p r a) (w + 1) = cnt (ansC R b k p r a) w + (if ansC R b k p r a w = true then 1 else 0) := fun a => rfl
      cases hl : lfB R b k w with
      | false =>
        have f : ∀ a : Int, cnt (ansC R b k p r a) (w + 1) = cnt (ansC R b k p r a) w := fun a => by rw [ec]; unfold ansC; rw [hl]; rfl
        rw [if_neg (by decide), bind_some', lt1_eq]
        refine Z_of (Or.inl ⟨_, rfl, rfl, ?_, ?_, ?_, gf⟩)
        · rw [f]; exact g0
        · rw [f]; exact g1
        · rw [f]; exact g2
      | true =>
        have f : ∀ a : Int, ansC R b k p r a w = decide (ansV R p r w = a) := fun a => by unfold ansC; rw [hl, Bool.true_and]
        have ha := (hT.2.2.2.2.2.2.2.1 p r w hp hr (by omega)).1 (lfB_base hl)
        rw [if_pos (by decide), M_answerAt_eq (by omega) (by omega) (by omega), bind_some', keep_ansV hSR2]
        rcases ha with e | e | e
        · rw [e, chk_pos (by decide), lt1_eq, bind_some', lt1_eq]
          refine Z_of (Or.inl ⟨_, rfl, rfl, ?_, ?_, ?_, fun c j hc => ?_⟩)
          · rw [ec, f, e]; show up M2 125 0 (M2 125 0 + 1) 125 0 = _; rw [up_eq, g0]; rfl
          · rw [ec, f, e]; exact g1
          · rw [ec, f, e]; exact g2
          · show up M2 125 0 (M2 125 0 + 1) c j = _; rw [up_c hc]; exact gf c j hc
        · rw [e, chk_pos (by decide), lt1_eq, bind_some', lt1_eq]
          refine Z_of (Or.inl ⟨_, rfl, rfl, ?_, ?_, ?_, fun c j hc => ?_⟩)
          · rw [ec, f, e]; exact g0
          · rw [ec, f, e]; show up M2 125 1 (M2 125 1 + 1) 125 1 = _; rw [up_eq, g1]; rfl
          · rw [ec, f, e]; exact g2
          · show up M2 125 1 (M2 125 1 + 1) c j = _; rw [up_c hc]; exact gf c j hc
        · rw [e, chk_pos (by decide), lt1_eq, bind_some', lt1_eq]
          refine Z_of (Or.inl ⟨_, rfl, rfl, ?_, ?_, ?_, fun c j hc => ?_⟩)
          · rw [ec, f, e]; exact g0
          · rw [ec, f, e]; exact g1
          · rw [ec, f, e]; show up M2 125 2 (M2 125 2 + 1) 125 2 = _; rw [up_eq, g2]; rfl
          · show up M2 125 2 (M2 125 2 + 1) c j = _; rw [up_c hc]; exact gf c j hc
    · rintro ⟨l, M2⟩ ⟨el, g0, g1, g2, gf⟩
      dsimp only at el g0 g1 g2 gf
      subst el
      have hSR2 : SameR R M2 := SameR_of (fun c j q1 q2 q3 => (gf c j (by omega)).trans (hM c j (by omega)))
      have hT2 : Town t b C M2 := Town_keep hSR2 (fun _ _ _ _ => rfl) hT
      unfold M_next_b81
      dsimp only
      rw [M_worldMany_eq hb (((gf _ _ (by omega)).trans (hM _ _ (by omega))).trans h38) hT2.1, bind_some', keep_nF hSR2, if_neg (by omega)]
      exact Z_of ⟨_, rfl, g0, g1, g2, gf⟩
  obtain ⟨M', e2, h⟩ := J
  exact ⟨M', e2, h⟩
theorem M_sel_eq (hb : b < 2) (h38 : R 81 38 = (b : Int)) (hT : Town t b C R) {k : Int} {R' : Mem} (hL : LfR b k R R') (hsz : 0 < cnt (lfB R b k) (2 ^ nF R b)) : Z (it M_next_b27 FUEL ((-1), (-1), 0, 0, R')) (fun q => (q.1, q.2.1, q.2.2.1) = selP R b k (-1, -1, 0) (nP R b) ∧ ∀ c j, c ≠ 125 → q.2.2.2 c j = R' c j) := by
  obtain ⟨l1, l2, lf⟩ := hL
  have hP := num_P hT.1
  have hR := num_R hT.1
  have hF := num_F hT.1
  have h6 := two_pow8 hF.2.2
  have hcs := cnt_le (lfB R b k) (2 ^ nF R b)
  refine it_Z (fun p st => st.2.2.2.1 = (p : Int) ∧ (st.1, st.2.1, st.2.2.1) = selP R b k (-1, -1, 0) p ∧ ∀ c j, c ≠ 125 → st.2.2.2.2 c j = R' c j) (nP R b) (by unfold FUEL; omega) ⟨rfl, rfl, fun _ _ _ => rfl⟩ ?_ ?_
  · rintro p ⟨x1, x2, x3, l, M⟩ hp ⟨el, g1, gf⟩
    dsimp only at el g1 gf
    subst el
    have hM : ∀ c j, (84 ≤ c ∧ c ≤ 114 ∧ c ≠ 113) ∨ (c = 81 ∧ j = 38) → M c j = R c j := fun c j hc => (gf c j (by omega)).trans (lf c j (by omega))
    have hSR : SameR R M := SameR_of (fun c j q1 q2 q3 => hM c j (by omega))
    have hTM : Town t b C M := Town_keep hSR (fun _ _ _ _ => rfl) hT
    have h38M : M 81 38 = (b : Int) := (hM _ _ (by omega)).trans h38
    obtain ⟨s1, s2⟩ := selP_rng (b := b) (R := R) (k := k) (s := (-1, -1, 0)) rfl hF.2.2 p (by omega)
    unfold M_next_b27
    dsimp only
    rw [M_personMany_eq hb h38M hTM.1, bind_some', keep_nP hSR, n32_nat (by omega), n32_nat (by omega), gf 81 60 (by omega), l2, n32_nat (by omega), if_pos ⟨by omega, by omega⟩, Z_bind_iff]
    have J : Z (it (M_next_b46 (p : Int)) FUEL (x1, x2, x3, 0, M)) (fun q => (q.1, q.2.1, q.2.2.1) = selR R b k p (selP R b k (-1, -1, 0) p) (nR R b) ∧ ∀ c j, c ≠ 125 → q.2.2.2 c j = R' c j) := by
      refine it_Z (fun r st => st.2.2.2.1 = (r : Int) ∧ (st.1, st.2.1, st.2.2.1) = selR R b k p (selP R b k (-1, -1, 0) p) r ∧ ∀ c j, c ≠ 125 → st.2.2.2.2 c j = R' c j) (nR R b) (by unfold FUEL; omega) ⟨rfl, g1, gf⟩ ?_ ?_
      · rintro r ⟨y1, y2, y3, l, M2⟩ hr ⟨el, f1, ff⟩
        dsimp only at el f1 ff
        subst el
        have hM2 : ∀ c j, (84 ≤ c ∧ c ≤ 114 ∧ c ≠ 113) ∨ (c = 81 ∧ j = 38) → M2 c j = R c j := fun c j hc => (ff c j (by omega)).trans (lf c j (by omega))
        have hSR2 : SameR R M2 := SameR_of (fun c j q1 q2 q3 => hM2 c j (by omega))
        have hTM2 : Town t b C M2 := Town_keep hSR2 (fun _ _ _ _ => rfl) hT
        obtain ⟨r1, r2⟩ := selR_rng (k := k) (p := p) hp s1 s2 hF.2.2 r (by omega)
        rw [← f1] at r1 r2
        dsimp only at r1 r2
        obtain ⟨M3, e3, a0, a1, a2, f3⟩ := M_part_eq (k := k) hb h38 hT hp hr hM2 (fun w hw => (ff 122 w (by omega)).trans (l1 w hw))
        have hM3 : ∀ c j, (84 ≤ c ∧ c ≤ 114 ∧ c ≠ 113) ∨ (c = 81 ∧ j = 38) → M3 c j = R c j := fun c j hc => (f3 c j (by omega)).trans (hM2 c j hc)
        have hcp := hT.2.2.1 p hp
        have b0 := cnt_le (ansC R b k p r 0) (2 ^ nF R b)
        have b1' := cnt_le (ansC R b k p r 1) (2 ^ nF R b)
        have b2 := cnt_le (ansC R b k p r 2) (2 ^ nF R b)
        have u0 : anN R b k p r 0 ≤ 256 := by unfold anN; omega
        have u1 : anN R b k p r 1 ≤ 256 := by unfold anN; omega
        have u2 : anN R b k p r 2 ≤ 256 := by unfold anN; omega
        unfold M_next_b46
        dsimp only
        rw [M_rowMany_eq hb ((hM2 _ _ (by omega)).trans h38) hTM2.1, bind_some', keep_nR hSR2, n32_nat (by omega), n32_nat (by omega), if_pos (by omega)]
        have e4 : ∀ (g : Mem → Option ((Int × Int × Int × Int × Mem) ⊕ (Int × Int × Int × Mem))), ((it M_next_b58 FUEL (0, M2)).bind fun M_43 => (it (M_next_b81 (p : Int) (r : Int)) FUEL (0, M_43)).bind g) = g M3 := by
          intro g
          have := congrArg (fun o => o.bind g) e3
          rw [Option.bind_assoc] at this
          rw [this, bind_some']
        rw [e4]
        rw [show Int.toNat 1 = 1 from rfl, show Int.toNat 0 = 0 from rfl, show Int.toNat 2 = 2 from rfl, a0, a1, a2, n32_nat (a := anN R b k p r 0) (by omega), n32_nat (a := anN R b k p r 1) (by omega), n32_nat (a := anN R b k p r 2) (by omega)]
        have em : ((if ((anN R b k p r 1 : Nat) : Int) < ((anN R b k p r 0 : Nat) : Int) then some ((anN R b k p r 0 : Nat) : Int) else some ((anN R b k p r 1 : Nat) : Int))) = some ((max (anN R b k p r 1) (anN R b k p r 0) : Nat) : Int) := by
          by_cases q : ((anN R b k p r 1 : Nat) : Int) < ((anN R b k p r 0 : Nat) : Int)
          · rw [if_pos q]; congr 2; omega
          · rw [if_neg q]; congr 2; omega
        rw [em, bind_some', n32_nat (a := max _ _) (by omega)]
        have em2 : ((if ((max (anN R b k p r 1) (anN R b k p r 0) : Nat) : Int) < ((anN R b k p r 2 : Nat) : Int) then some ((anN R b k p r 2 : Nat) : Int) else some ((max (anN R b k p r 1) (anN R b k p r 0) : Nat) : Int))) = some (mst R b k p r : Int) := by
          unfold mst
          by_cases q : ((max (anN R b k p r 1) (anN R b k p r 0) : Nat) : Int) < ((anN R b k p r 2 : Nat) : Int)
          · rw [if_pos q]; congr 2; omega
          · rw [if_neg q]; congr 2; omega
        have hm : mst R b k p r ≤ 256 := by unfold mst; omega
        rw [em2, bind_some', n32_of (a := y1) (by omega) (by omega), n32_nat (a := mst R b k p r) (by omega)]
        have hnx : selR R b k p (selP R b k (-1, -1, 0) p) (r + 1) = nstep R b k p r (y1, y2, y3) := by rw [f1]; rfl
        have f4 : ∀ c j, c ≠ 125 → M3 c j = R' c j := fun c j hc => (f3 c j hc).trans (ff c j hc)
        have fin : ∀ (s : Int × Int × Int), s = nstep R b k p r (y1, y2, y3) → Z ((some s).bind fun q => match q with | (l3_95, l4_96, l5_97) => lt1 ((r : Int) + 1) fun l7_109 => some (Sum.inl (l3_95, l4_96, l5_97, l7_109, M3))) (fun q => (∃ a' : Int × Int × Int × Int × Mem, q = (Sum.inl a' : (Int × Int × Int × Int × Mem) ⊕ (Int × Int × Int × Mem)) ∧ a'.2.2.2.1 = ((r + 1 : Nat) : Int) ∧ (a'.1, a'.2.1, a'.2.2.1) = selR R b k p (selP R b k (-1, -1, 0) p) (r + 1) ∧ ∀ c j, c ≠ 125 → a'.2.2.2.2 c j = R' c j) ∨ ∃ b_1, q = Sum.inr b_1 ∧ (b_1.1, b_1.2.1, b_1.2.2.1) = selR R b k p (selP R b k (-1, -1, 0) p) (nR R b) ∧ ∀ c j, c ≠ 125 → b_1.2.2.2 c j = R' c j) := by
          rintro ⟨s1, s2, s3⟩ hs
          refine Z_of (Or.inl ⟨_, rfl, rfl, ?_, f4⟩)
          dsimp only
          rw [hnx, hs]
        by_cases z1 : y1 = -1
        · have hv : ∀ (e : Option Bool), e = some false ∨ e = some true → (e.bind fun c => if c = true then some (1 : Int) else some 0) = some 0 ∨ (e.bind fun c => if c = true then some (1 : Int) else some 0) = some 1 := by
            rintro e (rfl | rfl)
            · exact Or.inl rfl
            · exact Or.inr rfl
          rw [if_neg (show ¬ 0 ≤ y1 by omega)]
          have e5 : (if (mst R b k p r : Int) = n32 y3 then some false else some false) = some false := by split <;> rfl
          rw [e5, bind_some', if_neg (show ¬ (false = true) by decide), bind_some', if_neg (fun z => by omega)]
          refine fin _ ?_
          unfold nstep
          rw [if_neg (fun z => z.1.1 z1)]
        · have z2 := r2 z1
          obtain ⟨q, hq⟩ : ∃ q : Nat, y1 = (q : Int) := ⟨y1.toNat, by omega⟩
          subst hq
          have hcq := hT.2.2.1 q (by omega)
          rw [n32_of (a := y3) (by omega) (by omega), if_pos (show 0 ≤ (q : Int) by omega), hM3 81 38 (by omega), h38, chk_pos (by omega), chk_pos (by omega), tn_8, tn_8, hM3 96 _ (by omega), hM3 96 _ (by omega), n32_of (a := R 96 (8 * b + p)) (by omega) (by omega), n32_of (a := R 96 (8 * b + q)) (by omega) (by omega)]
          by_cases z4 : (mst R b k p r : Int) = y3
          · rw [if_pos z4]
            by_cases z5 : R 96 (8 * b + p) < R 96 (8 * b + q)
            · rw [if_pos z5, bind_some', if_pos rfl, bind_some', if_neg (fun z => absurd z.2.2 (by decide))]
              refine fin _ ?_
              unfold nstep
              rw [if_neg (fun z => z.2 ⟨z4, z5⟩)]
            · rw [if_neg z5, bind_some', if_neg (show ¬ (false = true) by decide), bind_some', if_pos ⟨by omega, by omega, by decide⟩]
              refine fin _ ?_
              unfold nstep
              rw [if_pos ⟨⟨by dsimp only; omega, by dsimp only; omega⟩, fun z => z5 z.2⟩]
          · rw [if_neg z4, bind_some', if_neg (show ¬ (false = true) by decide), bind_some']
            by_cases z3 : y3 ≤ (mst R b k p r : Int)
            · rw [if_pos ⟨by omega, z3, by decide⟩]
              refine fin _ ?_
              unfold nstep
              rw [if_pos ⟨⟨by omega, z3⟩, fun z => z4 z.1⟩]
            · rw [if_neg (fun z => z3 z.2.1)]
              refine fin _ ?_
              unfold nstep
              rw [if_neg (fun z => z3 z.1.2)]
      · rintro ⟨y1, y2, y3, l, M2⟩ ⟨el, f1, ff⟩
        dsimp only at el f1 ff
        subst el
        have hM2 : ∀ c j, (84 ≤ c ∧ c ≤ 114 ∧ c ≠ 113) ∨ (c = 81 ∧ j = 38) → M2 c j = R c j := fun c j hc => (ff c j (by omega)).trans (lf c j (by omega))
        have hSR2 : SameR R M2 := SameR_of (fun c j q1 q2 q3 => hM2 c j (by omega))
        have hTM2 : Town t b C M2 := Town_keep hSR2 (fun _ _ _ _ => rfl) hT
        unfold M_next_b46
        dsimp only
        rw [M_rowMany_eq hb ((hM2 _ _ (by omega)).trans h38) hTM2.1, bind_some', keep_nR hSR2, if_neg (by omega)]
        exact Z_of ⟨_, rfl, f1, ff⟩
    refine Z_mono J ?_
    rintro ⟨y1, y2, y3, M2⟩ ⟨f1, ff⟩
    exact Z_of (Or.inl ⟨_, rfl, rfl, f1, ff⟩)
  · rintro ⟨x1, x2, x3, l, M⟩ ⟨el, g1, gf⟩
    dsimp only at el g1 gf
    subst el
    have hM : ∀ c j, (84 ≤ c ∧ c ≤ 114 ∧ c ≠ 113) ∨ (c = 81 ∧ j = 38) → M c j = R c j := fun c j hc => (gf c j (by omega)).trans (lf c j (by omega))
    have hSR : SameR R M := SameR_of (fun c j q1 q2 q3 => hM c j (by omega))
    have hTM : Town t b C M := Town_keep hSR (fun _ _ _ _ => rfl) hT
    unfold M_next_b27
    dsimp only
    rw [M_personMany_eq hb ((hM _ _ (by omega)).trans h38) hTM.1, bind_some', keep_nP hSR, if_neg (fun z => by omega)]
    exact Z_of ⟨_, rfl, g1, gf⟩
end NEXT
theorem op_next {C R : Mem} (h : Inv C R) {x k : Int} (hx : n32 x = x) (hk : n32 k = k) : ∃ v C' R', X_next x k C = some (v, C') ∧ M_next x k R = some (v, R') ∧ Inv C' R' := by
  have h0 := h
  obtain ⟨t, b, ht, h12, h13, hb, h38, -, -, -, -, hT, hS, -⟩ := h
  obtain ⟨C', R', e1, e2, hI, hK, hL, hT1, hC, hSR, h38', hI1⟩ := looked h0 ht h12 hb h38 hT hS hk
  have hP := num_P hT.1
  have hR := num_R hT.1
  have hF := num_F hT.1
  have h6 := two_pow8 hF.2.2
  have ht2 : t ≤ 15 := by unfold isT at ht; omega
  have hcs := cnt_le (lfB R b k) (2 ^ nF R b)
  unfold X_next M_next
  rw [h12, chk_pos (isTI_of rfl ht), lt1_eq, tn_nat, e1, bind_some', hx, M_isIn_eq _ _ _ _ hx rfl rfl, bind_some']
  by_cases q : 0 ≤ x ∧ x ≤ 2
  · rw [if_pos q.1, if_pos q.2, if_pos q, if_neg nz1, e2, bind_some', hC 1 2 (by omega), h12, chk_pos (isTI_of rfl ht), lt1_eq, tn_nat, hC t _ (by omega), hP.2.1, hC t _ (by omega), hR.2.1, hK.2.2.2.2.2, n32_nat (by omega), n32_nat (by omega), n32_nat (by omega), chk_pos (isTI_of rfl ht), lt1_eq]
    by_cases z : 0 < nP R b ∧ 0 < nR R b ∧ 0 < cnt (lfB R b k) (2 ^ nF R b)
    · rw [if_pos (by omega), if_pos (by omega), if_neg (by omega), bind_some', if_neg (by decide)]
      obtain ⟨C2, e3, g1, g2⟩ := A_choose_eq ht hT1 hK
      obtain ⟨⟨y1, y2, y3, R2⟩, e4, f1, f2⟩ := M_sel_eq (C := C) hb h38 hT hL z.2.2
      dsimp only at f1 f2
      rw [e3, bind_some', e4, bind_some']
      have es : selP R b k (-1, C' 74 2, C' 74 3) (nP R b) = selP R b k (-1, -1, 0) (nP R b) := selP_eq rfl rfl z.2.1 _ z.1
      rw [es, ← f1] at g1
      have hp1 := selP_pos (b := b) (R := R) (k := k) (s := (-1, -1, 0)) rfl z.2.1 hF.2.2 z.1 (Nat.le_refl _)
      obtain ⟨r1, r2⟩ := selP_rng (b := b) (R := R) (k := k) (s := (-1, -1, 0)) rfl hF.2.2 (nP R b) (Nat.le_refl _)
      rw [← f1] at hp1 r1 r2
      dsimp only at hp1 r1 r2 ⊢
      have k1 : C2 74 1 = y1 := congrArg Prod.fst g1
      have k2 : C2 74 2 = y2 := congrArg (fun z => z.2.1) g1
      have k3 : C2 74 3 = y3 := congrArg (fun z => z.2.2) g1
      rw [k1, k2, k3, n32_of (a := y1) (by omega) (by omega), if_neg (show ¬ y1 < 0 by omega)]
      have hI2 : Inv C2 R2 := Inv_q (fun c j hc => (g2 c j (by omega)).trans (hC c j hc)) (fun c j hp => by
        have hc : c ≠ 125 := by rintro rfl; simp [prR] at hp
        rw [f2 c j hc]
        refine hL.2.2 c j ?_
        rintro (rfl | rfl | ⟨rfl, rfl⟩) <;> simp [prR] at hp) h0
      by_cases z1 : x = 0
      · simp only [if_pos z1]
        exact ⟨_, _, _, rfl, rfl, hI2⟩
      · simp only [if_neg z1]
        by_cases z2 : x = 1
        · simp only [if_pos z2]
          exact ⟨_, _, _, rfl, rfl, hI2⟩
        · simp only [if_neg z2]
          exact ⟨_, _, _, rfl, rfl, hI2⟩
    · have hX : ((if ¬ ((nP R b : Nat) : Int) = 0 then (if ¬ ((nR R b : Nat) : Int) = 0 then (if ((cnt (lfB R b k) (2 ^ nF R b) : Nat) : Int) = 0 then some true else some false) else some true) else some true)) = some true := by
        by_cases z1 : nP R b = 0
        · rw [if_neg (by omega)]
        · rw [if_pos (by omega)]
          by_cases z2 : nR R b = 0
          · rw [if_neg (by omega)]
          · rw [if_pos (by omega), if_pos (by omega)]
      rw [hX, bind_some', if_pos rfl]
      have e4 : ∃ R2, it M_next_b27 FUEL ((-1), (-1), 0, 0, R') = some (-1, -1, 0, R2) ∧ ∀ c j, c ≠ 125 → R2 c j = R' c j := by
        have hN' : NumR t b C R' := (Town_keep hSR (fun _ _ _ _ => rfl) hT).1
        by_cases z1 : 0 < nP R b ∧ 0 < cnt (lfB R b k) (2 ^ nF R b)
        · have hr0 : nR R b = 0 := by omega
          have L : it M_next_b27 FUEL ((-1), (-1), 0, 0, R') = some ((-1), (-1), 0, R') := by
            refine it_for (fun p => ((-1), (-1), 0, (p : Int), R')) (nP R b) (by unfold FUEL; omega) rfl ?_ ?_
            · intro p hp
              unfold M_next_b27
              dsimp only
              rw [M_personMany_eq hb h38' hN', bind_some', keep_nP hSR, n32_nat (by omega), n32_nat (by omega), hL.2.1, n32_nat (by omega), if_pos ⟨by omega, by omega⟩]
              have L2 := it_last (body := M_next_b46 (p : Int)) (a := ((-1), (-1), 0, 0, R')) (b := ((-1), (-1), 0, R')) (f := FUEL - 1) (by
                unfold M_next_b46
                dsimp only
                rw [M_rowMany_eq hb h38' hN', bind_some', keep_nR hSR, hr0, if_neg (by decide)])
              rw [show it (M_next_b46 (p : Int)) FUEL ((-1), (-1), 0, 0, R') = _ from L2]
              rfl
            · unfold M_next_b27
              dsimp only
              rw [M_personMany_eq hb h38' hN', bind_some', keep_nP hSR, if_neg (fun z => by omega)]
          exact ⟨R', L, fun _ _ _ => rfl⟩
        · have L := it_last (body := M_next_b27) (a := ((-1), (-1), 0, 0, R')) (b := ((-1), (-1), 0, R')) (f := FUEL - 1) (by
            unfold M_next_b27
            dsimp only
            rw [M_personMany_eq hb h38' hN', bind_some', keep_nP hSR, n32_nat (by omega), hL.2.1, n32_nat (by omega), if_neg (fun z2 => z1 ⟨by have := z2.1; rw [n32_0] at this; omega, by omega⟩)])
          exact ⟨R', L, fun _ _ _ => rfl⟩
      obtain ⟨R2, e5, f2⟩ := e4
      rw [e5, bind_some']
      refine ⟨_, _, _, rfl, rfl, Inv_q hC (fun c j hp => ?_) h0⟩
      have hc : c ≠ 125 := by rintro rfl; simp [prR] at hp
      rw [f2 c j hc]
      refine hL.2.2 c j ?_
      rintro (rfl | rfl | ⟨rfl, rfl⟩) <;> simp [prR] at hp
  · rw [if_neg q, if_pos (show n32 0 = 0 by decide)]
    by_cases q1 : 0 ≤ x
    · rw [if_pos q1, if_neg (fun z => q ⟨q1, z⟩), bind_some', if_pos rfl]
      exact ⟨_, _, _, rfl, rfl, hI1⟩
    · rw [if_neg q1, bind_some', if_pos rfl]
      exact ⟨_, _, _, rfl, rfl, hI1⟩
