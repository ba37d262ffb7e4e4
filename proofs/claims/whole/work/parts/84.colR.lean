/-! ===== the reference's column is the run ===== -/
theorem PS_1 {Q : Nat → (Nat → Bool) → Prop} {n : Nat} {st : List (Nat → Bool)} (h : PS Q (n + 1) st) : ∃ x s, st = x :: s ∧ Q n x ∧ PS Q n s := by
  cases st with
  | nil => exact absurd h (by simp [PS])
  | cons x s => exact ⟨x, s, rfl, h.1, h.2⟩
theorem eRun_s {F : Nat} {B : Nat → Bool} {kn : Nat → Nat} {rf : Nat → Nat → Bool} {f g : Nat → Int} {lo n : Nat} : eRun F B kn rf f g lo (n + 1) = eOp F B kn rf (f (lo + n)) (g (lo + n)).toNat (eRun F B kn rf f g lo n) := rfl
/-- what a height's step says of the height and the step -/
theorem hS_cases {c n n2 : Nat} (hc : 1 ≤ c ∧ c ≤ 8) (h : hS (c : Int) n = some n2) : ((c = 1 ∨ c = 2) ∧ n < 25 ∧ n2 = n + 1) ∨ ((c = 3 ∨ c = 4 ∨ c = 5) ∧ 1 ≤ n ∧ n2 = n) ∨ ((c = 6 ∨ c = 7 ∨ c = 8) ∧ 2 ≤ n ∧ n2 + 1 = n) := by
  unfold hS at h
  split at h
  · split at h
    · cases h; omega
    · cases h
  · split at h
    · split at h
      · cases h; omega
      · cases h
    · split at h
      · cases h; omega
      · cases h
section COLR
variable {b F : Nat} {R : Mem}
def knR (b : Nat) (R : Mem) (p : Nat) : Nat := (R 97 (8 * b + p)).toNat
def SgR (b F lo len : Nat) (R : Mem) : Prop := ∀ i, i < len → ∃ c o : Nat, R 106 (lo + i) = (c : Int) ∧ R 107 (lo + i) = (o : Int) ∧ (1 ≤ c ∧ c ≤ 8) ∧ (c = 1 → o < 8) ∧ (c = 2 → o < 12 ∧ ∀ w, w < 2 ^ F → R 112 (256 * o + w) = b1 (rowI R o w)) ∧ (c = 4 ∨ c = 5 → o < 8 ∧ R 97 (8 * b + o) = (knR b R o : Int) ∧ knR b R o < 256 ∧ ∀ w, w < 2 ^ F → R 111 w = b1 (isB R w))
theorem col_eq (h : WmR b F R) {u lo len : Nat} (hu : u < 34) (h104 : R 104 u = (lo : Int)) (h105 : R 105 u = ((lo + len : Nat) : Int)) (hlen : lo + len ≤ 1800) (hs : SgR b F lo len R) (hh : hR (R 106) lo len 0 = some 1) : Z (M_layColumn (u : Int) R) (fun M' => (∀ c k, c ≠ 113 → M' c k = R c k) ∧ ∃ x, eRun F (isB R) (knR b R) (rowI R) (R 106) (R 107) lo len = [x] ∧ QR F M' 0 x) := by
  have h8 := two_pow8 h.2.2.2
  unfold M_layColumn
  rw [chk_pos (by omega), lt1_eq, tn_nat, h104, Z_bind_iff]
  refine Z_mono (it_Z (J := fun M' => (∀ c k, c ≠ 113 → M' c k = R c k) ∧ ∃ x, eRun F (isB R) (knR b R) (rowI R) (R 106) (R 107) lo len = [x] ∧ QR F M' 0 x) (fun k st => st.2.1 = ((lo + k : Nat) : Int) ∧ ∃ n : Nat, hR (R 106) lo k 0 = some n ∧ st.1 = (n : Int) ∧ PS (QR F st.2.2) n (eRun F (isB R) (knR b R) (rowI R) (R 106) (R 107) lo k) ∧ ∀ c k, c ≠ 113 → st.2.2 c k = R c k) len (by unfold FUEL; omega) ⟨rfl, 0, rfl, rfl, trivial, fun _ _ _ => rfl⟩ ?_ ?_) (fun M' h => Z_of h)
  · rintro k ⟨l2, l3, M⟩ hk ⟨e3, n, en, e2, hps, hf⟩
    dsimp only at e3 e2 hps hf
    subst e3 e2
    obtain ⟨c, o, hc, ho, hc18, v1, v2, v3⟩ := hs k hk
    have hwm : WmR b F M := ⟨h.1, by rw [hf _ _ (by decide)]; exact h.2.1, by rw [hf _ _ (by decide)]; exact h.2.2.1, h.2.2.2⟩
    obtain ⟨n2, en2⟩ := hR_pre (f := R 106) (lo := lo) (h := 0) (x := 1) (len - (k + 1)) (k + 1) (by rw [show k + 1 + (len - (k + 1)) = len by omega]; exact hh)
    have en3 : (hR (R 106) lo k 0).bind (hS (R 106 (lo + k))) = some n2 := en2
    rw [en, bind_some', hc] at en3
    have hn25 := hR_le (by omega) en
    have eN := eRun_s (F := F) (B := isB R) (kn := knR b R) (rf := rowI R) (f := R 106) (g := R 107) (lo := lo) (n := k)
    rw [hc, ho, show Int.toNat (o : Int) = o from rfl] at eN
    unfold M_layColumn_b9
    dsimp only
    rw [tn_nat, hf 105 _ (by decide), h105, n32_nat (by omega), n32_nat (by omega), if_pos (by omega), chk_pos (by omega), lt1_eq, lt1_eq, tn_nat, hf 106 _ (by decide), hc, hf 107 _ (by decide), ho, n32_nat (a := c) (by omega), Z_bind_iff]
    have fin : ∀ (n3 : Nat) (M2 : Mem), n3 = n2 → PS (QR F M2) n2 (eRun F (isB R) (knR b R) (rowI R) (R 106) (R 107) lo (k + 1)) → (∀ c k, c ≠ 113 → M2 c k = R c k) → Z (some (Sum.inl ((n3 : Int), ((lo + k : Nat) : Int) + 1, M2)) : Option ((Int × Int × Mem) ⊕ Mem)) (fun r => (∃ a', r = Sum.inl a' ∧ a'.2.1 = ((lo + (k + 1) : Nat) : Int) ∧ ∃ n : Nat, hR (R 106) lo (k + 1) 0 = some n ∧ a'.1 = (n : Int) ∧ PS (QR F a'.2.2) n (eRun F (isB R) (knR b R) (rowI R) (R 106) (R 107) lo (k + 1)) ∧ ∀ c k, c ≠ 113 → a'.2.2 c k = R c k) ∨ ∃ b_1, r = Sum.inr b_1 ∧ (∀ c k, c ≠ 113 → b_1 c k = R c k) ∧ ∃ x, eRun F (isB R) (knR b R) (rowI R) (R 106) (R 107) lo len = [x] ∧ QR F b_1 0 x) := by
      rintro n3 M2 rfl q1 q2
      exact Z_of (Or.inl ⟨_, rfl, rfl, n3, en2, rfl, q1, q2⟩)
    rcases hS_cases hc18 en3 with ⟨hcc, hn, rfl⟩ | ⟨hcc, hn, hn2⟩ | ⟨hcc, hn, hn2⟩
    · rw [if_pos (by omega), Z_bind_iff]
      have hpx : Z (it (M_layColumn_b50 (n : Int) (c : Int) (o : Int)) FUEL (0, M)) (fun M' => onlyW 113 (256 * n) (2 ^ F) M M' ∧ ∀ x s, eRun F (isB R) (knR b R) (rowI R) (R 106) (R 107) lo (k + 1) = x :: s → s = eRun F (isB R) (knR b R) (rowI R) (R 106) (R 107) lo k ∧ QR F M' n x) := by
        rw [eN]
        rcases hcc with rfl | rfl
        · refine Z_mono (r_push hwm hn (Or.inl ⟨rfl, v1 rfl, rfl⟩)) ?_
          rintro M' ⟨q1, q2⟩
          refine ⟨q1, fun x s e => ?_⟩
          unfold eOp at e
          rw [if_pos (by decide)] at e
          cases e
          exact ⟨rfl, q2⟩
        · refine Z_mono (r_push hwm hn (x := rowI R o) (Or.inr ⟨rfl, (v2 rfl).1, fun w hw => by rw [hf _ _ (by decide)]; exact (v2 rfl).2 w hw⟩)) ?_
          rintro M' ⟨q1, q2⟩
          refine ⟨q1, fun x s e => ?_⟩
          unfold eOp at e
          rw [if_neg (by decide), if_pos (by decide)] at e
          cases e
          exact ⟨rfl, q2⟩
      refine Z_mono hpx ?_
      rintro M2 ⟨q1, q2⟩
      rw [lt1_eq]
      refine Z_of ?_
      rw [lt1_eq]
      refine fin (n + 1) M2 rfl ?_ (fun a j ha => (onlyW_c q1 ha).trans (hf a j ha))
      have hsh : ∃ x s, eRun F (isB R) (knR b R) (rowI R) (R 106) (R 107) lo (k + 1) = x :: s := by
        rw [eN]
        unfold eOp
        rcases hcc with rfl | rfl
        · exact ⟨_, _, rfl⟩
        · exact ⟨_, _, rfl⟩
      obtain ⟨x, s, e⟩ := hsh
      obtain ⟨z1, z2⟩ := q2 x s e
      rw [e, z1]
      exact ⟨z2, PS_mono (fun l hl y hy => QR_o h.2.2.2 hy q1 (by omega) (by omega)) hps⟩
    · have hn2' := hn2.symm
      subst hn2'
      obtain ⟨m, rfl⟩ : ∃ m, n = m + 1 := ⟨n - 1, by omega⟩
      obtain ⟨x, s, es, hx, hs2⟩ := PS_1 hps
      rw [es] at eN
      rw [if_neg (by omega)]
      rcases hcc with rfl | hcc
      · rw [if_pos (by decide), Z_bind_iff]
        refine Z_mono (r_not hwm (by omega) hx) ?_
        rintro M2 ⟨q1, q2⟩
        refine Z_of ?_
        rw [lt1_eq]
        refine fin (m + 1) M2 rfl ?_ (fun a j ha => (onlyW_c q1 ha).trans (hf a j ha))
        rw [eN]
        exact ⟨q2, PS_mono (fun l hl y hy => QR_o h.2.2.2 hy q1 (by omega) (by omega)) hs2⟩
      · obtain ⟨w1, w2, w3, w4⟩ := v3 hcc
        have eI : ∀ w, isB M w = isB R w := fun w => by unfold isB; rw [hf _ _ (by decide)]
        have hmd := fun hd => r_minds (M := M) hwm (fun w hw => by rw [hf _ _ (by decide), eI]; exact w4 w hw) (n := m) (p := o) (kn := knR b R o) (by omega) w1 w3 (by rw [hf _ _ (by decide)]; exact w2) hx hd
        rw [if_neg (by omega), if_pos (by omega), show ((m + 1 : Nat) : Int) - 1 = (m : Int) by omega]
        have last : ∀ M2, onlyW 113 (256 * m) 512 M M2 → PS (QR F M2) (m + 1) (eRun F (isB R) (knR b R) (rowI R) (R 106) (R 107) lo (k + 1)) → Z (lt1 (((lo + k : Nat) : Int) + 1) fun l3_96 => (some (Sum.inl (((m + 1 : Nat) : Int), l3_96, M2)) : Option ((Int × Int × Mem) ⊕ Mem))) (fun r => (∃ a', r = Sum.inl a' ∧ a'.2.1 = ((lo + (k + 1) : Nat) : Int) ∧ ∃ n : Nat, hR (R 106) lo (k + 1) 0 = some n ∧ a'.1 = (n : Int) ∧ PS (QR F a'.2.2) n (eRun F (isB R) (knR b R) (rowI R) (R 106) (R 107) lo (k + 1)) ∧ ∀ c k, c ≠ 113 → a'.2.2 c k = R c k) ∨ ∃ b_1, r = Sum.inr b_1 ∧ (∀ c k, c ≠ 113 → b_1 c k = R c k) ∧ ∃ x, eRun F (isB R) (knR b R) (rowI R) (R 106) (R 107) lo len = [x] ∧ QR F b_1 0 x) := by
          intro M2 q1 q2
          rw [lt1_eq]
          exact fin (m + 1) M2 rfl q2 (fun a j ha => (onlyW_c q1 ha).trans (hf a j ha))
        have low : ∀ M2, onlyW 113 (256 * m) 512 M M2 → PS (QR F M2) m s := fun M2 q1 => PS_mono (fun l hl y hy w hw => by rw [q1 113 _ (by omega)]; exact hy w hw) hs2
        rcases hcc with rfl | rfl
        · rw [if_pos (by decide), bind_some', Z_bind_iff]
          refine Z_mono (hmd true) ?_
          rintro M2 ⟨q1, q2⟩
          refine Z_of (last M2 q1 ?_)
          rw [eN]
          refine ⟨?_, low M2 q1⟩
          simp only [eI, ↓reduceIte] at q2
          exact q2
        · rw [if_neg (by decide), bind_some', Z_bind_iff]
          refine Z_mono (hmd false) ?_
          rintro M2 ⟨q1, q2⟩
          refine Z_of (last M2 q1 ?_)
          rw [eN]
          refine ⟨?_, low M2 q1⟩
          simp only [eI, Bool.false_eq_true, ↓reduceIte] at q2
          exact q2
    · obtain ⟨m, rfl⟩ : ∃ m, n = m + 2 := ⟨n - 2, by omega⟩
      obtain ⟨x, s, es, hx, hs2⟩ := PS_1 hps
      obtain ⟨y, s2, rfl, hy, hs3⟩ := PS_1 hs2
      rw [es] at eN
      rw [if_neg (by omega), if_neg (by omega), if_neg (by omega), show ((m + 2 : Nat) : Int) - 1 = ((m + 1 : Nat) : Int) by omega, Z_bind_iff]
      refine Z_mono (r_both hwm (by omega) hcc hy hx) ?_
      rintro M2 ⟨q1, q2⟩
      rw [lt1_eq]
      refine Z_of ?_
      rw [lt1_eq, show ((m + 2 : Nat) : Int) + -1 = ((m + 1 : Nat) : Int) by omega]
      refine fin (m + 1) M2 (by omega) ?_ (fun a j ha => (onlyW_c q1 ha).trans (hf a j ha))
      obtain rfl : n2 = m + 1 := by omega
      rw [eN]
      rcases hcc with rfl | rfl | rfl
      · exact ⟨q2, PS_mono (fun l hl y hy => QR_o h.2.2.2 hy q1 (by omega) (by omega)) hs3⟩
      · exact ⟨q2, PS_mono (fun l hl y hy => QR_o h.2.2.2 hy q1 (by omega) (by omega)) hs3⟩
      · exact ⟨q2, PS_mono (fun l hl y hy => QR_o h.2.2.2 hy q1 (by omega) (by omega)) hs3⟩
  · rintro ⟨l2, l3, M⟩ ⟨e3, n, en, e2, hps, hf⟩
    dsimp only at e3 e2 hps hf
    subst e3 e2
    rw [hh] at en
    cases en
    unfold M_layColumn_b9
    dsimp only
    rw [tn_nat, hf 105 _ (by decide), h105, if_neg (by omega)]
    obtain ⟨x, s, es, hx, hs2⟩ := PS_1 hps
    cases s with
    | nil => exact Z_of ⟨_, rfl, hf, x, es, hx⟩
    | cons z s => exact absurd hs2 (by simp [PS])
end COLR
