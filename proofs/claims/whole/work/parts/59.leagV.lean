/-! ===== leagues: the reference's answer ===== -/
def rL (N : Nat) (R : Mem) (k : Int) (w : Nat) (v : Int) : Prop := (v = -1 ∧ ∀ m, ¬ gM N R k w m) ∨ ((∃ m, gM N R k w m ∧ (npM m N : Int) = v) ∧ ∀ m, gM N R k w m → v ≤ (npM m N : Int))
section LV
variable {t b : Nat} {C R : Mem}
theorem opW_S {k : Int} {w n : Nat} (h : opW R k w n = true) : n < nS R := by
  unfold opW wB at h
  simp only [Bool.and_eq_true, decide_eq_true_eq] at h
  exact h.1.1
theorem gM_met {N m : Nat} (eS : nS R = m) (hm : m ≤ 40) {k : Int} {w : Nat} {m' : Nat → Int} : gM N R k w m' ↔ (MT N m' ∧ metB N (cnt (opW R k w) m) (fun i => sP R (clG (opW R k w) m i)) m' = true) := by
  have hle := cnt_le (opW R k w) m
  unfold metB
  constructor
  · rintro ⟨g1, g2⟩
    refine ⟨g1, allB_iff.mpr (fun i hi => ?_)⟩
    obtain ⟨c1, c2, c3⟩ := clG_mem hi
    exact g2 _ (by omega) c2
  · rintro ⟨g1, g2⟩
    refine ⟨g1, fun n hn ho => ?_⟩
    have hnm := opW_S ho
    rw [eS] at hnm
    have h9 : cnt (opW R k w) n < cnt (opW R k w) m := cnt_lt hnm ho
    have := allB_iff.mp g2 _ h9
    dsimp only at this
    rw [clG_get (p := opW R k w) ho hnm] at this
    exact this
theorem lone_eq {m : Nat} (hm : m ≤ 40) (eS : R 81 57 = (m : Int)) (hS : SayR 42 116 117 118 119 120 121 0 m t b C R) (hT : Town t b C R) {M : Mem} (hM : ∀ c j, (c = 112 ∨ (116 ≤ c ∧ c ≤ 121) ∨ (c = 81 ∧ j = 57)) → M c j = R c j) {k : Int} (hk : n32 k = k) {w : Nat} (hw : w < 2 ^ nF R b) (hwb : isB R w = true) : Z (it (M_leaguesOf_b7 (w : Int) k) FUEL (0, up M 81 70 0)) (fun M' => M' 81 70 = ((cnt (opW R k w) m : Nat) : Int) ∧ (∀ i, i < cnt (opW R k w) m → M' 129 i = ((sP R (clG (opW R k w) m i) : Nat) : Int) ∧ sP R (clG (opW R k w) m i) < 256) ∧ ∀ c j, c ≠ 129 → ¬ (c = 81 ∧ j = 70) → M' c j = M c j) := by
  have hF := num_F hT.1
  have h6 := two_pow8 hF.2.2
  have hR := num_R hT.1
  have hP := num_P hT.1
  have h5 := two_pow8 hP.2.2
  have eN : nS R = m := by unfold nS; rw [eS]; rfl
  refine it_Z (fun i st => st.1 = (i : Int) ∧ st.2 81 70 = ((cnt (opW R k w) i : Nat) : Int) ∧ (∀ n, n < i → opW R k w n = true → st.2 129 (cnt (opW R k w) n) = R 116 n) ∧ ∀ c j, c ≠ 129 → ¬ (c = 81 ∧ j = 70) → st.2 c j = M c j) m (by unfold FUEL; omega) ⟨rfl, by dsimp only; rw [up_eq]; rfl, fun n hn => by omega, fun c j h1 h2 => by dsimp only; rw [up_at, if_neg h2]⟩ ?_ ?_
  · rintro n ⟨l, M1⟩ hn ⟨el, hL, h129, hf⟩
    dsimp only at el hL h129 hf
    subst el
    have g : ∀ c j, (c = 112 ∨ (116 ≤ c ∧ c ≤ 121) ∨ (c = 81 ∧ j = 57)) → M1 c j = R c j := fun c j hc => (hf c j (by omega) (by omega)).trans (hM c j hc)
    obtain ⟨⟨-, s2, s3⟩, ⟨-, r2, r3⟩, -, -, -, -, -⟩ := hS n hn
    obtain ⟨-, -, ⟨-, s5⟩, -⟩ := hS n hn
    rw [Nat.zero_add] at s2 s3 r2 r3 s5
    have hcl := cnt_le (opW R k w) n
    have ec : cnt (opW R k w) (n + 1) = cnt (opW R k w) n + (if opW R k w n = true then 1 else 0) := rfl
    have e116 : R 116 n = (sP R n : Int) := by unfold sP; omega
    have h121 : R 121 n = 0 ∨ R 121 n = 1 := by
      obtain ⟨-, -, -, -, -, -, -⟩ := hS n hn
      have z := hS n hn
      rw [Nat.zero_add] at z
      first | exact z.2.2.1.2 | exact z.2.2.2.2.2.1
    unfold M_leaguesOf_b7
    dsimp only
    rw [g 81 57 (by omega), eS, n32_nat (by omega), n32_nat (by omega), if_pos (by omega), M_counts_eq hS (fun j => g _ _ (by omega)) (fun j => g _ _ (by omega)) hn hm hk, bind_some']
    have hcond : ((if ¬ n32 (b1 (ct R k n)) = 0 then chk (0 ≤ (n : Int) ∧ (n : Int) < 40) <| if ¬ n32 (M1 121 (Int.toNat (n : Int))) = 0 then (M_bitsOf (M1 116 (Int.toNat (n : Int))) M1).bind fun r_23 => if 2 ≤ n32 r_23 then some true else some false else some false else some false)) = some (wB R k n) := by
      have hp := popc_le (sP R n)
      have ew : wB R k n = (ct R k n && (decide (R 121 n = 1) && decide (2 ≤ popc (sP R n)))) := by
        unfold wB
        rw [eN, decide_eq_true hn]
        rfl
      rw [ew]
      cases ct R k n with
      | false => rfl
      | true =>
        rw [show b1 true = 1 from rfl, if_pos nz1, chk_pos (by omega), tn_nat, g 121 n (by omega), g 116 n (by omega), e116, popc_eq_s (by omega), bind_some', n32_nat (by omega)]
        rcases h121 with e | e
        · rw [e]; rfl
        · rw [e, if_pos nz1]
          by_cases y : 2 ≤ popc (sP R n)
          · rw [if_pos (by omega), decide_eq_true y]; rfl
          · rw [if_neg (by omega), decide_eq_false y]; rfl
    rw [hcond, bind_some']
    have hrow := (hT.2.2.2.2.2.2.1 (R 117 n).toNat w (by omega) hw hwb).1
    cases hW : wB R k n with
    | false =>
      have ho : opW R k w n = false := by unfold opW; rw [hW]; rfl
      rw [if_neg (by decide), bind_some', lt1_eq]
      refine Z_of (Or.inl ⟨_, rfl, rfl, ?_, fun x hx hox => ?_, hf⟩)
      · dsimp only; rw [ec, ho]; exact hL
      · have : ¬ x = n := by rintro rfl; rw [ho] at hox; cases hox
        exact h129 x (by omega) hox
    | true =>
      rw [if_pos rfl, chk_pos (by omega), tn_nat, g 117 n (by omega)]
      unfold M_spot
      rw [bind_some', show 256 * R 117 n + (w : Int) = ((256 * (R 117 n).toNat + w : Nat) : Int) by omega, chk_pos (by omega), tn_nat, g 112 _ (by omega)]
      have ho : opW R k w n = !decide (R 112 (256 * (R 117 n).toNat + w) = 1) := by unfold opW rowI; rw [hW]; rfl
      rcases hrow with e | e
      · rw [e] at ho
        have ho : opW R k w n = true := ho
        rw [e, if_neg nz0, hL, chk_pos (by omega), lt1_eq, lt1_eq, bind_some', lt1_eq, tn_nat, g 116 n (by omega)]
        refine Z_of (Or.inl ⟨_, rfl, rfl, ?_, fun x hx hox => ?_, fun c j h1 h2 => ?_⟩)
        · dsimp only
          rw [up_eq, up_c (by decide), hL, ec, ho, if_pos rfl]
          omega
        · dsimp only
          rw [up_c (by decide)]
          by_cases y : x = n
          · subst y
            rw [up_eq]
          · have h8 : cnt (opW R k w) x < cnt (opW R k w) n := cnt_lt (by omega) hox
            rw [up_k (by omega)]
            exact h129 x (by omega) hox
        · dsimp only
          rw [up_at, if_neg h2, up_c h1]
          exact hf c j h1 h2
      · rw [e] at ho
        have ho : opW R k w n = false := ho
        rw [e, if_pos nz1, bind_some', lt1_eq]
        refine Z_of (Or.inl ⟨_, rfl, rfl, ?_, fun x hx hox => ?_, hf⟩)
        · dsimp only; rw [ec, ho]; exact hL
        · have : ¬ x = n := by rintro rfl; rw [ho] at hox; cases hox
          exact h129 x (by omega) hox
  · rintro ⟨l, M1⟩ ⟨el, hL, h129, hf⟩
    dsimp only at el hL h129 hf
    subst el
    unfold M_leaguesOf_b7
    dsimp only
    rw [hf 81 57 (by decide) (by omega), hM 81 57 (by omega), eS, if_neg (by omega)]
    refine Z_of ⟨_, rfl, hL, fun i hi => ?_, hf⟩
    obtain ⟨c1, c2, c3⟩ := clG_mem hi
    obtain ⟨⟨-, s2, s3⟩, -⟩ := hS _ c1
    rw [Nat.zero_add] at s2 s3
    have := h129 _ c1 c2
    rw [c3] at this
    unfold sP
    omega
end LV
