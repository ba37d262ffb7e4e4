/-! ===== the class's sets are the run, where it counts ===== -/
theorem tb_low : ∀ o, o < 6 → ∀ w, w < 256 → w.testBit o = (w % 64).testBit o := by decide +kernel
theorem tb_high : ∀ o, o < 8 → 6 ≤ o → ∀ w, w < 256 → w.testBit o = (w / 64).testBit (o - 6) := by decide +kernel
theorem all_bits : ∀ F, F < 6 → ∀ j, j < 64 → qb (jshl 1 ((2 ^ F : Nat) : Int) - 1) j = decide (j < 2 ^ F) := by decide +kernel
section EVC
variable {t F : Nat}
def WmC (t F : Nat) (C : Mem) : Prop := isT t ∧ C t 0 = (F : Int) ∧ C t 6 = (nwd F : Int) ∧ F ≤ 8
theorem WmC_o {C C' : Mem} {c o n : Nat} (h : WmC t F C) (hc : c ≠ t) (hm : onlyW c o n C C') : WmC t F C' := by
  obtain ⟨h1, h2, h3, h4⟩ := h
  exact ⟨h1, by rw [onlyW_c hm (Ne.symm hc)]; exact h2, by rw [onlyW_c hm (Ne.symm hc)]; exact h3, h4⟩
/-- one long of the set of all worlds -/
theorem all_eq {C : Mem} (h : WmC t F C) : ∃ x, T_allOfWord t C = some x ∧ ∀ w, w < 64 * nwd F → qb x (w % 64) = decide (w < 2 ^ F) := by
  obtain ⟨h1, h2, h3, h4⟩ := h
  unfold T_allOfWord
  rw [h2, n32_nat (by omega)]
  by_cases q : 6 ≤ F
  · rw [if_pos (by omega)]
    refine ⟨_, rfl, fun w hw => ?_⟩
    rw [qb_m1, decide_eq_true (show w % 64 < 64 by omega), decide_eq_true (show w < 2 ^ F by rw [← wd_pow h4 q]; exact hw)]
  · rw [if_neg (by omega), ishl_1 (by omega)]
    refine ⟨_, rfl, fun w hw => ?_⟩
    have hn : nwd F = 1 := by unfold nwd; rw [if_pos (by omega)]
    rw [hn] at hw
    rw [all_bits F (by omega) _ (by omega), show w % 64 = w by omega]
/-- level l of the class's pile holds x, in the worlds W -/
def QC (W : Nat → Prop) (M : Mem) (l : Nat) (x : Nat → Bool) : Prop := ∀ w, W w → sb M 30 (4 * l) w = x w
theorem QC_o {W : Nat → Prop} {M M' : Mem} {l n k : Nat} {x : Nat → Bool} (hW : ∀ w, W w → w < 256) (h : QC W M l x) (hm : onlyW 30 (4 * n) k M M') (hk : k ≤ 4) (hl : l ≠ n) : QC W M' l x := by
  intro w hw
  rw [← h w hw]
  have := hW w hw
  exact sb_eq (hm 30 _ (by omega))
theorem c_push {W : Nat → Prop} {M : Mem} (h : WmC t F M) (hW : ∀ w, W w → w < 2 ^ F) {s n o : Nat} (hn : n < 25) {x : Nat → Bool} (hx : (s = 1 ∧ o < F ∧ x = fun w => w.testBit o) ∨ (s = 5 ∧ o < 12 ∧ ∀ w, W w → sb M (t + 9) (4 * o) w = x w)) : Z (S_push t (s : Int) (o : Int) ((n : Int) * 4) M) (fun M' => onlyW 30 (4 * n) (nwd F) M M' ∧ QC W M' n x) := by
  have hF := h.2.2.2
  have hw4 := pow_wd hF
  have h8 := two_pow8 hF
  have ht : t ≤ 15 := by have := h.1; unfold isT at this; omega
  unfold S_push
  rw [Z_bind_iff, show (n : Int) * 4 = ((4 * n : Nat) : Int) by omega]
  have go : ∀ y : Nat → Int, (∀ i, i < nwd F → ∀ M', onlyW 30 (4 * n) i M M' → S_push_b3 t (s : Int) (o : Int) ((4 * n : Nat) : Int) ((i : Int), M') = some (.inl ((i : Int) + 1, up M' 30 (4 * n + i) (y i)))) → (∀ w, W w → qb (y (w / 64)) (w % 64) = x w) → Z (it (S_push_b3 t (s : Int) (o : Int) ((4 * n : Nat) : Int)) FUEL (0, M)) (fun M' => Z (some M') (fun M' => onlyW 30 (4 * n) (nwd F) M M' ∧ QC W M' n x)) := by
    intro y h1 h2
    refine Z_mono (fill_loop (c := 30) (base := 4 * n) (N := nwd F) (x := y) (by omega) h1 ?_) ?_
    · intro M' f
      unfold S_push_b3
      dsimp only
      rw [(WmC_o h (by omega) f).2.2.1, if_neg (by omega)]
    · rintro M' ⟨f, g⟩
      refine Z_of ⟨f, fun w hw => ?_⟩
      have := hW w hw
      unfold sb
      rw [g _ (by omega)]
      exact h2 w hw
  rcases hx with ⟨rfl, h1, rfl⟩ | ⟨rfl, h1, h2⟩
  · by_cases q : o < 6
    · obtain ⟨z, hz1, hz2⟩ := all_eq h
      refine go (fun _ => jand (fbI o) z) ?_ ?_
      · intro i hi M' f
        obtain ⟨z', hz1', -⟩ := all_eq (WmC_o h (by omega) f)
        have ez : z' = z := by
          have e1 : T_allOfWord t M' = T_allOfWord t M := by
            unfold T_allOfWord
            rw [onlyW_c f (by omega)]
          rw [e1, hz1] at hz1'
          cases hz1'; rfl
        unfold S_push_b3
        dsimp only
        rw [(WmC_o h (by omega) f).2.2.1, n32_nat (by omega), n32_nat (by omega), if_pos (by omega), if_neg (by decide), n32_nat (by omega), if_pos (by omega), chk_pos (by omega), hz1', bind_some', chk_pos (by omega), lt1_eq, bind_some', lt1_eq, tn_add, tn_nat, ez]
      · intro w hw
        have := hW w hw
        dsimp only
        rw [qb_and, fb_q o q _ (by omega), hz2 w (by omega), decide_eq_true this, Bool.and_true, tb_low o q w (by omega)]
    · refine go (fun i => if i.testBit (o - 6) then -1 else 0) ?_ ?_
      · intro i hi M' f
        unfold S_push_b3
        dsimp only
        rw [(WmC_o h (by omega) f).2.2.1, n32_nat (by omega), n32_nat (by omega), if_pos (by omega), if_neg (by decide), n32_nat (by omega), if_neg (by omega), show (o : Int) - 6 = ((o - 6 : Nat) : Int) by omega, X_hasBit_eq (by omega) (by omega), bind_some']
        have e : (if ¬ n32 (if i.testBit (o - 6) = true then (1 : Int) else 0) = 0 then some (-1 : Int) else some 0) = some (if i.testBit (o - 6) then -1 else 0) := by cases i.testBit (o - 6) <;> rfl
        rw [e, bind_some', chk_pos (by omega), lt1_eq, bind_some', lt1_eq, tn_add]
      · intro w hw
        have := hW w hw
        dsimp only
        rw [tb_high o (by omega) (by omega) w (by omega)]
        cases (w / 64).testBit (o - 6) with
        | true => rw [if_pos rfl, qb_m1, decide_eq_true (by omega)]
        | false => rw [if_neg (by decide), qb_0]
  · refine go (fun i => M (t + 9) (4 * o + i)) ?_ (fun w hw => h2 w hw)
    intro i hi M' f
    unfold S_push_b3
    dsimp only
    rw [(WmC_o h (by omega) f).2.2.1, n32_nat (by omega), n32_nat (by omega), if_pos (by omega), if_pos (by decide), chk_pos (by omega), chk_pos (by omega), lt1_eq, bind_some', lt1_eq, tn_add, onlyW_c f (by omega), show Int.toNat ((o : Int) * 4 + (i : Int)) = 4 * o + i by omega]
theorem c_not {W : Nat → Prop} {M : Mem} (h : WmC t F M) (hW : ∀ w, W w → w < 2 ^ F) {n o : Nat} (hn : n < 25) {x : Nat → Bool} (hx : QC W M n x) : Z (S_change t 15 (o : Int) (((n + 1 : Nat) : Int) - 1 |> (· * 4)) M) (fun M' => onlyW 30 (4 * n) (nwd F) M M' ∧ QC W M' n (fun w => !x w)) := by
  have hF := h.2.2.2
  have hw4 := pow_wd hF
  have h8 := two_pow8 hF
  have ht : t ≤ 15 := by have := h.1; unfold isT at this; omega
  obtain ⟨z, hz1, hz2⟩ := all_eq h
  show Z (S_change t 15 (o : Int) ((((n + 1 : Nat) : Int) - 1) * 4) M) _
  rw [show (((n + 1 : Nat) : Int) - 1) * 4 = ((4 * n : Nat) : Int) by omega]
  unfold S_change
  rw [if_neg (by decide), if_neg (by decide), Z_bind_iff]
  refine Z_mono (fill_loop (c := 30) (base := 4 * n) (N := nwd F) (x := fun i => jand (jxor (M 30 (4 * n + i)) (-1)) z) (by omega) ?_ ?_) ?_
  · intro i hi M' f
    have e1 : T_allOfWord t M' = some z := by
      rw [← hz1]
      unfold T_allOfWord
      rw [onlyW_c f (by omega)]
    unfold S_change_b43
    dsimp only
    rw [(WmC_o h (by omega) f).2.2.1, n32_nat (by omega), n32_nat (by omega), if_pos (by omega), chk_pos (by omega), e1, bind_some', lt1_eq, lt1_eq, tn_add, f 30 _ (by omega)]
  · intro M' f
    unfold S_change_b43
    dsimp only
    rw [(WmC_o h (by omega) f).2.2.1, if_neg (by omega)]
  · rintro M' ⟨f, g⟩
    refine Z_of ⟨f, fun w hw => ?_⟩
    have := hW w hw
    have hxw := hx w hw
    unfold sb at hxw ⊢
    rw [g _ (by omega), qb_and, qb_not _ (by omega), hxw, hz2 w (by omega), decide_eq_true this, Bool.and_true]
theorem c_join {W : Nat → Prop} {M : Mem} (h : WmC t F M) (hW : ∀ w, W w → w < 2 ^ F) {s c n : Nat} (hn : n + 1 < 25) (hs : (s = 14 ∧ c = 6) ∨ (s = 13 ∧ c = 7) ∨ (s = 12 ∧ c = 8)) {x y : Nat → Bool} (hy : QC W M n y) (hx : QC W M (n + 1) x) : Z (S_join t (s : Int) ((4 * n : Nat) : Int) M) (fun M' => onlyW 30 (4 * n) (nwd F) M M' ∧ QC W M' n (fun w => if (c : Int) = 6 then y w && x w else if (c : Int) = 7 then y w || x w else y w || !x w)) := by
  have hF := h.2.2.2
  have hw4 := pow_wd hF
  have h8 := two_pow8 hF
  have ht : t ≤ 15 := by have := h.1; unfold isT at this; omega
  obtain ⟨z, hz1, hz2⟩ := all_eq h
  unfold S_join
  rw [Z_bind_iff]
  refine Z_mono (fill_loop (c := 30) (base := 4 * n) (N := nwd F) (x := fun i => if s = 14 then jand (M 30 (4 * n + i)) (M 30 (4 * (n + 1) + i)) else if s = 13 then jor (M 30 (4 * n + i)) (M 30 (4 * (n + 1) + i)) else jor (M 30 (4 * n + i)) (jand (jxor (M 30 (4 * (n + 1) + i)) (-1)) z)) (by omega) ?_ ?_) ?_
  · intro i hi M' f
    have e1 : T_allOfWord t M' = some z := by
      rw [← hz1]
      unfold T_allOfWord
      rw [onlyW_c f (by omega)]
    unfold S_join_b3
    dsimp only
    rw [(WmC_o h (by omega) f).2.2.1, n32_nat (by omega), n32_nat (by omega), if_pos (by omega), chk_pos (by omega), lt1_eq, chk_pos (by omega), lt1_eq, e1, show Int.toNat (((4 * n : Nat) : Int) + 4 + (i : Int)) = 4 * (n + 1) + i by omega, tn_add, f 30 _ (by omega), f 30 _ (by omega)]
    rcases hs with ⟨rfl, -⟩ | ⟨rfl, -⟩ | ⟨rfl, -⟩ <;> rfl
  · intro M' f
    unfold S_join_b3
    dsimp only
    rw [(WmC_o h (by omega) f).2.2.1, if_neg (by omega)]
  · rintro M' ⟨f, g⟩
    refine Z_of ⟨f, fun w hw => ?_⟩
    have := hW w hw
    have hxw := hx w hw
    have hyw := hy w hw
    unfold sb at hxw hyw ⊢
    rw [g _ (by omega)]
    dsimp only
    rcases hs with ⟨rfl, rfl⟩ | ⟨rfl, rfl⟩ | ⟨rfl, rfl⟩
    · rw [if_pos rfl, if_pos (by decide), qb_and, hxw, hyw]
    · rw [if_neg (by decide), if_pos rfl, if_neg (by decide), if_pos (by decide), qb_or, hxw, hyw]
    · rw [if_neg (by decide), if_neg (by decide), if_neg (by decide), if_neg (by decide), qb_or, qb_and, qb_not _ (by omega), hxw, hyw, hz2 w (by omega), decide_eq_true this, Bool.and_true]
end EVC
