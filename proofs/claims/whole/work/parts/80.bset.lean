/-! ===== the town's sets: what differs in one fact ===== -/
theorem xr_all : ∀ f, f < 8 → ∀ w, w < 256 → ((w ^^^ 2 ^ f) < 256 ∧ (f < 6 → (w ^^^ 2 ^ f) / 64 = w / 64 ∧ (w ^^^ 2 ^ f) % 64 = (w % 64) ^^^ 2 ^ f) ∧ (6 ≤ f → (w ^^^ 2 ^ f) / 64 = (w / 64) ^^^ 2 ^ (f - 6) ∧ (w ^^^ 2 ^ f) % 64 = w % 64)) := by decide +kernel
theorem fb_t : ∀ f, f < 6 → ∀ j, j < 64 → j.testBit f = true → 2 ^ f ≤ j ∧ j ^^^ 2 ^ f = j - 2 ^ f ∧ qb (fbI f) (2 ^ f + j) = false ∧ qb (fbI f) (j - 2 ^ f) = false := by decide +kernel
theorem fb_f : ∀ f, f < 6 → ∀ j, j < 64 → j.testBit f = false → j ^^^ 2 ^ f = 2 ^ f + j ∧ qb (fbI f) (2 ^ f + j) = true ∧ (2 ^ f ≤ j → qb (fbI f) (j - 2 ^ f) = true) := by decide +kernel
theorem fb_q : ∀ f, f < 6 → ∀ j, j < 64 → qb (fbI f) j = j.testBit f := by decide +kernel
theorem p64 : ∀ f, f < 6 → 2 ^ f < 64 := by decide
def shF (f : Nat) (x : Int) : Int := jor (jor x (jushr (jand x (fbI f)) ((2 ^ f : Nat) : Int))) (jshl (jand x (jxor (fbI f) (-1))) ((2 ^ f : Nat) : Int))
theorem qb_shF (x : Int) {f j : Nat} (hf : f < 6) (hj : j < 64) : qb (shF f x) j = (qb x j || qb x (j ^^^ 2 ^ f)) := by
  have h2 := p64 f hf
  unfold shF
  rw [qb_or, qb_or, qb_ushr _ h2, qb_shl _ h2, qb_and, qb_and, Bool.or_assoc]
  congr 1
  cases hb : j.testBit f with
  | true =>
    obtain ⟨h3, h4, h5, h6⟩ := fb_t f hf j hj hb
    rw [h4, h5, qb_not _ (Nat.lt_of_le_of_lt (Nat.sub_le _ _) hj), h6, decide_eq_true hj, decide_eq_false (show ¬ j < 2 ^ f by omega)]
    simp
  | false =>
    obtain ⟨h3, h4, h5⟩ := fb_f f hf j hj hb
    rw [h3, h4]
    by_cases q : j < 2 ^ f
    · rw [decide_eq_true q]; simp
    · rw [qb_not _ (Nat.lt_of_le_of_lt (Nat.sub_le _ _) hj), h5 (by omega)]; simp
section BSET
variable {t c o L F : Nat} {M : Mem}
theorem T_forget_lo (ht : isT t) (hc : c ≠ t) (h6 : M t 6 = (nwd F : Int)) (hF : F ≤ 8) (hL : aJ 80 c = (L : Int)) (hL4 : L ≤ 384) (ho : o + nwd F ≤ L) {f : Nat} (hf : f < 6) : T_forget t c (o : Int) (f : Int) M = some (wup M c o (nwd F) (fun i => shF f (M c (o + i)))) := by
  have hw := pow_wd hF
  have L1 := it_for (body := T_forget_b21 t c (o : Int) ((2 ^ f : Nat) : Int) (fbI f)) (a := ((o : Int), M)) (b := wup M c o (nwd F) (fun i => shF f (M c (o + i)))) (fun i => (((o + i : Nat) : Int), wup M c o i (fun i => shF f (M c (o + i))))) (nwd F) (by unfold FUEL; omega) (by rw [wup_0]; rfl) ?_ ?_
  · unfold T_forget
    rw [n32_nat (by omega), if_pos (by omega), lt1_eq, ishl_1 (by omega), chk_pos (by omega), lt1_eq, tn_nat, L1]
    rfl
  · intro i hi
    unfold T_forget_b21
    dsimp only
    rw [wup_c (by omega), h6, show (o : Int) + (nwd F : Int) = ((o + nwd F : Nat) : Int) by omega, n32_nat (by omega), n32_nat (by omega), if_pos (by omega), hL, chk_pos (by omega), lt1_eq, lt1_eq, lt1_eq, tn_nat, wup_out (Or.inr (by omega))]
    exact congrArg some (congrArg Sum.inl (Prod.ext rfl (wup_s rfl)))
  · unfold T_forget_b21
    dsimp only
    rw [wup_c (by omega), h6, show (o : Int) + (nwd F : Int) = ((o + nwd F : Nat) : Int) by omega, if_neg (by omega)]
theorem b84_do (h6 : M t 6 = (F : Int)) (hF : F ≤ 4) (hL : aJ 80 c = (L : Int)) (hL4 : L ≤ 384) (ho : o + F ≤ L) {l y : Nat} (hl : l + y < F) (hy : iand (l : Int) (y : Int) = 0) : T_forget_b84 t c (o : Int) (y : Int) ((l : Int), M) = some (.inl (((l + 1 : Nat) : Int), up (up M c (o + l) (jor (M c (o + l)) (M c (o + l + y)))) c (o + l + y) (jor (M c (o + l)) (M c (o + l + y))))) := by
  unfold T_forget_b84
  dsimp only
  rw [h6, show (l : Int) + (y : Int) = ((l + y : Nat) : Int) by omega, n32_nat (by omega), n32_nat (by omega), if_pos (by omega), hy, if_pos (by decide), hL, chk_pos (by omega), chk_pos (by omega), lt1_eq, lt1_eq, lt1_eq, bind_some', lt1_eq, show Int.toNat ((o : Int) + (l : Int)) = o + l by omega, show Int.toNat ((o : Int) + (l : Int) + (y : Int)) = o + l + y by omega]
  rfl
theorem b84_skip (h6 : M t 6 = (F : Int)) (hF : F ≤ 4) {l y : Nat} (hl : l + y < F) (hy : ¬ n32 (iand (l : Int) (y : Int)) = 0) : T_forget_b84 t c (o : Int) (y : Int) ((l : Int), M) = some (.inl (((l + 1 : Nat) : Int), M)) := by
  unfold T_forget_b84
  dsimp only
  rw [h6, show (l : Int) + (y : Int) = ((l + y : Nat) : Int) by omega, n32_nat (by omega), n32_nat (by omega), if_pos (by omega), if_neg hy, bind_some', lt1_eq]
  rfl
theorem b84_end (h6 : M t 6 = (F : Int)) (hF : F ≤ 4) {l y : Nat} (hl : F ≤ l + y) (hl2 : l + y < 100) : T_forget_b84 t c (o : Int) (y : Int) ((l : Int), M) = some (.inr M) := by
  unfold T_forget_b84
  dsimp only
  rw [h6, show (l : Int) + (y : Int) = ((l + y : Nat) : Int) by omega, n32_nat (by omega), n32_nat (by omega), if_neg (by omega)]
end BSET
