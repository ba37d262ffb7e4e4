/-! ===== the town's sets: forgetting a fact ===== -/
section BSETB
variable {t c o L F : Nat} {M : Mem}
/-- n words of cell c from o on are all that is changed -/
def onlyW (c o n : Nat) (M M' : Mem) : Prop := ∀ a k, ¬ (a = c ∧ o ≤ k ∧ k < o + n) → M' a k = M a k
theorem onlyW_rfl : onlyW c o F M M := fun _ _ _ => rfl
theorem onlyW_trans {M' M'' : Mem} {n : Nat} (h : onlyW c o n M M') (h' : onlyW c o n M' M'') : onlyW c o n M M'' := fun a k q => (h' a k q).trans (h a k q)
theorem onlyW_c {M' : Mem} {n a k : Nat} (h : onlyW c o n M M') (ha : a ≠ c) : M' a k = M a k := h a k (fun z => ha z.1)
theorem onlyW_wup {n : Nat} {f : Nat → Int} : onlyW c o n M (wup M c o n f) := fun a k q => by
  unfold wup
  rw [if_neg q]
theorem forget_fin (ht : isT t) (hc : c ≠ t) (hW : M t 6 = (F : Int)) (hL : aJ 80 c = (L : Int)) (hL4 : L ≤ 384) (ho : o + F ≤ L) {y : Nat} (hy : (F = 2 ∧ y = 1) ∨ (F = 4 ∧ y = 1) ∨ (F = 4 ∧ y = 2)) : Z (it (T_forget_b84 t c (o : Int) (y : Int)) FUEL (0, M)) (fun M' => onlyW c o F M M' ∧ ∀ i, i < F → ∀ j, qb (M' c (o + i)) j = (qb (M c (o + i)) j || qb (M c (o + (i ^^^ y))) j)) := by
  have hup : ∀ (M1 : Mem) (k1 k2 : Nat) (v1 v2 : Int), M1 t 6 = (F : Int) → up (up M1 c k1 v1) c k2 v2 t 6 = (F : Int) := fun M1 k1 k2 v1 v2 h => by rw [up_c (Ne.symm hc), up_c (Ne.symm hc)]; exact h
  have red : ∀ M', it (T_forget_b84 t c (o : Int) (y : Int)) 10 (((0 : Nat) : Int), M) = some M' → it (T_forget_b84 t c (o : Int) (y : Int)) FUEL (0, M) = some M' := fun M' h => it_mono 10 FUEL _ (by unfold FUEL; omega) h
  rcases hy with ⟨rfl, rfl⟩ | ⟨rfl, rfl⟩ | ⟨rfl, rfl⟩
  · refine ⟨_, red _ (by rw [it_step (b84_do hW (by omega) hL hL4 ho (by omega) (by decide)), it_last (b84_end (hup _ _ _ _ _ hW) (by omega) (by omega) (by omega))]), ?_, ?_⟩
    · intro a k q
      rw [up_at, up_at, if_neg (by omega), if_neg (by omega)]
    · intro i hi j
      have hi2 : i = 0 ∨ i = 1 := by omega
      rcases hi2 with rfl | rfl
      · rw [up_k (by omega), up_eq, qb_or]
        rfl
      · rw [up_eq, qb_or, Bool.or_comm]
        rfl
  · refine ⟨_, red _ (by rw [it_step (b84_do hW (by omega) hL hL4 ho (by omega) (by decide)), it_step (b84_skip (hup _ _ _ _ _ hW) (by omega) (by omega) (by decide)), it_step (b84_do (hup _ _ _ _ _ hW) (by omega) hL hL4 ho (by omega) (by decide)), it_last (b84_end (hup _ _ _ _ _ (hup _ _ _ _ _ hW)) (by omega) (by omega) (by omega))]), ?_, ?_⟩
    · intro a k q
      rw [up_at, if_neg (by omega), up_at, if_neg (by omega), up_at, if_neg (by omega), up_at, if_neg (by omega)]
    · intro i hi j
      have hi2 : i = 0 ∨ i = 1 ∨ i = 2 ∨ i = 3 := by omega
      rcases hi2 with rfl | rfl | rfl | rfl
      · rw [up_k (by omega), up_k (by omega), up_k (by omega), up_eq, qb_or]
        rfl
      · rw [up_k (by omega), up_k (by omega), up_eq, qb_or, Bool.or_comm]
        rfl
      · rw [up_k (by omega), up_eq, up_k (by omega), up_k (by omega), up_k (by omega), up_k (by omega), qb_or]
        rfl
      · rw [up_eq, up_k (by omega), up_k (by omega), up_k (by omega), up_k (by omega), qb_or, Bool.or_comm]
        rfl
  · refine ⟨_, red _ (by rw [it_step (b84_do hW (by omega) hL hL4 ho (by omega) (by decide)), it_step (b84_do (hup _ _ _ _ _ hW) (by omega) hL hL4 ho (by omega) (by decide)), it_last (b84_end (hup _ _ _ _ _ (hup _ _ _ _ _ hW)) (by omega) (by omega) (by omega))]), ?_, ?_⟩
    · intro a k q
      rw [up_at, if_neg (by omega), up_at, if_neg (by omega), up_at, if_neg (by omega), up_at, if_neg (by omega)]
    · intro i hi j
      have hi2 : i = 0 ∨ i = 1 ∨ i = 2 ∨ i = 3 := by omega
      rcases hi2 with rfl | rfl | rfl | rfl
      · rw [up_k (by omega), up_k (by omega), up_k (by omega), up_eq, qb_or]
        rfl
      · rw [up_k (by omega), up_eq, up_k (by omega), up_k (by omega), up_k (by omega), up_k (by omega), qb_or]
        rfl
      · rw [up_k (by omega), up_k (by omega), up_eq, qb_or, Bool.or_comm]
        rfl
      · rw [up_eq, up_k (by omega), up_k (by omega), up_k (by omega), up_k (by omega), qb_or, Bool.or_comm]
        rfl
theorem nwd_cases {F : Nat} (hF : F ≤ 8) : (F ≤ 6 ∧ nwd F = 1) ∨ (F = 7 ∧ nwd F = 2) ∨ (F = 8 ∧ nwd F = 4) := by
  by_cases h : F ≤ 6
  · exact Or.inl ⟨h, by unfold nwd; rw [if_pos h]⟩
  · have : F = 7 ∨ F = 8 := by omega
    rcases this with rfl | rfl
    · exact Or.inr (Or.inl ⟨rfl, rfl⟩)
    · exact Or.inr (Or.inr ⟨rfl, rfl⟩)
theorem T_forget_eq (ht : isT t) (hc : c ≠ t) (h6 : M t 6 = (nwd F : Int)) (hF : F ≤ 8) (hL : aJ 80 c = (L : Int)) (hL4 : L ≤ 384) (ho : o + nwd F ≤ L) {f : Nat} (hf : f < F) : Z (T_forget t c (o : Int) (f : Int) M) (fun M' => onlyW c o (nwd F) M M' ∧ ∀ w, w < 64 * nwd F → sb M' c o w = (sb M c o w || sb M c o (w ^^^ 2 ^ f))) := by
  have hw := pow_wd hF
  by_cases q : f < 6
  · rw [T_forget_lo ht hc h6 hF hL hL4 ho q]
    refine Z_of ⟨onlyW_wup, fun w hw2 => ?_⟩
    obtain ⟨-, e, -⟩ := xr_all f (by omega) w (by omega)
    rw [sb_wup hw2, qb_shF _ q (by omega)]
    unfold sb
    rw [(e q).1, (e q).2]
  · have hk : (nwd F = 2 ∧ 2 ^ (f - 6) = 1) ∨ (nwd F = 4 ∧ 2 ^ (f - 6) = 1) ∨ (nwd F = 4 ∧ 2 ^ (f - 6) = 2) := by
      rcases nwd_cases hF with ⟨h1, h2⟩ | ⟨h1, h2⟩ | ⟨h1, h2⟩
      · omega
      · have : f = 6 := by omega
        subst this
        exact Or.inl ⟨h2, rfl⟩
      · have : f = 6 ∨ f = 7 := by omega
        rcases this with rfl | rfl
        · exact Or.inr (Or.inl ⟨h2, rfl⟩)
        · exact Or.inr (Or.inr ⟨h2, rfl⟩)
    have h := forget_fin (M := M) (F := nwd F) ht hc h6 hL hL4 ho hk
    unfold T_forget
    rw [n32_nat (by omega), if_neg (by omega), lt1_eq, show (f : Int) - 6 = ((f - 6 : Nat) : Int) by omega, ishl_1 (by omega), Z_bind_iff]
    refine Z_mono h ?_
    rintro M' ⟨h1, h2⟩
    refine Z_of ⟨h1, fun w hw2 => ?_⟩
    obtain ⟨-, -, e⟩ := xr_all f (by omega) w (by omega)
    unfold sb
    rw [h2 (w / 64) (by omega), (e (by omega)).1, (e (by omega)).2]
end BSETB
