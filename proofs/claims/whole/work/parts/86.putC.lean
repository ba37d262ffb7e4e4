/-! ===== the class's set is the run, where it counts ===== -/
def sgE (c : Nat) : Nat := if c = 1 then 1 else if c = 2 then 5 else if c = 3 then 15 else if c = 4 then 16 else if c = 5 then 17 else if c = 6 then 14 else if c = 7 then 13 else 12
theorem sgE_lt {c : Nat} : sgE c < 256 := by
  unfold sgE
  split <;> (try omega)
  split <;> (try omega)
  split <;> (try omega)
  split <;> (try omega)
  split <;> (try omega)
  split <;> (try omega)
  split <;> omega
theorem step_dec {o s : Nat} (ho : o < 10000) (hs : s < 256) : iand ((256 * o + s : Nat) : Int) 255 = (s : Int) ∧ ishr ((256 * o + s : Nat) : Int) 8 = (o : Int) := by
  constructor
  · have := iand_nat (a := 256 * o + s) (b := 255) (by omega) (by omega)
    rw [show (255 : Nat) = 2 ^ 8 - 1 from rfl, Nat.and_two_pow_sub_one_eq_mod] at this
    rw [show ((2 ^ 8 - 1 : Nat) : Int) = 255 from rfl] at this
    rw [this]
    omega
  · have := ishr_nat (a := 256 * o + s) (k := 8) (by omega) (by omega)
    rw [Nat.shiftRight_eq_div_pow] at this
    rw [show ((8 : Nat) : Int) = 8 from rfl] at this
    rw [this]
    omega
section PUTC
variable {t F : Nat}
def SgC (t F : Nat) (B : Nat → Bool) (kn : Nat → Nat) (rf : Nat → Nat → Bool) (W : Nat → Prop) (f g : Nat → Int) (lo lc len : Nat) (C : Mem) : Prop := ∀ i, i < len → ∃ c o : Nat, f (lo + i) = (c : Int) ∧ g (lo + i) = (o : Int) ∧ C 29 (lc + i) = ((256 * o + sgE c : Nat) : Int) ∧ (1 ≤ c ∧ c ≤ 8) ∧ o < 100 ∧ (c = 1 → o < F) ∧ (c = 2 → o < 12 ∧ ∀ w, W w → sb C (t + 9) (4 * o) w = rf o w) ∧ (c = 4 ∨ c = 5 → o < 8 ∧ C (t + 2) o = (kn o : Int) ∧ kn o < 256 ∧ (∀ w, w < 64 * nwd F → sb C (t + 8) 0 w = (decide (w < 2 ^ F) && B w)) ∧ ∀ w, w < 2 ^ F → (W w ↔ B w = true))
theorem put_eq {B : Nat → Bool} {kn : Nat → Nat} {rf : Nat → Nat → Bool} {W : Nat → Prop} {f g : Nat → Int} {C : Mem} (h : WmC t F C) (hW : ∀ w, W w → w < 2 ^ F) {lo lc len : Nat} (hlen : lc + len ≤ 720) (hs : SgC t F B kn rf W f g lo lc len C) (hh : hR f lo len 0 = some 1) : Z (S_putSet t (lc : Int) ((lc + len : Nat) : Int) C) (fun C' => (∀ a k, a ≠ 30 → C' a k = C a k) ∧ ∃ x, eRun F B kn rf f g lo len = [x] ∧ QC W C' 0 x) := by
  have hF := h.2.2.2
  have h8 := two_pow8 hF
  have hw4 := pow_wd hF
  have hW8 : ∀ w, W w → w < 256 := fun w hw => by have := hW w hw; omega
  have ht : t ≤ 15 := by have := h.1; unfold isT at this; omega
  unfold S_putSet
  rw [Z_bind_iff]
  refine Z_mono (it_Z (J := fun C' => (∀ a k, a ≠ 30 → C' a k = C a k) ∧ ∃ x, eRun F B kn rf f g lo len = [x] ∧ QC W C' 0 x) (fun k st => st.2.1 = ((lc + k : Nat) : Int) ∧ ∃ n : Nat, hR f lo k 0 = some n ∧ st.1 = (n : Int) ∧ PS (QC W st.2.2) n (eRun F B kn rf f g lo k) ∧ ∀ a k, a ≠ 30 → st.2.2 a k = C a k) len (by unfold FUEL; omega) ⟨rfl, 0, rfl, rfl, trivial, fun _ _ _ => rfl⟩ ?_ ?_) (fun M' h => Z_of h)
  · rintro k ⟨l4, l5, M⟩ hk ⟨e3, n, en, e2, hps, hf⟩
    dsimp only at e3 e2 hps hf
    subst e3 e2
    obtain ⟨c, o, hc, ho, h29, hc18, ho100, v1, v2, v3⟩ := hs k hk
    have hwm : WmC t F M := ⟨h.1, by rw [hf _ _ (by omega)]; exact h.2.1, by rw [hf _ _ (by omega)]; exact h.2.2.1, h.2.2.2⟩
    obtain ⟨n2, en2⟩ := hR_pre (f := f) (lo := lo) (h := 0) (x := 1) (len - (k + 1)) (k + 1) (by rw [show k + 1 + (len - (k + 1)) = len by omega]; exact hh)
    have en3 : (hR f lo k 0).bind (hS (f (lo + k))) = some n2 := en2
    rw [en, bind_some', hc] at en3
    have hn25 := hR_le (by omega) en
    have eN := eRun_s (F := F) (B := B) (kn := kn) (rf := rf) (f := f) (g := g) (lo := lo) (n := k)
    rw [hc, ho, show Int.toNat (o : Int) = o from rfl] at eN
    obtain ⟨d1, d2⟩ := step_dec (o := o) (s := sgE c) (by omega) sgE_lt
    unfold S_putSet_b6
    dsimp only
    rw [n32_nat (by omega), n32_nat (by omega), if_pos (by omega), chk_pos (by omega), lt1_eq, lt1_eq, tn_nat, hf 29 _ (by decide), h29, d1, d2, n32_nat (a := sgE c) (by have := @sgE_lt c; omega), Z_bind_iff]
    have fin : ∀ (n3 : Nat) (M2 : Mem), n3 = n2 → PS (QC W M2) n2 (eRun F B kn rf f g lo (k + 1)) → (∀ a k, a ≠ 30 → M2 a k = C a k) → Z (some (Sum.inl ((n3 : Int), ((lc + k : Nat) : Int) + 1, M2)) : Option ((Int × Int × Mem) ⊕ Mem)) (fun r => (∃ a', r = Sum.inl a' ∧ a'.2.1 = ((lc + (k + 1) : Nat) : Int) ∧ ∃ n : Nat, hR f lo (k + 1) 0 = some n ∧ a'.1 = (n : Int) ∧ PS (QC W a'.2.2) n (eRun F B kn rf f g lo (k + 1)) ∧ ∀ a k, a ≠ 30 → a'.2.2 a k = C a k) ∨ ∃ b_1, r = Sum.inr b_1 ∧ (∀ a k, a ≠ 30 → b_1 a k = C a k) ∧ ∃ x, eRun F B kn rf f g lo len = [x] ∧ QC W b_1 0 x) := by
      rintro n3 M2 rfl q1 q2
      exact Z_of (Or.inl ⟨_, rfl, rfl, n3, en2, rfl, q1, q2⟩)
    have mono : ∀ {m l : Nat} {s : List (Nat → Bool)} {M2 : Mem}, onlyW 30 (4 * m) (nwd F) M M2 → l ≤ m → PS (QC W M) l s → PS (QC W M2) l s := fun q1 hl hp => PS_mono (fun j hj y hy => QC_o hW8 hy q1 hw4.2.1 (by omega)) hp
    rcases hS_cases hc18 en3 with ⟨hcc, hn, rfl⟩ | ⟨hcc, hn, hn2⟩ | ⟨hcc, hn, hn2⟩
    · have hpx : Z (S_push t ((sgE c : Nat) : Int) (o : Int) ((n : Int) * 4) M) (fun M' => onlyW 30 (4 * n) (nwd F) M M' ∧ ∀ x s, eRun F B kn rf f g lo (k + 1) = x :: s → s = eRun F B kn rf f g lo k ∧ QC W M' n x) := by
        rw [eN]
        rcases hcc with rfl | rfl
        · refine Z_mono (c_push hwm hW hn (Or.inl ⟨rfl, v1 rfl, rfl⟩)) ?_
          rintro M' ⟨q1, q2⟩
          refine ⟨q1, fun x s e => ?_⟩
          unfold eOp at e
          rw [if_pos (by decide)] at e
          cases e
          exact ⟨rfl, q2⟩
        · refine Z_mono (c_push hwm hW hn (x := rf o) (Or.inr ⟨rfl, (v2 rfl).1, fun w hw => by rw [← (v2 rfl).2 w hw]; exact sb_eq (hf _ _ (by omega))⟩)) ?_
          rintro M' ⟨q1, q2⟩
          refine ⟨q1, fun x s e => ?_⟩
          unfold eOp at e
          rw [if_neg (by decide), if_pos (by decide)] at e
          cases e
          exact ⟨rfl, q2⟩
      have hss : ((sgE c : Nat) : Int) = 1 ∨ ((sgE c : Nat) : Int) = 5 := by
        rcases hcc with rfl | rfl
        · exact Or.inl rfl
        · exact Or.inr rfl
      rw [if_pos hss, n32_nat (by omega), if_pos (by omega), Z_bind_iff]
      refine Z_mono hpx ?_
      rintro M2 ⟨q1, q2⟩
      rw [lt1_eq]
      refine Z_of ?_
      rw [lt1_eq]
      refine fin (n + 1) M2 rfl ?_ (fun a j ha => (onlyW_c q1 ha).trans (hf a j ha))
      have hsh : ∃ x s, eRun F B kn rf f g lo (k + 1) = x :: s := by
        rw [eN]
        unfold eOp
        rcases hcc with rfl | rfl
        · exact ⟨_, _, rfl⟩
        · exact ⟨_, _, rfl⟩
      obtain ⟨x, s, e⟩ := hsh
      obtain ⟨z1, z2⟩ := q2 x s e
      rw [e, z1]
      exact ⟨z2, mono q1 (Nat.le_refl _) hps⟩
    · have hn2' := hn2.symm
      subst hn2'
      obtain ⟨m, rfl⟩ : ∃ m, n = m + 1 := ⟨n - 1, by omega⟩
      obtain ⟨x, s, es, hx, hs2⟩ := PS_1 hps
      rw [es] at eN
      have last : ∀ (y : Nat → Bool) M2, onlyW 30 (4 * m) (nwd F) M M2 → eRun F B kn rf f g lo (k + 1) = y :: s → QC W M2 m y → Z (lt1 (((lc + k : Nat) : Int) + 1) fun l3_96 => (some (Sum.inl (((m + 1 : Nat) : Int), l3_96, M2)) : Option ((Int × Int × Mem) ⊕ Mem))) (fun r => (∃ a', r = Sum.inl a' ∧ a'.2.1 = ((lc + (k + 1) : Nat) : Int) ∧ ∃ n : Nat, hR f lo (k + 1) 0 = some n ∧ a'.1 = (n : Int) ∧ PS (QC W a'.2.2) n (eRun F B kn rf f g lo (k + 1)) ∧ ∀ a k, a ≠ 30 → a'.2.2 a k = C a k) ∨ ∃ b_1, r = Sum.inr b_1 ∧ (∀ a k, a ≠ 30 → b_1 a k = C a k) ∧ ∃ x, eRun F B kn rf f g lo len = [x] ∧ QC W b_1 0 x) := by
        intro y M2 q1 q2 q3
        rw [lt1_eq]
        refine fin (m + 1) M2 rfl ?_ (fun a j ha => (onlyW_c q1 ha).trans (hf a j ha))
        rw [q2]
        exact ⟨q3, mono q1 (Nat.le_refl _) hs2⟩
      rcases hcc with rfl | hcc
      · rw [show sgE 3 = 15 from rfl, if_neg (by decide), if_neg (by decide), n32_nat (by omega), if_pos (by omega), Z_bind_iff]
        refine Z_mono (c_not (o := o) hwm hW (by omega) hx) ?_
        rintro M2 ⟨q1, q2⟩
        exact Z_of (last _ M2 q1 eN q2)
      · obtain ⟨w1, w2, w3, w4, w5⟩ := v3 hcc
        have e8 : ∀ w, sb M (t + 8) 0 w = sb C (t + 8) 0 w := fun w => sb_eq (hf _ _ (by omega))
        have hB0 : ∀ w, 2 ^ F ≤ w → w < 64 * nwd F → sb M (t + 8) 0 w = false := fun w q1 q2 => by rw [e8, w4 w q2, decide_eq_false (by omega)]; rfl
        have hB1 : ∀ w, w < 2 ^ F → sb M (t + 8) 0 w = B w := fun w q => by rw [e8, w4 w (by omega), decide_eq_true q]; rfl
        have at4 : (((m + 1 : Nat) : Int) - 1) * 4 = ((4 * m : Nat) : Int) := by omega
        rcases hcc with rfl | rfl
        · rw [show sgE 4 = 16 from rfl, if_neg (by decide), if_neg (by decide), n32_nat (by omega), if_pos (by omega), at4, Z_bind_iff]
          unfold S_change
          rw [if_pos (by decide), Z_bind_iff]
          refine Z_mono (T_keepHeld_eq (M := M) h.1 (by omega) (by omega) (by omega) hwm.2.1 hwm.2.2.1 hF aJ30 (by omega) (by omega) (p := o) (kn := kn o) w1 w3 (by rw [hf _ _ (by omega)]; exact w2) hB0) ?_
          rintro M2 ⟨q1, q2⟩
          refine Z_of (Z_of (last _ M2 q1 eN ?_))
          intro w hw
          have hlt := hW w hw
          rw [q2 w (by omega)]
          unfold hldB
          rw [hB1 w hlt, (w5 w hlt).mp hw, Bool.true_and]
          refine allB_congr (fun v hv => ?_)
          rw [hB1 v hv]
          cases hb : B v with
          | false => rfl
          | true => rw [hx v ((w5 v hv).mpr hb)]
        · rw [show sgE 5 = 17 from rfl, if_neg (by decide), if_neg (by decide), n32_nat (by omega), if_pos (by omega), at4, Z_bind_iff]
          unfold S_change
          rw [if_neg (by decide), if_pos (by decide), Z_bind_iff]
          refine Z_mono (T_widen_eq (M := M) h.1 (by omega) (by omega) (by omega) hwm.2.1 hwm.2.2.1 hF aJ30 (by omega) (by omega) (p := o) (kn := kn o) w1 w3 (by rw [hf _ _ (by omega)]; exact w2) hB0) ?_
          rintro M2 ⟨q1, q2⟩
          refine Z_of (Z_of (last _ M2 q1 eN ?_))
          intro w hw
          have hlt := hW w hw
          rw [q2 w (by omega)]
          unfold widB
          rw [hB1 w hlt, (w5 w hlt).mp hw, Bool.true_and]
          refine anyB_congr (fun v hv => ?_)
          rw [hB1 v hv]
          cases hb : B v with
          | false => rfl
          | true => rw [hx v ((w5 v hv).mpr hb), Bool.true_and, Bool.true_and, Bool.and_comm]
    · obtain ⟨m, rfl⟩ : ∃ m, n = m + 2 := ⟨n - 2, by omega⟩
      obtain ⟨x, s, es, hx, hs2⟩ := PS_1 hps
      obtain ⟨y, s2, rfl, hy, hs3⟩ := PS_1 hs2
      rw [es] at eN
      have hsc : (sgE c = 14 ∧ c = 6) ∨ (sgE c = 13 ∧ c = 7) ∨ (sgE c = 12 ∧ c = 8) := by
        rcases hcc with rfl | rfl | rfl
        · exact Or.inl ⟨rfl, rfl⟩
        · exact Or.inr (Or.inl ⟨rfl, rfl⟩)
        · exact Or.inr (Or.inr ⟨rfl, rfl⟩)
      rw [if_neg (show ¬ (((sgE c : Nat) : Int) = 1 ∨ ((sgE c : Nat) : Int) = 5) by omega), if_pos (show ((sgE c : Nat) : Int) = 14 ∨ ((sgE c : Nat) : Int) = 13 ∨ ((sgE c : Nat) : Int) = 12 by omega), n32_nat (by omega), if_pos (by omega), lt1_eq, show (((m + 2 : Nat) : Int) + -1 - 1) * 4 = ((4 * m : Nat) : Int) by omega, Z_bind_iff]
      refine Z_mono (c_join hwm hW (by omega) hsc hy hx) ?_
      rintro M2 ⟨q1, q2⟩
      refine Z_of ?_
      rw [lt1_eq, show ((m + 2 : Nat) : Int) + -1 = ((m + 1 : Nat) : Int) by omega]
      refine fin (m + 1) M2 (by omega) ?_ (fun a j ha => (onlyW_c q1 ha).trans (hf a j ha))
      obtain rfl : n2 = m + 1 := by omega
      rw [eN]
      rcases hcc with rfl | rfl | rfl
      · exact ⟨q2, mono q1 (Nat.le_refl _) hs3⟩
      · exact ⟨q2, mono q1 (Nat.le_refl _) hs3⟩
      · exact ⟨q2, mono q1 (Nat.le_refl _) hs3⟩
  · rintro ⟨l2, l3, M⟩ ⟨e3, n, en, e2, hps, hf⟩
    dsimp only at e3 e2 hps hf
    subst e3 e2
    rw [hh] at en
    cases en
    unfold S_putSet_b6
    dsimp only
    rw [if_neg (by omega)]
    obtain ⟨x, s, es, hx, hs2⟩ := PS_1 hps
    cases s with
    | nil => exact Z_of ⟨_, rfl, hf, x, es, hx⟩
    | cons z s => exact absurd hs2 (by simp [PS])
end PUTC
