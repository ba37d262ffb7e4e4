/-! ===== askings: two questions, the reference; the operation ===== -/
section ASKG
variable {t b r : Nat} {C R : Mem} {L : Nat → Bool}
def g2B (R : Mem) (b r : Nat) (S : Nat → Bool) (p q a : Nat) : Bool := tolB R r 256 (aks R S p q a) || onB R b r 256 (aks R S p q a)
theorem byTwo_in (hb : b < 2) {lv p q : Nat} (hlv : lv < 2) (hp : p < nP R b) (hq : q < nR R b) {S : Nat → Bool} {M : Mem} (hA : AM t b C R r L M) (hrow : ∀ w, w < 256 → L w = true → sb M 128 0 w = rowI R r w) (hSL : ∀ w, w < 256 → S w = true → L w = true) (hS : ∀ w, w < 256 → sb M 126 (4 * lv) w = S w) : Z (it (M_byTwo_b40 (lv : Int) ((12 * p + q : Nat) : Int)) FUEL (1, 0, M)) (fun x => x.1 = b1 (allB (fun a => g2B R b r S p q a) 3) ∧ (∀ c j, c ≠ 126 → x.2 c j = M c j) ∧ ∀ j, j < 4 * lv + 4 → x.2 126 j = M 126 j) := by
  have hP8 := (num_P hA.1).2.2
  have hR12 := (num_R hA.1).2.2
  have hRH := hA.2.2 p q hp hq
  refine it_Z (fun i st => st.1 = b1 (allB (fun a => g2B R b r S p q a) i) ∧ st.2.1 = (i : Int) ∧ (∀ c j, c ≠ 126 → st.2.2 c j = M c j) ∧ ∀ j, j < 4 * lv + 4 → st.2.2 126 j = M 126 j) 3 (by unfold FUEL; omega) ⟨rfl, rfl, fun _ _ _ => rfl, fun _ _ => rfl⟩ ?_ ?_
  · rintro a ⟨x, l, M1⟩ ha ⟨e1, el, h1, h2⟩
    dsimp only at e1 el h1 h2
    subst e1 el
    unfold M_byTwo_b40
    dsimp only
    cases hB : allB (fun a => g2B R b r S p q a) a with
    | false =>
      rw [show b1 false = 0 from rfl, if_neg (fun z => nz0 z.2)]
      refine Z_of (Or.inr ⟨_, rfl, ?_, h1, h2⟩)
      cases h : allB (fun a => g2B R b r S p q a) 3 with
      | false => rfl
      | true =>
        rw [allB_iff.mpr (fun i hi => allB_iff.mp h i (by omega))] at hB
        cases hB
    | true =>
      have hS1 : ∀ w, w < 256 → sb M1 126 (4 * lv) w = S w := fun w hw => by rw [← hS w hw]; exact sb_eq (h2 _ (by omega))
      have hH1 : ∀ w, w < 256 → sb M1 127 (12 * (12 * p + q) + 4 * a) w = (L w && decide (ansV R p q w = (a : Int))) := fun w hw => by rw [← hRH.1 a ha w hw]; exact sb_eq (h1 _ _ (by decide))
      have hT := take_sb (q := 12 * p + q) (a := a) hS1 hH1
      rw [show b1 true = 1 from rfl, n32_nat (by omega), if_pos ⟨by omega, nz1⟩, M_take_eq (by omega) (by omega) ha, bind_some']
      generalize hM2 : wup M1 126 (4 * lv + 4) 4 (fun i => jand (M1 126 (4 * lv + i)) (M1 127 (12 * (12 * p + q) + 4 * a + i))) = M2 at hT
      have f1 : ∀ c j, c ≠ 126 → M2 c j = M c j := fun c j hc => by rw [← hM2, wup_c hc]; exact h1 c j hc
      have f2 : ∀ j, j < 4 * lv + 4 → M2 126 j = M 126 j := fun j hj => by rw [← hM2, wup_out (Or.inl hj)]; exact h2 j hj
      have hO := byOne_eq (t := t) (b := b) (r := r) (C := C) (R := R) (L := L) hb (lv := lv + 1) (by omega) (S := aks R S p q a) (M := M2) (AM_keep hA f1) (fun w hw hl => by rw [← hrow w hw hl]; exact sb_eq (f1 _ _ (by decide))) (fun w hw hs => by
        unfold aks at hs
        rw [Bool.and_eq_true] at hs
        exact hSL w hw hs.1) (fun w hw => by
        rw [hT w hw]
        unfold aks
        cases hs : S w with
        | false => rfl
        | true => rw [hSL w hw hs]; rfl)
      rw [show (lv : Int) + 1 = ((lv + 1 : Nat) : Int) by omega, Z_bind_iff]
      refine Z_mono hO ?_
      rintro ⟨x, M3⟩ ⟨e3, k1, k2⟩
      dsimp only at e3 k1 k2
      dsimp only
      rw [lt1_eq]
      refine Z_of (Or.inl ⟨_, rfl, ?_, rfl, fun c j hc => (k1 c j hc).trans (f1 c j hc), fun j hj => (k2 j (by omega)).trans (f2 j hj)⟩)
      dsimp only
      rw [allB_succ, hB, Bool.true_and, e3]
      rfl
  · rintro ⟨x, l, M1⟩ ⟨e1, el, h1, h2⟩
    dsimp only at e1 el h1 h2
    unfold M_byTwo_b40
    dsimp only
    rw [el, if_neg (fun z => absurd z.1 (by decide))]
    exact Z_of ⟨_, rfl, e1, h1, h2⟩
theorem prune2 {p q : Nat} {S : Nat → Bool} (hno : tolB R r 256 S = false) (hno2 : onB R b r 256 S = false) (h : anyB (fun a => suB S (fun w => L w && decide (ansV R p q w = (a : Int))) 256) 3 = true) : allB (fun a => g2B R b r S p q a) 3 = false := by
  obtain ⟨a, ha, hs⟩ := anyB_iff.mp h
  have hs := suB_iff.mp hs
  have e0 : ∀ w, w < 256 → aks R S p q a w = S w := fun w hw => by
    unfold aks
    cases hS : S w with
    | false => rfl
    | true =>
      have := hs w hw hS
      rw [Bool.and_eq_true] at this
      rw [this.2]; rfl
  have e : tolB R r 256 (aks R S p q a) = tolB R r 256 S := tolB_congr e0
  have e' : onB R b r 256 (aks R S p q a) = onB R b r 256 S := onB_congr e0
  cases h2 : allB (fun a => g2B R b r S p q a) 3 with
  | false => rfl
  | true =>
    have := allB_iff.mp h2 a ha
    unfold g2B at this
    rw [e, e', hno, hno2] at this
    cases this
theorem byTwo_eq (hb : b < 2) {S : Nat → Bool} {M : Mem} (hA : AM t b C R r L M) (hrow : ∀ w, w < 256 → L w = true → sb M 128 0 w = rowI R r w) (hSL : ∀ w, w < 256 → S w = true → L w = true) (hS : ∀ w, w < 256 → sb M 126 0 w = S w) (hno : tolB R r 256 S = false) (hno2 : onB R b r 256 S = false) : Z (M_byTwo 0 M) (fun x => x.1 = b1 (twB R b r 256 S)) := by
  have hP8 := (num_P hA.1).2.2
  have hR12 := (num_R hA.1).2.2
  unfold M_byTwo
  rw [Z_bind_iff]
  have h0 := byOne_eq (t := t) (b := b) (r := r) (C := C) (R := R) (L := L) hb (lv := 0) (by omega) (S := S) (M := M) hA hrow hSL hS
  rw [show ((0 : Nat) : Int) = 0 from rfl] at h0
  refine Z_mono h0 ?_
  rintro ⟨x, M0⟩ ⟨e0, k1, k2⟩
  dsimp only at e0 k1 k2
  dsimp only
  rw [e0, hno, hno2, show b1 (false || false) = 0 from rfl, if_neg nz0, Z_bind_iff]
  have eon : twB R b r 256 S = anyB (qB R b (g2B R b r S)) (12 * nP R b) := (qB_any hR12).symm
  rw [eon]
  have key : Z (it (M_byTwo_b12 0) FUEL (0, M0)) (fun x => (∃ M2, x = .inl M2 ∧ anyB (qB R b (g2B R b r S)) (12 * nP R b) = false) ∨ (∃ M2, x = .inr (1, M2) ∧ anyB (qB R b (g2B R b r S)) (12 * nP R b) = true)) := by
    refine it_Z (fun i st => st.1 = (i : Int) ∧ (∀ l, l < i → qB R b (g2B R b r S) l = false) ∧ (∀ c j, c ≠ 126 → st.2 c j = M c j) ∧ ∀ j, j < 4 → st.2 126 j = M 126 j) (12 * nP R b) (by unfold FUEL; omega) ⟨rfl, fun _ h => by omega, k1, fun j hj => k2 j (by omega)⟩ ?_ ?_
    · rintro i ⟨l, M1⟩ hi ⟨el, hn, f1, f2⟩
      dsimp only at el hn f1 f2
      subst el
      have hA1 := AM_keep hA f1
      have hS1 : ∀ w, w < 256 → sb M1 126 (4 * 0) w = S w := fun w hw => by rw [← hS w hw]; exact sb_eq (f2 _ (by omega))
      have hrow1 : ∀ w, w < 256 → L w = true → sb M1 128 0 w = rowI R r w := fun w hw hl => by rw [← hrow w hw hl]; exact sb_eq (f1 _ _ (by decide))
      unfold M_byTwo_b12
      dsimp only
      rw [AM_P hb hA1, bind_some', show (12 : Int) * (nP R b : Int) = ((12 * nP R b : Nat) : Int) by omega, n32_nat (by omega), n32_nat (by omega), if_pos (by omega)]
      have next : qB R b (g2B R b r S) i = false → ∀ M2 : Mem, (∀ c j, c ≠ 126 → M2 c j = M c j) → (∀ j, j < 4 → M2 126 j = M 126 j) → Z (some (Sum.inl ((i : Int) + 1, M2)) : Option ((Int × Mem) ⊕ (Mem ⊕ (Int × Mem)))) (fun r_1 => (∃ a', r_1 = Sum.inl a' ∧ a'.1 = ((i + 1 : Nat) : Int) ∧ (∀ l, l < i + 1 → qB R b (g2B R b r S) l = false) ∧ (∀ c j, c ≠ 126 → a'.2 c j = M c j) ∧ ∀ j, j < 4 → a'.2 126 j = M 126 j) ∨ ∃ b_1, r_1 = Sum.inr b_1 ∧ ((∃ M2, b_1 = Sum.inl M2 ∧ anyB (qB R b (g2B R b r S)) (12 * nP R b) = false) ∨ ∃ M2, b_1 = Sum.inr (1, M2) ∧ anyB (qB R b (g2B R b r S)) (12 * nP R b) = true)) := by
        intro hq M2 g1 g2
        refine Z_of (Or.inl ⟨_, rfl, rfl, fun l hl => ?_, g1, g2⟩)
        by_cases e : l = i
        · subst e; exact hq
        · exact hn l (by omega)
      by_cases hq : i % 12 < nR R b
      · have hRH := hA1.2.2 (i / 12) (i % 12) (by omega) hq
        have ei : 12 * (i / 12) + i % 12 = i := by omega
        have hH : ∀ a, a < 3 → ∀ w, w < 256 → sb M1 127 (12 * i + 4 * a) w = (L w && decide (ansV R (i / 12) (i % 12) w = (a : Int))) := fun a ha w hw => by
          have := hRH.1 a ha w hw
          rw [ei] at this
          exact this
        have hsp := splits_eq (lv := 0) (S := S) (H := fun a w => L w && decide (ansV R (i / 12) (i % 12) w = (a : Int))) (by omega) (by omega) hR12 (AM_R hb hA1) hq hS1 hH
        rw [show ((0 : Nat) : Int) = 0 from rfl] at hsp
        rw [hsp, bind_some', jn_eq]
        cases hs : anyB (fun a => suB S (fun w => L w && decide (ansV R (i / 12) (i % 12) w = (a : Int))) 256) 3 with
        | true =>
          rw [show b1 (!true) = 0 from rfl, if_pos (by decide)]
          refine next ?_ M1 f1 f2
          have := prune2 (r := r) (b := b) hno hno2 hs
          unfold qB
          rw [this, Bool.and_false]
        | false =>
          rw [show b1 (!false) = 1 from rfl, if_neg nz1, Z_bind_iff]
          have hin := byTwo_in (lv := 0) (p := i / 12) (q := i % 12) hb (by omega) (by omega) hq hA1 hrow1 hSL hS1
          rw [ei, show ((0 : Nat) : Int) = 0 from rfl] at hin
          refine Z_mono hin ?_
          rintro ⟨x, M2⟩ ⟨e1, g1, g2⟩
          dsimp only at e1 g1 g2
          dsimp only
          have g1' : ∀ c j, c ≠ 126 → M2 c j = M c j := fun c j hc => (g1 c j hc).trans (f1 c j hc)
          have g2' : ∀ j, j < 4 → M2 126 j = M 126 j := fun j hj => (g2 j (by omega)).trans (f2 j hj)
          rw [e1]
          cases hb : allB (fun a => g2B R b r S (i / 12) (i % 12) a) 3 with
          | true =>
            rw [show b1 true = 1 from rfl, if_pos nz1]
            refine Z_of (Or.inr ⟨_, rfl, Or.inr ⟨_, rfl, anyB_iff.mpr ⟨i, hi, ?_⟩⟩⟩)
            unfold qB
            rw [hb, decide_eq_true hq]
            rfl
          | false =>
            rw [show b1 false = 0 from rfl, if_neg nz0, lt1_eq]
            refine next ?_ M2 g1' g2'
            unfold qB
            rw [hb, Bool.and_false]
      · have hsp := splits_no (lv := 0) (q := i) (by omega) hR12 (AM_R hb hA1) (by omega)
        rw [show ((0 : Nat) : Int) = 0 from rfl] at hsp
        rw [hsp, bind_some', jn_eq, if_pos (by decide)]
        refine next ?_ M1 f1 f2
        unfold qB
        rw [decide_eq_false hq]
        rfl
    · rintro ⟨l, M1⟩ ⟨el, hn, f1, f2⟩
      dsimp only at el hn f1 f2
      subst el
      unfold M_byTwo_b12
      dsimp only
      rw [AM_P hb (AM_keep hA f1), bind_some', show (12 : Int) * (nP R b : Int) = ((12 * nP R b : Nat) : Int) by omega, if_neg (by omega)]
      exact Z_of ⟨_, rfl, Or.inl ⟨_, rfl, anyB_no.mpr hn⟩⟩
  refine Z_mono key ?_
  rintro x (⟨M2, rfl, e⟩ | ⟨M2, rfl, e⟩)
  · dsimp only
    rw [e]
    exact Z_of rfl
  · dsimp only
    rw [e]
    exact Z_of rfl
theorem onB_cut {V W : Nat} {S : Nat → Bool} (hV : V ≤ W) (h : ∀ w, V ≤ w → w < W → S w = false) : onB R b r W S = onB R b r V S := by
  unfold onB
  refine anyB_congr (fun p _ => anyB_congr (fun q _ => allB_congr (fun a _ => tolB_cut hV (fun w h1 h2 => ?_))))
  unfold aks
  rw [h w h1 h2]; rfl
theorem twB_cut {V W : Nat} {S : Nat → Bool} (hV : V ≤ W) (h : ∀ w, V ≤ w → w < W → S w = false) : twB R b r W S = twB R b r V S := by
  unfold twB
  refine anyB_congr (fun p _ => anyB_congr (fun q _ => allB_congr (fun a _ => ?_)))
  have h' : ∀ w, V ≤ w → w < W → aks R S p q a w = false := fun w h1 h2 => by
    unfold aks
    rw [h w h1 h2]; rfl
  rw [tolB_cut hV h', onB_cut hV h']
end ASKG
theorem ws_ask {c j : Nat} (hp : prR c j = true) : ws_M_askings c j = false := by
  cases hw : ws_M_askings c j with
  | false => rfl
  | true =>
    exfalso
    unfold ws_M_askings at hw
    simp only [Bool.or_eq_true, Bool.and_eq_true, beq_iff_eq] at hw
    rcases hw with ((((rfl | rfl) | rfl) | rfl) | rfl) | ⟨rfl, rfl⟩ <;> simp [prR] at hp
theorem op_askings {C R : Mem} (h : Inv C R) {r k : Int} (hr : n32 r = r) (hk : n32 k = k) : ∃ v C' R', X_askings r k C = some (v, C') ∧ M_askings r k R = some (v, R') ∧ Inv C' R' := by
  have h0 := h
  obtain ⟨t, b, ht, h12, h13, hb, h38, -, -, -, -, hT, hS, -⟩ := h
  obtain ⟨C', R', e1, e2, hI, hK, hL, hT1, hC, hSR, h38', hI1⟩ := looked h0 ht h12 hb h38 hT hS hk
  have hF := num_F hT.1
  have h6 := two_pow8 hF.2.2
  have hwd := pow_wd hF.2.2
  suffices hh : ∃ v C2 R2, X_askings r k C = some (v, C2) ∧ M_askings r k R = some (v, R2) ∧ ∀ c j, c ≤ 70 → C2 c j = C c j by
    obtain ⟨v, C2, R2, q1, q2, q3⟩ := hh
    exact ⟨v, C2, R2, q1, q2, Inv_q q3 (fun c j hp => fk_M_askings q2 c j (ws_ask hp)) h0⟩
  unfold X_askings M_askings
  rw [h12, chk_pos (isTI_of rfl ht), lt1_eq, tn_nat, e1, bind_some', hC _ _ (by omega), h12, chk_pos (isTI_of rfl ht), lt1_eq, tn_nat, T_hasRow_eq hT1.1 hr, bind_some', M_isRow_eq hb h38 hT.1 hr, bind_some', hK.2.2.2.2.2]
  by_cases q : 0 ≤ r ∧ r < (nR R b : Int)
  · rw [if_pos q, if_neg nz1, e2, bind_some', hL.2.1]
    obtain ⟨r, rfl⟩ : ∃ y : Nat, r = (y : Int) := ⟨r.toNat, by omega⟩
    have c1 := cnt_le (lfB R b k) (2 ^ nF R b)
    rw [n32_nat (by omega)]
    by_cases q1 : cnt (lfB R b k) (2 ^ nF R b) = 0
    · rw [if_pos (Or.inr (by omega)), if_pos (by omega)]
      exact ⟨_, _, _, rfl, rfl, hC⟩
    · rw [if_neg (by rintro (z | z); exact nz1 z; omega), if_neg (by omega)]
      obtain ⟨⟨v, C2⟩, e3, hv, hC2⟩ := count_eq (S := lfB R b k) ht hT1 (r := r) (by omega) (fun w hw => ⟨hK.2.2.2.2.1 w hw, lfB_base⟩)
      dsimp only at hv hC2
      rw [e3, bind_some']
      obtain ⟨M1, e4, hA, hrow, h126⟩ := heard_eq hb h38' hT hL (r := r) (by omega)
      rw [e4, bind_some']
      have hcut : ∀ w, 64 * nwd (nF R b) ≤ w → w < 256 → lfB R b k w = false := by
        intro w h1 h2
        cases hl : lfB R b k w with
        | false => rfl
        | true =>
          have h9 := lfB_base hl
          unfold isB at h9
          rw [hT.2.2.2.2.2.1.2.1 w (by omega) h2] at h9
          cases h9
      have hO := M_isOne_eq (R := R) (r := r) (lv := 0) (M := M1) (S := lfB R b k) (by omega) h126 hrow
      rw [show ((0 : Nat) : Int) = 0 from rfl] at hO
      have hC3 : ∀ c j, c ≤ 70 → C2 c j = C c j := fun c j hc => (hC2 c j (by omega) (by omega)).trans (hC c j hc)
      rw [hO, bind_some', tolB_cut (by omega) hcut, hv]
      unfold askV
      cases hto : tolB R r (64 * nwd (nF R b)) (lfB R b k) with
      | true =>
        rw [show b1 true = 1 from rfl, if_pos nz1, if_pos rfl]
        exact ⟨_, _, _, rfl, rfl, hC3⟩
      | false =>
        have hto' : tolB R r 256 (lfB R b k) = false := by rw [tolB_cut (by omega) hcut]; exact hto
        rw [show b1 false = 0 from rfl, if_neg nz0, if_neg (by decide)]
        have h1 := byOne_eq (t := t) (b := b) (r := r) (C := C) (R := R) (L := lfB R b k) hb (lv := 0) (by omega) (S := lfB R b k) (M := M1) hA hrow (fun w hw z => z) h126
        rw [show ((0 : Nat) : Int) = 0 from rfl] at h1
        obtain ⟨⟨x, M2⟩, e5, hx, k1, k2⟩ := h1
        dsimp only at hx k1 k2
        rw [e5, bind_some']
        dsimp only
        rw [hx, hto', Bool.false_or, onB_cut (by omega) hcut]
        cases hon : onB R b r (64 * nwd (nF R b)) (lfB R b k) with
        | true =>
          rw [show b1 true = 1 from rfl, if_pos nz1, if_pos rfl]
          exact ⟨_, _, _, rfl, rfl, hC3⟩
        | false =>
          have hon' : onB R b r 256 (lfB R b k) = false := by rw [onB_cut (by omega) hcut]; exact hon
          rw [show b1 false = 0 from rfl, if_neg nz0, if_neg (by decide)]
          obtain ⟨⟨y, M3⟩, e6, hy⟩ := byTwo_eq (t := t) (C := C) (M := M2) hb (AM_keep hA k1) (fun w hw hl => by rw [← hrow w hw hl]; exact sb_eq (k1 _ _ (by decide))) (fun w hw z => z) (S := lfB R b k) (fun w hw => by rw [← h126 w hw]; exact sb_eq (k2 _ (by omega))) hto' hon'
          dsimp only at hy
          rw [e6, bind_some']
          dsimp only
          rw [hy, twB_cut (by omega) hcut]
          cases htw : twB R b r (64 * nwd (nF R b)) (lfB R b k) with
          | true =>
            rw [show b1 true = 1 from rfl, if_pos nz1, if_pos rfl]
            exact ⟨_, _, _, rfl, rfl, hC3⟩
          | false =>
            rw [show b1 false = 0 from rfl, if_neg nz0, if_neg (by decide)]
            exact ⟨_, _, _, rfl, rfl, hC3⟩
  · rw [if_neg q, if_pos (Or.inl (show n32 0 = 0 by decide)), if_pos (show n32 0 = 0 by decide)]
    exact ⟨_, _, _, rfl, rfl, hC⟩
