/-! ===== lies may say ===== -/
theorem cpy_eq2 {M : Mem} {c c' o n : Nat} {x y z : Int} (hz : z = 0) (hy : y = (o : Int)) (hx : x = (n : Int)) : cpy M c c' (Int.toNat z) (Int.toNat y) (Int.toNat x) = wup M c' o n (M c) := by
  subst hz hy hx
  funext a b
  show (if a = c' ∧ o ≤ b ∧ b < o + n then M c (0 + (b - o)) else M a b) = _
  rw [wup_at]
  simp only [Nat.zero_add]
/-- what one of those who say it has to hold -/
def cS (R : Mem) (su : Int) (r w p : Nat) : Bool := if su = 1 then decide (ansV R p r w = 1) else !decide (ansV R p r w = 0)
theorem canS_eq {R : Mem} {b s r w : Nat} {ap su : Int} : canS R b (s : Int) (r : Int) ap su w = (lawB R b (popc s) ap (b1 (tiedI R b s)) (1 - su) || allB (fun p => !s.testBit p || cS R su r w p) (nP R b)) := rfl
section SAY
variable {t b : Nat} {C R : Mem}
theorem putS_in (ht : isT t) (h : NumR t b C R) (hW : WdR t b C R) {M : Mem} {to o L : Nat} (hto : to = 80 ∨ to = 48) (hL : aJ 80 to = (L : Int)) (ho : o + 4 ≤ L) (hM : ∀ c k, c ≠ to → M c k = C c k) {su : Int} (hsu : su = 0 ∨ su = 1) {q : Nat} (hq : q + 4 ≤ 384) : it (T_putSayable_b60 t su to (o : Int) (q : Int)) FUEL (0, M) = some (wup M to o (nwd (nF R b)) (fun j => jand (M to (o + j)) (if su = 1 then C (t + 10) (q + j) else jxor (C (t + 11) (q + j)) (-1)))) := by
  have h1 := num_F h
  have h3 := pow_wd h1.2.2
  have ht2 : t ≤ 15 := by unfold isT at ht; omega
  refine it_for (fun j => ((j : Int), wup M to o j (fun j => jand (M to (o + j)) (if su = 1 then C (t + 10) (q + j) else jxor (C (t + 11) (q + j)) (-1))))) (nwd (nF R b)) (by unfold FUEL; omega) (by rw [wup_0]; rfl) ?_ ?_
  · intro j hj
    unfold T_putSayable_b60
    dsimp only
    rw [wup_c (show t ≠ to by omega), hM t _ (by omega), show C t 6 = (nwd (nF R b) : Int) from hW, n32_nat (by omega), n32_nat (by omega), if_pos (by omega), hL, chk_pos (by omega), chk_pos (by omega), chk_pos (by omega), tn_add, tn_add, wup_c (show t + 10 ≠ to by omega), hM (t + 10) _ (by omega), wup_c (show t + 11 ≠ to by omega), hM (t + 11) _ (by omega), wup_out (by omega)]
    rcases hsu with e | e
    · rw [e, if_neg nz0, bind_some', lt1_eq, lt1_eq, wup_s (by rw [if_neg (by decide)])]
      rfl
    · rw [e, if_pos nz1, bind_some', lt1_eq, lt1_eq, wup_s (by rw [if_pos rfl])]
      rfl
  · unfold T_putSayable_b60
    dsimp only
    rw [wup_c (show t ≠ to by omega), hM t _ (by omega), show C t 6 = (nwd (nF R b) : Int) from hW, if_neg (by omega)]
theorem T_putSayable_eq (ht : isT t) (hT : Town t b C R) {to o L : Nat} (hto : to = 80 ∨ to = 48) (hL : aJ 80 to = (L : Int)) (ho : o + 4 ≤ L) {s r : Nat} (hs : s < 2 ^ nP R b) (h0 : 0 < s) (hr : r < nR R b) {ap su : Int} (hap : ap = 0 ∨ ap = 1) (hsu : su = 0 ∨ su = 1) : Z (T_putSayable t (s : Int) (r : Int) ap su to (o : Int) C) (fun C' => (∀ w, w < 64 * nwd (nF R b) → sb C' to o w = (isB R w && canS R b (s : Int) (r : Int) ap su w)) ∧ ∀ c k, ¬ (c = to ∧ o ≤ k ∧ k < o + 4) → C' c k = C c k) := by
  have hT' := hT
  obtain ⟨h, hW, -, hTi, -, hB, -, hA, hLw⟩ := hT
  have h1 := num_F h
  have h2 := num_P h
  have h4 := num_R h
  have h3 := pow_wd h1.2.2
  have h5 := two_pow8 h2.2.2
  have ht2 : t + 11 ≤ 26 := by unfold isT at ht; omega
  have eW : C t 6 = (nwd (nF R b) : Int) := hW
  unfold T_putSayable
  rw [chk_pos (by rw [eW, hL]; omega), lt1_eq, cpy_eq2 rfl rfl eW]
  have k0 : ∀ w, w < 64 * nwd (nF R b) → sb (wup C to o (nwd (nF R b)) (C (t + 8))) to o w = isB R w := by
    intro w hw
    rw [sb_wup hw]
    have := hB.2.2 w hw
    unfold sb at this
    rw [Nat.zero_add] at this
    exact this
  have kf : ∀ c k, ¬ (c = to ∧ o ≤ k ∧ k < o + 4) → wup C to o (nwd (nF R b)) (C (t + 8)) c k = C c k := by
    intro c k hc
    rw [wup_at, if_neg (by omega)]
  generalize wup C to o (nwd (nF R b)) (C (t + 8)) = M at k0 kf
  have hTM : Town t b M R := Town_tw (fun c k q1 q2 => kf c k (by omega)) hT'
  rw [T_mayLie_eq hTM.1 hTM.2.2.2.1 hTM.2.2.2.2.2.2.2.2 hs h0 hap hsu, bind_some']
  cases hl : lawB R b (popc s) ap (b1 (tiedI R b s)) (1 - su) with
  | true =>
    rw [if_pos (by decide)]
    refine Z_of ⟨fun w hw => ?_, kf⟩
    rw [k0 w hw, canS_eq, hl, Bool.true_or, Bool.and_true]
  | false =>
    rw [if_neg (by decide), Z_bind_iff]
    refine it_Z (fun i st => st.1 = (i : Int) ∧ (∀ w, w < 64 * nwd (nF R b) → sb st.2 to o w = (isB R w && allB (fun p => !s.testBit p || cS R su r w p) i)) ∧ ∀ c k, ¬ (c = to ∧ o ≤ k ∧ k < o + 4) → st.2 c k = C c k) (nP R b) (by unfold FUEL; omega) ⟨rfl, fun w hw => by rw [k0 w hw]; unfold allB anyB; simp, kf⟩ ?_ ?_
    · rintro i ⟨j, M'⟩ hi ⟨e, g0, gf⟩
      dsimp only at e g0 gf
      subst e
      unfold T_putSayable_b31
      dsimp only
      rw [gf t _ (by omega), h2.2.1, n32_nat (by omega), n32_nat (by omega), if_pos (by omega), X_hasBit_eq (by omega) (by omega), bind_some']
      cases hb : s.testBit i with
      | false =>
        rw [if_neg (show ¬ (false = true) by decide), if_neg nz0, bind_some', lt1_eq]
        refine Z_of (Or.inl ⟨_, rfl, rfl, fun w hw => ?_, gf⟩)
        rw [allB_succ, hb, g0 w hw]
        simp
      | true =>
        rw [if_pos rfl, if_pos nz1]
        unfold T_place
        rw [bind_some', show ((i : Int) * 12 + (r : Int)) * 4 = ((4 * (12 * i + r) : Nat) : Int) from by omega]
        rw [putS_in ht h hW hto hL ho (fun c k hc => gf c k (by omega)) hsu (by omega), bind_some', bind_some', lt1_eq]
        refine Z_of (Or.inl ⟨_, rfl, rfl, fun w hw => ?_, fun c k hc => ?_⟩)
        · dsimp only
          rw [sb_wup hw, qb_and]
          have e1 := g0 w hw
          unfold sb at e1
          rw [e1, allB_succ, hb]
          obtain ⟨k1, k2, k3⟩ := hA i r w hi hr hw
          unfold sb at k2 k3
          have e2 : (isB R w && qb (if su = 1 then C (t + 10) (4 * (12 * i + r) + w / 64) else jxor (C (t + 11) (4 * (12 * i + r) + w / 64)) (-1)) (w % 64)) = (isB R w && cS R su r w i) := by
            unfold cS
            rcases hsu with e | e
            · rw [e, if_neg (by decide), if_neg (by decide), qb_not _ (by omega), k3]
              cases isB R w <;> simp
            · rw [e, if_pos rfl, if_pos rfl, k2]
              cases isB R w <;> simp
          revert e2
          generalize qb (if su = 1 then C (t + 10) (4 * (12 * i + r) + w / 64) else jxor (C (t + 11) (4 * (12 * i + r) + w / 64)) (-1)) (w % 64) = x
          generalize cS R su r w i = y
          generalize allB (fun p => !s.testBit p || cS R su r w p) i = z
          generalize isB R w = u
          cases x <;> cases y <;> cases z <;> cases u <;> decide
        · dsimp only
          rw [wup_at, if_neg (by omega)]
          exact gf c k hc
    · rintro ⟨j, M'⟩ ⟨e, g0, gf⟩
      dsimp only at e g0 gf
      subst e
      unfold T_putSayable_b31
      dsimp only
      rw [gf t _ (by omega), h2.2.1, if_neg (by omega)]
      refine Z_of ⟨_, rfl, Z_of ⟨fun w hw => ?_, gf⟩⟩
      rw [g0 w hw, canS_eq, hl, Bool.false_or]
theorem SameR_115 {R' : Mem} (h : ∀ c k, c ≠ 115 → R' c k = R c k) : SameR R R' := SameR_of (fun c k h1 h2 h3 => h c k (by omega))
theorem M_canSay_eq (hb : b < 2) (h38 : R 81 38 = (b : Int)) (hT : Town t b C R) {s r w : Nat} (hs : s < 2 ^ nP R b) (hr : r < nR R b) (hw : w < 2 ^ nF R b) (hwb : isB R w = true) {ap su : Int} (hap : ap = 0 ∨ ap = 1) (hsu : su = 0 ∨ su = 1) : ∃ R', M_canSay (s : Int) (r : Int) ap su (w : Int) R = some (b1 (canS R b (s : Int) (r : Int) ap su w), R') ∧ ∀ c k, c ≠ 115 → R' c k = R c k := by
  obtain ⟨h, hW, -, hTi, -, hB, -, hA, hLw⟩ := hT
  have h1 := num_F h
  have h2 := num_P h
  have h4 := num_R h
  have h3 := pow_wd h1.2.2
  have h5 := two_pow8 h2.2.2
  have h6 := two_pow8 h1.2.2
  obtain ⟨R', e⟩ := M_mayLie_eq hb h38 h hTi hLw.1 (s := s) (by omega) hap hsu
  have hf : ∀ c k, c ≠ 115 → R' c k = R c k := fun c k hc => fk_M_mayLie e c k (by simp [ws_M_mayLie, hc])
  unfold M_canSay
  rw [e, bind_some']
  dsimp only
  rw [canS_eq]
  cases hl : lawB R b (popc s) ap (b1 (tiedI R b s)) (1 - su) with
  | true =>
    rw [if_pos (by decide)]
    exact ⟨R', rfl, hf⟩
  | false =>
    rw [if_neg (by decide), Bool.false_or]
    have hbody : ∀ i : Nat, i < nP R b → M_canSay_b16 (s : Int) (r : Int) su (w : Int) R' (i : Int) = if (s.testBit i && !cS R su r w i) = true then some (.inr (.inr (0, R'))) else some (.inl ((i : Int) + 1)) := by
      intro i hi
      unfold M_canSay_b16 M_personMany
      have ha : M_answerAt (i : Int) (r : Int) (w : Int) R' = some (ansV R i r w) := by
        rw [M_answerAt_eq (by omega) (by omega) (by omega)]
        unfold ansV
        rw [hf 114 _ (by omega)]
      obtain ⟨k1, -, -⟩ := hA i r w hi hr (by omega)
      rw [hf 81 _ (by omega), h38, chk_pos (by omega), tn_nat, bind_some', hf 85 _ (by omega), h2.1, n32_nat (by omega), n32_nat (by omega), if_pos (by omega), jn_eq, hb_eq (by omega) (by omega)]
      cases s.testBit i with
      | false => rfl
      | true =>
        rw [if_pos rfl, if_pos (by decide), jn_eq, ha]
        unfold cS
        rcases hsu with e | e
        · rw [e, if_neg nz0, bind_some']
          rcases k1 hwb with e | e | e <;> rw [e] <;> rfl
        · rw [e, if_pos nz1, bind_some', if_pos rfl]
          rcases k1 hwb with e | e | e <;> rw [e] <;> rfl
    have F := it_find (body := M_canSay_b16 (s : Int) (r : Int) su (w : Int) R') (p := fun i => s.testBit i && !cS R su r w i) (v := fun _ => (0, R')) (nP R b) (by unfold FUEL; omega) (fun i hi hp => by rw [hbody i hi, if_pos hp]) (fun i hi hp => by rw [hbody i hi, if_neg (by rw [hp]; decide)]) ?_
    · have e3 : allB (fun p => !s.testBit p || cS R su r w p) (nP R b) = !anyB (fun i => s.testBit i && !cS R su r w i) (nP R b) := by
        unfold allB
        rw [anyB_congr (fun i _ => by rw [Bool.not_or, Bool.not_not])]
      rw [e3]
      cases ha : anyB (fun i => s.testBit i && !cS R su r w i) (nP R b) with
      | false =>
        rw [F.1 ha]
        exact ⟨R', rfl, hf⟩
      | true =>
        obtain ⟨i, -, -, -, q⟩ := F.2 ha
        rw [q]
        exact ⟨R', rfl, hf⟩
    · unfold M_canSay_b16 M_personMany
      rw [hf 81 _ (by omega), h38, chk_pos (by omega), tn_nat, bind_some', hf 85 _ (by omega), h2.1, if_neg (by omega)]
theorem ws_some (hb : b < 2) (h38 : R 81 38 = (b : Int)) (h : NumR t b C R) {s : Int} (hs : n32 s = s) : ((0 < s ∧ s < ((2 ^ nP R b : Nat) : Int)) ∧ T_hasPersons t s C = some 1 ∧ M_areSome s R = some 1) ∨ (¬ (0 < s ∧ s < ((2 ^ nP R b : Nat) : Int)) ∧ T_hasPersons t s C = some 0 ∧ M_areSome s R = some 0) := by
  have h2 := num_P h
  have h5 := two_pow8 h2.2.2
  have h6 := Nat.two_pow_pos (nP R b)
  unfold T_hasPersons M_areSome
  rw [M_personMany_eq hb h38 h, bind_some', h2.2.1, ishl_1 (by omega), hs, n32_nat (by omega)]
  by_cases q : 0 < s ∧ s < ((2 ^ nP R b : Nat) : Int)
  · rw [if_pos q, if_pos q.1, if_pos q.2]
    exact Or.inl ⟨q, rfl, rfl⟩
  · rw [if_neg q]
    refine Or.inr ⟨q, rfl, ?_⟩
    by_cases q1 : 0 < s
    · rw [if_pos q1, if_neg (fun z => q ⟨q1, z⟩)]; rfl
    · rw [if_neg q1]; rfl
end SAY
theorem Inv_115 {C R R' : Mem} (h : Inv C R) (hf : ∀ c k, c ≠ 115 → R' c k = R c k) : Inv C R' := Inv_q (fun _ _ _ => rfl) (fun c k hp => hf c k (by rintro rfl; simp [prR] at hp)) h
theorem op_lies {C R : Mem} (h : Inv C R) {s ap su : Int} (hs : n32 s = s) (hap : ap = 0 ∨ ap = 1) (hsu : su = 0 ∨ su = 1) : ∃ v R', X_lies s ap su C = some v ∧ M_lies s ap su R = some (v, R') ∧ Inv C R' := by
  have h0 := h
  obtain ⟨t, b, ht, h12, h13, hb, h38, -, -, -, -, ⟨hN, -, -, hTi, -, -, -, -, hL⟩, -, -⟩ := h
  have h2 := num_P hN
  have h5 := two_pow8 h2.2.2
  unfold X_lies M_lies
  rw [h12, chk_pos (isTI_of rfl ht), lt1_eq, tn_nat]
  rcases ws_some hb h38 hN hs with ⟨q, e1, e2⟩ | ⟨q, e1, e2⟩
  · rw [e1, e2, bind_some', bind_some', if_neg nz1, if_neg nz1]
    obtain ⟨s, rfl⟩ : ∃ y : Nat, s = (y : Int) := ⟨s.toNat, by omega⟩
    obtain ⟨R', e⟩ := M_mayLie_eq hb h38 hN hTi hL.1 (s := s) (by omega) hap hsu
    rw [T_mayLie_eq hN hTi hL (by omega) (by omega) hap hsu, bind_some', e, bind_some']
    have hI := Inv_115 h0 (fun c k hc => fk_M_mayLie e c k (by simp [ws_M_mayLie, hc]))
    cases lawB R b (popc s) ap (b1 (tiedI R b s)) (1 - su)
    · exact ⟨_, R', rfl, rfl, hI⟩
    · exact ⟨_, R', rfl, rfl, hI⟩
  · rw [e1, e2]
    exact ⟨_, _, rfl, rfl, h0⟩
theorem op_may {C R : Mem} (h : Inv C R) {s r ap su w : Int} (hs : n32 s = s) (hr : n32 r = r) (hw : n32 w = w) (hap : ap = 0 ∨ ap = 1) (hsu : su = 0 ∨ su = 1) : ∃ v C' R', X_may s r ap su w C = some (v, C') ∧ M_may s r ap su w R = some (v, R') ∧ Inv C' R' := by
  have h0 := h
  obtain ⟨t, b, ht, h12, h13, hb, h38, -, -, -, -, hT, -, -⟩ := h
  have hT' := hT
  obtain ⟨hN, hWd, -, hTi, -, hB, -, hA, hL⟩ := hT
  have h1 := num_F hN
  have h2 := num_P hN
  have h3 := num_R hN
  have h4 := pow_wd h1.2.2
  have h5 := two_pow8 h2.2.2
  have h6 := two_pow8 h1.2.2
  unfold X_may M_may
  rw [h12, chk_pos (isTI_of rfl ht), lt1_eq, tn_nat]
  rcases ws_some hb h38 hN hs with ⟨q, e1, e2⟩ | ⟨q, e1, e2⟩
  · rw [e1, e2, bind_some', bind_some', if_pos nz1, if_pos nz1, M_isRow_eq hb h38 hN hr, bind_some']
    rcases T_canBe_eq ht hN hB hr hw with ⟨k, e⟩ | ⟨k, e⟩
    · rw [e, bind_some', if_neg nz1, bind_some', if_neg (by decide), if_pos k.1, if_pos nz1]
      rcases M_isWorld_eq hb h38 hN hB hw with ⟨k2, e2⟩ | ⟨k2, e2⟩
      · rw [e2, bind_some', if_neg nz1, bind_some', if_neg (by decide)]
        obtain ⟨⟨k3, k4⟩, k5, k6, k7⟩ := k
        obtain ⟨r, rfl⟩ : ∃ q : Nat, r = (q : Int) := ⟨r.toNat, by omega⟩
        obtain ⟨w, rfl⟩ : ∃ q : Nat, w = (q : Int) := ⟨w.toNat, by omega⟩
        obtain ⟨s, rfl⟩ : ∃ q : Nat, s = (q : Int) := ⟨s.toNat, by omega⟩
        change isB R w = true at k7
        obtain ⟨C', e3, g0, gf⟩ := T_putSayable_eq ht hT' (Or.inl rfl) aJ80 (o := 0) (by omega) (s := s) (r := r) (by omega) (by omega) (by omega) hap hsu
        obtain ⟨R', e4, rf⟩ := M_canSay_eq hb h38 hT' (s := s) (r := r) (w := w) (by omega) (by omega) (by omega) k7 hap hsu
        rw [show T_putSayable t (s : Int) (r : Int) ap su 80 0 C = some C' from e3, bind_some', e4, bind_some']
        have e5 := X_has_eq (c := 80) (o := 0) (w := w) C' aJ80 (by omega) (by omega)
        rw [show ((0 : Nat) : Int) = 0 from rfl] at e5
        rw [e5, bind_some', g0 w (by omega), k7, Bool.true_and]
        have hI : Inv C' R' := Inv_115 (Inv_q (fun c k hc => gf c k (by omega)) (fun _ _ _ => rfl) h0) rf
        cases canS R b (s : Int) (r : Int) ap su w
        · exact ⟨_, _, _, rfl, rfl, hI⟩
        · exact ⟨_, _, _, rfl, rfl, hI⟩
      · exact absurd k.2 k2
    · rw [e, bind_some', if_pos (show n32 0 = 0 by decide), bind_some', if_pos rfl]
      by_cases q : 0 ≤ r ∧ r < (nR R b : Int)
      · rw [if_pos q, if_pos nz1]
        rcases M_isWorld_eq hb h38 hN hB hw with ⟨k2, e2⟩ | ⟨k2, e2⟩
        · exact absurd ⟨q, k2⟩ k
        · rw [e2]; exact ⟨_, _, _, rfl, rfl, h0⟩
      · rw [if_neg q]; exact ⟨_, _, _, rfl, rfl, h0⟩
  · rw [e1, e2]
    exact ⟨_, _, _, rfl, rfl, h0⟩
theorem op_say {C R : Mem} (h : Inv C R) {s r ap su : Int} (hs : n32 s = s) (hr : n32 r = r) (hap : ap = 0 ∨ ap = 1) (hsu : su = 0 ∨ su = 1) : ∃ v C' R', X_say s r ap su C = some (v, C') ∧ M_say s r ap su R = some (v, R') ∧ Inv C' R' := by
  have h0 := h
  obtain ⟨t, b, ht, h12, h13, hb, h38, a4, ⟨t1, t2, t3⟩, a6, a7, hT, ⟨m, m1, m2, m3, m4⟩, a10⟩ := h
  have hT' := hT
  obtain ⟨hN, hWd, -, hTi, -, hB, -, hA, hL⟩ := hT
  have h1 := num_F hN
  have h2 := num_P hN
  have h3 := num_R hN
  have h4 := pow_wd h1.2.2
  have h5 := two_pow8 h2.2.2
  have ht2 : t + 11 ≤ 26 ∧ 3 ≤ t := by unfold isT at ht; omega
  unfold X_say M_say
  rw [lt1_eq, h12, chk_pos (isTI_of rfl ht), lt1_eq, tn_nat]
  rcases ws_some hb h38 hN hs with ⟨q, e1, e2⟩ | ⟨q, e1, e2⟩
  · rw [e1, e2, bind_some', bind_some', if_pos nz1, if_pos nz1, M_isRow_eq hb h38 hN hr, T_hasRow_eq hN hr, bind_some', bind_some', m2, m3, n32_nat (by omega)]
    by_cases q2 : 0 ≤ r ∧ r < (nR R b : Int)
    · rw [if_pos q2, if_pos nz1, if_pos nz1]
      by_cases q3 : m = 40
      · rw [if_pos (by omega), if_pos (by omega)]
        exact ⟨_, _, _, rfl, rfl, h0⟩
      · rw [if_neg (by omega), if_neg (by omega), bind_some', bind_some', if_neg (by decide), if_neg (by decide)]
        obtain ⟨r, rfl⟩ : ∃ q : Nat, r = (q : Int) := ⟨r.toNat, by omega⟩
        obtain ⟨s, rfl⟩ : ∃ q : Nat, s = (q : Int) := ⟨s.toNat, by omega⟩
        have hY : Y_add 42 (s : Int) (r : Int) su (C 1 12) C = some (up (up (up (up (up (up C 43 m (s : Int)) 44 m (r : Int)) 45 m su) 46 m (C 1 12)) 47 m (-1)) 42 0 ((m + 1 : Nat) : Int)) := by
          unfold Y_add
          simp only [Nat.reduceAdd]
          rw [m2, chk_pos (by omega), lt1_eq, tn_nat, up_c (by omega), m2, chk_pos (by omega), lt1_eq, tn_nat, up_c (by omega), up_c (by omega), m2, chk_pos (by omega), chk_pos hsu, lt1_eq, tn_nat, up_c (by omega), up_c (by omega), up_c (by omega), m2, chk_pos (by omega), lt1_eq, tn_nat, up_c (by omega), up_c (by omega), up_c (by omega), up_c (by omega), m2, chk_pos (by omega), lt1_eq, tn_nat, lt1_eq, up_c (by omega), up_c (by omega), up_c (by omega), up_c (by omega), up_c (by omega), m2]
          rfl
        rw [hY, bind_some']
        generalize hD : up (up (up (up (up (up C 43 m (s : Int)) 44 m (r : Int)) 45 m su) 46 m (C 1 12)) 47 m (-1)) 42 0 ((m + 1 : Nat) : Int) = D
        have d0 : ∀ c k, c < 42 ∨ 47 < c → D c k = C c k := fun c k hc => by rw [← hD]; simp (disch := omega) only [up_c]
        have d42 : D 42 0 = ((m + 1 : Nat) : Int) := by rw [← hD]; exact up_eq
        have d1 : ∀ c k, k ≠ m → 43 ≤ c → D c k = C c k := fun c k hk hc => by
          rw [← hD, up_c (by omega)]
          simp only [up_at]
          rw [if_neg (by omega), if_neg (by omega), if_neg (by omega), if_neg (by omega), if_neg (by omega)]
        have d43 : D 43 m = (s : Int) := by rw [← hD]; simp (disch := omega) only [up_c]; exact up_eq
        have d44 : D 44 m = (r : Int) := by rw [← hD]; simp (disch := omega) only [up_c]; exact up_eq
        have d45 : D 45 m = su := by rw [← hD]; simp (disch := omega) only [up_c]; exact up_eq
        have d46 : D 46 m = C 1 12 := by rw [← hD]; simp (disch := omega) only [up_c]; exact up_eq
        have d47 : D 47 m = -1 := by rw [← hD]; simp (disch := omega) only [up_c]; exact up_eq
        clear hD hY
        have hTD : Town t b D R := Town_tw (fun c k q1 q2 => d0 c k (by omega)) hT'
        obtain ⟨C', e3, g0, gf⟩ := T_putSayable_eq ht hTD (Or.inr rfl) aJ48 (o := 4 * m) (by omega) (s := s) (r := r) (by omega) (by omega) (by omega) hap hsu
        rw [d0 1 2 (by omega), h12, chk_pos (isTI_of rfl ht), lt1_eq, tn_nat, show (m : Int) * 4 = ((4 * m : Nat) : Int) from by omega, show T_putSayable t (s : Int) (r : Int) ap su 48 ((4 * m : Nat) : Int) D = some C' from e3, bind_some']
        simp (disch := omega) only [chk_pos, lt1_eq, up_c, m3, tn_nat, up_eq]
        have hR : ∀ z, z = some (((m : Int) + 1 - 1), up (up (up (up (up (up (up R 116 m (s : Int)) 117 m (r : Int)) 120 m ap) 121 m su) 118 m (R 81 58)) 119 m (-1)) 81 57 ((m : Int) + 1)) → ∃ v C'' R', some ((m : Int), C') = some (v, C'') ∧ z = some (v, R') ∧ Inv C'' R' := by
          intro z hz
          generalize hE : up (up (up (up (up (up (up R 116 m (s : Int)) 117 m (r : Int)) 120 m ap) 121 m su) 118 m (R 81 58)) 119 m (-1)) 81 57 ((m : Int) + 1) = E at hz
          have f0 : ∀ c k, c < 116 ∨ 121 < c → ¬ (c = 81 ∧ k = 57) → E c k = R c k := fun c k hc h2 => by
            rw [← hE, up_at, if_neg h2]
            simp (disch := omega) only [up_c]
          have f57 : E 81 57 = ((m + 1 : Nat) : Int) := by rw [← hE, up_eq]; rfl
          have f1 : ∀ c k, k ≠ m → 116 ≤ c → E c k = R c k := fun c k hk hc => by
            rw [← hE, up_c (by omega)]
            simp only [up_at]
            rw [if_neg (by omega), if_neg (by omega), if_neg (by omega), if_neg (by omega), if_neg (by omega), if_neg (by omega)]
          have f116 : E 116 m = (s : Int) := by rw [← hE]; simp (disch := omega) only [up_c]; exact up_eq
          have f117 : E 117 m = (r : Int) := by rw [← hE]; simp (disch := omega) only [up_c]; exact up_eq
          have f118 : E 118 m = R 81 58 := by rw [← hE]; simp (disch := omega) only [up_c]; exact up_eq
          have f119 : E 119 m = -1 := by rw [← hE]; simp (disch := omega) only [up_c]; exact up_eq
          have f120 : E 120 m = ap := by rw [← hE]; simp (disch := omega) only [up_c]; exact up_eq
          have f121 : E 121 m = su := by rw [← hE]; simp (disch := omega) only [up_c]; exact up_eq
          clear hE
          refine ⟨(m : Int), C', E, rfl, by rw [hz, Int.add_sub_cancel], ?_⟩
          have hS : SameR R E := SameR_of (fun c k h1 h2 h3 => f0 c k (by omega) (by omega))
          have kC : ∀ c k, c < 42 ∨ 48 < c → C' c k = C c k := fun c k hc => (gf c k (by omega)).trans (d0 c k (by omega))
          refine Inv_gen ht h12 h13 hb h38 hT' (kC _ _ (by omega)) (kC _ _ (by omega)) (f0 _ _ (by omega) (by omega)) hS (fun c k h1 h2 => kC _ _ (by omega)) (Tape_keep (fun k => kC _ _ (by omega)) (kC _ _ (by omega)) (fun k => f0 _ _ (by omega) (by omega)) (f0 _ _ (by omega) (by omega)) a4) (Time_keep (kC _ _ (by omega)) (f0 _ _ (by omega) (by omega)) ⟨t1, t2, t3⟩) (Fault_keep (kC _ _ (by omega)) (kC _ _ (by omega)) (f0 _ _ (by omega) (by omega)) (f0 _ _ (by omega) (by omega)) a6) (Kept_keep (fun k => kC _ _ (by omega)) a7) ⟨m + 1, by omega, (gf _ _ (by omega)).trans d42, f57, ?_⟩ (Box_keep hS (fun c k h1 h2 => kC _ _ (by omega)) (fun c k h1 h2 => f0 _ _ (by omega) (by omega)) a10)
          intro n hn
          simp only [Nat.zero_add, Nat.reduceAdd]
          rw [keep_nP hS, keep_nF hS, f0 86 _ (by omega) (by omega), gf 43 _ (by omega), gf 44 _ (by omega), gf 45 _ (by omega), gf 46 _ (by omega), gf 47 _ (by omega)]
          simp only [keep_canS hS, keep_isB hS]
          by_cases e : n = m
          · subst e
            rw [d43, d44, d45, d46, d47, f116, f117, f118, f119, f120, f121, h3.1]
            exact ⟨⟨rfl, by omega, by omega⟩, ⟨rfl, by omega, by omega⟩, ⟨rfl, hsu⟩, ⟨t1, by omega, by omega⟩, ⟨rfl, by omega, by omega⟩, hap, g0⟩
          · have k := m4 n (by omega)
            simp only [Nat.zero_add, Nat.reduceAdd] at k
            rw [d1 43 _ e (by omega), d1 44 _ e (by omega), d1 45 _ e (by omega), d1 46 _ e (by omega), d1 47 _ e (by omega), f1 116 _ e (by omega), f1 117 _ e (by omega), f1 118 _ e (by omega), f1 119 _ e (by omega), f1 120 _ e (by omega), f1 121 _ e (by omega)]
            obtain ⟨k1, k2, k3, k4, k5, k6, k7⟩ := k
            refine ⟨k1, k2, k3, k4, k5, k6, fun w hw => ?_⟩
            rw [← k7 w hw]
            have hw2 : w / 64 < 4 := by omega
            unfold sb
            rw [gf 48 _ (by omega), d0 48 _ (by omega)]
        exact hR _ rfl
    · rw [if_neg q2, if_neg nz0, if_neg nz0]
      exact ⟨_, _, _, rfl, rfl, h0⟩
  · rw [e1, e2]
    exact ⟨_, _, _, rfl, rfl, h0⟩
