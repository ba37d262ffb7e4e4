/-! ===== the sets of a town as told ===== -/
theorem eqv_self (k w : Nat) : eqv k w w = true := by
  unfold eqv
  rw [decide_eq_true_eq, Nat.xor_self, Nat.zero_and]
section SETTLE
variable {t b F : Nat} {C R : Mem}
theorem RowD_mono {W W' : Nat → Prop} {r : Nat} {C1 R1 : Mem} (h : RowD t F W r C R) (hW : ∀ w, W' w → W w) (h1 : ∀ k, C1 (t + 9) k = C (t + 9) k) (h2 : ∀ k, R1 112 k = R 112 k) : RowD t F W' r C1 R1 := by
  have eI : ∀ w, rowI R1 r w = rowI R r w := fun w => by unfold rowI; rw [h2]
  exact ⟨fun w hw => by rw [h2, eI]; exact h.1 w hw, fun w hw => by rw [eI, ← h.2 w (hW w hw)]; exact sb_eq (h1 _)⟩
theorem Num_keep {C' R' : Mem} (hC : ∀ k, k < 6 → C' t k = C t k) (hR : ∀ c k, 84 ≤ c → c ≤ 107 → R' c k = R c k) (h : NumR t b C R) : NumR t b C' R' := by
  unfold NumR
  rw [hC 0 (by omega), hC 1 (by omega), hC 2 (by omega), hC 3 (by omega), hC 4 (by omega), hC 5 (by omega), hR 84 _ (by omega) (by omega), hR 85 _ (by omega) (by omega), hR 86 _ (by omega) (by omega), hR 88 _ (by omega) (by omega), hR 89 _ (by omega) (by omega), hR 90 _ (by omega) (by omega)]
  exact h
theorem settle_eq (ht : isT t) (hb : b < 2) (hN : NumR t b C R) (hCo : CostR t b C R) (hTi : TieR t b C R) (hWi : WishR t b C R) (h38 : R 81 38 = (b : Int)) (h27 : C 27 16 = (t : Int)) (hK : KnoP t b C R) (hRows : RowsP t b C R) (hAlw : AlwP t b C R) (hL : LwP b C R) : ∃ C' R', N_settle C = some C' ∧ M_layWorlds R = some R' ∧ Town t b C' R' ∧ FC t C C' ∧ FR R R' := by
  have ht2 : t ≤ 15 := by unfold isT at ht; omega
  have hF := num_F hN
  have hP := num_P hN
  have hRn := num_R hN
  generalize hFe : nF R b = F at *
  have hst : StP t b F C R := ⟨ht, hb, hN, hFe.symm, h38, h27, hK⟩
  have h8 := two_pow8 hF.2.2
  have hw4 := pow_wd hF.2.2
  -- words
  have ev : (if n32 (C t 0) ≤ 6 then some (1 : Int) else some (ishl 1 ((C t 0) - 6))) = some (nwd F : Int) := by
    rw [hF.2.1, n32_nat (by omega)]
    rcases nwd_cases hF.2.2 with ⟨z1, z2⟩ | ⟨z1, z2⟩ | ⟨z1, z2⟩
    · rw [if_pos (by omega), z2]; rfl
    · rw [if_neg (by omega), z2, z1]; rfl
    · rw [if_neg (by omega), z2, z1]; rfl
  generalize hC1 : up C t 6 (nwd F : Int) = C1
  have f1 : ∀ a k, ¬ (a = t ∧ k = 6) → C1 a k = C a k := fun a k z => by rw [← hC1, up_at, if_neg z]
  have g61 : C1 t 6 = (nwd F : Int) := by rw [← hC1, up_eq]
  -- law
  have hL1 : LwP b C1 R := by
    obtain ⟨l1, l2, l3⟩ := hL
    refine ⟨by rw [f1 _ _ (by omega)]; exact l1, l2, fun e => ?_⟩
    obtain ⟨lc, len, k1, k2, k3, k4, k5, k6, k7⟩ := l3 e
    refine ⟨lc, len, by rw [f1 _ _ (by omega)]; exact k1, by rw [f1 _ _ (by omega)]; exact k2, k3, k4, k5, k6, fun i hi => ?_⟩
    obtain ⟨c, o, z1, z2, z3, z4⟩ := k7 i hi
    exact ⟨c, o, z1, z2, by rw [f1 _ _ (by omega)]; exact z3, z4⟩
  obtain ⟨C2, e2, f2, lw⟩ := fillLaw_eq (b := b) (R := R) ht hb (by rw [f1 _ _ (by omega)]; exact h27) (by rw [f1 _ _ (by omega)]; exact hP.2.1) hP.2.2 hL1
  have g2 : FC t C C2 := fun a k z1 z2 z3 z4 z5 z6 z7 => (f2 a k z2 (fun z => z7 ⟨z.1, Or.inr z.2⟩)).trans (f1 a k (fun z => z7 ⟨z.1, Or.inl z.2⟩))
  have g62 : C2 t 6 = (nwd F : Int) := (f2 _ _ (by omega) (by omega)).trans g61
  -- base of the reference
  have hrr : FR R R := fun _ _ _ _ _ _ => rfl
  obtain ⟨R1, r1, p1, q1⟩ := base_R (StP_R hst hrr)
  have k1 : FR R R1 := fun c k z1 _ _ _ => onlyW_c p1 z1
  -- rows that don't hold
  obtain ⟨C3, R2, e3, r2, f3, p2, d1⟩ := rows_go hst hRows (ph := 0) (by omega) (W := fun w => w < 2 ^ F) (fun w hw => hw) g2 g62 k1 (D := fun _ => False) (fun _ _ z => z.elim) (fun z => by omega) (fun z => by omega)
  have g3 : FC t C C3 := fun a k z1 z2 z3 z4 z5 z6 z7 => (f3 a k z1 z4).trans (g2 a k z1 z2 z3 z4 z5 z6 z7)
  have g63 : C3 t 6 = (nwd F : Int) := (f3 _ _ (by omega) (by omega)).trans g62
  have k2 : FR R R2 := fun c k z1 z2 z3 z4 => (p2 c k z2 z3).trans (k1 c k z1 z2 z3 z4)
  -- base of the class
  obtain ⟨C4, e4, f4, q4⟩ := base_C (StP_C hst g3 g63) ((g3 27 16 (by omega) (by omega) (by omega) (by omega) (by omega) (by omega) (by omega)).trans h27)
  have g4 : FC t C C4 := fun a k z1 z2 z3 z4 z5 z6 z7 => (onlyW_c f4 z3).trans (g3 a k z1 z2 z3 z4 z5 z6 z7)
  have g64 : C4 t 6 = (nwd F : Int) := (onlyW_c f4 (by omega)).trans g63
  have hI2 : ∀ w, w < 256 → isB R2 w = decide (w < 2 ^ F) := fun w hw => by
    unfold isB
    rw [p2 _ _ (by decide) (by decide), q1 w hw, b1_dec]
  have hB4 : BaseD t F C4 R2 := ⟨fun w hw => by rw [hI2 w (by omega), p2 _ _ (by decide) (by decide)]; exact q1 w (by omega), fun w z1 z2 => by rw [p2 _ _ (by decide) (by decide), q1 w z2, decide_eq_false (by omega)]; rfl, fun w hw => by rw [q4 w hw, hI2 w (by omega), Bool.and_self]⟩
  have d4 : ∀ r, r < nR R b → C 37 r = 0 → RowD t F (fun w => w < 2 ^ F) r C4 R2 := fun r hr e => RowD_mono (d1 r hr (Or.inr e)) (fun w hw => hw) (fun k => onlyW_c f4 (by omega)) (fun k => rfl)
  -- always
  obtain ⟨C5, R3, e5, r3, f5, p3, hB5⟩ := always_go hst hAlw g4 g64 k2 d4 hB4
  have g5 : FC t C C5 := fun a k z1 z2 z3 z4 z5 z6 z7 => (f5 a k z1 z3).trans (g4 a k z1 z2 z3 z4 z5 z6 z7)
  have g65 : C5 t 6 = (nwd F : Int) := (f5 _ _ (by omega) (by omega)).trans g64
  have k3 : FR R R3 := fun c k z1 z2 z3 z4 => (p3 c k z1 z3).trans (k2 c k z1 z2 z3 z4)
  -- rows that hold
  obtain ⟨C6, R4, e6, r4, f6, p4, d6⟩ := rows_go hst hRows (ph := 1) (by omega) (W := fun w => w < 2 ^ F ∧ isB R3 w = true) (fun w hw => hw.1) g5 g65 k3 (D := fun r => C 37 r = 0) (fun r hr e => RowD_mono (d4 r hr e) (fun w hw => hw.1) (fun k => f5 _ _ (by omega) (by omega)) (fun k => p3 _ _ (by decide) (by decide))) (fun _ o _ e => e) (fun _ => ⟨hB5, fun w hw => ⟨fun z => z.2, fun z => ⟨hw, z⟩⟩⟩)
  have g6 : FC t C C6 := fun a k z1 z2 z3 z4 z5 z6 z7 => (f6 a k z1 z4).trans (g5 a k z1 z2 z3 z4 z5 z6 z7)
  have g66 : C6 t 6 = (nwd F : Int) := (f6 _ _ (by omega) (by omega)).trans g65
  have k4 : FR R R4 := fun c k z1 z2 z3 z4 => (p4 c k z2 z3).trans (k3 c k z1 z2 z3 z4)
  have hI4 : ∀ w, isB R4 w = isB R3 w := fun w => by unfold isB; rw [p4 _ _ (by decide) (by decide)]
  have d7 : ∀ r, r < nR R b → RowD t F (fun w => w < 2 ^ F ∧ isB R3 w = true) r C6 R4 := fun r hr => by
    obtain ⟨lc, len, -, -, -, -, -, s6, -⟩ := hRows r hr
    exact d6 r hr s6
  have hB6 : ∀ w, w < 64 * nwd F → sb C6 (t + 8) 0 w = isB R4 w := fun w hw => by
    rw [show sb C6 (t + 8) 0 w = sb C5 (t + 8) 0 w from sb_eq (f6 _ _ (by omega) (by omega)), hB5.2.2 w hw, hI4]
    by_cases q : w < 2 ^ F
    · rw [decide_eq_true q]; rfl
    · have : isB R3 w = false := by
        unfold isB
        rw [hB5.2.1 w (by omega) (by omega)]
        rfl
      rw [this, Bool.and_false]
  have hI0 : ∀ w, 2 ^ F ≤ w → w < 256 → isB R4 w = false := fun w z1 z2 => by
    rw [hI4]
    unfold isB
    rw [hB5.2.1 w z1 z2]
    rfl
  -- answers
  have hkn : ∀ p, p < nP R b → R4 97 (8 * b + p) = (knR b R4 p : Int) ∧ knR b R4 p < 256 ∧ C6 (t + 2) p = (knR b R4 p : Int) := fun p hp => by
    obtain ⟨z1, z2, z3⟩ := hK p hp
    have e : R4 97 (8 * b + p) = R 97 (8 * b + p) := k4 _ _ (by decide) (by decide) (by decide) (by decide)
    unfold knR
    rw [g6 (t + 2) p (by omega) (by omega) (by omega) (by omega) (by omega) (by omega) (by omega), z1, e]
    omega
  have hwc6 := StP_C hst g6 g66
  have hwr4 := StP_R hst k4
  obtain ⟨C7, e7, f7, a7⟩ := ansC_p (t := t) (F := F) (C := C6) (kn := knR b R4) (m := nP R b) (n := nR R b) ⟨hwc6, ⟨by rw [g6 _ _ (by omega) (by omega) (by omega) (by omega) (by omega) (by omega) (by omega)]; exact hP.2.1, hP.2.2⟩, ⟨by rw [g6 _ _ (by omega) (by omega) (by omega) (by omega) (by omega) (by omega) (by omega)]; exact hRn.2.1, hRn.2.2⟩, fun w z1 z2 => by rw [hB6 w z2]; exact hI0 w z1 (by omega), fun p hp => ⟨(hkn p hp).2.2, (hkn p hp).2.1⟩⟩
  obtain ⟨R5, r5, p5, a5⟩ := ansR_p (b := b) (F := F) (R := R4) (m := nP R b) (n := nR R b) ⟨hwr4, ⟨by rw [k4 _ _ (by decide) (by decide) (by decide) (by decide)]; exact hP.1, hP.2.2⟩, ⟨by rw [k4 _ _ (by decide) (by decide) (by decide) (by decide)]; exact hRn.1, hRn.2.2⟩, fun w hw => by rw [hI4, p4 _ _ (by decide) (by decide)]; exact hB5.1 w hw, fun r hr v hv => (d7 r hr).1 v hv, fun p hp => ⟨(hkn p hp).1, (hkn p hp).2.1⟩⟩
  have g7 : FC t C C7 := fun a k z1 z2 z3 z4 z5 z6 z7 => (f7 a k z5 z6).trans (g6 a k z1 z2 z3 z4 z5 z6 z7)
  have k5 : FR R R5 := fun c k z1 z2 z3 z4 => (p5 c k z4).trans (k4 c k z1 z2 z3 z4)
  have hI5 : ∀ w, isB R5 w = isB R4 w := fun w => by unfold isB; rw [p5 _ _ (by decide)]
  have e3' : N_fillRows 0 C2 = some C3 := e3
  have e6' : N_fillRows 1 C5 = some C6 := e6
  have r2' : M_layRows 0 R1 = some R2 := r2
  have r4' : M_layRows 1 R3 = some R4 := r4
  refine ⟨C7, R5, ?_, ?_, ?_, g7, k5⟩
  · unfold N_settle
    rw [h27, chk_pos (isTI_of rfl ht), lt1_eq, tn_nat, ev, bind_some', lt1_eq, hC1, e2, bind_some', e3', bind_some', e4, bind_some', e5, bind_some', e6', bind_some', (g6 27 16 (by omega) (by omega) (by omega) (by omega) (by omega) (by omega) (by omega)).trans h27, chk_pos (isTI_of rfl ht), lt1_eq, tn_nat, e7]
    rfl
  · unfold M_layWorlds
    rw [r1, bind_some', r2', bind_some', r3, bind_some', r4', bind_some', r5]
    rfl
  have cT : ∀ a k, t ≤ a → a ≤ t + 7 → ¬ (a = t ∧ (k = 6 ∨ k = 7)) → C7 a k = C a k := fun a k z1 z2 z3 => g7 a k (by omega) (by omega) (by omega) (by omega) (by omega) (by omega) z3
  have rT : ∀ c k, c < 111 → R5 c k = R c k := fun c k z => k5 c k (by omega) (by omega) (by omega) (by omega)
  have rF : ∀ c, c < 111 → R5 c = R c := fun c z => funext fun k => rT c k z
  have nFe : nF R5 b = F := by rw [← hFe]; unfold nF; rw [rT 84 _ (by omega)]
  have nPe : nP R5 b = nP R b := by unfold nP; rw [rT 85 _ (by omega)]
  have nRe : nR R5 b = nR R b := by unfold nR; rw [rT 86 _ (by omega)]
  refine ⟨?_, ?_, ?_, ?_, ?_, ?_, ?_, ?_, ?_⟩
  · exact Num_keep (fun k hk => cT t k (by omega) (by omega) (by omega)) (fun c k z1 z2 => rT c k (by omega)) hN
  · unfold WdR
    rw [nFe, (f7 t 6 (by omega) (by omega)).trans g66]
  · unfold CostR nP
    rw [rF 85 (by omega), rF 96 (by omega)]
    intro p hp
    rw [cT _ _ (by omega) (by omega) (by omega)]
    exact hCo p hp
  · unfold TieR tOne tTwo nT nP
    rw [rF 85 (by omega), rF 88 (by omega), rF 98 (by omega), rF 99 (by omega), rF 100 (by omega)]
    obtain ⟨t1, t2, t3⟩ := hTi
    refine ⟨fun i hi => ?_, t2, fun p hp => ?_⟩
    · rw [cT (t + 4) _ (by omega) (by omega) (by omega), cT (t + 5) _ (by omega) (by omega) (by omega), cT (t + 6) _ (by omega) (by omega) (by omega)]
      exact t1 i hi
    · rw [cT (t + 3) _ (by omega) (by omega) (by omega)]
      exact t3 p hp
  · unfold WishR nW nP nR
    rw [rF 85 (by omega), rF 86 (by omega), rF 89 (by omega), rF 101 (by omega), rF 102 (by omega), rF 103 (by omega)]
    obtain ⟨t1, t2⟩ := hWi
    refine ⟨t1, fun p r hp hr => ?_⟩
    rw [cT (t + 7) _ (by omega) (by omega) (by omega)]
    exact t2 p r hp hr
  · unfold BaseR
    rw [nFe]
    have e111 : ∀ w, R5 111 w = R3 111 w := fun w => by rw [p5 _ _ (by decide), p4 _ _ (by decide) (by decide)]
    refine ⟨fun w hw => ?_, fun w z1 z2 => by rw [e111]; exact hB5.2.1 w z1 z2, fun w hw => ?_⟩
    · rw [e111]
      by_cases q : w < 2 ^ F
      · rw [hB5.1 w q]
        exact b1_01 _
      · exact Or.inl (hB5.2.1 w (by omega) hw)
    · rw [hI5, ← hB6 w hw]
      exact sb_eq (f7 _ _ (by omega) (by omega))
  · unfold RowR
    rw [nFe, nRe]
    intro r w hr hw hbw
    obtain ⟨d8, d9⟩ := d7 r hr
    have eI : rowI R5 r w = rowI R4 r w := by unfold rowI; rw [p5 _ _ (by decide)]
    rw [hI5, hI4] at hbw
    refine ⟨by rw [p5 _ _ (by decide), d8 w hw]; exact b1_01 _, ?_⟩
    rw [eI, ← d9 w ⟨hw, hbw⟩]
    exact sb_eq (f7 _ _ (by omega) (by omega))
  · unfold AnsR
    rw [nFe, nPe, nRe]
    intro p r w hp hr hw
    obtain ⟨s1, s2⟩ := a7 p r hp hr w hw
    rw [hI5, s1, s2, hB6 w hw]
    unfold hldB widB
    rw [hB6 w hw]
    cases hbw : isB R4 w with
    | false =>
      refine ⟨fun z => (by cases z), ?_, ?_⟩
      · rfl
      · simp
    | true =>
      have hlt : w < 2 ^ F := by
        refine Classical.byContradiction (fun z => ?_)
        rw [hI0 w (by omega) (by omega)] at hbw
        cases hbw
      have eV : ansV R5 p r w = ansS R4 F (knR b R4 p) r w := a5 p r hp hr w hlt hbw
      have eS : ∀ v, v < 2 ^ F → isB R4 v = true → sb C6 (t + 9) (4 * r) v = rowI R4 r v := fun v hv hbv => (d7 r hr).2 v ⟨hv, by rw [← hI4]; exact hbv⟩
      have eAll : allB (fun v => !(sb C6 (t + 8) 0 v && eqv (knR b R4 p) v w) || sb C6 (t + 9) (4 * r) v) (2 ^ F) = allS R4 F (knR b R4 p) r w (2 ^ F) := by
        unfold allS
        refine allB_congr (fun v hv => ?_)
        rw [hB6 v (by omega)]
        cases hb : isB R4 v with
        | false => rfl
        | true => rw [eS v hv hb]
      have eAny : anyB (fun v => sb C6 (t + 8) 0 v && sb C6 (t + 9) (4 * r) v && eqv (knR b R4 p) v w) (2 ^ F) = somS R4 F (knR b R4 p) r w (2 ^ F) := by
        unfold somS
        refine anyB_congr (fun v hv => ?_)
        rw [hB6 v (by omega)]
        cases hb : isB R4 v with
        | false => rfl
        | true => rw [eS v hv hb, Bool.true_and, Bool.true_and, Bool.and_comm]
      have hAS : allS R4 F (knR b R4 p) r w (2 ^ F) = true → somS R4 F (knR b R4 p) r w (2 ^ F) = true := by
        intro h1
        have h2 := allB_iff.mp h1 w hlt
        rw [hbw, eqv_self] at h2
        have h3 : rowI R4 r w = true := by simpa using h2
        exact anyB_iff.mpr ⟨w, hlt, by rw [hbw, eqv_self, h3]; rfl⟩
      rw [eAll, eAny, eV]
      unfold ansS
      cases ha : allS R4 F (knR b R4 p) r w (2 ^ F) with
      | true =>
        rw [hAS ha, if_pos rfl]
        exact ⟨fun _ => Or.inr (Or.inl rfl), rfl, rfl⟩
      | false =>
        rw [if_neg (by decide)]
        cases hs : somS R4 F (knR b R4 p) r w (2 ^ F) with
        | true =>
          rw [if_pos rfl]
          exact ⟨fun _ => Or.inr (Or.inr rfl), rfl, rfl⟩
        | false =>
          rw [if_neg (by decide)]
          exact ⟨fun _ => Or.inl rfl, rfl, rfl⟩
  · unfold LawR
    have hlw := rF 91 (by omega)
    have eOK : LawOK R5 b := by
      unfold LawOK lawLen lawLo
      rw [rF 91 (by omega), rF 104 (by omega), rF 105 (by omega), rF 106 (by omega)]
      refine ⟨hL.2.1, fun e => ?_⟩
      obtain ⟨lc, len, -, -, z3, z4, z5, z6, z7⟩ := hL.2.2 e
      rw [z3, z4, tn_nat, tn_nat, show 900 * b + lc + len - (900 * b + lc) = len by omega]
      refine ⟨by omega, by omega, by omega, z6, fun i hi => ?_⟩
      obtain ⟨c, o, y1, -, -, -, y5⟩ := z7 i hi
      rw [y1]
      unfold okL at y5
      omega
    refine ⟨eOK, fun v ap ti th hv h1 h2 h3 => ?_⟩
    rw [nPe] at hv
    have e7' : C7 t 7 = C2 t 7 := by
      rw [f7 t 7 (by omega) (by omega), f6 t 7 (by omega) (by omega), f5 t 7 (by omega) (by omega), onlyW_c f4 (by omega), f3 t 7 (by omega) (by omega)]
    rw [e7', lw _ (by omega)]
    unfold lawY
    rw [show (8 * v + 4 * ap + 2 * ti + th) / 8 = v by omega, show (8 * v + 4 * ap + 2 * ti + th) / 4 % 2 = ap by omega, show (8 * v + 4 * ap + 2 * ti + th) / 2 % 2 = ti by omega, show (8 * v + 4 * ap + 2 * ti + th) % 2 = th by omega]
    unfold lawB lawLen lawLo
    rw [rF 91 (by omega), rF 104 (by omega), rF 105 (by omega), rF 106 (by omega), rF 107 (by omega)]
end SETTLE
