/-! ===== leagues: the fewest pairs, the whole recursion ===== -/
section LG
variable {t N m : Nat} {k : Int} {C R : Mem}
theorem GM_np {N : Nat} {R : Mem} {used : Nat} {op : Int} {m' : Nat → Int} (h : GM N R used op m') {n : Nat} (hn : n < 64) (hq : qb op n = true) : ∃ p q, p < q ∧ q < N ∧ m' p = (q : Int) ∧ (sP R n).testBit p = true ∧ (sP R n).testBit q = true ∧ used.testBit p = false ∧ used.testBit q = false ∧ 1 ≤ npM m' N := by
  obtain ⟨g1, g2, g3⟩ := h
  have hc := g3 n hn hq
  unfold cvM at hc
  obtain ⟨p, hp, hh⟩ := anyB_iff.mp hc
  simp only [Bool.and_eq_true, decide_eq_true_eq] at hh
  obtain ⟨q, q1, q2, q3, q4⟩ := MT_mate g1 hp hh.1
  have hnp := mRm_np hp q2 q3 q4
  refine ⟨p, q, q2, q1, q3, hh.2.1, by rw [← tn_nat q, ← q3]; exact hh.2.2, ?_, ?_, by omega⟩
  · cases z : used.testBit p with
    | false => rfl
    | true => have := g2 p hp z; omega
  · cases z : used.testBit q with
    | false => rfl
    | true => have := g2 q q1 z; omega
theorem fewest_eq (h : LX t N m k C R) : ∀ (d : Nat) (most op : Int) (used : Nat), 0 ≤ most → most ≤ 4 → most < (d : Int) → used < 256 → (∀ n, n < 64 → qb op n = true → wB R k n = true) → Z (C_fewestFor d op (used : Int) most C) (fS N R used op most)
  | 0, most, op, used, h0, h4, hd, hu, hsub => by omega
  | d + 1, most, op, used, h0, h4, hd, hu, hsub => by
    have h' := h
    obtain ⟨ht, hN, hm, eS, k0, k1, k2, k3, k4, k5, k6, k7, k8⟩ := h
    show Z (C_fewestFor_s (C_fewestFor d) op (used : Int) most C) _
    unfold C_fewestFor_s
    by_cases hz : n64 op = n64 0
    · rw [if_pos hz]
      have hz2 := n64_z.mp hz
      have e0 : npM (fun _ => -1) N = 0 := cnt_none (fun i _ => decide_eq_false (show ¬ ((i : Int) < -1) by omega))
      refine Z_of ⟨⟨by omega, by omega⟩, fun m' _ _ => by omega, fun _ => ⟨fun _ => -1, ⟨fun p _ => Or.inl rfl, fun _ _ _ => rfl, fun n hn hq => ?_⟩, by rw [e0]; rfl⟩⟩
      rw [hz2 n hn] at hq
      cases hq
    · rw [if_neg hz]
      have hex : ∃ n0, n0 < 64 ∧ qb op n0 = true := by
        refine Classical.byContradiction (fun hno => hz (n64_z.mpr (fun i hi => ?_)))
        cases q : qb op i with
        | false => rfl
        | true => exact absurd ⟨i, hi, q⟩ hno
      obtain ⟨n0, hn0, hq0⟩ := hex
      rw [Z_bind_iff]
      have hV : Z (if 0 < n32 most then (C_tightest op (used : Int) C).bind fun r_5 => some r_5 else some (0 : Int)) (fun v => ∃ V : Nat, v = (V : Int) ∧ V < 256 ∧ (∀ i, V.testBit i = true → used.testBit i = false) ∧ (0 < most → ∃ n, n < 64 ∧ qb op n = true ∧ ∀ i, i < 8 → V.testBit i = ((sP R n).testBit i && !used.testBit i))) := by
        rw [n32_of (a := most) (by omega) (by omega)]
        by_cases q : 0 < most
        · rw [if_pos q, Z_bind_iff]
          refine Z_mono (tightest_eq h' hu hsub hn0 hq0) ?_
          rintro v ⟨n, n1, n2, n3, rfl⟩
          refine Z_of ⟨_, rfl, andn_lt n3, fun i hi => ?_, fun _ => ⟨n, n1, n2, fun i hi => andn_tb hi⟩⟩
          by_cases q8 : i < 8
          · rw [andn_tb q8] at hi
            simp only [Bool.and_eq_true, Bool.not_eq_true'] at hi
            exact hi.2
          · rw [testBit_lt8 (n := 8) hu (by omega)]
        · rw [if_neg q]
          exact Z_of ⟨0, rfl, by omega, fun i hi => by simp at hi, fun z => absurd z q⟩
      refine Z_mono hV ?_
      rintro v ⟨V, rfl, hV1, hV2, hV3⟩
      rw [Z_bind_iff]
      refine it_Z (fun a st => st.2 = (a : Int) ∧ fQ N R used op most V a 0 st.1) N (by unfold FUEL; omega) ⟨rfl, ⟨by dsimp only; omega, by dsimp only; omega⟩, fun a' c' _ _ z => by omega, fun z => by dsimp only at z; omega⟩ ?_ ?_
      · rintro a ⟨best, l⟩ ha ⟨el, hQ⟩
        dsimp only at el hQ
        subst el
        unfold C_fewestFor_b32
        dsimp only
        rw [k0, chk_pos (isTI_of rfl ht), lt1_eq, tn_nat, k6, n32_nat (by omega), n32_nat (by omega), if_pos (by omega), lt1_eq, Z_bind_iff]
        refine it_Z (fun j st => st.2 = ((a + 1 + j : Nat) : Int) ∧ fQ N R used op most V a (a + 1 + j) st.1) (N - (a + 1)) (by unfold FUEL; omega) ⟨by dsimp only; omega, fQ_eq hQ (fun a' c' _ _ _ => by omega)⟩ ?_ ?_
        · rintro j ⟨best, l⟩ hj ⟨el, hQ⟩
          dsimp only at el hQ
          subst el
          generalize hc : a + 1 + j = c at *
          have hac : a < c := by omega
          have hcN : c < N := by omega
          unfold C_fewestFor_b50
          dsimp only
          rw [k6, n32_nat (by omega), n32_nat (by omega), if_pos (by omega), X_hasBit_eq (by omega) (by omega), bind_some']
          have hcond : ((if ¬ n32 (if V.testBit a then (1 : Int) else 0) = 0 then (X_hasBit (V : Int) (c : Int) C).bind fun r_39 => if ¬ n32 r_39 = 0 then some true else some false else some false)) = some (V.testBit a && V.testBit c) := by
            rw [X_hasBit_eq (by omega) (by omega), bind_some']
            cases V.testBit a <;> cases V.testBit c <;> rfl
          rw [hcond, bind_some']
          cases hb : (V.testBit a && V.testBit c) with
          | false =>
            rw [if_neg (by decide), bind_some', lt1_eq]
            refine Z_of (Or.inl ⟨_, rfl, by dsimp only; omega, ?_⟩)
            dsimp only
            rw [show a + 1 + (j + 1) = c + 1 by omega]
            refine ⟨hQ.1, fun a' c' h1 h2 h3 v1 v2 => hQ.2.1 a' c' h1 h2 ?_ v1 v2, hQ.2.2⟩
            have : ¬ (a' = a ∧ c' = c) := by
              rintro ⟨rfl, rfl⟩
              rw [v1, v2] at hb
              cases hb
            omega
          | true =>
            simp only [Bool.and_eq_true] at hb
            obtain ⟨⟨q1, q2⟩, -⟩ := id hQ
            rw [if_pos rfl, show (a : Int) * 8 + (c : Int) = ((8 * a + c : Nat) : Int) by omega, chk_pos (by omega), lt1_eq, lt1_eq, tn_nat, imin_of (n32_of (a := most) (by omega) (by omega)) (n32_of (a := best - 1) (by omega) (by omega))]
            generalize hg : (if best - 1 < most then best - 1 else most) - 1 = g
            have hg' : g + 1 ≤ most ∧ g + 1 ≤ best - 1 ∧ -1 ≤ g := by
              rw [← hg]
              split <;> omega
            rw [n32_of (a := g) (by omega) (by omega), used_or hu (by omega) (by omega)]
            by_cases q : 0 ≤ g
            · rw [if_pos q, Z_bind_iff, Z_bind_iff]
              refine Z_mono (fewest_eq h' d g (jand op (jxor (C 79 (8 * a + c)) (-1))) (used ||| 2 ^ a ||| 2 ^ c) q (by omega) (by omega) (used_lt hu (by omega) (by omega)) ?_) ?_
              · intro n hn hq
                rw [qb_and, Bool.and_eq_true] at hq
                exact hsub n hn hq.1
              · rintro r hr
                have hrr := hr.1
                have st := fQ_step h' hac hcN hsub hV2 hb.1 hb.2 hQ hg.symm (r := r) (fun _ => hr) h4
                rw [if_pos q] at st
                rw [lt1_eq, lt1_eq, imin_of (n32_of (a := best) (by omega) (by omega)) (n32_of (a := 1 + r) (by omega) (by omega)), Z_iff_some, lt1_eq]
                refine Z_of (Or.inl ⟨_, rfl, by dsimp only; omega, ?_⟩)
                dsimp only
                rw [show a + 1 + (j + 1) = c + 1 by omega]
                exact st
            · have st := fQ_step h' hac hcN hsub hV2 hb.1 hb.2 hQ hg.symm (r := 0) (fun z => absurd z q) h4
              rw [if_neg q] at st
              rw [if_neg q, bind_some', lt1_eq]
              refine Z_of (Or.inl ⟨_, rfl, by dsimp only; omega, ?_⟩)
              dsimp only
              rw [show a + 1 + (j + 1) = c + 1 by omega]
              exact st
        · rintro ⟨best, l⟩ ⟨el, hQ⟩
          dsimp only at el hQ
          subst el
          unfold C_fewestFor_b50
          dsimp only
          rw [k6, n32_nat (by omega), n32_nat (by omega), if_neg (by omega)]
          refine Z_of ⟨_, rfl, ?_⟩
          rw [lt1_eq]
          refine Z_of (Or.inl ⟨_, rfl, by dsimp only; omega, fQ_eq hQ (fun a' c' _ _ _ => by omega)⟩)
      · rintro ⟨best, l⟩ ⟨el, hQ⟩
        dsimp only at el hQ
        subst el
        unfold C_fewestFor_b32
        dsimp only
        rw [k0, chk_pos (isTI_of rfl ht), lt1_eq, tn_nat, k6, n32_nat (by omega), if_neg (by omega)]
        refine Z_of ⟨_, rfl, Z_of ?_⟩
        obtain ⟨⟨b1, b2⟩, b3, b4⟩ := hQ
        refine ⟨⟨by omega, b2⟩, fun m' hm' hnp => ?_, b4⟩
        obtain ⟨p, q, p1, p2, p3, p4, p5, p6, p7, p8⟩ := GM_np hm' hn0 hq0
        obtain ⟨n, n1, n2, n3⟩ := hV3 (by omega)
        obtain ⟨p, q, p1, p2, p3, p4, p5, p6, p7, p8⟩ := GM_np hm' n1 n2
        exact b3 p q p1 p2 (by omega) (by rw [n3 p (by omega), p4, p6]; rfl) (by rw [n3 q (by omega), p5, p7]; rfl) m' hm' p3 hnp
def opW (R : Mem) (k : Int) (w n : Nat) : Bool := wB R k n && !rowI R (R 117 n).toNat w
def gM (N : Nat) (R : Mem) (k : Int) (w : Nat) (m : Nat → Int) : Prop := MT N m ∧ ∀ n, n < 64 → opW R k w n = true → cvM m N (sP R n) = true
def fL (N : Nat) (R : Mem) (k : Int) (w : Nat) (most v : Int) : Prop := (0 ≤ v ∧ v ≤ 8) ∧ (∀ m, gM N R k w m → (npM m N : Int) ≤ most → v ≤ (npM m N : Int)) ∧ (v ≤ most → ∃ m, gM N R k w m ∧ (npM m N : Int) = v)
theorem fewestIn_eq {b : Nat} (h : LX t N m k C R) (hNu : NumR t b C R) (hRo : RowR t b C R) (h44 : ∀ n, n < m → C 44 n = R 117 n ∧ 0 ≤ R 117 n ∧ R 117 n < R 86 b) {w : Nat} (hw : w < 2 ^ nF R b) (hb : isB R w = true) {most : Int} (h0 : 0 ≤ most) (h4 : most ≤ 4) : Z (C_fewestIn (w : Int) most C) (fL N R k w most) := by
  have h' := h
  obtain ⟨ht, hN, hm, eS, k0, k1, k2, k3, k4, k5, k6, k7, k8⟩ := h
  have hcm := cnt_le (ct R k) m
  have hR := num_R hNu
  have h86 : R 86 b = (nR R b : Int) := hR.1
  unfold C_fewestIn
  have L : Z (it (C_fewestIn_b5 (w : Int) C) FUEL (0, 0)) (fun op => ∀ n, n < 64 → qb op n = opW R k w n) := by
    refine it_Z (fun i st => st.2 = (i : Int) ∧ ∀ n, n < 64 → qb st.1 n = (opW R k w n && decide (cnt (ct R k) n < i))) (cnt (ct R k) m) (by unfold FUEL; omega) ⟨rfl, fun n hn => by dsimp only; rw [qb_0]; simp⟩ ?_ ?_
    · rintro i ⟨v, l⟩ hi ⟨el, hI⟩
      dsimp only at el hI
      subst el
      obtain ⟨c1, c2, c3⟩ := clG_mem hi
      generalize hn : clG (ct R k) m i = n at *
      have only : ∀ x, opW R k w x = true → cnt (ct R k) x = i → x = n := by
        intro x hx hcx
        unfold opW wB at hx
        simp only [Bool.and_eq_true, decide_eq_true_eq] at hx
        have e := clG_get (p := ct R k) hx.1.2.1 (m := m) (by omega)
        rw [hcx, hn] at e
        exact e.symm
      obtain ⟨r1, r2, r3⟩ := h44 n c1
      unfold C_fewestIn_b5
      dsimp only
      rw [k2, chk_pos (show (71 : Int) = ((71 : Nat) : Int) from rfl), k3, n32_nat (by omega), n32_nat (by omega), if_pos (by omega), chk_pos (by omega), lt1_eq, tn_nat, k4 i hi, hn]
      have hcond : ((if ¬ n64 (jand (jushr (C 78 4) (n : Int)) 1) = n64 0 then chk (isTI (C 78 0)) <| lt1 (C 78 0).toNat fun t_24 => chk (C 78 1 = ((42 : Nat) : Int)) <| chk (0 ≤ (n : Int) ∧ (n : Int) < 40) <| (T_isSo t_24 (C 44 (Int.toNat (n : Int))) (w : Int) C).bind fun r_29 => if n32 r_29 = 0 then some true else some false else some false)) = some (opW R k w n) := by
        unfold opW
        cases hq : wB R k n with
        | false =>
          rw [if_neg (show ¬ ¬ n64 (jand (jushr (C 78 4) (n : Int)) 1) = n64 0 from fun h => h ((bit_test _ (by omega)).mpr (by rw [k7 n (by omega)]; exact hq)))]
          rfl
        | true =>
          rw [if_pos (show ¬ n64 (jand (jushr (C 78 4) (n : Int)) 1) = n64 0 from fun h => by have := (bit_test _ (by omega)).mp h; rw [k7 n (by omega), hq] at this; cases this), k0, chk_pos (isTI_of rfl ht), lt1_eq, tn_nat, k1, chk_pos (show (42 : Int) = ((42 : Nat) : Int) from rfl), chk_pos (by omega), tn_nat, r1, show R 117 n = (((R 117 n).toNat : Nat) : Int) by omega, T_isSo_eq ht hNu hRo (by omega) hw hb, bind_some', tn_nat]
          cases rowI R (R 117 n).toNat w <;> rfl
      rw [hcond, bind_some']
      have step : ∀ x, x < 64 → (opW R k w x && decide (cnt (ct R k) x < i + 1)) = ((opW R k w x && decide (cnt (ct R k) x < i)) || (opW R k w x && decide (x = n))) := by
        intro x hx
        cases ho : opW R k w x with
        | false => rfl
        | true =>
          rw [Bool.true_and, Bool.true_and, Bool.true_and]
          by_cases y : x = n
          · subst y
            rw [c3, decide_eq_true (show i < i + 1 by omega), decide_eq_true rfl, Bool.or_true]
          · rw [decide_eq_false y, Bool.or_false]
            have : ¬ cnt (ct R k) x = i := fun e => y (only x ho e)
            exact decide_eq_decide.mpr (by omega)
      cases ho : opW R k w n with
      | false =>
        rw [if_neg (by decide), bind_some', lt1_eq]
        refine Z_of (Or.inl ⟨_, rfl, rfl, fun x hx => ?_⟩)
        dsimp only
        rw [hI x hx, step x hx]
        by_cases y : x = n
        · subst y; rw [ho]; rfl
        · rw [decide_eq_false y, Bool.and_false, Bool.or_false]
      | true =>
        rw [if_pos rfl, lt1_eq, bind_some', lt1_eq]
        refine Z_of (Or.inl ⟨_, rfl, rfl, fun x hx => ?_⟩)
        dsimp only
        rw [jshl1 (by omega), hI x hx, step x hx]
        by_cases y : x = n
        · subst y; rw [ho, decide_eq_true rfl]; simp
        · rw [decide_eq_false y, Bool.and_false]
    · rintro ⟨v, l⟩ ⟨el, hI⟩
      dsimp only at el hI
      subst el
      unfold C_fewestIn_b5
      dsimp only
      rw [k2, chk_pos (show (71 : Int) = ((71 : Nat) : Int) from rfl), k3, if_neg (by omega)]
      refine Z_of ⟨_, rfl, fun n hn => ?_⟩
      rw [hI n hn]
      cases ho : opW R k w n with
      | false => rfl
      | true =>
        have hx := ho
        unfold opW wB at hx
        simp only [Bool.and_eq_true, decide_eq_true_eq] at hx
        have h9 : cnt (ct R k) n < cnt (ct R k) m := cnt_lt (by omega) hx.1.2.1
        rw [decide_eq_true h9]; rfl
  rw [Z_bind_iff]
  refine Z_mono L ?_
  intro op hop
  rw [Z_bind_iff]
  have hF := fewest_eq h' 6 most op 0 h0 h4 (by omega) (by omega) (fun n hn hq => by
    rw [hop n hn] at hq
    unfold opW at hq
    rw [Bool.and_eq_true] at hq
    exact hq.1)
  refine Z_mono hF ?_
  rintro v ⟨v1, v2, v3⟩
  have eG : ∀ m', GM N R 0 op m' ↔ gM N R k w m' := by
    intro m'
    constructor
    · rintro ⟨g1, g2, g3⟩
      exact ⟨g1, fun n hn hq => g3 n hn (by rw [hop n hn]; exact hq)⟩
    · rintro ⟨g1, g3⟩
      exact ⟨g1, fun p _ hp => by simp at hp, fun n hn hq => g3 n hn (by rw [← hop n hn]; exact hq)⟩
  refine Z_of ⟨v1, fun m' hm' hnp => v2 m' ((eG m').mpr hm') hnp, fun hv => ?_⟩
  obtain ⟨m', y1, y2⟩ := v3 hv
  exact ⟨m', (eG m').mp y1, y2⟩
end LG
