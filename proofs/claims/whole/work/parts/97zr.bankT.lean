/-! ===== the other bank's town stays ===== -/
theorem lRun_cg {f f' g g' : Nat → Int} {lo : Nat} {v ap ti th : Int} : ∀ {n : Nat}, (∀ i, i < n → f' (lo + i) = f (lo + i) ∧ g' (lo + i) = g (lo + i)) → lRun f' g' lo v ap ti th n = lRun f g lo v ap ti th n
  | 0, _ => rfl
  | n + 1, h => by
    show lStep (f' (lo + n)) (g' (lo + n)) v ap ti th (lRun f' g' lo v ap ti th n) = lStep (f (lo + n)) (g (lo + n)) v ap ti th (lRun f g lo v ap ti th n)
    rw [lRun_cg (fun i hi => h i (by omega)), (h n (by omega)).1, (h n (by omega)).2]
def PBx (b c k : Nat) : Prop := PB b c k ∧ c ≠ 81
section BANKT
variable {t b d : Nat} {C C' R R' : Mem}
theorem sb_law (hbd : b + d = 1) (h : ∀ c k, PBx b c k → R' c k = R c k) (hL : LawOK R d) : LawOK R' d ∧ ∀ v ap ti th, lawB R' d v ap ti th = lawB R d v ap ti th := by
  have h91 : R' 91 d = R 91 d := h _ _ (by unfold PBx PB; omega)
  have h104 : R' 104 (17 * d + 16) = R 104 (17 * d + 16) := h _ _ (by unfold PBx PB; omega)
  have h105 : R' 105 (17 * d + 16) = R 105 (17 * d + 16) := h _ _ (by unfold PBx PB; omega)
  have e1 : lawLo R' d = lawLo R d := by unfold lawLo; rw [h104]
  have e2 : lawLen R' d = lawLen R d := by unfold lawLen; rw [h105, e1]
  obtain ⟨l1, l2⟩ := hL
  have key : R 91 d = 1 → ∀ i, i < lawLen R d → R' 106 (lawLo R d + i) = R 106 (lawLo R d + i) ∧ R' 107 (lawLo R d + i) = R 107 (lawLo R d + i) := by
    intro e i hi
    obtain ⟨z1, z2, z3, -⟩ := l2 e
    unfold lawLen lawLo at *
    exact ⟨h _ _ (by unfold PBx PB; omega), h _ _ (by unfold PBx PB; omega)⟩
  refine ⟨⟨by rw [h91]; exact l1, fun e => ?_⟩, fun v ap ti th => ?_⟩
  · rw [h91] at e
    obtain ⟨z1, z2, z3, z4, z5⟩ := l2 e
    rw [h104, h105, e1, e2]
    exact ⟨z1, z2, z3, by rw [lH_congr (fun i hi => (key e i hi).1)]; exact z4, fun i hi => by rw [(key e i hi).1]; exact z5 i hi⟩
  · unfold lawB
    rw [h91, e1, e2]
    by_cases e0 : R 91 d = 0
    · rw [if_pos e0, if_pos e0]
    · have e : R 91 d = 1 := by omega
      rw [if_neg e0, if_neg e0, lRun_cg (key e)]
theorem sb_tied (hbd : b + d = 1) (h : ∀ c k, PBx b c k → R' c k = R c k) (hT : nT R d ≤ 12) : nT R' d = nT R d ∧ (∀ i, i < nT R d → tOne R' d i = tOne R d i ∧ tTwo R' d i = tTwo R d i) ∧ ∀ s, tiedI R' d s = tiedI R d s := by
  have e1 : nT R' d = nT R d := by unfold nT; rw [h 88 d (by unfold PBx PB; omega)]
  have e2 : ∀ i, i < nT R d → tOne R' d i = tOne R d i ∧ tTwo R' d i = tTwo R d i := fun i hi => by
    unfold tOne tTwo
    rw [h 98 _ (by unfold PBx PB; omega), h 99 _ (by unfold PBx PB; omega)]
    exact ⟨rfl, rfl⟩
  refine ⟨e1, e2, fun s => ?_⟩
  unfold tiedI
  rw [e1]
  exact anyB_congr (fun i hi => by rw [(e2 i hi).1, (e2 i hi).2])
theorem sb_isB (h : ∀ c k, PBx b c k → R' c k = R c k) (w : Nat) : isB R' w = isB R w := by
  unfold isB
  rw [h 111 _ (by unfold PBx PB; omega)]
theorem sb_ansV (h : ∀ c k, PBx b c k → R' c k = R c k) (p r w : Nat) : ansV R' p r w = ansV R p r w := by
  unfold ansV
  rw [h 114 _ (by unfold PBx PB; omega)]
theorem sb_rowI (h : ∀ c k, PBx b c k → R' c k = R c k) (r w : Nat) : rowI R' r w = rowI R r w := by
  unfold rowI
  rw [h 112 _ (by unfold PBx PB; omega)]
theorem sb_nP (hbd : b + d = 1) (h : ∀ c k, PBx b c k → R' c k = R c k) : nP R' d = nP R d := by
  unfold nP
  rw [h 85 _ (by unfold PBx PB; omega)]
theorem sb_nF (hbd : b + d = 1) (h : ∀ c k, PBx b c k → R' c k = R c k) : nF R' d = nF R d := by
  unfold nF
  rw [h 84 _ (by unfold PBx PB; omega)]
theorem sb_nR (hbd : b + d = 1) (h : ∀ c k, PBx b c k → R' c k = R c k) : nR R' d = nR R d := by
  unfold nR
  rw [h 86 _ (by unfold PBx PB; omega)]
theorem sb_canS (hbd : b + d = 1) (h : ∀ c k, PBx b c k → R' c k = R c k) (hT : nT R d ≤ 12) (hL : LawOK R d) (set r ap su : Int) (w : Nat) : canS R' d set r ap su w = canS R d set r ap su w := by
  unfold canS
  rw [(sb_law hbd h hL).2, (sb_tied hbd h hT).2.2, sb_nP hbd h]
  simp only [sb_ansV h]
theorem SayR_sb {s cs cr ct cu ca cy o m : Nat} (hbd : b + d = 1) (h : ∀ c k, PBx b c k → R' c k = R c k) (hT : nT R d ≤ 12) (hL : LawOK R d) (h1 : ∀ c k, s < c → c ≤ s + 6 → C' c k = C c k) (hc : 111 ≤ cs ∧ 111 ≤ cr ∧ 111 ≤ ct ∧ 111 ≤ cu ∧ 111 ≤ ca ∧ 111 ≤ cy) (hi : SayR s cs cr ct cu ca cy o m t d C R) : SayR s cs cr ct cu ca cy o m t d C' R' := by
  obtain ⟨g1, g2, g3, g4, g5, g6⟩ := hc
  intro n hn
  have hh := hi n hn
  simp only [sb] at hh ⊢
  rw [sb_nP hbd h, sb_nF hbd h, h 86 d (by unfold PBx PB; omega), h cs _ (by unfold PBx PB; omega), h cr _ (by unfold PBx PB; omega), h ct _ (by unfold PBx PB; omega), h cu _ (by unfold PBx PB; omega), h ca _ (by unfold PBx PB; omega), h cy _ (by unfold PBx PB; omega)]
  simp only [sb_canS hbd h hT hL, sb_isB h]
  rw [h1 (s + 1) _ (by omega) (by omega), h1 (s + 2) _ (by omega) (by omega), h1 (s + 3) _ (by omega) (by omega), h1 (s + 4) _ (by omega) (by omega), h1 (s + 5) _ (by omega) (by omega)]
  simp only [h1 (s + 6) _ (Nat.lt_add_of_pos_right (by omega)) (Nat.le_refl _)]
  exact hh
theorem Town_sb (hbd : b + d = 1) (h : ∀ c k, PBx b c k → R' c k = R c k) (h1 : ∀ c k, t ≤ c → c ≤ t + 11 → C' c k = C c k) (hi : Town t d C R) : Town t d C' R' := by
  obtain ⟨i1, i2, i3, i4, i5, i6, i7, i8, i9⟩ := hi
  have bP := num_P i1
  have bR := num_R i1
  have bF := num_F i1
  have hT : nT R d ≤ 12 := by have := i1.2.2.2.1; unfold nT; omega
  have hW : nW R d ≤ 12 := by have := i1.2.2.2.2.1; unfold nW; omega
  obtain ⟨k1, k2, k3⟩ := sb_tied hbd h hT
  obtain ⟨l1, l2⟩ := sb_law hbd h i9.1
  have eF := sb_nF hbd h
  have eP := sb_nP hbd h
  have eR := sb_nR hbd h
  have eW : nW R' d = nW R d := by unfold nW; rw [h 89 _ (by unfold PBx PB; omega)]
  have hB := sb_isB h
  have hI := sb_rowI h
  have hA := sb_ansV h
  have c0 : ∀ k, C' t k = C t k := fun k => h1 _ k (by omega) (by omega)
  have c1 : ∀ k, C' (t + 1) k = C (t + 1) k := fun k => h1 _ k (by omega) (by omega)
  have c3 : ∀ k, C' (t + 3) k = C (t + 3) k := fun k => h1 _ k (by omega) (by omega)
  have c4 : ∀ k, C' (t + 4) k = C (t + 4) k := fun k => h1 _ k (by omega) (by omega)
  have c5 : ∀ k, C' (t + 5) k = C (t + 5) k := fun k => h1 _ k (by omega) (by omega)
  have c6 : ∀ k, C' (t + 6) k = C (t + 6) k := fun k => h1 _ k (by omega) (by omega)
  have c7 : ∀ k, C' (t + 7) k = C (t + 7) k := fun k => h1 _ k (by omega) (by omega)
  have c8 : ∀ k, C' (t + 8) k = C (t + 8) k := fun k => h1 _ k (by omega) (by omega)
  have c9 : ∀ k, C' (t + 9) k = C (t + 9) k := fun k => h1 _ k (by omega) (by omega)
  have c10 : ∀ k, C' (t + 10) k = C (t + 10) k := fun k => h1 _ k (by omega) (by omega)
  have c11 : ∀ k, C' (t + 11) k = C (t + 11) k := fun k => h1 _ k (by omega) (by omega)
  refine ⟨?_, ?_, ?_, ?_, ?_, ?_, ?_, ?_, ?_⟩
  · unfold NumR
    rw [c0, c0, c0, c0, c0, c0, h 84 d (by unfold PBx PB; omega), h 85 d (by unfold PBx PB; omega), h 86 d (by unfold PBx PB; omega), h 88 d (by unfold PBx PB; omega), h 89 d (by unfold PBx PB; omega), h 90 d (by unfold PBx PB; omega)]
    exact i1
  · unfold WdR
    rw [c0, eF]
    exact i2
  · intro p hp
    rw [eP] at hp
    rw [c1, h 96 _ (by unfold PBx PB; omega)]
    exact i3 p hp
  · obtain ⟨j1, j2, j3⟩ := i4
    refine ⟨fun i hi => ?_, fun i j hij hj => ?_, fun p hp => ⟨?_, fun q => ?_⟩⟩
    · rw [k1] at hi
      rw [c4, c5, c6, h 98 _ (by unfold PBx PB; omega), h 99 _ (by unfold PBx PB; omega), h 100 _ (by unfold PBx PB; omega), (k2 i hi).1, (k2 i hi).2, eP]
      exact j1 i hi
    · rw [k1] at hj
      rw [(k2 i (by omega)).1, (k2 i (by omega)).2, (k2 j hj).1, (k2 j hj).2]
      exact j2 i j hij hj
    · rw [eP] at hp
      rw [c3]
      exact (j3 p hp).1
    · rw [eP] at hp
      rw [c3, k1, (j3 p hp).2 q]
      exact anyB_congr (fun i hi => by rw [(k2 i hi).1, (k2 i hi).2])
  · obtain ⟨j1, j2⟩ := i5
    refine ⟨fun k hk => ?_, fun p r hp hr => ⟨fun k hk z1 z2 => ?_, fun hh => ?_⟩⟩
    · rw [eW] at hk
      rw [h 101 _ (by unfold PBx PB; omega), h 102 _ (by unfold PBx PB; omega), h 103 _ (by unfold PBx PB; omega)]
      exact j1 k hk
    · rw [eW] at hk
      rw [eP] at hp
      rw [eR] at hr
      rw [h 101 _ (by unfold PBx PB; omega)] at z1
      rw [h 102 _ (by unfold PBx PB; omega)] at z2
      rw [c7, h 103 _ (by unfold PBx PB; omega)]
      exact (j2 p r hp hr).1 k hk z1 z2
    · rw [eP] at hp
      rw [eR] at hr
      rw [c7]
      refine (j2 p r hp hr).2 (fun k hk z => hh k (by rw [eW]; exact hk) ?_)
      rw [h 101 _ (by unfold PBx PB; omega), h 102 _ (by unfold PBx PB; omega)]
      exact z
  · obtain ⟨j1, j2, j3⟩ := i6
    refine ⟨fun w hw => ?_, fun w hw hw2 => ?_, fun w hw => ?_⟩
    · rw [h 111 _ (by unfold PBx PB; omega)]
      exact j1 w hw
    · rw [eF] at hw
      rw [h 111 _ (by unfold PBx PB; omega)]
      exact j2 w hw hw2
    · rw [eF] at hw
      simp only [sb, c8, hB]
      exact j3 w hw
  · intro r w hr hw hwb
    rw [eR] at hr
    rw [eF] at hw
    rw [hB] at hwb
    rw [h 112 _ (by unfold PBx PB; omega), hI]
    simp only [sb, c9]
    exact i7 r w hr hw hwb
  · intro p r w hp hr hw
    rw [eP] at hp
    rw [eR] at hr
    rw [eF] at hw
    simp only [sb, c10, c11, hB, hA]
    exact i8 p r w hp hr hw
  · refine ⟨l1, fun v ap ti th hv h1 h2 h3 => ?_⟩
    rw [eP] at hv
    rw [c0, l2]
    exact i9.2 v ap ti th hv h1 h2 h3
end BANKT
