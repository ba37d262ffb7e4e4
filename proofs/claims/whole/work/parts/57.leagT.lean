/-! ===== leagues: the reference's whole search ===== -/
def uS (N L : Nat) (D : Nat → Nat) (X : (Nat → Int) → Prop) (a c : Int) : Prop := (c = a ∨ ∃ m, X m ∧ metB N L D m = true ∧ c = (npM m N : Int)) ∧ (∀ m, X m → metB N L D m = true → 1 ≤ c ∧ c ≤ (npM m N : Int)) ∧ (1 ≤ a → 1 ≤ c ∧ c ≤ a)
theorem uS_comp {N L : Nat} {D : Nat → Nat} {X Y Z : (Nat → Int) → Prop} {a b c : Int} (hX : uS N L D X a b) (hY : uS N L D Y b c) (h1 : ∀ m, Z m → X m ∨ Y m) (h2 : ∀ m, X m → Z m) (h3 : ∀ m, Y m → Z m) : uS N L D Z a c := by
  obtain ⟨x1, x2, x3⟩ := hX
  obtain ⟨y1, y2, y3⟩ := hY
  refine ⟨?_, fun m hm hb => ?_, fun ha => ?_⟩
  · rcases y1 with e | ⟨m, m1, m2, m3⟩
    · rcases x1 with e2 | ⟨m, m1, m2, m3⟩
      · exact Or.inl (by omega)
      · exact Or.inr ⟨m, h2 m m1, m2, by omega⟩
    · exact Or.inr ⟨m, h3 m m1, m2, m3⟩
  · rcases h1 m hm with z | z
    · have := x2 m z hb
      have := y3 this.1
      omega
    · exact y2 m z hb
  · have := x3 ha
    have := y3 this.1
    omega
theorem uS_none {N L : Nat} {D : Nat → Nat} {X : (Nat → Int) → Prop} {a : Int} (h : ∀ m, ¬ X m) : uS N L D X a a := ⟨Or.inl rfl, fun m hm => absurd hm (h m), fun ha => ⟨ha, by omega⟩⟩
theorem npM_congr {N : Nat} {m m' : Nat → Int} (h : ∀ q, q < N → m' q = m q) : npM m' N = npM m N := cnt_congr (fun i hi => by rw [h i hi])
theorem metB_congr {N L : Nat} {D : Nat → Nat} {m m' : Nat → Int} (h : ∀ q, q < N → m' q = m q) : metB N L D m' = metB N L D m := by
  unfold metB
  refine allB_congr (fun i _ => ?_)
  unfold cvM
  exact anyB_congr (fun p hp => by rw [h p hp])
def bOK (a : Int) : Prop := a = -1 ∨ (1 ≤ a ∧ a ≤ 8)
theorem uS_ok {N L : Nat} {D : Nat → Nat} {X : (Nat → Int) → Prop} {a c : Int} (hN : N ≤ 8) (h : uS N L D X a c) (ha : bOK a) : bOK c := by
  obtain ⟨x1, x2, x3⟩ := h
  rcases x1 with e | ⟨m, m1, m2, m3⟩
  · rw [e]; exact ha
  · have := x2 m m1 m2
    have h9 : npM m N ≤ N := cnt_le _ _
    exact Or.inr (by omega)
def SEx (b N L : Nat) (D : Nat → Nat) (p : Nat) (M : Mem) : Prop := PMk b N M ∧ M 81 70 = (L : Int) ∧ (∀ i, i < L → M 129 i = (D i : Int) ∧ D i < 256) ∧ MT N (M 130) ∧ (∀ q, p ≤ q → q < N → M 131 q = -1) ∧ ∀ q, p ≤ q → q < N → M 130 q < (p : Int)
def Bd : Nat → Nat
  | 0 => 1
  | d + 1 => d * (Bd d + 1) + Bd d + 2
theorem MSt_130 {M : Mem} {p c : Nat} (h : c ≠ p) : MSt M p c 130 = mAd (M 130) p c := by
  funext q
  unfold MSt mAd
  rw [if_neg h]
  simp only [up_at]
  by_cases a1 : q = c
  · subst a1
    rw [if_pos ⟨trivial, rfl⟩, if_neg h, if_pos rfl]
  · by_cases a2 : q = p
    · subst a2
      simp [a1]
    · simp [a1, a2]
theorem SEx_c {b N L : Nat} {D : Nat → Nat} {p c : Nat} {M : Mem} (h : SEx b N L D p M) (hpc : p < c) (hc : c < N) (h1 : M 130 p = -1) (h2 : M 130 c = -1) : SEx b N L D (p + 1) (MSt M p c) := by
  obtain ⟨e1, e2, e3, e4, e5, e6⟩ := h
  have e9 := MSt_130 (M := M) (p := p) (c := c) (by omega)
  have f : ∀ c' k, c' ≠ 130 → c' ≠ 131 → MSt M p c c' k = M c' k := by
    intro c' k z1 z2
    unfold MSt
    rw [if_neg (by omega), up_c z1, up_c z1, up_c z2]
  refine ⟨⟨e1.1, ?_, ?_⟩, ?_, fun i hi => ?_, ?_, fun q z1 z2 => ?_, fun q z1 z2 => ?_⟩
  · rw [f _ _ (by decide) (by decide)]; exact e1.2.1
  · rw [f _ _ (by decide) (by decide)]; exact e1.2.2
  · rw [f _ _ (by decide) (by decide)]; exact e2
  · rw [f _ _ (by decide) (by decide)]; exact e3 i hi
  · rw [e9]; exact mAd_MT e4 (by omega) hc (by omega) h1 h2
  · unfold MSt
    rw [if_neg (by omega), up_c (by decide), up_c (by decide), up_k (by omega)]
    exact e5 q (by omega) z2
  · rw [e9]
    unfold mAd
    rw [if_neg (by omega)]
    by_cases y : q = c
    · rw [if_pos y]; omega
    · rw [if_neg y]
      have := e6 q (by omega) z2
      omega
theorem SEx_p {b N L : Nat} {D : Nat → Nat} {p : Nat} {M : Mem} (h : SEx b N L D p M) : SEx b N L D (p + 1) (MSt M p p) ∧ MSt M p p 130 = M 130 := by
  obtain ⟨e1, e2, e3, e4, e5, e6⟩ := h
  have f : ∀ c' k, c' ≠ 131 → MSt M p p c' k = M c' k := by
    intro c' k z2
    unfold MSt
    rw [if_pos rfl, up_c z2]
  have e9 : MSt M p p 130 = M 130 := by funext q; exact f _ _ (by decide)
  refine ⟨⟨⟨e1.1, ?_, ?_⟩, ?_, fun i hi => ?_, ?_, fun q z1 z2 => ?_, fun q z1 z2 => ?_⟩, e9⟩
  · rw [f _ _ (by decide)]; exact e1.2.1
  · rw [f _ _ (by decide)]; exact e1.2.2
  · rw [f _ _ (by decide)]; exact e2
  · rw [f _ _ (by decide)]; exact e3 i hi
  · rw [e9]; exact e4
  · unfold MSt
    rw [if_pos rfl, up_k (by omega)]
    exact e5 q (by omega) z2
  · rw [e9]
    have := e6 q (by omega) z2
    omega
/-- a mate that stands, stands in every extension -/
theorem ext_mate {N p : Nat} {m m' : Nat → Int} (h : MT N m) (h' : MT N m') (hlow : ∀ q, p ≤ q → q < N → m q < (p : Int)) (he : ∀ q, q < p → m' q = m q) {c : Nat} (hc : p ≤ c) (hcN : c < N) (h0 : 0 ≤ m c) : m' c = m c := by
  rcases h c hcN with z | ⟨r, r1, r2, r3, r4⟩
  · omega
  · have hr : r < p := by have := hlow c hc hcN; omega
    have h5 : m' r = (c : Int) := by rw [he r hr]; exact r4
    rcases h' r r1 with z | ⟨s, s1, s2, s3, s4⟩
    · omega
    · have : s = c := by omega
      subst this
      rw [s4, r3]
section EX
variable {b N L : Nat} {D : Nat → Nat}
theorem b142_go {best : Int} {p : Nat} {M M' : Mem} (hN : N ≤ 8) (hb : bOK best) (hM : PMk b N M) (hp : p < N) (h : M_stepPair (p : Int) M = some (1, M')) : M_leaguesOf_b142 (best, (p : Int), M) = some (.inl (best, ((p + 1 : Nat) : Int), M')) := by
  unfold M_leaguesOf_b142
  dsimp only
  have e : n32 best = best := by unfold bOK at hb; exact n32_of (by omega) (by omega)
  have e2 : ¬ best = 0 := by unfold bOK at hb; omega
  rw [n32_nat (by omega), e, if_pos (by omega), PM_eq hM, bind_some', n32_nat (by omega), if_neg (by omega), h, bind_some']
  rfl
theorem b142_back {best : Int} {p : Nat} {M M' : Mem} (hN : N ≤ 8) (hb : bOK best) (hM : PMk b N M) (hp : p < N) (h : M_stepPair (p : Int) M = some (0, M')) : M_leaguesOf_b142 (best, (p : Int), M) = some (.inl (best, (p : Int) - 1, M')) := by
  unfold M_leaguesOf_b142
  dsimp only
  have e : n32 best = best := by unfold bOK at hb; exact n32_of (by omega) (by omega)
  have e2 : ¬ best = 0 := by unfold bOK at hb; omega
  rw [n32_nat (by omega), e, if_pos (by omega), PM_eq hM, bind_some', n32_nat (by omega), if_neg (by omega), h, bind_some']
  rfl
theorem b142_full {best : Int} {M : Mem} (hN : N ≤ 8) (hL : L ≤ 40) (hpos : ∀ m, MT N m → metB N L D m = true → 1 ≤ npM m N) (hb : bOK best) (h : SEx b N L D N M) : ∃ best', M_leaguesOf_b142 (best, (N : Int), M) = some (.inl (best', (N : Int) - 1, M)) ∧ uS N L D (fun m' => MT N m' ∧ ∀ q, q < N → m' q = M 130 q) best best' := by
  obtain ⟨e1, e2, e3, e4, e5, e6⟩ := h
  have e : n32 best = best := by unfold bOK at hb; exact n32_of (by omega) (by omega)
  have e0 : ¬ best = 0 := by unfold bOK at hb; omega
  have hnp : npM (M 130) N ≤ N := cnt_le _ _
  unfold M_leaguesOf_b142
  dsimp only
  rw [n32_nat (by omega), e, if_pos (by omega), PM_eq e1, bind_some', n32_nat (by omega), if_pos rfl, areMet_eq hN hL (PM_eq e1) e2 e3 e4, bind_some', pairs_eq hN (PM_eq e1) e4, bind_some', bind_some', n32_nat (by omega)]
  cases hm : metB N L D (M 130) with
  | false =>
    rw [show b1 false = 0 from rfl, if_neg nz0, bind_some', lt1_eq]
    refine ⟨best, rfl, Or.inl rfl, fun m ⟨_, m2⟩ hmm => ?_, fun ha => ⟨ha, by omega⟩⟩
    rw [metB_congr m2, hm] at hmm
    cases hmm
  | true =>
    have h1 := hpos _ e4 hm
    rw [show b1 true = 1 from rfl, if_pos nz1]
    have key : ∀ v : Int, v = (npM (M 130) N : Int) → uS N L D (fun m' => MT N m' ∧ ∀ q, q < N → m' q = M 130 q) best v ∨ (1 ≤ best ∧ best < v) := by
      rintro v rfl
      by_cases q : 1 ≤ best ∧ best < (npM (M 130) N : Int)
      · exact Or.inr q
      · refine Or.inl ⟨Or.inr ⟨M 130, ⟨e4, fun _ _ => rfl⟩, hm, rfl⟩, fun m ⟨_, m2⟩ _ => ?_, fun ha => by omega⟩
        rw [npM_congr m2]
        omega
    by_cases q : 0 ≤ best
    · rw [if_pos q]
      by_cases q2 : (npM (M 130) N : Int) < best
      · rw [if_pos q2, bind_some', if_pos rfl, bind_some', lt1_eq]
        rcases key _ rfl with z | z
        · exact ⟨_, rfl, z⟩
        · omega
      · rw [if_neg q2, bind_some', if_neg (by decide), bind_some', lt1_eq]
        refine ⟨best, rfl, Or.inl rfl, fun m ⟨_, m2⟩ hmm => ?_, fun ha => ⟨ha, by omega⟩⟩
        rw [npM_congr m2]
        omega
    · rw [if_neg q, bind_some', if_pos rfl, bind_some', lt1_eq]
      rcases key _ rfl with z | z
      · exact ⟨_, rfl, z⟩
      · omega
end EX
