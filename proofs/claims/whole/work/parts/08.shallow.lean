/-! ===== plain functions: what a method does, as a partial function of M ===== -/
def chk {α : Type} (p : Prop) [Decidable p] (e : Option α) : Option α := if p then e else none
def lt1 {α β : Type} (a : α) (f : α → β) : β := f a
def jn {α β : Type} (k : α → β) (f : (α → β) → β) : β := f k
def it {α β : Type} (body : α → Option (α ⊕ β)) : Nat → α → Option β
  | 0, _ => none
  | k + 1, a => (body a).bind fun x => match x with
    | .inl a' => it body k a'
    | .inr b => some b
def FUEL : Nat := 10000000
def Z {α : Type} (e : Option α) (K : α → Prop) : Prop := ∃ a, e = some a ∧ K a
theorem Z_some {α : Type} {a : α} {K : α → Prop} (h : Z (some a) K) : K a := by
  obtain ⟨b, h1, h2⟩ := h
  cases h1
  exact h2
theorem Z_of {α : Type} {a : α} {K : α → Prop} (h : K a) : Z (some a) K := ⟨a, rfl, h⟩
theorem Z_none {α : Type} {K : α → Prop} (h : Z (none : Option α) K) : False := by
  obtain ⟨b, h1, h2⟩ := h
  cases h1
theorem Z_mono {α : Type} {e : Option α} {K K' : α → Prop} (h : Z e K) (hk : ∀ a, K a → K' a) : Z e K' := by
  obtain ⟨a, h1, h2⟩ := h
  exact ⟨a, h1, hk a h2⟩
theorem Z_chk {α : Type} {p : Prop} [Decidable p] {e : Option α} {K : α → Prop} (h : Z (chk p e) K) : p ∧ Z e K := by
  unfold chk at h
  by_cases hp : p
  · rw [if_pos hp] at h; exact ⟨hp, h⟩
  · rw [if_neg hp] at h; exact (Z_none h).elim
theorem Z_pos {α : Type} {p : Prop} [Decidable p] {a b : Option α} {K : α → Prop} (hp : p) (h : Z (if p then a else b) K) : Z a K := by
  rw [if_pos hp] at h; exact h
theorem Z_neg {α : Type} {p : Prop} [Decidable p] {a b : Option α} {K : α → Prop} (hp : ¬ p) (h : Z (if p then a else b) K) : Z b K := by
  rw [if_neg hp] at h; exact h
theorem Z_bind {α β : Type} {e : Option α} {f : α → Option β} {K : β → Prop} (h : Z (e.bind f) K) : Z e (fun a => Z (f a) K) := by
  obtain ⟨b, h1, h2⟩ := h
  obtain ⟨a, ha, hb⟩ := Option.bind_eq_some_iff.mp h1
  exact ⟨a, ha, b, hb, h2⟩
theorem Z_cut {α β : Type} {e : Option α} {f : α → Option β} {K : β → Prop} (h : Z (e.bind f) K) : ∃ K1 : α → Prop, (∀ a, K1 a → Z (f a) K) ∧ Z e K1 := ⟨_, fun _ h => h, Z_bind h⟩
theorem Z_lt {α β : Type} {a : α} {f : α → Option β} {K : β → Prop} (h : Z (lt1 a f) K) : ∃ x, x = a ∧ Z (f x) K := ⟨a, rfl, h⟩
theorem Z_jn {α β : Type} {k : α → Option β} {f : (α → Option β) → Option β} {K : β → Prop} (h : Z (jn k f) K) : ∃ k' : α → Option β, (∀ x, Z (k' x) K → Z (k x) K) ∧ Z (f k') K := ⟨k, fun _ h => h, h⟩
theorem it_R {α β : Type} {body : α → Option (α ⊕ β)} {C : α → Prop} {K : β → Prop} (hb : ∀ (a : α) (K2 : α ⊕ β → Prop), (∀ a', K2 (.inl a') → C a') → (∀ b, K2 (.inr b) → K b) → Z (body a) K2 → C a) : ∀ (fuel : Nat) (a : α), Z (it body fuel a) K → C a
  | 0, a, h => (Z_none h).elim
  | k + 1, a, h => by
    have h := Z_bind (e := body a) h
    refine hb a _ ?_ ?_ h
    · intro a' hx
      exact it_R hb k a' hx
    · intro b hx
      have hx : Z (some b) K := hx
      exact Z_some hx
def qP (M : Mem) (K : Int → Prop) : Option aV → Mem → Prop := fun r M' => ∃ v, r = some (vI v) ∧ M = M' ∧ K v
def qJ (M : Mem) (K : Int → Prop) : Option aV → Mem → Prop := fun r M' => ∃ v, r = some (vJ v) ∧ M = M' ∧ K v
def qV (K : Mem → Prop) : Option aV → Mem → Prop := fun r M' => r = none ∧ K M'
def qM (K : Int × Mem → Prop) : Option aV → Mem → Prop := fun r M' => ∃ v, r = some (vI v) ∧ K (v, M')
def qN (K : Int × Mem → Prop) : Option aV → Mem → Prop := fun r M' => ∃ v, r = some (vJ v) ∧ K (v, M')
theorem dc {y : MI} {t : List (Nat × Instr × Nat)} (h : t.all (fun q => decide (decode y.2.1 q.1 = .ok (q.2.1, q.2.2))) = true) (i : Nat) {pc len : Nat} {ins : Instr} (e : t[i]? = some (pc, ins, len)) : Dc y pc ins len := by
  have h1 := List.all_eq_true.mp h (pc, ins, len) (List.mem_of_getElem? e)
  show decode y.2.1 pc = .ok (ins, len)
  have h2 : decide (decode y.2.1 pc = .ok (ins, len)) = true := h1
  exact of_decide_eq_true h2
/-- the towns, the books of sayings -/
def isT (t : Nat) : Prop := t = 3 ∨ t = 15
def isY (s : Nat) : Prop := s = 42 ∨ s = 50 ∨ s = 57 ∨ s = 64
abbrev isTI (x : Int) : Prop := x = 3 ∨ x = 15
/-- how long an array of longs (ints) of the class is, 0 if there is none at that number -/
def aJ (m c : Nat) : Int := if c ≤ m then match lay c with
  | .inr (.long, k) => (k : Int)
  | _ => 0
  else 0
theorem aJ_at {m c : Nat} {i : Int} (h0 : 0 ≤ i) (h : i < aJ m c) : ∃ len, lay c = .inr (.long, len) ∧ i < (len : Int) ∧ c ≤ m ∧ 1 ≤ c := by
  unfold aJ at h
  by_cases hm : c ≤ m
  · rw [if_pos hm] at h
    cases hl : lay c with
    | inl x => rw [hl] at h; dsimp only at h; omega
    | inr q =>
      obtain ⟨ty, k⟩ := q
      rw [hl] at h
      cases ty <;> dsimp only at h <;> first | omega | skip
      refine ⟨k, rfl, h, hm, ?_⟩
      rcases Nat.eq_zero_or_pos c with z | z
      · subst z; cases hl
      · exact z
  · rw [if_neg hm] at h
    omega
theorem isTI.to {x : Int} (h : isTI x) : x = ((x.toNat : Nat) : Int) ∧ isT x.toNat := by
  rcases h with h | h <;> subst h
  · exact ⟨rfl, Or.inl rfl⟩
  · exact ⟨rfl, Or.inr rfl⟩
theorem jcmp_eq {a b : Int} : n32 (jcmp a b) = 0 ↔ n64 a = n64 b := by
  unfold jcmp n32 n64 lg_cmp
  rw [Int32.ofInt_toInt]
  simp only [gt_iff_lt, Int64.lt_iff_toInt_lt, ← Int64.toInt_inj]
  split
  · constructor
    · intro h; exact absurd h (by decide)
    · intro h; omega
  · split
    · constructor
      · intro _; assumption
      · intro _; rfl
    · constructor
      · intro h; exact absurd h (by decide)
      · intro h; contradiction
section EROWS
variable {y : MI} {B : BI} {Q : Option aV → Mem → Prop} {pc : Nat} {L L' : List (Nat × aV)} {S : List aV} {E : Nat → Bool} {n : Nat} {M M1 : Mem}
theorem R_istore_nE {a x : Int} {i : Nat} {q : Fin 4} (d : Dc y pc (.istore_n q) 1) (hi : (q : Nat) = i) (hn' : i < y.2.2.1) (hx : x = a) (hL : sto1 i (vI x) L = L') (k : Rr y B Q (pc + 1) L' S E n M) : Rr y B Q pc L (vI a :: S) E n M := by
  subst hx; exact R_istore_n d hi hn' hL k
theorem R_istoreE {a x : Int} {i : Nat} (d : Dc y pc (.istore i) 2) (hn' : i < y.2.2.1) (hx : x = a) (hL : sto1 i (vI x) L = L') (k : Rr y B Q (pc + 2) L' S E n M) : Rr y B Q pc L (vI a :: S) E n M := by
  subst hx; exact R_istore d hn' hL k
theorem R_lstore_nE {a x : Int} {i : Nat} {q : Fin 4} (d : Dc y pc (.lstore_n q) 1) (hi : (q : Nat) = i) (hn' : i + 1 < y.2.2.1) (hx : x = a) (hL : sto2 i (vJ x) L = L') (k : Rr y B Q (pc + 1) L' S E n M) : Rr y B Q pc L (vJ a :: S) E n M := by
  subst hx; exact R_lstore_n d hi hn' hL k
theorem R_lstoreE {a x : Int} {i : Nat} (d : Dc y pc (.lstore i) 2) (hn' : i + 1 < y.2.2.1) (hx : x = a) (hL : sto2 i (vJ x) L = L') (k : Rr y B Q (pc + 2) L' S E n M) : Rr y B Q pc L (vJ a :: S) E n M := by
  subst hx; exact R_lstore d hn' hL k
theorem R_iincE {a z x : Int} {i : Nat} (j : Nat) (d : Dc y pc (.iinc i z) 3) (h : L[j]? = some (i, vI a)) (hn' : i < y.2.2.1) (hx : x = a + z) (hL : sto1 i (vI x) L = L') (k : Rr y B Q (pc + 3) L' S E n M) : Rr y B Q pc L S E n M := by
  subst hx; exact R_iinc j d h hn' hL k
theorem R_putIE {ix ci k c : Nat} {x : Int} (d : Dc y pc (.putfield ix) 3) (fl : FL y.1.cls ix ci k) (hc : lay c = .inl ci) (h1 : 1 ≤ c) (h2 : c ≤ n) (hr : rf c k = 0) (hfin : finOf ci k = false) (ht : tyC ci k = .int) (hM : M1 = up M c k x) (kk : Rr y B Q (pc + 3) L S E n M1) : Rr y B Q pc L (vI x :: vR c :: S) E n M := by
  subst hM; exact R_putI d fl hc h1 h2 hr hfin ht kk
theorem R_putZE {ix ci k c : Nat} {x : Int} (d : Dc y pc (.putfield ix) 3) (fl : FL y.1.cls ix ci k) (hc : lay c = .inl ci) (h1 : 1 ≤ c) (h2 : c ≤ n) (hr : rf c k = 0) (hfin : finOf ci k = false) (ht : tyC ci k = .boolean) (hx : x = 0 ∨ x = 1) (hM : M1 = up M c k x) (kk : Rr y B Q (pc + 3) L S E n M1) : Rr y B Q pc L (vI x :: vR c :: S) E n M := by
  subst hM; exact R_putZ d fl hc h1 h2 hr hfin ht hx kk
theorem R_putJE {ix ci k c : Nat} {x : Int} (d : Dc y pc (.putfield ix) 3) (fl : FL y.1.cls ix ci k) (hc : lay c = .inl ci) (h1 : 1 ≤ c) (h2 : c ≤ n) (hr : rf c k = 0) (hfin : finOf ci k = false) (ht : tyC ci k = .long) (hM : M1 = up M c k x) (kk : Rr y B Q (pc + 3) L S E n M1) : Rr y B Q pc L (vJ x :: vR c :: S) E n M := by
  subst hM; exact R_putJ d fl hc h1 h2 hr hfin ht kk
theorem R_putRE {ix ci k c v : Nat} (d : Dc y pc (.putfield ix) 3) (fl : FL y.1.cls ix ci k) (hc : lay c = .inl ci) (h1 : 1 ≤ c) (h2 : c ≤ n) (hr : rf c k = 0) (hfin : finOf ci k = false) (hv : v ≠ 0) (hvn : v ≤ n) (ht : isRf (tyC ci k) = true) (hM : M1 = up M c k (v : Int)) (kk : Rr y B Q (pc + 3) L S E n M1) : Rr y B Q pc L (vR v :: vR c :: S) E n M := by
  subst hM; exact R_putR d fl hc h1 h2 (Or.inr hr) hfin hv hvn ht kk
theorem R_iastE {c len : Nat} {i x : Int} (d : Dc y pc .iastore 1) (hc : lay c = .inr (.int, len)) (h1 : 1 ≤ c) (h2 : c ≤ n) (hi0 : 0 ≤ i) (hi1 : i < (len : Int)) (hM : M1 = up M c i.toNat x) (kk : Rr y B Q (pc + 1) L S E n M1) : Rr y B Q pc L (vI x :: vI i :: vR c :: S) E n M := by
  subst hM; exact R_iast d hc h1 h2 hi0 hi1 kk
theorem R_zastE {c len : Nat} {i x : Int} (d : Dc y pc .bastore 1) (hc : lay c = .inr (.boolean, len)) (h1 : 1 ≤ c) (h2 : c ≤ n) (hi0 : 0 ≤ i) (hi1 : i < (len : Int)) (hx : x = 0 ∨ x = 1) (hM : M1 = up M c i.toNat x) (kk : Rr y B Q (pc + 1) L S E n M1) : Rr y B Q pc L (vI x :: vI i :: vR c :: S) E n M := by
  subst hM; exact R_zast d hc h1 h2 hi0 hi1 hx kk
theorem R_bastE {c len : Nat} {i x : Int} (d : Dc y pc .bastore 1) (hc : lay c = .inr (.byte, len)) (h1 : 1 ≤ c) (h2 : c ≤ n) (hi0 : 0 ≤ i) (hi1 : i < (len : Int)) (hx : -128 ≤ x ∧ x < 128) (hM : M1 = up M c i.toNat x) (kk : Rr y B Q (pc + 1) L S E n M1) : Rr y B Q pc L (vI x :: vI i :: vR c :: S) E n M := by
  subst hM; exact R_bast d hc h1 h2 hi0 hi1 hx kk
theorem R_lastE {c len : Nat} {i x : Int} (d : Dc y pc .lastore 1) (hc : lay c = .inr (.long, len)) (h1 : 1 ≤ c) (h2 : c ≤ n) (hi0 : 0 ≤ i) (hi1 : i < (len : Int)) (hM : M1 = up M c i.toNat x) (kk : Rr y B Q (pc + 1) L S E n M1) : Rr y B Q pc L (vJ x :: vI i :: vR c :: S) E n M := by
  subst hM; exact R_last d hc h1 h2 hi0 hi1 kk
end EROWS

theorem lb {a b : Nat} (h : Nat.ble a b = true) : a ≤ b := Nat.le_of_ble_eq_true h
section CROWS
variable {y y' : MI} {B : BI} {Q : Option aV → Mem → Prop} {pc : Nat} {L : List (Nat × aV)} {St : List aV} {E : Nat → Bool} {n : Nat} {M : Mem}
theorem R_cVP {ix b ci : Nat} (As S : List aV) (ck : CK 0 y.1.cls ix y' As.length) (d : Dc y pc (.invokevirtual ix) 3) (hrec : lay b = .inl ci ∧ (∃ q, cls[ci]? = some q ∧ q.1 = y'.1.cls) ∧ 1 ≤ b ∧ b ≤ n) {fr' lo' : Nat} (hB1 : fr' + 1 ≤ B.1) (hB2 : 8 + (y'.2.2.1 + 11) + lo' ≤ B.2.1) (hS8 : wid S ≤ 8) (hS : As.reverse ++ vR b :: S = St) {K : Int → Prop} (hM : Mt y' (fr', lo', n, n, E) E (vR b :: As) M (qP M K)) (kk : ∀ v, K v → Rr y B Q (pc + 3) L (vI v :: S) E n M) : Rr y B Q pc L St E n M := by
  subst hS
  obtain ⟨h1, ⟨q, h2, h3⟩, h4, h5⟩ := hrec
  exact R_call 0 (Or.inl rfl) ck d (fun _ => Or.inl ⟨ci, q, h1, h2, h3, h4, h5⟩) hB1 hB2 hS8 hM (fun r M' hq => by obtain ⟨v, rfl, rfl, h⟩ := hq; exact kk v h)
theorem R_cVJ {ix b ci : Nat} (As S : List aV) (ck : CK 0 y.1.cls ix y' As.length) (d : Dc y pc (.invokevirtual ix) 3) (hrec : lay b = .inl ci ∧ (∃ q, cls[ci]? = some q ∧ q.1 = y'.1.cls) ∧ 1 ≤ b ∧ b ≤ n) {fr' lo' : Nat} (hB1 : fr' + 1 ≤ B.1) (hB2 : 8 + (y'.2.2.1 + 11) + lo' ≤ B.2.1) (hS8 : wid S ≤ 8) (hS : As.reverse ++ vR b :: S = St) {K : Int → Prop} (hM : Mt y' (fr', lo', n, n, E) E (vR b :: As) M (qJ M K)) (kk : ∀ v, K v → Rr y B Q (pc + 3) L (vJ v :: S) E n M) : Rr y B Q pc L St E n M := by
  subst hS
  obtain ⟨h1, ⟨q, h2, h3⟩, h4, h5⟩ := hrec
  exact R_call 0 (Or.inl rfl) ck d (fun _ => Or.inl ⟨ci, q, h1, h2, h3, h4, h5⟩) hB1 hB2 hS8 hM (fun r M' hq => by obtain ⟨v, rfl, rfl, h⟩ := hq; exact kk v h)
theorem R_cVV {ix b ci : Nat} (As S : List aV) (ck : CK 0 y.1.cls ix y' As.length) (d : Dc y pc (.invokevirtual ix) 3) (hrec : lay b = .inl ci ∧ (∃ q, cls[ci]? = some q ∧ q.1 = y'.1.cls) ∧ 1 ≤ b ∧ b ≤ n) {fr' lo' : Nat} (hB1 : fr' + 1 ≤ B.1) (hB2 : 8 + (y'.2.2.1 + 11) + lo' ≤ B.2.1) (hS8 : wid S ≤ 8) (hS : As.reverse ++ vR b :: S = St) {K : Mem → Prop} (hM : Mt y' (fr', lo', n, n, E) E (vR b :: As) M (qV K)) (kk : ∀ M', K M' → Rr y B Q (pc + 3) L S E n M') : Rr y B Q pc L St E n M := by
  subst hS
  obtain ⟨h1, ⟨q, h2, h3⟩, h4, h5⟩ := hrec
  exact R_call 0 (Or.inl rfl) ck d (fun _ => Or.inl ⟨ci, q, h1, h2, h3, h4, h5⟩) hB1 hB2 hS8 hM (fun r M' hq => by obtain ⟨rfl, h⟩ := hq; exact kk _ h)
theorem R_cVM {ix b ci : Nat} (As S : List aV) (ck : CK 0 y.1.cls ix y' As.length) (d : Dc y pc (.invokevirtual ix) 3) (hrec : lay b = .inl ci ∧ (∃ q, cls[ci]? = some q ∧ q.1 = y'.1.cls) ∧ 1 ≤ b ∧ b ≤ n) {fr' lo' : Nat} (hB1 : fr' + 1 ≤ B.1) (hB2 : 8 + (y'.2.2.1 + 11) + lo' ≤ B.2.1) (hS8 : wid S ≤ 8) (hS : As.reverse ++ vR b :: S = St) {K : Int × Mem → Prop} (hM : Mt y' (fr', lo', n, n, E) E (vR b :: As) M (qM K)) (kk : ∀ v M', K (v, M') → Rr y B Q (pc + 3) L (vI v :: S) E n M') : Rr y B Q pc L St E n M := by
  subst hS
  obtain ⟨h1, ⟨q, h2, h3⟩, h4, h5⟩ := hrec
  exact R_call 0 (Or.inl rfl) ck d (fun _ => Or.inl ⟨ci, q, h1, h2, h3, h4, h5⟩) hB1 hB2 hS8 hM (fun r M' hq => by obtain ⟨v, rfl, h⟩ := hq; exact kk v _ h)
theorem R_cVN {ix b ci : Nat} (As S : List aV) (ck : CK 0 y.1.cls ix y' As.length) (d : Dc y pc (.invokevirtual ix) 3) (hrec : lay b = .inl ci ∧ (∃ q, cls[ci]? = some q ∧ q.1 = y'.1.cls) ∧ 1 ≤ b ∧ b ≤ n) {fr' lo' : Nat} (hB1 : fr' + 1 ≤ B.1) (hB2 : 8 + (y'.2.2.1 + 11) + lo' ≤ B.2.1) (hS8 : wid S ≤ 8) (hS : As.reverse ++ vR b :: S = St) {K : Int × Mem → Prop} (hM : Mt y' (fr', lo', n, n, E) E (vR b :: As) M (qN K)) (kk : ∀ v M', K (v, M') → Rr y B Q (pc + 3) L (vJ v :: S) E n M') : Rr y B Q pc L St E n M := by
  subst hS
  obtain ⟨h1, ⟨q, h2, h3⟩, h4, h5⟩ := hrec
  exact R_call 0 (Or.inl rfl) ck d (fun _ => Or.inl ⟨ci, q, h1, h2, h3, h4, h5⟩) hB1 hB2 hS8 hM (fun r M' hq => by obtain ⟨v, rfl, h⟩ := hq; exact kk v _ h)
theorem R_cSP {ix : Nat} (As S : List aV) (ck : CK 1 y.1.cls ix y' As.length) (d : Dc y pc (.invokestatic ix) 3) {fr' lo' : Nat} (hB1 : fr' + 1 ≤ B.1) (hB2 : 8 + (y'.2.2.1 + 11) + lo' ≤ B.2.1) (hS8 : wid S ≤ 8) (hS : As.reverse ++ S = St) {K : Int → Prop} (hM : Mt y' (fr', lo', n, n, E) E As M (qP M K)) (kk : ∀ v, K v → Rr y B Q (pc + 3) L (vI v :: S) E n M) : Rr y B Q pc L St E n M := by
  subst hS
  exact R_call 1 (b := 0) (Or.inr rfl) ck d (fun h => absurd h (by decide)) hB1 hB2 hS8 hM (fun r M' hq => by obtain ⟨v, rfl, rfl, h⟩ := hq; exact kk v h)
theorem R_cSJ {ix : Nat} (As S : List aV) (ck : CK 1 y.1.cls ix y' As.length) (d : Dc y pc (.invokestatic ix) 3) {fr' lo' : Nat} (hB1 : fr' + 1 ≤ B.1) (hB2 : 8 + (y'.2.2.1 + 11) + lo' ≤ B.2.1) (hS8 : wid S ≤ 8) (hS : As.reverse ++ S = St) {K : Int → Prop} (hM : Mt y' (fr', lo', n, n, E) E As M (qJ M K)) (kk : ∀ v, K v → Rr y B Q (pc + 3) L (vJ v :: S) E n M) : Rr y B Q pc L St E n M := by
  subst hS
  exact R_call 1 (b := 0) (Or.inr rfl) ck d (fun h => absurd h (by decide)) hB1 hB2 hS8 hM (fun r M' hq => by obtain ⟨v, rfl, rfl, h⟩ := hq; exact kk v h)
theorem R_cSV {ix : Nat} (As S : List aV) (ck : CK 1 y.1.cls ix y' As.length) (d : Dc y pc (.invokestatic ix) 3) {fr' lo' : Nat} (hB1 : fr' + 1 ≤ B.1) (hB2 : 8 + (y'.2.2.1 + 11) + lo' ≤ B.2.1) (hS8 : wid S ≤ 8) (hS : As.reverse ++ S = St) {K : Mem → Prop} (hM : Mt y' (fr', lo', n, n, E) E As M (qV K)) (kk : ∀ M', K M' → Rr y B Q (pc + 3) L S E n M') : Rr y B Q pc L St E n M := by
  subst hS
  exact R_call 1 (b := 0) (Or.inr rfl) ck d (fun h => absurd h (by decide)) hB1 hB2 hS8 hM (fun r M' hq => by obtain ⟨rfl, h⟩ := hq; exact kk _ h)
theorem R_cSM {ix : Nat} (As S : List aV) (ck : CK 1 y.1.cls ix y' As.length) (d : Dc y pc (.invokestatic ix) 3) {fr' lo' : Nat} (hB1 : fr' + 1 ≤ B.1) (hB2 : 8 + (y'.2.2.1 + 11) + lo' ≤ B.2.1) (hS8 : wid S ≤ 8) (hS : As.reverse ++ S = St) {K : Int × Mem → Prop} (hM : Mt y' (fr', lo', n, n, E) E As M (qM K)) (kk : ∀ v M', K (v, M') → Rr y B Q (pc + 3) L (vI v :: S) E n M') : Rr y B Q pc L St E n M := by
  subst hS
  exact R_call 1 (b := 0) (Or.inr rfl) ck d (fun h => absurd h (by decide)) hB1 hB2 hS8 hM (fun r M' hq => by obtain ⟨v, rfl, h⟩ := hq; exact kk v _ h)
theorem R_cSN {ix : Nat} (As S : List aV) (ck : CK 1 y.1.cls ix y' As.length) (d : Dc y pc (.invokestatic ix) 3) {fr' lo' : Nat} (hB1 : fr' + 1 ≤ B.1) (hB2 : 8 + (y'.2.2.1 + 11) + lo' ≤ B.2.1) (hS8 : wid S ≤ 8) (hS : As.reverse ++ S = St) {K : Int × Mem → Prop} (hM : Mt y' (fr', lo', n, n, E) E As M (qN K)) (kk : ∀ v M', K (v, M') → Rr y B Q (pc + 3) L (vJ v :: S) E n M') : Rr y B Q pc L St E n M := by
  subst hS
  exact R_call 1 (b := 0) (Or.inr rfl) ck d (fun h => absurd h (by decide)) hB1 hB2 hS8 hM (fun r M' hq => by obtain ⟨v, rfl, h⟩ := hq; exact kk v _ h)
end CROWS
