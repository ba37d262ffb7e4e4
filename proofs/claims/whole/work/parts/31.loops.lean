/-! ===== loops and ends ===== -/
theorem Z_iff_some {α : Type} {a : α} {K : α → Prop} : Z (some a) K ↔ K a := ⟨Z_some, Z_of⟩
theorem Z_chk_iff {α : Type} {p : Prop} [Decidable p] {e : Option α} {K : α → Prop} : Z (chk p e) K ↔ (p ∧ Z e K) := by
  constructor
  · exact Z_chk
  · rintro ⟨hp, h⟩
    unfold chk
    rw [if_pos hp]
    exact h
theorem Z_bind_iff {α β : Type} {e : Option α} {f : α → Option β} {K : β → Prop} : Z (e.bind f) K ↔ Z e (fun a => Z (f a) K) := by
  constructor
  · exact Z_bind
  · rintro ⟨a, ha, b, hb, hk⟩
    refine ⟨b, ?_, hk⟩
    rw [ha]
    exact hb
theorem Z_ite_iff {α : Type} {p : Prop} [Decidable p] {a b : Option α} {K : α → Prop} : Z (if p then a else b) K ↔ ((p → Z a K) ∧ (¬ p → Z b K)) := by
  by_cases hp : p
  · rw [if_pos hp]
    exact ⟨fun h => ⟨fun _ => h, fun h' => absurd hp h'⟩, fun h => h.1 hp⟩
  · rw [if_neg hp]
    exact ⟨fun h => ⟨fun h' => absurd h' hp, fun _ => h⟩, fun h => h.2 hp⟩
theorem it_seq {α β : Type} {body : α → Option (α ⊕ β)} (S : Nat → α) {b : β} (n : Nat) : ∀ (fuel k : Nat), k ≤ n → n - k < fuel → (∀ i, k ≤ i → i < n → body (S i) = some (.inl (S (i + 1)))) → body (S n) = some (.inr b) → it body fuel (S k) = some b
  | 0, _, _, hf, _, _ => by omega
  | fuel + 1, k, hk, hf, h1, h2 => by
    by_cases e : k = n
    · subst e
      show (body (S k)).bind _ = _
      rw [h2]
      rfl
    · show (body (S k)).bind _ = _
      rw [h1 k (Nat.le_refl _) (by omega)]
      exact it_seq S n fuel (k + 1) (by omega) (by omega) (fun i hi hn => h1 i (by omega) hn) h2
theorem it_for {α β : Type} {body : α → Option (α ⊕ β)} (S : Nat → α) {a : α} {b : β} (n : Nat) (hn : n < FUEL) (h0 : S 0 = a) (h1 : ∀ i, i < n → body (S i) = some (.inl (S (i + 1)))) (h2 : body (S n) = some (.inr b)) : it body FUEL a = some b := by
  rw [← h0]
  exact it_seq S n FUEL 0 (Nat.zero_le _) (by omega) (fun i _ h => h1 i h) h2
theorem it_Zk {α β : Type} {body : α → Option (α ⊕ β)} {I : Nat → α → Prop} {J : β → Prop} (n : Nat) : ∀ (fuel k : Nat) (a : α), k ≤ n → n - k < fuel → (∀ i a, i < n → I i a → Z (body a) (fun r => (∃ a', r = .inl a' ∧ I (i + 1) a') ∨ (∃ b, r = .inr b ∧ J b))) → (∀ a, I n a → Z (body a) (fun r => ∃ b, r = .inr b ∧ J b)) → I k a → Z (it body fuel a) J
  | 0, _, _, _, hf, _, _, _ => by omega
  | fuel + 1, k, a, hk, hf, h1, h2, hI => by
    show Z ((body a).bind _) J
    rw [Z_bind_iff]
    by_cases e : k = n
    · subst e
      refine Z_mono (h2 a hI) ?_
      rintro r ⟨b, rfl, hb⟩
      exact Z_of hb
    · refine Z_mono (h1 k a (by omega) hI) ?_
      rintro r (⟨a', rfl, ha⟩ | ⟨b, rfl, hb⟩)
      · exact it_Zk n fuel (k + 1) a' (by omega) (by omega) h1 h2 ha
      · exact Z_of hb
theorem it_Z {α β : Type} {body : α → Option (α ⊕ β)} (I : Nat → α → Prop) {J : β → Prop} (n : Nat) {a : α} (hn : n < FUEL) (h0 : I 0 a) (h1 : ∀ i a, i < n → I i a → Z (body a) (fun r => (∃ a', r = .inl a' ∧ I (i + 1) a') ∨ (∃ b, r = .inr b ∧ J b))) (h2 : ∀ a, I n a → Z (body a) (fun r => ∃ b, r = .inr b ∧ J b)) : Z (it body FUEL a) J :=
  it_Zk n FUEL 0 a (Nat.zero_le _) (by omega) h1 h2 h0
theorem it_mono {α β : Type} {body : α → Option (α ⊕ β)} {b : β} : ∀ (f g : Nat) (a : α), f ≤ g → it body f a = some b → it body g a = some b
  | 0, _, _, _, h => by cases h
  | f + 1, 0, _, hg, _ => by omega
  | f + 1, g + 1, a, hg, h => by
    obtain ⟨x, hx, hr⟩ := Option.bind_eq_some_iff.mp h
    show (body a).bind _ = _
    rw [hx]
    cases x with
    | inl a' => exact it_mono f g a' (by omega) hr
    | inr b' => exact hr
theorem it_step {α β : Type} {body : α → Option (α ⊕ β)} {a a' : α} {f : Nat} (h : body a = some (.inl a')) : it body (f + 1) a = it body f a' := by
  show (body a).bind _ = _
  rw [h]
  rfl
theorem it_last {α β : Type} {body : α → Option (α ⊕ β)} {a : α} {b : β} {f : Nat} (h : body a = some (.inr b)) : it body (f + 1) a = some b := by
  show (body a).bind _ = _
  rw [h]
  rfl
theorem up_eq {M : Mem} {c k : Nat} {v : Int} : up M c k v c k = v := by simp [up]
theorem up_c {M : Mem} {c k c' k' : Nat} {v : Int} (h : c' ≠ c) : up M c k v c' k' = M c' k' := by simp [up, h]
theorem up_k {M : Mem} {c k k' : Nat} {v : Int} (h : k' ≠ k) : up M c k v c k' = M c k' := by simp [up, h]
