theorem good_lay {C : String} {T : u_T} {k : Nat} : goodWord (u_lay C T k) = true := by
  unfold u_lay
  split <;> rfl
theorem cls_inG {ci : Nat} {q : vw_C} (h : cls[ci]? = some q) : ∀ w ∈ u_ws q.1 q.2.1 q.2.2, w ∈ tbG := by
  intro w hw
  refine List.mem_filter.mpr ⟨cls_in h w hw, ?_⟩
  obtain ⟨k, -, rfl⟩ := List.mem_map.mp hw
  exact good_lay
/-- what a field's entry in a class's table of constants names -/
def FL (own : String) (ix ci k : Nat) : Prop := ∃ q : vw_C, cls[ci]? = some q ∧ k < q.2.2 ∧ (Cond.fieldLink own ix q.1 (q.2.1 k).2.1 (q.2.1 k).2.2.1 ∈ tbG ∨ ∃ host, Cond.fieldLinkNest own ix q.1 (q.2.1 k).2.1 (q.2.1 k).2.2.1 host ∈ tbN)
theorem cE_obj {E : Nat → Bool} {ρ : Nat → Nat} {κ : Nat → ClassId} {M : Mem} {c ci : Nat} (hc : lay c = .inl ci) : cE E ρ κ M c = .inr (ci, (List.range (nfC ci)).map fun k => cV ρ (tyC ci k) (fld E M c k)) := by
  unfold cE
  rw [hc]
theorem cE_arr {E : Nat → Bool} {ρ : Nat → Nat} {κ : Nat → ClassId} {M : Mem} {c len : Nat} {ty : FieldType} (hc : lay c = .inr (ty, len)) : cE E ρ κ M c = .inl (κ c, len, cF ρ ty (fld E M c)) := by
  unfold cE
  rw [hc]
theorem cE_ne {E E' : Nat → Bool} {ρ : Nat → Nat} {κ : Nat → ClassId} {M M' : Mem} {c : Nat} (h : ∀ k, fld E M c k = fld E' M' c k) : cE E ρ κ M c = cE E' ρ κ M' c := by
  have h1 : fld E M c = fld E' M' c := funext h
  unfold cE
  simp only [h1]
theorem fld_up_ne {E : Nat → Bool} {M : Mem} {b c k j : Nat} {v : Int} (h : b ≠ c) : fld E M b j = fld E (up M c k v) b j := by
  simp [fld, up, h]
theorem fld_up {E : Nat → Bool} {M : Mem} {c k j : Nat} {v : Int} (h : E c = false ∨ rf c k = 0) : fld E (up M c k v) c j = if j = k then v else fld E M c j := by
  by_cases hj : j = k
  · subst hj
    rcases h with h | h <;> simp [fld, up, h]
  · simp [fld, up, hj]
theorem Rl.put {D : va_G} {E : Nat → Bool} {ρ : Nat → Nat} {κ : Nat → ClassId} {n c k : Nat} {M : Mem} {A : Nat → Prop} {s : State} {H H1 : Heap} {v : Int} (r : Rl D E ρ κ n M A s H) (hP : va_P D cls (wsM E ρ κ n (up M c k v)) H1) (hD : va_D A (wsM E ρ κ n (up M c k v))) (h2 : c ≤ n) (h : isRs c k = false ∨ v.toNat ≤ n) : Rl D E ρ κ n (up M c k v) A s H1 := by
  refine ⟨hP, hD, r.2.2.1, r.2.2.2.1, fun c' k' g1 g2 g3 => ?_, fun c' k' g => ?_⟩
  · by_cases hh : c' = c ∧ k' = k
    · obtain ⟨rfl, rfl⟩ := hh
      rcases h with h | h
      · rw [h] at g3; cases g3
      · unfold fld
        split
        · have := r.2.2.2.2.1 c' k' g1 g2 g3
          unfold fld at this
          rw [if_pos (by assumption)] at this
          exact this
        · simpa [up] using h
    · have := r.2.2.2.2.1 c' k' g1 g2 g3
      have e : up M c k v c' k' = M c' k' := by simp [up, hh]
      unfold fld at this ⊢
      rw [e]
      exact this
  · have : c' ≠ c := by omega
    simp [up, this, r.2.2.2.2.2 c' k' g]
section MEM
variable {y : MI} {B : BI} {Q : Option aV → Mem → Prop} {pc : Nat} {L L' : List (Nat × aV)} {S : List aV} {E : Nat → Bool} {n : Nat} {M M' : Mem}
theorem R_get {ix ci k c : Nat} {v : aV} (d : Dc y pc (.getfield ix) 3) (fl : FL y.1.cls ix ci k) (hc : lay c = .inl ci) (h1 : 1 ≤ c) (h2 : c ≤ n) (hv : ∀ ρ, cV ρ (tyC ci k) (fld E M c k) = cA ρ v) (kk : Rr y B Q (pc + 3) L (v :: S) E n M) : Rr y B Q pc L (vR c :: S) E n M := by
  intro l D p e s m args below meth c0 H ls locs A ρ0 ρ κ0 κ f g r sS hA ag hn hl
  have kk := kk l D p e s m args below meth c0 H ls locs A ρ0 ρ κ0 κ f g r sS hA ag hn hl
  obtain ⟨q, hq, hk, hlk⟩ := fl
  have hp := wsM_at (E := E) (ρ := ρ) (κ := κ) (M := M) h1 h2
  rw [cE_obj hc] at hp
  have hfs : ((List.range (nfC ci)).map fun k => cV ρ (tyC ci k) (fld E M c k))[k]? = some (cA ρ v) := by
    rw [List.getElem?_map, List.getElem?_range (by rw [← cls_len hq]; exact hk)]
    exact congrArg some (hv ρ)
  have hs : ∀ x, s.fieldFound? (q.2.1 k).1 (q.2.1 k).2.1 (q.2.1 k).2.2.1 = some x → s.fieldFound? q.1 (q.2.1 k).2.1 (q.2.1 k).2.2.1 = some x := fun x hx => by
    rw [cls_dc hq k hk] at hx
    exact hx
  change W _ _ _ _ _ _ _ _ _ _ _ _ _ _ _ (F0 m pc ls (.ref (ρ c) :: S.map (cA ρ)))
  rcases hlk with hlk | ⟨host, hlk⟩
  · exact va_get f.1 f.2.1 f.2.2.2.2.2.2.2 (cls_inG hq) f.2.2.2.2.2.1 r.2.2.1 r.1 (c - 1) hp hq k hk (f.2.2.2.2.2.2.2 _ hlk) hs hfs d kk
  · exact va_getN f.1 f.2.1 f.2.2.2.2.2.2.2 (cls_inG hq) f.2.2.2.2.2.1 r.2.2.1 r.1 (c - 1) hp hq k hk (va_Nw.use rfl (g.1.2.2.2.2.2.1 _ hlk)) hs hfs d kk
theorem set_obj {ρ : Nat → Nat} {ci c k : Nat} {x : Int} {v : Value} (hs : E c = false ∨ rf c k = 0) (hx : cV ρ (tyC ci k) x = v) : ((List.range (nfC ci)).map fun k => cV ρ (tyC ci k) (fld E M c k)).set k v = (List.range (nfC ci)).map fun j => cV ρ (tyC ci j) (fld E (up M c k x) c j) := by
  apply List.ext_getElem?
  intro i
  rw [List.getElem?_set, List.length_map, List.length_range, List.getElem?_map, List.getElem?_map]
  by_cases hi : k = i
  · subst hi
    by_cases hn : k < nfC ci
    · simp [hn, fld_up hs, hx]
    · simp [hn]
  · have hi' : ¬ i = k := fun q => hi q.symm
    by_cases hn : i < nfC ci
    · simp [hi, fld_up hs, hi', List.getElem?_range hn]
    · simp [hi, hn]
theorem R_put {ix ci k c : Nat} {x : Int} {v : aV} (d : Dc y pc (.putfield ix) 3) (fl : FL y.1.cls ix ci k) (hc : lay c = .inl ci) (h1 : 1 ≤ c) (h2 : c ≤ n) (hs : E c = false ∨ rf c k = 0) (hfin : ∀ q, cls[ci]? = some q → (q.2.1 k).2.2.2 = false) (hx : ∀ ρ, cV ρ (tyC ci k) x = cA ρ v) (hnr : ∀ ρ, narrow (tyC ci k) (cA ρ v) = cA ρ v) (hft : ∀ ρ, fits (tyC ci k) (cA ρ v) = true) (hvn : isRf (tyC ci k) = false ∨ x.toNat ≤ n)
    (kk : Rr y B Q (pc + 3) L S E n (up M c k x)) : Rr y B Q pc L (v :: vR c :: S) E n M := by
  intro l D p e s m args below meth c0 H ls locs A ρ0 ρ κ0 κ f g r sS hA ag hn hl
  obtain ⟨q, hq, hk, hlk⟩ := fl
  have hp := wsM_at (E := E) (ρ := ρ) (κ := κ) (M := M) h1 h2
  rw [cE_obj hc] at hp
  have hsm : ∀ x, s.fieldFound? (q.2.1 k).1 (q.2.1 k).2.1 (q.2.1 k).2.2.1 = some x → s.fieldFound? q.1 (q.2.1 k).2.1 (q.2.1 k).2.2.1 = some x := fun x hx => by
    rw [cls_dc hq k hk] at hx
    exact hx
  have hws : (wsM E ρ κ n M).set (c - 1) (ρ c, .inr (ci, ((List.range (nfC ci)).map fun k => cV ρ (tyC ci k) (fld E M c k)).set k (cA ρ v))) = wsM E ρ κ n (up M c k x) :=
    wsM_set h1 (by rw [cE_obj hc, set_obj hs (hx ρ)]) fun b hb => cE_ne fun j => fld_up_ne hb
  have hlen : k < ((List.range (nfC ci)).map fun k => cV ρ (tyC ci k) (fld E M c k)).length := by
    rw [List.length_map, List.length_range, ← cls_len hq]
    exact hk
  change W _ _ _ _ _ _ _ _ _ _ _ _ _ _ _ (F0 m pc ls (cA ρ v :: .ref (ρ c) :: S.map (cA ρ)))
  rcases hlk with hlk | ⟨host, hlk⟩
  · refine va_put f.1 f.2.1 f.2.2.2.2.2.2.2 (cls_inG hq) (tyC ci) (cls_ty hq) (cls_nm hq) f.2.2.2.2.2.1 r.2.2.1 r.1 r.2.1 sS (c - 1) hp hq k hk (f.2.2.2.2.2.2.2 _ hlk) hsm (hfin q hq) (cls_ty hq k hk) (hnr ρ) (hft ρ) hlen d fun H1 locs1 hP1 hD1 hS1 => ?_
    rw [hws] at hP1 hD1
    exact kk l D p e s m args below meth c0 H1 ls locs1 A ρ0 ρ κ0 κ f g (r.put hP1 hD1 h2 (by unfold isRs; rw [hc]; exact hvn)) hS1 hA ag hn hl
  · refine va_putN f.1 f.2.1 f.2.2.2.2.2.2.2 (cls_inG hq) (tyC ci) (cls_ty hq) (cls_nm hq) f.2.2.2.2.2.1 r.2.2.1 r.1 r.2.1 sS (c - 1) hp hq k hk (va_Nw.use rfl (g.1.2.2.2.2.2.1 _ hlk)) hsm (hfin q hq) (cls_ty hq k hk) (hnr ρ) (hft ρ) hlen d fun H1 locs1 hP1 hD1 hS1 => ?_
    rw [hws] at hP1 hD1
    exact kk l D p e s m args below meth c0 H1 ls locs1 A ρ0 ρ κ0 κ f g (r.put hP1 hD1 h2 (by unfold isRs; rw [hc]; exact hvn)) hS1 hA ag hn hl
end MEM
