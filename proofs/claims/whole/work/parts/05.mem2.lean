
theorem rf_chk : ∀ c, c < 139 → (match lay c with
  | .inr (.object _, _) => true
  | .inr _ => (rfL.getD c []).isEmpty
  | .inl _ => true) = true := by decide +kernel
theorem len_chk : ∀ c, c < 139 → (match lay c with
  | .inr (_, n) => decide (n ≤ 30000)
  | .inl _ => true) = true := by decide +kernel
theorem lay_out {c : Nat} (h : 139 ≤ c) : lay c = .inr (.short, 0) := by
  unfold lay
  rw [List.getD_eq_getElem?_getD, List.getElem?_eq_none (by exact h)]
  rfl
def prim (ty : FieldType) : Bool := match ty with
  | .object _ => false
  | _ => true
theorem rf_arr {c len : Nat} {ty : FieldType} (h : lay c = .inr (ty, len)) (hp : prim ty = true) (k : Nat) : rf c k = 0 := by
  have e : rfL.getD c [] = [] := by
    by_cases hc : c < 139
    · have h1 := rf_chk c hc
      rw [h] at h1
      cases ty <;> first | exact List.isEmpty_iff.mp h1 | cases hp
    · rw [List.getD_eq_getElem?_getD, List.getElem?_eq_none (by
        have : rfL.length = 139 := rfl
        omega)]
      rfl
  unfold rf
  rw [e]
  rfl
theorem lay_len {c len : Nat} {ty : FieldType} (h : lay c = .inr (ty, len)) : len ≤ 30000 := by
  by_cases hc : c < 139
  · have h1 := len_chk c hc
    rw [h] at h1
    exact of_decide_eq_true h1
  · rw [lay_out (by omega)] at h
    cases h
    omega
theorem Rl.K1 {D : va_G} {E : Nat → Bool} {ρ : Nat → Nat} {κ : Nat → ClassId} {n : Nat} {M : Mem} {A : Nat → Prop} {s : State} {H : Heap} (r : Rl D E ρ κ n M A s H) {c len : Nat} {ty : FieldType} (h1 : 1 ≤ c) (h2 : c ≤ n) (hc : lay c = .inr (ty, len)) : va_K D cls [(κ c, ty)] s := by
  refine ⟨r.2.2.1.1, fun k q h => ?_⟩
  cases k with
  | zero => cases h; exact r.2.2.2.1 c ty len h1 h2 hc
  | succ k => simp at h
theorem ix_in {i : Int} {len : Nat} (h0 : 0 ≤ i) (h1 : i < (len : Int)) (hl : len ≤ 30000) : vp_in (Int32.ofInt i) len ∧ (Int32.ofInt i).toNatClampNeg = i.toNat := by
  have e : (Int32.ofInt i).toInt = i := Int32.toInt_ofInt_of_le (by omega) (by omega)
  refine ⟨vp_in_iff.mpr ?_, ?_⟩
  · rw [e]; omega
  · exact Int32.toNatClampNeg_ofInt_of_le (by omega) (by omega)
theorem cV_int {ρ : Nat → Nat} {ty : FieldType} {x : Int} (h : ty = .int ∨ ty = .boolean) : cV ρ ty x = .int (Int32.ofInt x) := by
  rcases h with h | h <;> subst h <;> rfl
section MEM2
variable {y : MI} {B : BI} {Q : Option aV → Mem → Prop} {pc : Nat} {L L' : List (Nat × aV)} {S : List aV} {E : Nat → Bool} {n : Nat} {M M' : Mem}
theorem fld_0 {c k : Nat} (h : rf c k = 0) : fld E M c k = M c k := by simp [fld, h]
theorem fld_s {c k : Nat} (h : E c = true) (h0 : rf c k ≠ 0) : fld E M c k = (rf c k : Int) := by simp [fld, h, h0]
theorem R_getI {ix ci k c : Nat} (d : Dc y pc (.getfield ix) 3) (fl : FL y.1.cls ix ci k) (hc : lay c = .inl ci) (h1 : 1 ≤ c) (h2 : c ≤ n) (hr : rf c k = 0) (ht : tyC ci k = .int ∨ tyC ci k = .boolean) (kk : Rr y B Q (pc + 3) L (vI (M c k) :: S) E n M) : Rr y B Q pc L (vR c :: S) E n M :=
  R_get d fl hc h1 h2 (fun ρ => by rw [fld_0 hr]; exact cV_int ht) kk
theorem R_getJ {ix ci k c : Nat} (d : Dc y pc (.getfield ix) 3) (fl : FL y.1.cls ix ci k) (hc : lay c = .inl ci) (h1 : 1 ≤ c) (h2 : c ≤ n) (hr : rf c k = 0) (ht : tyC ci k = .long) (kk : Rr y B Q (pc + 3) L (vJ (M c k) :: S) E n M) : Rr y B Q pc L (vR c :: S) E n M :=
  R_get d fl hc h1 h2 (fun ρ => by rw [fld_0 hr, ht]; rfl) kk
theorem cV_ref {ρ : Nat → Nat} {ty : FieldType} {r : Nat} (h : isRf ty = true) (h0 : r ≠ 0) : cV ρ ty (r : Int) = .ref (ρ r) := by
  cases ty <;> first | (cases h; done) | simp [cV, cR, h0]
/-- a reference that is fixed once its object is made -/
theorem R_getS {ix ci k c : Nat} (v : Nat) (d : Dc y pc (.getfield ix) 3) (fl : FL y.1.cls ix ci k) (hc : lay c = .inl ci) (h1 : 1 ≤ c) (h2 : c ≤ n) (hE : E c = true) (hr : rf c k = v) (hv : v ≠ 0) (ht : isRf (tyC ci k) = true) (kk : Rr y B Q (pc + 3) L (vR v :: S) E n M) : Rr y B Q pc L (vR c :: S) E n M :=
  R_get d fl hc h1 h2 (fun ρ => by rw [fld_s hE (by rw [hr]; exact hv), hr]; exact cV_ref ht hv) kk
/-- a reference that M holds -/
theorem R_getR {ix ci k c : Nat} (v : Nat) (d : Dc y pc (.getfield ix) 3) (fl : FL y.1.cls ix ci k) (hc : lay c = .inl ci) (h1 : 1 ≤ c) (h2 : c ≤ n) (hr : E c = false ∨ rf c k = 0) (hm : M c k = (v : Int)) (hv : v ≠ 0) (ht : isRf (tyC ci k) = true) (kk : Rr y B Q (pc + 3) L (vR v :: S) E n M) : Rr y B Q pc L (vR c :: S) E n M :=
  R_get d fl hc h1 h2 (fun ρ => by
    have e : fld E M c k = (v : Int) := by rcases hr with h | h <;> simp [fld, h, hm]
    rw [e]; exact cV_ref ht hv) kk
def finOf (ci k : Nat) : Bool := match cls[ci]? with
  | some q => (q.2.1 k).2.2.2
  | none => false
theorem fin_of {ci k : Nat} {b : Bool} (h : finOf ci k = b) : ∀ q, cls[ci]? = some q → (q.2.1 k).2.2.2 = b := by
  intro q hq
  unfold finOf at h
  rw [hq] at h
  exact h
theorem R_putI {ix ci k c : Nat} {x : Int} (d : Dc y pc (.putfield ix) 3) (fl : FL y.1.cls ix ci k) (hc : lay c = .inl ci) (h1 : 1 ≤ c) (h2 : c ≤ n) (hr : rf c k = 0) (hfin : finOf ci k = false) (ht : tyC ci k = .int) (kk : Rr y B Q (pc + 3) L S E n (up M c k x)) : Rr y B Q pc L (vI x :: vR c :: S) E n M :=
  R_put d fl hc h1 h2 (Or.inr hr) (fin_of hfin) (fun ρ => by rw [ht]; rfl) (fun ρ => by rw [ht]; rfl) (fun ρ => by rw [ht]; rfl) (Or.inl (by rw [ht]; rfl)) kk
theorem R_putZ {ix ci k c : Nat} {x : Int} (d : Dc y pc (.putfield ix) 3) (fl : FL y.1.cls ix ci k) (hc : lay c = .inl ci) (h1 : 1 ≤ c) (h2 : c ≤ n) (hr : rf c k = 0) (hfin : finOf ci k = false) (ht : tyC ci k = .boolean) (hx : x = 0 ∨ x = 1) (kk : Rr y B Q (pc + 3) L S E n (up M c k x)) : Rr y B Q pc L (vI x :: vR c :: S) E n M :=
  R_put d fl hc h1 h2 (Or.inr hr) (fin_of hfin) (fun ρ => by rw [ht]; rfl) (fun ρ => by rw [ht]; rcases hx with h | h <;> subst h <;> rfl) (fun ρ => by rw [ht]; rcases hx with h | h <;> subst h <;> rfl) (Or.inl (by rw [ht]; rfl)) kk
theorem R_putJ {ix ci k c : Nat} {x : Int} (d : Dc y pc (.putfield ix) 3) (fl : FL y.1.cls ix ci k) (hc : lay c = .inl ci) (h1 : 1 ≤ c) (h2 : c ≤ n) (hr : rf c k = 0) (hfin : finOf ci k = false) (ht : tyC ci k = .long) (kk : Rr y B Q (pc + 3) L S E n (up M c k x)) : Rr y B Q pc L (vJ x :: vR c :: S) E n M :=
  R_put d fl hc h1 h2 (Or.inr hr) (fin_of hfin) (fun ρ => by rw [ht]; rfl) (fun ρ => by rw [ht]; rfl) (fun ρ => by rw [ht]; rfl) (Or.inl (by rw [ht]; rfl)) kk
theorem R_putR {ix ci k c v : Nat} (d : Dc y pc (.putfield ix) 3) (fl : FL y.1.cls ix ci k) (hc : lay c = .inl ci) (h1 : 1 ≤ c) (h2 : c ≤ n) (hs : E c = false ∨ rf c k = 0) (hfin : finOf ci k = false) (hv : v ≠ 0) (hvn : v ≤ n) (ht : isRf (tyC ci k) = true) (kk : Rr y B Q (pc + 3) L S E n (up M c k (v : Int))) : Rr y B Q pc L (vR v :: vR c :: S) E n M :=
  R_put d fl hc h1 h2 hs (fin_of hfin) (fun ρ => cV_ref ht hv) (fun ρ => by
    revert ht; cases tyC ci k <;> intro ht <;> first | rfl | cases ht) (fun ρ => by
    revert ht; cases tyC ci k <;> intro ht <;> first | rfl | cases ht) (Or.inr hvn) kk

theorem R_iald {c len : Nat} {i : Int} (d : Dc y pc .iaload 1) (hc : lay c = .inr (.int, len)) (h1 : 1 ≤ c) (h2 : c ≤ n) (hi0 : 0 ≤ i) (hi1 : i < (len : Int)) (kk : Rr y B Q (pc + 1) L (vI (M c i.toNat) :: S) E n M) : Rr y B Q pc L (vI i :: vR c :: S) E n M := by
  intro l D p e s m args below meth c0 H ls locs A ρ0 ρ κ0 κ f g r sS hA ag hn hl
  have kk := kk l D p e s m args below meth c0 H ls locs A ρ0 ρ κ0 κ f g r sS hA ag hn hl
  change W _ _ _ _ _ _ _ _ _ _ _ _ _ _ _ (F0 m (pc + 1) ls (.int (Int32.ofInt (M c i.toNat)) :: S.map (cA ρ))) at kk
  change W _ _ _ _ _ _ _ _ _ _ _ _ _ _ _ (F0 m pc ls (.int (Int32.ofInt i) :: .ref (ρ c) :: S.map (cA ρ)))
  have hp := wsM_at (E := E) (ρ := ρ) (κ := κ) (M := M) h1 h2
  rw [cE_arr hc] at hp
  obtain ⟨x1, x2⟩ := ix_in hi0 hi1 (lay_len hc)
  refine va_iald f.1 f.2.1 (r.K1 h1 h2 hc) r.1 (c - 1) 0 hp rfl x1 d ?_
  rw [x2]
  show W _ _ _ _ _ _ _ _ _ _ _ _ _ _ _ (F0 m (pc + 1) ls (.int (Int32.ofInt (fld E M c i.toNat)) :: S.map (cA ρ)))
  rw [fld_0 (rf_arr hc rfl _)]
  exact kk
theorem R_bald {c len : Nat} {i : Int} (d : Dc y pc .baload 1) (hc : lay c = .inr (.byte, len)) (h1 : 1 ≤ c) (h2 : c ≤ n) (hi0 : 0 ≤ i) (hi1 : i < (len : Int)) (kk : Rr y B Q (pc + 1) L (vI (M c i.toNat) :: S) E n M) : Rr y B Q pc L (vI i :: vR c :: S) E n M := by
  intro l D p e s m args below meth c0 H ls locs A ρ0 ρ κ0 κ f g r sS hA ag hn hl
  have kk := kk l D p e s m args below meth c0 H ls locs A ρ0 ρ κ0 κ f g r sS hA ag hn hl
  change W _ _ _ _ _ _ _ _ _ _ _ _ _ _ _ (F0 m (pc + 1) ls (.int (Int32.ofInt (M c i.toNat)) :: S.map (cA ρ))) at kk
  change W _ _ _ _ _ _ _ _ _ _ _ _ _ _ _ (F0 m pc ls (.int (Int32.ofInt i) :: .ref (ρ c) :: S.map (cA ρ)))
  have hp := wsM_at (E := E) (ρ := ρ) (κ := κ) (M := M) h1 h2
  rw [cE_arr hc] at hp
  obtain ⟨x1, x2⟩ := ix_in hi0 hi1 (lay_len hc)
  refine va_bald f.1 f.2.1 (r.K1 h1 h2 hc) r.1 (c - 1) 0 hp rfl x1 d ?_
  rw [x2]
  show W _ _ _ _ _ _ _ _ _ _ _ _ _ _ _ (F0 m (pc + 1) ls (.int (Int32.ofInt (fld E M c i.toNat)) :: S.map (cA ρ)))
  rw [fld_0 (rf_arr hc rfl _)]
  exact kk
theorem R_zald {c len : Nat} {i : Int} (d : Dc y pc .baload 1) (hc : lay c = .inr (.boolean, len)) (h1 : 1 ≤ c) (h2 : c ≤ n) (hi0 : 0 ≤ i) (hi1 : i < (len : Int)) (kk : Rr y B Q (pc + 1) L (vI (M c i.toNat) :: S) E n M) : Rr y B Q pc L (vI i :: vR c :: S) E n M := by
  intro l D p e s m args below meth c0 H ls locs A ρ0 ρ κ0 κ f g r sS hA ag hn hl
  have kk := kk l D p e s m args below meth c0 H ls locs A ρ0 ρ κ0 κ f g r sS hA ag hn hl
  change W _ _ _ _ _ _ _ _ _ _ _ _ _ _ _ (F0 m (pc + 1) ls (.int (Int32.ofInt (M c i.toNat)) :: S.map (cA ρ))) at kk
  change W _ _ _ _ _ _ _ _ _ _ _ _ _ _ _ (F0 m pc ls (.int (Int32.ofInt i) :: .ref (ρ c) :: S.map (cA ρ)))
  have hp := wsM_at (E := E) (ρ := ρ) (κ := κ) (M := M) h1 h2
  rw [cE_arr hc] at hp
  obtain ⟨x1, x2⟩ := ix_in hi0 hi1 (lay_len hc)
  refine va_zald f.1 f.2.1 (r.K1 h1 h2 hc) r.1 (c - 1) 0 hp rfl x1 d ?_
  rw [x2]
  show W _ _ _ _ _ _ _ _ _ _ _ _ _ _ _ (F0 m (pc + 1) ls (.int (Int32.ofInt (fld E M c i.toNat)) :: S.map (cA ρ)))
  rw [fld_0 (rf_arr hc rfl _)]
  exact kk
theorem R_lald {c len : Nat} {i : Int} (d : Dc y pc .laload 1) (hc : lay c = .inr (.long, len)) (h1 : 1 ≤ c) (h2 : c ≤ n) (hi0 : 0 ≤ i) (hi1 : i < (len : Int)) (kk : Rr y B Q (pc + 1) L (vJ (M c i.toNat) :: S) E n M) : Rr y B Q pc L (vI i :: vR c :: S) E n M := by
  intro l D p e s m args below meth c0 H ls locs A ρ0 ρ κ0 κ f g r sS hA ag hn hl
  have kk := kk l D p e s m args below meth c0 H ls locs A ρ0 ρ κ0 κ f g r sS hA ag hn hl
  change W _ _ _ _ _ _ _ _ _ _ _ _ _ _ _ (F0 m (pc + 1) ls (.long (Int64.ofInt (M c i.toNat)) :: S.map (cA ρ))) at kk
  change W _ _ _ _ _ _ _ _ _ _ _ _ _ _ _ (F0 m pc ls (.int (Int32.ofInt i) :: .ref (ρ c) :: S.map (cA ρ)))
  have hp := wsM_at (E := E) (ρ := ρ) (κ := κ) (M := M) h1 h2
  rw [cE_arr hc] at hp
  obtain ⟨x1, x2⟩ := ix_in hi0 hi1 (lay_len hc)
  refine va_lald f.1 f.2.1 (r.K1 h1 h2 hc) r.1 (c - 1) 0 hp rfl x1 d ?_
  rw [x2]
  show W _ _ _ _ _ _ _ _ _ _ _ _ _ _ _ (F0 m (pc + 1) ls (.long (Int64.ofInt (fld E M c i.toNat)) :: S.map (cA ρ)))
  rw [fld_0 (rf_arr hc rfl _)]
  exact kk
theorem R_aald {c len : Nat} {C : String} {i : Int} (v : Nat) (d : Dc y pc .aaload 1) (hc : lay c = .inr (.object C, len)) (h1 : 1 ≤ c) (h2 : c ≤ n) (hi0 : 0 ≤ i) (hi1 : i < (len : Int)) (hv : fld E M c i.toNat = (v : Int)) (hv0 : v ≠ 0) (kk : Rr y B Q (pc + 1) L (vR v :: S) E n M) : Rr y B Q pc L (vI i :: vR c :: S) E n M := by
  intro l D p e s m args below meth c0 H ls locs A ρ0 ρ κ0 κ f g r sS hA ag hn hl
  have kk := kk l D p e s m args below meth c0 H ls locs A ρ0 ρ κ0 κ f g r sS hA ag hn hl
  change W _ _ _ _ _ _ _ _ _ _ _ _ _ _ _ (F0 m (pc + 1) ls (.ref (ρ v) :: S.map (cA ρ))) at kk
  change W _ _ _ _ _ _ _ _ _ _ _ _ _ _ _ (F0 m pc ls (.int (Int32.ofInt i) :: .ref (ρ c) :: S.map (cA ρ)))
  have hp := wsM_at (E := E) (ρ := ρ) (κ := κ) (M := M) h1 h2
  rw [cE_arr hc] at hp
  obtain ⟨x1, x2⟩ := ix_in hi0 hi1 (lay_len hc)
  refine va_aldq f.1 f.2.1 (r.K1 h1 h2 hc) r.1 (c - 1) 0 hp rfl x1 d ?_
  rw [x2]
  have e : va_rf (if (fld E M c i.toNat).toNat = 0 then none else some (ρ (fld E M c i.toNat).toNat)) = .ref (ρ v) := by
    rw [hv]
    simp [hv0, va_rf]
  show W _ _ _ _ _ _ _ _ _ _ _ _ _ _ _ (F0 m (pc + 1) ls (va_rf (if (fld E M c i.toNat).toNat = 0 then none else some (ρ (fld E M c i.toNat).toNat)) :: S.map (cA ρ)))
  rw [e]
  exact kk
theorem R_iast {c len : Nat} {i x : Int} (d : Dc y pc .iastore 1) (hc : lay c = .inr (.int, len)) (h1 : 1 ≤ c) (h2 : c ≤ n) (hi0 : 0 ≤ i) (hi1 : i < (len : Int)) (kk : Rr y B Q (pc + 1) L S E n (up M c i.toNat x)) : Rr y B Q pc L (vI x :: vI i :: vR c :: S) E n M := by
  intro l D p e s m args below meth c0 H ls locs A ρ0 ρ κ0 κ f g r sS hA ag hn hl
  change W _ _ _ _ _ _ _ _ _ _ _ _ _ _ _ (F0 m pc ls (.int (Int32.ofInt x) :: .int (Int32.ofInt i) :: .ref (ρ c) :: S.map (cA ρ)))
  have hp := wsM_at (E := E) (ρ := ρ) (κ := κ) (M := M) h1 h2
  rw [cE_arr hc] at hp
  obtain ⟨x1, x2⟩ := ix_in hi0 hi1 (lay_len hc)
  have hnar : Int32.ofInt x = Int32.ofInt x := rfl
  have hws : (wsM E ρ κ n M).set (c - 1) (ρ c, .inl (κ c, len, .inl (upd (fun j => Int32.ofInt (fld E M c j)) (Int32.ofInt i).toNatClampNeg (Int32.ofInt x)))) = wsM E ρ κ n (up M c i.toNat x) := by
    refine wsM_set h1 ?_ fun b hb => cE_ne fun j => fld_up_ne hb
    rw [cE_arr hc, x2, hnar]
    show (Sum.inl (κ c, len, .inl (upd (fun j => Int32.ofInt (fld E M c j)) i.toNat (Int32.ofInt x))) : va_E) = Sum.inl (κ c, len, .inl (fun j => Int32.ofInt (fld E (up M c i.toNat x) c j)))
    congr 4
    funext j
    rw [fld_up (Or.inr (rf_arr hc rfl _))]
    by_cases hj : j = i.toNat <;> simp [upd, hj]
  refine va_iast f.1 f.2.1 (r.K1 h1 h2 hc) r.1 r.2.1 sS (c - 1) 0 hp rfl x1 d fun H1 locs1 hP1 hD1 hS1 => ?_
  rw [hws] at hP1 hD1
  exact kk l D p e s m args below meth c0 H1 ls locs1 A ρ0 ρ κ0 κ f g (r.put hP1 hD1 h2 (Or.inl (by unfold isRs; rw [hc]; rfl))) hS1 hA ag hn hl
theorem R_zast {c len : Nat} {i x : Int} (d : Dc y pc .bastore 1) (hc : lay c = .inr (.boolean, len)) (h1 : 1 ≤ c) (h2 : c ≤ n) (hi0 : 0 ≤ i) (hi1 : i < (len : Int)) (hx : x = 0 ∨ x = 1) (kk : Rr y B Q (pc + 1) L S E n (up M c i.toNat x)) : Rr y B Q pc L (vI x :: vI i :: vR c :: S) E n M := by
  intro l D p e s m args below meth c0 H ls locs A ρ0 ρ κ0 κ f g r sS hA ag hn hl
  change W _ _ _ _ _ _ _ _ _ _ _ _ _ _ _ (F0 m pc ls (.int (Int32.ofInt x) :: .int (Int32.ofInt i) :: .ref (ρ c) :: S.map (cA ρ)))
  have hp := wsM_at (E := E) (ρ := ρ) (κ := κ) (M := M) h1 h2
  rw [cE_arr hc] at hp
  obtain ⟨x1, x2⟩ := ix_in hi0 hi1 (lay_len hc)
  have hnar : vp_nar .boolean (Int32.ofInt x) = Int32.ofInt x := by rcases hx with h | h <;> subst h <;> rfl
  have hws : (wsM E ρ κ n M).set (c - 1) (ρ c, .inl (κ c, len, .inl (upd (fun j => Int32.ofInt (fld E M c j)) (Int32.ofInt i).toNatClampNeg (vp_nar .boolean (Int32.ofInt x))))) = wsM E ρ κ n (up M c i.toNat x) := by
    refine wsM_set h1 ?_ fun b hb => cE_ne fun j => fld_up_ne hb
    rw [cE_arr hc, x2, hnar]
    show (Sum.inl (κ c, len, .inl (upd (fun j => Int32.ofInt (fld E M c j)) i.toNat (Int32.ofInt x))) : va_E) = Sum.inl (κ c, len, .inl (fun j => Int32.ofInt (fld E (up M c i.toNat x) c j)))
    congr 4
    funext j
    rw [fld_up (Or.inr (rf_arr hc rfl _))]
    by_cases hj : j = i.toNat <;> simp [upd, hj]
  refine va_zast f.1 f.2.1 (r.K1 h1 h2 hc) r.1 r.2.1 sS (c - 1) 0 hp rfl x1 d fun H1 locs1 hP1 hD1 hS1 => ?_
  rw [hws] at hP1 hD1
  exact kk l D p e s m args below meth c0 H1 ls locs1 A ρ0 ρ κ0 κ f g (r.put hP1 hD1 h2 (Or.inl (by unfold isRs; rw [hc]; rfl))) hS1 hA ag hn hl
theorem R_bast {c len : Nat} {i x : Int} (d : Dc y pc .bastore 1) (hc : lay c = .inr (.byte, len)) (h1 : 1 ≤ c) (h2 : c ≤ n) (hi0 : 0 ≤ i) (hi1 : i < (len : Int)) (hx : -128 ≤ x ∧ x < 128) (kk : Rr y B Q (pc + 1) L S E n (up M c i.toNat x)) : Rr y B Q pc L (vI x :: vI i :: vR c :: S) E n M := by
  intro l D p e s m args below meth c0 H ls locs A ρ0 ρ κ0 κ f g r sS hA ag hn hl
  change W _ _ _ _ _ _ _ _ _ _ _ _ _ _ _ (F0 m pc ls (.int (Int32.ofInt x) :: .int (Int32.ofInt i) :: .ref (ρ c) :: S.map (cA ρ)))
  have hp := wsM_at (E := E) (ρ := ρ) (κ := κ) (M := M) h1 h2
  rw [cE_arr hc] at hp
  obtain ⟨x1, x2⟩ := ix_in hi0 hi1 (lay_len hc)
  have hnar : vp_nar .byte (Int32.ofInt x) = Int32.ofInt x := by
    show (Int32.ofInt x).toInt8.toInt32 = Int32.ofInt x
    rw [Int32.toInt8_ofInt]
    apply Int32.toInt_inj.mp
    rw [Int8.toInt_toInt32, Int8.toInt_ofInt_of_le (by omega) (by omega), Int32.toInt_ofInt_of_le (by omega) (by omega)]
  have hws : (wsM E ρ κ n M).set (c - 1) (ρ c, .inl (κ c, len, .inl (upd (fun j => Int32.ofInt (fld E M c j)) (Int32.ofInt i).toNatClampNeg (vp_nar .byte (Int32.ofInt x))))) = wsM E ρ κ n (up M c i.toNat x) := by
    refine wsM_set h1 ?_ fun b hb => cE_ne fun j => fld_up_ne hb
    rw [cE_arr hc, x2, hnar]
    show (Sum.inl (κ c, len, .inl (upd (fun j => Int32.ofInt (fld E M c j)) i.toNat (Int32.ofInt x))) : va_E) = Sum.inl (κ c, len, .inl (fun j => Int32.ofInt (fld E (up M c i.toNat x) c j)))
    congr 4
    funext j
    rw [fld_up (Or.inr (rf_arr hc rfl _))]
    by_cases hj : j = i.toNat <;> simp [upd, hj]
  refine va_bast f.1 f.2.1 (r.K1 h1 h2 hc) r.1 r.2.1 sS (c - 1) 0 hp rfl x1 d fun H1 locs1 hP1 hD1 hS1 => ?_
  rw [hws] at hP1 hD1
  exact kk l D p e s m args below meth c0 H1 ls locs1 A ρ0 ρ κ0 κ f g (r.put hP1 hD1 h2 (Or.inl (by unfold isRs; rw [hc]; rfl))) hS1 hA ag hn hl
theorem R_last {c len : Nat} {i x : Int} (d : Dc y pc .lastore 1) (hc : lay c = .inr (.long, len)) (h1 : 1 ≤ c) (h2 : c ≤ n) (hi0 : 0 ≤ i) (hi1 : i < (len : Int)) (kk : Rr y B Q (pc + 1) L S E n (up M c i.toNat x)) : Rr y B Q pc L (vJ x :: vI i :: vR c :: S) E n M := by
  intro l D p e s m args below meth c0 H ls locs A ρ0 ρ κ0 κ f g r sS hA ag hn hl
  change W _ _ _ _ _ _ _ _ _ _ _ _ _ _ _ (F0 m pc ls (.long (Int64.ofInt x) :: .int (Int32.ofInt i) :: .ref (ρ c) :: S.map (cA ρ)))
  have hp := wsM_at (E := E) (ρ := ρ) (κ := κ) (M := M) h1 h2
  rw [cE_arr hc] at hp
  obtain ⟨x1, x2⟩ := ix_in hi0 hi1 (lay_len hc)
  have hnar : Int64.ofInt x = Int64.ofInt x := rfl
  have hws : (wsM E ρ κ n M).set (c - 1) (ρ c, .inl (κ c, len, .inr (.inl (vp_updL (fun j => Int64.ofInt (fld E M c j)) (Int32.ofInt i).toNatClampNeg (Int64.ofInt x))))) = wsM E ρ κ n (up M c i.toNat x) := by
    refine wsM_set h1 ?_ fun b hb => cE_ne fun j => fld_up_ne hb
    rw [cE_arr hc, x2, hnar]
    show (Sum.inl (κ c, len, .inr (.inl (vp_updL (fun j => Int64.ofInt (fld E M c j)) i.toNat (Int64.ofInt x)))) : va_E) = Sum.inl (κ c, len, .inr (.inl (fun j => Int64.ofInt (fld E (up M c i.toNat x) c j))))
    congr 5
    funext j
    rw [fld_up (Or.inr (rf_arr hc rfl _))]
    by_cases hj : j = i.toNat <;> simp [vp_updL, hj]
  refine va_last f.1 f.2.1 (r.K1 h1 h2 hc) r.1 r.2.1 sS (c - 1) 0 hp rfl x1 d fun H1 locs1 hP1 hD1 hS1 => ?_
  rw [hws] at hP1 hD1
  exact kk l D p e s m args below meth c0 H1 ls locs1 A ρ0 ρ κ0 κ f g (r.put hP1 hD1 h2 (Or.inl (by unfold isRs; rw [hc]; rfl))) hS1 hA ag hn hl
theorem R_alen {c len : Nat} {ty : FieldType} (d : Dc y pc .arraylength 1) (hc : lay c = .inr (ty, len)) (h1 : 1 ≤ c) (h2 : c ≤ n) (kk : Rr y B Q (pc + 1) L (vI (len : Int) :: S) E n M) : Rr y B Q pc L (vR c :: S) E n M := by
  intro l D p e s m args below meth c0 H ls locs A ρ0 ρ κ0 κ f g r sS hA ag hn hl
  have kk := kk l D p e s m args below meth c0 H ls locs A ρ0 ρ κ0 κ f g r sS hA ag hn hl
  change W _ _ _ _ _ _ _ _ _ _ _ _ _ _ _ (F0 m (pc + 1) ls (.int (Int32.ofInt (len : Int)) :: S.map (cA ρ))) at kk
  change W _ _ _ _ _ _ _ _ _ _ _ _ _ _ _ (F0 m pc ls (.ref (ρ c) :: S.map (cA ρ)))
  have hp := wsM_at (E := E) (ρ := ρ) (κ := κ) (M := M) h1 h2
  rw [cE_arr hc] at hp
  exact va_alen f.1 f.2.1 (r.K1 h1 h2 hc) r.1 (c - 1) 0 hp rfl rfl d kk
end MEM2
