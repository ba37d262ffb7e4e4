/-! ===== making cells: constructors ===== -/
theorem cE_ag {E : Nat → Bool} {ρ ρ' : Nat → Nat} {κ κ' : Nat → ClassId} {M : Mem} {c n : Nat} (h : ∀ k, isRs c k = true → (fld E M c k).toNat ≤ n) (hρ : ∀ c, c ≤ n → ρ' c = ρ c) (hκ : κ' c = κ c) : cE E ρ' κ' M c = cE E ρ κ M c := by
  unfold cE
  cases hl : lay c with
  | inl ci =>
    dsimp only
    congr 2
    apply List.map_congr_left
    intro k _
    have hk : isRf (tyC ci k) = true → (fld E M c k).toNat ≤ n := fun z => h k (by unfold isRs; rw [hl]; exact z)
    revert hk
    cases tyC ci k <;> intro hk <;> first | rfl | (unfold cV cR; dsimp only; rw [hρ _ (hk rfl)])
  | inr q =>
    obtain ⟨ty, len⟩ := q
    dsimp only
    rw [hκ]
    congr 3
    have hk : isRf ty = true → ∀ k, (fld E M c k).toNat ≤ n := fun z k => h k (by unfold isRs; rw [hl]; exact z)
    revert hk
    cases ty <;> intro hk <;> first | rfl | (unfold cF; dsimp only; congr 4; funext j; rw [hρ _ (hk rfl j)])
def okTy (ty : FieldType) : Bool := match ty with
  | .float => false
  | .double => false
  | _ => true
theorem tyC_ok (ci j : Nat) : okTy (tyC ci j) = true := by
  have h : tyL.all (fun l => l.all okTy) = true := by decide +kernel
  unfold tyC
  rw [List.getD_eq_getElem?_getD, List.getD_eq_getElem?_getD]
  cases h1 : tyL[ci]? with
  | none => rfl
  | some l =>
    have hl := List.all_eq_true.mp h l (List.mem_of_getElem? h1)
    show okTy (l[j]?.getD .int) = true
    cases h2 : l[j]? with
    | none => rfl
    | some ty => exact List.all_eq_true.mp hl ty (List.mem_of_getElem? h2)
def nxt (ρ : Nat → Nat) (n q : Nat) : Nat → Nat := fun c => if c = n + 1 then q else ρ c
theorem nxt_le {ρ : Nat → Nat} {n q c : Nat} (h : c ≤ n) : nxt ρ n q c = ρ c := by
  unfold nxt; rw [if_neg (by omega)]
theorem wsM_next {E : Nat → Bool} {ρ : Nat → Nat} {κ : Nat → ClassId} {n q z : Nat} {M : Mem} (h : ∀ c k, 1 ≤ c → c ≤ n → isRs c k = true → (fld E M c k).toNat ≤ n) : wsM E (nxt ρ n q) (nxt κ n z) (n + 1) M = wsM E ρ κ n M ++ [(q, cE E (nxt ρ n q) (nxt κ n z) M (n + 1))] := by
  unfold wsM
  rw [List.range_succ, List.map_append]
  congr 1
  · apply List.map_congr_left
    intro i hi
    have hi := List.mem_range.mp hi
    rw [nxt_le (show i + 1 ≤ n by omega), cE_ag (ρ := ρ) (κ := κ) (fun k => h (i + 1) k (by omega) (by omega)) (fun c hc => nxt_le hc) (nxt_le (by omega))]
  · simp [nxt]
theorem Rl.next {D : va_G} {E : Nat → Bool} {ρ : Nat → Nat} {κ : Nat → ClassId} {n q z : Nat} {M : Mem} {A : Nat → Prop} {s : State} {H H1 : Heap} (r : Rl D E ρ κ n M A s H) (hP : va_P D cls (wsM E ρ κ n M ++ [(q, cE E (nxt ρ n q) (nxt κ n z) M (n + 1))]) H1) (hD : va_D A (wsM E ρ κ n M ++ [(q, cE E (nxt ρ n q) (nxt κ n z) M (n + 1))]))
    (hE : E (n + 1) = false) (ha : ∀ ty len, lay (n + 1) = .inr (ty, len) → ArrOfT s z ty ∧ va_RA s z ty) : Rl D E (nxt ρ n q) (nxt κ n z) (n + 1) M A s H1 := by
  have hw := wsM_next (q := q) (z := z) (κ := κ) (ρ := ρ) r.2.2.2.2.1
  refine ⟨by rw [hw]; exact hP, by rw [hw]; exact hD, r.2.2.1, fun c ty len h1 h2 h3 => ?_, fun c k h1 h2 h3 => ?_, fun c k h => r.2.2.2.2.2 c k (by omega)⟩
  · by_cases hc : c = n + 1
    · subst hc
      have := ha ty len h3
      simpa [nxt] using this
    · rw [nxt_le (by omega)]
      exact r.2.2.2.1 c ty len h1 (by omega) h3
  · by_cases hc : c = n + 1
    · subst hc
      have e : fld E M (n + 1) k = 0 := by
        unfold fld
        rw [if_neg (by rw [hE]; simp)]
        exact r.2.2.2.2.2 (n + 1) k (by omega)
      rw [e]
      exact Nat.zero_le _
    · have := r.2.2.2.2.1 c k h1 (by omega) h3
      omega
theorem fld_new {E : Nat → Bool} {M : Mem} {n : Nat} (hE : E (n + 1) = false) (h : ∀ c k, n < c → M c k = 0) (k : Nat) : fld E M (n + 1) k = 0 := by
  unfold fld
  rw [if_neg (by rw [hE]; simp)]
  exact h _ _ (by omega)
def okB (n : Nat) (v : aV) : Bool := match v with
  | .inr (.inr c) => decide (c ≤ n) || decide (900 ≤ c)
  | _ => true
theorem okB_eq {n : Nat} {ρ ρ' : Nat → Nat} (h1 : ∀ c, c ≤ n → ρ' c = ρ c) (h2 : ∀ c, 900 ≤ c → ρ' c = ρ c) {v : aV} (h : okB n v = true) : cA ρ' v = cA ρ v := by
  rcases v with a | a | c
  · rfl
  · rfl
  · have h : (decide (c ≤ n) || decide (900 ≤ c)) = true := h
    simp only [Bool.or_eq_true, decide_eq_true_eq] at h
    show Value.ref _ = Value.ref _
    rcases h with h | h
    · rw [h1 c h]
    · rw [h2 c h]
theorem okS_eq {n : Nat} {ρ ρ' : Nat → Nat} (h1 : ∀ c, c ≤ n → ρ' c = ρ c) (h2 : ∀ c, 900 ≤ c → ρ' c = ρ c) {S : List aV} (h : S.all (okB n) = true) : S.map (cA ρ') = S.map (cA ρ) := by
  apply List.map_congr_left
  intro v hv
  exact okB_eq h1 h2 (List.all_eq_true.mp h v hv)
theorem okL_eq {n : Nat} {ρ ρ' : Nat → Nat} (h1 : ∀ c, c ≤ n → ρ' c = ρ c) (h2 : ∀ c, 900 ≤ c → ρ' c = ρ c) {L : List (Nat × aV)} (h : L.all (fun q => okB n q.2) = true) : (L.map fun q => (q.1, cA ρ' q.2)) = L.map fun q => (q.1, cA ρ q.2) := by
  apply List.map_congr_left
  intro q hq
  rw [okB_eq h1 h2 (List.all_eq_true.mp h q hq)]
theorem cumS_succ (n : Nat) : cumS (n + 1) = cumS n + szC (n + 1) := by
  unfold cumS
  rw [List.range_succ, List.map_append, List.sum_append]
  simp
section ALLOC
variable {y y' : MI} {B : BI} {Q : Option aV → Mem → Prop} {pc : Nat} {L : List (Nat × aV)} {S : List aV} {E E' : Nat → Bool} {n n' : Nat} {M : Mem} {St : List aV}
theorem Ag.next {n0 n q z : Nat} {ρ0 ρ : Nat → Nat} {κ0 κ : Nat → ClassId} (h : Ag n0 n ρ0 κ0 ρ κ) (h0 : n0 ≤ n) (h9 : n + 1 < 900) : Ag n0 (n + 1) ρ0 κ0 (nxt ρ n q) (nxt κ n z) := by
  refine ⟨⟨fun c hc => ?_, fun c hc => ?_⟩, fun h => by omega⟩
  · rw [nxt_le (by omega), nxt_le (by omega)]
    exact h.1.1 c hc
  · unfold nxt
    rw [if_neg (by omega)]
    exact h.1.2 c hc
theorem R_new {ix ci : Nat} {q : vw_C} (d : Dc y pc (.new ix) 3) (hq : cls[ci]? = some q) (hcl : Cond.classLink y.1.cls ix q.1 ∈ tbG) (hins : Cond.instantiable q.1 q.2.2 ∈ tbG) (hini : Cond.initialized q.1 ∈ tbG) (hlay : lay (n + 1) = .inl ci) (hE : E (n + 1) = false) (hn1 : n + 1 ≤ B.2.2.2.1) (h9 : n + 1 < 900) (hL : L.all (fun q => okB n q.2) = true) (hSt : S.all (okB n) = true)
    (kk : Rr y B Q (pc + 3) L (vR (n + 1) :: S) E (n + 1) M) : Rr y B Q pc L S E n M := by
  intro l D p e s m args below meth c0 H ls locs A ρ0 ρ κ0 κ f g r sS hA ag hn hl
  have hT := f.2.2.2.2.2.2.2
  have hz : szC (n + 1) = q.2.2 := by unfold szC; rw [hlay, cls_len hq]
  have hcs := cumS_succ n
  have hm1 := cumS_mono hn1
  have hm0 := cumS_mono hn.1
  have hn2 := hn.1
  refine va_new f.1 f.2.1 hT (cls_inG hq) (tyC ci) (cls_ty hq) f.2.2.2.2.2.1 (hT _ hcl) (hT _ hins) (hT _ hini) r.2.2.1 r.1 r.2.1 sS hA (fs := (List.range (nfC ci)).map fun k => cV ρ (tyC ci k) 0) hq (fun j hj => ?_) (by show n - B.2.2.1 + 1 ≤ B.2.2.2.1 - B.2.2.1; omega) (by show cumS n - cumS B.2.2.1 + q.2.2 ≤ cumS B.2.2.2.1 - cumS B.2.2.1; omega) d fun a H1 hP1 hD1 hS1 => ?_
  · rw [cls_len hq] at hj
    unfold vp_V
    rw [List.getD_eq_getElem?_getD, List.getElem?_map, List.getElem?_range hj]
    show _ = cV ρ (tyC ci j) 0
    have ho := tyC_ok ci j
    revert ho
    cases tyC ci j <;> intro ho <;> first | rfl | cases ho
  · have hce : cE E (nxt ρ n a) (nxt κ n 0) M (n + 1) = .inr (ci, (List.range (nfC ci)).map fun k => cV ρ (tyC ci k) 0) := by
      rw [cE_obj hlay]
      congr 2
      apply List.map_congr_left
      intro k _
      rw [fld_new hE r.2.2.2.2.2]
      cases tyC ci k <;> rfl
    rw [← hce] at hP1 hD1
    have hr := r.next hP1 hD1 hE (fun ty len h => by rw [hlay] at h; cases h)
    have e1 : ∀ c, c ≤ n → nxt ρ n a c = ρ c := fun c hc => nxt_le hc
    have e2 : ∀ c, 900 ≤ c → nxt ρ n a c = ρ c := fun c hc => by unfold nxt; rw [if_neg (by omega)]
    have hk := kk l D p e s m args below meth c0 H1 ls locs A ρ0 (nxt ρ n a) κ0 (nxt κ n 0) f ⟨g.1.at' e2, g.2.at' e2⟩ hr hS1 hA (ag.next hn.1 h9) ⟨by omega, hn1⟩ (by rw [okL_eq e1 e2 hL]; exact hl)
    rw [List.map_cons, okS_eq e1 e2 hSt, show cA (nxt ρ n a) (vR (n + 1)) = .ref a by simp [cA, nxt], show n + 1 - B.2.2.1 = n - B.2.2.1 + 1 by omega, show cumS (n + 1) - cumS B.2.2.1 = cumS n - cumS B.2.2.1 + q.2.2 by omega] at hk
    exact hk
theorem R_newa {at_ : ArrayType} {ty : FieldType} {x : Int} {len : Nat} (d : Dc y pc (.newarray at_) 2) (hty : newarray.typeOf at_ = ty) (hin : okTy ty = true ∧ isRf ty = false) (hw : Cond.arrayClass ty ∈ tbG) (hx : x = (len : Int)) (hl3 : len ≤ 30000) (hlay : lay (n + 1) = .inr (ty, len)) (hE : E (n + 1) = false) (hn1 : n + 1 ≤ B.2.2.2.1) (h9 : n + 1 < 900) (hL : L.all (fun q => okB n q.2) = true) (hSt : S.all (okB n) = true)
    (kk : Rr y B Q (pc + 2) L (vR (n + 1) :: S) E (n + 1) M) : Rr y B Q pc L (vI x :: S) E n M := by
  intro l D p e s m args below meth c0 H ls locs A ρ0 ρ κ0 κ f g r sS hA ag hn hl
  have hT := f.2.2.2.2.2.2.2
  have hz : szC (n + 1) = len := by unfold szC; rw [hlay]
  have hcs := cumS_succ n
  have hm1 := cumS_mono hn1
  have hm0 := cumS_mono hn.1
  have hn2 := hn.1
  subst hx
  obtain ⟨t1, t2⟩ := toN (i := (len : Int)) (by omega) (by omega)
  change W _ _ _ _ _ _ _ _ _ _ _ _ _ _ _ (F0 m pc ls (.int (Int32.ofInt (len : Int)) :: S.map (cA ρ)))
  refine va_newa (N' := len) (a0 := (len, cF ρ ty (fun _ => 0))) f.1 f.2.1 (by rw [hty]; exact hT _ hw) hty r.2.2.1 r.1 r.2.1 sS hA (fun zA => ?_) t1 (by rw [t2]; rfl) ?_ (by show n - B.2.2.1 + 1 ≤ B.2.2.2.1 - B.2.2.1; omega) (by show cumS n - cumS B.2.2.1 + len ≤ cumS B.2.2.2.1 - cumS B.2.2.1; omega) d fun a zA H1 hK1 hP1 hD1 hS1 => ?_
  · obtain ⟨g1, g2⟩ := hin
    revert g1 g2
    cases ty <;> intro g1 g2 <;> first | rfl | (cases g1; done) | (cases g2; done)
  · have : componentBytes ty ≤ 8 := by cases ty <;> simp [componentBytes]
    have := Nat.mul_le_mul hl3 this
    omega
  · have hce : cE E (nxt ρ n a) (nxt κ n zA) M (n + 1) = .inl (zA, len, cF ρ ty (fun _ => 0)) := by
      rw [cE_arr hlay]
      have e0 : fld E M (n + 1) = fun _ => 0 := funext fun k => fld_new hE r.2.2.2.2.2 k
      rw [e0]
      have e1 : nxt κ n zA (n + 1) = zA := by simp [nxt]
      rw [e1]
      obtain ⟨g1, g2⟩ := hin
      revert g1 g2
      cases ty <;> intro g1 g2 <;> first | rfl | (cases g2; done)
    rw [← hce] at hP1 hD1
    have ha := hK1.2 0 (zA, ty) rfl
    have hr := r.next hP1 hD1 hE (fun ty' len' h => by rw [hlay] at h; cases h; exact ha)
    have e1 : ∀ c, c ≤ n → nxt ρ n a c = ρ c := fun c hc => nxt_le hc
    have e2 : ∀ c, 900 ≤ c → nxt ρ n a c = ρ c := fun c hc => by unfold nxt; rw [if_neg (by omega)]
    have hk := kk l D p e s m args below meth c0 H1 ls locs A ρ0 (nxt ρ n a) κ0 (nxt κ n zA) f ⟨g.1.at' e2, g.2.at' e2⟩ hr hS1 hA (ag.next hn.1 h9) ⟨by omega, hn1⟩ (by rw [okL_eq e1 e2 hL]; exact hl)
    rw [List.map_cons, okS_eq e1 e2 hSt, show cA (nxt ρ n a) (vR (n + 1)) = .ref a by simp [cA, nxt], show n + 1 - B.2.2.1 = n - B.2.2.1 + 1 by omega, show cumS (n + 1) - cumS B.2.2.1 = cumS n - cumS B.2.2.1 + len by omega] at hk
    exact hk
theorem R_newq {ix : Nat} {x : Int} {len : Nat} (d : Dc y pc (.anewarray ix) 3) (hcl : Cond.classLink y.1.cls ix "LieOfTwo$Sayings" ∈ tbG) (hx : x = (len : Int)) (hl3 : len ≤ 30000) (hlay : lay (n + 1) = .inr (.object "LieOfTwo$Sayings", len)) (hE : E (n + 1) = false) (hn1 : n + 1 ≤ B.2.2.2.1) (h9 : n + 1 < 900) (hL : L.all (fun q => okB n q.2) = true) (hSt : S.all (okB n) = true)
    (kk : Rr y B Q (pc + 3) L (vR (n + 1) :: S) E (n + 1) M) : Rr y B Q pc L (vI x :: S) E n M := by
  intro l D p e s m args below meth c0 H ls locs A ρ0 ρ κ0 κ f g r sS hA ag hn hl
  have hT := f.2.2.2.2.2.2.2
  have hz : szC (n + 1) = len := by unfold szC; rw [hlay]
  have hcs := cumS_succ n
  have hm1 := cumS_mono hn1
  have hm0 := cumS_mono hn.1
  have hn2 := hn.1
  subst hx
  obtain ⟨t1, t2⟩ := toN (i := (len : Int)) (by omega) (by omega)
  change W _ _ _ _ _ _ _ _ _ _ _ _ _ _ _ (F0 m pc ls (.int (Int32.ofInt (len : Int)) :: S.map (cA ρ)))
  refine va_newq (N' := len) f.1 f.2.1 f.2.2.2.2.2.1 (hT _ hcl) g.1.2.2.2.2.2.2.1 r.2.2.1 r.1 r.2.1 sS hA t1 (by rw [t2]; rfl) (by omega) (by show n - B.2.2.1 + 1 ≤ B.2.2.2.1 - B.2.2.1; omega) (by show cumS n - cumS B.2.2.1 + len ≤ cumS B.2.2.2.1 - cumS B.2.2.1; omega) d fun a zA H1 hK1 hP1 hD1 hS1 => ?_
  have hce : cE E (nxt ρ n a) (nxt κ n zA) M (n + 1) = .inl (zA, len, .inr (.inr (.inr (.inr fun _ => none)))) := by
    rw [cE_arr hlay]
    have e0 : fld E M (n + 1) = fun _ => 0 := funext fun k => fld_new hE r.2.2.2.2.2 k
    rw [e0]
    have e1 : nxt κ n zA (n + 1) = zA := by simp [nxt]
    rw [e1]
    rfl
  rw [← hce] at hP1 hD1
  have ha := hK1.2 0 (zA, _) rfl
  have hr := r.next hP1 hD1 hE (fun ty' len' h => by rw [hlay] at h; cases h; exact ha)
  have e1 : ∀ c, c ≤ n → nxt ρ n a c = ρ c := fun c hc => nxt_le hc
  have e2 : ∀ c, 900 ≤ c → nxt ρ n a c = ρ c := fun c hc => by unfold nxt; rw [if_neg (by omega)]
  have hk := kk l D p e s m args below meth c0 H1 ls locs A ρ0 (nxt ρ n a) κ0 (nxt κ n zA) f ⟨g.1.at' e2, g.2.at' e2⟩ hr hS1 hA (ag.next hn.1 h9) ⟨by omega, hn1⟩ (by rw [okL_eq e1 e2 hL]; exact hl)
  rw [List.map_cons, okS_eq e1 e2 hSt, show cA (nxt ρ n a) (vR (n + 1)) = .ref a by simp [cA, nxt], show n + 1 - B.2.2.1 = n - B.2.2.1 + 1 by omega, show cumS (n + 1) - cumS B.2.2.1 = cumS n - cumS B.2.2.1 + len by omega] at hk
  exact hk
/-- an object's references are in place: from here on they are fixed -/
theorem R_est (h : ∀ c k, 1 ≤ c → c ≤ n → fld E M c k = fld E' M c k) (kk : Rr y B Q pc L S E' n M) : Rr y B Q pc L S E n M := by
  intro l D p e s m args below meth c0 H ls locs A ρ0 ρ κ0 κ f g r sS hA ag hn hl
  have hw : wsM E ρ κ n M = wsM E' ρ κ n M := by
    unfold wsM
    apply List.map_congr_left
    intro i hi
    have hi := List.mem_range.mp hi
    rw [cE_ne (E' := E') (M' := M) (fun k => h (i + 1) k (by omega) (by omega))]
  have hr : Rl D E' ρ κ n M A s H := ⟨by rw [← hw]; exact r.1, by rw [← hw]; exact r.2.1, r.2.2.1, r.2.2.2.1, fun c k h1 h2 h3 => by rw [← h c k h1 h2]; exact r.2.2.2.2.1 c k h1 h2 h3, r.2.2.2.2.2⟩
  exact kk l D p e s m args below meth c0 H ls locs A ρ0 ρ κ0 κ f g hr sS hA ag hn hl
theorem R_objInit {ix b : Nat} (d : Dc y pc (.invokespecial ix) 3) (h : Cond.methodLink y.1.cls ix Lib.objectInit ∈ tbG) (hi : Cond.instanceMethod Lib.objectInit ∈ tbG ∧ Cond.code Lib.objectInit ⟨#[0xb1]⟩ 1 none ∈ tbG) (hB : 1 ≤ B.1) (hB2 : wid S + 12 ≤ B.2.1) (kk : Rr y B Q (pc + 3) L S E n M) : Rr y B Q pc L (vR b :: S) E n M := by
  intro l D p e s m args below meth c0 H ls locs A ρ0 ρ κ0 κ f g r sS hA ag hn hl
  have hT := f.2.2.2.2.2.2.2
  have hk := kk l D p e s m args below meth c0 H ls locs A ρ0 ρ κ0 κ f g r sS hA ag hn hl
  change W _ _ _ _ _ _ _ _ _ _ _ _ _ _ _ (F0 m pc ls (.ref (ρ b) :: S.map (cA ρ)))
  have hw := catA ρ S
  exact W.objInit f.1 f.2.1 f.2.2.2.2.2.1 (hT _ h) (hT _ hi.1) (hT _ hi.2) rfl (hl.1.trans f.2.2.1.symm) rfl d hB (by
    show 2 * 0 + ((S.map (cA ρ)).map fun v => v.category).sum + 12 ≤ B.2.1
    rw [hw]; omega) hk
/-- a final field, in its own class's constructor -/
theorem R_putF {ix ci k c : Nat} {x : Int} {v : Nat} (d : Dc y pc (.putfield ix) 3) (hq : ∃ q, cls[ci]? = some q ∧ q.1 = y.1.cls ∧ k < q.2.2 ∧ Cond.fieldLink y.1.cls ix q.1 (q.2.1 k).2.1 (q.2.1 k).2.2.1 ∈ tbG) (hnm : y.1.name = "<init>") (hc : lay c = .inl ci) (h1 : 1 ≤ c) (h2 : c ≤ n) (hs : E c = false) (hfin : finOf ci k = true) (hx : x = (v : Int)) (hv : v ≠ 0) (hvn : v ≤ n) (ht : isRf (tyC ci k) = true)
    (kk : Rr y B Q (pc + 3) L S E n (up M c k x)) : Rr y B Q pc L (vR v :: vR c :: S) E n M := by
  intro l D p e s m args below meth c0 H ls locs A ρ0 ρ κ0 κ f g r sS hA ag hn hl
  obtain ⟨q, hq, hq1, hk, hlk⟩ := hq
  subst hx
  have hp := wsM_at (E := E) (ρ := ρ) (κ := κ) (M := M) h1 h2
  rw [cE_obj hc] at hp
  have hsm : ∀ x, s.fieldFound? (q.2.1 k).1 (q.2.1 k).2.1 (q.2.1 k).2.2.1 = some x → s.fieldFound? q.1 (q.2.1 k).2.1 (q.2.1 k).2.2.1 = some x := fun x hx => by
    rw [cls_dc hq k hk] at hx
    exact hx
  have hws : (wsM E ρ κ n M).set (c - 1) (ρ c, .inr (ci, ((List.range (nfC ci)).map fun k => cV ρ (tyC ci k) (fld E M c k)).set k (cA ρ (vR v)))) = wsM E ρ κ n (up M c k (v : Int)) :=
    wsM_set h1 (by rw [cE_obj hc, set_obj (v := cA ρ (vR v)) (x := (v : Int)) (Or.inl hs) (cV_ref ht hv)]) fun b hb => cE_ne fun j => fld_up_ne hb
  have hlen : k < ((List.range (nfC ci)).map fun k => cV ρ (tyC ci k) (fld E M c k)).length := by
    rw [List.length_map, List.length_range, ← cls_len hq]
    exact hk
  change W _ _ _ _ _ _ _ _ _ _ _ _ _ _ _ (F0 m pc ls (cA ρ (vR v) :: .ref (ρ c) :: S.map (cA ρ)))
  refine va_putF f.1 f.2.1 f.2.2.2.2.2.2.2 (cls_inG hq) (tyC ci) (cls_ty hq) (cls_nm hq) f.2.2.2.2.2.1 r.2.2.1 r.1 r.2.1 sS (c - 1) hp hq k hk (f.2.2.2.2.2.2.2 _ hlk) hsm (fin_of hfin q hq) (f.2.2.2.2.2.2.1.trans hnm) ((cls_dc hq k hk).trans hq1) (cls_ty hq k hk) (by
    revert ht; cases tyC ci k <;> intro ht <;> first | rfl | cases ht) (by
    revert ht; cases tyC ci k <;> intro ht <;> first | rfl | cases ht) hlen d fun H1 locs1 hP1 hD1 hS1 => ?_
  rw [hws] at hP1 hD1
  exact kk l D p e s m args below meth c0 H1 ls locs1 A ρ0 ρ κ0 κ f g (r.put hP1 hD1 h2 (Or.inr hvn)) hS1 hA ag hn hl
/-- a book of sayings into an array of them -/
theorem R_aast {c len v : Nat} {C : String} {i : Int} {q : vw_C} {ci : Nat} (d : Dc y pc .aastore 1) (hc : lay c = .inr (.object q.1, len)) (h1 : 1 ≤ c) (h2 : c ≤ n) (hv : lay v = .inl ci) (hq : cls[ci]? = some q) (hv1 : 1 ≤ v) (hvn : v ≤ n) (hi0 : 0 ≤ i) (hi1 : i < (len : Int)) (hs : E c = false) (kk : Rr y B Q (pc + 1) L S E n (up M c i.toNat (v : Int))) : Rr y B Q pc L (vR v :: vI i :: vR c :: S) E n M := by
  intro l D p e s m args below meth c0 H ls locs A ρ0 ρ κ0 κ f g r sS hA ag hn hl
  have hp := wsM_at (E := E) (ρ := ρ) (κ := κ) (M := M) h1 h2
  rw [cE_arr hc] at hp
  have hpv := wsM_at (E := E) (ρ := ρ) (κ := κ) (M := M) hv1 hvn
  rw [cE_obj hv] at hpv
  obtain ⟨x1, x2⟩ := ix_in hi0 hi1 (lay_len hc)
  have hws : (wsM E ρ κ n M).set (c - 1) (ρ c, .inl (κ c, len, .inr (.inr (.inr (.inr (va_up (fun j => if (fld E M c j).toNat = 0 then none else some (ρ (fld E M c j).toNat)) (Int32.ofInt i).toNatClampNeg (some (ρ v)))))))) = wsM E ρ κ n (up M c i.toNat (v : Int)) := by
    refine wsM_set h1 ?_ fun b hb => cE_ne fun j => fld_up_ne hb
    rw [cE_arr hc, x2]
    show (Sum.inl (κ c, len, _) : va_E) = Sum.inl (κ c, len, .inr (.inr (.inr (.inr (fun j => if (fld E (up M c i.toNat (v : Int)) c j).toNat = 0 then none else some (ρ (fld E (up M c i.toNat (v : Int)) c j).toNat))))))
    congr 7
    funext j
    rw [fld_up (Or.inl hs)]
    by_cases hj : j = i.toNat
    · have : v ≠ 0 := by omega
      simp [va_up, hj, this]
    · simp [va_up, hj]
  change W _ _ _ _ _ _ _ _ _ _ _ _ _ _ _ (F0 m pc ls (.ref (ρ v) :: .int (Int32.ofInt i) :: .ref (ρ c) :: S.map (cA ρ)))
  refine va_astq f.1 f.2.1 (r.K1 h1 h2 hc) r.1 r.2.1 sS (c - 1) 0 (v - 1) ci hp rfl hpv hq x1 d fun H1 locs1 hP1 hD1 hS1 => ?_
  rw [hws] at hP1 hD1
  exact kk l D p e s m args below meth c0 H1 ls locs1 A ρ0 ρ κ0 κ f g (r.put hP1 hD1 h2 (Or.inr (by simpa using hvn))) hS1 hA ag hn hl
/-- a constructor's call -/
theorem R_callA {ix : Nat} {As : List aV} {b : Nat} (ck : CK 2 y.1.cls ix y' As.length) (d : Dc y pc (.invokespecial ix) 3) {fr' lo' : Nat} (hB1 : fr' + 1 ≤ B.1) (hB2 : 8 + (y'.2.2.1 + 11) + lo' ≤ B.2.1) (hS8 : wid S ≤ 8) (hnn : n ≤ n') (hn1 : n' ≤ B.2.2.2.1) (hL : L.all (fun q => okB n q.2) = true) (hSt : S.all (okB n) = true) {K : Mem → Prop}
    (hM : Mt y' (fr', lo', n, n', E') E (vR b :: As) M (qV K)) (hS : As.reverse ++ vR b :: S = St) (kk : ∀ M', K M' → Rr y B Q (pc + 3) L S E' n' M') : Rr y B Q pc L St E n M := by
  subst hS
  intro l D p e s m args below meth c0 H ls locs A ρ0 ρ κ0 κ f g r sS hA ag hn hl
  obtain ⟨hx, hb, hml, hrt, hlk, hown, hnm, hts⟩ := f
  obtain ⟨k1, k2, k3, k4, -, -, k7⟩ := ck
  obtain ⟨i0, i1, i2⟩ := k7 rfl
  have hAf := wsM_free r sS hA
  have hgH : SG ρ (va_A (wsM E ρ κ n M) H.size) s H := (g.1.kept sS.2.1).narrow hAf
  have hpre : ∀ U : State, U.heap = H → s.WarmedH U.vm → U.heap.size = H.size ∧ Rl D E ρ κ n M (fun _ => True) U U.heap ∧ SG ρ (va_A (wsM E ρ κ n M) H.size) U U.heap := by
    intro U hU hW
    rw [hU]
    exact ⟨rfl, (r.moved hW.alike).weak (fun _ _ => trivial), hgH.warm hW⟩
  have h1 := cumS_mono hn1
  have h2 := hn.2
  have h3 := cumS_mono hnn
  have h4 := cumS_mono hn.1
  have h5 := hn.1
  have hfit : (n - B.2.2.1) + (n' - n) ≤ (rmB B).cells ∧ (cumS n - cumS B.2.2.1) + (cumS n' - cumS n) ≤ (rmB B).slots := by
    refine ⟨?_, ?_⟩
    · show (n - B.2.2.1) + (n' - n) ≤ B.2.2.2.1 - B.2.2.1
      omega
    · show (cumS n - cumS B.2.2.1) + (cumS n' - cumS n) ≤ cumS B.2.2.2.1 - cumS B.2.2.1
      omega
  have hMe := hM l D ρ κ H.size
  have hpv : PreS s H (va_Pc ((vR b :: As).map (cA ρ)) (fun U => U.heap.size = H.size ∧ Rl D E ρ κ n M (fun _ => True) U U.heap ∧ SG ρ (va_A (wsM E ρ κ n M) H.size) U U.heap)) (.ref (ρ b) :: As.map (cA ρ)) :=
    ⟨blindP, fun U hU hW => ⟨rfl, hpre U hU hW⟩⟩
  have hst : (As.reverse ++ vR b :: S).map (cA ρ) = (As.map (cA ρ)).reverse ++ .ref (ρ b) :: S.map (cA ρ) := by
    rw [List.map_append, List.map_reverse]
    rfl
  have hw8 : ∀ st, 2 * (F0 m pc ls st).monitorRoom + ((S.map (cA ρ)).map fun v => v.category).sum ≤ 8 := fun st => lv_room (by rw [catA]; exact hS8)
  have cont : ∀ st0, va_Run p l e (rmB B) s m args below meth c0 H locs (n - B.2.2.1) (cumS n - cumS B.2.2.1) (n' - n) (cumS n' - cumS n) (F0 m pc ls st0) (S.map (cA ρ)) (Qx D E' n n' ρ κ (va_A (wsM E ρ κ n M) H.size) (qV K) ((vR b :: As).map (cA ρ)).toArray) (va_A (wsM E ρ κ n M) H.size) →
      W p l e (rmB B) s m args below meth c0 H locs (n - B.2.2.1) (cumS n - cumS B.2.2.1) (MQ below (Qx D B.2.2.2.2 B.2.2.1 B.2.2.2.1 ρ0 κ0 A Q) args s (B.2.2.2.1 - B.2.2.1) (cumS B.2.2.2.1 - cumS B.2.2.1) A) (F0 m pc ls st0) := by
    intro st0 hr
    refine call_go hr sS hAf fun rr M' ρ' κ' H1 locs1 hq hag hR hS1 => ?_
    obtain ⟨rfl, hq⟩ := hq
    have e1 : ∀ c, c ≤ n → ρ' c = ρ c := fun c hc => (hag.1.1 c hc).1
    have e2 := hag.1.2
    have hk := kk M' hq l D p e s m args below meth c0 H1 ls locs1 A ρ0 ρ' κ0 κ' ⟨hx, hb, hml, hrt, hlk, hown, hnm, hts⟩ ⟨g.1.at' e2, g.2.at' e2⟩ hR hS1 hA (ag.trans hag hn.1 hnn) ⟨by omega, hn1⟩ (by rw [okL_eq e1 e2 hL]; exact hl)
    rw [okS_eq e1 e2 hSt, show n' - B.2.2.1 = n - B.2.2.1 + (n' - n) by omega, show cumS n' - cumS B.2.2.1 = cumS n - cumS B.2.2.1 + (cumS n' - cumS n) by omega] at hk
    exact hk
  have hy' : y'.2.2.2.1 = none := i2
  rw [hy'] at k1
  have hgd : GoodIn tbG (wsY y') := wsY_good (y := y) (by rw [hy']; exact k1)
  have hwsq : wsY y' = Cond.code y'.1 y'.2.1 y'.2.2.1 none :: tbG := by unfold wsY; rw [hy']
  rcases k4 with hlnk | ⟨host, hlnk⟩
  · exact cont _ (va_runI (b := ρ b) (As := As.map (cA ρ)) ⟨hx, hb, hml, hown, hts⟩ hMe ⟨callB_of _ hts hgd hwsq rfl rfl (hts _ k2) (hts _ hlnk) k3 ⟨hB1, hB2⟩, i0, hts _ i1⟩ hpv rfl (List.length_map ..) hl.1 hst (hw8 _) d hfit)
  · exact cont _ (va_runIN (b := ρ b) (As := As.map (cA ρ)) ⟨hx, hb, hml, hown, hts⟩ hMe ⟨va_cnB _ hts hgd hwsq rfl rfl (g.1.2.2.2.2.2.1 _ hlnk) (hts _ k2) k3 ⟨hB1, hB2⟩, i0, hts _ i1⟩ hpv rfl (List.length_map ..) hl.1 hst (hw8 _) d hfit)
end ALLOC
