/-! ===== the plain machine: cells by number, whole numbers, R = "from here it ends as Q says" ===== -/
abbrev aV : Type := Int ⊕ Int ⊕ Nat
abbrev vI (a : Int) : aV := .inl a
abbrev vJ (a : Int) : aV := .inr (.inl a)
abbrev vR (c : Nat) : aV := .inr (.inr c)
abbrev Mem : Type := Nat → Nat → Int
def up (M : Mem) (c k : Nat) (v : Int) : Mem := fun a b => if a = c ∧ b = k then v else M a b
def cA (ρ : Nat → Nat) (v : aV) : Value := match v with
  | .inl a => .int (Int32.ofInt a)
  | .inr (.inl a) => .long (Int64.ofInt a)
  | .inr (.inr c) => .ref (ρ c)
def cR (ρ : Nat → Nat) (c : Nat) : Value := if c = 0 then .null else .ref (ρ c)
def cV (ρ : Nat → Nat) (ty : FieldType) (x : Int) : Value := match ty with
  | .long => .long (Int64.ofInt x)
  | .object _ => cR ρ x.toNat
  | .array _ => cR ρ x.toNat
  | _ => .int (Int32.ofInt x)
def cF (ρ : Nat → Nat) (ty : FieldType) (f : Nat → Int) : (Nat → Int32) ⊕ (Nat → Int64) ⊕ (Nat → UInt32) ⊕ (Nat → UInt64) ⊕ (Nat → Option Nat) := match ty with
  | .long => .inr (.inl fun j => Int64.ofInt (f j))
  | .object _ => .inr (.inr (.inr (.inr fun j => if (f j).toNat = 0 then none else some (ρ (f j).toNat))))
  | _ => .inl fun j => Int32.ofInt (f j)
def fld (E : Nat → Bool) (M : Mem) (c k : Nat) : Int := if E c = true ∧ rf c k ≠ 0 then (rf c k : Int) else M c k
def nfC (ci : Nat) : Nat := (tyL.getD ci []).length
def cE (E : Nat → Bool) (ρ : Nat → Nat) (κ : Nat → ClassId) (M : Mem) (c : Nat) : va_E := match lay c with
  | .inl ci => .inr (ci, (List.range (nfC ci)).map fun k => cV ρ (tyC ci k) (fld E M c k))
  | .inr (ty, n) => .inl (κ c, n, cF ρ ty (fld E M c))
def wsM (E : Nat → Bool) (ρ : Nat → Nat) (κ : Nat → ClassId) (n : Nat) (M : Mem) : va_W := (List.range n).map fun i => (ρ (i + 1), cE E ρ κ M (i + 1))
def szC (c : Nat) : Nat := match lay c with
  | .inl ci => nfC ci
  | .inr (_, n) => n
def cumS (n : Nat) : Nat := ((List.range n).map fun i => szC (i + 1)).sum
def isRf (ty : FieldType) : Bool := match ty with
  | .object _ => true
  | .array _ => true
  | _ => false
def isRs (c k : Nat) : Bool := match lay c with
  | .inl ci => isRf (tyC ci k)
  | .inr (ty, _) => isRf ty
/-- what the heap holds: the cells 1 .. n, with M's numbers in them -/
def Rl (D : va_G) (E : Nat → Bool) (ρ : Nat → Nat) (κ : Nat → ClassId) (n : Nat) (M : Mem) (A : Nat → Prop) (s : State) (H : Heap) : Prop :=
  va_P D cls (wsM E ρ κ n M) H ∧ va_D A (wsM E ρ κ n M) ∧ va_K D cls [] s ∧ (∀ c ty len, 1 ≤ c → c ≤ n → lay c = .inr (ty, len) → ArrOfT s (κ c) ty ∧ va_RA s (κ c) ty) ∧
  (∀ c k, 1 ≤ c → c ≤ n → isRs c k = true → (fld E M c k).toNat ≤ n) ∧ ∀ c k, n < c → M c k = 0
def fbL : List Int64 := [-6148914691236517206, -3689348814741910324, -1085102592571150096, -71777214294589696, -281470681808896, -4294967296]
def fbit (j : Nat) : Int64 := fbL.getD j 0
def keptT : String := "fact person cost knows row always tie price wish worth law if or and not holds thinks voices apart tied "
def keptB : List Int32 := [102, 97, 99, 116, 32, 112, 101, 114, 115, 111, 110, 32, 99, 111, 115, 116, 32, 107, 110, 111, 119, 115, 32, 114, 111, 119, 32, 97, 108, 119, 97, 121, 115, 32, 116, 105, 101, 32, 112, 114, 105, 99, 101, 32, 119, 105, 115, 104, 32, 119, 111, 114, 116, 104, 32, 108, 97, 119, 32, 105, 102, 32, 111, 114, 32, 97, 110, 100, 32, 110, 111, 116, 32, 104, 111, 108, 100, 115, 32, 116, 104, 105, 110, 107, 115, 32, 118, 111, 105, 99, 101, 115, 32, 97, 112, 97, 114, 116, 32, 116, 105, 101, 100, 32]
def tbG : List Cond := lw_tbl.filter goodWord
def isNest (w : Cond) : Bool := match w with
  | .fieldLinkNest .. => true
  | .methodLinkNest .. => true
  | _ => false
def tbN : List Cond := lw_tbl.filter isNest
def NW (U : State) : Prop := ∀ w ∈ tbN, va_Nw w U
theorem NW.warm {s U : State} (hW : s.WarmedH U.vm) (h : NW s) : NW U := by
  intro w hw
  have h1 := h w hw
  have h2 := (List.mem_filter.mp hw).2
  cases w <;> first | exact va_Nw.warmF hW h1 | exact va_Nw.warmM hW h1 | (simp [isNest] at h2)
theorem NW.same {s U : State} (hv : U.vm = s.vm) (h : NW s) : NW U := by
  intro w hw
  have h1 := h w hw
  have h2 := (List.mem_filter.mp hw).2
  cases w <;> first | exact va_Nw.same rfl hv.symm h1 | (simp [isNest] at h2)
/-- the statics that the code reads: the table of bits (its cell is called 999), the text of the kept words (998, its bytes 997) -/
def SG (ρ : Nat → Nat) (A : Nat → Prop) (U : State) (H : Heap) : Prop :=
  va_Z "LieOfTwo" "FACT_BITS" "[J" (.ref (ρ 999)) A U H ∧ va_T .long (ρ 999) 6 (fun j => .long (fbit j)) A U H ∧
  vk_R "LieOfTwo$Tokens" 23 keptT (ρ 998) U ∧ vk_S 1 [104] [keptB] (fun _ => ρ 998) (fun _ => ρ 997) A U H ∧ va_Z "java/lang/String" "COMPACT_STRINGS" "Z" (.int 1) A U H ∧ NW U ∧ va_AO "LieOfTwo$Sayings" U ∧ va_Zq "jdk/internal/util/Preconditions" "SIOOBE_FORMATTER" "Ljava/util/function/BiFunction;" A U H
theorem SG.warm {ρ : Nat → Nat} {A : Nat → Prop} {s U : State} {H : Heap} (hW : s.WarmedH U.vm) (h : SG ρ A s H) : SG ρ A U H :=
  ⟨h.1.moved hW.alike, h.2.1.moved hW.alike, vk_R.warm hW h.2.2.1, h.2.2.2.1.moved hW.alike, h.2.2.2.2.1.moved hW.alike, h.2.2.2.2.2.1.warm hW, h.2.2.2.2.2.2.1.moved hW.alike, h.2.2.2.2.2.2.2.moved hW.alike⟩
theorem SG.same {ρ : Nat → Nat} {A : Nat → Prop} {s U : State} {H : Heap} (hv : U.vm = s.vm) (h : SG ρ A s H) : SG ρ A U H :=
  have ha : s.vm.Alike U.vm := by rw [hv]; exact Vm.Alike.refl _
  ⟨h.1.moved ha, h.2.1.moved ha, vk_R.same hv h.2.2.1, h.2.2.2.1.moved ha, h.2.2.2.2.1.moved ha, h.2.2.2.2.2.1.same hv, h.2.2.2.2.2.2.1.moved ha, h.2.2.2.2.2.2.2.moved ha⟩
theorem SG.kept {ρ : Nat → Nat} {A : Nat → Prop} {U : State} {H H1 : Heap} (h : SG ρ A U H) (hq : ∀ a : Nat, a < H.size → ¬ A a → H1[a]? = H[a]?) : SG ρ A U H1 :=
  ⟨h.1.kept hq, h.2.1.kept hq, h.2.2.1, h.2.2.2.1.kept hq, h.2.2.2.2.1.kept hq, h.2.2.2.2.2.1, h.2.2.2.2.2.2.1, h.2.2.2.2.2.2.2.kept hq⟩
theorem SG.narrow {ρ : Nat → Nat} {A B : Nat → Prop} {U : State} {H : Heap} (h : SG ρ A U H) (hAB : ∀ q, B q → A q) : SG ρ B U H :=
  ⟨h.1.narrow hAB, h.2.1.narrow hAB, h.2.2.1, h.2.2.2.1.narrow hAB, h.2.2.2.2.1.narrow hAB, h.2.2.2.2.2.1, h.2.2.2.2.2.2.1, h.2.2.2.2.2.2.2.narrow hAB⟩
theorem SG.at' {ρ ρ' : Nat → Nat} {A : Nat → Prop} {U : State} {H : Heap} (h : SG ρ A U H) (hh : ∀ c, 900 ≤ c → ρ' c = ρ c) : SG ρ' A U H := by
  unfold SG at h ⊢
  rw [hh 999 (by omega), hh 998 (by omega), hh 997 (by omega)]
  exact h
/-- the law's script: its cell is called 996 -/
def SX (sc : Option (Nat × (Nat → Int32))) (ρ : Nat → Nat) (A : Nat → Prop) (U : State) (H : Heap) : Prop := match sc with
  | none => True
  | some q => va_X (ρ 996) q.1 q.2 U H ∧ ρ 996 < H.size ∧ ¬ A (ρ 996)
theorem SX.at' {sc : Option (Nat × (Nat → Int32))} {ρ ρ' : Nat → Nat} {A : Nat → Prop} {U : State} {H : Heap} (h : SX sc ρ A U H) (hh : ∀ c, 900 ≤ c → ρ' c = ρ c) : SX sc ρ' A U H := by
  cases sc with
  | none => trivial
  | some q =>
    unfold SX at h ⊢
    dsimp only at h ⊢
    rw [hh 996 (by omega)]
    exact h
/-- two maps of addresses agree on the first n0 cells and on the statics; they are one as long as no cell was made -/
def Ag (n0 n : Nat) (ρ0 : Nat → Nat) (κ0 : Nat → ClassId) (ρ : Nat → Nat) (κ : Nat → ClassId) : Prop := ((∀ c, c ≤ n0 → ρ c = ρ0 c ∧ κ c = κ0 c) ∧ ∀ c, 900 ≤ c → ρ c = ρ0 c) ∧ (n = n0 → ρ = ρ0 ∧ κ = κ0)
theorem Ag.rf' {n m : Nat} {ρ : Nat → Nat} {κ : Nat → ClassId} : Ag n m ρ κ ρ κ := ⟨⟨fun _ _ => ⟨rfl, rfl⟩, fun _ _ => rfl⟩, fun _ => ⟨rfl, rfl⟩⟩
theorem Ag.trans {n0 n n' : Nat} {ρ0 ρ1 ρ2 : Nat → Nat} {κ0 κ1 κ2 : Nat → ClassId} (h1 : Ag n0 n ρ0 κ0 ρ1 κ1) (h2 : Ag n n' ρ1 κ1 ρ2 κ2) (h : n0 ≤ n) (h' : n ≤ n') : Ag n0 n' ρ0 κ0 ρ2 κ2 := by
  refine ⟨⟨fun c hc => ⟨(h2.1.1 c (Nat.le_trans hc h)).1.trans (h1.1.1 c hc).1, (h2.1.1 c (Nat.le_trans hc h)).2.trans (h1.1.1 c hc).2⟩, fun c hc => (h2.1.2 c hc).trans (h1.1.2 c hc)⟩, fun q => ?_⟩
  have e1 := h1.2 (by omega)
  have e2 := h2.2 (by omega)
  exact ⟨e2.1.trans e1.1, e2.2.trans e1.2⟩
/-- a method: its name, code, locals, answer; of the law: its script -/
abbrev MI : Type := MethodName × ByteArray × Nat × Option FieldType × Option (Nat × (Nat → Int32))
/-- frames and words of locals for what is called, cells ahead and behind, which cells' references are fixed behind -/
abbrev BI : Type := Nat × Nat × Nat × Nat × (Nat → Bool)
def rmB (B : BI) : Room := { frames := B.1, cells := B.2.2.2.1 - B.2.2.1, slots := cumS B.2.2.2.1 - cumS B.2.2.1, locals := B.2.1 }
def Fx (y : MI) (p : Program) (s : State) (m : MethodId) (args : Array Value) (meth : Method) (c : Code) : Prop :=
  p.tables.exec = Jvm.exec ∧ c.code = y.2.1 ∧ c.maxLocals = y.2.2.1 ∧ meth.sig.returnType = y.2.2.2.1 ∧ meth.locks = false ∧ s.vm.findClass y.1.cls = some m.cls ∧ meth.name = y.1.name ∧ ∀ w ∈ tbG, w.before args s = true
def Qx (D : va_G) (E1 : Nat → Bool) (n0 n1 : Nat) (ρ0 : Nat → Nat) (κ0 : Nat → ClassId) (A : Nat → Prop) (Q : Option aV → Mem → Prop) : Array Value → State → Outcome → State → Prop := fun _ st oc t =>
  (∃ (r : Option aV) (M : Mem) (ρ : Nat → Nat) (κ : Nat → ClassId), oc = .returned (r.map (cA ρ)) ∧ Q r M ∧ Ag n0 n1 ρ0 κ0 ρ κ ∧ Rl D E1 ρ κ n1 M A t t.heap) ∧ va_F A st t
def Rr (y : MI) (B : BI) (Q : Option aV → Mem → Prop) (pc : Nat) (L : List (Nat × aV)) (S : List aV) (E : Nat → Bool) (n : Nat) (M : Mem) : Prop :=
  ∀ (l : Launch) (D : va_G) (p : Program) (e : Env) (s : State) (m : MethodId) (args : Array Value) (below : List Frame) (meth : Method) (c : Code) (H : Heap) (ls : Array Slot) (locs : List Loc) (A : Nat → Prop) (ρ0 ρ : Nat → Nat) (κ0 κ : Nat → ClassId),
    Fx y p s m args meth c → (SG ρ A s s.heap ∧ SX y.2.2.2.2 ρ A s s.heap) → Rl D E ρ κ n M A s H → va_S A s.heap H locs → (∀ q, s.heap.size ≤ q → A q) → Ag B.2.2.1 n ρ0 κ0 ρ κ → B.2.2.1 ≤ n ∧ n ≤ B.2.2.2.1 → lv_has ls y.2.2.1 (L.map fun q => (q.1, cA ρ q.2)) →
    W p l e (rmB B) s m args below meth c H locs (n - B.2.2.1) (cumS n - cumS B.2.2.1) (MQ below (Qx D B.2.2.2.2 B.2.2.1 B.2.2.2.1 ρ0 κ0 A Q) args s (B.2.2.2.1 - B.2.2.1) (cumS B.2.2.2.1 - cumS B.2.2.1) A) (F0 m pc ls (S.map (cA ρ)))
/-- a decoded instruction -/
def Dc (y : MI) (pc : Nat) (i : Instr) (len : Nat) : Prop := decode y.2.1 pc = .ok (i, len)
theorem cls_len {ci : Nat} {q : vw_C} (h : cls[ci]? = some q) : q.2.2 = nfC ci := by
  match ci, h with
  | 0, h => cases h; rfl
  | 1, h => cases h; rfl
  | 2, h => cases h; rfl
  | 3, h => cases h; rfl
  | 4, h => cases h; rfl
  | 5, h => cases h; rfl
  | 6, h => cases h; rfl
  | 7, h => cases h; rfl
  | 8, h => cases h; rfl
  | 9, h => cases h; rfl
  | 10, h => cases h; rfl
  | k + 11, h => simp [cls] at h
theorem wsM_at {E : Nat → Bool} {ρ : Nat → Nat} {κ : Nat → ClassId} {n : Nat} {M : Mem} {c : Nat} (h1 : 1 ≤ c) (h2 : c ≤ n) : (wsM E ρ κ n M)[c - 1]? = some (ρ c, cE E ρ κ M c) := by
  have h3 : c - 1 + 1 = c := by omega
  unfold wsM
  rw [List.getElem?_map, List.getElem?_range (by omega)]
  simp [h3]
theorem wsM_set {E E' : Nat → Bool} {ρ : Nat → Nat} {κ : Nat → ClassId} {n : Nat} {M M' : Mem} {c : Nat} {x : va_E} (h1 : 1 ≤ c) (hx : x = cE E' ρ κ M' c) (ho : ∀ b, b ≠ c → cE E ρ κ M b = cE E' ρ κ M' b) : (wsM E ρ κ n M).set (c - 1) (ρ c, x) = wsM E' ρ κ n M' := by
  apply List.ext_getElem?
  intro i
  unfold wsM
  rw [List.getElem?_set]
  by_cases hi : c - 1 = i
  · subst hi
    by_cases hn : c - 1 < n
    · have h3 : c - 1 + 1 = c := by omega
      simp [hn, hx, h3]
    · simp [hn]
  · rw [if_neg hi]
    by_cases hn : i < n
    · have : i + 1 ≠ c := by omega
      simp [hn, ho (i + 1) this]
    · simp [hn]
