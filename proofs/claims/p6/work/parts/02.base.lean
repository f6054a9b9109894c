/-! ===== a pool of n cells: the i-th at address ad i ===== -/
def ax_w (n : Nat) (ad : Nat → Nat) (c : Nat → va_E) : va_W := (List.range n).map fun i => (ad i, c i)
def ax_A (n : Nat) (ad : Nat → Nat) (sz : Nat) : Nat → Prop := fun q => (∃ i, i < n ∧ ad i = q) ∨ sz ≤ q
def ax_J (n : Nat) (ad : Nat → Nat) : Prop := ∀ i j, i < n → j < n → ad i = ad j → i = j
theorem ax_len (n : Nat) (ad : Nat → Nat) (c : Nat → va_E) : (ax_w n ad c).length = n := by simp [ax_w]
theorem ax_get {n : Nat} {ad : Nat → Nat} {c : Nat → va_E} {i : Nat} (h : i < n) : (ax_w n ad c)[i]? = some (ad i, c i) := by simp [ax_w, h]
theorem ax_at {n : Nat} {ad : Nat → Nat} {c : Nat → va_E} {i : Nat} {e : va_E} (h : i < n) (he : c i = e) : (ax_w n ad c)[i]? = some (ad i, e) := by rw [ax_get h, he]
theorem ax_inv {n : Nat} {ad : Nat → Nat} {c : Nat → va_E} {i : Nat} {q : Nat × va_E} (h : (ax_w n ad c)[i]? = some q) : i < n ∧ q = (ad i, c i) := by
  have hl := (List.getElem?_eq_some_iff.mp h).1
  rw [ax_len] at hl
  rw [ax_get hl] at h
  exact ⟨hl, (Option.some.inj h).symm⟩
theorem ax_set {n : Nat} {ad : Nat → Nat} {c c' : Nat → va_E} {i : Nat} {e : va_E} (h : i < n) (he : c' i = e) (ho : ∀ j, j < n → j ≠ i → c j = c' j) : (ax_w n ad c).set i (ad i, e) = ax_w n ad c' := by
  apply List.ext_getElem?
  intro j
  by_cases hj : j = i
  · subst hj
    rw [List.getElem?_set_self (by rw [ax_len]; exact h), ax_get h, he]
  · rw [List.getElem?_set_ne (Ne.symm hj)]
    by_cases hjn : j < n
    · rw [ax_get hjn, ax_get hjn, ho j hjn hj]
    · rw [List.getElem?_eq_none (by rw [ax_len]; omega), List.getElem?_eq_none (by rw [ax_len]; omega)]
theorem ax_D {n : Nat} {ad : Nat → Nat} {c : Nat → va_E} {A : Nat → Prop} (hJ : ax_J n ad) (hA : ∀ i, i < n → A (ad i)) : va_D A (ax_w n ad c) := by
  refine ⟨fun i j x y hi hj hxy => ?_, fun k q hk => ?_⟩
  · obtain ⟨h1, rfl⟩ := ax_inv hi
    obtain ⟨h2, rfl⟩ := ax_inv hj
    exact hJ i j h1 h2 hxy
  · obtain ⟨h1, rfl⟩ := ax_inv hk
    exact hA k h1
theorem ax_Ai {n : Nat} {ad : Nat → Nat} {sz i : Nat} (h : i < n) : ax_A n ad sz (ad i) := Or.inl ⟨i, h, rfl⟩
theorem ax_An {n : Nat} {ad : Nat → Nat} {sz q : Nat} (h : sz ≤ q) : ax_A n ad sz q := Or.inr h
/-! ===== what a method finds beside its pool: the tables, the nest's links, the CRC's steps ===== -/
abbrev ax_tys (cyI cyE : ClassId) : List (ClassId × FieldType) := [(cyI, .int), (cyE, .object RX1)]
def ax_nw (q : String × Nat × String × String × String × String) : Cond := .fieldLinkNest q.1 q.2.1 q.2.2.1 q.2.2.2.1 q.2.2.2.2.1 q.2.2.2.2.2
abbrev ax_crcL : List Int32 := [0x00000000, 0x1DB71064, 0x3B6E20C8, 0x26D930AC, 0x76DC4190, 0x6B6B51F4, 0x4DB26158, 0x5005713C, -306674912, -267414716, -690576408, -882789492, -1687895376, -2032938284, -1609899400, -1111625188]
def ax_crc (j : Nat) : Int32 := ax_crcL.getD j 0
def ax_env (dC : Nat → ClassId) (dI : Nat → Nat → Nat) (cyI cyE : ClassId) (tC : Nat) (A : Nat → Prop) (U : State) (H : Heap) : Prop :=
  va_K (dC, dI) vwCl (ax_tys cyI cyE) U ∧ (∀ q ∈ ax_nest, va_Nw (ax_nw q) U) ∧ va_Z "ArchiveDesk$Codec" "CRC_STEPS" "[I" (.ref tC) A U H ∧ va_T .int tC 16 (fun j => .int (ax_crc j)) A U H
theorem ax_env.blind {dC : Nat → ClassId} {dI : Nat → Nat → Nat} {cyI cyE : ClassId} {tC : Nat} {A : Nat → Prop} {U U' : State} {H : Heap} (h : ax_env dC dI cyI cyE tC A U H) (hvm : U.vm = U'.vm) : ax_env dC dI cyI cyE tC A U' H :=
  have hal : U.vm.Alike U'.vm := by rw [hvm]; exact Vm.Alike.refl _
  ⟨h.1.moved hal, fun q hq => va_tabs rfl hvm (h.2.1 q hq), h.2.2.1.moved hal, h.2.2.2.moved hal⟩
theorem ax_env.call {dC : Nat → ClassId} {dI : Nat → Nat → Nat} {cyI cyE : ClassId} {tC : Nat} {A B : Nat → Prop} {s U : State} {H : Heap} {locs : List Loc} (h : ax_env dC dI cyI cyE tC A s s.heap) (hW : s.WarmedH U.vm) (hS : va_S A s.heap H locs) (hB : ∀ q, B q → A q) : ax_env dC dI cyI cyE tC B U H :=
  ⟨h.1.moved hW.alike, fun q hq => va_Nw.warmF hW (h.2.1 q hq), ((h.2.2.1.moved hW.alike).kept hS.2.1).narrow hB, ((h.2.2.2.moved hW.alike).kept hS.2.1).narrow hB⟩
/-! ===== a contract over the pool: from σ, with the words vs, to σ' (and the answer) ===== -/
def ax_pre {S : Type} (dC : Nat → ClassId) (dI : Nat → Nat → Nat) (cyI cyE : ClassId) (tC n : Nat) (cf : S → Nat → va_E) (ad : Nat → Nat) (σ : S) (sz : Nat) (U : State) : Prop :=
  U.heap.size = sz ∧ va_P (dC, dI) vwCl (ax_w n ad (cf σ)) U.heap ∧ ax_J n ad ∧ ax_env dC dI cyI cyE tC (ax_A n ad sz) U U.heap
abbrev ax_B {S : Type} (dC : Nat → ClassId) (dI : Nat → Nat → Nat) (n : Nat) (cf : S → Nat → va_E) (ad : Nat → Nat) (u : S) (t : State) : Prop := va_P (dC, dI) vwCl (ax_w n ad (cf u)) t.heap
def ax_Mi {S : Type} (l : Launch) (dC : Nat → ClassId) (dI : Nat → Nat → Nat) (cyI cyE : ClassId) (tC n : Nat) (cf : S → Nat → va_E) (ad : Nat → Nat) (y : MethodName) (cc : ByteArray) (nL : Nat) (ret : Option FieldType) (rm : Room) (vs : List Value) (σ : S) (r : Int32) (σ' : S) : Prop :=
  ∀ sz, Met l y (wsY y cc nL ret) rm (va_Pc vs (ax_pre dC dI cyI cyE tC n cf ad σ sz)) (va_Qi (fun (a : Int32) (u : S) => a = r ∧ u = σ') (ax_B dC dI n cf ad) (ax_A n ad sz)) 0 0 (ax_A n ad sz)
def ax_Ml {S : Type} (l : Launch) (dC : Nat → ClassId) (dI : Nat → Nat → Nat) (cyI cyE : ClassId) (tC n : Nat) (cf : S → Nat → va_E) (ad : Nat → Nat) (y : MethodName) (cc : ByteArray) (nL : Nat) (ret : Option FieldType) (rm : Room) (vs : List Value) (σ : S) (r : Int64) (σ' : S) : Prop :=
  ∀ sz, Met l y (wsY y cc nL ret) rm (va_Pc vs (ax_pre dC dI cyI cyE tC n cf ad σ sz)) (va_Ql (fun (a : Int64) (u : S) => a = r ∧ u = σ') (ax_B dC dI n cf ad) (ax_A n ad sz)) 0 0 (ax_A n ad sz)
def ax_Mv {S : Type} (l : Launch) (dC : Nat → ClassId) (dI : Nat → Nat → Nat) (cyI cyE : ClassId) (tC n : Nat) (cf : S → Nat → va_E) (ad : Nat → Nat) (y : MethodName) (cc : ByteArray) (nL : Nat) (ret : Option FieldType) (rm : Room) (vs : List Value) (σ : S) (σ' : S) : Prop :=
  ∀ sz, Met l y (wsY y cc nL ret) rm (va_Pc vs (ax_pre dC dI cyI cyE tC n cf ad σ sz)) (va_Qv (fun (u : S) => u = σ') (ax_B dC dI n cf ad) (ax_A n ad sz)) 0 0 (ax_A n ad sz)
theorem ax_blind {S : Type} {dC : Nat → ClassId} {dI : Nat → Nat → Nat} {cyI cyE : ClassId} {tC n : Nat} {cf : S → Nat → va_E} {ad : Nat → Nat} {σ : S} {sz : Nat} {vs : List Value} : FrameBlind (va_Pc vs (ax_pre dC dI cyI cyE tC n cf ad σ sz)) :=
  fun a U g mk q => by
    obtain ⟨q0, q1, qP, qJ, qE⟩ := q
    exact ⟨q0, q1, qP, qJ, qE.blind (U' := U.calling g mk a) rfl⟩
/-- where a method stands: its code and words, the tables, the pool's addresses -/
def ax_C {p : Program} (l : Launch) (e : Env) (dC : Nat → ClassId) (dI : Nat → Nat → Nat) (cyI cyE : ClassId) (tC n : Nat) (ad : Nat → Nat) (s : State) (m : MethodId) (args : Array Value) (meth : Method) (c : Code) (y : MethodName) (cc : ByteArray) (nL : Nat) (ret : Option FieldType) (own : String) : Prop :=
  CallFix p m c cc nL s args (wsY y cc nL ret) own ∧ meth.sig.returnType = ret ∧ meth.locks = false ∧ ax_J n ad ∧ ax_env dC dI cyI cyE tC (ax_A n ad s.heap.size) s s.heap
