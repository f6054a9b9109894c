/-! ===== the law's world: the desk's pool, the reference's, the array of one long ===== -/
abbrev SL : Type := SD × SM × (Nat → Int64)
def cL (cyI cyE cyL : ClassId) (ad : Nat → Nat) (st : SL) (i : Nat) : va_E :=
  if i < 77 then cD cyI cyE ad st.1 i else if i < 89 then cM cyI (fun j => ad (77 + j)) st.2.1 (i - 77) else .inl (cyL, 1, .inr (.inl st.2.2))
abbrev aM (ad : Nat → Nat) : Nat → Nat := fun j => ad (77 + j)
theorem cL_1 {cyI cyE cyL : ClassId} {ad : Nat → Nat} {st : SL} {i : Nat} (h : i < 77) : cL cyI cyE cyL ad st i = cD cyI cyE ad st.1 i := by simp only [cL, if_pos h]
theorem cL_2 {cyI cyE cyL : ClassId} {ad : Nat → Nat} {st : SL} {j : Nat} (h : j < 12) : cL cyI cyE cyL ad st (77 + j) = cM cyI (aM ad) st.2.1 j := by
  have h1 : ¬ 77 + j < 77 := by omega
  have h2 : 77 + j < 89 := by omega
  have h3 : 77 + j - 77 = j := by omega
  simp only [cL, if_neg h1, if_pos h2, h3, aM]
theorem cL_3 {cyI cyE cyL : ClassId} {ad : Nat → Nat} {st : SL} : cL cyI cyE cyL ad st 89 = .inl (cyL, 1, .inr (.inl st.2.2)) := rfl
theorem aJ_D {ad : Nat → Nat} (h : ax_J 90 ad) : ax_J 77 ad := fun i j hi hj => h i j (by omega) (by omega)
theorem aJ_M {ad : Nat → Nat} (h : ax_J 90 ad) : ax_J 12 (aM ad) := fun i j hi hj e => by
  have := h (77 + i) (77 + j) (by omega) (by omega) e
  omega
section LWA
variable {D : va_G} {cl : List vw_C} {cyI cyE cyL : ClassId} {ad : Nat → Nat} {st : SL} {H H1 : Heap}
theorem pL_D (h : va_P D cl (ax_w 90 ad (cL cyI cyE cyL ad st)) H) : va_P D cl (ax_w 77 ad (cD cyI cyE ad st.1)) H := by
  intro k q hk
  obtain ⟨h1, rfl⟩ := ax_inv hk
  have := h k _ (ax_get (show k < 90 by omega))
  rw [cL_1 h1] at this
  exact this
theorem pL_M (h : va_P D cl (ax_w 90 ad (cL cyI cyE cyL ad st)) H) : va_P D cl (ax_w 12 (aM ad) (cM cyI (aM ad) st.2.1)) H := by
  intro k q hk
  obtain ⟨h1, rfl⟩ := ax_inv hk
  have := h (77 + k) _ (ax_get (show 77 + k < 90 by omega))
  rw [cL_2 h1] at this
  exact this
theorem pL_backD {σ' : SD} (h : va_P D cl (ax_w 90 ad (cL cyI cyE cyL ad st)) H) (hJ : ax_J 90 ad) (h1 : va_P D cl (ax_w 77 ad (cD cyI cyE ad σ')) H1) (hk : ∀ q : Nat, q < H.size → ¬ ax_A 77 ad H.size q → H1[q]? = H[q]?) : va_P D cl (ax_w 90 ad (cL cyI cyE cyL ad (σ', st.2))) H1 := by
  intro k q hq
  obtain ⟨hk9, rfl⟩ := ax_inv hq
  by_cases hk7 : k < 77
  · rw [cL_1 hk7]
    exact h1 k _ (ax_get hk7)
  · have h0 := h k _ (ax_get hk9)
    have e : cL cyI cyE cyL ad (σ', st.2) k = cL cyI cyE cyL ad st k := by simp only [cL, if_neg hk7]
    rw [e]
    refine h0.kept (hk _ h0.lt (fun ha => ?_))
    rcases ha with ⟨i, hi, hi2⟩ | ha
    · have := hJ i k (by omega) hk9 hi2
      omega
    · have hlt : ad k < H.size := h0.lt
      omega
theorem pL_backM {τ' : SM} (h : va_P D cl (ax_w 90 ad (cL cyI cyE cyL ad st)) H) (hJ : ax_J 90 ad) (h1 : va_P D cl (ax_w 12 (aM ad) (cM cyI (aM ad) τ')) H1) (hk : ∀ q : Nat, q < H.size → ¬ ax_A 12 (aM ad) H.size q → H1[q]? = H[q]?) : va_P D cl (ax_w 90 ad (cL cyI cyE cyL ad (st.1, τ', st.2.2))) H1 := by
  intro k q hq
  obtain ⟨hk9, rfl⟩ := ax_inv hq
  by_cases hk7 : 77 ≤ k ∧ k < 89
  · obtain ⟨j, rfl⟩ : ∃ j, k = 77 + j := ⟨k - 77, by omega⟩
    have hj : j < 12 := by omega
    rw [cL_2 hj]
    exact h1 j _ (ax_get hj)
  · have h0 := h k _ (ax_get hk9)
    have e : cL cyI cyE cyL ad (st.1, τ', st.2.2) k = cL cyI cyE cyL ad st k := by
      by_cases h7 : k < 77
      · simp only [cL, if_pos h7]
      · have h8 : ¬ k < 89 := by omega
        simp only [cL, if_neg h7, if_neg h8]
    rw [e]
    refine h0.kept (hk _ h0.lt (fun ha => ?_))
    rcases ha with ⟨i, hi, hi2⟩ | ha
    · have := hJ (77 + i) k (by omega) hk9 hi2
      omega
    · have hlt : ad k < H.size := h0.lt
      omega
end LWA
abbrev ax_nc : List (String × String) := [("java/lang/IllegalArgumentException", "java/lang/IllegalStateException"), ("java/lang/IllegalArgumentException", "java/lang/IndexOutOfBoundsException"), ("java/lang/IllegalStateException", "java/lang/IllegalArgumentException"), ("java/lang/IllegalStateException", "java/lang/IndexOutOfBoundsException"), ("java/lang/IndexOutOfBoundsException", "java/lang/IllegalArgumentException"), ("java/lang/IndexOutOfBoundsException", "java/lang/IllegalStateException")]
/-- what the law's own methods find beside the pool -/
def ax_envL (l : Launch) (dC : Nat → ClassId) (dI : Nat → Nat → Nat) (cyI cyE cyL : ClassId) (tC : Nat) (A : Nat → Prop) (U : State) (H : Heap) : Prop :=
  ax_env dC dI cyI cyE tC A U H ∧ ax_envX l A U H ∧ va_K (dC, dI) vwCl [(cyL, .long)] U ∧ ∀ q ∈ ax_nc, va_Nc q.1 q.2 U
theorem ax_envL.blind {l : Launch} {dC : Nat → ClassId} {dI : Nat → Nat → Nat} {cyI cyE cyL : ClassId} {tC : Nat} {A : Nat → Prop} {U U' : State} {H : Heap} (h : ax_envL l dC dI cyI cyE cyL tC A U H) (hvm : U.vm = U'.vm) : ax_envL l dC dI cyI cyE cyL tC A U' H :=
  have hal : U.vm.Alike U'.vm := by rw [hvm]; exact Vm.Alike.refl _
  ⟨h.1.blind hvm, h.2.1.blind hvm, h.2.2.1.moved hal, fun q hq => (h.2.2.2 q hq).moved hal⟩
theorem ax_envL.call {l : Launch} {dC : Nat → ClassId} {dI : Nat → Nat → Nat} {cyI cyE cyL : ClassId} {tC : Nat} {A B : Nat → Prop} {s U : State} {H : Heap} {locs : List Loc} (h : ax_envL l dC dI cyI cyE cyL tC A s s.heap) (hW : s.WarmedH U.vm) (hS : va_S A s.heap H locs) (hB : ∀ q, B q → A q) : ax_envL l dC dI cyI cyE cyL tC B U H :=
  ⟨h.1.call hW hS hB, h.2.1.call hW hS hB, h.2.2.1.moved hW.alike, fun q hq => (h.2.2.2 q hq).moved hW.alike⟩
/-! ===== calls out of the law's world ===== -/
section LWB
variable {p : Program} {l : Launch} {e : Env} {R : Room} {s : State} {m : MethodId} {args : Array Value} {below : List Frame} {meth : Method} {c : Code} {H : Heap} {locs : List Loc} {cells slots : Nat} {Q : State → Prop}
variable {dC : Nat → ClassId} {dI : Nat → Nat → Nat} {cyI cyE cyL : ClassId} {tC : Nat} {ad : Nat → Nat} {st : SL}
variable {cc : ByteArray} {nL pc : Nat} {ls : Array Slot} {Ts : List Cond} {own : String} {A0 : Nat → Prop}
theorem aA_D (hA : ∀ i, i < 90 → A0 (ad i)) (hN : ∀ q, s.heap.size ≤ q → A0 q) (hS : va_S A0 s.heap H locs) : ∀ q, ax_A 77 ad H.size q → A0 q := fun q h => h.elim (fun ⟨i, hi, e⟩ => e ▸ hA i (by omega)) (fun h => hN q (Nat.le_trans hS.1 h))
theorem aA_M (hA : ∀ i, i < 90 → A0 (ad i)) (hN : ∀ q, s.heap.size ≤ q → A0 q) (hS : va_S A0 s.heap H locs) : ∀ q, ax_A 12 (aM ad) H.size q → A0 q := fun q h => h.elim (fun ⟨i, hi, e⟩ => e ▸ hA (77 + i) (by omega)) (fun h => hN q (Nat.le_trans hS.1 h))
theorem gL_Di {y : MethodName} {cy : ByteArray} {nl : Nat} {ret : Option FieldType} {rm : Room} {r : Int32} {k idx : Nat} {st0 rest : List Value} {σ' : SD} (As : List Value)
    (C0 : CallFix p m c cc nL s args Ts own) (hT : ∀ w ∈ bw, w ∈ Ts) (hJ : ax_J 90 ad) (hE : ax_env dC dI cyI cyE tC A0 s s.heap) (hA : ∀ i, i < 90 → A0 (ad i)) (hN : ∀ q, s.heap.size ≤ q → A0 q)
    (hM : ax_Mi l dC dI cyI cyE tC 77 (cD cyI cyE ad) ad y cy nl ret rm ((.ref (ad 76)) :: As) st.1 r σ')
    (hP : va_P (dC, dI) vwCl (ax_w 90 ad (cL cyI cyE cyL ad st)) H) (hS : va_S A0 s.heap H locs)
    (hcode : Cond.code y cy nl ret ∈ bw) (hlink : Cond.methodLink own idx y ∈ bw) (hinst : Cond.instanceMethod y ∈ bw) (hsel : Cond.selects RX7 y y ∈ bw) (hini : Cond.initialized RX7 ∈ bw)
    (hd : y.cls = RX7 ∧ y.cls ≠ "java/lang/invoke/MethodHandle" ∧ y.cls ≠ "java/lang/invoke/VarHandle" ∧ (parseMethodDescriptor y.desc).map (fun d => d.parameters.length) = some k)
    (hrm : rm.cells = 0 ∧ rm.slots = 0) (hR : rm.frames + 1 ≤ R.frames ∧ 8 + (nl + 11) + rm.locals ≤ R.locals)
    (hst : st0 = As.reverse ++ (.ref (ad 76)) :: rest) (hlen : As.length = k) (hsz : ls.size = nL) (hcat : (rest.map fun v => v.category).sum ≤ 8)
    (hdg : decode cc pc = .ok (.invokevirtual idx, 3)) (hcs : cells ≤ R.cells ∧ slots ≤ R.slots)
    (kk : ∀ (H1 : Heap) (locs1 : List Loc), va_P (dC, dI) vwCl (ax_w 90 ad (cL cyI cyE cyL ad (σ', st.2))) H1 → va_S A0 s.heap H1 locs1 → W p l e R s m args below meth c H1 locs1 cells slots Q (F0 m (pc + 3) ls (.int r :: rest))) :
    W p l e R s m args below meth c H locs cells slots Q (F0 m pc ls st0) := by
  have hF := aA_D (A0 := A0) hA hN hS
  refine va_calli (va_runV (As := As) (rest := rest) C0 (hM H.size) (cwV k C0.2.2.2.2 (bw_V hT hcode hlink hinst hsel hini) rfl hrm.1 hrm.2 hd hR) ⟨ax_blind, va_recv (ci := 5) (q0 := 76) hE.1 (pL_D hP) rfl (ax_at (by decide) cD_Desk), fun U hU hW => ⟨rfl, by rw [hU], by rw [hU]; exact pL_D hP, aJ_D hJ, by rw [hU]; exact hE.call hW hS hF⟩⟩ rfl hlen hsz hst (by simpa using hcat) hdg hcs) hS (fun q _ h => hF q h) hF (fun r2 u t H1 locs1 ht hvm hw hB hz hk hS1 => ?_)
  obtain ⟨rfl, rfl⟩ := hw
  exact kk H1 locs1 (pL_backD hP hJ (by rw [← ht]; exact hB) hk) hS1
theorem gL_Dv {y : MethodName} {cy : ByteArray} {nl : Nat} {ret : Option FieldType} {rm : Room} {k idx : Nat} {st0 rest : List Value} {σ' : SD} (As : List Value)
    (C0 : CallFix p m c cc nL s args Ts own) (hT : ∀ w ∈ bw, w ∈ Ts) (hJ : ax_J 90 ad) (hE : ax_env dC dI cyI cyE tC A0 s s.heap) (hA : ∀ i, i < 90 → A0 (ad i)) (hN : ∀ q, s.heap.size ≤ q → A0 q)
    (hM : ax_Mv l dC dI cyI cyE tC 77 (cD cyI cyE ad) ad y cy nl ret rm ((.ref (ad 76)) :: As) st.1 σ')
    (hP : va_P (dC, dI) vwCl (ax_w 90 ad (cL cyI cyE cyL ad st)) H) (hS : va_S A0 s.heap H locs)
    (hcode : Cond.code y cy nl ret ∈ bw) (hlink : Cond.methodLink own idx y ∈ bw) (hinst : Cond.instanceMethod y ∈ bw) (hsel : Cond.selects RX7 y y ∈ bw) (hini : Cond.initialized RX7 ∈ bw)
    (hd : y.cls = RX7 ∧ y.cls ≠ "java/lang/invoke/MethodHandle" ∧ y.cls ≠ "java/lang/invoke/VarHandle" ∧ (parseMethodDescriptor y.desc).map (fun d => d.parameters.length) = some k)
    (hrm : rm.cells = 0 ∧ rm.slots = 0) (hR : rm.frames + 1 ≤ R.frames ∧ 8 + (nl + 11) + rm.locals ≤ R.locals)
    (hst : st0 = As.reverse ++ (.ref (ad 76)) :: rest) (hlen : As.length = k) (hsz : ls.size = nL) (hcat : (rest.map fun v => v.category).sum ≤ 8)
    (hdg : decode cc pc = .ok (.invokevirtual idx, 3)) (hcs : cells ≤ R.cells ∧ slots ≤ R.slots)
    (kk : ∀ (H1 : Heap) (locs1 : List Loc), va_P (dC, dI) vwCl (ax_w 90 ad (cL cyI cyE cyL ad (σ', st.2))) H1 → va_S A0 s.heap H1 locs1 → W p l e R s m args below meth c H1 locs1 cells slots Q (F0 m (pc + 3) ls rest)) :
    W p l e R s m args below meth c H locs cells slots Q (F0 m pc ls st0) := by
  have hF := aA_D (A0 := A0) hA hN hS
  refine va_callv (va_runV (As := As) (rest := rest) C0 (hM H.size) (cwV k C0.2.2.2.2 (bw_V hT hcode hlink hinst hsel hini) rfl hrm.1 hrm.2 hd hR) ⟨ax_blind, va_recv (ci := 5) (q0 := 76) hE.1 (pL_D hP) rfl (ax_at (by decide) cD_Desk), fun U hU hW => ⟨rfl, by rw [hU], by rw [hU]; exact pL_D hP, aJ_D hJ, by rw [hU]; exact hE.call hW hS hF⟩⟩ rfl hlen hsz hst (by simpa using hcat) hdg hcs) hS (fun q _ h => hF q h) hF (fun u t H1 locs1 ht hvm hw hB hz hk hS1 => ?_)
  subst hw
  exact kk H1 locs1 (pL_backD hP hJ (by rw [← ht]; exact hB) hk) hS1
theorem gL_Mi {y : MethodName} {cy : ByteArray} {nl : Nat} {ret : Option FieldType} {rm : Room} {r : Int32} {k idx : Nat} {st0 rest : List Value} {σ' : SM} (As : List Value)
    (C0 : CallFix p m c cc nL s args Ts own) (hT : ∀ w ∈ bw, w ∈ Ts) (hJ : ax_J 90 ad) (hE : ax_env dC dI cyI cyE tC A0 s s.heap) (hA : ∀ i, i < 90 → A0 (ad i)) (hN : ∀ q, s.heap.size ≤ q → A0 q)
    (hM : ax_Mi l dC dI cyI cyE tC 12 (cM cyI (aM ad)) (aM ad) y cy nl ret rm ((.ref (ad (77 + 11))) :: As) st.2.1 r σ')
    (hP : va_P (dC, dI) vwCl (ax_w 90 ad (cL cyI cyE cyL ad st)) H) (hS : va_S A0 s.heap H locs)
    (hcode : Cond.code y cy nl ret ∈ bw) (hlink : Cond.methodLink own idx y ∈ bw) (hinst : Cond.instanceMethod y ∈ bw) (hsel : Cond.selects RX8 y y ∈ bw) (hini : Cond.initialized RX8 ∈ bw)
    (hd : y.cls = RX8 ∧ y.cls ≠ "java/lang/invoke/MethodHandle" ∧ y.cls ≠ "java/lang/invoke/VarHandle" ∧ (parseMethodDescriptor y.desc).map (fun d => d.parameters.length) = some k)
    (hrm : rm.cells = 0 ∧ rm.slots = 0) (hR : rm.frames + 1 ≤ R.frames ∧ 8 + (nl + 11) + rm.locals ≤ R.locals)
    (hst : st0 = As.reverse ++ (.ref (ad (77 + 11))) :: rest) (hlen : As.length = k) (hsz : ls.size = nL) (hcat : (rest.map fun v => v.category).sum ≤ 8)
    (hdg : decode cc pc = .ok (.invokevirtual idx, 3)) (hcs : cells ≤ R.cells ∧ slots ≤ R.slots)
    (kk : ∀ (H1 : Heap) (locs1 : List Loc), va_P (dC, dI) vwCl (ax_w 90 ad (cL cyI cyE cyL ad (st.1, σ', st.2.2))) H1 → va_S A0 s.heap H1 locs1 → W p l e R s m args below meth c H1 locs1 cells slots Q (F0 m (pc + 3) ls (.int r :: rest))) :
    W p l e R s m args below meth c H locs cells slots Q (F0 m pc ls st0) := by
  have hF := aA_M (A0 := A0) hA hN hS
  refine va_calli (va_runV (As := As) (rest := rest) C0 (hM H.size) (cwV k C0.2.2.2.2 (bw_V hT hcode hlink hinst hsel hini) rfl hrm.1 hrm.2 hd hR) ⟨ax_blind, va_recv (ci := 6) (q0 := 11) hE.1 (pL_M hP) rfl (ax_at (by decide) cM_O), fun U hU hW => ⟨rfl, by rw [hU], by rw [hU]; exact pL_M hP, aJ_M hJ, by rw [hU]; exact hE.call hW hS hF⟩⟩ rfl hlen hsz hst (by simpa using hcat) hdg hcs) hS (fun q _ h => hF q h) hF (fun r2 u t H1 locs1 ht hvm hw hB hz hk hS1 => ?_)
  obtain ⟨rfl, rfl⟩ := hw
  exact kk H1 locs1 (pL_backM hP hJ (by rw [← ht]; exact hB) hk) hS1
theorem gL_Mv {y : MethodName} {cy : ByteArray} {nl : Nat} {ret : Option FieldType} {rm : Room} {k idx : Nat} {st0 rest : List Value} {σ' : SM} (As : List Value)
    (C0 : CallFix p m c cc nL s args Ts own) (hT : ∀ w ∈ bw, w ∈ Ts) (hJ : ax_J 90 ad) (hE : ax_env dC dI cyI cyE tC A0 s s.heap) (hA : ∀ i, i < 90 → A0 (ad i)) (hN : ∀ q, s.heap.size ≤ q → A0 q)
    (hM : ax_Mv l dC dI cyI cyE tC 12 (cM cyI (aM ad)) (aM ad) y cy nl ret rm ((.ref (ad (77 + 11))) :: As) st.2.1 σ')
    (hP : va_P (dC, dI) vwCl (ax_w 90 ad (cL cyI cyE cyL ad st)) H) (hS : va_S A0 s.heap H locs)
    (hcode : Cond.code y cy nl ret ∈ bw) (hlink : Cond.methodLink own idx y ∈ bw) (hinst : Cond.instanceMethod y ∈ bw) (hsel : Cond.selects RX8 y y ∈ bw) (hini : Cond.initialized RX8 ∈ bw)
    (hd : y.cls = RX8 ∧ y.cls ≠ "java/lang/invoke/MethodHandle" ∧ y.cls ≠ "java/lang/invoke/VarHandle" ∧ (parseMethodDescriptor y.desc).map (fun d => d.parameters.length) = some k)
    (hrm : rm.cells = 0 ∧ rm.slots = 0) (hR : rm.frames + 1 ≤ R.frames ∧ 8 + (nl + 11) + rm.locals ≤ R.locals)
    (hst : st0 = As.reverse ++ (.ref (ad (77 + 11))) :: rest) (hlen : As.length = k) (hsz : ls.size = nL) (hcat : (rest.map fun v => v.category).sum ≤ 8)
    (hdg : decode cc pc = .ok (.invokevirtual idx, 3)) (hcs : cells ≤ R.cells ∧ slots ≤ R.slots)
    (kk : ∀ (H1 : Heap) (locs1 : List Loc), va_P (dC, dI) vwCl (ax_w 90 ad (cL cyI cyE cyL ad (st.1, σ', st.2.2))) H1 → va_S A0 s.heap H1 locs1 → W p l e R s m args below meth c H1 locs1 cells slots Q (F0 m (pc + 3) ls rest)) :
    W p l e R s m args below meth c H locs cells slots Q (F0 m pc ls st0) := by
  have hF := aA_M (A0 := A0) hA hN hS
  refine va_callv (va_runV (As := As) (rest := rest) C0 (hM H.size) (cwV k C0.2.2.2.2 (bw_V hT hcode hlink hinst hsel hini) rfl hrm.1 hrm.2 hd hR) ⟨ax_blind, va_recv (ci := 6) (q0 := 11) hE.1 (pL_M hP) rfl (ax_at (by decide) cM_O), fun U hU hW => ⟨rfl, by rw [hU], by rw [hU]; exact pL_M hP, aJ_M hJ, by rw [hU]; exact hE.call hW hS hF⟩⟩ rfl hlen hsz hst (by simpa using hcat) hdg hcs) hS (fun q _ h => hF q h) hF (fun u t H1 locs1 ht hvm hw hB hz hk hS1 => ?_)
  subst hw
  exact kk H1 locs1 (pL_backM hP hJ (by rw [← ht]; exact hB) hk) hS1
end LWB
