section AXR
variable {p : Program} {l : Launch} {e : Env} {R : Room} {s : State} {m : MethodId} {args : Array Value} {below : List Frame} {meth : Method} {c : Code} {H : Heap} {locs : List Loc} {cells slots : Nat} {Q : State → Prop}
variable {S : Type} {dC : Nat → ClassId} {dI : Nat → Nat → Nat} {cyI cyE : ClassId} {tC n : Nat} {cf : S → Nat → va_E} {ad : Nat → Nat} {σ σ' : S}
variable {cc : ByteArray} {nL pc : Nat} {ls : Array Slot} {Ts : List Cond} {own : String}
theorem ax_mono (hS : va_S (ax_A n ad s.heap.size) s.heap H locs) : ∀ q, ax_A n ad H.size q → ax_A n ad s.heap.size q := fun _ h => h.elim Or.inl (fun h => Or.inr (Nat.le_trans hS.1 h))
theorem ax_callVi {y : MethodName} {cy : ByteArray} {nl : Nat} {ret : Option FieldType} {rm : Room} {r : Int32} {C : String} {b ci i k idx : Nat} {q : vw_C} {fs : List Value} {st0 rest : List Value} (As : List Value)
    (C0 : CallFix p m c cc nL s args Ts own) (hT : ∀ w ∈ bw, w ∈ Ts) (hJ : ax_J n ad) (hE : ax_env dC dI cyI cyE tC (ax_A n ad s.heap.size) s s.heap)
    (hM : ax_Mi l dC dI cyI cyE tC n cf ad y cy nl ret rm (.ref (ad i) :: As) σ r σ')
    (hP : va_P (dC, dI) vwCl (ax_w n ad (cf σ)) H) (hS : va_S (ax_A n ad s.heap.size) s.heap H locs)
    (hcode : Cond.code y cy nl ret ∈ bw) (hlink : Cond.methodLink own idx y ∈ bw) (hinst : Cond.instanceMethod y ∈ bw) (hsel : Cond.selects q.1 y y ∈ bw) (hini : Cond.initialized q.1 ∈ bw)
    (hd : y.cls = q.1 ∧ y.cls ≠ "java/lang/invoke/MethodHandle" ∧ y.cls ≠ "java/lang/invoke/VarHandle" ∧ (parseMethodDescriptor y.desc).map (fun d => d.parameters.length) = some k)
    (hrm : rm.cells = 0 ∧ rm.slots = 0) (hR : rm.frames + 1 ≤ R.frames ∧ 8 + (nl + 11) + rm.locals ≤ R.locals)
    (hi : i < n) (he : cf σ i = .inr (ci, fs)) (hc : vwCl[ci]? = some q) (hst : st0 = As.reverse ++ .ref (ad i) :: rest) (hlen : As.length = k) (hsz : ls.size = nL) (hcat : (rest.map fun v => v.category).sum ≤ 8)
    (hdg : decode cc pc = .ok (.invokevirtual idx, 3)) (hcs : cells ≤ R.cells ∧ slots ≤ R.slots)
    (kk : ∀ (H1 : Heap) (locs1 : List Loc), va_P (dC, dI) vwCl (ax_w n ad (cf σ')) H1 → va_S (ax_A n ad s.heap.size) s.heap H1 locs1 → W p l e R s m args below meth c H1 locs1 cells slots Q (F0 m (pc + 3) ls (.int r :: rest))) :
    W p l e R s m args below meth c H locs cells slots Q (F0 m pc ls st0) := by
  refine va_calli (va_runV (As := As) (rest := rest) C0 (hM H.size) (cwV k C0.2.2.2.2 (bw_V hT hcode hlink hinst hsel hini) rfl hrm.1 hrm.2 hd hR) ⟨ax_blind, va_recv hE.1 hP hc (ax_at hi he), fun U hU hW => ⟨rfl, by rw [hU], by rw [hU]; exact hP, hJ, by rw [hU]; exact hE.call hW hS (ax_mono hS)⟩⟩ rfl hlen hsz hst (by simpa using hcat) hdg hcs) hS (fun q _ h => ax_mono hS q h) (ax_mono hS) (fun r2 u t H1 locs1 ht hvm hw hB hz hk hS1 => ?_)
  obtain ⟨rfl, rfl⟩ := hw
  exact kk H1 locs1 (by rw [← ht]; exact hB) hS1
theorem ax_callVl {y : MethodName} {cy : ByteArray} {nl : Nat} {ret : Option FieldType} {rm : Room} {r : Int64} {b ci i k idx : Nat} {q : vw_C} {fs : List Value} {st0 rest : List Value} (As : List Value)
    (C0 : CallFix p m c cc nL s args Ts own) (hT : ∀ w ∈ bw, w ∈ Ts) (hJ : ax_J n ad) (hE : ax_env dC dI cyI cyE tC (ax_A n ad s.heap.size) s s.heap)
    (hM : ax_Ml l dC dI cyI cyE tC n cf ad y cy nl ret rm (.ref (ad i) :: As) σ r σ')
    (hP : va_P (dC, dI) vwCl (ax_w n ad (cf σ)) H) (hS : va_S (ax_A n ad s.heap.size) s.heap H locs)
    (hcode : Cond.code y cy nl ret ∈ bw) (hlink : Cond.methodLink own idx y ∈ bw) (hinst : Cond.instanceMethod y ∈ bw) (hsel : Cond.selects q.1 y y ∈ bw) (hini : Cond.initialized q.1 ∈ bw)
    (hd : y.cls = q.1 ∧ y.cls ≠ "java/lang/invoke/MethodHandle" ∧ y.cls ≠ "java/lang/invoke/VarHandle" ∧ (parseMethodDescriptor y.desc).map (fun d => d.parameters.length) = some k)
    (hrm : rm.cells = 0 ∧ rm.slots = 0) (hR : rm.frames + 1 ≤ R.frames ∧ 8 + (nl + 11) + rm.locals ≤ R.locals)
    (hi : i < n) (he : cf σ i = .inr (ci, fs)) (hc : vwCl[ci]? = some q) (hst : st0 = As.reverse ++ .ref (ad i) :: rest) (hlen : As.length = k) (hsz : ls.size = nL) (hcat : (rest.map fun v => v.category).sum ≤ 8)
    (hdg : decode cc pc = .ok (.invokevirtual idx, 3)) (hcs : cells ≤ R.cells ∧ slots ≤ R.slots)
    (kk : ∀ (H1 : Heap) (locs1 : List Loc), va_P (dC, dI) vwCl (ax_w n ad (cf σ')) H1 → va_S (ax_A n ad s.heap.size) s.heap H1 locs1 → W p l e R s m args below meth c H1 locs1 cells slots Q (F0 m (pc + 3) ls (.long r :: rest))) :
    W p l e R s m args below meth c H locs cells slots Q (F0 m pc ls st0) := by
  refine va_calll (va_runV (As := As) (rest := rest) C0 (hM H.size) (cwV k C0.2.2.2.2 (bw_V hT hcode hlink hinst hsel hini) rfl hrm.1 hrm.2 hd hR) ⟨ax_blind, va_recv hE.1 hP hc (ax_at hi he), fun U hU hW => ⟨rfl, by rw [hU], by rw [hU]; exact hP, hJ, by rw [hU]; exact hE.call hW hS (ax_mono hS)⟩⟩ rfl hlen hsz hst (by simpa using hcat) hdg hcs) hS (fun q _ h => ax_mono hS q h) (ax_mono hS) (fun r2 u t H1 locs1 ht hvm hw hB hz hk hS1 => ?_)
  obtain ⟨rfl, rfl⟩ := hw
  exact kk H1 locs1 (by rw [← ht]; exact hB) hS1
theorem ax_callVv {y : MethodName} {cy : ByteArray} {nl : Nat} {ret : Option FieldType} {rm : Room} {b ci i k idx : Nat} {q : vw_C} {fs : List Value} {st0 rest : List Value} (As : List Value)
    (C0 : CallFix p m c cc nL s args Ts own) (hT : ∀ w ∈ bw, w ∈ Ts) (hJ : ax_J n ad) (hE : ax_env dC dI cyI cyE tC (ax_A n ad s.heap.size) s s.heap)
    (hM : ax_Mv l dC dI cyI cyE tC n cf ad y cy nl ret rm (.ref (ad i) :: As) σ σ')
    (hP : va_P (dC, dI) vwCl (ax_w n ad (cf σ)) H) (hS : va_S (ax_A n ad s.heap.size) s.heap H locs)
    (hcode : Cond.code y cy nl ret ∈ bw) (hlink : Cond.methodLink own idx y ∈ bw) (hinst : Cond.instanceMethod y ∈ bw) (hsel : Cond.selects q.1 y y ∈ bw) (hini : Cond.initialized q.1 ∈ bw)
    (hd : y.cls = q.1 ∧ y.cls ≠ "java/lang/invoke/MethodHandle" ∧ y.cls ≠ "java/lang/invoke/VarHandle" ∧ (parseMethodDescriptor y.desc).map (fun d => d.parameters.length) = some k)
    (hrm : rm.cells = 0 ∧ rm.slots = 0) (hR : rm.frames + 1 ≤ R.frames ∧ 8 + (nl + 11) + rm.locals ≤ R.locals)
    (hi : i < n) (he : cf σ i = .inr (ci, fs)) (hc : vwCl[ci]? = some q) (hst : st0 = As.reverse ++ .ref (ad i) :: rest) (hlen : As.length = k) (hsz : ls.size = nL) (hcat : (rest.map fun v => v.category).sum ≤ 8)
    (hdg : decode cc pc = .ok (.invokevirtual idx, 3)) (hcs : cells ≤ R.cells ∧ slots ≤ R.slots)
    (kk : ∀ (H1 : Heap) (locs1 : List Loc), va_P (dC, dI) vwCl (ax_w n ad (cf σ')) H1 → va_S (ax_A n ad s.heap.size) s.heap H1 locs1 → W p l e R s m args below meth c H1 locs1 cells slots Q (F0 m (pc + 3) ls rest)) :
    W p l e R s m args below meth c H locs cells slots Q (F0 m pc ls st0) := by
  refine va_callv (va_runV (As := As) (rest := rest) C0 (hM H.size) (cwV k C0.2.2.2.2 (bw_V hT hcode hlink hinst hsel hini) rfl hrm.1 hrm.2 hd hR) ⟨ax_blind, va_recv hE.1 hP hc (ax_at hi he), fun U hU hW => ⟨rfl, by rw [hU], by rw [hU]; exact hP, hJ, by rw [hU]; exact hE.call hW hS (ax_mono hS)⟩⟩ rfl hlen hsz hst (by simpa using hcat) hdg hcs) hS (fun q _ h => ax_mono hS q h) (ax_mono hS) (fun u t H1 locs1 ht hvm hw hB hz hk hS1 => ?_)
  subst hw
  exact kk H1 locs1 (by rw [← ht]; exact hB) hS1
theorem ax_callSi {y : MethodName} {cy : ByteArray} {nl : Nat} {ret : Option FieldType} {rm : Room} {r : Int32} {k idx : Nat} {st0 rest : List Value} (As : List Value)
    (C0 : CallFix p m c cc nL s args Ts own) (hT : ∀ w ∈ bw, w ∈ Ts) (hJ : ax_J n ad) (hE : ax_env dC dI cyI cyE tC (ax_A n ad s.heap.size) s s.heap)
    (hM : ax_Mi l dC dI cyI cyE tC n cf ad y cy nl ret rm As σ r σ')
    (hP : va_P (dC, dI) vwCl (ax_w n ad (cf σ)) H) (hS : va_S (ax_A n ad s.heap.size) s.heap H locs)
    (hcode : Cond.code y cy nl ret ∈ bw) (hlink : Cond.methodLink own idx y ∈ bw) (hstat : Cond.static y ∈ bw) (hini : Cond.initialized y.cls ∈ bw)
    (hd : y.cls ≠ "java/lang/invoke/MethodHandle" ∧ y.cls ≠ "java/lang/invoke/VarHandle" ∧ (parseMethodDescriptor y.desc).map (fun d => d.parameters.length) = some k)
    (hrm : rm.cells = 0 ∧ rm.slots = 0) (hR : rm.frames + 1 ≤ R.frames ∧ 8 + (nl + 11) + rm.locals ≤ R.locals)
    (hst : st0 = As.reverse ++ rest) (hlen : As.length = k) (hsz : ls.size = nL) (hcat : (rest.map fun v => v.category).sum ≤ 8)
    (hdg : decode cc pc = .ok (.invokestatic idx, 3)) (hcs : cells ≤ R.cells ∧ slots ≤ R.slots)
    (kk : ∀ (H1 : Heap) (locs1 : List Loc), va_P (dC, dI) vwCl (ax_w n ad (cf σ')) H1 → va_S (ax_A n ad s.heap.size) s.heap H1 locs1 → W p l e R s m args below meth c H1 locs1 cells slots Q (F0 m (pc + 3) ls (.int r :: rest))) :
    W p l e R s m args below meth c H locs cells slots Q (F0 m pc ls st0) := by
  refine va_calli (va_runS (As := As) (rest := rest) C0 (hM H.size) (va_cwS k C0.2.2.2.2 (bw_S hT hcode hlink hstat hini) rfl hrm.1 hrm.2 hd hR) ⟨ax_blind, fun U hU hW => ⟨rfl, by rw [hU], by rw [hU]; exact hP, hJ, by rw [hU]; exact hE.call hW hS (ax_mono hS)⟩⟩ rfl hlen hsz hst (by simpa using hcat) hdg hcs) hS (fun q _ h => ax_mono hS q h) (ax_mono hS) (fun r2 u t H1 locs1 ht hvm hw hB hz hk hS1 => ?_)
  obtain ⟨rfl, rfl⟩ := hw
  exact kk H1 locs1 (by rw [← ht]; exact hB) hS1
theorem ax_callSv {y : MethodName} {cy : ByteArray} {nl : Nat} {ret : Option FieldType} {rm : Room} {k idx : Nat} {st0 rest : List Value} (As : List Value)
    (C0 : CallFix p m c cc nL s args Ts own) (hT : ∀ w ∈ bw, w ∈ Ts) (hJ : ax_J n ad) (hE : ax_env dC dI cyI cyE tC (ax_A n ad s.heap.size) s s.heap)
    (hM : ax_Mv l dC dI cyI cyE tC n cf ad y cy nl ret rm As σ σ')
    (hP : va_P (dC, dI) vwCl (ax_w n ad (cf σ)) H) (hS : va_S (ax_A n ad s.heap.size) s.heap H locs)
    (hcode : Cond.code y cy nl ret ∈ bw) (hlink : Cond.methodLink own idx y ∈ bw) (hstat : Cond.static y ∈ bw) (hini : Cond.initialized y.cls ∈ bw)
    (hd : y.cls ≠ "java/lang/invoke/MethodHandle" ∧ y.cls ≠ "java/lang/invoke/VarHandle" ∧ (parseMethodDescriptor y.desc).map (fun d => d.parameters.length) = some k)
    (hrm : rm.cells = 0 ∧ rm.slots = 0) (hR : rm.frames + 1 ≤ R.frames ∧ 8 + (nl + 11) + rm.locals ≤ R.locals)
    (hst : st0 = As.reverse ++ rest) (hlen : As.length = k) (hsz : ls.size = nL) (hcat : (rest.map fun v => v.category).sum ≤ 8)
    (hdg : decode cc pc = .ok (.invokestatic idx, 3)) (hcs : cells ≤ R.cells ∧ slots ≤ R.slots)
    (kk : ∀ (H1 : Heap) (locs1 : List Loc), va_P (dC, dI) vwCl (ax_w n ad (cf σ')) H1 → va_S (ax_A n ad s.heap.size) s.heap H1 locs1 → W p l e R s m args below meth c H1 locs1 cells slots Q (F0 m (pc + 3) ls rest)) :
    W p l e R s m args below meth c H locs cells slots Q (F0 m pc ls st0) := by
  refine va_callv (va_runS (As := As) (rest := rest) C0 (hM H.size) (va_cwS k C0.2.2.2.2 (bw_S hT hcode hlink hstat hini) rfl hrm.1 hrm.2 hd hR) ⟨ax_blind, fun U hU hW => ⟨rfl, by rw [hU], by rw [hU]; exact hP, hJ, by rw [hU]; exact hE.call hW hS (ax_mono hS)⟩⟩ rfl hlen hsz hst (by simpa using hcat) hdg hcs) hS (fun q _ h => ax_mono hS q h) (ax_mono hS) (fun u t H1 locs1 ht hvm hw hB hz hk hS1 => ?_)
  subst hw
  exact kk H1 locs1 (by rw [← ht]; exact hB) hS1
/-! the ends -/
theorem ax_iret {v : Int32} {r : Int32} {ty : FieldType} (hx : p.tables.exec = Jvm.exec) (hb : c.code = cc) (hr : meth.sig.returnType = some ty) (hlocks : meth.locks = false) (hn : narrow ty (.int v) = .int v)
    (hP : va_P (dC, dI) vwCl (ax_w n ad (cf σ)) H) (hS : va_S (ax_A n ad s.heap.size) s.heap H locs) (hdg : decode cc pc = .ok (.ireturn, 1)) (hv : v = r) (hσ : σ = σ') :
    W p l e R s m args below meth c H locs 0 0 (MQ below (va_Qi (fun (a : Int32) (u : S) => a = r ∧ u = σ') (ax_B dC dI n cf ad) (ax_A n ad s.heap.size)) args s 0 0 (ax_A n ad s.heap.size)) (F0 m pc ls [.int v]) := by
  subst hv hσ
  exact W.zret hx hb hr hn (fun t ht hW => ⟨⟨_, _, rfl, ⟨rfl, rfl⟩, by show va_P _ _ _ t.heap; rw [ht]; exact hP⟩, hS.F ht⟩) hS.2.2 hdg hlocks
theorem ax_lret {v : Int64} {r : Int64} (hx : p.tables.exec = Jvm.exec) (hb : c.code = cc) (hr : meth.sig.returnType = some .long) (hlocks : meth.locks = false)
    (hP : va_P (dC, dI) vwCl (ax_w n ad (cf σ)) H) (hS : va_S (ax_A n ad s.heap.size) s.heap H locs) (hdg : decode cc pc = .ok (.lreturn, 1)) (hv : v = r) (hσ : σ = σ') :
    W p l e R s m args below meth c H locs 0 0 (MQ below (va_Ql (fun (a : Int64) (u : S) => a = r ∧ u = σ') (ax_B dC dI n cf ad) (ax_A n ad s.heap.size)) args s 0 0 (ax_A n ad s.heap.size)) (F0 m pc ls [.long v]) := by
  subst hv hσ
  exact W.lret hx hb hr (fun t ht hW => ⟨⟨_, _, rfl, ⟨rfl, rfl⟩, by show va_P _ _ _ t.heap; rw [ht]; exact hP⟩, hS.F ht⟩) hS.2.2 hdg hlocks
theorem ax_vret (hx : p.tables.exec = Jvm.exec) (hb : c.code = cc) (hr : meth.sig.returnType = none) (hlocks : meth.locks = false)
    (hP : va_P (dC, dI) vwCl (ax_w n ad (cf σ)) H) (hS : va_S (ax_A n ad s.heap.size) s.heap H locs) (hdg : decode cc pc = .ok (.return_, 1)) (hσ : σ = σ') :
    W p l e R s m args below meth c H locs 0 0 (MQ below (va_Qv (fun (u : S) => u = σ') (ax_B dC dI n cf ad) (ax_A n ad s.heap.size)) args s 0 0 (ax_A n ad s.heap.size)) (F0 m pc ls []) := by
  subst hσ
  exact W.vret hx hb hr (fun t ht hW => ⟨⟨_, rfl, rfl, by show va_P _ _ _ t.heap; rw [ht]; exact hP⟩, hS.F ht⟩) hS.2.2 hdg hlocks
end AXR
