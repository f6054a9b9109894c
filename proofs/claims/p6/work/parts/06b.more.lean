theorem mn_copy : Cond.native arraycopyName ∈ bw := bw_mem 269 (by decide +kernel) (by decide +kernel)
theorem mt_copy : Cond.static arraycopyName ∈ bw := bw_mem 268 (by decide +kernel) (by decide +kernel)
def cpb (sp dp k : Int32) (n0 n1 : Nat) : Bool := decide (¬ sp < 0 ∧ ¬ dp < 0 ∧ ¬ k < 0 ∧ sp.toNatClampNeg + k.toNatClampNeg ≤ n0 ∧ dp.toNatClampNeg + k.toNatClampNeg ≤ n1)
def ax_Mq {S : Type} (l : Launch) (dC : Nat → ClassId) (dI : Nat → Nat → Nat) (cyI cyE : ClassId) (tC n : Nat) (cf : S → Nat → va_E) (ad : Nat → Nat) (y : MethodName) (cc : ByteArray) (nL : Nat) (ret : Option FieldType) (rm : Room) (vs : List Value) (σ : S) (r : Option Nat) (σ' : S) : Prop :=
  ∀ sz, Met l y (wsY y cc nL ret) rm (va_Pc vs (ax_pre dC dI cyI cyE tC n cf ad σ sz)) (va_Qq (fun (a : Option Nat) (u : S) => a = r ∧ u = σ') (ax_B dC dI n cf ad) (ax_A n ad sz)) 0 0 (ax_A n ad sz)
section AXG
variable {p : Program} {l : Launch} {e : Env} {R : Room} {s : State} {m : MethodId} {args : Array Value} {below : List Frame} {meth : Method} {c : Code} {H : Heap} {locs : List Loc} {cells slots : Nat} {Q : State → Prop}
variable {dC : Nat → ClassId} {dI : Nat → Nat → Nat} {cyI cyE : ClassId} {tC n : Nat} {ad : Nat → Nat}
variable {cc : ByteArray} {nL pc : Nat} {ls : Array Slot} {rest : List Value} {Ts : List Cond} {own : String}
theorem aD_cp {σ : SD} {a b idx : Nat} (ha : a < 27) (hb7 : b < 27) {sp dp k : Int32} (C0 : CallFix p m c cc nL s args Ts own) (hT : ∀ w ∈ bw, w ∈ Ts) (hE : ax_env dC dI cyI cyE tC (ax_A 77 ad s.heap.size) s s.heap) (hJ : ax_J 77 ad) (hP : va_P (dC, dI) vwCl (ax_w 77 ad (cD cyI cyE ad σ)) H) (hS : va_S (ax_A 77 ad s.heap.size) s.heap H locs) (hsz : ls.size = nL) (hlink : Cond.methodLink own idx arraycopyName ∈ bw) (hg : cpb sp dp k (capD a) (capD b) = true) (hfr : 1 ≤ R.frames) (hlo : (rest.map fun v => v.category).sum + (nativeFrameWords "java/lang/System" "arraycopy" 5 + 11) ≤ R.locals) (hdg : decode cc pc = .ok (.invokestatic idx, 3))
    (kk : ∀ (H1 : Heap) (locs1 : List Loc), va_P (dC, dI) vwCl (ax_w 77 ad (cD cyI cyE ad (SDc σ b (va_cpy (σ.2.2.1 a) (σ.2.2.1 b) sp.toNatClampNeg dp.toNatClampNeg k.toNatClampNeg)))) H1 → va_S (ax_A 77 ad s.heap.size) s.heap H1 locs1 → W p l e R s m args below meth c H1 locs1 cells slots Q (F0 m (pc + 3) ls rest)) : W p l e R s m args below meth c H locs cells slots Q (F0 m pc ls (.int k :: .int dp :: .ref (ad (25 + b)) :: .int sp :: .ref (ad (25 + a)) :: rest)) := by
  obtain ⟨g1, g2, g3, g4, g5⟩ := of_decide_eq_true hg
  refine va_copyi C0.1 C0.2.1 (C0.2.2.1.trans hsz.symm) C0.2.2.2.1 (C0.2.2.2.2 _ (hT _ hlink)) (C0.2.2.2.2 _ (hT _ mn_copy)) (C0.2.2.2.2 _ (hT _ mt_copy)) (C0.2.2.2.2 _ (hT _ mz_J10)) hE.1 hP (ax_D hJ (fun i hi => ax_Ai hi)) hS (25 + a) (25 + b) 0 0 (ty := .int) (ax_at (by omega) (cD_A ha)) (ax_at (by omega) (cD_A hb7)) rfl rfl rfl g1 g2 g3 g4 g5 (fun _ _ => rfl) hfr hlo hdg (fun H1 locs1 hP1 hD1 hS1 => kk H1 locs1 ?_ hS1)
  have e : (ax_w 77 ad (cD cyI cyE ad σ)).set (25 + b) (ad (25 + b), .inl (cyI, capD b, .inl (va_cpy (σ.2.2.1 a) (σ.2.2.1 b) sp.toNatClampNeg dp.toNatClampNeg k.toNatClampNeg))) = ax_w 77 ad (cD cyI cyE ad (SDc σ b (va_cpy (σ.2.2.1 a) (σ.2.2.1 b) sp.toNatClampNeg dp.toNatClampNeg k.toNatClampNeg))) := ax_set (by omega) (by rw [cD_A hb7]; simp [SDc, va_up]) (fun j _ hj => oD_c j hj)
  rw [← e]
  exact hP1
theorem ax_callVq {S : Type} {cf : S → Nat → va_E} {σ σ' : S} {y : MethodName} {cy : ByteArray} {nl : Nat} {ret : Option FieldType} {rm : Room} {r : Option Nat} {ci i k idx : Nat} {q : vw_C} {fs : List Value} {st0 : List Value} (As : List Value)
    (C0 : CallFix p m c cc nL s args Ts own) (hT : ∀ w ∈ bw, w ∈ Ts) (hJ : ax_J n ad) (hE : ax_env dC dI cyI cyE tC (ax_A n ad s.heap.size) s s.heap)
    (hM : ax_Mq l dC dI cyI cyE tC n cf ad y cy nl ret rm (.ref (ad i) :: As) σ r σ')
    (hP : va_P (dC, dI) vwCl (ax_w n ad (cf σ)) H) (hS : va_S (ax_A n ad s.heap.size) s.heap H locs)
    (hcode : Cond.code y cy nl ret ∈ bw) (hlink : Cond.methodLink own idx y ∈ bw) (hinst : Cond.instanceMethod y ∈ bw) (hsel : Cond.selects q.1 y y ∈ bw) (hini : Cond.initialized q.1 ∈ bw)
    (hd : y.cls = q.1 ∧ y.cls ≠ "java/lang/invoke/MethodHandle" ∧ y.cls ≠ "java/lang/invoke/VarHandle" ∧ (parseMethodDescriptor y.desc).map (fun d => d.parameters.length) = some k)
    (hrm : rm.cells = 0 ∧ rm.slots = 0) (hR : rm.frames + 1 ≤ R.frames ∧ 8 + (nl + 11) + rm.locals ≤ R.locals)
    (hi : i < n) (he : cf σ i = .inr (ci, fs)) (hc : vwCl[ci]? = some q) (hst : st0 = As.reverse ++ .ref (ad i) :: rest) (hlen : As.length = k) (hsz : ls.size = nL) (hcat : (rest.map fun v => v.category).sum ≤ 8)
    (hdg : decode cc pc = .ok (.invokevirtual idx, 3)) (hcs : cells ≤ R.cells ∧ slots ≤ R.slots)
    (kk : ∀ (H1 : Heap) (locs1 : List Loc), va_P (dC, dI) vwCl (ax_w n ad (cf σ')) H1 → va_S (ax_A n ad s.heap.size) s.heap H1 locs1 → W p l e R s m args below meth c H1 locs1 cells slots Q (F0 m (pc + 3) ls (va_rf r :: rest))) :
    W p l e R s m args below meth c H locs cells slots Q (F0 m pc ls st0) := by
  refine va_callq (va_runV (As := As) (rest := rest) C0 (hM H.size) (cwV k C0.2.2.2.2 (bw_V hT hcode hlink hinst hsel hini) rfl hrm.1 hrm.2 hd hR) ⟨ax_blind, va_recv hE.1 hP hc (ax_at hi he), fun U hU hW => ⟨rfl, by rw [hU], by rw [hU]; exact hP, hJ, by rw [hU]; exact hE.call hW hS (ax_mono hS)⟩⟩ rfl hlen hsz hst (by simpa using hcat) hdg hcs) hS (fun q _ h => ax_mono hS q h) (ax_mono hS) (fun r2 u t H1 locs1 ht hvm hw hB hz hk hS1 => ?_)
  obtain ⟨rfl, rfl⟩ := hw
  exact kk H1 locs1 (by rw [← ht]; exact hB) hS1
theorem ax_aret {S : Type} {cf : S → Nat → va_E} {σ σ' : S} {o r : Option Nat} {C : String} (hx : p.tables.exec = Jvm.exec) (hb : c.code = cc) (hr : meth.sig.returnType = some (.object C)) (hlocks : meth.locks = false)
    (hP : va_P (dC, dI) vwCl (ax_w n ad (cf σ)) H) (hS : va_S (ax_A n ad s.heap.size) s.heap H locs) (hdg : decode cc pc = .ok (.areturn, 1)) (hv : o = r) (hσ : σ = σ') :
    W p l e R s m args below meth c H locs 0 0 (MQ below (va_Qq (fun (a : Option Nat) (u : S) => a = r ∧ u = σ') (ax_B dC dI n cf ad) (ax_A n ad s.heap.size)) args s 0 0 (ax_A n ad s.heap.size)) (F0 m pc ls [va_rf o]) := by
  subst hv hσ
  exact W.aret hx hb hr (Or.inl ⟨C, rfl⟩) (by cases o with | none => exact Or.inl rfl | some a => exact Or.inr ⟨a, rfl⟩) (fun t ht hW => ⟨⟨_, _, rfl, ⟨rfl, rfl⟩, by show va_P _ _ _ t.heap; rw [ht]; exact hP⟩, hS.F ht⟩) hS.2.2 hdg hlocks
end AXG
