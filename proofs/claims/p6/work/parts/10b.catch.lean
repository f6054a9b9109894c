theorem mw_take : Cond.codeWith yL_take cL_take 3 (some .int) [(0, 8, 11, 13)] ∈ bw := bw_mem 561 (by decide +kernel) (by decide +kernel)
theorem mw_add : Cond.codeWith yL_add cL_add 4 (some .int) [(0, 9, 12, 19), (0, 9, 15, 13)] ∈ bw := bw_mem 637 (by decide +kernel) (by decide +kernel)
theorem mw_replace : Cond.codeWith yL_replace cL_replace 3 (some .int) [(0, 5, 8, 25), (0, 5, 11, 19), (0, 5, 14, 13)] ∈ bw := bw_mem 665 (by decide +kernel) (by decide +kernel)
theorem mw_rename : Cond.codeWith yL_rename cL_rename 3 (some .int) [(0, 5, 8, 25), (0, 5, 11, 19), (0, 5, 14, 13)] ∈ bw := bw_mem 694 (by decide +kernel) (by decide +kernel)
theorem mw_remove : Cond.codeWith yL_remove cL_remove 3 (some .int) [(0, 5, 8, 25)] ∈ bw := bw_mem 705 (by decide +kernel) (by decide +kernel)
theorem mw_read : Cond.codeWith yL_read cL_read 3 (some .int) [(0, 8, 11, 19)] ∈ bw := bw_mem 712 (by decide +kernel) (by decide +kernel)
theorem mq_L_13 : Cond.classLink RL 13 "java/lang/IllegalStateException" ∈ bw := bw_mem 562 (by decide +kernel) (by decide +kernel)
theorem mq_L_19 : Cond.classLink RL 19 "java/lang/IllegalArgumentException" ∈ bw := bw_mem 638 (by decide +kernel) (by decide +kernel)
theorem mq_L_25 : Cond.classLink RL 25 "java/lang/IndexOutOfBoundsException" ∈ bw := bw_mem 666 (by decide +kernel) (by decide +kernel)
abbrev wsW (y : MethodName) (cc : ByteArray) (n : Nat) (r : Option FieldType) (hh : List (Nat × Nat × Nat × Nat)) : List Cond := .codeWith y cc n r hh :: bw
def ax_preL (l : Launch) (dC : Nat → ClassId) (dI : Nat → Nat → Nat) (cyI cyE cyL : ClassId) (tC : Nat) (ad : Nat → Nat) (st : SL) (sz : Nat) (U : State) : Prop :=
  U.heap.size = sz ∧ va_P (dC, dI) vwCl (ax_w 90 ad (cL cyI cyE cyL ad st)) U.heap ∧ ax_J 90 ad ∧ ax_envL l dC dI cyI cyE cyL tC (ax_A 90 ad sz) U U.heap
theorem ax_blindL {l : Launch} {dC : Nat → ClassId} {dI : Nat → Nat → Nat} {cyI cyE cyL : ClassId} {tC : Nat} {ad : Nat → Nat} {st : SL} {sz : Nat} {vs : List Value} : FrameBlind (va_Pc vs (ax_preL l dC dI cyI cyE cyL tC ad st sz)) :=
  fun a U g mk q => by
    obtain ⟨q0, q1, qP, qJ, qE⟩ := q
    exact ⟨q0, q1, qP, qJ, qE.blind (U' := U.calling g mk a) rfl⟩
theorem ax_blindX {l : Launch} {dC : Nat → ClassId} {dI : Nat → Nat → Nat} {cyI cyE : ClassId} {tC : Nat} {ad : Nat → Nat} {σ : SD} {sz : Nat} {vs : List Value} : FrameBlind (va_Pc vs (fun U => ax_pre dC dI cyI cyE tC 77 (cD cyI cyE ad) ad σ sz U ∧ ax_envX l (ax_A 77 ad sz) U U.heap)) :=
  fun a U g mk q => by
    obtain ⟨q0, ⟨q1, qP, qJ, qE⟩, qX⟩ := q
    exact ⟨q0, ⟨q1, qP, qJ, qE.blind (U' := U.calling g mk a) rfl⟩, qX.blind (U' := U.calling g mk a) rfl⟩
def ax_H (l : Launch) (dC : Nat → ClassId) (dI : Nat → Nat → Nat) (cyI cyE cyL : ClassId) (tC : Nat) (ad : Nat → Nat) (y : MethodName) (cc : ByteArray) (nL : Nat) (hh : List (Nat × Nat × Nat × Nat)) (rm : Room) (vs : List Value) (st : SL) (r : Int32) (st' : SL) : Prop :=
  ∀ sz, Met l y (wsW y cc nL (some .int) hh) rm (va_Pc vs (ax_preL l dC dI cyI cyE cyL tC ad st sz)) (va_Qi (fun (a : Int32) (u : SL) => a = r ∧ u = st') (fun u t => va_P (dC, dI) vwCl (ax_w 90 ad (cL cyI cyE cyL ad u)) t.heap) (ax_A 90 ad sz)) 1 6 (ax_A 90 ad sz)
section LWC
variable {p : Program} {l : Launch} {e : Env} {R : Room} {s : State} {m : MethodId} {args : Array Value} {below : List Frame} {meth : Method} {c : Code} {H : Heap} {locs : List Loc} {cells slots : Nat} {Q : State → Prop}
variable {dC : Nat → ClassId} {dI : Nat → Nat → Nat} {cyI cyE cyL : ClassId} {tC : Nat} {ad : Nat → Nat} {st : SL}
variable {cc : ByteArray} {nL pc : Nat} {ls : Array Slot} {Ts : List Cond} {own : String} {A0 : Nat → Prop}
theorem gX_i {y : MethodName} {cy : ByteArray} {nl : Nat} {ret : Option FieldType} {rm : Room} {k idx : Nat} {st0 rest : List Value} {res : (Int32 ⊕ Nat) × SD} (As : List Value)
    (C0 : CallFix p m c cc nL s args Ts own) (hT : ∀ w ∈ bw, w ∈ Ts) (hJ : ax_J 90 ad) (hE : ax_envL l dC dI cyI cyE cyL tC A0 s s.heap) (hA : ∀ i, i < 90 → A0 (ad i)) (hN : ∀ q, s.heap.size ≤ q → A0 q)
    (hM : ax_Xi l dC dI cyI cyE tC ad y cy nl ret rm (.ref (ad 76) :: As) st.1 res)
    (hP : va_P (dC, dI) vwCl (ax_w 90 ad (cL cyI cyE cyL ad st)) H) (hS : va_S A0 s.heap H locs)
    (hcode : Cond.code y cy nl ret ∈ bw) (hlink : Cond.methodLink own idx y ∈ bw) (hinst : Cond.instanceMethod y ∈ bw) (hsel : Cond.selects RX7 y y ∈ bw) (hini : Cond.initialized RX7 ∈ bw)
    (hd : y.cls = RX7 ∧ y.cls ≠ "java/lang/invoke/MethodHandle" ∧ y.cls ≠ "java/lang/invoke/VarHandle" ∧ (parseMethodDescriptor y.desc).map (fun d => d.parameters.length) = some k)
    (hrm : rm.cells = 1 ∧ rm.slots = 6) (hR : rm.frames + 1 ≤ R.frames ∧ 8 + (nl + 11) + rm.locals ≤ R.locals)
    (hst : st0 = As.reverse ++ .ref (ad 76) :: rest) (hlen : As.length = k) (hsz : ls.size = nL) (hcat : (rest.map fun v => v.category).sum ≤ 8)
    (hdg : decode cc pc = .ok (.invokevirtual idx, 3)) (hcs : cells + 1 ≤ R.cells ∧ slots + 6 ≤ R.slots)
    (kx : ∀ (K : Nat) (σ' : SD) (ce : Cell) (q9 : Addr) (H1 : Heap) (locs1 : List Loc), res = (.inr K, σ') → va_P (dC, dI) vwCl (ax_w 90 ad (cL cyI cyE cyL ad (σ', st.2))) H1 → va_S A0 s.heap H1 locs1 → H1[q9]? = some ce → ce.vm = .none → s.vm.findClass (exN K) = some ce.cls → vx_W p l e R s m args below meth c H1 locs1 (cells + 1) (slots + 6) Q (F0 m pc ls rest) q9)
    (kk : ∀ (v : Int32) (σ' : SD) (H1 : Heap) (locs1 : List Loc), res = (.inl v, σ') → va_P (dC, dI) vwCl (ax_w 90 ad (cL cyI cyE cyL ad (σ', st.2))) H1 → va_S A0 s.heap H1 locs1 → W p l e R s m args below meth c H1 locs1 (cells + 1) (slots + 6) Q (F0 m (pc + 3) ls (.int v :: rest))) :
    W p l e R s m args below meth c H locs cells slots Q (F0 m pc ls st0) := by
  have hF := aA_D (A0 := A0) hA hN hS
  refine vx_calli (vx_runV (As := As) (rest := rest) C0 (hM H.size) (cwV k C0.2.2.2.2 (bw_V hT hcode hlink hinst hsel hini) rfl hrm.1 hrm.2 hd hR) ⟨ax_blindX, va_recv (ci := 5) (q0 := 76) hE.1.1 (pL_D hP) rfl (ax_at (by decide) cD_Desk), fun U hU hW => ⟨rfl, ⟨by rw [hU], by rw [hU]; exact pL_D hP, aJ_D hJ, by rw [hU]; exact hE.1.call hW hS hF⟩, by rw [hU]; exact hE.2.1.call hW hS hF⟩⟩ rfl hlen hsz hst (by simpa using hcat) hdg hcs) hS (fun q _ h => hF q h) hF (fun q _ h => hF q h) (fun E ce q9 u t H1 locs1 ht hvm hw hB hz hk hS1 h1 h2 h3 => ?_) (fun r2 u t H1 locs1 ht hvm hw hB hz hk hS1 => ?_)
  · obtain ⟨rfl, hB⟩ := hB
    exact kx u.1 u.2 ce q9 H1 locs1 hw (pL_backD hP hJ (by rw [← ht]; exact hB) hk) hS1 h1 h2 h3
  · exact kk r2 u H1 locs1 hw (pL_backD hP hJ (by rw [← ht]; exact hB) hk) hS1
theorem gX_v {y : MethodName} {cy : ByteArray} {nl : Nat} {ret : Option FieldType} {rm : Room} {k idx : Nat} {st0 rest : List Value} {res : (Unit ⊕ Nat) × SD} (As : List Value)
    (C0 : CallFix p m c cc nL s args Ts own) (hT : ∀ w ∈ bw, w ∈ Ts) (hJ : ax_J 90 ad) (hE : ax_envL l dC dI cyI cyE cyL tC A0 s s.heap) (hA : ∀ i, i < 90 → A0 (ad i)) (hN : ∀ q, s.heap.size ≤ q → A0 q)
    (hM : ax_Xv l dC dI cyI cyE tC ad y cy nl ret rm (.ref (ad 76) :: As) st.1 res)
    (hP : va_P (dC, dI) vwCl (ax_w 90 ad (cL cyI cyE cyL ad st)) H) (hS : va_S A0 s.heap H locs)
    (hcode : Cond.code y cy nl ret ∈ bw) (hlink : Cond.methodLink own idx y ∈ bw) (hinst : Cond.instanceMethod y ∈ bw) (hsel : Cond.selects RX7 y y ∈ bw) (hini : Cond.initialized RX7 ∈ bw)
    (hd : y.cls = RX7 ∧ y.cls ≠ "java/lang/invoke/MethodHandle" ∧ y.cls ≠ "java/lang/invoke/VarHandle" ∧ (parseMethodDescriptor y.desc).map (fun d => d.parameters.length) = some k)
    (hrm : rm.cells = 1 ∧ rm.slots = 6) (hR : rm.frames + 1 ≤ R.frames ∧ 8 + (nl + 11) + rm.locals ≤ R.locals)
    (hst : st0 = As.reverse ++ .ref (ad 76) :: rest) (hlen : As.length = k) (hsz : ls.size = nL) (hcat : (rest.map fun v => v.category).sum ≤ 8)
    (hdg : decode cc pc = .ok (.invokevirtual idx, 3)) (hcs : cells + 1 ≤ R.cells ∧ slots + 6 ≤ R.slots)
    (kx : ∀ (K : Nat) (σ' : SD) (ce : Cell) (q9 : Addr) (H1 : Heap) (locs1 : List Loc), res = (.inr K, σ') → va_P (dC, dI) vwCl (ax_w 90 ad (cL cyI cyE cyL ad (σ', st.2))) H1 → va_S A0 s.heap H1 locs1 → H1[q9]? = some ce → ce.vm = .none → s.vm.findClass (exN K) = some ce.cls → vx_W p l e R s m args below meth c H1 locs1 (cells + 1) (slots + 6) Q (F0 m pc ls rest) q9)
    (kk : ∀ (σ' : SD) (H1 : Heap) (locs1 : List Loc), res = (.inl (), σ') → va_P (dC, dI) vwCl (ax_w 90 ad (cL cyI cyE cyL ad (σ', st.2))) H1 → va_S A0 s.heap H1 locs1 → W p l e R s m args below meth c H1 locs1 (cells + 1) (slots + 6) Q (F0 m (pc + 3) ls rest)) :
    W p l e R s m args below meth c H locs cells slots Q (F0 m pc ls st0) := by
  have hF := aA_D (A0 := A0) hA hN hS
  refine vx_callv (vx_runV (As := As) (rest := rest) C0 (hM H.size) (cwV k C0.2.2.2.2 (bw_V hT hcode hlink hinst hsel hini) rfl hrm.1 hrm.2 hd hR) ⟨ax_blindX, va_recv (ci := 5) (q0 := 76) hE.1.1 (pL_D hP) rfl (ax_at (by decide) cD_Desk), fun U hU hW => ⟨rfl, ⟨by rw [hU], by rw [hU]; exact pL_D hP, aJ_D hJ, by rw [hU]; exact hE.1.call hW hS hF⟩, by rw [hU]; exact hE.2.1.call hW hS hF⟩⟩ rfl hlen hsz hst (by simpa using hcat) hdg hcs) hS (fun q _ h => hF q h) hF (fun q _ h => hF q h) (fun E ce q9 u t H1 locs1 ht hvm hw hB hz hk hS1 h1 h2 h3 => ?_) (fun u t H1 locs1 ht hvm hw hB hz hk hS1 => ?_)
  · obtain ⟨rfl, hB⟩ := hB
    exact kx u.1 u.2 ce q9 H1 locs1 hw (pL_backD hP hJ (by rw [← ht]; exact hB) hk) hS1 h1 h2 h3
  · exact kk u H1 locs1 hw (pL_backD hP hJ (by rw [← ht]; exact hB) hk) hS1
theorem gL_H {y : MethodName} {cy : ByteArray} {nl : Nat} {hh : List (Nat × Nat × Nat × Nat)} {rm : Room} {r : Int32} {k idx : Nat} {st0 rest : List Value} {st' : SL} (As : List Value)
    (C0 : CallFix p m c cc nL s args Ts own) (hT : ∀ w ∈ bw, w ∈ Ts) (hJ : ax_J 90 ad) (hE : ax_envL l dC dI cyI cyE cyL tC A0 s s.heap) (hA : ∀ i, i < 90 → A0 (ad i)) (hN : ∀ q, s.heap.size ≤ q → A0 q)
    (hM : ax_H l dC dI cyI cyE cyL tC ad y cy nl hh rm As st r st')
    (hP : va_P (dC, dI) vwCl (ax_w 90 ad (cL cyI cyE cyL ad st)) H) (hS : va_S A0 s.heap H locs)
    (hcode : Cond.codeWith y cy nl (some .int) hh ∈ bw) (hlink : Cond.methodLink own idx y ∈ bw) (hstat : Cond.static y ∈ bw) (hini : Cond.initialized y.cls ∈ bw)
    (hd : y.cls ≠ "java/lang/invoke/MethodHandle" ∧ y.cls ≠ "java/lang/invoke/VarHandle" ∧ (parseMethodDescriptor y.desc).map (fun d => d.parameters.length) = some k)
    (hrm : rm.cells = 1 ∧ rm.slots = 6) (hR : rm.frames + 1 ≤ R.frames ∧ 8 + (nl + 11) + rm.locals ≤ R.locals)
    (hst : st0 = As.reverse ++ rest) (hlen : As.length = k) (hsz : ls.size = nL) (hcat : (rest.map fun v => v.category).sum ≤ 8)
    (hdg : decode cc pc = .ok (.invokestatic idx, 3)) (hcs : cells + 1 ≤ R.cells ∧ slots + 6 ≤ R.slots)
    (kk : ∀ (H1 : Heap) (locs1 : List Loc), va_P (dC, dI) vwCl (ax_w 90 ad (cL cyI cyE cyL ad st')) H1 → va_S A0 s.heap H1 locs1 → W p l e R s m args below meth c H1 locs1 (cells + 1) (slots + 6) Q (F0 m (pc + 3) ls (.int r :: rest))) :
    W p l e R s m args below meth c H locs cells slots Q (F0 m pc ls st0) := by
  have hF : ∀ q, ax_A 90 ad H.size q → A0 q := fun q h => h.elim (fun ⟨i, hi, e⟩ => e ▸ hA i hi) (fun h => hN q (Nat.le_trans hS.1 h))
  have hG : GoodIn Ts (va_wsS own idx y (wsW y cy nl (some .int) hh)) := by
    have key : ∀ v ∈ bw, v ∈ Ts ∧ ((v.onTables && v.keeps) = true ∨ ∃ ty, v = .arrayClass ty) := fun v hv => ⟨hT v hv, good_of_word (List.mem_filter.mp hv).2⟩
    intro w hw
    rcases List.mem_append.mp hw with hw | hw
    · simp only [List.mem_cons, List.not_mem_nil, or_false] at hw
      rcases hw with rfl | rfl | rfl
      · exact key _ hlink
      · exact key _ hstat
      · exact key _ hini
    · rcases List.mem_cons.mp hw with rfl | hw
      · exact key _ hcode
      · exact key _ hw
  refine va_calli (vx_runSW (As := As) (rest := rest) C0 (hM H.size) (vx_cwSW k C0.2.2.2.2 hG rfl hrm.1 hrm.2 hd hR) ⟨ax_blindL, fun U hU hW => ⟨rfl, by rw [hU], by rw [hU]; exact hP, hJ, by rw [hU]; exact hE.call hW hS hF⟩⟩ rfl hlen hsz hst (by simpa using hcat) hdg hcs) hS (fun q _ h => hF q h) hF (fun r2 u t H1 locs1 ht hvm hw hB hz hk hS1 => ?_)
  obtain ⟨rfl, rfl⟩ := hw
  exact kk H1 locs1 (by rw [← ht]; exact hB) hS1
theorem lL_st {x : Int64} {rest : List Value} (C0 : CallFix p m c cc nL s args Ts own) (hK : va_K (dC, dI) vwCl [(cyL, .long)] s) (hJ : ax_J 90 ad) (hA : ∀ i, i < 90 → A0 (ad i)) (hP : va_P (dC, dI) vwCl (ax_w 90 ad (cL cyI cyE cyL ad st)) H) (hS : va_S A0 s.heap H locs) (hdg : decode cc pc = .ok (.lastore, 1))
    (kk : ∀ (H1 : Heap) (locs1 : List Loc), va_P (dC, dI) vwCl (ax_w 90 ad (cL cyI cyE cyL ad (st.1, st.2.1, vp_updL st.2.2 0 x))) H1 → va_S A0 s.heap H1 locs1 → W p l e R s m args below meth c H1 locs1 cells slots Q (F0 m (pc + 1) ls rest)) : W p l e R s m args below meth c H locs cells slots Q (F0 m pc ls (.long x :: .int 0 :: .ref (ad 89) :: rest)) := by
  refine va_last C0.1 C0.2.1 hK hP (ax_D hJ hA) hS 89 0 (ax_at (by decide) cL_3) rfl (i := 0) (by unfold vp_in; decide) hdg (fun H1 locs1 hP1 hD1 hS1 => kk H1 locs1 ?_ hS1)
  have e : (ax_w 90 ad (cL cyI cyE cyL ad st)).set 89 (ad 89, .inl (cyL, 1, .inr (.inl (vp_updL st.2.2 (0 : Int32).toNatClampNeg x)))) = ax_w 90 ad (cL cyI cyE cyL ad (st.1, st.2.1, vp_updL st.2.2 0 x)) := ax_set (by decide) rfl (fun j hj h9 => by
    by_cases h7 : j < 77
    · simp only [cL, if_pos h7]
    · have h8 : j < 89 := by omega
      simp only [cL, if_neg h7, if_pos h8])
  rw [← e]
  exact hP1
theorem lL_ret {v r : Int32} {st' : SL} (hx : p.tables.exec = Jvm.exec) (hb : c.code = cc) (hr : meth.sig.returnType = some .int) (hlocks : meth.locks = false)
    (hP : va_P (dC, dI) vwCl (ax_w 90 ad (cL cyI cyE cyL ad st)) H) (hS : va_S (ax_A 90 ad s.heap.size) s.heap H locs) (hdg : decode cc pc = .ok (.ireturn, 1)) (hv : v = r) (hs : st = st') :
    W p l e R s m args below meth c H locs 1 6 (MQ below (va_Qi (fun (a : Int32) (u : SL) => a = r ∧ u = st') (fun u t => va_P (dC, dI) vwCl (ax_w 90 ad (cL cyI cyE cyL ad u)) t.heap) (ax_A 90 ad s.heap.size)) args s 1 6 (ax_A 90 ad s.heap.size)) (F0 m pc ls [.int v]) := by
  subst hv hs
  exact W.iret hx hb hr (fun t ht hW => ⟨⟨_, _, rfl, ⟨rfl, rfl⟩, by show va_P _ _ _ t.heap; rw [ht]; exact hP⟩, hS.F ht⟩) hS.2.2 hdg hlocks
end LWC
/-- what a catching method of the law answers and leaves: the row of the table that caught, 0 if none; the answer in the array -/
def lk_of {α : Type} (ks : Nat → Int32) (r : α ⊕ Nat) : Int32 := match r with | .inl _ => 0 | .inr k => ks k
def lo_of (g : Nat → Int64) (r : Int32 ⊕ Nat) : Nat → Int64 := match r with | .inl v => vp_updL g 0 v.toInt64 | .inr _ => g
def rm_L_take : Room := { frames := 7, cells := 1, slots := 6, locals := 110 }
def ks_take : Nat → Int32 := fun k => if k = 0 then 1 else 0
set_option maxHeartbeats 4000000 in
set_option maxRecDepth 100000 in
theorem met_L_take (l : Launch) (dC : Nat → ClassId) (dI : Nat → Nat → Nat) (cyI cyE cyL : ClassId) (tC : Nat) (ad : Nat → Nat) (st : SL) (res : (Int32 ⊕ Nat) × SD) (hf : f_X7_take st.1 = some res) (hk : ∀ k, res.1 = .inr k → k = 0) : ax_H l dC dI cyI cyE cyL tC ad yL_take cL_take 3 [(0, 8, 11, 13)] rm_L_take [.ref (ad 76), .ref (ad 89)] st (lk_of ks_take res.1) (res.2, st.2.1, lo_of st.2.2 res.1) := by
  intro sz
  refine va_MetW (cc := cL_take) (maxL := 3) (ret := some .int) (hh := [(0, 8, 11, 13)]) (by decide) rfl ?_
  intro p e s m args below meth c s₁ B hml hv
  obtain ⟨hargs, hsz, hP, hJ, hE⟩ := hv
  subst hsz
  have hx := B.exec
  have hb := B.bytes
  have hr := B.returns
  have hlocks := B.notSynchronized
  have hts := atoms_spec (ws := wsW yL_take cL_take 3 (some .int) [(0, 8, 11, 13)]) B.pre
  have hown : s.vm.findClass RL = some m.cls := findClass_of_methodNamed B.named
  have htab : c.exceptionTable.toList = [⟨0, 8, 11, 13⟩] := vx_table (x := yL_take) B (hts _ List.mem_cons_self)
  have C0 : CallFix p m c cL_take 3 s args (wsW yL_take cL_take 3 (some .int) [(0, 8, 11, 13)]) RL := ⟨hx, hb, hml, hown, hts⟩
  have hT : ∀ w ∈ bw, w ∈ wsW yL_take cL_take 3 (some .int) [(0, 8, 11, 13)] := fun w h => List.mem_cons_of_mem _ h
  have hS : va_S (ax_A 90 ad s.heap.size) s.heap s.heap [] := va_S.rf
  have hA : ∀ i, i < 90 → ax_A 90 ad s.heap.size (ad i) := fun i hi => ax_Ai hi
  have hN : ∀ q, s.heap.size ≤ q → ax_A 90 ad s.heap.size q := fun q h => ax_An h
  rw [show entryFrame m args 3 = entryFrame m ([.ref (ad 76), .ref (ad 89)] : List Value).toArray 3 by rw [hargs]]
  have hl := lv_entry ([.ref (ad 76), .ref (ad 89)]) (n := 3) (Nat.le_of_ble_eq_true rfl)
  rw [lg_entry_eq]
  generalize (lg_sl ([.ref (ad 76), .ref (ad 89)]) ++ List.replicate (3 - (lg_sl ([.ref (ad 76), .ref (ad 89)])).length) Slot.unset).toArray = ls at hl ⊢
  have hl : lv_has ls 3 [(0, .ref (ad 76)), (1, .ref (ad 89))] := hl
  show W p l e rm_L_take s m args below meth c s.heap [] 0 0 _ _
  refine lv_aload_n hx hb dL_take_0 rfl (lv_at hl 1 rfl) ?_
  refine lv_iconst (v := 0) hx hb dL_take_1 (by decide) ?_
  refine lv_aload_n hx hb dL_take_2 rfl (lv_at hl 0 rfl) ?_
  refine gX_i (k := 0) [] C0 hT hJ hE hA hN (met_X7_take l dC dI cyI cyE tC ad st.1 res hf) hP hS mc_X7_take ml_L_7 mi_X7_take ms_X7_take mz_X7 (by decide +kernel) ⟨rfl, rfl⟩ ⟨by decide, by decide⟩ rfl rfl hl.1 (Nat.le_of_ble_eq_true rfl) dL_take_3 ⟨Nat.le_of_ble_eq_true rfl, Nat.le_of_ble_eq_true rfl⟩ (fun K σ1 ce q9 H1 locs1 hres hP hS h1 h2 h3 => ?_) (fun v σ1 H1 locs1 hres hP hS => ?_)
  · subst hres
    rcases hk K rfl with rfl
    refine cx_catch (own := RL) (name := "java/lang/IllegalStateException") (E := "java/lang/IllegalStateException") hown [] ⟨0, 8, 11, 13⟩ [] htab (fun z hz => absurd hz List.not_mem_nil) (by decide) (by decide) (C0.2.2.2.2 _ (hT _ mq_L_13)) (va_Nw.use rfl (hE.2.1.2.2.2.2.2 "java/lang/IllegalStateException" (by decide))) h1 h2 h3 ?_
    refine lv_astore_n (lv' := [(2, .ref q9), (0, .ref (ad 76)), (1, .ref (ad 89))]) hx hb dL_take_11 rfl hl (by decide) rfl (fun ls hl => ?_)
    refine lv_iconst (v := 1) hx hb dL_take_12 (by decide) ?_
    exact lL_ret hx hb hr hlocks hP hS dL_take_13 rfl rfl
  · subst hres
    refine lv_i2l hx hb dL_take_6 rfl ?_
    refine lL_st C0 hE.2.2.1 hJ hA hP hS dL_take_7 (fun H2 locs2 hP hS => ?_)
    refine lv_goto (tgt := 14) hx hb dL_take_8 (by decide) ?_
    refine lv_iconst (v := 0) hx hb dL_take_14 (by decide) ?_
    exact lL_ret hx hb hr hlocks hP hS dL_take_15 rfl rfl
def rm_L_add : Room := { frames := 7, cells := 1, slots := 6, locals := 154 }
def ks_add : Nat → Int32 := fun k => if k = 1 then 1 else if k = 0 then 2 else 0
set_option maxHeartbeats 4000000 in
set_option maxRecDepth 100000 in
theorem met_L_add (l : Launch) (dC : Nat → ClassId) (dI : Nat → Nat → Nat) (cyI cyE cyL : ClassId) (tC : Nat) (ad : Nat → Nat) (st : SL) (x1 : Int32) (res : (Int32 ⊕ Nat) × SD) (hf : f_X7_add st.1 x1 = some res) (hk : ∀ k, res.1 = .inr k → k = 1 ∨ k = 0) : ax_H l dC dI cyI cyE cyL tC ad yL_add cL_add 4 [(0, 9, 12, 19), (0, 9, 15, 13)] rm_L_add [.ref (ad 76), .int x1, .ref (ad 89)] st (lk_of ks_add res.1) (res.2, st.2.1, lo_of st.2.2 res.1) := by
  intro sz
  refine va_MetW (cc := cL_add) (maxL := 4) (ret := some .int) (hh := [(0, 9, 12, 19), (0, 9, 15, 13)]) (by decide) rfl ?_
  intro p e s m args below meth c s₁ B hml hv
  obtain ⟨hargs, hsz, hP, hJ, hE⟩ := hv
  subst hsz
  have hx := B.exec
  have hb := B.bytes
  have hr := B.returns
  have hlocks := B.notSynchronized
  have hts := atoms_spec (ws := wsW yL_add cL_add 4 (some .int) [(0, 9, 12, 19), (0, 9, 15, 13)]) B.pre
  have hown : s.vm.findClass RL = some m.cls := findClass_of_methodNamed B.named
  have htab : c.exceptionTable.toList = [⟨0, 9, 12, 19⟩, ⟨0, 9, 15, 13⟩] := vx_table (x := yL_take) B (hts _ List.mem_cons_self)
  have C0 : CallFix p m c cL_add 4 s args (wsW yL_add cL_add 4 (some .int) [(0, 9, 12, 19), (0, 9, 15, 13)]) RL := ⟨hx, hb, hml, hown, hts⟩
  have hT : ∀ w ∈ bw, w ∈ wsW yL_add cL_add 4 (some .int) [(0, 9, 12, 19), (0, 9, 15, 13)] := fun w h => List.mem_cons_of_mem _ h
  have hS : va_S (ax_A 90 ad s.heap.size) s.heap s.heap [] := va_S.rf
  have hA : ∀ i, i < 90 → ax_A 90 ad s.heap.size (ad i) := fun i hi => ax_Ai hi
  have hN : ∀ q, s.heap.size ≤ q → ax_A 90 ad s.heap.size q := fun q h => ax_An h
  rw [show entryFrame m args 4 = entryFrame m ([.ref (ad 76), .int x1, .ref (ad 89)] : List Value).toArray 4 by rw [hargs]]
  have hl := lv_entry ([.ref (ad 76), .int x1, .ref (ad 89)]) (n := 4) (Nat.le_of_ble_eq_true rfl)
  rw [lg_entry_eq]
  generalize (lg_sl ([.ref (ad 76), .int x1, .ref (ad 89)]) ++ List.replicate (4 - (lg_sl ([.ref (ad 76), .int x1, .ref (ad 89)])).length) Slot.unset).toArray = ls at hl ⊢
  have hl : lv_has ls 4 [(0, .ref (ad 76)), (1, .int x1), (2, .ref (ad 89))] := hl
  show W p l e rm_L_add s m args below meth c s.heap [] 0 0 _ _
  refine lv_aload_n hx hb dL_add_0 rfl (lv_at hl 2 rfl) ?_
  refine lv_iconst (v := 0) hx hb dL_add_1 (by decide) ?_
  refine lv_aload_n hx hb dL_add_2 rfl (lv_at hl 0 rfl) ?_
  refine lv_iload_n hx hb dL_add_3 rfl (lv_at hl 1 rfl) ?_
  refine gX_i (k := 1) [.int x1] C0 hT hJ hE hA hN (met_X7_add l dC dI cyI cyE tC ad st.1 x1 res hf) hP hS mc_X7_add ml_L_15 mi_X7_add ms_X7_add mz_X7 (by decide +kernel) ⟨rfl, rfl⟩ ⟨by decide, by decide⟩ rfl rfl hl.1 (Nat.le_of_ble_eq_true rfl) dL_add_4 ⟨Nat.le_of_ble_eq_true rfl, Nat.le_of_ble_eq_true rfl⟩ (fun K σ1 ce q9 H1 locs1 hres hP hS h1 h2 h3 => ?_) (fun v σ1 H1 locs1 hres hP hS => ?_)
  · subst hres
    rcases hk K rfl with rfl | rfl
    · refine cx_catch (own := RL) (name := "java/lang/IllegalArgumentException") (E := "java/lang/IllegalArgumentException") hown [] ⟨0, 9, 12, 19⟩ [⟨0, 9, 15, 13⟩] htab (fun z hz => absurd hz List.not_mem_nil) (by decide) (by decide) (C0.2.2.2.2 _ (hT _ mq_L_19)) (va_Nw.use rfl (hE.2.1.2.2.2.2.2 "java/lang/IllegalArgumentException" (by decide))) h1 h2 h3 ?_
      refine lv_astore_n (lv' := [(3, .ref q9), (0, .ref (ad 76)), (1, .int x1), (2, .ref (ad 89))]) hx hb dL_add_12 rfl hl (by decide) rfl (fun ls hl => ?_)
      refine lv_iconst (v := 1) hx hb dL_add_13 (by decide) ?_
      exact lL_ret hx hb hr hlocks hP hS dL_add_14 rfl rfl
    · refine cx_catch (own := RL) (name := "java/lang/IllegalStateException") (E := "java/lang/IllegalStateException") hown [⟨0, 9, 12, 19⟩] ⟨0, 9, 15, 13⟩ [] htab (fun z hz => by
      simp only [List.mem_cons, List.not_mem_nil, or_false] at hz
      subst hz
      exact Or.inr ⟨by decide, "java/lang/IllegalArgumentException", C0.2.2.2.2 _ (hT _ mq_L_19), hE.2.2.2 ("java/lang/IllegalStateException", "java/lang/IllegalArgumentException") (by decide)⟩) (by decide) (by decide) (C0.2.2.2.2 _ (hT _ mq_L_13)) (va_Nw.use rfl (hE.2.1.2.2.2.2.2 "java/lang/IllegalStateException" (by decide))) h1 h2 h3 ?_
      refine lv_astore_n (lv' := [(3, .ref q9), (0, .ref (ad 76)), (1, .int x1), (2, .ref (ad 89))]) hx hb dL_add_15 rfl hl (by decide) rfl (fun ls hl => ?_)
      refine lv_iconst (v := 2) hx hb dL_add_16 (by decide) ?_
      exact lL_ret hx hb hr hlocks hP hS dL_add_17 rfl rfl
  · subst hres
    refine lv_i2l hx hb dL_add_7 rfl ?_
    refine lL_st C0 hE.2.2.1 hJ hA hP hS dL_add_8 (fun H2 locs2 hP hS => ?_)
    refine lv_goto (tgt := 18) hx hb dL_add_9 (by decide) ?_
    refine lv_iconst (v := 0) hx hb dL_add_18 (by decide) ?_
    exact lL_ret hx hb hr hlocks hP hS dL_add_19 rfl rfl
def rm_L_replace : Room := { frames := 7, cells := 1, slots := 6, locals := 149 }
def ks_replace : Nat → Int32 := fun k => if k = 2 then 1 else if k = 1 then 2 else if k = 0 then 3 else 0
set_option maxHeartbeats 4000000 in
set_option maxRecDepth 100000 in
theorem met_L_replace (l : Launch) (dC : Nat → ClassId) (dI : Nat → Nat → Nat) (cyI cyE cyL : ClassId) (tC : Nat) (ad : Nat → Nat) (st : SL) (x1 : Int32) (res : (Unit ⊕ Nat) × SD) (hf : f_X7_replace st.1 x1 = some res) (hk : ∀ k, res.1 = .inr k → k = 2 ∨ k = 1 ∨ k = 0) : ax_H l dC dI cyI cyE cyL tC ad yL_replace cL_replace 3 [(0, 5, 8, 25), (0, 5, 11, 19), (0, 5, 14, 13)] rm_L_replace [.ref (ad 76), .int x1] st (lk_of ks_replace res.1) (res.2, st.2) := by
  intro sz
  refine va_MetW (cc := cL_replace) (maxL := 3) (ret := some .int) (hh := [(0, 5, 8, 25), (0, 5, 11, 19), (0, 5, 14, 13)]) (by decide) rfl ?_
  intro p e s m args below meth c s₁ B hml hv
  obtain ⟨hargs, hsz, hP, hJ, hE⟩ := hv
  subst hsz
  have hx := B.exec
  have hb := B.bytes
  have hr := B.returns
  have hlocks := B.notSynchronized
  have hts := atoms_spec (ws := wsW yL_replace cL_replace 3 (some .int) [(0, 5, 8, 25), (0, 5, 11, 19), (0, 5, 14, 13)]) B.pre
  have hown : s.vm.findClass RL = some m.cls := findClass_of_methodNamed B.named
  have htab : c.exceptionTable.toList = [⟨0, 5, 8, 25⟩, ⟨0, 5, 11, 19⟩, ⟨0, 5, 14, 13⟩] := vx_table (x := yL_take) B (hts _ List.mem_cons_self)
  have C0 : CallFix p m c cL_replace 3 s args (wsW yL_replace cL_replace 3 (some .int) [(0, 5, 8, 25), (0, 5, 11, 19), (0, 5, 14, 13)]) RL := ⟨hx, hb, hml, hown, hts⟩
  have hT : ∀ w ∈ bw, w ∈ wsW yL_replace cL_replace 3 (some .int) [(0, 5, 8, 25), (0, 5, 11, 19), (0, 5, 14, 13)] := fun w h => List.mem_cons_of_mem _ h
  have hS : va_S (ax_A 90 ad s.heap.size) s.heap s.heap [] := va_S.rf
  have hA : ∀ i, i < 90 → ax_A 90 ad s.heap.size (ad i) := fun i hi => ax_Ai hi
  have hN : ∀ q, s.heap.size ≤ q → ax_A 90 ad s.heap.size q := fun q h => ax_An h
  rw [show entryFrame m args 3 = entryFrame m ([.ref (ad 76), .int x1] : List Value).toArray 3 by rw [hargs]]
  have hl := lv_entry ([.ref (ad 76), .int x1]) (n := 3) (Nat.le_of_ble_eq_true rfl)
  rw [lg_entry_eq]
  generalize (lg_sl ([.ref (ad 76), .int x1]) ++ List.replicate (3 - (lg_sl ([.ref (ad 76), .int x1])).length) Slot.unset).toArray = ls at hl ⊢
  have hl : lv_has ls 3 [(0, .ref (ad 76)), (1, .int x1)] := hl
  show W p l e rm_L_replace s m args below meth c s.heap [] 0 0 _ _
  refine lv_aload_n hx hb dL_replace_0 rfl (lv_at hl 0 rfl) ?_
  refine lv_iload_n hx hb dL_replace_1 rfl (lv_at hl 1 rfl) ?_
  refine gX_v (k := 1) [.int x1] C0 hT hJ hE hA hN (met_X7_replace l dC dI cyI cyE tC ad st.1 x1 res hf) hP hS mc_X7_replace ml_L_21 mi_X7_replace ms_X7_replace mz_X7 (by decide +kernel) ⟨rfl, rfl⟩ ⟨by decide, by decide⟩ rfl rfl hl.1 (Nat.le_of_ble_eq_true rfl) dL_replace_2 ⟨Nat.le_of_ble_eq_true rfl, Nat.le_of_ble_eq_true rfl⟩ (fun K σ1 ce q9 H1 locs1 hres hP hS h1 h2 h3 => ?_) (fun σ1 H1 locs1 hres hP hS => ?_)
  · subst hres
    rcases hk K rfl with rfl | rfl | rfl
    · refine cx_catch (own := RL) (name := "java/lang/IndexOutOfBoundsException") (E := "java/lang/IndexOutOfBoundsException") hown [] ⟨0, 5, 8, 25⟩ [⟨0, 5, 11, 19⟩, ⟨0, 5, 14, 13⟩] htab (fun z hz => absurd hz List.not_mem_nil) (by decide) (by decide) (C0.2.2.2.2 _ (hT _ mq_L_25)) (va_Nw.use rfl (hE.2.1.2.2.2.2.2 "java/lang/IndexOutOfBoundsException" (by decide))) h1 h2 h3 ?_
      refine lv_astore_n (lv' := [(2, .ref q9), (0, .ref (ad 76)), (1, .int x1)]) hx hb dL_replace_8 rfl hl (by decide) rfl (fun ls hl => ?_)
      refine lv_iconst (v := 1) hx hb dL_replace_9 (by decide) ?_
      exact lL_ret hx hb hr hlocks hP hS dL_replace_10 rfl rfl
    · refine cx_catch (own := RL) (name := "java/lang/IllegalArgumentException") (E := "java/lang/IllegalArgumentException") hown [⟨0, 5, 8, 25⟩] ⟨0, 5, 11, 19⟩ [⟨0, 5, 14, 13⟩] htab (fun z hz => by
      simp only [List.mem_cons, List.not_mem_nil, or_false] at hz
      subst hz
      exact Or.inr ⟨by decide, "java/lang/IndexOutOfBoundsException", C0.2.2.2.2 _ (hT _ mq_L_25), hE.2.2.2 ("java/lang/IllegalArgumentException", "java/lang/IndexOutOfBoundsException") (by decide)⟩) (by decide) (by decide) (C0.2.2.2.2 _ (hT _ mq_L_19)) (va_Nw.use rfl (hE.2.1.2.2.2.2.2 "java/lang/IllegalArgumentException" (by decide))) h1 h2 h3 ?_
      refine lv_astore_n (lv' := [(2, .ref q9), (0, .ref (ad 76)), (1, .int x1)]) hx hb dL_replace_11 rfl hl (by decide) rfl (fun ls hl => ?_)
      refine lv_iconst (v := 2) hx hb dL_replace_12 (by decide) ?_
      exact lL_ret hx hb hr hlocks hP hS dL_replace_13 rfl rfl
    · refine cx_catch (own := RL) (name := "java/lang/IllegalStateException") (E := "java/lang/IllegalStateException") hown [⟨0, 5, 8, 25⟩, ⟨0, 5, 11, 19⟩] ⟨0, 5, 14, 13⟩ [] htab (fun z hz => by
      simp only [List.mem_cons, List.not_mem_nil, or_false] at hz
      rcases hz with rfl | rfl
      · exact Or.inr ⟨by decide, "java/lang/IndexOutOfBoundsException", C0.2.2.2.2 _ (hT _ mq_L_25), hE.2.2.2 ("java/lang/IllegalStateException", "java/lang/IndexOutOfBoundsException") (by decide)⟩
      · exact Or.inr ⟨by decide, "java/lang/IllegalArgumentException", C0.2.2.2.2 _ (hT _ mq_L_19), hE.2.2.2 ("java/lang/IllegalStateException", "java/lang/IllegalArgumentException") (by decide)⟩) (by decide) (by decide) (C0.2.2.2.2 _ (hT _ mq_L_13)) (va_Nw.use rfl (hE.2.1.2.2.2.2.2 "java/lang/IllegalStateException" (by decide))) h1 h2 h3 ?_
      refine lv_astore_n (lv' := [(2, .ref q9), (0, .ref (ad 76)), (1, .int x1)]) hx hb dL_replace_14 rfl hl (by decide) rfl (fun ls hl => ?_)
      refine lv_iconst (v := 3) hx hb dL_replace_15 (by decide) ?_
      exact lL_ret hx hb hr hlocks hP hS dL_replace_16 rfl rfl
  · subst hres
    refine lv_goto (tgt := 17) hx hb dL_replace_5 (by decide) ?_
    refine lv_iconst (v := 0) hx hb dL_replace_17 (by decide) ?_
    exact lL_ret hx hb hr hlocks hP hS dL_replace_18 rfl rfl
def rm_L_rename : Room := { frames := 7, cells := 1, slots := 6, locals := 121 }
def ks_rename : Nat → Int32 := fun k => if k = 2 then 1 else if k = 1 then 2 else if k = 0 then 3 else 0
set_option maxHeartbeats 4000000 in
set_option maxRecDepth 100000 in
theorem met_L_rename (l : Launch) (dC : Nat → ClassId) (dI : Nat → Nat → Nat) (cyI cyE cyL : ClassId) (tC : Nat) (ad : Nat → Nat) (st : SL) (x1 : Int32) (res : (Unit ⊕ Nat) × SD) (hf : f_X7_rename st.1 x1 = some res) (hk : ∀ k, res.1 = .inr k → k = 2 ∨ k = 1 ∨ k = 0) : ax_H l dC dI cyI cyE cyL tC ad yL_rename cL_rename 3 [(0, 5, 8, 25), (0, 5, 11, 19), (0, 5, 14, 13)] rm_L_rename [.ref (ad 76), .int x1] st (lk_of ks_rename res.1) (res.2, st.2) := by
  intro sz
  refine va_MetW (cc := cL_rename) (maxL := 3) (ret := some .int) (hh := [(0, 5, 8, 25), (0, 5, 11, 19), (0, 5, 14, 13)]) (by decide) rfl ?_
  intro p e s m args below meth c s₁ B hml hv
  obtain ⟨hargs, hsz, hP, hJ, hE⟩ := hv
  subst hsz
  have hx := B.exec
  have hb := B.bytes
  have hr := B.returns
  have hlocks := B.notSynchronized
  have hts := atoms_spec (ws := wsW yL_rename cL_rename 3 (some .int) [(0, 5, 8, 25), (0, 5, 11, 19), (0, 5, 14, 13)]) B.pre
  have hown : s.vm.findClass RL = some m.cls := findClass_of_methodNamed B.named
  have htab : c.exceptionTable.toList = [⟨0, 5, 8, 25⟩, ⟨0, 5, 11, 19⟩, ⟨0, 5, 14, 13⟩] := vx_table (x := yL_take) B (hts _ List.mem_cons_self)
  have C0 : CallFix p m c cL_rename 3 s args (wsW yL_rename cL_rename 3 (some .int) [(0, 5, 8, 25), (0, 5, 11, 19), (0, 5, 14, 13)]) RL := ⟨hx, hb, hml, hown, hts⟩
  have hT : ∀ w ∈ bw, w ∈ wsW yL_rename cL_rename 3 (some .int) [(0, 5, 8, 25), (0, 5, 11, 19), (0, 5, 14, 13)] := fun w h => List.mem_cons_of_mem _ h
  have hS : va_S (ax_A 90 ad s.heap.size) s.heap s.heap [] := va_S.rf
  have hA : ∀ i, i < 90 → ax_A 90 ad s.heap.size (ad i) := fun i hi => ax_Ai hi
  have hN : ∀ q, s.heap.size ≤ q → ax_A 90 ad s.heap.size q := fun q h => ax_An h
  rw [show entryFrame m args 3 = entryFrame m ([.ref (ad 76), .int x1] : List Value).toArray 3 by rw [hargs]]
  have hl := lv_entry ([.ref (ad 76), .int x1]) (n := 3) (Nat.le_of_ble_eq_true rfl)
  rw [lg_entry_eq]
  generalize (lg_sl ([.ref (ad 76), .int x1]) ++ List.replicate (3 - (lg_sl ([.ref (ad 76), .int x1])).length) Slot.unset).toArray = ls at hl ⊢
  have hl : lv_has ls 3 [(0, .ref (ad 76)), (1, .int x1)] := hl
  show W p l e rm_L_rename s m args below meth c s.heap [] 0 0 _ _
  refine lv_aload_n hx hb dL_rename_0 rfl (lv_at hl 0 rfl) ?_
  refine lv_iload_n hx hb dL_rename_1 rfl (lv_at hl 1 rfl) ?_
  refine gX_v (k := 1) [.int x1] C0 hT hJ hE hA hN (met_X7_rename l dC dI cyI cyE tC ad st.1 x1 res hf) hP hS mc_X7_rename ml_L_27 mi_X7_rename ms_X7_rename mz_X7 (by decide +kernel) ⟨rfl, rfl⟩ ⟨by decide, by decide⟩ rfl rfl hl.1 (Nat.le_of_ble_eq_true rfl) dL_rename_2 ⟨Nat.le_of_ble_eq_true rfl, Nat.le_of_ble_eq_true rfl⟩ (fun K σ1 ce q9 H1 locs1 hres hP hS h1 h2 h3 => ?_) (fun σ1 H1 locs1 hres hP hS => ?_)
  · subst hres
    rcases hk K rfl with rfl | rfl | rfl
    · refine cx_catch (own := RL) (name := "java/lang/IndexOutOfBoundsException") (E := "java/lang/IndexOutOfBoundsException") hown [] ⟨0, 5, 8, 25⟩ [⟨0, 5, 11, 19⟩, ⟨0, 5, 14, 13⟩] htab (fun z hz => absurd hz List.not_mem_nil) (by decide) (by decide) (C0.2.2.2.2 _ (hT _ mq_L_25)) (va_Nw.use rfl (hE.2.1.2.2.2.2.2 "java/lang/IndexOutOfBoundsException" (by decide))) h1 h2 h3 ?_
      refine lv_astore_n (lv' := [(2, .ref q9), (0, .ref (ad 76)), (1, .int x1)]) hx hb dL_rename_8 rfl hl (by decide) rfl (fun ls hl => ?_)
      refine lv_iconst (v := 1) hx hb dL_rename_9 (by decide) ?_
      exact lL_ret hx hb hr hlocks hP hS dL_rename_10 rfl rfl
    · refine cx_catch (own := RL) (name := "java/lang/IllegalArgumentException") (E := "java/lang/IllegalArgumentException") hown [⟨0, 5, 8, 25⟩] ⟨0, 5, 11, 19⟩ [⟨0, 5, 14, 13⟩] htab (fun z hz => by
      simp only [List.mem_cons, List.not_mem_nil, or_false] at hz
      subst hz
      exact Or.inr ⟨by decide, "java/lang/IndexOutOfBoundsException", C0.2.2.2.2 _ (hT _ mq_L_25), hE.2.2.2 ("java/lang/IllegalArgumentException", "java/lang/IndexOutOfBoundsException") (by decide)⟩) (by decide) (by decide) (C0.2.2.2.2 _ (hT _ mq_L_19)) (va_Nw.use rfl (hE.2.1.2.2.2.2.2 "java/lang/IllegalArgumentException" (by decide))) h1 h2 h3 ?_
      refine lv_astore_n (lv' := [(2, .ref q9), (0, .ref (ad 76)), (1, .int x1)]) hx hb dL_rename_11 rfl hl (by decide) rfl (fun ls hl => ?_)
      refine lv_iconst (v := 2) hx hb dL_rename_12 (by decide) ?_
      exact lL_ret hx hb hr hlocks hP hS dL_rename_13 rfl rfl
    · refine cx_catch (own := RL) (name := "java/lang/IllegalStateException") (E := "java/lang/IllegalStateException") hown [⟨0, 5, 8, 25⟩, ⟨0, 5, 11, 19⟩] ⟨0, 5, 14, 13⟩ [] htab (fun z hz => by
      simp only [List.mem_cons, List.not_mem_nil, or_false] at hz
      rcases hz with rfl | rfl
      · exact Or.inr ⟨by decide, "java/lang/IndexOutOfBoundsException", C0.2.2.2.2 _ (hT _ mq_L_25), hE.2.2.2 ("java/lang/IllegalStateException", "java/lang/IndexOutOfBoundsException") (by decide)⟩
      · exact Or.inr ⟨by decide, "java/lang/IllegalArgumentException", C0.2.2.2.2 _ (hT _ mq_L_19), hE.2.2.2 ("java/lang/IllegalStateException", "java/lang/IllegalArgumentException") (by decide)⟩) (by decide) (by decide) (C0.2.2.2.2 _ (hT _ mq_L_13)) (va_Nw.use rfl (hE.2.1.2.2.2.2.2 "java/lang/IllegalStateException" (by decide))) h1 h2 h3 ?_
      refine lv_astore_n (lv' := [(2, .ref q9), (0, .ref (ad 76)), (1, .int x1)]) hx hb dL_rename_14 rfl hl (by decide) rfl (fun ls hl => ?_)
      refine lv_iconst (v := 3) hx hb dL_rename_15 (by decide) ?_
      exact lL_ret hx hb hr hlocks hP hS dL_rename_16 rfl rfl
  · subst hres
    refine lv_goto (tgt := 17) hx hb dL_rename_5 (by decide) ?_
    refine lv_iconst (v := 0) hx hb dL_rename_17 (by decide) ?_
    exact lL_ret hx hb hr hlocks hP hS dL_rename_18 rfl rfl
def rm_L_remove : Room := { frames := 7, cells := 1, slots := 6, locals := 118 }
def ks_remove : Nat → Int32 := fun k => if k = 2 then 1 else 0
set_option maxHeartbeats 4000000 in
set_option maxRecDepth 100000 in
theorem met_L_remove (l : Launch) (dC : Nat → ClassId) (dI : Nat → Nat → Nat) (cyI cyE cyL : ClassId) (tC : Nat) (ad : Nat → Nat) (st : SL) (x1 : Int32) (res : (Unit ⊕ Nat) × SD) (hf : f_X7_remove st.1 x1 = some res) (hk : ∀ k, res.1 = .inr k → k = 2) : ax_H l dC dI cyI cyE cyL tC ad yL_remove cL_remove 3 [(0, 5, 8, 25)] rm_L_remove [.ref (ad 76), .int x1] st (lk_of ks_remove res.1) (res.2, st.2) := by
  intro sz
  refine va_MetW (cc := cL_remove) (maxL := 3) (ret := some .int) (hh := [(0, 5, 8, 25)]) (by decide) rfl ?_
  intro p e s m args below meth c s₁ B hml hv
  obtain ⟨hargs, hsz, hP, hJ, hE⟩ := hv
  subst hsz
  have hx := B.exec
  have hb := B.bytes
  have hr := B.returns
  have hlocks := B.notSynchronized
  have hts := atoms_spec (ws := wsW yL_remove cL_remove 3 (some .int) [(0, 5, 8, 25)]) B.pre
  have hown : s.vm.findClass RL = some m.cls := findClass_of_methodNamed B.named
  have htab : c.exceptionTable.toList = [⟨0, 5, 8, 25⟩] := vx_table (x := yL_take) B (hts _ List.mem_cons_self)
  have C0 : CallFix p m c cL_remove 3 s args (wsW yL_remove cL_remove 3 (some .int) [(0, 5, 8, 25)]) RL := ⟨hx, hb, hml, hown, hts⟩
  have hT : ∀ w ∈ bw, w ∈ wsW yL_remove cL_remove 3 (some .int) [(0, 5, 8, 25)] := fun w h => List.mem_cons_of_mem _ h
  have hS : va_S (ax_A 90 ad s.heap.size) s.heap s.heap [] := va_S.rf
  have hA : ∀ i, i < 90 → ax_A 90 ad s.heap.size (ad i) := fun i hi => ax_Ai hi
  have hN : ∀ q, s.heap.size ≤ q → ax_A 90 ad s.heap.size q := fun q h => ax_An h
  rw [show entryFrame m args 3 = entryFrame m ([.ref (ad 76), .int x1] : List Value).toArray 3 by rw [hargs]]
  have hl := lv_entry ([.ref (ad 76), .int x1]) (n := 3) (Nat.le_of_ble_eq_true rfl)
  rw [lg_entry_eq]
  generalize (lg_sl ([.ref (ad 76), .int x1]) ++ List.replicate (3 - (lg_sl ([.ref (ad 76), .int x1])).length) Slot.unset).toArray = ls at hl ⊢
  have hl : lv_has ls 3 [(0, .ref (ad 76)), (1, .int x1)] := hl
  show W p l e rm_L_remove s m args below meth c s.heap [] 0 0 _ _
  refine lv_aload_n hx hb dL_remove_0 rfl (lv_at hl 0 rfl) ?_
  refine lv_iload_n hx hb dL_remove_1 rfl (lv_at hl 1 rfl) ?_
  refine gX_v (k := 1) [.int x1] C0 hT hJ hE hA hN (met_X7_remove l dC dI cyI cyE tC ad st.1 x1 res hf) hP hS mc_X7_remove ml_L_30 mi_X7_remove ms_X7_remove mz_X7 (by decide +kernel) ⟨rfl, rfl⟩ ⟨by decide, by decide⟩ rfl rfl hl.1 (Nat.le_of_ble_eq_true rfl) dL_remove_2 ⟨Nat.le_of_ble_eq_true rfl, Nat.le_of_ble_eq_true rfl⟩ (fun K σ1 ce q9 H1 locs1 hres hP hS h1 h2 h3 => ?_) (fun σ1 H1 locs1 hres hP hS => ?_)
  · subst hres
    rcases hk K rfl with rfl
    refine cx_catch (own := RL) (name := "java/lang/IndexOutOfBoundsException") (E := "java/lang/IndexOutOfBoundsException") hown [] ⟨0, 5, 8, 25⟩ [] htab (fun z hz => absurd hz List.not_mem_nil) (by decide) (by decide) (C0.2.2.2.2 _ (hT _ mq_L_25)) (va_Nw.use rfl (hE.2.1.2.2.2.2.2 "java/lang/IndexOutOfBoundsException" (by decide))) h1 h2 h3 ?_
    refine lv_astore_n (lv' := [(2, .ref q9), (0, .ref (ad 76)), (1, .int x1)]) hx hb dL_remove_8 rfl hl (by decide) rfl (fun ls hl => ?_)
    refine lv_iconst (v := 1) hx hb dL_remove_9 (by decide) ?_
    exact lL_ret hx hb hr hlocks hP hS dL_remove_10 rfl rfl
  · subst hres
    refine lv_goto (tgt := 11) hx hb dL_remove_5 (by decide) ?_
    refine lv_iconst (v := 0) hx hb dL_remove_11 (by decide) ?_
    exact lL_ret hx hb hr hlocks hP hS dL_remove_12 rfl rfl
def rm_L_read : Room := { frames := 7, cells := 1, slots := 6, locals := 177 }
def ks_read : Nat → Int32 := fun k => if k = 1 then 1 else 0
set_option maxHeartbeats 4000000 in
set_option maxRecDepth 100000 in
theorem met_L_read (l : Launch) (dC : Nat → ClassId) (dI : Nat → Nat → Nat) (cyI cyE cyL : ClassId) (tC : Nat) (ad : Nat → Nat) (st : SL) (res : (Int32 ⊕ Nat) × SD) (hf : f_X7_read st.1 = some res) (hk : ∀ k, res.1 = .inr k → k = 1) : ax_H l dC dI cyI cyE cyL tC ad yL_read cL_read 3 [(0, 8, 11, 19)] rm_L_read [.ref (ad 76), .ref (ad 89)] st (lk_of ks_read res.1) (res.2, st.2.1, lo_of st.2.2 res.1) := by
  intro sz
  refine va_MetW (cc := cL_read) (maxL := 3) (ret := some .int) (hh := [(0, 8, 11, 19)]) (by decide) rfl ?_
  intro p e s m args below meth c s₁ B hml hv
  obtain ⟨hargs, hsz, hP, hJ, hE⟩ := hv
  subst hsz
  have hx := B.exec
  have hb := B.bytes
  have hr := B.returns
  have hlocks := B.notSynchronized
  have hts := atoms_spec (ws := wsW yL_read cL_read 3 (some .int) [(0, 8, 11, 19)]) B.pre
  have hown : s.vm.findClass RL = some m.cls := findClass_of_methodNamed B.named
  have htab : c.exceptionTable.toList = [⟨0, 8, 11, 19⟩] := vx_table (x := yL_take) B (hts _ List.mem_cons_self)
  have C0 : CallFix p m c cL_read 3 s args (wsW yL_read cL_read 3 (some .int) [(0, 8, 11, 19)]) RL := ⟨hx, hb, hml, hown, hts⟩
  have hT : ∀ w ∈ bw, w ∈ wsW yL_read cL_read 3 (some .int) [(0, 8, 11, 19)] := fun w h => List.mem_cons_of_mem _ h
  have hS : va_S (ax_A 90 ad s.heap.size) s.heap s.heap [] := va_S.rf
  have hA : ∀ i, i < 90 → ax_A 90 ad s.heap.size (ad i) := fun i hi => ax_Ai hi
  have hN : ∀ q, s.heap.size ≤ q → ax_A 90 ad s.heap.size q := fun q h => ax_An h
  rw [show entryFrame m args 3 = entryFrame m ([.ref (ad 76), .ref (ad 89)] : List Value).toArray 3 by rw [hargs]]
  have hl := lv_entry ([.ref (ad 76), .ref (ad 89)]) (n := 3) (Nat.le_of_ble_eq_true rfl)
  rw [lg_entry_eq]
  generalize (lg_sl ([.ref (ad 76), .ref (ad 89)]) ++ List.replicate (3 - (lg_sl ([.ref (ad 76), .ref (ad 89)])).length) Slot.unset).toArray = ls at hl ⊢
  have hl : lv_has ls 3 [(0, .ref (ad 76)), (1, .ref (ad 89))] := hl
  show W p l e rm_L_read s m args below meth c s.heap [] 0 0 _ _
  refine lv_aload_n hx hb dL_read_0 rfl (lv_at hl 1 rfl) ?_
  refine lv_iconst (v := 0) hx hb dL_read_1 (by decide) ?_
  refine lv_aload_n hx hb dL_read_2 rfl (lv_at hl 0 rfl) ?_
  refine gX_i (k := 0) [] C0 hT hJ hE hA hN (met_X7_read l dC dI cyI cyE tC ad st.1 res hf) hP hS mc_X7_read ml_L_33 mi_X7_read ms_X7_read mz_X7 (by decide +kernel) ⟨rfl, rfl⟩ ⟨by decide, by decide⟩ rfl rfl hl.1 (Nat.le_of_ble_eq_true rfl) dL_read_3 ⟨Nat.le_of_ble_eq_true rfl, Nat.le_of_ble_eq_true rfl⟩ (fun K σ1 ce q9 H1 locs1 hres hP hS h1 h2 h3 => ?_) (fun v σ1 H1 locs1 hres hP hS => ?_)
  · subst hres
    rcases hk K rfl with rfl
    refine cx_catch (own := RL) (name := "java/lang/IllegalArgumentException") (E := "java/lang/IllegalArgumentException") hown [] ⟨0, 8, 11, 19⟩ [] htab (fun z hz => absurd hz List.not_mem_nil) (by decide) (by decide) (C0.2.2.2.2 _ (hT _ mq_L_19)) (va_Nw.use rfl (hE.2.1.2.2.2.2.2 "java/lang/IllegalArgumentException" (by decide))) h1 h2 h3 ?_
    refine lv_astore_n (lv' := [(2, .ref q9), (0, .ref (ad 76)), (1, .ref (ad 89))]) hx hb dL_read_11 rfl hl (by decide) rfl (fun ls hl => ?_)
    refine lv_iconst (v := 1) hx hb dL_read_12 (by decide) ?_
    exact lL_ret hx hb hr hlocks hP hS dL_read_13 rfl rfl
  · subst hres
    refine lv_i2l hx hb dL_read_6 rfl ?_
    refine lL_st C0 hE.2.2.1 hJ hA hP hS dL_read_7 (fun H2 locs2 hP hS => ?_)
    refine lv_goto (tgt := 14) hx hb dL_read_8 (by decide) ?_
    refine lv_iconst (v := 0) hx hb dL_read_14 (by decide) ?_
    exact lL_ret hx hb hr hlocks hP hS dL_read_15 rfl rfl
