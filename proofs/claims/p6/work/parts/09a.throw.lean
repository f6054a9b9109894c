abbrev ax_txt : List (Nat × String) := [(68, "the tape would be too long"), (78, "no name"), (81, "too many bytes for a file"), (87, "another file has that name"), (92, "no room for the file"), (107, "no such file"), (110, "no room for the bytes"), (145, "the tape is no whole archive")]
abbrev ax_decl : List MethodName := [⟨"java/lang/RuntimeException", "<init>", "(Ljava/lang/String;)V"⟩, ⟨"java/lang/Exception", "<init>", "(Ljava/lang/String;)V"⟩, ⟨"java/lang/Throwable", "<init>", "(Ljava/lang/String;)V"⟩]
abbrev ax_cast : List String := ["java/lang/IllegalStateException", "java/lang/IllegalArgumentException", "java/lang/IndexOutOfBoundsException"]
abbrev ax_sup : List String := ["java/lang/RuntimeException", "java/lang/Exception"]
def exN (k : Nat) : String := ax_cast.getD k ""
def ax_envX (l : Launch) (A : Nat → Prop) (U : State) (H : Heap) : Prop :=
  l.stackTraces = false ∧ vx_Zq Bundle.tN "UNASSIGNED_STACK" Bundle.steD A U H ∧ vx_Zq Bundle.tN "SUPPRESSED_SENTINEL" Bundle.listD A U H ∧ (∀ q ∈ ax_txt, ∃ sa, vk_R RX7 q.1 q.2 sa U) ∧ (∀ x ∈ ax_decl, va_Nw (.declares x) U) ∧ ∀ C ∈ ax_cast, va_Nw (.castable C C) U
theorem ax_envX.blind {l : Launch} {A : Nat → Prop} {U U' : State} {H : Heap} (h : ax_envX l A U H) (hvm : U.vm = U'.vm) : ax_envX l A U' H :=
  have hal : U.vm.Alike U'.vm := by rw [hvm]; exact Vm.Alike.refl _
  ⟨h.1, h.2.1.moved hal, h.2.2.1.moved hal, fun q hq => (h.2.2.2.1 q hq).elim fun sa k => ⟨sa, k.same hvm.symm⟩, fun x hx => va_tabs rfl hvm (h.2.2.2.2.1 x hx), fun C hC => va_tabs rfl hvm (h.2.2.2.2.2 C hC)⟩
theorem ax_declW {x : MethodName} {s U : State} (hW : s.WarmedH U.vm) (hZ : va_Nw (.declares x) s) : va_Nw (.declares x) U := va_tabs rfl (rfl : (s.setVm U.vm).vm = U.vm) (by rw [Cond.declares_setVm hW.alike]; exact hZ)
theorem ax_envX.call {l : Launch} {A B : Nat → Prop} {s U : State} {H : Heap} {locs : List Loc} (h : ax_envX l A s s.heap) (hW : s.WarmedH U.vm) (hS : va_S A s.heap H locs) (hB : ∀ q, B q → A q) : ax_envX l B U H :=
  ⟨h.1, ((h.2.1.moved hW.alike).kept hS.2.1).narrow hB, ((h.2.2.1.moved hW.alike).kept hS.2.1).narrow hB, fun q hq => (h.2.2.2.1 q hq).elim fun sa k => ⟨sa, k.warm hW⟩, fun x hx => ax_declW hW (h.2.2.2.2.1 x hx), fun C hC => va_Nw.warmC hW (h.2.2.2.2.2 C hC)⟩
/-- what a throwing method ends in: the answer or the exception's number, and the world -/
def ax_Xi (l : Launch) (dC : Nat → ClassId) (dI : Nat → Nat → Nat) (cyI cyE : ClassId) (tC : Nat) (ad : Nat → Nat) (y : MethodName) (cc : ByteArray) (nL : Nat) (ret : Option FieldType) (rm : Room) (vs : List Value) (σ : SD) (res : (Int32 ⊕ Nat) × SD) : Prop :=
  ∀ sz, vx_Met l y (wsY y cc nL ret) rm (va_Pc vs (fun U => ax_pre dC dI cyI cyE tC 77 (cD cyI cyE ad) ad σ sz U ∧ ax_envX l (ax_A 77 ad sz) U U.heap)) (va_Qi (fun (a : Int32) (u : SD) => res = (.inl a, u)) (ax_B dC dI 77 (cD cyI cyE ad) ad) (ax_A 77 ad sz)) (vx_X (fun u : Nat × SD => res = (.inr u.1, u.2)) (fun E u t => E = exN u.1 ∧ ax_B dC dI 77 (cD cyI cyE ad) ad u.2 t) (ax_A 77 ad sz)) 1 6 (ax_A 77 ad sz)
def ax_Xv (l : Launch) (dC : Nat → ClassId) (dI : Nat → Nat → Nat) (cyI cyE : ClassId) (tC : Nat) (ad : Nat → Nat) (y : MethodName) (cc : ByteArray) (nL : Nat) (ret : Option FieldType) (rm : Room) (vs : List Value) (σ : SD) (res : (Unit ⊕ Nat) × SD) : Prop :=
  ∀ sz, vx_Met l y (wsY y cc nL ret) rm (va_Pc vs (fun U => ax_pre dC dI cyI cyE tC 77 (cD cyI cyE ad) ad σ sz U ∧ ax_envX l (ax_A 77 ad sz) U U.heap)) (va_Qv (fun (u : SD) => res = (.inl (), u)) (ax_B dC dI 77 (cD cyI cyE ad) ad) (ax_A 77 ad sz)) (vx_X (fun u : Nat × SD => res = (.inr u.1, u.2)) (fun E u t => E = exN u.1 ∧ ax_B dC dI 77 (cD cyI cyE ad) ad u.2 t) (ax_A 77 ad sz)) 1 6 (ax_A 77 ad sz)
section AXT
variable {p : Program} {l : Launch} {e : Env} {R : Room} {s : State} {m : MethodId} {args : Array Value} {below : List Frame} {meth : Method} {c : Code} {H : Heap} {locs : List Loc}
variable {dC : Nat → ClassId} {dI : Nat → Nat → Nat} {cyI cyE : ClassId} {tC : Nat} {ad : Nat → Nat} {XC : String → State → State → Prop} {Qc : Array Value → State → Outcome → State → Prop}
variable {cc : ByteArray} {nL pc : Nat} {ls : Array Slot} {rest : List Value} {Ts : List Cond}
theorem tx_throw {A : Nat → Prop} {cls text : String} {ik is ic : Nat} (C0 : CallFix p m c cc nL s args Ts RX7) (hT : ∀ w ∈ bw, w ∈ Ts) (hX : ax_envX l A s s.heap) (hS : va_S A s.heap H locs) (hsz : ls.size = nL) (hlocks : meth.locks = false) (htab : ∀ x ∈ c.exceptionTable.toList, False)
    (hcls : Bundle.fit cls = true) (hk : Cond.classLink RX7 ik cls ∈ bw) (hini : Cond.initialized cls ∈ bw) (htx : (is, text) ∈ ax_txt) (hcast : cls ∈ ax_cast)
    (hgw : ∀ w ∈ (vx_atS RX7 ic cls ax_sup).filter goodWord, w ∈ lw_tbl) (hbw : ∀ w ∈ (vx_atS RX7 ic cls ax_sup).filter (fun w => !goodWord w), w ∈ Cond.castable cls cls :: ax_decl.map Cond.declares)
    (hgood : ∀ w ∈ Cond.classLink RX7 ik cls :: Cond.initialized cls :: vx_atS RX7 ic cls ax_sup, vx_ot w = true)
    (d0 : decode cc pc = .ok (.new ik, 3)) (d3 : decode cc (pc + 3) = .ok (.dup, 1)) (d4 : decode cc (pc + 4) = .ok (.ldc is, 2)) (d6 : decode cc (pc + 6) = .ok (.invokespecial ic, 3)) (d9 : decode cc (pc + 9) = .ok (.athrow, 1))
    (hfr : 5 < R.frames) (hlo : (rest.map fun v => v.category).sum + 82 ≤ R.locals) (hce : 1 ≤ R.cells) (hsl : 6 ≤ R.slots)
    (hx : ∀ t : State, s.vm.Alike t.vm → H.size ≤ t.heap.size → (∀ q : Nat, q < H.size → t.heap[q]? = H[q]?) → XC cls s t) :
    W p l e R s m args below meth c H locs 0 0 (vx_MQ below Qc XC args s 1 6 A) (F0 m pc ls rest) := by
  obtain ⟨hl0, hU, hN, htxt, hdec, hcas⟩ := hX
  obtain ⟨sa, hsa⟩ := htxt _ htx
  refine vx_throwS C0.1 C0.2.1 hl0 C0.2.2.2.1 hcls (names := ax_sup) (by decide) (C0.2.2.2.2 _ (hT _ hk)) (C0.2.2.2.2 _ (hT _ hini)) hsa ?_ hgood hU hN hS (hsz.trans C0.2.2.1.symm) d0 d3 d4 d6 d9 (fun x h => (htab x h).elim) hfr hlo (by omega) (by omega) hlocks hx hS.2.2 (by omega) (by omega)
  refine vx_hat (B := Cond.castable cls cls :: ax_decl.map Cond.declares) (fun w hw => C0.2.2.2.2 _ (hT _ (List.mem_filter.mpr ⟨hgw w hw, (List.mem_filter.mp hw).2⟩))) hbw (fun w hw => ?_)
  rcases List.mem_cons.mp hw with rfl | hw
  · exact va_Nw.use rfl (hcas _ hcast)
  · obtain ⟨x, hx, rfl⟩ := List.mem_map.mp hw
    exact va_Nw.use rfl (hdec x hx)
end AXT
theorem mq_0 : Cond.classLink RX7 66 "java/lang/IllegalStateException" ∈ bw := bw_mem 567 (by decide +kernel) (by decide +kernel)
theorem mx_0 : Cond.initialized "java/lang/IllegalStateException" ∈ bw := bw_mem 64 (by decide +kernel) (by decide +kernel)
set_option maxRecDepth 20000 in
theorem xg_0 : ∀ w ∈ (vx_atS RX7 70 "java/lang/IllegalStateException" ax_sup).filter goodWord, w ∈ lw_tbl := by decide +kernel
theorem xb_0 : ∀ w ∈ (vx_atS RX7 70 "java/lang/IllegalStateException" ax_sup).filter (fun w => !goodWord w), w ∈ Cond.castable "java/lang/IllegalStateException" "java/lang/IllegalStateException" :: ax_decl.map Cond.declares := by decide +kernel
theorem xo_0 : ∀ w ∈ Cond.classLink RX7 66 "java/lang/IllegalStateException" :: Cond.initialized "java/lang/IllegalStateException" :: vx_atS RX7 70 "java/lang/IllegalStateException" ax_sup, vx_ot w = true := by decide +kernel
theorem mq_1 : Cond.classLink RX7 76 "java/lang/IllegalArgumentException" ∈ bw := bw_mem 644 (by decide +kernel) (by decide +kernel)
theorem mx_1 : Cond.initialized "java/lang/IllegalArgumentException" ∈ bw := bw_mem 65 (by decide +kernel) (by decide +kernel)
set_option maxRecDepth 20000 in
theorem xg_1 : ∀ w ∈ (vx_atS RX7 80 "java/lang/IllegalArgumentException" ax_sup).filter goodWord, w ∈ lw_tbl := by decide +kernel
theorem xb_1 : ∀ w ∈ (vx_atS RX7 80 "java/lang/IllegalArgumentException" ax_sup).filter (fun w => !goodWord w), w ∈ Cond.castable "java/lang/IllegalArgumentException" "java/lang/IllegalArgumentException" :: ax_decl.map Cond.declares := by decide +kernel
theorem xo_1 : ∀ w ∈ Cond.classLink RX7 76 "java/lang/IllegalArgumentException" :: Cond.initialized "java/lang/IllegalArgumentException" :: vx_atS RX7 80 "java/lang/IllegalArgumentException" ax_sup, vx_ot w = true := by decide +kernel
theorem mq_2 : Cond.classLink RX7 105 "java/lang/IndexOutOfBoundsException" ∈ bw := bw_mem 671 (by decide +kernel) (by decide +kernel)
theorem mx_2 : Cond.initialized "java/lang/IndexOutOfBoundsException" ∈ bw := bw_mem 67 (by decide +kernel) (by decide +kernel)
set_option maxRecDepth 20000 in
theorem xg_2 : ∀ w ∈ (vx_atS RX7 109 "java/lang/IndexOutOfBoundsException" ax_sup).filter goodWord, w ∈ lw_tbl := by decide +kernel
theorem xb_2 : ∀ w ∈ (vx_atS RX7 109 "java/lang/IndexOutOfBoundsException" ax_sup).filter (fun w => !goodWord w), w ∈ Cond.castable "java/lang/IndexOutOfBoundsException" "java/lang/IndexOutOfBoundsException" :: ax_decl.map Cond.declares := by decide +kernel
theorem xo_2 : ∀ w ∈ Cond.classLink RX7 105 "java/lang/IndexOutOfBoundsException" :: Cond.initialized "java/lang/IndexOutOfBoundsException" :: vx_atS RX7 109 "java/lang/IndexOutOfBoundsException" ax_sup, vx_ot w = true := by decide +kernel
