section AXU
variable {p : Program} {l : Launch} {e : Env} {R : Room} {s : State} {m : MethodId} {args : Array Value} {below : List Frame} {meth : Method} {c : Code} {H : Heap} {locs : List Loc}
variable {dC : Nat → ClassId} {dI : Nat → Nat → Nat} {n : Nat} {ad : Nat → Nat} {XC : String → State → State → Prop}
variable {cc : ByteArray} {pc : Nat} {ls : Array Slot} {S : Type} {cf : S → Nat → va_E} {σ : S}
theorem ax_iretX {v : Int32} {ty : FieldType} {post : Int32 → S → Prop} (hx : p.tables.exec = Jvm.exec) (hb : c.code = cc) (hr : meth.sig.returnType = some ty) (hlocks : meth.locks = false) (hn : narrow ty (.int v) = .int v)
    (hP : va_P (dC, dI) vwCl (ax_w n ad (cf σ)) H) (hS : va_S (ax_A n ad s.heap.size) s.heap H locs) (hdg : decode cc pc = .ok (.ireturn, 1)) (hp : post v σ) :
    W p l e R s m args below meth c H locs 0 0 (vx_MQ below (va_Qi post (ax_B dC dI n cf ad) (ax_A n ad s.heap.size)) XC args s 1 6 (ax_A n ad s.heap.size)) (F0 m pc ls [.int v]) := by
  refine vx_ret (W.widen (k := 1) (n := 6) (by omega) (by omega) ?_)
  exact W.zret hx hb hr hn (fun t ht hW => ⟨⟨_, _, rfl, hp, by show va_P _ _ _ t.heap; rw [ht]; exact hP⟩, hS.F ht⟩) hS.2.2 hdg hlocks
theorem ax_vretX {post : S → Prop} (hx : p.tables.exec = Jvm.exec) (hb : c.code = cc) (hr : meth.sig.returnType = none) (hlocks : meth.locks = false)
    (hP : va_P (dC, dI) vwCl (ax_w n ad (cf σ)) H) (hS : va_S (ax_A n ad s.heap.size) s.heap H locs) (hdg : decode cc pc = .ok (.return_, 1)) (hp : post σ) :
    W p l e R s m args below meth c H locs 0 0 (vx_MQ below (va_Qv post (ax_B dC dI n cf ad) (ax_A n ad s.heap.size)) XC args s 1 6 (ax_A n ad s.heap.size)) (F0 m pc ls []) := by
  refine vx_ret (W.widen (k := 1) (n := 6) (by omega) (by omega) ?_)
  exact W.vret hx hb hr (fun t ht hW => ⟨⟨_, rfl, hp, by show va_P _ _ _ t.heap; rw [ht]; exact hP⟩, hS.F ht⟩) hS.2.2 hdg hlocks
end AXU
