def ok_take (r : Int32 ⊕ Nat) : Bool := match r with | .inl _ => true | .inr k => decide (k = 0)
theorem okk_take {r : Int32 ⊕ Nat} (h : ok_take r = true) : ∀ k, r = .inr k → k = 0 := by
  intro k e
  subst e
  exact of_decide_eq_true h
def ok_add (r : Int32 ⊕ Nat) : Bool := match r with | .inl _ => true | .inr k => decide (k = 1 ∨ k = 0)
theorem okk_add {r : Int32 ⊕ Nat} (h : ok_add r = true) : ∀ k, r = .inr k → k = 1 ∨ k = 0 := by
  intro k e
  subst e
  exact of_decide_eq_true h
def ok_replace (r : Unit ⊕ Nat) : Bool := match r with | .inl _ => true | .inr k => decide (k = 2 ∨ k = 1 ∨ k = 0)
theorem okk_replace {r : Unit ⊕ Nat} (h : ok_replace r = true) : ∀ k, r = .inr k → k = 2 ∨ k = 1 ∨ k = 0 := by
  intro k e
  subst e
  exact of_decide_eq_true h
def ok_rename (r : Unit ⊕ Nat) : Bool := match r with | .inl _ => true | .inr k => decide (k = 2 ∨ k = 1 ∨ k = 0)
theorem okk_rename {r : Unit ⊕ Nat} (h : ok_rename r = true) : ∀ k, r = .inr k → k = 2 ∨ k = 1 ∨ k = 0 := by
  intro k e
  subst e
  exact of_decide_eq_true h
def ok_remove (r : Unit ⊕ Nat) : Bool := match r with | .inl _ => true | .inr k => decide (k = 2)
theorem okk_remove {r : Unit ⊕ Nat} (h : ok_remove r = true) : ∀ k, r = .inr k → k = 2 := by
  intro k e
  subst e
  exact of_decide_eq_true h
def ok_read (r : Int32 ⊕ Nat) : Bool := match r with | .inl _ => true | .inr k => decide (k = 1)
theorem okk_read {r : Int32 ⊕ Nat} (h : ok_read r = true) : ∀ k, r = .inr k → k = 1 := by
  intro k e
  subst e
  exact of_decide_eq_true h
section LWD
variable {p : Program} {l : Launch} {e : Env} {R : Room} {s : State} {m : MethodId} {args : Array Value} {below : List Frame} {meth : Method} {c : Code} {H : Heap} {locs : List Loc} {cells slots : Nat} {Q : State → Prop}
theorem lL_ld {dC : Nat → ClassId} {dI : Nat → Nat → Nat} {cyI cyE cyL : ClassId} {ad : Nat → Nat} {st : SL} {cc : ByteArray} {nL pc : Nat} {ls : Array Slot} {Ts : List Cond} {own : String} {rest : List Value} (C0 : CallFix p m c cc nL s args Ts own) (hK : va_K (dC, dI) vwCl [(cyL, .long)] s) (hP : va_P (dC, dI) vwCl (ax_w 90 ad (cL cyI cyE cyL ad st)) H) (hdg : decode cc pc = .ok (.laload, 1))
    (kk : W p l e R s m args below meth c H locs cells slots Q (F0 m (pc + 1) ls (.long (st.2.2 0) :: rest))) : W p l e R s m args below meth c H locs cells slots Q (F0 m pc ls (.int 0 :: .ref (ad 89) :: rest)) :=
  va_lald C0.1 C0.2.1 hK hP 89 0 (ax_at (by decide) cL_3) rfl (i := 0) (by unfold vp_in; decide) hdg kk
end LWD
/-! THE CLAIM OUT OF ONE WALK OF THE LAW'S BODY. Your part is whole_start (and what it stands on); all else here is the same for every law, but numbers. -/
def R_law : String := "ArchiveDeskLaw"
def lw_P (b : Addr) (xs : List Int32) (args : Array Value) (s : State) : Prop := args = #[.ref b] ∧ s.IntsAt b xs ∧ xs.length ≤ 3072 ∧ (Jvm.Cond.and given_1 narrow_1).before args s = true
def lw_Q (_ : Array Value) (s : State) (o : Outcome) (t : State) : Prop := o = .returned (some (.int 1)) ∧ Framed s o t [] 601024 7293034
def lw_Z (below : List Frame) (a : Array Value) (s : State) : State → Prop := fun t => ∃ o, t.status = .running ∧ Ended t below o ∧ lw_Q a s o t
/-- the law's own end, with 1 on the stack, nothing written that was there before, its room as the claim has it -/
theorem lw_ret {p : Program} {l : Launch} {e : Env} {s : State} {m : MethodId} {below : List Frame} {meth : Method} {c : Code} {b : Nat} (hx : p.tables.exec = Jvm.exec) (hb : c.code = code) (hr : meth.sig.returnType = ret) (hlocks : meth.locks = false) {pc : Nat} {H : Heap} {ls : Array Slot} (hdg : decode code pc = .ok (.ireturn, 1)) : W p l e room_1 s m #[Value.ref b] below meth c H [] 601024 7293034 (lw_Z below #[Value.ref b] s) (F0 m pc ls [.int 1]) := by
  intro T hT X
  obtain ⟨fs, hret, hrun, hended, hW, hframe⟩ := X.leave (v := some (.int 1)) (hlocks := hlocks) (fun h => by rw [hr] at h; cases h)
  have hmeth' : T.vm.method? m = some meth := X.method'
  refine ⟨T.setFrames fs, ?_, .returned (some (.int 1)), hrun, hended, rfl, ⟨_, rfl⟩, hW, hframe⟩
  jvm_step X.here [X.here.top, hx, hb, hdg, hmeth', hr, ret, narrow_b1]
  (try refine ⟨rfl, ?_⟩); (try refine ⟨rfl, ?_⟩)
  first | (intro acts; rw [hret _ acts rfl rfl rfl]) | rw [hret _ _ rfl rfl rfl]
  exact Steps.refl _
/-- what holds at the law's entry: the machine, the code, the tables' words (any of lw_tbl by 'hts w (by decide +kernel)'), the script of L ints xs at the cell b, what the Statement gives of the start (any of its parts by flat_of_before) -/
def lw_At (p : Program) (s : State) (m : MethodId) (meth : Method) (c : Code) (b L : Nat) (xs : Nat → Int32) : Prop :=
  p.tables.exec = Jvm.exec ∧ c.code = code ∧ meth.sig.returnType = ret ∧ c.maxLocals = 7 ∧ s.vm.findClass R_law = some m.cls ∧ (∀ w ∈ lw_tbl, w.before #[Value.ref b] s = true) ∧ va_X b L xs s s.heap ∧ b < s.heap.size ∧ meth.locks = false ∧ (Jvm.Cond.and given_1 narrow_1).before #[Value.ref b] s = true
def f_L_law_23 (L : Nat) (xs : Nat → Int32) : Nat → SL → Int32 → Option Unit
  | 0, _, _ => none
  | n + 1, st, x4 => if ((Int32.ofNat L) - 6) < x4 then (some ()) else (if inb x4 L = true then (if ((xs x4.toNatClampNeg) &&& 31).toInt < 0 ∨ 20 < ((xs x4.toNatClampNeg) &&& 31).toInt then (f_L_law_23 L xs n st (x4 + 6)) else (if ((xs x4.toNatClampNeg) &&& 31) = 0 then (if inb (x4 + 1) L = true then (if inb (x4 + 2) L = true then (if inb (x4 + 3) L = true then (if inb (x4 + 4) L = true then (if inb (x4 + 5) L = true then ((f_X7_feed st.1 (xs (x4 + 1).toNatClampNeg) (xs (x4 + 2).toNatClampNeg) (xs (x4 + 3).toNatClampNeg) (xs (x4 + 4).toNatClampNeg) (xs (x4 + 5).toNatClampNeg)).bind fun q171 => if inb (x4 + 1) L = true then (if inb (x4 + 2) L = true then (if inb (x4 + 3) L = true then (if inb (x4 + 4) L = true then (if inb (x4 + 5) L = true then ((f_X8_feed (q171, st.2).2.1 (xs (x4 + 1).toNatClampNeg) (xs (x4 + 2).toNatClampNeg) (xs (x4 + 3).toNatClampNeg) (xs (x4 + 4).toNatClampNeg) (xs (x4 + 5).toNatClampNeg)).bind fun q205 => f_L_law_23 L xs n ((q171, st.2).1, q205, (q171, st.2).2.2) (x4 + 6)) else none) else none) else none) else none) else none) else none) else none) else none) else none) else none) else (if ((xs x4.toNatClampNeg) &&& 31) = 1 then (if inb (x4 + 1) L = true then (if inb (x4 + 2) L = true then ((f_X7_end st.1 (xs (x4 + 1).toNatClampNeg) (xs (x4 + 2).toNatClampNeg)).bind fun q224 => if inb (x4 + 1) L = true then (if inb (x4 + 2) L = true then ((f_X8_end (q224.2, st.2).2.1 (xs (x4 + 1).toNatClampNeg) (xs (x4 + 2).toNatClampNeg)).bind fun q241 => f_L_law_23 L xs n ((q224.2, st.2).1, q241.2, (q224.2, st.2).2.2) (x4 + 6)) else none) else none) else none) else none) else (if ((xs x4.toNatClampNeg) &&& 31) = 2 then (if inb (x4 + 1) L = true then ((f_X7_cut st.1 (xs (x4 + 1).toNatClampNeg)).bind fun q255 => if inb (x4 + 1) L = true then ((f_X8_cut (q255.2, st.2).2.1 (xs (x4 + 1).toNatClampNeg)).bind fun q266 => f_L_law_23 L xs n ((q255.2, st.2).1, q266.2, (q255.2, st.2).2.2) (x4 + 6)) else none) else none) else (if ((xs x4.toNatClampNeg) &&& 31) = 3 then (if inb (x4 + 1) L = true then ((f_X7_drop st.1 (xs (x4 + 1).toNatClampNeg)).bind fun q280 => if inb (x4 + 1) L = true then ((f_X8_drop (q280.2, st.2).2.1 (xs (x4 + 1).toNatClampNeg)).bind fun q291 => f_L_law_23 L xs n ((q280.2, st.2).1, q291.2, (q280.2, st.2).2.2) (x4 + 6)) else none) else none) else (if ((xs x4.toNatClampNeg) &&& 31) = 4 then (if inb (x4 + 1) L = true then (if inb (x4 + 2) L = true then ((f_X7_flip st.1 (xs (x4 + 1).toNatClampNeg) (xs (x4 + 2).toNatClampNeg)).bind fun q311 => if inb (x4 + 1) L = true then (if inb (x4 + 2) L = true then ((f_X8_flip (q311.2, st.2).2.1 (xs (x4 + 1).toNatClampNeg) (xs (x4 + 2).toNatClampNeg)).bind fun q327 => if q311.1 = q327.1 then (f_L_law_23 L xs n ((q311.2, st.2).1, q327.2, (q311.2, st.2).2.2) (x4 + 6)) else (none)) else none) else none) else none) else none) else (if ((xs x4.toNatClampNeg) &&& 31) = 5 then ((f_X7_take st.1 ).bind fun q337 => if ok_take q337.1 = true then ((f_X8_take (q337.2, st.2.1, lo_of st.2.2 q337.1).2.1 ).bind fun q343 => f_L_law_23 L xs n ((q337.2, st.2.1, lo_of st.2.2 q337.1).1, q343.2, (q337.2, st.2.1, lo_of st.2.2 q337.1).2.2) (x4 + 6)) else none) else (if ((xs x4.toNatClampNeg) &&& 31) = 6 then (if inb (x4 + 1) L = true then ((f_X7_add st.1 (xs (x4 + 1).toNatClampNeg)).bind fun q359 => if ok_add q359.1 = true then (if inb (x4 + 1) L = true then ((f_X8_add (q359.2, st.2.1, lo_of st.2.2 q359.1).2.1 (xs (x4 + 1).toNatClampNeg)).bind fun q371 => f_L_law_23 L xs n ((q359.2, st.2.1, lo_of st.2.2 q359.1).1, q371.2, (q359.2, st.2.1, lo_of st.2.2 q359.1).2.2) (x4 + 6)) else none) else none) else none) else (if ((xs x4.toNatClampNeg) &&& 31) = 7 then (if inb (x4 + 1) L = true then ((f_X7_replace st.1 (xs (x4 + 1).toNatClampNeg)).bind fun q386 => if ok_replace q386.1 = true then (if inb (x4 + 1) L = true then ((f_X8_replace (q386.2, st.2).2.1 (xs (x4 + 1).toNatClampNeg)).bind fun q398 => f_L_law_23 L xs n ((q386.2, st.2).1, q398, (q386.2, st.2).2.2) (x4 + 6)) else none) else none) else none) else (if ((xs x4.toNatClampNeg) &&& 31) = 8 then (if inb (x4 + 1) L = true then ((f_X7_rename st.1 (xs (x4 + 1).toNatClampNeg)).bind fun q411 => if ok_rename q411.1 = true then (if inb (x4 + 1) L = true then ((f_X8_rename (q411.2, st.2).2.1 (xs (x4 + 1).toNatClampNeg)).bind fun q423 => f_L_law_23 L xs n ((q411.2, st.2).1, q423, (q411.2, st.2).2.2) (x4 + 6)) else none) else none) else none) else (if ((xs x4.toNatClampNeg) &&& 31) = 9 then (if inb (x4 + 1) L = true then ((f_X7_remove st.1 (xs (x4 + 1).toNatClampNeg)).bind fun q436 => if ok_remove q436.1 = true then (if inb (x4 + 1) L = true then ((f_X8_remove (q436.2, st.2).2.1 (xs (x4 + 1).toNatClampNeg)).bind fun q448 => f_L_law_23 L xs n ((q436.2, st.2).1, q448, (q436.2, st.2).2.2) (x4 + 6)) else none) else none) else none) else (if ((xs x4.toNatClampNeg) &&& 31) = 10 then ((f_X7_sort st.1 ).bind fun q455 => (f_X8_sort (q455, st.2).2.1 ).bind fun q459 => f_L_law_23 L xs n ((q455, st.2).1, q459, (q455, st.2).2.2) (x4 + 6)) else (if ((xs x4.toNatClampNeg) &&& 31) = 11 then ((f_X7_clear st.1 ).bind fun q466 => (f_X8_clear (q466, st.2).2.1 ).bind fun q470 => f_L_law_23 L xs n ((q466, st.2).1, q470, (q466, st.2).2.2) (x4 + 6)) else (if ((xs x4.toNatClampNeg) &&& 31) = 12 then ((f_X7_make st.1 ).bind fun q477 => (f_X8_make (q477.2, st.2).2.1 ).bind fun q482 => f_L_law_23 L xs n ((q477.2, st.2).1, q482.2, (q477.2, st.2).2.2) (x4 + 6)) else (if ((xs x4.toNatClampNeg) &&& 31) = 13 then ((f_X7_read st.1 ).bind fun q491 => if ok_read q491.1 = true then ((f_X8_read (q491.2, st.2.1, lo_of st.2.2 q491.1).2.1 ).bind fun q497 => f_L_law_23 L xs n ((q491.2, st.2.1, lo_of st.2.2 q491.1).1, q497.2, (q491.2, st.2.1, lo_of st.2.2 q491.1).2.2) (x4 + 6)) else none) else (if ((xs x4.toNatClampNeg) &&& 31) = 14 then (if inb (x4 + 1) L = true then ((f_X7_fault st.1 (xs (x4 + 1).toNatClampNeg)).bind fun q512 => if inb (x4 + 1) L = true then ((f_X8_fault (q512.2, st.2).2.1 (xs (x4 + 1).toNatClampNeg)).bind fun q523 => f_L_law_23 L xs n ((q512.2, st.2).1, q523.2, (q512.2, st.2).2.2) (x4 + 6)) else none) else none) else (if ((xs x4.toNatClampNeg) &&& 31) = 15 then ((f_X7_save st.1 ).bind fun q531 => (f_X8_save (q531.2, st.2).2.1 ).bind fun q536 => f_L_law_23 L xs n ((q531.2, st.2).1, q536.2, (q531.2, st.2).2.2) (x4 + 6)) else (if ((xs x4.toNatClampNeg) &&& 31) = 16 then (if inb (x4 + 1) L = true then (if inb (x4 + 2) L = true then ((f_X7_file st.1 (xs (x4 + 1).toNatClampNeg) (xs (x4 + 2).toNatClampNeg)).bind fun q556 => if inb (x4 + 1) L = true then (if inb (x4 + 2) L = true then ((f_X8_file (q556.2, st.2).2.1 (xs (x4 + 1).toNatClampNeg) (xs (x4 + 2).toNatClampNeg)).bind fun q573 => f_L_law_23 L xs n ((q556.2, st.2).1, q573.2, (q556.2, st.2).2.2) (x4 + 6)) else none) else none) else none) else none) else (if ((xs x4.toNatClampNeg) &&& 31) = 17 then (if inb (x4 + 1) L = true then (if inb (x4 + 2) L = true then (if (xs (x4 + 2).toNatClampNeg) = 0 then (if inb (x4 + 3) L = true then ((f_X7_letter st.1 (xs (x4 + 1).toNatClampNeg) 0 (xs (x4 + 3).toNatClampNeg)).bind fun q607 => if inb (x4 + 1) L = true then (if inb (x4 + 2) L = true then (if (xs (x4 + 2).toNatClampNeg) = 0 then (if inb (x4 + 3) L = true then ((f_X8_letter (q607.2, st.2).2.1 (xs (x4 + 1).toNatClampNeg) 0 (xs (x4 + 3).toNatClampNeg)).bind fun q638 => f_L_law_23 L xs n ((q607.2, st.2).1, q638.2, (q607.2, st.2).2.2) (x4 + 6)) else none) else (if inb (x4 + 3) L = true then ((f_X8_letter (q607.2, st.2).2.1 (xs (x4 + 1).toNatClampNeg) 1 (xs (x4 + 3).toNatClampNeg)).bind fun q638 => f_L_law_23 L xs n ((q607.2, st.2).1, q638.2, (q607.2, st.2).2.2) (x4 + 6)) else none)) else none) else none) else none) else (if inb (x4 + 3) L = true then ((f_X7_letter st.1 (xs (x4 + 1).toNatClampNeg) 1 (xs (x4 + 3).toNatClampNeg)).bind fun q607 => if inb (x4 + 1) L = true then (if inb (x4 + 2) L = true then (if (xs (x4 + 2).toNatClampNeg) = 0 then (if inb (x4 + 3) L = true then ((f_X8_letter (q607.2, st.2).2.1 (xs (x4 + 1).toNatClampNeg) 0 (xs (x4 + 3).toNatClampNeg)).bind fun q638 => f_L_law_23 L xs n ((q607.2, st.2).1, q638.2, (q607.2, st.2).2.2) (x4 + 6)) else none) else (if inb (x4 + 3) L = true then ((f_X8_letter (q607.2, st.2).2.1 (xs (x4 + 1).toNatClampNeg) 1 (xs (x4 + 3).toNatClampNeg)).bind fun q638 => f_L_law_23 L xs n ((q607.2, st.2).1, q638.2, (q607.2, st.2).2.2) (x4 + 6)) else none)) else none) else none) else none)) else none) else none) else (if ((xs x4.toNatClampNeg) &&& 31) = 18 then ((f_X7_find st.1 ).bind fun q646 => (f_X8_find (q646.2, st.2).2.1 ).bind fun q651 => f_L_law_23 L xs n ((q646.2, st.2).1, q651.2, (q646.2, st.2).2.2) (x4 + 6)) else (if ((xs x4.toNatClampNeg) &&& 31) = 19 then (if inb (x4 + 1) L = true then ((f_X7_output st.1 (xs (x4 + 1).toNatClampNeg)).bind fun q665 => if inb (x4 + 1) L = true then ((f_X8_output (q665.2, st.2).2.1 (xs (x4 + 1).toNatClampNeg)).bind fun q676 => f_L_law_23 L xs n ((q665.2, st.2).1, q676.2, (q665.2, st.2).2.2) (x4 + 6)) else none) else none) else (if ((xs x4.toNatClampNeg) &&& 31) = 20 then (if inb (x4 + 1) L = true then ((f_X7_about st.1 (xs (x4 + 1).toNatClampNeg)).bind fun q690 => if inb (x4 + 1) L = true then ((f_X8_about (q690.2, st.2).2.1 (xs (x4 + 1).toNatClampNeg)).bind fun q701 => f_L_law_23 L xs n ((q690.2, st.2).1, q701.2, (q690.2, st.2).2.2) (x4 + 6)) else none) else none) else (none))))))))))))))))))))))) else none)
set_option maxHeartbeats 8000000 in
set_option maxRecDepth 100000 in
theorem law_loop {p : Program} {l : Launch} {e : Env} {s : State} {m : MethodId} {below : List Frame} {meth : Method} {c : Code} {dC : Nat → ClassId} {dI : Nat → Nat → Nat} {cyI cyE cyL : ClassId} {tC : Nat} {ad : Nat → Nat} {b L : Nat} {xs : Nat → Int32} (W0 : lw_At p s m meth c b L xs) (hJ : ax_J 90 ad) (hA : ∀ i, i < 90 → s.heap.size ≤ ad i) (hE : ax_envL l dC dI cyI cyE cyL tC (fun q : Nat => s.heap.size ≤ q) s s.heap) :
    ∀ (n : Nat) (st : SL) (x4 : Int32) (cells slots : Nat), cells + n ≤ 601024 → slots + 6 * n ≤ 7293034 → ∀ (H : Heap) (locs : List Loc) (ls : Array Slot), va_P (dC, dI) vwCl (ax_w 90 ad (cL cyI cyE cyL ad st)) H → va_S (fun q : Nat => s.heap.size ≤ q) s.heap H locs → lv_has ls 7 [(0, .ref b), (1, .ref (ad 76)), (2, .ref (ad (77 + 11))), (3, .ref (ad 89)), (4, .int x4)] → f_L_law_23 L xs n st x4 = some () → W p l e room_1 s m #[Value.ref b] below meth c H locs cells slots (lw_Z below #[Value.ref b] s) (F0 m 23 ls []) := by
  obtain ⟨hx, hb, hr, hml, hown, hts, hX, hbl, hlocks, hgv⟩ := W0
  have hN : ∀ q : Nat, s.heap.size ≤ q → (fun q : Nat => s.heap.size ≤ q) q := fun _ h => h
  have hbA : ¬ (fun q : Nat => s.heap.size ≤ q) b := Nat.not_le.mpr hbl
  have C0 : CallFix p m c cL_law 7 s #[Value.ref b] lw_tbl RL := ⟨hx, hb, hml, hown, hts⟩
  have hT : ∀ w ∈ bw, w ∈ lw_tbl := fun w h => bw_tbl h
  intro n
  induction n with
  | zero =>
    intro st x4 cells slots hcc hss H locs ls hP hS hl hf
    cases hf
  | succ n ih =>
    intro st x4 cells slots hcc hss H locs ls hP hS hl hf
    rw [f_L_law_23] at hf
    refine lv_iload hx hb dL_law_23 (lv_at hl 4 rfl) ?_
    refine lv_aload_n hx hb dL_law_25 rfl (lv_at hl 0 rfl) ?_
    refine va_slen hx hb hX hbl hbA hS dL_law_26 ?_
    refine lv_bipush (v := 6) hx hb dL_law_27 (by decide) ?_
    refine lv_isub hx hb dL_law_29 ?_
    refine lv_icmp_gt (tgt := 714) hx hb dL_law_30 (by decide) (fun h30 => ?_) (fun h30 => ?_)
    · rw [if_pos h30] at hf
      refine lv_iconst (v := 1) hx hb dL_law_714 (by decide) ?_
      refine va_forget (fun q hq => hS.2.2 q hq) ?_
      refine W.widen (k := 601024) (n := 7293034) (by omega) (by omega) ?_
      exact lw_ret hx hb hr hlocks dL_law_715
    · rw [if_neg h30] at hf
      refine lv_aload_n hx hb dL_law_33 rfl (lv_at hl 0 rfl) ?_
      refine lv_iload hx hb dL_law_34 (lv_at hl 4 rfl) ?_
      obtain ⟨hin, hf⟩ := ob_if hf
      refine va_sld hx hb hX hbl hbA hS (inb_in hin) dL_law_36 ?_
      refine lv_bipush (v := 31) hx hb dL_law_37 (by decide) ?_
      refine lv_iand hx hb dL_law_39 ?_
      by_cases h40 : ((xs x4.toNatClampNeg) &&& 31).toInt < 0 ∨ 20 < ((xs x4.toNatClampNeg) &&& 31).toInt
      · rw [if_pos h40] at hf
        refine lv_tableOut (tgt := 708) hx hb dL_law_40 h40 (by decide) ?_
        refine lv_iinc (v := x4 + 6) (lv' := [(4, .int (x4 + 6)), (0, .ref b), (1, .ref (ad 76)), (2, .ref (ad (77 + 11))), (3, .ref (ad 89))]) hx hb dL_law_708 hl (k := 4) rfl rfl (by decide) rfl (fun ls hl => ?_)
        refine lv_goto (tgt := 23) hx hb dL_law_711 (by decide) ?_
        exact ih _ _ (cells) (slots) (by omega) (by omega) _ _ _ hP hS (lv_sub hl [1, 2, 3, 4, 0] rfl) hf
      · rw [if_neg h40] at hf
        by_cases h40_0 : ((xs x4.toNatClampNeg) &&& 31) = 0
        · rw [if_pos h40_0] at hf
          refine lv_tableIn (off := 100) (tgt := 140) hx hb dL_law_40 (fun q => h40 (Or.inl q)) (fun q => h40 (Or.inr q)) (by rw [h40_0]; rfl) (by decide) ?_
          refine lv_aload_n hx hb dL_law_140 rfl (lv_at hl 1 rfl) ?_
          refine lv_aload_n hx hb dL_law_141 rfl (lv_at hl 0 rfl) ?_
          refine lv_iload hx hb dL_law_142 (lv_at hl 4 rfl) ?_
          refine lv_iconst (v := 1) hx hb dL_law_144 (by decide) ?_
          refine lv_iadd hx hb dL_law_145 ?_
          obtain ⟨hin, hf⟩ := ob_if hf
          refine va_sld hx hb hX hbl hbA hS (inb_in hin) dL_law_146 ?_
          refine lv_aload_n hx hb dL_law_147 rfl (lv_at hl 0 rfl) ?_
          refine lv_iload hx hb dL_law_148 (lv_at hl 4 rfl) ?_
          refine lv_iconst (v := 2) hx hb dL_law_150 (by decide) ?_
          refine lv_iadd hx hb dL_law_151 ?_
          obtain ⟨hin, hf⟩ := ob_if hf
          refine va_sld hx hb hX hbl hbA hS (inb_in hin) dL_law_152 ?_
          refine lv_aload_n hx hb dL_law_153 rfl (lv_at hl 0 rfl) ?_
          refine lv_iload hx hb dL_law_154 (lv_at hl 4 rfl) ?_
          refine lv_iconst (v := 3) hx hb dL_law_156 (by decide) ?_
          refine lv_iadd hx hb dL_law_157 ?_
          obtain ⟨hin, hf⟩ := ob_if hf
          refine va_sld hx hb hX hbl hbA hS (inb_in hin) dL_law_158 ?_
          refine lv_aload_n hx hb dL_law_159 rfl (lv_at hl 0 rfl) ?_
          refine lv_iload hx hb dL_law_160 (lv_at hl 4 rfl) ?_
          refine lv_iconst (v := 4) hx hb dL_law_162 (by decide) ?_
          refine lv_iadd hx hb dL_law_163 ?_
          obtain ⟨hin, hf⟩ := ob_if hf
          refine va_sld hx hb hX hbl hbA hS (inb_in hin) dL_law_164 ?_
          refine lv_aload_n hx hb dL_law_165 rfl (lv_at hl 0 rfl) ?_
          refine lv_iload hx hb dL_law_166 (lv_at hl 4 rfl) ?_
          refine lv_iconst (v := 5) hx hb dL_law_168 (by decide) ?_
          refine lv_iadd hx hb dL_law_169 ?_
          obtain ⟨hin, hf⟩ := ob_if hf
          refine va_sld hx hb hX hbl hbA hS (inb_in hin) dL_law_170 ?_
          obtain ⟨q171, hq, hf⟩ := ob_bind hf
          refine gL_Dv (st := st) (k := 5) [.int (xs (x4 + 1).toNatClampNeg), .int (xs (x4 + 2).toNatClampNeg), .int (xs (x4 + 3).toNatClampNeg), .int (xs (x4 + 4).toNatClampNeg), .int (xs (x4 + 5).toNatClampNeg)] C0 hT hJ hE.1 hA hN (met_X7_feed l dC dI cyI cyE tC ad st.1 (xs (x4 + 1).toNatClampNeg) (xs (x4 + 2).toNatClampNeg) (xs (x4 + 3).toNatClampNeg) (xs (x4 + 4).toNatClampNeg) (xs (x4 + 5).toNatClampNeg) _ hq) hP hS mc_X7_feed ml_L_40 mi_X7_feed ms_X7_feed mz_X7 (by decide +kernel) ⟨rfl, rfl⟩ ⟨by decide, by decide⟩ rfl rfl hl.1 (Nat.le_of_ble_eq_true rfl) dL_law_171 ⟨by show cells ≤ 601024; omega, by show slots ≤ 7293034; omega⟩ (fun H locs hP hS => ?_)
          refine lv_aload_n hx hb dL_law_174 rfl (lv_at hl 2 rfl) ?_
          refine lv_aload_n hx hb dL_law_175 rfl (lv_at hl 0 rfl) ?_
          refine lv_iload hx hb dL_law_176 (lv_at hl 4 rfl) ?_
          refine lv_iconst (v := 1) hx hb dL_law_178 (by decide) ?_
          refine lv_iadd hx hb dL_law_179 ?_
          obtain ⟨hin, hf⟩ := ob_if hf
          refine va_sld hx hb hX hbl hbA hS (inb_in hin) dL_law_180 ?_
          refine lv_aload_n hx hb dL_law_181 rfl (lv_at hl 0 rfl) ?_
          refine lv_iload hx hb dL_law_182 (lv_at hl 4 rfl) ?_
          refine lv_iconst (v := 2) hx hb dL_law_184 (by decide) ?_
          refine lv_iadd hx hb dL_law_185 ?_
          obtain ⟨hin, hf⟩ := ob_if hf
          refine va_sld hx hb hX hbl hbA hS (inb_in hin) dL_law_186 ?_
          refine lv_aload_n hx hb dL_law_187 rfl (lv_at hl 0 rfl) ?_
          refine lv_iload hx hb dL_law_188 (lv_at hl 4 rfl) ?_
          refine lv_iconst (v := 3) hx hb dL_law_190 (by decide) ?_
          refine lv_iadd hx hb dL_law_191 ?_
          obtain ⟨hin, hf⟩ := ob_if hf
          refine va_sld hx hb hX hbl hbA hS (inb_in hin) dL_law_192 ?_
          refine lv_aload_n hx hb dL_law_193 rfl (lv_at hl 0 rfl) ?_
          refine lv_iload hx hb dL_law_194 (lv_at hl 4 rfl) ?_
          refine lv_iconst (v := 4) hx hb dL_law_196 (by decide) ?_
          refine lv_iadd hx hb dL_law_197 ?_
          obtain ⟨hin, hf⟩ := ob_if hf
          refine va_sld hx hb hX hbl hbA hS (inb_in hin) dL_law_198 ?_
          refine lv_aload_n hx hb dL_law_199 rfl (lv_at hl 0 rfl) ?_
          refine lv_iload hx hb dL_law_200 (lv_at hl 4 rfl) ?_
          refine lv_iconst (v := 5) hx hb dL_law_202 (by decide) ?_
          refine lv_iadd hx hb dL_law_203 ?_
          obtain ⟨hin, hf⟩ := ob_if hf
          refine va_sld hx hb hX hbl hbA hS (inb_in hin) dL_law_204 ?_
          obtain ⟨q205, hq, hf⟩ := ob_bind hf
          refine gL_Mv (st := (q171, st.2)) (k := 5) [.int (xs (x4 + 1).toNatClampNeg), .int (xs (x4 + 2).toNatClampNeg), .int (xs (x4 + 3).toNatClampNeg), .int (xs (x4 + 4).toNatClampNeg), .int (xs (x4 + 5).toNatClampNeg)] C0 hT hJ hE.1 hA hN (met_X8_feed l dC dI cyI cyE tC (aM ad) (q171, st.2).2.1 (xs (x4 + 1).toNatClampNeg) (xs (x4 + 2).toNatClampNeg) (xs (x4 + 3).toNatClampNeg) (xs (x4 + 4).toNatClampNeg) (xs (x4 + 5).toNatClampNeg) _ hq) hP hS mc_X8_feed ml_L_44 mi_X8_feed ms_X8_feed mz_X8 (by decide +kernel) ⟨rfl, rfl⟩ ⟨by decide, by decide⟩ rfl rfl hl.1 (Nat.le_of_ble_eq_true rfl) dL_law_205 ⟨by show cells ≤ 601024; omega, by show slots ≤ 7293034; omega⟩ (fun H locs hP hS => ?_)
          refine lv_goto (tgt := 708) hx hb dL_law_208 (by decide) ?_
          refine lv_iinc (v := x4 + 6) (lv' := [(4, .int (x4 + 6)), (0, .ref b), (1, .ref (ad 76)), (2, .ref (ad (77 + 11))), (3, .ref (ad 89))]) hx hb dL_law_708 hl (k := 4) rfl rfl (by decide) rfl (fun ls hl => ?_)
          refine lv_goto (tgt := 23) hx hb dL_law_711 (by decide) ?_
          exact ih _ _ (cells) (slots) (by omega) (by omega) _ _ _ hP hS (lv_sub hl [1, 2, 3, 4, 0] rfl) hf
        · rw [if_neg h40_0] at hf
          by_cases h40_1 : ((xs x4.toNatClampNeg) &&& 31) = 1
          · rw [if_pos h40_1] at hf
            refine lv_tableIn (off := 171) (tgt := 211) hx hb dL_law_40 (fun q => h40 (Or.inl q)) (fun q => h40 (Or.inr q)) (by rw [h40_1]; rfl) (by decide) ?_
            refine lv_aload_n hx hb dL_law_211 rfl (lv_at hl 1 rfl) ?_
            refine lv_aload_n hx hb dL_law_212 rfl (lv_at hl 0 rfl) ?_
            refine lv_iload hx hb dL_law_213 (lv_at hl 4 rfl) ?_
            refine lv_iconst (v := 1) hx hb dL_law_215 (by decide) ?_
            refine lv_iadd hx hb dL_law_216 ?_
            obtain ⟨hin, hf⟩ := ob_if hf
            refine va_sld hx hb hX hbl hbA hS (inb_in hin) dL_law_217 ?_
            refine lv_aload_n hx hb dL_law_218 rfl (lv_at hl 0 rfl) ?_
            refine lv_iload hx hb dL_law_219 (lv_at hl 4 rfl) ?_
            refine lv_iconst (v := 2) hx hb dL_law_221 (by decide) ?_
            refine lv_iadd hx hb dL_law_222 ?_
            obtain ⟨hin, hf⟩ := ob_if hf
            refine va_sld hx hb hX hbl hbA hS (inb_in hin) dL_law_223 ?_
            obtain ⟨q224, hq, hf⟩ := ob_bind hf
            refine gL_Di (st := st) (k := 2) [.int (xs (x4 + 1).toNatClampNeg), .int (xs (x4 + 2).toNatClampNeg)] C0 hT hJ hE.1 hA hN (met_X7_end l dC dI cyI cyE tC ad st.1 (xs (x4 + 1).toNatClampNeg) (xs (x4 + 2).toNatClampNeg) _ hq) hP hS mc_X7_end ml_L_45 mi_X7_end ms_X7_end mz_X7 (by decide +kernel) ⟨rfl, rfl⟩ ⟨by decide, by decide⟩ rfl rfl hl.1 (Nat.le_of_ble_eq_true rfl) dL_law_224 ⟨by show cells ≤ 601024; omega, by show slots ≤ 7293034; omega⟩ (fun H locs hP hS => ?_)
            refine lv_pop hx hb dL_law_227 rfl ?_
            refine lv_aload_n hx hb dL_law_228 rfl (lv_at hl 2 rfl) ?_
            refine lv_aload_n hx hb dL_law_229 rfl (lv_at hl 0 rfl) ?_
            refine lv_iload hx hb dL_law_230 (lv_at hl 4 rfl) ?_
            refine lv_iconst (v := 1) hx hb dL_law_232 (by decide) ?_
            refine lv_iadd hx hb dL_law_233 ?_
            obtain ⟨hin, hf⟩ := ob_if hf
            refine va_sld hx hb hX hbl hbA hS (inb_in hin) dL_law_234 ?_
            refine lv_aload_n hx hb dL_law_235 rfl (lv_at hl 0 rfl) ?_
            refine lv_iload hx hb dL_law_236 (lv_at hl 4 rfl) ?_
            refine lv_iconst (v := 2) hx hb dL_law_238 (by decide) ?_
            refine lv_iadd hx hb dL_law_239 ?_
            obtain ⟨hin, hf⟩ := ob_if hf
            refine va_sld hx hb hX hbl hbA hS (inb_in hin) dL_law_240 ?_
            obtain ⟨q241, hq, hf⟩ := ob_bind hf
            refine gL_Mi (st := (q224.2, st.2)) (k := 2) [.int (xs (x4 + 1).toNatClampNeg), .int (xs (x4 + 2).toNatClampNeg)] C0 hT hJ hE.1 hA hN (met_X8_end l dC dI cyI cyE tC (aM ad) (q224.2, st.2).2.1 (xs (x4 + 1).toNatClampNeg) (xs (x4 + 2).toNatClampNeg) _ hq) hP hS mc_X8_end ml_L_49 mi_X8_end ms_X8_end mz_X8 (by decide +kernel) ⟨rfl, rfl⟩ ⟨by decide, by decide⟩ rfl rfl hl.1 (Nat.le_of_ble_eq_true rfl) dL_law_241 ⟨by show cells ≤ 601024; omega, by show slots ≤ 7293034; omega⟩ (fun H locs hP hS => ?_)
            refine lv_pop hx hb dL_law_244 rfl ?_
            refine lv_goto (tgt := 708) hx hb dL_law_245 (by decide) ?_
            refine lv_iinc (v := x4 + 6) (lv' := [(4, .int (x4 + 6)), (0, .ref b), (1, .ref (ad 76)), (2, .ref (ad (77 + 11))), (3, .ref (ad 89))]) hx hb dL_law_708 hl (k := 4) rfl rfl (by decide) rfl (fun ls hl => ?_)
            refine lv_goto (tgt := 23) hx hb dL_law_711 (by decide) ?_
            exact ih _ _ (cells) (slots) (by omega) (by omega) _ _ _ hP hS (lv_sub hl [1, 2, 3, 4, 0] rfl) hf
          · rw [if_neg h40_1] at hf
            by_cases h40_2 : ((xs x4.toNatClampNeg) &&& 31) = 2
            · rw [if_pos h40_2] at hf
              refine lv_tableIn (off := 208) (tgt := 248) hx hb dL_law_40 (fun q => h40 (Or.inl q)) (fun q => h40 (Or.inr q)) (by rw [h40_2]; rfl) (by decide) ?_
              refine lv_aload_n hx hb dL_law_248 rfl (lv_at hl 1 rfl) ?_
              refine lv_aload_n hx hb dL_law_249 rfl (lv_at hl 0 rfl) ?_
              refine lv_iload hx hb dL_law_250 (lv_at hl 4 rfl) ?_
              refine lv_iconst (v := 1) hx hb dL_law_252 (by decide) ?_
              refine lv_iadd hx hb dL_law_253 ?_
              obtain ⟨hin, hf⟩ := ob_if hf
              refine va_sld hx hb hX hbl hbA hS (inb_in hin) dL_law_254 ?_
              obtain ⟨q255, hq, hf⟩ := ob_bind hf
              refine gL_Di (st := st) (k := 1) [.int (xs (x4 + 1).toNatClampNeg)] C0 hT hJ hE.1 hA hN (met_X7_cut l dC dI cyI cyE tC ad st.1 (xs (x4 + 1).toNatClampNeg) _ hq) hP hS mc_X7_cut ml_L_50 mi_X7_cut ms_X7_cut mz_X7 (by decide +kernel) ⟨rfl, rfl⟩ ⟨by decide, by decide⟩ rfl rfl hl.1 (Nat.le_of_ble_eq_true rfl) dL_law_255 ⟨by show cells ≤ 601024; omega, by show slots ≤ 7293034; omega⟩ (fun H locs hP hS => ?_)
              refine lv_pop hx hb dL_law_258 rfl ?_
              refine lv_aload_n hx hb dL_law_259 rfl (lv_at hl 2 rfl) ?_
              refine lv_aload_n hx hb dL_law_260 rfl (lv_at hl 0 rfl) ?_
              refine lv_iload hx hb dL_law_261 (lv_at hl 4 rfl) ?_
              refine lv_iconst (v := 1) hx hb dL_law_263 (by decide) ?_
              refine lv_iadd hx hb dL_law_264 ?_
              obtain ⟨hin, hf⟩ := ob_if hf
              refine va_sld hx hb hX hbl hbA hS (inb_in hin) dL_law_265 ?_
              obtain ⟨q266, hq, hf⟩ := ob_bind hf
              refine gL_Mi (st := (q255.2, st.2)) (k := 1) [.int (xs (x4 + 1).toNatClampNeg)] C0 hT hJ hE.1 hA hN (met_X8_cut l dC dI cyI cyE tC (aM ad) (q255.2, st.2).2.1 (xs (x4 + 1).toNatClampNeg) _ hq) hP hS mc_X8_cut ml_L_54 mi_X8_cut ms_X8_cut mz_X8 (by decide +kernel) ⟨rfl, rfl⟩ ⟨by decide, by decide⟩ rfl rfl hl.1 (Nat.le_of_ble_eq_true rfl) dL_law_266 ⟨by show cells ≤ 601024; omega, by show slots ≤ 7293034; omega⟩ (fun H locs hP hS => ?_)
              refine lv_pop hx hb dL_law_269 rfl ?_
              refine lv_goto (tgt := 708) hx hb dL_law_270 (by decide) ?_
              refine lv_iinc (v := x4 + 6) (lv' := [(4, .int (x4 + 6)), (0, .ref b), (1, .ref (ad 76)), (2, .ref (ad (77 + 11))), (3, .ref (ad 89))]) hx hb dL_law_708 hl (k := 4) rfl rfl (by decide) rfl (fun ls hl => ?_)
              refine lv_goto (tgt := 23) hx hb dL_law_711 (by decide) ?_
              exact ih _ _ (cells) (slots) (by omega) (by omega) _ _ _ hP hS (lv_sub hl [1, 2, 3, 4, 0] rfl) hf
            · rw [if_neg h40_2] at hf
              by_cases h40_3 : ((xs x4.toNatClampNeg) &&& 31) = 3
              · rw [if_pos h40_3] at hf
                refine lv_tableIn (off := 233) (tgt := 273) hx hb dL_law_40 (fun q => h40 (Or.inl q)) (fun q => h40 (Or.inr q)) (by rw [h40_3]; rfl) (by decide) ?_
                refine lv_aload_n hx hb dL_law_273 rfl (lv_at hl 1 rfl) ?_
                refine lv_aload_n hx hb dL_law_274 rfl (lv_at hl 0 rfl) ?_
                refine lv_iload hx hb dL_law_275 (lv_at hl 4 rfl) ?_
                refine lv_iconst (v := 1) hx hb dL_law_277 (by decide) ?_
                refine lv_iadd hx hb dL_law_278 ?_
                obtain ⟨hin, hf⟩ := ob_if hf
                refine va_sld hx hb hX hbl hbA hS (inb_in hin) dL_law_279 ?_
                obtain ⟨q280, hq, hf⟩ := ob_bind hf
                refine gL_Di (st := st) (k := 1) [.int (xs (x4 + 1).toNatClampNeg)] C0 hT hJ hE.1 hA hN (met_X7_drop l dC dI cyI cyE tC ad st.1 (xs (x4 + 1).toNatClampNeg) _ hq) hP hS mc_X7_drop ml_L_55 mi_X7_drop ms_X7_drop mz_X7 (by decide +kernel) ⟨rfl, rfl⟩ ⟨by decide, by decide⟩ rfl rfl hl.1 (Nat.le_of_ble_eq_true rfl) dL_law_280 ⟨by show cells ≤ 601024; omega, by show slots ≤ 7293034; omega⟩ (fun H locs hP hS => ?_)
                refine lv_pop hx hb dL_law_283 rfl ?_
                refine lv_aload_n hx hb dL_law_284 rfl (lv_at hl 2 rfl) ?_
                refine lv_aload_n hx hb dL_law_285 rfl (lv_at hl 0 rfl) ?_
                refine lv_iload hx hb dL_law_286 (lv_at hl 4 rfl) ?_
                refine lv_iconst (v := 1) hx hb dL_law_288 (by decide) ?_
                refine lv_iadd hx hb dL_law_289 ?_
                obtain ⟨hin, hf⟩ := ob_if hf
                refine va_sld hx hb hX hbl hbA hS (inb_in hin) dL_law_290 ?_
                obtain ⟨q291, hq, hf⟩ := ob_bind hf
                refine gL_Mi (st := (q280.2, st.2)) (k := 1) [.int (xs (x4 + 1).toNatClampNeg)] C0 hT hJ hE.1 hA hN (met_X8_drop l dC dI cyI cyE tC (aM ad) (q280.2, st.2).2.1 (xs (x4 + 1).toNatClampNeg) _ hq) hP hS mc_X8_drop ml_L_58 mi_X8_drop ms_X8_drop mz_X8 (by decide +kernel) ⟨rfl, rfl⟩ ⟨by decide, by decide⟩ rfl rfl hl.1 (Nat.le_of_ble_eq_true rfl) dL_law_291 ⟨by show cells ≤ 601024; omega, by show slots ≤ 7293034; omega⟩ (fun H locs hP hS => ?_)
                refine lv_pop hx hb dL_law_294 rfl ?_
                refine lv_goto (tgt := 708) hx hb dL_law_295 (by decide) ?_
                refine lv_iinc (v := x4 + 6) (lv' := [(4, .int (x4 + 6)), (0, .ref b), (1, .ref (ad 76)), (2, .ref (ad (77 + 11))), (3, .ref (ad 89))]) hx hb dL_law_708 hl (k := 4) rfl rfl (by decide) rfl (fun ls hl => ?_)
                refine lv_goto (tgt := 23) hx hb dL_law_711 (by decide) ?_
                exact ih _ _ (cells) (slots) (by omega) (by omega) _ _ _ hP hS (lv_sub hl [1, 2, 3, 4, 0] rfl) hf
              · rw [if_neg h40_3] at hf
                by_cases h40_4 : ((xs x4.toNatClampNeg) &&& 31) = 4
                · rw [if_pos h40_4] at hf
                  refine lv_tableIn (off := 258) (tgt := 298) hx hb dL_law_40 (fun q => h40 (Or.inl q)) (fun q => h40 (Or.inr q)) (by rw [h40_4]; rfl) (by decide) ?_
                  refine lv_aload_n hx hb dL_law_298 rfl (lv_at hl 1 rfl) ?_
                  refine lv_aload_n hx hb dL_law_299 rfl (lv_at hl 0 rfl) ?_
                  refine lv_iload hx hb dL_law_300 (lv_at hl 4 rfl) ?_
                  refine lv_iconst (v := 1) hx hb dL_law_302 (by decide) ?_
                  refine lv_iadd hx hb dL_law_303 ?_
                  obtain ⟨hin, hf⟩ := ob_if hf
                  refine va_sld hx hb hX hbl hbA hS (inb_in hin) dL_law_304 ?_
                  refine lv_aload_n hx hb dL_law_305 rfl (lv_at hl 0 rfl) ?_
                  refine lv_iload hx hb dL_law_306 (lv_at hl 4 rfl) ?_
                  refine lv_iconst (v := 2) hx hb dL_law_308 (by decide) ?_
                  refine lv_iadd hx hb dL_law_309 ?_
                  obtain ⟨hin, hf⟩ := ob_if hf
                  refine va_sld hx hb hX hbl hbA hS (inb_in hin) dL_law_310 ?_
                  obtain ⟨q311, hq, hf⟩ := ob_bind hf
                  refine gL_Di (st := st) (k := 2) [.int (xs (x4 + 1).toNatClampNeg), .int (xs (x4 + 2).toNatClampNeg)] C0 hT hJ hE.1 hA hN (met_X7_flip l dC dI cyI cyE tC ad st.1 (xs (x4 + 1).toNatClampNeg) (xs (x4 + 2).toNatClampNeg) _ hq) hP hS mc_X7_flip ml_L_59 mi_X7_flip ms_X7_flip mz_X7 (by decide +kernel) ⟨rfl, rfl⟩ ⟨by decide, by decide⟩ rfl rfl hl.1 (Nat.le_of_ble_eq_true rfl) dL_law_311 ⟨by show cells ≤ 601024; omega, by show slots ≤ 7293034; omega⟩ (fun H locs hP hS => ?_)
                  refine lv_aload_n hx hb dL_law_314 rfl (lv_at hl 2 rfl) ?_
                  refine lv_aload_n hx hb dL_law_315 rfl (lv_at hl 0 rfl) ?_
                  refine lv_iload hx hb dL_law_316 (lv_at hl 4 rfl) ?_
                  refine lv_iconst (v := 1) hx hb dL_law_318 (by decide) ?_
                  refine lv_iadd hx hb dL_law_319 ?_
                  obtain ⟨hin, hf⟩ := ob_if hf
                  refine va_sld hx hb hX hbl hbA hS (inb_in hin) dL_law_320 ?_
                  refine lv_aload_n hx hb dL_law_321 rfl (lv_at hl 0 rfl) ?_
                  refine lv_iload hx hb dL_law_322 (lv_at hl 4 rfl) ?_
                  refine lv_iconst (v := 2) hx hb dL_law_324 (by decide) ?_
                  refine lv_iadd hx hb dL_law_325 ?_
                  obtain ⟨hin, hf⟩ := ob_if hf
                  refine va_sld hx hb hX hbl hbA hS (inb_in hin) dL_law_326 ?_
                  obtain ⟨q327, hq, hf⟩ := ob_bind hf
                  refine gL_Mi (st := (q311.2, st.2)) (k := 2) [.int (xs (x4 + 1).toNatClampNeg), .int (xs (x4 + 2).toNatClampNeg)] C0 hT hJ hE.1 hA hN (met_X8_flip l dC dI cyI cyE tC (aM ad) (q311.2, st.2).2.1 (xs (x4 + 1).toNatClampNeg) (xs (x4 + 2).toNatClampNeg) _ hq) hP hS mc_X8_flip ml_L_63 mi_X8_flip ms_X8_flip mz_X8 (by decide +kernel) ⟨rfl, rfl⟩ ⟨by decide, by decide⟩ rfl rfl hl.1 (Nat.le_of_ble_eq_true rfl) dL_law_327 ⟨by show cells ≤ 601024; omega, by show slots ≤ 7293034; omega⟩ (fun H locs hP hS => ?_)
                  refine lv_icmp_eq (tgt := 708) hx hb dL_law_330 (by decide) (fun h330 => ?_) (fun h330 => ?_)
                  · rw [if_pos h330] at hf
                    refine lv_iinc (v := x4 + 6) (lv' := [(4, .int (x4 + 6)), (0, .ref b), (1, .ref (ad 76)), (2, .ref (ad (77 + 11))), (3, .ref (ad 89))]) hx hb dL_law_708 hl (k := 4) rfl rfl (by decide) rfl (fun ls hl => ?_)
                    refine lv_goto (tgt := 23) hx hb dL_law_711 (by decide) ?_
                    exact ih _ _ (cells) (slots) (by omega) (by omega) _ _ _ hP hS (lv_sub hl [1, 2, 3, 4, 0] rfl) hf
                  · rw [if_neg h330] at hf
                    refine lv_iconst (v := 0) hx hb dL_law_333 (by decide) ?_
                    cases hf
                · rw [if_neg h40_4] at hf
                  by_cases h40_5 : ((xs x4.toNatClampNeg) &&& 31) = 5
                  · rw [if_pos h40_5] at hf
                    refine lv_tableIn (off := 295) (tgt := 335) hx hb dL_law_40 (fun q => h40 (Or.inl q)) (fun q => h40 (Or.inr q)) (by rw [h40_5]; rfl) (by decide) ?_
                    refine lv_aload_n hx hb dL_law_335 rfl (lv_at hl 1 rfl) ?_
                    refine lv_aload_n hx hb dL_law_336 rfl (lv_at hl 3 rfl) ?_
                    obtain ⟨q337, hq, hf⟩ := ob_bind hf
                    obtain ⟨hok, hf⟩ := ob_if hf
                    refine gL_H (st := st) (k := 2) [.ref (ad 76), .ref (ad 89)] C0 hT hJ hE hA hN (met_L_take l dC dI cyI cyE cyL tC ad st _ hq (okk_take hok)) hP hS mw_take ml_L_64 mt_L_take mz_L (by decide +kernel) ⟨rfl, rfl⟩ ⟨by decide, by decide⟩ rfl rfl hl.1 (Nat.le_of_ble_eq_true rfl) dL_law_337 ⟨by show cells + 1 ≤ 601024; omega, by show slots + 6 ≤ 7293034; omega⟩ (fun H locs hP hS => ?_)
                    refine lv_istore (lv' := [(5, .int (lk_of ks_take q337.1)), (0, .ref b), (1, .ref (ad 76)), (2, .ref (ad (77 + 11))), (3, .ref (ad 89)), (4, .int x4)]) hx hb dL_law_340 hl (by decide) rfl (fun ls hl => ?_)
                    refine lv_aload_n hx hb dL_law_342 rfl (lv_at hl 3 rfl) ?_
                    obtain ⟨q343, hq, hf⟩ := ob_bind hf
                    refine gL_Mi (st := (q337.2, st.2.1, lo_of st.2.2 q337.1)) (k := 0) [] C0 hT hJ hE.1 hA hN (met_X8_take l dC dI cyI cyE tC (aM ad) (q337.2, st.2.1, lo_of st.2.2 q337.1).2.1 _ hq) hP hS mc_X8_take ml_L_69 mi_X8_take ms_X8_take mz_X8 (by decide +kernel) ⟨rfl, rfl⟩ ⟨by decide, by decide⟩ rfl rfl hl.1 (Nat.le_of_ble_eq_true rfl) dL_law_343 ⟨by show cells + 1 ≤ 601024; omega, by show slots + 6 ≤ 7293034; omega⟩ (fun H locs hP hS => ?_)
                    refine lv_istore (lv' := [(6, .int q343.1), (5, .int (lk_of ks_take q337.1)), (0, .ref b), (1, .ref (ad 76)), (2, .ref (ad (77 + 11))), (3, .ref (ad 89)), (4, .int x4)]) hx hb dL_law_346 hl (by decide) rfl (fun ls hl => ?_)
                    refine lv_goto (tgt := 708) hx hb dL_law_348 (by decide) ?_
                    refine lv_iinc (v := x4 + 6) (lv' := [(4, .int (x4 + 6)), (6, .int q343.1), (5, .int (lk_of ks_take q337.1)), (0, .ref b), (1, .ref (ad 76)), (2, .ref (ad (77 + 11))), (3, .ref (ad 89))]) hx hb dL_law_708 hl (k := 6) rfl rfl (by decide) rfl (fun ls hl => ?_)
                    refine lv_goto (tgt := 23) hx hb dL_law_711 (by decide) ?_
                    exact ih _ _ (cells + 1) (slots + 6) (by omega) (by omega) _ _ _ hP hS (lv_sub hl [3, 4, 5, 6, 0] rfl) hf
                  · rw [if_neg h40_5] at hf
                    by_cases h40_6 : ((xs x4.toNatClampNeg) &&& 31) = 6
                    · rw [if_pos h40_6] at hf
                      refine lv_tableIn (off := 311) (tgt := 351) hx hb dL_law_40 (fun q => h40 (Or.inl q)) (fun q => h40 (Or.inr q)) (by rw [h40_6]; rfl) (by decide) ?_
                      refine lv_aload_n hx hb dL_law_351 rfl (lv_at hl 1 rfl) ?_
                      refine lv_aload_n hx hb dL_law_352 rfl (lv_at hl 0 rfl) ?_
                      refine lv_iload hx hb dL_law_353 (lv_at hl 4 rfl) ?_
                      refine lv_iconst (v := 1) hx hb dL_law_355 (by decide) ?_
                      refine lv_iadd hx hb dL_law_356 ?_
                      obtain ⟨hin, hf⟩ := ob_if hf
                      refine va_sld hx hb hX hbl hbA hS (inb_in hin) dL_law_357 ?_
                      refine lv_aload_n hx hb dL_law_358 rfl (lv_at hl 3 rfl) ?_
                      obtain ⟨q359, hq, hf⟩ := ob_bind hf
                      obtain ⟨hok, hf⟩ := ob_if hf
                      refine gL_H (st := st) (k := 3) [.ref (ad 76), .int (xs (x4 + 1).toNatClampNeg), .ref (ad 89)] C0 hT hJ hE hA hN (met_L_add l dC dI cyI cyE cyL tC ad st (xs (x4 + 1).toNatClampNeg) _ hq (okk_add hok)) hP hS mw_add ml_L_70 mt_L_add mz_L (by decide +kernel) ⟨rfl, rfl⟩ ⟨by decide, by decide⟩ rfl rfl hl.1 (Nat.le_of_ble_eq_true rfl) dL_law_359 ⟨by show cells + 1 ≤ 601024; omega, by show slots + 6 ≤ 7293034; omega⟩ (fun H locs hP hS => ?_)
                      refine lv_istore (lv' := [(5, .int (lk_of ks_add q359.1)), (0, .ref b), (1, .ref (ad 76)), (2, .ref (ad (77 + 11))), (3, .ref (ad 89)), (4, .int x4)]) hx hb dL_law_362 hl (by decide) rfl (fun ls hl => ?_)
                      refine lv_aload_n hx hb dL_law_364 rfl (lv_at hl 3 rfl) ?_
                      refine lv_aload_n hx hb dL_law_365 rfl (lv_at hl 1 rfl) ?_
                      refine lv_iload hx hb dL_law_366 (lv_at hl 5 rfl) ?_
                      refine lv_iconst (v := 1) hx hb dL_law_368 (by decide) ?_
                      refine lv_iadd hx hb dL_law_369 ?_
                      obtain ⟨hin, hf⟩ := ob_if hf
                      refine va_sld hx hb hX hbl hbA hS (inb_in hin) dL_law_370 ?_
                      obtain ⟨q371, hq, hf⟩ := ob_bind hf
                      refine gL_Mi (st := (q359.2, st.2.1, lo_of st.2.2 q359.1)) (k := 1) [.int (xs (x4 + 1).toNatClampNeg)] C0 hT hJ hE.1 hA hN (met_X8_add l dC dI cyI cyE tC (aM ad) (q359.2, st.2.1, lo_of st.2.2 q359.1).2.1 (xs (x4 + 1).toNatClampNeg) _ hq) hP hS mc_X8_add ml_L_73 mi_X8_add ms_X8_add mz_X8 (by decide +kernel) ⟨rfl, rfl⟩ ⟨by decide, by decide⟩ rfl rfl hl.1 (Nat.le_of_ble_eq_true rfl) dL_law_371 ⟨by show cells + 1 ≤ 601024; omega, by show slots + 6 ≤ 7293034; omega⟩ (fun H locs hP hS => ?_)
                      refine lv_istore (lv' := [(6, .int q371.1), (5, .int (lk_of ks_add q359.1)), (0, .ref b), (1, .ref (ad 76)), (2, .ref (ad (77 + 11))), (3, .ref (ad 89)), (4, .int x4)]) hx hb dL_law_374 hl (by decide) rfl (fun ls hl => ?_)
                      refine lv_goto (tgt := 708) hx hb dL_law_376 (by decide) ?_
                      refine lv_iinc (v := x4 + 6) (lv' := [(4, .int (x4 + 6)), (6, .int q371.1), (5, .int (lk_of ks_add q359.1)), (0, .ref b), (1, .ref (ad 76)), (2, .ref (ad (77 + 11))), (3, .ref (ad 89))]) hx hb dL_law_708 hl (k := 6) rfl rfl (by decide) rfl (fun ls hl => ?_)
                      refine lv_goto (tgt := 23) hx hb dL_law_711 (by decide) ?_
                      exact ih _ _ (cells + 1) (slots + 6) (by omega) (by omega) _ _ _ hP hS (lv_sub hl [3, 4, 5, 6, 0] rfl) hf
                    · rw [if_neg h40_6] at hf
                      by_cases h40_7 : ((xs x4.toNatClampNeg) &&& 31) = 7
                      · rw [if_pos h40_7] at hf
                        refine lv_tableIn (off := 339) (tgt := 379) hx hb dL_law_40 (fun q => h40 (Or.inl q)) (fun q => h40 (Or.inr q)) (by rw [h40_7]; rfl) (by decide) ?_
                        refine lv_aload_n hx hb dL_law_379 rfl (lv_at hl 1 rfl) ?_
                        refine lv_aload_n hx hb dL_law_380 rfl (lv_at hl 0 rfl) ?_
                        refine lv_iload hx hb dL_law_381 (lv_at hl 4 rfl) ?_
                        refine lv_iconst (v := 1) hx hb dL_law_383 (by decide) ?_
                        refine lv_iadd hx hb dL_law_384 ?_
                        obtain ⟨hin, hf⟩ := ob_if hf
                        refine va_sld hx hb hX hbl hbA hS (inb_in hin) dL_law_385 ?_
                        obtain ⟨q386, hq, hf⟩ := ob_bind hf
                        obtain ⟨hok, hf⟩ := ob_if hf
                        refine gL_H (st := st) (k := 2) [.ref (ad 76), .int (xs (x4 + 1).toNatClampNeg)] C0 hT hJ hE hA hN (met_L_replace l dC dI cyI cyE cyL tC ad st (xs (x4 + 1).toNatClampNeg) _ hq (okk_replace hok)) hP hS mw_replace ml_L_74 mt_L_replace mz_L (by decide +kernel) ⟨rfl, rfl⟩ ⟨by decide, by decide⟩ rfl rfl hl.1 (Nat.le_of_ble_eq_true rfl) dL_law_386 ⟨by show cells + 1 ≤ 601024; omega, by show slots + 6 ≤ 7293034; omega⟩ (fun H locs hP hS => ?_)
                        refine lv_istore (lv' := [(5, .int (lk_of ks_replace q386.1)), (0, .ref b), (1, .ref (ad 76)), (2, .ref (ad (77 + 11))), (3, .ref (ad 89)), (4, .int x4)]) hx hb dL_law_389 hl (by decide) rfl (fun ls hl => ?_)
                        refine lv_aload_n hx hb dL_law_391 rfl (lv_at hl 3 rfl) ?_
                        refine lv_aload_n hx hb dL_law_392 rfl (lv_at hl 1 rfl) ?_
                        refine lv_iload hx hb dL_law_393 (lv_at hl 5 rfl) ?_
                        refine lv_iconst (v := 1) hx hb dL_law_395 (by decide) ?_
                        refine lv_iadd hx hb dL_law_396 ?_
                        obtain ⟨hin, hf⟩ := ob_if hf
                        refine va_sld hx hb hX hbl hbA hS (inb_in hin) dL_law_397 ?_
                        obtain ⟨q398, hq, hf⟩ := ob_bind hf
                        refine gL_Mv (st := (q386.2, st.2)) (k := 1) [.int (xs (x4 + 1).toNatClampNeg)] C0 hT hJ hE.1 hA hN (met_X8_replace l dC dI cyI cyE tC (aM ad) (q386.2, st.2).2.1 (xs (x4 + 1).toNatClampNeg) _ hq) hP hS mc_X8_replace ml_L_77 mi_X8_replace ms_X8_replace mz_X8 (by decide +kernel) ⟨rfl, rfl⟩ ⟨by decide, by decide⟩ rfl rfl hl.1 (Nat.le_of_ble_eq_true rfl) dL_law_398 ⟨by show cells + 1 ≤ 601024; omega, by show slots + 6 ≤ 7293034; omega⟩ (fun H locs hP hS => ?_)
                        refine lv_goto (tgt := 708) hx hb dL_law_401 (by decide) ?_
                        refine lv_iinc (v := x4 + 6) (lv' := [(4, .int (x4 + 6)), (5, .int (lk_of ks_replace q386.1)), (0, .ref b), (1, .ref (ad 76)), (2, .ref (ad (77 + 11))), (3, .ref (ad 89))]) hx hb dL_law_708 hl (k := 5) rfl rfl (by decide) rfl (fun ls hl => ?_)
                        refine lv_goto (tgt := 23) hx hb dL_law_711 (by decide) ?_
                        exact ih _ _ (cells + 1) (slots + 6) (by omega) (by omega) _ _ _ hP hS (lv_sub hl [2, 3, 4, 5, 0] rfl) hf
                      · rw [if_neg h40_7] at hf
                        by_cases h40_8 : ((xs x4.toNatClampNeg) &&& 31) = 8
                        · rw [if_pos h40_8] at hf
                          refine lv_tableIn (off := 364) (tgt := 404) hx hb dL_law_40 (fun q => h40 (Or.inl q)) (fun q => h40 (Or.inr q)) (by rw [h40_8]; rfl) (by decide) ?_
                          refine lv_aload_n hx hb dL_law_404 rfl (lv_at hl 1 rfl) ?_
                          refine lv_aload_n hx hb dL_law_405 rfl (lv_at hl 0 rfl) ?_
                          refine lv_iload hx hb dL_law_406 (lv_at hl 4 rfl) ?_
                          refine lv_iconst (v := 1) hx hb dL_law_408 (by decide) ?_
                          refine lv_iadd hx hb dL_law_409 ?_
                          obtain ⟨hin, hf⟩ := ob_if hf
                          refine va_sld hx hb hX hbl hbA hS (inb_in hin) dL_law_410 ?_
                          obtain ⟨q411, hq, hf⟩ := ob_bind hf
                          obtain ⟨hok, hf⟩ := ob_if hf
                          refine gL_H (st := st) (k := 2) [.ref (ad 76), .int (xs (x4 + 1).toNatClampNeg)] C0 hT hJ hE hA hN (met_L_rename l dC dI cyI cyE cyL tC ad st (xs (x4 + 1).toNatClampNeg) _ hq (okk_rename hok)) hP hS mw_rename ml_L_78 mt_L_rename mz_L (by decide +kernel) ⟨rfl, rfl⟩ ⟨by decide, by decide⟩ rfl rfl hl.1 (Nat.le_of_ble_eq_true rfl) dL_law_411 ⟨by show cells + 1 ≤ 601024; omega, by show slots + 6 ≤ 7293034; omega⟩ (fun H locs hP hS => ?_)
                          refine lv_istore (lv' := [(5, .int (lk_of ks_rename q411.1)), (0, .ref b), (1, .ref (ad 76)), (2, .ref (ad (77 + 11))), (3, .ref (ad 89)), (4, .int x4)]) hx hb dL_law_414 hl (by decide) rfl (fun ls hl => ?_)
                          refine lv_aload_n hx hb dL_law_416 rfl (lv_at hl 3 rfl) ?_
                          refine lv_aload_n hx hb dL_law_417 rfl (lv_at hl 1 rfl) ?_
                          refine lv_iload hx hb dL_law_418 (lv_at hl 5 rfl) ?_
                          refine lv_iconst (v := 1) hx hb dL_law_420 (by decide) ?_
                          refine lv_iadd hx hb dL_law_421 ?_
                          obtain ⟨hin, hf⟩ := ob_if hf
                          refine va_sld hx hb hX hbl hbA hS (inb_in hin) dL_law_422 ?_
                          obtain ⟨q423, hq, hf⟩ := ob_bind hf
                          refine gL_Mv (st := (q411.2, st.2)) (k := 1) [.int (xs (x4 + 1).toNatClampNeg)] C0 hT hJ hE.1 hA hN (met_X8_rename l dC dI cyI cyE tC (aM ad) (q411.2, st.2).2.1 (xs (x4 + 1).toNatClampNeg) _ hq) hP hS mc_X8_rename ml_L_80 mi_X8_rename ms_X8_rename mz_X8 (by decide +kernel) ⟨rfl, rfl⟩ ⟨by decide, by decide⟩ rfl rfl hl.1 (Nat.le_of_ble_eq_true rfl) dL_law_423 ⟨by show cells + 1 ≤ 601024; omega, by show slots + 6 ≤ 7293034; omega⟩ (fun H locs hP hS => ?_)
                          refine lv_goto (tgt := 708) hx hb dL_law_426 (by decide) ?_
                          refine lv_iinc (v := x4 + 6) (lv' := [(4, .int (x4 + 6)), (5, .int (lk_of ks_rename q411.1)), (0, .ref b), (1, .ref (ad 76)), (2, .ref (ad (77 + 11))), (3, .ref (ad 89))]) hx hb dL_law_708 hl (k := 5) rfl rfl (by decide) rfl (fun ls hl => ?_)
                          refine lv_goto (tgt := 23) hx hb dL_law_711 (by decide) ?_
                          exact ih _ _ (cells + 1) (slots + 6) (by omega) (by omega) _ _ _ hP hS (lv_sub hl [2, 3, 4, 5, 0] rfl) hf
                        · rw [if_neg h40_8] at hf
                          by_cases h40_9 : ((xs x4.toNatClampNeg) &&& 31) = 9
                          · rw [if_pos h40_9] at hf
                            refine lv_tableIn (off := 389) (tgt := 429) hx hb dL_law_40 (fun q => h40 (Or.inl q)) (fun q => h40 (Or.inr q)) (by rw [h40_9]; rfl) (by decide) ?_
                            refine lv_aload_n hx hb dL_law_429 rfl (lv_at hl 1 rfl) ?_
                            refine lv_aload_n hx hb dL_law_430 rfl (lv_at hl 0 rfl) ?_
                            refine lv_iload hx hb dL_law_431 (lv_at hl 4 rfl) ?_
                            refine lv_iconst (v := 1) hx hb dL_law_433 (by decide) ?_
                            refine lv_iadd hx hb dL_law_434 ?_
                            obtain ⟨hin, hf⟩ := ob_if hf
                            refine va_sld hx hb hX hbl hbA hS (inb_in hin) dL_law_435 ?_
                            obtain ⟨q436, hq, hf⟩ := ob_bind hf
                            obtain ⟨hok, hf⟩ := ob_if hf
                            refine gL_H (st := st) (k := 2) [.ref (ad 76), .int (xs (x4 + 1).toNatClampNeg)] C0 hT hJ hE hA hN (met_L_remove l dC dI cyI cyE cyL tC ad st (xs (x4 + 1).toNatClampNeg) _ hq (okk_remove hok)) hP hS mw_remove ml_L_81 mt_L_remove mz_L (by decide +kernel) ⟨rfl, rfl⟩ ⟨by decide, by decide⟩ rfl rfl hl.1 (Nat.le_of_ble_eq_true rfl) dL_law_436 ⟨by show cells + 1 ≤ 601024; omega, by show slots + 6 ≤ 7293034; omega⟩ (fun H locs hP hS => ?_)
                            refine lv_istore (lv' := [(5, .int (lk_of ks_remove q436.1)), (0, .ref b), (1, .ref (ad 76)), (2, .ref (ad (77 + 11))), (3, .ref (ad 89)), (4, .int x4)]) hx hb dL_law_439 hl (by decide) rfl (fun ls hl => ?_)
                            refine lv_aload_n hx hb dL_law_441 rfl (lv_at hl 3 rfl) ?_
                            refine lv_aload_n hx hb dL_law_442 rfl (lv_at hl 1 rfl) ?_
                            refine lv_iload hx hb dL_law_443 (lv_at hl 5 rfl) ?_
                            refine lv_iconst (v := 1) hx hb dL_law_445 (by decide) ?_
                            refine lv_iadd hx hb dL_law_446 ?_
                            obtain ⟨hin, hf⟩ := ob_if hf
                            refine va_sld hx hb hX hbl hbA hS (inb_in hin) dL_law_447 ?_
                            obtain ⟨q448, hq, hf⟩ := ob_bind hf
                            refine gL_Mv (st := (q436.2, st.2)) (k := 1) [.int (xs (x4 + 1).toNatClampNeg)] C0 hT hJ hE.1 hA hN (met_X8_remove l dC dI cyI cyE tC (aM ad) (q436.2, st.2).2.1 (xs (x4 + 1).toNatClampNeg) _ hq) hP hS mc_X8_remove ml_L_83 mi_X8_remove ms_X8_remove mz_X8 (by decide +kernel) ⟨rfl, rfl⟩ ⟨by decide, by decide⟩ rfl rfl hl.1 (Nat.le_of_ble_eq_true rfl) dL_law_448 ⟨by show cells + 1 ≤ 601024; omega, by show slots + 6 ≤ 7293034; omega⟩ (fun H locs hP hS => ?_)
                            refine lv_goto (tgt := 708) hx hb dL_law_451 (by decide) ?_
                            refine lv_iinc (v := x4 + 6) (lv' := [(4, .int (x4 + 6)), (5, .int (lk_of ks_remove q436.1)), (0, .ref b), (1, .ref (ad 76)), (2, .ref (ad (77 + 11))), (3, .ref (ad 89))]) hx hb dL_law_708 hl (k := 5) rfl rfl (by decide) rfl (fun ls hl => ?_)
                            refine lv_goto (tgt := 23) hx hb dL_law_711 (by decide) ?_
                            exact ih _ _ (cells + 1) (slots + 6) (by omega) (by omega) _ _ _ hP hS (lv_sub hl [2, 3, 4, 5, 0] rfl) hf
                          · rw [if_neg h40_9] at hf
                            by_cases h40_10 : ((xs x4.toNatClampNeg) &&& 31) = 10
                            · rw [if_pos h40_10] at hf
                              refine lv_tableIn (off := 414) (tgt := 454) hx hb dL_law_40 (fun q => h40 (Or.inl q)) (fun q => h40 (Or.inr q)) (by rw [h40_10]; rfl) (by decide) ?_
                              refine lv_aload_n hx hb dL_law_454 rfl (lv_at hl 1 rfl) ?_
                              obtain ⟨q455, hq, hf⟩ := ob_bind hf
                              refine gL_Dv (st := st) (k := 0) [] C0 hT hJ hE.1 hA hN (met_X7_sort l dC dI cyI cyE tC ad st.1 _ hq) hP hS mc_X7_sort ml_L_84 mi_X7_sort ms_X7_sort mz_X7 (by decide +kernel) ⟨rfl, rfl⟩ ⟨by decide, by decide⟩ rfl rfl hl.1 (Nat.le_of_ble_eq_true rfl) dL_law_455 ⟨by show cells ≤ 601024; omega, by show slots ≤ 7293034; omega⟩ (fun H locs hP hS => ?_)
                              refine lv_aload_n hx hb dL_law_458 rfl (lv_at hl 2 rfl) ?_
                              obtain ⟨q459, hq, hf⟩ := ob_bind hf
                              refine gL_Mv (st := (q455, st.2)) (k := 0) [] C0 hT hJ hE.1 hA hN (met_X8_sort l dC dI cyI cyE tC (aM ad) (q455, st.2).2.1 _ hq) hP hS mc_X8_sort ml_L_87 mi_X8_sort ms_X8_sort mz_X8 (by decide +kernel) ⟨rfl, rfl⟩ ⟨by decide, by decide⟩ rfl rfl hl.1 (Nat.le_of_ble_eq_true rfl) dL_law_459 ⟨by show cells ≤ 601024; omega, by show slots ≤ 7293034; omega⟩ (fun H locs hP hS => ?_)
                              refine lv_goto (tgt := 708) hx hb dL_law_462 (by decide) ?_
                              refine lv_iinc (v := x4 + 6) (lv' := [(4, .int (x4 + 6)), (0, .ref b), (1, .ref (ad 76)), (2, .ref (ad (77 + 11))), (3, .ref (ad 89))]) hx hb dL_law_708 hl (k := 4) rfl rfl (by decide) rfl (fun ls hl => ?_)
                              refine lv_goto (tgt := 23) hx hb dL_law_711 (by decide) ?_
                              exact ih _ _ (cells) (slots) (by omega) (by omega) _ _ _ hP hS (lv_sub hl [1, 2, 3, 4, 0] rfl) hf
                            · rw [if_neg h40_10] at hf
                              by_cases h40_11 : ((xs x4.toNatClampNeg) &&& 31) = 11
                              · rw [if_pos h40_11] at hf
                                refine lv_tableIn (off := 425) (tgt := 465) hx hb dL_law_40 (fun q => h40 (Or.inl q)) (fun q => h40 (Or.inr q)) (by rw [h40_11]; rfl) (by decide) ?_
                                refine lv_aload_n hx hb dL_law_465 rfl (lv_at hl 1 rfl) ?_
                                obtain ⟨q466, hq, hf⟩ := ob_bind hf
                                refine gL_Dv (st := st) (k := 0) [] C0 hT hJ hE.1 hA hN (met_X7_clear l dC dI cyI cyE tC ad st.1 _ hq) hP hS mc_X7_clear ml_L_88 mi_X7_clear ms_X7_clear mz_X7 (by decide +kernel) ⟨rfl, rfl⟩ ⟨by decide, by decide⟩ rfl rfl hl.1 (Nat.le_of_ble_eq_true rfl) dL_law_466 ⟨by show cells ≤ 601024; omega, by show slots ≤ 7293034; omega⟩ (fun H locs hP hS => ?_)
                                refine lv_aload_n hx hb dL_law_469 rfl (lv_at hl 2 rfl) ?_
                                obtain ⟨q470, hq, hf⟩ := ob_bind hf
                                refine gL_Mv (st := (q466, st.2)) (k := 0) [] C0 hT hJ hE.1 hA hN (met_X8_clear l dC dI cyI cyE tC (aM ad) (q466, st.2).2.1 _ hq) hP hS mc_X8_clear ml_L_91 mi_X8_clear ms_X8_clear mz_X8 (by decide +kernel) ⟨rfl, rfl⟩ ⟨by decide, by decide⟩ rfl rfl hl.1 (Nat.le_of_ble_eq_true rfl) dL_law_470 ⟨by show cells ≤ 601024; omega, by show slots ≤ 7293034; omega⟩ (fun H locs hP hS => ?_)
                                refine lv_goto (tgt := 708) hx hb dL_law_473 (by decide) ?_
                                refine lv_iinc (v := x4 + 6) (lv' := [(4, .int (x4 + 6)), (0, .ref b), (1, .ref (ad 76)), (2, .ref (ad (77 + 11))), (3, .ref (ad 89))]) hx hb dL_law_708 hl (k := 4) rfl rfl (by decide) rfl (fun ls hl => ?_)
                                refine lv_goto (tgt := 23) hx hb dL_law_711 (by decide) ?_
                                exact ih _ _ (cells) (slots) (by omega) (by omega) _ _ _ hP hS (lv_sub hl [1, 2, 3, 4, 0] rfl) hf
                              · rw [if_neg h40_11] at hf
                                by_cases h40_12 : ((xs x4.toNatClampNeg) &&& 31) = 12
                                · rw [if_pos h40_12] at hf
                                  refine lv_tableIn (off := 436) (tgt := 476) hx hb dL_law_40 (fun q => h40 (Or.inl q)) (fun q => h40 (Or.inr q)) (by rw [h40_12]; rfl) (by decide) ?_
                                  refine lv_aload_n hx hb dL_law_476 rfl (lv_at hl 1 rfl) ?_
                                  obtain ⟨q477, hq, hf⟩ := ob_bind hf
                                  refine gL_Di (st := st) (k := 0) [] C0 hT hJ hE.1 hA hN (met_X7_make l dC dI cyI cyE tC ad st.1 _ hq) hP hS mc_X7_make ml_L_92 mi_X7_make ms_X7_make mz_X7 (by decide +kernel) ⟨rfl, rfl⟩ ⟨by decide, by decide⟩ rfl rfl hl.1 (Nat.le_of_ble_eq_true rfl) dL_law_477 ⟨by show cells ≤ 601024; omega, by show slots ≤ 7293034; omega⟩ (fun H locs hP hS => ?_)
                                  refine lv_pop hx hb dL_law_480 rfl ?_
                                  refine lv_aload_n hx hb dL_law_481 rfl (lv_at hl 2 rfl) ?_
                                  obtain ⟨q482, hq, hf⟩ := ob_bind hf
                                  refine gL_Mi (st := (q477.2, st.2)) (k := 0) [] C0 hT hJ hE.1 hA hN (met_X8_make l dC dI cyI cyE tC (aM ad) (q477.2, st.2).2.1 _ hq) hP hS mc_X8_make ml_L_95 mi_X8_make ms_X8_make mz_X8 (by decide +kernel) ⟨rfl, rfl⟩ ⟨by decide, by decide⟩ rfl rfl hl.1 (Nat.le_of_ble_eq_true rfl) dL_law_482 ⟨by show cells ≤ 601024; omega, by show slots ≤ 7293034; omega⟩ (fun H locs hP hS => ?_)
                                  refine lv_pop hx hb dL_law_485 rfl ?_
                                  refine lv_goto (tgt := 708) hx hb dL_law_486 (by decide) ?_
                                  refine lv_iinc (v := x4 + 6) (lv' := [(4, .int (x4 + 6)), (0, .ref b), (1, .ref (ad 76)), (2, .ref (ad (77 + 11))), (3, .ref (ad 89))]) hx hb dL_law_708 hl (k := 4) rfl rfl (by decide) rfl (fun ls hl => ?_)
                                  refine lv_goto (tgt := 23) hx hb dL_law_711 (by decide) ?_
                                  exact ih _ _ (cells) (slots) (by omega) (by omega) _ _ _ hP hS (lv_sub hl [1, 2, 3, 4, 0] rfl) hf
                                · rw [if_neg h40_12] at hf
                                  by_cases h40_13 : ((xs x4.toNatClampNeg) &&& 31) = 13
                                  · rw [if_pos h40_13] at hf
                                    refine lv_tableIn (off := 449) (tgt := 489) hx hb dL_law_40 (fun q => h40 (Or.inl q)) (fun q => h40 (Or.inr q)) (by rw [h40_13]; rfl) (by decide) ?_
                                    refine lv_aload_n hx hb dL_law_489 rfl (lv_at hl 1 rfl) ?_
                                    refine lv_aload_n hx hb dL_law_490 rfl (lv_at hl 3 rfl) ?_
                                    obtain ⟨q491, hq, hf⟩ := ob_bind hf
                                    obtain ⟨hok, hf⟩ := ob_if hf
                                    refine gL_H (st := st) (k := 2) [.ref (ad 76), .ref (ad 89)] C0 hT hJ hE hA hN (met_L_read l dC dI cyI cyE cyL tC ad st _ hq (okk_read hok)) hP hS mw_read ml_L_96 mt_L_read mz_L (by decide +kernel) ⟨rfl, rfl⟩ ⟨by decide, by decide⟩ rfl rfl hl.1 (Nat.le_of_ble_eq_true rfl) dL_law_491 ⟨by show cells + 1 ≤ 601024; omega, by show slots + 6 ≤ 7293034; omega⟩ (fun H locs hP hS => ?_)
                                    refine lv_istore (lv' := [(5, .int (lk_of ks_read q491.1)), (0, .ref b), (1, .ref (ad 76)), (2, .ref (ad (77 + 11))), (3, .ref (ad 89)), (4, .int x4)]) hx hb dL_law_494 hl (by decide) rfl (fun ls hl => ?_)
                                    refine lv_aload_n hx hb dL_law_496 rfl (lv_at hl 3 rfl) ?_
                                    obtain ⟨q497, hq, hf⟩ := ob_bind hf
                                    refine gL_Mi (st := (q491.2, st.2.1, lo_of st.2.2 q491.1)) (k := 0) [] C0 hT hJ hE.1 hA hN (met_X8_read l dC dI cyI cyE tC (aM ad) (q491.2, st.2.1, lo_of st.2.2 q491.1).2.1 _ hq) hP hS mc_X8_read ml_L_98 mi_X8_read ms_X8_read mz_X8 (by decide +kernel) ⟨rfl, rfl⟩ ⟨by decide, by decide⟩ rfl rfl hl.1 (Nat.le_of_ble_eq_true rfl) dL_law_497 ⟨by show cells + 1 ≤ 601024; omega, by show slots + 6 ≤ 7293034; omega⟩ (fun H locs hP hS => ?_)
                                    refine lv_istore (lv' := [(6, .int q497.1), (5, .int (lk_of ks_read q491.1)), (0, .ref b), (1, .ref (ad 76)), (2, .ref (ad (77 + 11))), (3, .ref (ad 89)), (4, .int x4)]) hx hb dL_law_500 hl (by decide) rfl (fun ls hl => ?_)
                                    refine lv_goto (tgt := 708) hx hb dL_law_502 (by decide) ?_
                                    refine lv_iinc (v := x4 + 6) (lv' := [(4, .int (x4 + 6)), (6, .int q497.1), (5, .int (lk_of ks_read q491.1)), (0, .ref b), (1, .ref (ad 76)), (2, .ref (ad (77 + 11))), (3, .ref (ad 89))]) hx hb dL_law_708 hl (k := 6) rfl rfl (by decide) rfl (fun ls hl => ?_)
                                    refine lv_goto (tgt := 23) hx hb dL_law_711 (by decide) ?_
                                    exact ih _ _ (cells + 1) (slots + 6) (by omega) (by omega) _ _ _ hP hS (lv_sub hl [3, 4, 5, 6, 0] rfl) hf
                                  · rw [if_neg h40_13] at hf
                                    by_cases h40_14 : ((xs x4.toNatClampNeg) &&& 31) = 14
                                    · rw [if_pos h40_14] at hf
                                      refine lv_tableIn (off := 465) (tgt := 505) hx hb dL_law_40 (fun q => h40 (Or.inl q)) (fun q => h40 (Or.inr q)) (by rw [h40_14]; rfl) (by decide) ?_
                                      refine lv_aload_n hx hb dL_law_505 rfl (lv_at hl 1 rfl) ?_
                                      refine lv_aload_n hx hb dL_law_506 rfl (lv_at hl 0 rfl) ?_
                                      refine lv_iload hx hb dL_law_507 (lv_at hl 4 rfl) ?_
                                      refine lv_iconst (v := 1) hx hb dL_law_509 (by decide) ?_
                                      refine lv_iadd hx hb dL_law_510 ?_
                                      obtain ⟨hin, hf⟩ := ob_if hf
                                      refine va_sld hx hb hX hbl hbA hS (inb_in hin) dL_law_511 ?_
                                      obtain ⟨q512, hq, hf⟩ := ob_bind hf
                                      refine gL_Di (st := st) (k := 1) [.int (xs (x4 + 1).toNatClampNeg)] C0 hT hJ hE.1 hA hN (met_X7_fault l dC dI cyI cyE tC ad st.1 (xs (x4 + 1).toNatClampNeg) _ hq) hP hS mc_X7_fault ml_L_99 mi_X7_fault ms_X7_fault mz_X7 (by decide +kernel) ⟨rfl, rfl⟩ ⟨by decide, by decide⟩ rfl rfl hl.1 (Nat.le_of_ble_eq_true rfl) dL_law_512 ⟨by show cells ≤ 601024; omega, by show slots ≤ 7293034; omega⟩ (fun H locs hP hS => ?_)
                                      refine lv_pop hx hb dL_law_515 rfl ?_
                                      refine lv_aload_n hx hb dL_law_516 rfl (lv_at hl 2 rfl) ?_
                                      refine lv_aload_n hx hb dL_law_517 rfl (lv_at hl 0 rfl) ?_
                                      refine lv_iload hx hb dL_law_518 (lv_at hl 4 rfl) ?_
                                      refine lv_iconst (v := 1) hx hb dL_law_520 (by decide) ?_
                                      refine lv_iadd hx hb dL_law_521 ?_
                                      obtain ⟨hin, hf⟩ := ob_if hf
                                      refine va_sld hx hb hX hbl hbA hS (inb_in hin) dL_law_522 ?_
                                      obtain ⟨q523, hq, hf⟩ := ob_bind hf
                                      refine gL_Mi (st := (q512.2, st.2)) (k := 1) [.int (xs (x4 + 1).toNatClampNeg)] C0 hT hJ hE.1 hA hN (met_X8_fault l dC dI cyI cyE tC (aM ad) (q512.2, st.2).2.1 (xs (x4 + 1).toNatClampNeg) _ hq) hP hS mc_X8_fault ml_L_102 mi_X8_fault ms_X8_fault mz_X8 (by decide +kernel) ⟨rfl, rfl⟩ ⟨by decide, by decide⟩ rfl rfl hl.1 (Nat.le_of_ble_eq_true rfl) dL_law_523 ⟨by show cells ≤ 601024; omega, by show slots ≤ 7293034; omega⟩ (fun H locs hP hS => ?_)
                                      refine lv_pop hx hb dL_law_526 rfl ?_
                                      refine lv_goto (tgt := 708) hx hb dL_law_527 (by decide) ?_
                                      refine lv_iinc (v := x4 + 6) (lv' := [(4, .int (x4 + 6)), (0, .ref b), (1, .ref (ad 76)), (2, .ref (ad (77 + 11))), (3, .ref (ad 89))]) hx hb dL_law_708 hl (k := 4) rfl rfl (by decide) rfl (fun ls hl => ?_)
                                      refine lv_goto (tgt := 23) hx hb dL_law_711 (by decide) ?_
                                      exact ih _ _ (cells) (slots) (by omega) (by omega) _ _ _ hP hS (lv_sub hl [1, 2, 3, 4, 0] rfl) hf
                                    · rw [if_neg h40_14] at hf
                                      by_cases h40_15 : ((xs x4.toNatClampNeg) &&& 31) = 15
                                      · rw [if_pos h40_15] at hf
                                        refine lv_tableIn (off := 490) (tgt := 530) hx hb dL_law_40 (fun q => h40 (Or.inl q)) (fun q => h40 (Or.inr q)) (by rw [h40_15]; rfl) (by decide) ?_
                                        refine lv_aload_n hx hb dL_law_530 rfl (lv_at hl 1 rfl) ?_
                                        obtain ⟨q531, hq, hf⟩ := ob_bind hf
                                        refine gL_Di (st := st) (k := 0) [] C0 hT hJ hE.1 hA hN (met_X7_save l dC dI cyI cyE tC ad st.1 _ hq) hP hS mc_X7_save ml_L_103 mi_X7_save ms_X7_save mz_X7 (by decide +kernel) ⟨rfl, rfl⟩ ⟨by decide, by decide⟩ rfl rfl hl.1 (Nat.le_of_ble_eq_true rfl) dL_law_531 ⟨by show cells ≤ 601024; omega, by show slots ≤ 7293034; omega⟩ (fun H locs hP hS => ?_)
                                        refine lv_pop hx hb dL_law_534 rfl ?_
                                        refine lv_aload_n hx hb dL_law_535 rfl (lv_at hl 2 rfl) ?_
                                        obtain ⟨q536, hq, hf⟩ := ob_bind hf
                                        refine gL_Mi (st := (q531.2, st.2)) (k := 0) [] C0 hT hJ hE.1 hA hN (met_X8_save l dC dI cyI cyE tC (aM ad) (q531.2, st.2).2.1 _ hq) hP hS mc_X8_save ml_L_106 mi_X8_save ms_X8_save mz_X8 (by decide +kernel) ⟨rfl, rfl⟩ ⟨by decide, by decide⟩ rfl rfl hl.1 (Nat.le_of_ble_eq_true rfl) dL_law_536 ⟨by show cells ≤ 601024; omega, by show slots ≤ 7293034; omega⟩ (fun H locs hP hS => ?_)
                                        refine lv_pop hx hb dL_law_539 rfl ?_
                                        refine lv_goto (tgt := 708) hx hb dL_law_540 (by decide) ?_
                                        refine lv_iinc (v := x4 + 6) (lv' := [(4, .int (x4 + 6)), (0, .ref b), (1, .ref (ad 76)), (2, .ref (ad (77 + 11))), (3, .ref (ad 89))]) hx hb dL_law_708 hl (k := 4) rfl rfl (by decide) rfl (fun ls hl => ?_)
                                        refine lv_goto (tgt := 23) hx hb dL_law_711 (by decide) ?_
                                        exact ih _ _ (cells) (slots) (by omega) (by omega) _ _ _ hP hS (lv_sub hl [1, 2, 3, 4, 0] rfl) hf
                                      · rw [if_neg h40_15] at hf
                                        by_cases h40_16 : ((xs x4.toNatClampNeg) &&& 31) = 16
                                        · rw [if_pos h40_16] at hf
                                          refine lv_tableIn (off := 503) (tgt := 543) hx hb dL_law_40 (fun q => h40 (Or.inl q)) (fun q => h40 (Or.inr q)) (by rw [h40_16]; rfl) (by decide) ?_
                                          refine lv_aload_n hx hb dL_law_543 rfl (lv_at hl 1 rfl) ?_
                                          refine lv_aload_n hx hb dL_law_544 rfl (lv_at hl 0 rfl) ?_
                                          refine lv_iload hx hb dL_law_545 (lv_at hl 4 rfl) ?_
                                          refine lv_iconst (v := 1) hx hb dL_law_547 (by decide) ?_
                                          refine lv_iadd hx hb dL_law_548 ?_
                                          obtain ⟨hin, hf⟩ := ob_if hf
                                          refine va_sld hx hb hX hbl hbA hS (inb_in hin) dL_law_549 ?_
                                          refine lv_aload_n hx hb dL_law_550 rfl (lv_at hl 0 rfl) ?_
                                          refine lv_iload hx hb dL_law_551 (lv_at hl 4 rfl) ?_
                                          refine lv_iconst (v := 2) hx hb dL_law_553 (by decide) ?_
                                          refine lv_iadd hx hb dL_law_554 ?_
                                          obtain ⟨hin, hf⟩ := ob_if hf
                                          refine va_sld hx hb hX hbl hbA hS (inb_in hin) dL_law_555 ?_
                                          obtain ⟨q556, hq, hf⟩ := ob_bind hf
                                          refine gL_Di (st := st) (k := 2) [.int (xs (x4 + 1).toNatClampNeg), .int (xs (x4 + 2).toNatClampNeg)] C0 hT hJ hE.1 hA hN (met_X7_file l dC dI cyI cyE tC ad st.1 (xs (x4 + 1).toNatClampNeg) (xs (x4 + 2).toNatClampNeg) _ hq) hP hS mc_X7_file ml_L_107 mi_X7_file ms_X7_file mz_X7 (by decide +kernel) ⟨rfl, rfl⟩ ⟨by decide, by decide⟩ rfl rfl hl.1 (Nat.le_of_ble_eq_true rfl) dL_law_556 ⟨by show cells ≤ 601024; omega, by show slots ≤ 7293034; omega⟩ (fun H locs hP hS => ?_)
                                          refine lv_pop hx hb dL_law_559 rfl ?_
                                          refine lv_aload_n hx hb dL_law_560 rfl (lv_at hl 2 rfl) ?_
                                          refine lv_aload_n hx hb dL_law_561 rfl (lv_at hl 0 rfl) ?_
                                          refine lv_iload hx hb dL_law_562 (lv_at hl 4 rfl) ?_
                                          refine lv_iconst (v := 1) hx hb dL_law_564 (by decide) ?_
                                          refine lv_iadd hx hb dL_law_565 ?_
                                          obtain ⟨hin, hf⟩ := ob_if hf
                                          refine va_sld hx hb hX hbl hbA hS (inb_in hin) dL_law_566 ?_
                                          refine lv_aload_n hx hb dL_law_567 rfl (lv_at hl 0 rfl) ?_
                                          refine lv_iload hx hb dL_law_568 (lv_at hl 4 rfl) ?_
                                          refine lv_iconst (v := 2) hx hb dL_law_570 (by decide) ?_
                                          refine lv_iadd hx hb dL_law_571 ?_
                                          obtain ⟨hin, hf⟩ := ob_if hf
                                          refine va_sld hx hb hX hbl hbA hS (inb_in hin) dL_law_572 ?_
                                          obtain ⟨q573, hq, hf⟩ := ob_bind hf
                                          refine gL_Mi (st := (q556.2, st.2)) (k := 2) [.int (xs (x4 + 1).toNatClampNeg), .int (xs (x4 + 2).toNatClampNeg)] C0 hT hJ hE.1 hA hN (met_X8_file l dC dI cyI cyE tC (aM ad) (q556.2, st.2).2.1 (xs (x4 + 1).toNatClampNeg) (xs (x4 + 2).toNatClampNeg) _ hq) hP hS mc_X8_file ml_L_110 mi_X8_file ms_X8_file mz_X8 (by decide +kernel) ⟨rfl, rfl⟩ ⟨by decide, by decide⟩ rfl rfl hl.1 (Nat.le_of_ble_eq_true rfl) dL_law_573 ⟨by show cells ≤ 601024; omega, by show slots ≤ 7293034; omega⟩ (fun H locs hP hS => ?_)
                                          refine lv_pop hx hb dL_law_576 rfl ?_
                                          refine lv_goto (tgt := 708) hx hb dL_law_577 (by decide) ?_
                                          refine lv_iinc (v := x4 + 6) (lv' := [(4, .int (x4 + 6)), (0, .ref b), (1, .ref (ad 76)), (2, .ref (ad (77 + 11))), (3, .ref (ad 89))]) hx hb dL_law_708 hl (k := 4) rfl rfl (by decide) rfl (fun ls hl => ?_)
                                          refine lv_goto (tgt := 23) hx hb dL_law_711 (by decide) ?_
                                          exact ih _ _ (cells) (slots) (by omega) (by omega) _ _ _ hP hS (lv_sub hl [1, 2, 3, 4, 0] rfl) hf
                                        · rw [if_neg h40_16] at hf
                                          by_cases h40_17 : ((xs x4.toNatClampNeg) &&& 31) = 17
                                          · rw [if_pos h40_17] at hf
                                            refine lv_tableIn (off := 540) (tgt := 580) hx hb dL_law_40 (fun q => h40 (Or.inl q)) (fun q => h40 (Or.inr q)) (by rw [h40_17]; rfl) (by decide) ?_
                                            refine lv_aload_n hx hb dL_law_580 rfl (lv_at hl 1 rfl) ?_
                                            refine lv_aload_n hx hb dL_law_581 rfl (lv_at hl 0 rfl) ?_
                                            refine lv_iload hx hb dL_law_582 (lv_at hl 4 rfl) ?_
                                            refine lv_iconst (v := 1) hx hb dL_law_584 (by decide) ?_
                                            refine lv_iadd hx hb dL_law_585 ?_
                                            obtain ⟨hin, hf⟩ := ob_if hf
                                            refine va_sld hx hb hX hbl hbA hS (inb_in hin) dL_law_586 ?_
                                            refine lv_aload_n hx hb dL_law_587 rfl (lv_at hl 0 rfl) ?_
                                            refine lv_iload hx hb dL_law_588 (lv_at hl 4 rfl) ?_
                                            refine lv_iconst (v := 2) hx hb dL_law_590 (by decide) ?_
                                            refine lv_iadd hx hb dL_law_591 ?_
                                            obtain ⟨hin, hf⟩ := ob_if hf
                                            refine va_sld hx hb hX hbl hbA hS (inb_in hin) dL_law_592 ?_
                                            refine lv_if_eq (tgt := 600) hx hb dL_law_593 (by decide) (fun h593 => ?_) (fun h593 => ?_)
                                            · rw [if_pos h593] at hf
                                              refine lv_iconst (v := 0) hx hb dL_law_600 (by decide) ?_
                                              refine lv_aload_n hx hb dL_law_601 rfl (lv_at hl 0 rfl) ?_
                                              refine lv_iload hx hb dL_law_602 (lv_at hl 4 rfl) ?_
                                              refine lv_iconst (v := 3) hx hb dL_law_604 (by decide) ?_
                                              refine lv_iadd hx hb dL_law_605 ?_
                                              obtain ⟨hin, hf⟩ := ob_if hf
                                              refine va_sld hx hb hX hbl hbA hS (inb_in hin) dL_law_606 ?_
                                              obtain ⟨q607, hq, hf⟩ := ob_bind hf
                                              refine gL_Di (st := st) (k := 3) [.int (xs (x4 + 1).toNatClampNeg), .int 0, .int (xs (x4 + 3).toNatClampNeg)] C0 hT hJ hE.1 hA hN (met_X7_letter l dC dI cyI cyE tC ad st.1 (xs (x4 + 1).toNatClampNeg) 0 (xs (x4 + 3).toNatClampNeg) _ hq) hP hS mc_X7_letter ml_L_111 mi_X7_letter ms_X7_letter mz_X7 (by decide +kernel) ⟨rfl, rfl⟩ ⟨by decide, by decide⟩ rfl rfl hl.1 (Nat.le_of_ble_eq_true rfl) dL_law_607 ⟨by show cells ≤ 601024; omega, by show slots ≤ 7293034; omega⟩ (fun H locs hP hS => ?_)
                                              refine lv_pop hx hb dL_law_610 rfl ?_
                                              refine lv_aload_n hx hb dL_law_611 rfl (lv_at hl 2 rfl) ?_
                                              refine lv_aload_n hx hb dL_law_612 rfl (lv_at hl 0 rfl) ?_
                                              refine lv_iload hx hb dL_law_613 (lv_at hl 4 rfl) ?_
                                              refine lv_iconst (v := 1) hx hb dL_law_615 (by decide) ?_
                                              refine lv_iadd hx hb dL_law_616 ?_
                                              obtain ⟨hin, hf⟩ := ob_if hf
                                              refine va_sld hx hb hX hbl hbA hS (inb_in hin) dL_law_617 ?_
                                              refine lv_aload_n hx hb dL_law_618 rfl (lv_at hl 0 rfl) ?_
                                              refine lv_iload hx hb dL_law_619 (lv_at hl 4 rfl) ?_
                                              refine lv_iconst (v := 2) hx hb dL_law_621 (by decide) ?_
                                              refine lv_iadd hx hb dL_law_622 ?_
                                              obtain ⟨hin, hf⟩ := ob_if hf
                                              refine va_sld hx hb hX hbl hbA hS (inb_in hin) dL_law_623 ?_
                                              refine lv_if_eq (tgt := 631) hx hb dL_law_624 (by decide) (fun h624 => ?_) (fun h624 => ?_)
                                              · rw [if_pos h624] at hf
                                                refine lv_iconst (v := 0) hx hb dL_law_631 (by decide) ?_
                                                refine lv_aload_n hx hb dL_law_632 rfl (lv_at hl 0 rfl) ?_
                                                refine lv_iload hx hb dL_law_633 (lv_at hl 4 rfl) ?_
                                                refine lv_iconst (v := 3) hx hb dL_law_635 (by decide) ?_
                                                refine lv_iadd hx hb dL_law_636 ?_
                                                obtain ⟨hin, hf⟩ := ob_if hf
                                                refine va_sld hx hb hX hbl hbA hS (inb_in hin) dL_law_637 ?_
                                                obtain ⟨q638, hq, hf⟩ := ob_bind hf
                                                refine gL_Mi (st := (q607.2, st.2)) (k := 3) [.int (xs (x4 + 1).toNatClampNeg), .int 0, .int (xs (x4 + 3).toNatClampNeg)] C0 hT hJ hE.1 hA hN (met_X8_letter l dC dI cyI cyE tC (aM ad) (q607.2, st.2).2.1 (xs (x4 + 1).toNatClampNeg) 0 (xs (x4 + 3).toNatClampNeg) _ hq) hP hS mc_X8_letter ml_L_115 mi_X8_letter ms_X8_letter mz_X8 (by decide +kernel) ⟨rfl, rfl⟩ ⟨by decide, by decide⟩ rfl rfl hl.1 (Nat.le_of_ble_eq_true rfl) dL_law_638 ⟨by show cells ≤ 601024; omega, by show slots ≤ 7293034; omega⟩ (fun H locs hP hS => ?_)
                                                refine lv_pop hx hb dL_law_641 rfl ?_
                                                refine lv_goto (tgt := 708) hx hb dL_law_642 (by decide) ?_
                                                refine lv_iinc (v := x4 + 6) (lv' := [(4, .int (x4 + 6)), (0, .ref b), (1, .ref (ad 76)), (2, .ref (ad (77 + 11))), (3, .ref (ad 89))]) hx hb dL_law_708 hl (k := 4) rfl rfl (by decide) rfl (fun ls hl => ?_)
                                                refine lv_goto (tgt := 23) hx hb dL_law_711 (by decide) ?_
                                                exact ih _ _ (cells) (slots) (by omega) (by omega) _ _ _ hP hS (lv_sub hl [1, 2, 3, 4, 0] rfl) hf
                                              · rw [if_neg h624] at hf
                                                refine lv_iconst (v := 1) hx hb dL_law_627 (by decide) ?_
                                                refine lv_goto (tgt := 632) hx hb dL_law_628 (by decide) ?_
                                                refine lv_aload_n hx hb dL_law_632 rfl (lv_at hl 0 rfl) ?_
                                                refine lv_iload hx hb dL_law_633 (lv_at hl 4 rfl) ?_
                                                refine lv_iconst (v := 3) hx hb dL_law_635 (by decide) ?_
                                                refine lv_iadd hx hb dL_law_636 ?_
                                                obtain ⟨hin, hf⟩ := ob_if hf
                                                refine va_sld hx hb hX hbl hbA hS (inb_in hin) dL_law_637 ?_
                                                obtain ⟨q638, hq, hf⟩ := ob_bind hf
                                                refine gL_Mi (st := (q607.2, st.2)) (k := 3) [.int (xs (x4 + 1).toNatClampNeg), .int 1, .int (xs (x4 + 3).toNatClampNeg)] C0 hT hJ hE.1 hA hN (met_X8_letter l dC dI cyI cyE tC (aM ad) (q607.2, st.2).2.1 (xs (x4 + 1).toNatClampNeg) 1 (xs (x4 + 3).toNatClampNeg) _ hq) hP hS mc_X8_letter ml_L_115 mi_X8_letter ms_X8_letter mz_X8 (by decide +kernel) ⟨rfl, rfl⟩ ⟨by decide, by decide⟩ rfl rfl hl.1 (Nat.le_of_ble_eq_true rfl) dL_law_638 ⟨by show cells ≤ 601024; omega, by show slots ≤ 7293034; omega⟩ (fun H locs hP hS => ?_)
                                                refine lv_pop hx hb dL_law_641 rfl ?_
                                                refine lv_goto (tgt := 708) hx hb dL_law_642 (by decide) ?_
                                                refine lv_iinc (v := x4 + 6) (lv' := [(4, .int (x4 + 6)), (0, .ref b), (1, .ref (ad 76)), (2, .ref (ad (77 + 11))), (3, .ref (ad 89))]) hx hb dL_law_708 hl (k := 4) rfl rfl (by decide) rfl (fun ls hl => ?_)
                                                refine lv_goto (tgt := 23) hx hb dL_law_711 (by decide) ?_
                                                exact ih _ _ (cells) (slots) (by omega) (by omega) _ _ _ hP hS (lv_sub hl [1, 2, 3, 4, 0] rfl) hf
                                            · rw [if_neg h593] at hf
                                              refine lv_iconst (v := 1) hx hb dL_law_596 (by decide) ?_
                                              refine lv_goto (tgt := 601) hx hb dL_law_597 (by decide) ?_
                                              refine lv_aload_n hx hb dL_law_601 rfl (lv_at hl 0 rfl) ?_
                                              refine lv_iload hx hb dL_law_602 (lv_at hl 4 rfl) ?_
                                              refine lv_iconst (v := 3) hx hb dL_law_604 (by decide) ?_
                                              refine lv_iadd hx hb dL_law_605 ?_
                                              obtain ⟨hin, hf⟩ := ob_if hf
                                              refine va_sld hx hb hX hbl hbA hS (inb_in hin) dL_law_606 ?_
                                              obtain ⟨q607, hq, hf⟩ := ob_bind hf
                                              refine gL_Di (st := st) (k := 3) [.int (xs (x4 + 1).toNatClampNeg), .int 1, .int (xs (x4 + 3).toNatClampNeg)] C0 hT hJ hE.1 hA hN (met_X7_letter l dC dI cyI cyE tC ad st.1 (xs (x4 + 1).toNatClampNeg) 1 (xs (x4 + 3).toNatClampNeg) _ hq) hP hS mc_X7_letter ml_L_111 mi_X7_letter ms_X7_letter mz_X7 (by decide +kernel) ⟨rfl, rfl⟩ ⟨by decide, by decide⟩ rfl rfl hl.1 (Nat.le_of_ble_eq_true rfl) dL_law_607 ⟨by show cells ≤ 601024; omega, by show slots ≤ 7293034; omega⟩ (fun H locs hP hS => ?_)
                                              refine lv_pop hx hb dL_law_610 rfl ?_
                                              refine lv_aload_n hx hb dL_law_611 rfl (lv_at hl 2 rfl) ?_
                                              refine lv_aload_n hx hb dL_law_612 rfl (lv_at hl 0 rfl) ?_
                                              refine lv_iload hx hb dL_law_613 (lv_at hl 4 rfl) ?_
                                              refine lv_iconst (v := 1) hx hb dL_law_615 (by decide) ?_
                                              refine lv_iadd hx hb dL_law_616 ?_
                                              obtain ⟨hin, hf⟩ := ob_if hf
                                              refine va_sld hx hb hX hbl hbA hS (inb_in hin) dL_law_617 ?_
                                              refine lv_aload_n hx hb dL_law_618 rfl (lv_at hl 0 rfl) ?_
                                              refine lv_iload hx hb dL_law_619 (lv_at hl 4 rfl) ?_
                                              refine lv_iconst (v := 2) hx hb dL_law_621 (by decide) ?_
                                              refine lv_iadd hx hb dL_law_622 ?_
                                              obtain ⟨hin, hf⟩ := ob_if hf
                                              refine va_sld hx hb hX hbl hbA hS (inb_in hin) dL_law_623 ?_
                                              refine lv_if_eq (tgt := 631) hx hb dL_law_624 (by decide) (fun h624 => ?_) (fun h624 => ?_)
                                              · rw [if_pos h624] at hf
                                                refine lv_iconst (v := 0) hx hb dL_law_631 (by decide) ?_
                                                refine lv_aload_n hx hb dL_law_632 rfl (lv_at hl 0 rfl) ?_
                                                refine lv_iload hx hb dL_law_633 (lv_at hl 4 rfl) ?_
                                                refine lv_iconst (v := 3) hx hb dL_law_635 (by decide) ?_
                                                refine lv_iadd hx hb dL_law_636 ?_
                                                obtain ⟨hin, hf⟩ := ob_if hf
                                                refine va_sld hx hb hX hbl hbA hS (inb_in hin) dL_law_637 ?_
                                                obtain ⟨q638, hq, hf⟩ := ob_bind hf
                                                refine gL_Mi (st := (q607.2, st.2)) (k := 3) [.int (xs (x4 + 1).toNatClampNeg), .int 0, .int (xs (x4 + 3).toNatClampNeg)] C0 hT hJ hE.1 hA hN (met_X8_letter l dC dI cyI cyE tC (aM ad) (q607.2, st.2).2.1 (xs (x4 + 1).toNatClampNeg) 0 (xs (x4 + 3).toNatClampNeg) _ hq) hP hS mc_X8_letter ml_L_115 mi_X8_letter ms_X8_letter mz_X8 (by decide +kernel) ⟨rfl, rfl⟩ ⟨by decide, by decide⟩ rfl rfl hl.1 (Nat.le_of_ble_eq_true rfl) dL_law_638 ⟨by show cells ≤ 601024; omega, by show slots ≤ 7293034; omega⟩ (fun H locs hP hS => ?_)
                                                refine lv_pop hx hb dL_law_641 rfl ?_
                                                refine lv_goto (tgt := 708) hx hb dL_law_642 (by decide) ?_
                                                refine lv_iinc (v := x4 + 6) (lv' := [(4, .int (x4 + 6)), (0, .ref b), (1, .ref (ad 76)), (2, .ref (ad (77 + 11))), (3, .ref (ad 89))]) hx hb dL_law_708 hl (k := 4) rfl rfl (by decide) rfl (fun ls hl => ?_)
                                                refine lv_goto (tgt := 23) hx hb dL_law_711 (by decide) ?_
                                                exact ih _ _ (cells) (slots) (by omega) (by omega) _ _ _ hP hS (lv_sub hl [1, 2, 3, 4, 0] rfl) hf
                                              · rw [if_neg h624] at hf
                                                refine lv_iconst (v := 1) hx hb dL_law_627 (by decide) ?_
                                                refine lv_goto (tgt := 632) hx hb dL_law_628 (by decide) ?_
                                                refine lv_aload_n hx hb dL_law_632 rfl (lv_at hl 0 rfl) ?_
                                                refine lv_iload hx hb dL_law_633 (lv_at hl 4 rfl) ?_
                                                refine lv_iconst (v := 3) hx hb dL_law_635 (by decide) ?_
                                                refine lv_iadd hx hb dL_law_636 ?_
                                                obtain ⟨hin, hf⟩ := ob_if hf
                                                refine va_sld hx hb hX hbl hbA hS (inb_in hin) dL_law_637 ?_
                                                obtain ⟨q638, hq, hf⟩ := ob_bind hf
                                                refine gL_Mi (st := (q607.2, st.2)) (k := 3) [.int (xs (x4 + 1).toNatClampNeg), .int 1, .int (xs (x4 + 3).toNatClampNeg)] C0 hT hJ hE.1 hA hN (met_X8_letter l dC dI cyI cyE tC (aM ad) (q607.2, st.2).2.1 (xs (x4 + 1).toNatClampNeg) 1 (xs (x4 + 3).toNatClampNeg) _ hq) hP hS mc_X8_letter ml_L_115 mi_X8_letter ms_X8_letter mz_X8 (by decide +kernel) ⟨rfl, rfl⟩ ⟨by decide, by decide⟩ rfl rfl hl.1 (Nat.le_of_ble_eq_true rfl) dL_law_638 ⟨by show cells ≤ 601024; omega, by show slots ≤ 7293034; omega⟩ (fun H locs hP hS => ?_)
                                                refine lv_pop hx hb dL_law_641 rfl ?_
                                                refine lv_goto (tgt := 708) hx hb dL_law_642 (by decide) ?_
                                                refine lv_iinc (v := x4 + 6) (lv' := [(4, .int (x4 + 6)), (0, .ref b), (1, .ref (ad 76)), (2, .ref (ad (77 + 11))), (3, .ref (ad 89))]) hx hb dL_law_708 hl (k := 4) rfl rfl (by decide) rfl (fun ls hl => ?_)
                                                refine lv_goto (tgt := 23) hx hb dL_law_711 (by decide) ?_
                                                exact ih _ _ (cells) (slots) (by omega) (by omega) _ _ _ hP hS (lv_sub hl [1, 2, 3, 4, 0] rfl) hf
                                          · rw [if_neg h40_17] at hf
                                            by_cases h40_18 : ((xs x4.toNatClampNeg) &&& 31) = 18
                                            · rw [if_pos h40_18] at hf
                                              refine lv_tableIn (off := 605) (tgt := 645) hx hb dL_law_40 (fun q => h40 (Or.inl q)) (fun q => h40 (Or.inr q)) (by rw [h40_18]; rfl) (by decide) ?_
                                              refine lv_aload_n hx hb dL_law_645 rfl (lv_at hl 1 rfl) ?_
                                              obtain ⟨q646, hq, hf⟩ := ob_bind hf
                                              refine gL_Di (st := st) (k := 0) [] C0 hT hJ hE.1 hA hN (met_X7_find l dC dI cyI cyE tC ad st.1 _ hq) hP hS mc_X7_find ml_L_116 mi_X7_find ms_X7_find mz_X7 (by decide +kernel) ⟨rfl, rfl⟩ ⟨by decide, by decide⟩ rfl rfl hl.1 (Nat.le_of_ble_eq_true rfl) dL_law_646 ⟨by show cells ≤ 601024; omega, by show slots ≤ 7293034; omega⟩ (fun H locs hP hS => ?_)
                                              refine lv_pop hx hb dL_law_649 rfl ?_
                                              refine lv_aload_n hx hb dL_law_650 rfl (lv_at hl 2 rfl) ?_
                                              obtain ⟨q651, hq, hf⟩ := ob_bind hf
                                              refine gL_Mi (st := (q646.2, st.2)) (k := 0) [] C0 hT hJ hE.1 hA hN (met_X8_find l dC dI cyI cyE tC (aM ad) (q646.2, st.2).2.1 _ hq) hP hS mc_X8_find ml_L_119 mi_X8_find ms_X8_find mz_X8 (by decide +kernel) ⟨rfl, rfl⟩ ⟨by decide, by decide⟩ rfl rfl hl.1 (Nat.le_of_ble_eq_true rfl) dL_law_651 ⟨by show cells ≤ 601024; omega, by show slots ≤ 7293034; omega⟩ (fun H locs hP hS => ?_)
                                              refine lv_pop hx hb dL_law_654 rfl ?_
                                              refine lv_goto (tgt := 708) hx hb dL_law_655 (by decide) ?_
                                              refine lv_iinc (v := x4 + 6) (lv' := [(4, .int (x4 + 6)), (0, .ref b), (1, .ref (ad 76)), (2, .ref (ad (77 + 11))), (3, .ref (ad 89))]) hx hb dL_law_708 hl (k := 4) rfl rfl (by decide) rfl (fun ls hl => ?_)
                                              refine lv_goto (tgt := 23) hx hb dL_law_711 (by decide) ?_
                                              exact ih _ _ (cells) (slots) (by omega) (by omega) _ _ _ hP hS (lv_sub hl [1, 2, 3, 4, 0] rfl) hf
                                            · rw [if_neg h40_18] at hf
                                              by_cases h40_19 : ((xs x4.toNatClampNeg) &&& 31) = 19
                                              · rw [if_pos h40_19] at hf
                                                refine lv_tableIn (off := 618) (tgt := 658) hx hb dL_law_40 (fun q => h40 (Or.inl q)) (fun q => h40 (Or.inr q)) (by rw [h40_19]; rfl) (by decide) ?_
                                                refine lv_aload_n hx hb dL_law_658 rfl (lv_at hl 1 rfl) ?_
                                                refine lv_aload_n hx hb dL_law_659 rfl (lv_at hl 0 rfl) ?_
                                                refine lv_iload hx hb dL_law_660 (lv_at hl 4 rfl) ?_
                                                refine lv_iconst (v := 1) hx hb dL_law_662 (by decide) ?_
                                                refine lv_iadd hx hb dL_law_663 ?_
                                                obtain ⟨hin, hf⟩ := ob_if hf
                                                refine va_sld hx hb hX hbl hbA hS (inb_in hin) dL_law_664 ?_
                                                obtain ⟨q665, hq, hf⟩ := ob_bind hf
                                                refine gL_Di (st := st) (k := 1) [.int (xs (x4 + 1).toNatClampNeg)] C0 hT hJ hE.1 hA hN (met_X7_output l dC dI cyI cyE tC ad st.1 (xs (x4 + 1).toNatClampNeg) _ hq) hP hS mc_X7_output ml_L_120 mi_X7_output ms_X7_output mz_X7 (by decide +kernel) ⟨rfl, rfl⟩ ⟨by decide, by decide⟩ rfl rfl hl.1 (Nat.le_of_ble_eq_true rfl) dL_law_665 ⟨by show cells ≤ 601024; omega, by show slots ≤ 7293034; omega⟩ (fun H locs hP hS => ?_)
                                                refine lv_pop hx hb dL_law_668 rfl ?_
                                                refine lv_aload_n hx hb dL_law_669 rfl (lv_at hl 2 rfl) ?_
                                                refine lv_aload_n hx hb dL_law_670 rfl (lv_at hl 0 rfl) ?_
                                                refine lv_iload hx hb dL_law_671 (lv_at hl 4 rfl) ?_
                                                refine lv_iconst (v := 1) hx hb dL_law_673 (by decide) ?_
                                                refine lv_iadd hx hb dL_law_674 ?_
                                                obtain ⟨hin, hf⟩ := ob_if hf
                                                refine va_sld hx hb hX hbl hbA hS (inb_in hin) dL_law_675 ?_
                                                obtain ⟨q676, hq, hf⟩ := ob_bind hf
                                                refine gL_Mi (st := (q665.2, st.2)) (k := 1) [.int (xs (x4 + 1).toNatClampNeg)] C0 hT hJ hE.1 hA hN (met_X8_output l dC dI cyI cyE tC (aM ad) (q665.2, st.2).2.1 (xs (x4 + 1).toNatClampNeg) _ hq) hP hS mc_X8_output ml_L_123 mi_X8_output ms_X8_output mz_X8 (by decide +kernel) ⟨rfl, rfl⟩ ⟨by decide, by decide⟩ rfl rfl hl.1 (Nat.le_of_ble_eq_true rfl) dL_law_676 ⟨by show cells ≤ 601024; omega, by show slots ≤ 7293034; omega⟩ (fun H locs hP hS => ?_)
                                                refine lv_pop hx hb dL_law_679 rfl ?_
                                                refine lv_goto (tgt := 708) hx hb dL_law_680 (by decide) ?_
                                                refine lv_iinc (v := x4 + 6) (lv' := [(4, .int (x4 + 6)), (0, .ref b), (1, .ref (ad 76)), (2, .ref (ad (77 + 11))), (3, .ref (ad 89))]) hx hb dL_law_708 hl (k := 4) rfl rfl (by decide) rfl (fun ls hl => ?_)
                                                refine lv_goto (tgt := 23) hx hb dL_law_711 (by decide) ?_
                                                exact ih _ _ (cells) (slots) (by omega) (by omega) _ _ _ hP hS (lv_sub hl [1, 2, 3, 4, 0] rfl) hf
                                              · rw [if_neg h40_19] at hf
                                                by_cases h40_20 : ((xs x4.toNatClampNeg) &&& 31) = 20
                                                · rw [if_pos h40_20] at hf
                                                  refine lv_tableIn (off := 643) (tgt := 683) hx hb dL_law_40 (fun q => h40 (Or.inl q)) (fun q => h40 (Or.inr q)) (by rw [h40_20]; rfl) (by decide) ?_
                                                  refine lv_aload_n hx hb dL_law_683 rfl (lv_at hl 1 rfl) ?_
                                                  refine lv_aload_n hx hb dL_law_684 rfl (lv_at hl 0 rfl) ?_
                                                  refine lv_iload hx hb dL_law_685 (lv_at hl 4 rfl) ?_
                                                  refine lv_iconst (v := 1) hx hb dL_law_687 (by decide) ?_
                                                  refine lv_iadd hx hb dL_law_688 ?_
                                                  obtain ⟨hin, hf⟩ := ob_if hf
                                                  refine va_sld hx hb hX hbl hbA hS (inb_in hin) dL_law_689 ?_
                                                  obtain ⟨q690, hq, hf⟩ := ob_bind hf
                                                  refine gL_Di (st := st) (k := 1) [.int (xs (x4 + 1).toNatClampNeg)] C0 hT hJ hE.1 hA hN (met_X7_about l dC dI cyI cyE tC ad st.1 (xs (x4 + 1).toNatClampNeg) _ hq) hP hS mc_X7_about ml_L_124 mi_X7_about ms_X7_about mz_X7 (by decide +kernel) ⟨rfl, rfl⟩ ⟨by decide, by decide⟩ rfl rfl hl.1 (Nat.le_of_ble_eq_true rfl) dL_law_690 ⟨by show cells ≤ 601024; omega, by show slots ≤ 7293034; omega⟩ (fun H locs hP hS => ?_)
                                                  refine lv_pop hx hb dL_law_693 rfl ?_
                                                  refine lv_aload_n hx hb dL_law_694 rfl (lv_at hl 2 rfl) ?_
                                                  refine lv_aload_n hx hb dL_law_695 rfl (lv_at hl 0 rfl) ?_
                                                  refine lv_iload hx hb dL_law_696 (lv_at hl 4 rfl) ?_
                                                  refine lv_iconst (v := 1) hx hb dL_law_698 (by decide) ?_
                                                  refine lv_iadd hx hb dL_law_699 ?_
                                                  obtain ⟨hin, hf⟩ := ob_if hf
                                                  refine va_sld hx hb hX hbl hbA hS (inb_in hin) dL_law_700 ?_
                                                  obtain ⟨q701, hq, hf⟩ := ob_bind hf
                                                  refine gL_Mi (st := (q690.2, st.2)) (k := 1) [.int (xs (x4 + 1).toNatClampNeg)] C0 hT hJ hE.1 hA hN (met_X8_about l dC dI cyI cyE tC (aM ad) (q690.2, st.2).2.1 (xs (x4 + 1).toNatClampNeg) _ hq) hP hS mc_X8_about ml_L_127 mi_X8_about ms_X8_about mz_X8 (by decide +kernel) ⟨rfl, rfl⟩ ⟨by decide, by decide⟩ rfl rfl hl.1 (Nat.le_of_ble_eq_true rfl) dL_law_701 ⟨by show cells ≤ 601024; omega, by show slots ≤ 7293034; omega⟩ (fun H locs hP hS => ?_)
                                                  refine lv_pop hx hb dL_law_704 rfl ?_
                                                  refine lv_goto (tgt := 708) hx hb dL_law_705 (by decide) ?_
                                                  refine lv_iinc (v := x4 + 6) (lv' := [(4, .int (x4 + 6)), (0, .ref b), (1, .ref (ad 76)), (2, .ref (ad (77 + 11))), (3, .ref (ad 89))]) hx hb dL_law_708 hl (k := 4) rfl rfl (by decide) rfl (fun ls hl => ?_)
                                                  refine lv_goto (tgt := 23) hx hb dL_law_711 (by decide) ?_
                                                  exact ih _ _ (cells) (slots) (by omega) (by omega) _ _ _ hP hS (lv_sub hl [1, 2, 3, 4, 0] rfl) hf
                                                · rw [if_neg h40_20] at hf
                                                  cases hf
