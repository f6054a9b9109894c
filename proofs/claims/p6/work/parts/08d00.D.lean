def f_X4_at (σ : SD) (r0 : Nat) (x1 : Int32) : Option (Int32 × SD) := if x1 < 0 then (some ((-1), σ)) else (if (σ.1 0 r0) ≤ x1 then (some ((-1), σ)) else (if inb x1 (capD r0) = true then (some (σ.2.2.1 r0 x1.toNatClampNeg, σ)) else none))
def rm_X4_at : Room := { frames := 0, cells := 0, slots := 0, locals := 0 }
set_option maxHeartbeats 4000000 in
set_option maxRecDepth 100000 in
theorem met_X4_at (l : Launch) (dC : Nat → ClassId) (dI : Nat → Nat → Nat) (cyI cyE : ClassId) (tC : Nat) (ad : Nat → Nat) (σ : SD) (r0 : Nat) (x1 : Int32) (hb_r0 : r0 < 25) (res : Int32 × SD) (hf : f_X4_at σ r0 x1 = some res) : ax_Mi l dC dI cyI cyE tC 77 (cD cyI cyE ad) ad yX4_at cX4_at 2 (some .int) rm_X4_at [.ref (ad r0), .int x1] σ res.1 res.2 := by
  intro sz
  refine Met.ofW (cc := cX4_at) (maxL := 2) (ret := (some .int)) (by decide) rfl ?_
  intro p e s m args below meth c s₁ B hml hv
  obtain ⟨hargs, hsz, hP, hJ, hE⟩ := hv
  subst hsz
  have hx := B.exec
  have hb := B.bytes
  have hr := B.returns
  have hlocks := B.notSynchronized
  have hts := atoms_spec (ws := wsY yX4_at cX4_at 2 (some .int)) B.pre
  have hown : s.vm.findClass RX4 = some m.cls := findClass_of_methodNamed B.named
  have C0 : CallFix p m c cX4_at 2 s args (wsY yX4_at cX4_at 2 (some .int)) RX4 := ⟨hx, hb, hml, hown, hts⟩
  have hT : ∀ w ∈ bw, w ∈ wsY yX4_at cX4_at 2 (some .int) := fun w h => List.mem_cons_of_mem _ h
  have hS : va_S (ax_A 77 ad s.heap.size) s.heap s.heap [] := va_S.rf
  rw [show entryFrame m args 2 = entryFrame m ([.ref (ad r0), .int x1] : List Value).toArray 2 by rw [hargs]]
  have hl := lv_entry ([.ref (ad r0), .int x1]) (n := 2) (Nat.le_of_ble_eq_true rfl)
  rw [lg_entry_eq]
  generalize (lg_sl ([.ref (ad r0), .int x1]) ++ List.replicate (2 - (lg_sl ([.ref (ad r0), .int x1])).length) Slot.unset).toArray = ls at hl ⊢
  have hl : lv_has ls 2 [(0, .ref (ad r0)), (1, .int x1)] := hl
  obtain ⟨Q, hQ⟩ : ∃ Q : State → Prop, Q = MQ below (va_Qi (fun (a : Int32) (u : SD) => a = res.1 ∧ u = res.2) (ax_B dC dI 77 (cD cyI cyE ad) ad) (ax_A 77 ad s.heap.size)) args s 0 0 (ax_A 77 ad s.heap.size) := ⟨_, rfl⟩
  show W p l e rm_X4_at s m args below meth c s.heap [] 0 0 _ _
  rw [← hQ]
  have hret : ∀ (v : Int32) (σ : SD) (H : Heap) (locs : List Loc) (ls : Array Slot) (pc : Nat), narrow .int (.int v) = .int v → some (v, σ) = some res → va_P (dC, dI) vwCl (ax_w 77 ad (cD cyI cyE ad σ)) H → va_S (ax_A 77 ad s.heap.size) s.heap H locs → decode cX4_at pc = .ok (.ireturn, 1) → W p l e rm_X4_at s m args below meth c H locs 0 0 Q (F0 m pc ls [.int v]) := by
    intro v σ H locs ls pc hn hf hP hS hd
    cases hf
    rw [hQ]
    exact ax_iret hx hb hr hlocks hn hP hS hd rfl rfl
  unfold f_X4_at at hf
  refine lv_iload_n hx hb dX4_at_0 rfl (lv_at hl 1 rfl) ?_
  refine lv_if_lt (tgt := 21) hx hb dX4_at_1 (by decide) (fun h1 => ?_) (fun h1 => ?_)
  · rw [if_pos h1] at hf
    refine lv_iconst (v := (-1)) hx hb dX4_at_21 (by decide) ?_
    exact hret _ _ _ _ _ _ rfl hf hP hS dX4_at_22
  · rw [if_neg h1] at hf
    refine lv_iload_n hx hb dX4_at_4 rfl (lv_at hl 1 rfl) ?_
    refine lv_aload_n hx hb dX4_at_5 rfl (lv_at hl 0 rfl) ?_
    refine g_Row_size (r := r0) (by omega) C0 hT hE hP mf_X4_21 dX4_at_6 ?_
    refine lv_icmp_ge (tgt := 21) hx hb dX4_at_9 (by decide) (fun h9 => ?_) (fun h9 => ?_)
    · rw [if_pos h9] at hf
      refine lv_iconst (v := (-1)) hx hb dX4_at_21 (by decide) ?_
      exact hret _ _ _ _ _ _ rfl hf hP hS dX4_at_22
    · rw [if_neg h9] at hf
      refine lv_aload_n hx hb dX4_at_12 rfl (lv_at hl 0 rfl) ?_
      refine g_Row_cells (r := r0) (by omega) C0 hT hE hP mf_X4_15 dX4_at_13 ?_
      refine lv_iload_n hx hb dX4_at_16 rfl (lv_at hl 1 rfl) ?_
      obtain ⟨hin, hf⟩ := ob_if hf
      refine aD_ld (a := r0) (by omega) C0 hT hE hP (inb_in hin) dX4_at_17 ?_
      refine lv_goto (tgt := 22) hx hb dX4_at_18 (by decide) ?_
      exact hret _ _ _ _ _ _ rfl hf hP hS dX4_at_22
def f_X0_crc_5 (r0 : Nat) (x1 : Int32) (x2 : Int32) : Nat → SD → Int32 → Int32 → Option (Int32 × SD)
  | 0, _, _, _ => none
  | n + 1, σ, x3, x4 => if x2 ≤ x4 then (some (x3 ^^^ (-1), σ)) else ((f_X4_at σ r0 (x1 + x4)).bind fun q17 => if inb ((x3 ^^^ q17.1) &&& 15) 16 = true then (if inb (((((x3 ^^^ q17.1).toUInt32 >>> ((4 : Int32).toUInt32 &&& Int32.toUInt32 31)).toInt32) ^^^ (ax_crc ((x3 ^^^ q17.1) &&& 15).toNatClampNeg)) &&& 15) 16 = true then (f_X0_crc_5 r0 x1 x2 n q17.2 (((((((x3 ^^^ q17.1).toUInt32 >>> ((4 : Int32).toUInt32 &&& Int32.toUInt32 31)).toInt32) ^^^ (ax_crc ((x3 ^^^ q17.1) &&& 15).toNatClampNeg)).toUInt32 >>> ((4 : Int32).toUInt32 &&& Int32.toUInt32 31)).toInt32) ^^^ (ax_crc (((((x3 ^^^ q17.1).toUInt32 >>> ((4 : Int32).toUInt32 &&& Int32.toUInt32 31)).toInt32) ^^^ (ax_crc ((x3 ^^^ q17.1) &&& 15).toNatClampNeg)) &&& 15).toNatClampNeg)) (x4 + 1)) else none) else none)
def f_X0_crc (σ : SD) (r0 : Nat) (x1 : Int32) (x2 : Int32) : Option (Int32 × SD) := f_X0_crc_5 r0 x1 x2 fu σ (-1) 0
def rm_X0_crc : Room := { frames := 1, cells := 0, slots := 0, locals := 21 }
set_option maxHeartbeats 4000000 in
set_option maxRecDepth 100000 in
theorem met_X0_crc (l : Launch) (dC : Nat → ClassId) (dI : Nat → Nat → Nat) (cyI cyE : ClassId) (tC : Nat) (ad : Nat → Nat) (σ : SD) (r0 : Nat) (x1 : Int32) (x2 : Int32) (hb_r0 : r0 < 25) (res : Int32 × SD) (hf : f_X0_crc σ r0 x1 x2 = some res) : ax_Mi l dC dI cyI cyE tC 77 (cD cyI cyE ad) ad yX0_crc cX0_crc 5 (some .int) rm_X0_crc [.ref (ad r0), .int x1, .int x2] σ res.1 res.2 := by
  intro sz
  refine Met.ofW (cc := cX0_crc) (maxL := 5) (ret := (some .int)) (by decide) rfl ?_
  intro p e s m args below meth c s₁ B hml hv
  obtain ⟨hargs, hsz, hP, hJ, hE⟩ := hv
  subst hsz
  have hx := B.exec
  have hb := B.bytes
  have hr := B.returns
  have hlocks := B.notSynchronized
  have hts := atoms_spec (ws := wsY yX0_crc cX0_crc 5 (some .int)) B.pre
  have hown : s.vm.findClass RX0 = some m.cls := findClass_of_methodNamed B.named
  have C0 : CallFix p m c cX0_crc 5 s args (wsY yX0_crc cX0_crc 5 (some .int)) RX0 := ⟨hx, hb, hml, hown, hts⟩
  have hT : ∀ w ∈ bw, w ∈ wsY yX0_crc cX0_crc 5 (some .int) := fun w h => List.mem_cons_of_mem _ h
  have hS : va_S (ax_A 77 ad s.heap.size) s.heap s.heap [] := va_S.rf
  rw [show entryFrame m args 5 = entryFrame m ([.ref (ad r0), .int x1, .int x2] : List Value).toArray 5 by rw [hargs]]
  have hl := lv_entry ([.ref (ad r0), .int x1, .int x2]) (n := 5) (Nat.le_of_ble_eq_true rfl)
  rw [lg_entry_eq]
  generalize (lg_sl ([.ref (ad r0), .int x1, .int x2]) ++ List.replicate (5 - (lg_sl ([.ref (ad r0), .int x1, .int x2])).length) Slot.unset).toArray = ls at hl ⊢
  have hl : lv_has ls 5 [(0, .ref (ad r0)), (1, .int x1), (2, .int x2)] := hl
  obtain ⟨Q, hQ⟩ : ∃ Q : State → Prop, Q = MQ below (va_Qi (fun (a : Int32) (u : SD) => a = res.1 ∧ u = res.2) (ax_B dC dI 77 (cD cyI cyE ad) ad) (ax_A 77 ad s.heap.size)) args s 0 0 (ax_A 77 ad s.heap.size) := ⟨_, rfl⟩
  show W p l e rm_X0_crc s m args below meth c s.heap [] 0 0 _ _
  rw [← hQ]
  have hret : ∀ (v : Int32) (σ : SD) (H : Heap) (locs : List Loc) (ls : Array Slot) (pc : Nat), narrow .int (.int v) = .int v → some (v, σ) = some res → va_P (dC, dI) vwCl (ax_w 77 ad (cD cyI cyE ad σ)) H → va_S (ax_A 77 ad s.heap.size) s.heap H locs → decode cX0_crc pc = .ok (.ireturn, 1) → W p l e rm_X0_crc s m args below meth c H locs 0 0 Q (F0 m pc ls [.int v]) := by
    intro v σ H locs ls pc hn hf hP hS hd
    cases hf
    rw [hQ]
    exact ax_iret hx hb hr hlocks hn hP hS hd rfl rfl
  have L5 : ∀ (n : Nat), ∀ (σ : SD) (x3 : Int32) (x4 : Int32), ∀ (H : Heap) (locs : List Loc) (ls : Array Slot), va_P (dC, dI) vwCl (ax_w 77 ad (cD cyI cyE ad σ)) H → va_S (ax_A 77 ad s.heap.size) s.heap H locs → lv_has ls 5 [(0, .ref (ad r0)), (1, .int x1), (2, .int x2), (3, .int x3), (4, .int x4)] → f_X0_crc_5 r0 x1 x2 n σ x3 x4 = some res → W p l e rm_X0_crc s m args below meth c H locs 0 0 Q (F0 m 5 ls []) := by
    intro n
    induction n with
    | zero =>
      intro σ x3 x4  H locs ls hP hS hl hf
      cases hf
    | succ n ih =>
      intro σ x3 x4  H locs ls hP hS hl hf
      rw [f_X0_crc_5] at hf
      refine lv_iload hx hb dX0_crc_5 (lv_at hl 4 rfl) ?_
      refine lv_iload_n hx hb dX0_crc_7 rfl (lv_at hl 2 rfl) ?_
      refine lv_icmp_ge (tgt := 54) hx hb dX0_crc_8 (by decide) (fun h8 => ?_) (fun h8 => ?_)
      · rw [if_pos h8] at hf
        refine lv_iload_n hx hb dX0_crc_54 rfl (lv_at hl 3 rfl) ?_
        refine lv_iconst (v := (-1)) hx hb dX0_crc_55 (by decide) ?_
        refine lv_ixor hx hb dX0_crc_56 ?_
        exact hret _ _ _ _ _ _ rfl hf hP hS dX0_crc_57
      · rw [if_neg h8] at hf
        refine lv_iload_n hx hb dX0_crc_11 rfl (lv_at hl 3 rfl) ?_
        refine lv_aload_n hx hb dX0_crc_12 rfl (lv_at hl 0 rfl) ?_
        refine lv_iload_n hx hb dX0_crc_13 rfl (lv_at hl 1 rfl) ?_
        refine lv_iload hx hb dX0_crc_14 (lv_at hl 4 rfl) ?_
        refine lv_iadd hx hb dX0_crc_16 ?_
        obtain ⟨q17, hq, hf⟩ := ob_bind hf
        refine ax_callVi (C := "") (b := 0) (i := r0) (k := 1) (ci := 3) [.int (x1 + x4)] C0 hT hJ hE (met_X4_at l dC dI cyI cyE tC ad σ r0 (x1 + x4) (by omega) _ hq) hP hS mc_X4_at ml_X0_7 mi_X4_at ms_X4_at mz_X4 (by decide +kernel) ⟨rfl, rfl⟩ ⟨by decide, by decide⟩ (by omega) (cD_Row (by omega)) rfl rfl rfl hl.1 (Nat.le_of_ble_eq_true rfl) dX0_crc_17 ⟨Nat.zero_le _, Nat.zero_le _⟩ (fun H locs hP hS => ?_)
        refine lv_ixor hx hb dX0_crc_20 ?_
        refine lv_istore_n (lv' := [(3, .int (x3 ^^^ q17.1)), (0, .ref (ad r0)), (1, .int x1), (2, .int x2), (4, .int x4)]) hx hb dX0_crc_21 rfl hl (by decide) rfl (fun ls hl => ?_)
        refine lv_iload_n hx hb dX0_crc_22 rfl (lv_at hl 0 rfl) ?_
        refine lv_iconst (v := 4) hx hb dX0_crc_23 (by decide) ?_
        refine lv_iushr hx hb dX0_crc_24 rfl ?_
        refine va_gets (own := RX0) hx hb hE.2.2.1 hS hown (C0.2.2.2.2 _ (hT _ mf_X0_13)) (fun _ h9 => h9) dX0_crc_25 ?_
        refine lv_iload_n hx hb dX0_crc_28 rfl (lv_at hl 0 rfl) ?_
        refine lv_bipush (v := 15) hx hb dX0_crc_29 (by decide) ?_
        refine lv_iand hx hb dX0_crc_31 ?_
        obtain ⟨hin, hf⟩ := ob_if hf
        refine va_ti hx hb hE.2.2.2 hS (inb_in hin) rfl dX0_crc_32 ?_
        refine lv_ixor hx hb dX0_crc_33 ?_
        refine lv_istore_n (lv' := [(3, .int ((((x3 ^^^ q17.1).toUInt32 >>> ((4 : Int32).toUInt32 &&& Int32.toUInt32 31)).toInt32) ^^^ (ax_crc ((x3 ^^^ q17.1) &&& 15).toNatClampNeg))), (0, .ref (ad r0)), (1, .int x1), (2, .int x2), (4, .int x4)]) hx hb dX0_crc_34 rfl hl (by decide) rfl (fun ls hl => ?_)
        refine lv_iload_n hx hb dX0_crc_35 rfl (lv_at hl 0 rfl) ?_
        refine lv_iconst (v := 4) hx hb dX0_crc_36 (by decide) ?_
        refine lv_iushr hx hb dX0_crc_37 rfl ?_
        refine va_gets (own := RX0) hx hb hE.2.2.1 hS hown (C0.2.2.2.2 _ (hT _ mf_X0_13)) (fun _ h9 => h9) dX0_crc_38 ?_
        refine lv_iload_n hx hb dX0_crc_41 rfl (lv_at hl 0 rfl) ?_
        refine lv_bipush (v := 15) hx hb dX0_crc_42 (by decide) ?_
        refine lv_iand hx hb dX0_crc_44 ?_
        obtain ⟨hin, hf⟩ := ob_if hf
        refine va_ti hx hb hE.2.2.2 hS (inb_in hin) rfl dX0_crc_45 ?_
        refine lv_ixor hx hb dX0_crc_46 ?_
        refine lv_istore_n (lv' := [(3, .int (((((((x3 ^^^ q17.1).toUInt32 >>> ((4 : Int32).toUInt32 &&& Int32.toUInt32 31)).toInt32) ^^^ (ax_crc ((x3 ^^^ q17.1) &&& 15).toNatClampNeg)).toUInt32 >>> ((4 : Int32).toUInt32 &&& Int32.toUInt32 31)).toInt32) ^^^ (ax_crc (((((x3 ^^^ q17.1).toUInt32 >>> ((4 : Int32).toUInt32 &&& Int32.toUInt32 31)).toInt32) ^^^ (ax_crc ((x3 ^^^ q17.1) &&& 15).toNatClampNeg)) &&& 15).toNatClampNeg))), (0, .ref (ad r0)), (1, .int x1), (2, .int x2), (4, .int x4)]) hx hb dX0_crc_47 rfl hl (by decide) rfl (fun ls hl => ?_)
        refine lv_iinc (v := x4 + 1) (lv' := [(4, .int (x4 + 1)), (3, .int (((((((x3 ^^^ q17.1).toUInt32 >>> ((4 : Int32).toUInt32 &&& Int32.toUInt32 31)).toInt32) ^^^ (ax_crc ((x3 ^^^ q17.1) &&& 15).toNatClampNeg)).toUInt32 >>> ((4 : Int32).toUInt32 &&& Int32.toUInt32 31)).toInt32) ^^^ (ax_crc (((((x3 ^^^ q17.1).toUInt32 >>> ((4 : Int32).toUInt32 &&& Int32.toUInt32 31)).toInt32) ^^^ (ax_crc ((x3 ^^^ q17.1) &&& 15).toNatClampNeg)) &&& 15).toNatClampNeg))), (0, .ref (ad r0)), (1, .int x1), (2, .int x2)]) hx hb dX0_crc_48 hl (k := 4) rfl rfl (by decide) rfl (fun ls hl => ?_)
        refine lv_goto (tgt := 5) hx hb dX0_crc_51 (by decide) ?_
        exact ih _ _ _ _ _ _ hP hS (lv_sub hl [2, 3, 4, 1, 0] rfl) hf
  unfold f_X0_crc at hf
  refine lv_iconst (v := (-1)) hx hb dX0_crc_0 (by decide) ?_
  refine lv_istore_n (lv' := [(3, .int (-1)), (0, .ref (ad r0)), (1, .int x1), (2, .int x2)]) hx hb dX0_crc_1 rfl hl (by decide) rfl (fun ls hl => ?_)
  refine lv_iconst (v := 0) hx hb dX0_crc_2 (by decide) ?_
  refine lv_istore (lv' := [(4, .int 0), (3, .int (-1)), (0, .ref (ad r0)), (1, .int x1), (2, .int x2)]) hx hb dX0_crc_3 hl (by decide) rfl (fun ls hl => ?_)
  exact L5 fu _ _ _ _ _ _ hP hS (lv_sub hl [2, 3, 4, 1, 0] rfl) hf
def f_X0_nextGroup_110 (r0 : Nat) (x1 : Int32) (x2 : Int32) (k57 : SD → Int32 → Int32 → Option (Int32 × SD)) (σ : SD) (x3 : Int32) (x5 : Int32) : Option (Int32 × SD) := k57 σ x3 (x5 + 1)
def f_X0_nextGroup_57 (r0 : Nat) (x1 : Int32) (x2 : Int32) : Nat → SD → Int32 → Int32 → Option (Int32 × SD)
  | 0, _, _, _ => none
  | n + 1, σ, x3, x5 => if x3 ≤ x5 then (some (x1 - x3, σ)) else (if x2 < (x5 + 3) then (f_X0_nextGroup_110 r0 x1 x2 (f_X0_nextGroup_57 r0 x1 x2 n) σ x3 x5) else ((f_X4_at σ r0 x5).bind fun q74 => (f_X4_at q74.2 r0 (x5 + 1)).bind fun q82 => if q74.1 = q82.1 then ((f_X4_at q82.2 r0 x5).bind fun q91 => (f_X4_at q91.2 r0 (x5 + 2)).bind fun q99 => if q91.1 = q99.1 then (some (x1 - x5, q99.2)) else (f_X0_nextGroup_110 r0 x1 x2 (f_X0_nextGroup_57 r0 x1 x2 n) q99.2 x3 x5)) else (f_X0_nextGroup_110 r0 x1 x2 (f_X0_nextGroup_57 r0 x1 x2 n) q82.2 x3 x5)))
def f_X0_nextGroup_43 (r0 : Nat) (x1 : Int32) (x2 : Int32) (σ : SD) (x3 : Int32) (x4 : Int32) : Option (Int32 × SD) := if x4 < 3 then (f_X0_nextGroup_57 r0 x1 x2 fu σ x3 (x1 + 1)) else (some (x4, σ))
def f_X0_nextGroup_13 (r0 : Nat) (x1 : Int32) (x2 : Int32) : Nat → SD → Int32 → Int32 → Option (Int32 × SD)
  | 0, _, _, _ => none
  | n + 1, σ, x3, x4 => if x3 ≤ (x1 + x4) then (f_X0_nextGroup_43 r0 x1 x2 σ x3 x4) else ((f_X4_at σ r0 (x1 + x4)).bind fun q26 => (f_X4_at q26.2 r0 x1).bind fun q31 => if q26.1 = q31.1 then (f_X0_nextGroup_13 r0 x1 x2 n q31.2 x3 (x4 + 1)) else (f_X0_nextGroup_43 r0 x1 x2 q31.2 x3 x4))
def f_X0_nextGroup (σ : SD) (r0 : Nat) (x1 : Int32) (x2 : Int32) : Option (Int32 × SD) := f_X0_nextGroup_13 r0 x1 x2 fu σ (if (x1 + 128) < x2 then (x1 + 128) else x2) 1
def rm_X0_nextGroup : Room := { frames := 1, cells := 0, slots := 0, locals := 30 }
set_option maxHeartbeats 4000000 in
set_option maxRecDepth 100000 in
theorem met_X0_nextGroup (l : Launch) (dC : Nat → ClassId) (dI : Nat → Nat → Nat) (cyI cyE : ClassId) (tC : Nat) (ad : Nat → Nat) (σ : SD) (r0 : Nat) (x1 : Int32) (x2 : Int32) (hb_r0 : r0 < 25) (res : Int32 × SD) (hf : f_X0_nextGroup σ r0 x1 x2 = some res) : ax_Mi l dC dI cyI cyE tC 77 (cD cyI cyE ad) ad yX0_nextGroup cX0_nextGroup 6 (some .int) rm_X0_nextGroup [.ref (ad r0), .int x1, .int x2] σ res.1 res.2 := by
  intro sz
  refine Met.ofW (cc := cX0_nextGroup) (maxL := 6) (ret := (some .int)) (by decide) rfl ?_
  intro p e s m args below meth c s₁ B hml hv
  obtain ⟨hargs, hsz, hP, hJ, hE⟩ := hv
  subst hsz
  have hx := B.exec
  have hb := B.bytes
  have hr := B.returns
  have hlocks := B.notSynchronized
  have hts := atoms_spec (ws := wsY yX0_nextGroup cX0_nextGroup 6 (some .int)) B.pre
  have hown : s.vm.findClass RX0 = some m.cls := findClass_of_methodNamed B.named
  have C0 : CallFix p m c cX0_nextGroup 6 s args (wsY yX0_nextGroup cX0_nextGroup 6 (some .int)) RX0 := ⟨hx, hb, hml, hown, hts⟩
  have hT : ∀ w ∈ bw, w ∈ wsY yX0_nextGroup cX0_nextGroup 6 (some .int) := fun w h => List.mem_cons_of_mem _ h
  have hS : va_S (ax_A 77 ad s.heap.size) s.heap s.heap [] := va_S.rf
  rw [show entryFrame m args 6 = entryFrame m ([.ref (ad r0), .int x1, .int x2] : List Value).toArray 6 by rw [hargs]]
  have hl := lv_entry ([.ref (ad r0), .int x1, .int x2]) (n := 6) (Nat.le_of_ble_eq_true rfl)
  rw [lg_entry_eq]
  generalize (lg_sl ([.ref (ad r0), .int x1, .int x2]) ++ List.replicate (6 - (lg_sl ([.ref (ad r0), .int x1, .int x2])).length) Slot.unset).toArray = ls at hl ⊢
  have hl : lv_has ls 6 [(0, .ref (ad r0)), (1, .int x1), (2, .int x2)] := hl
  obtain ⟨Q, hQ⟩ : ∃ Q : State → Prop, Q = MQ below (va_Qi (fun (a : Int32) (u : SD) => a = res.1 ∧ u = res.2) (ax_B dC dI 77 (cD cyI cyE ad) ad) (ax_A 77 ad s.heap.size)) args s 0 0 (ax_A 77 ad s.heap.size) := ⟨_, rfl⟩
  show W p l e rm_X0_nextGroup s m args below meth c s.heap [] 0 0 _ _
  rw [← hQ]
  have hret : ∀ (v : Int32) (σ : SD) (H : Heap) (locs : List Loc) (ls : Array Slot) (pc : Nat), narrow .int (.int v) = .int v → some (v, σ) = some res → va_P (dC, dI) vwCl (ax_w 77 ad (cD cyI cyE ad σ)) H → va_S (ax_A 77 ad s.heap.size) s.heap H locs → decode cX0_nextGroup pc = .ok (.ireturn, 1) → W p l e rm_X0_nextGroup s m args below meth c H locs 0 0 Q (F0 m pc ls [.int v]) := by
    intro v σ H locs ls pc hn hf hP hS hd
    cases hf
    rw [hQ]
    exact ax_iret hx hb hr hlocks hn hP hS hd rfl rfl
  have L110 : ∀ (k57 : SD → Int32 → Int32 → Option (Int32 × SD)), (∀ (σ : SD) (x3 : Int32) (x5 : Int32), ∀ (H : Heap) (locs : List Loc) (ls : Array Slot), va_P (dC, dI) vwCl (ax_w 77 ad (cD cyI cyE ad σ)) H → va_S (ax_A 77 ad s.heap.size) s.heap H locs → lv_has ls 6 [(0, .ref (ad r0)), (1, .int x1), (2, .int x2), (3, .int x3), (5, .int x5)] → k57 σ x3 x5 = some res → W p l e rm_X0_nextGroup s m args below meth c H locs 0 0 Q (F0 m 57 ls [])) → ∀ (σ : SD) (x3 : Int32) (x5 : Int32), ∀ (H : Heap) (locs : List Loc) (ls : Array Slot), va_P (dC, dI) vwCl (ax_w 77 ad (cD cyI cyE ad σ)) H → va_S (ax_A 77 ad s.heap.size) s.heap H locs → lv_has ls 6 [(0, .ref (ad r0)), (1, .int x1), (2, .int x2), (3, .int x3), (5, .int x5)] → f_X0_nextGroup_110 r0 x1 x2 k57 σ x3 x5 = some res → W p l e rm_X0_nextGroup s m args below meth c H locs 0 0 Q (F0 m 110 ls []) := by
    intro k57 hk57
    intro σ x3 x5  H locs ls hP hS hl hf
    unfold f_X0_nextGroup_110 at hf
    refine lv_iinc (v := x5 + 1) (lv' := [(5, .int (x5 + 1)), (0, .ref (ad r0)), (1, .int x1), (2, .int x2), (3, .int x3)]) hx hb dX0_nextGroup_110 hl (k := 4) rfl rfl (by decide) rfl (fun ls hl => ?_)
    refine lv_goto (tgt := 57) hx hb dX0_nextGroup_113 (by decide) ?_
    exact hk57 _ _ _ _ _ _ hP hS (lv_sub hl [1, 2, 3, 4, 0] rfl) hf
  have L57 : ∀ (n : Nat), ∀ (σ : SD) (x3 : Int32) (x5 : Int32), ∀ (H : Heap) (locs : List Loc) (ls : Array Slot), va_P (dC, dI) vwCl (ax_w 77 ad (cD cyI cyE ad σ)) H → va_S (ax_A 77 ad s.heap.size) s.heap H locs → lv_has ls 6 [(0, .ref (ad r0)), (1, .int x1), (2, .int x2), (3, .int x3), (5, .int x5)] → f_X0_nextGroup_57 r0 x1 x2 n σ x3 x5 = some res → W p l e rm_X0_nextGroup s m args below meth c H locs 0 0 Q (F0 m 57 ls []) := by
    intro n
    induction n with
    | zero =>
      intro σ x3 x5  H locs ls hP hS hl hf
      cases hf
    | succ n ih =>
      intro σ x3 x5  H locs ls hP hS hl hf
      rw [f_X0_nextGroup_57] at hf
      refine lv_iload hx hb dX0_nextGroup_57 (lv_at hl 4 rfl) ?_
      refine lv_iload_n hx hb dX0_nextGroup_59 rfl (lv_at hl 3 rfl) ?_
      refine lv_icmp_ge (tgt := 116) hx hb dX0_nextGroup_60 (by decide) (fun h60 => ?_) (fun h60 => ?_)
      · rw [if_pos h60] at hf
        refine lv_iload_n hx hb dX0_nextGroup_116 rfl (lv_at hl 1 rfl) ?_
        refine lv_iload_n hx hb dX0_nextGroup_117 rfl (lv_at hl 3 rfl) ?_
        refine lv_isub hx hb dX0_nextGroup_118 ?_
        exact hret _ _ _ _ _ _ rfl hf hP hS dX0_nextGroup_119
      · rw [if_neg h60] at hf
        refine lv_iload hx hb dX0_nextGroup_63 (lv_at hl 4 rfl) ?_
        refine lv_iconst (v := 3) hx hb dX0_nextGroup_65 (by decide) ?_
        refine lv_iadd hx hb dX0_nextGroup_66 ?_
        refine lv_iload_n hx hb dX0_nextGroup_67 rfl (lv_at hl 2 rfl) ?_
        refine lv_icmp_gt (tgt := 110) hx hb dX0_nextGroup_68 (by decide) (fun h68 => ?_) (fun h68 => ?_)
        · rw [if_pos h68] at hf
          exact L110 _ ih _ _ _ _ _ _ hP hS (lv_sub hl [0, 1, 2, 3, 4] rfl) hf
        · rw [if_neg h68] at hf
          refine lv_aload_n hx hb dX0_nextGroup_71 rfl (lv_at hl 0 rfl) ?_
          refine lv_iload hx hb dX0_nextGroup_72 (lv_at hl 4 rfl) ?_
          obtain ⟨q74, hq, hf⟩ := ob_bind hf
          refine ax_callVi (C := "") (b := 0) (i := r0) (k := 1) (ci := 3) [.int x5] C0 hT hJ hE (met_X4_at l dC dI cyI cyE tC ad σ r0 x5 (by omega) _ hq) hP hS mc_X4_at ml_X0_7 mi_X4_at ms_X4_at mz_X4 (by decide +kernel) ⟨rfl, rfl⟩ ⟨by decide, by decide⟩ (by omega) (cD_Row (by omega)) rfl rfl rfl hl.1 (Nat.le_of_ble_eq_true rfl) dX0_nextGroup_74 ⟨Nat.zero_le _, Nat.zero_le _⟩ (fun H locs hP hS => ?_)
          refine lv_aload_n hx hb dX0_nextGroup_77 rfl (lv_at hl 0 rfl) ?_
          refine lv_iload hx hb dX0_nextGroup_78 (lv_at hl 4 rfl) ?_
          refine lv_iconst (v := 1) hx hb dX0_nextGroup_80 (by decide) ?_
          refine lv_iadd hx hb dX0_nextGroup_81 ?_
          obtain ⟨q82, hq, hf⟩ := ob_bind hf
          refine ax_callVi (C := "") (b := 0) (i := r0) (k := 1) (ci := 3) [.int (x5 + 1)] C0 hT hJ hE (met_X4_at l dC dI cyI cyE tC ad q74.2 r0 (x5 + 1) (by omega) _ hq) hP hS mc_X4_at ml_X0_7 mi_X4_at ms_X4_at mz_X4 (by decide +kernel) ⟨rfl, rfl⟩ ⟨by decide, by decide⟩ (by omega) (cD_Row (by omega)) rfl rfl rfl hl.1 (Nat.le_of_ble_eq_true rfl) dX0_nextGroup_82 ⟨Nat.zero_le _, Nat.zero_le _⟩ (fun H locs hP hS => ?_)
          refine lv_icmp_ne (tgt := 110) hx hb dX0_nextGroup_85 (by decide) (fun h85 => ?_) (fun h85 => ?_)
          · rw [if_neg h85] at hf
            exact L110 _ ih _ _ _ _ _ _ hP hS (lv_sub hl [0, 1, 2, 3, 4] rfl) hf
          · rw [if_pos h85] at hf
            refine lv_aload_n hx hb dX0_nextGroup_88 rfl (lv_at hl 0 rfl) ?_
            refine lv_iload hx hb dX0_nextGroup_89 (lv_at hl 4 rfl) ?_
            obtain ⟨q91, hq, hf⟩ := ob_bind hf
            refine ax_callVi (C := "") (b := 0) (i := r0) (k := 1) (ci := 3) [.int x5] C0 hT hJ hE (met_X4_at l dC dI cyI cyE tC ad q82.2 r0 x5 (by omega) _ hq) hP hS mc_X4_at ml_X0_7 mi_X4_at ms_X4_at mz_X4 (by decide +kernel) ⟨rfl, rfl⟩ ⟨by decide, by decide⟩ (by omega) (cD_Row (by omega)) rfl rfl rfl hl.1 (Nat.le_of_ble_eq_true rfl) dX0_nextGroup_91 ⟨Nat.zero_le _, Nat.zero_le _⟩ (fun H locs hP hS => ?_)
            refine lv_aload_n hx hb dX0_nextGroup_94 rfl (lv_at hl 0 rfl) ?_
            refine lv_iload hx hb dX0_nextGroup_95 (lv_at hl 4 rfl) ?_
            refine lv_iconst (v := 2) hx hb dX0_nextGroup_97 (by decide) ?_
            refine lv_iadd hx hb dX0_nextGroup_98 ?_
            obtain ⟨q99, hq, hf⟩ := ob_bind hf
            refine ax_callVi (C := "") (b := 0) (i := r0) (k := 1) (ci := 3) [.int (x5 + 2)] C0 hT hJ hE (met_X4_at l dC dI cyI cyE tC ad q91.2 r0 (x5 + 2) (by omega) _ hq) hP hS mc_X4_at ml_X0_7 mi_X4_at ms_X4_at mz_X4 (by decide +kernel) ⟨rfl, rfl⟩ ⟨by decide, by decide⟩ (by omega) (cD_Row (by omega)) rfl rfl rfl hl.1 (Nat.le_of_ble_eq_true rfl) dX0_nextGroup_99 ⟨Nat.zero_le _, Nat.zero_le _⟩ (fun H locs hP hS => ?_)
            refine lv_icmp_ne (tgt := 110) hx hb dX0_nextGroup_102 (by decide) (fun h102 => ?_) (fun h102 => ?_)
            · rw [if_neg h102] at hf
              exact L110 _ ih _ _ _ _ _ _ hP hS (lv_sub hl [0, 1, 2, 3, 4] rfl) hf
            · rw [if_pos h102] at hf
              refine lv_iload_n hx hb dX0_nextGroup_105 rfl (lv_at hl 1 rfl) ?_
              refine lv_iload hx hb dX0_nextGroup_106 (lv_at hl 4 rfl) ?_
              refine lv_isub hx hb dX0_nextGroup_108 ?_
              exact hret _ _ _ _ _ _ rfl hf hP hS dX0_nextGroup_109
  have L43 : ∀ (σ : SD) (x3 : Int32) (x4 : Int32), ∀ (H : Heap) (locs : List Loc) (ls : Array Slot), va_P (dC, dI) vwCl (ax_w 77 ad (cD cyI cyE ad σ)) H → va_S (ax_A 77 ad s.heap.size) s.heap H locs → lv_has ls 6 [(0, .ref (ad r0)), (1, .int x1), (2, .int x2), (3, .int x3), (4, .int x4)] → f_X0_nextGroup_43 r0 x1 x2 σ x3 x4 = some res → W p l e rm_X0_nextGroup s m args below meth c H locs 0 0 Q (F0 m 43 ls []) := by
    intro σ x3 x4  H locs ls hP hS hl hf
    unfold f_X0_nextGroup_43 at hf
    refine lv_iload hx hb dX0_nextGroup_43 (lv_at hl 4 rfl) ?_
    refine lv_iconst (v := 3) hx hb dX0_nextGroup_45 (by decide) ?_
    refine lv_icmp_lt (tgt := 52) hx hb dX0_nextGroup_46 (by decide) (fun h46 => ?_) (fun h46 => ?_)
    · rw [if_pos h46] at hf
      refine lv_iload_n hx hb dX0_nextGroup_52 rfl (lv_at hl 1 rfl) ?_
      refine lv_iconst (v := 1) hx hb dX0_nextGroup_53 (by decide) ?_
      refine lv_iadd hx hb dX0_nextGroup_54 ?_
      refine lv_istore (lv' := [(5, .int (x1 + 1)), (0, .ref (ad r0)), (1, .int x1), (2, .int x2), (3, .int x3), (4, .int x4)]) hx hb dX0_nextGroup_55 hl (by decide) rfl (fun ls hl => ?_)
      exact L57 fu _ _ _ _ _ _ hP hS (lv_sub hl [1, 2, 3, 4, 0] rfl) hf
    · rw [if_neg h46] at hf
      refine lv_iload hx hb dX0_nextGroup_49 (lv_at hl 4 rfl) ?_
      exact hret _ _ _ _ _ _ rfl hf hP hS dX0_nextGroup_51
  have L13 : ∀ (n : Nat), ∀ (σ : SD) (x3 : Int32) (x4 : Int32), ∀ (H : Heap) (locs : List Loc) (ls : Array Slot), va_P (dC, dI) vwCl (ax_w 77 ad (cD cyI cyE ad σ)) H → va_S (ax_A 77 ad s.heap.size) s.heap H locs → lv_has ls 6 [(0, .ref (ad r0)), (1, .int x1), (2, .int x2), (3, .int x3), (4, .int x4)] → f_X0_nextGroup_13 r0 x1 x2 n σ x3 x4 = some res → W p l e rm_X0_nextGroup s m args below meth c H locs 0 0 Q (F0 m 13 ls []) := by
    intro n
    induction n with
    | zero =>
      intro σ x3 x4  H locs ls hP hS hl hf
      cases hf
    | succ n ih =>
      intro σ x3 x4  H locs ls hP hS hl hf
      rw [f_X0_nextGroup_13] at hf
      refine lv_iload_n hx hb dX0_nextGroup_13 rfl (lv_at hl 1 rfl) ?_
      refine lv_iload hx hb dX0_nextGroup_14 (lv_at hl 4 rfl) ?_
      refine lv_iadd hx hb dX0_nextGroup_16 ?_
      refine lv_iload_n hx hb dX0_nextGroup_17 rfl (lv_at hl 3 rfl) ?_
      refine lv_icmp_ge (tgt := 43) hx hb dX0_nextGroup_18 (by decide) (fun h18 => ?_) (fun h18 => ?_)
      · rw [if_pos h18] at hf
        exact L43 _ _ _ _ _ _ hP hS (lv_sub hl [0, 1, 2, 3, 4] rfl) hf
      · rw [if_neg h18] at hf
        refine lv_aload_n hx hb dX0_nextGroup_21 rfl (lv_at hl 0 rfl) ?_
        refine lv_iload_n hx hb dX0_nextGroup_22 rfl (lv_at hl 1 rfl) ?_
        refine lv_iload hx hb dX0_nextGroup_23 (lv_at hl 4 rfl) ?_
        refine lv_iadd hx hb dX0_nextGroup_25 ?_
        obtain ⟨q26, hq, hf⟩ := ob_bind hf
        refine ax_callVi (C := "") (b := 0) (i := r0) (k := 1) (ci := 3) [.int (x1 + x4)] C0 hT hJ hE (met_X4_at l dC dI cyI cyE tC ad σ r0 (x1 + x4) (by omega) _ hq) hP hS mc_X4_at ml_X0_7 mi_X4_at ms_X4_at mz_X4 (by decide +kernel) ⟨rfl, rfl⟩ ⟨by decide, by decide⟩ (by omega) (cD_Row (by omega)) rfl rfl rfl hl.1 (Nat.le_of_ble_eq_true rfl) dX0_nextGroup_26 ⟨Nat.zero_le _, Nat.zero_le _⟩ (fun H locs hP hS => ?_)
        refine lv_aload_n hx hb dX0_nextGroup_29 rfl (lv_at hl 0 rfl) ?_
        refine lv_iload_n hx hb dX0_nextGroup_30 rfl (lv_at hl 1 rfl) ?_
        obtain ⟨q31, hq, hf⟩ := ob_bind hf
        refine ax_callVi (C := "") (b := 0) (i := r0) (k := 1) (ci := 3) [.int x1] C0 hT hJ hE (met_X4_at l dC dI cyI cyE tC ad q26.2 r0 x1 (by omega) _ hq) hP hS mc_X4_at ml_X0_7 mi_X4_at ms_X4_at mz_X4 (by decide +kernel) ⟨rfl, rfl⟩ ⟨by decide, by decide⟩ (by omega) (cD_Row (by omega)) rfl rfl rfl hl.1 (Nat.le_of_ble_eq_true rfl) dX0_nextGroup_31 ⟨Nat.zero_le _, Nat.zero_le _⟩ (fun H locs hP hS => ?_)
        refine lv_icmp_ne (tgt := 43) hx hb dX0_nextGroup_34 (by decide) (fun h34 => ?_) (fun h34 => ?_)
        · rw [if_neg h34] at hf
          exact L43 _ _ _ _ _ _ hP hS (lv_sub hl [0, 1, 2, 3, 4] rfl) hf
        · rw [if_pos h34] at hf
          refine lv_iinc (v := x4 + 1) (lv' := [(4, .int (x4 + 1)), (0, .ref (ad r0)), (1, .int x1), (2, .int x2), (3, .int x3)]) hx hb dX0_nextGroup_37 hl (k := 4) rfl rfl (by decide) rfl (fun ls hl => ?_)
          refine lv_goto (tgt := 13) hx hb dX0_nextGroup_40 (by decide) ?_
          exact ih _ _ _ _ _ _ hP hS (lv_sub hl [1, 2, 3, 4, 0] rfl) hf
  unfold f_X0_nextGroup at hf
  refine lv_iload_n hx hb dX0_nextGroup_0 rfl (lv_at hl 2 rfl) ?_
  refine lv_iload_n hx hb dX0_nextGroup_1 rfl (lv_at hl 1 rfl) ?_
  refine lv_sipush (v := 128) hx hb dX0_nextGroup_2 (by decide) ?_
  refine lv_iadd hx hb dX0_nextGroup_5 ?_
  refine va_mmin hx hb (C0.2.2.1.trans hl.1.symm) hown (C0.2.2.2.2 _ (hT _ ml_X0_40)) (C0.2.2.2.2 _ (hT _ mt_J9_min_7cf53)) (C0.2.2.2.2 _ (hT _ mz_J9)) (C0.2.2.2.2 _ (hT _ mc_J9_min_7cf53)) (Nat.le_of_ble_eq_true rfl) (Nat.le_of_ble_eq_true rfl) (Nat.zero_le _) (Nat.zero_le _) dX0_nextGroup_6 ?_
  refine lv_istore_n (lv' := [(3, .int (if (x1 + 128) < x2 then (x1 + 128) else x2)), (0, .ref (ad r0)), (1, .int x1), (2, .int x2)]) hx hb dX0_nextGroup_9 rfl hl (by decide) rfl (fun ls hl => ?_)
  refine lv_iconst (v := 1) hx hb dX0_nextGroup_10 (by decide) ?_
  refine lv_istore (lv' := [(4, .int 1), (3, .int (if (x1 + 128) < x2 then (x1 + 128) else x2)), (0, .ref (ad r0)), (1, .int x1), (2, .int x2)]) hx hb dX0_nextGroup_11 hl (by decide) rfl (fun ls hl => ?_)
  exact L13 fu _ _ _ _ _ _ hP hS (lv_sub hl [2, 3, 4, 1, 0] rfl) hf
def f_X0_foldedSize_40 (r0 : Nat) (x1 : Int32) (x2 : Int32) (k10 : SD → Int32 → Int32 → Int32 → Option (Int32 × SD)) (σ : SD) (x3 : Int32) (x5 : Int32) (x6 : Int32) (s0 : Int32) (s1 : Int32) : Option (Int32 × SD) := k10 σ x3 (s0 + s1) (x5 + (if (1 : Int32) < (if (0 : Int32) ≤ x6 then x6 else 0 - x6) then (if (0 : Int32) ≤ x6 then x6 else 0 - x6) else 1))
def f_X0_foldedSize_10 (r0 : Nat) (x1 : Int32) (x2 : Int32) : Nat → SD → Int32 → Int32 → Int32 → Option (Int32 × SD)
  | 0, _, _, _, _ => none
  | n + 1, σ, x3, x4, x5 => if x3 ≤ x5 then (some (x4, σ)) else ((f_X0_nextGroup σ r0 x5 x3).bind fun q20 => if q20.1 ≤ 0 then (f_X0_foldedSize_40 r0 x1 x2 (f_X0_foldedSize_10 r0 x1 x2 n) q20.2 x3 x5 q20.1 x4 (1 - q20.1)) else (f_X0_foldedSize_40 r0 x1 x2 (f_X0_foldedSize_10 r0 x1 x2 n) q20.2 x3 x5 q20.1 x4 2))
def f_X0_foldedSize (σ : SD) (r0 : Nat) (x1 : Int32) (x2 : Int32) : Option (Int32 × SD) := f_X0_foldedSize_10 r0 x1 x2 fu σ (x1 + x2) 0 x1
def rm_X0_foldedSize : Room := { frames := 2, cells := 0, slots := 0, locals := 55 }
set_option maxHeartbeats 4000000 in
set_option maxRecDepth 100000 in
theorem met_X0_foldedSize (l : Launch) (dC : Nat → ClassId) (dI : Nat → Nat → Nat) (cyI cyE : ClassId) (tC : Nat) (ad : Nat → Nat) (σ : SD) (r0 : Nat) (x1 : Int32) (x2 : Int32) (hb_r0 : r0 < 25) (res : Int32 × SD) (hf : f_X0_foldedSize σ r0 x1 x2 = some res) : ax_Mi l dC dI cyI cyE tC 77 (cD cyI cyE ad) ad yX0_foldedSize cX0_foldedSize 7 (some .int) rm_X0_foldedSize [.ref (ad r0), .int x1, .int x2] σ res.1 res.2 := by
  intro sz
  refine Met.ofW (cc := cX0_foldedSize) (maxL := 7) (ret := (some .int)) (by decide) rfl ?_
  intro p e s m args below meth c s₁ B hml hv
  obtain ⟨hargs, hsz, hP, hJ, hE⟩ := hv
  subst hsz
  have hx := B.exec
  have hb := B.bytes
  have hr := B.returns
  have hlocks := B.notSynchronized
  have hts := atoms_spec (ws := wsY yX0_foldedSize cX0_foldedSize 7 (some .int)) B.pre
  have hown : s.vm.findClass RX0 = some m.cls := findClass_of_methodNamed B.named
  have C0 : CallFix p m c cX0_foldedSize 7 s args (wsY yX0_foldedSize cX0_foldedSize 7 (some .int)) RX0 := ⟨hx, hb, hml, hown, hts⟩
  have hT : ∀ w ∈ bw, w ∈ wsY yX0_foldedSize cX0_foldedSize 7 (some .int) := fun w h => List.mem_cons_of_mem _ h
  have hS : va_S (ax_A 77 ad s.heap.size) s.heap s.heap [] := va_S.rf
  rw [show entryFrame m args 7 = entryFrame m ([.ref (ad r0), .int x1, .int x2] : List Value).toArray 7 by rw [hargs]]
  have hl := lv_entry ([.ref (ad r0), .int x1, .int x2]) (n := 7) (Nat.le_of_ble_eq_true rfl)
  rw [lg_entry_eq]
  generalize (lg_sl ([.ref (ad r0), .int x1, .int x2]) ++ List.replicate (7 - (lg_sl ([.ref (ad r0), .int x1, .int x2])).length) Slot.unset).toArray = ls at hl ⊢
  have hl : lv_has ls 7 [(0, .ref (ad r0)), (1, .int x1), (2, .int x2)] := hl
  obtain ⟨Q, hQ⟩ : ∃ Q : State → Prop, Q = MQ below (va_Qi (fun (a : Int32) (u : SD) => a = res.1 ∧ u = res.2) (ax_B dC dI 77 (cD cyI cyE ad) ad) (ax_A 77 ad s.heap.size)) args s 0 0 (ax_A 77 ad s.heap.size) := ⟨_, rfl⟩
  show W p l e rm_X0_foldedSize s m args below meth c s.heap [] 0 0 _ _
  rw [← hQ]
  have hret : ∀ (v : Int32) (σ : SD) (H : Heap) (locs : List Loc) (ls : Array Slot) (pc : Nat), narrow .int (.int v) = .int v → some (v, σ) = some res → va_P (dC, dI) vwCl (ax_w 77 ad (cD cyI cyE ad σ)) H → va_S (ax_A 77 ad s.heap.size) s.heap H locs → decode cX0_foldedSize pc = .ok (.ireturn, 1) → W p l e rm_X0_foldedSize s m args below meth c H locs 0 0 Q (F0 m pc ls [.int v]) := by
    intro v σ H locs ls pc hn hf hP hS hd
    cases hf
    rw [hQ]
    exact ax_iret hx hb hr hlocks hn hP hS hd rfl rfl
  have L40 : ∀ (k10 : SD → Int32 → Int32 → Int32 → Option (Int32 × SD)), (∀ (σ : SD) (x3 : Int32) (x4 : Int32) (x5 : Int32), ∀ (H : Heap) (locs : List Loc) (ls : Array Slot), va_P (dC, dI) vwCl (ax_w 77 ad (cD cyI cyE ad σ)) H → va_S (ax_A 77 ad s.heap.size) s.heap H locs → lv_has ls 7 [(0, .ref (ad r0)), (3, .int x3), (4, .int x4), (5, .int x5)] → k10 σ x3 x4 x5 = some res → W p l e rm_X0_foldedSize s m args below meth c H locs 0 0 Q (F0 m 10 ls [])) → ∀ (σ : SD) (x3 : Int32) (x5 : Int32) (x6 : Int32) (s0 : Int32) (s1 : Int32), ∀ (H : Heap) (locs : List Loc) (ls : Array Slot), va_P (dC, dI) vwCl (ax_w 77 ad (cD cyI cyE ad σ)) H → va_S (ax_A 77 ad s.heap.size) s.heap H locs → lv_has ls 7 [(0, .ref (ad r0)), (3, .int x3), (5, .int x5), (6, .int x6)] → f_X0_foldedSize_40 r0 x1 x2 k10 σ x3 x5 x6 s0 s1 = some res → W p l e rm_X0_foldedSize s m args below meth c H locs 0 0 Q (F0 m 40 ls [.int s1, .int s0]) := by
    intro k10 hk10
    intro σ x3 x5 x6 s0 s1  H locs ls hP hS hl hf
    unfold f_X0_foldedSize_40 at hf
    refine lv_iadd hx hb dX0_foldedSize_40 ?_
    refine lv_istore (lv' := [(4, .int (s0 + s1)), (0, .ref (ad r0)), (3, .int x3), (5, .int x5), (6, .int x6)]) hx hb dX0_foldedSize_41 hl (by decide) rfl (fun ls hl => ?_)
    refine lv_iload hx hb dX0_foldedSize_43 (lv_at hl 3 rfl) ?_
    refine lv_iconst (v := 1) hx hb dX0_foldedSize_45 (by decide) ?_
    refine lv_iload hx hb dX0_foldedSize_46 (lv_at hl 4 rfl) ?_
    refine va_mabs hx hb (C0.2.2.1.trans hl.1.symm) hown (C0.2.2.2.2 _ (hT _ ml_X0_23)) (C0.2.2.2.2 _ (hT _ mt_J9_abs_0f7a4)) (C0.2.2.2.2 _ (hT _ mz_J9)) (C0.2.2.2.2 _ (hT _ mc_J9_abs_0f7a4)) (Nat.le_of_ble_eq_true rfl) (Nat.le_of_ble_eq_true rfl) (Nat.zero_le _) (Nat.zero_le _) dX0_foldedSize_48 ?_
    refine va_mmax hx hb (C0.2.2.1.trans hl.1.symm) hown (C0.2.2.2.2 _ (hT _ ml_X0_28)) (C0.2.2.2.2 _ (hT _ mt_J9_max_7cf53)) (C0.2.2.2.2 _ (hT _ mz_J9)) (C0.2.2.2.2 _ (hT _ mc_J9_max_7cf53)) (Nat.le_of_ble_eq_true rfl) (Nat.le_of_ble_eq_true rfl) (Nat.zero_le _) (Nat.zero_le _) dX0_foldedSize_51 ?_
    refine lv_iadd hx hb dX0_foldedSize_54 ?_
    refine lv_istore (lv' := [(5, .int (x5 + (if (1 : Int32) < (if (0 : Int32) ≤ x6 then x6 else 0 - x6) then (if (0 : Int32) ≤ x6 then x6 else 0 - x6) else 1))), (4, .int (s0 + s1)), (0, .ref (ad r0)), (3, .int x3), (6, .int x6)]) hx hb dX0_foldedSize_55 hl (by decide) rfl (fun ls hl => ?_)
    refine lv_goto (tgt := 10) hx hb dX0_foldedSize_57 (by decide) ?_
    exact hk10 _ _ _ _ _ _ _ hP hS (lv_sub hl [2, 3, 1, 0] rfl) hf
  have L10 : ∀ (n : Nat), ∀ (σ : SD) (x3 : Int32) (x4 : Int32) (x5 : Int32), ∀ (H : Heap) (locs : List Loc) (ls : Array Slot), va_P (dC, dI) vwCl (ax_w 77 ad (cD cyI cyE ad σ)) H → va_S (ax_A 77 ad s.heap.size) s.heap H locs → lv_has ls 7 [(0, .ref (ad r0)), (3, .int x3), (4, .int x4), (5, .int x5)] → f_X0_foldedSize_10 r0 x1 x2 n σ x3 x4 x5 = some res → W p l e rm_X0_foldedSize s m args below meth c H locs 0 0 Q (F0 m 10 ls []) := by
    intro n
    induction n with
    | zero =>
      intro σ x3 x4 x5  H locs ls hP hS hl hf
      cases hf
    | succ n ih =>
      intro σ x3 x4 x5  H locs ls hP hS hl hf
      rw [f_X0_foldedSize_10] at hf
      refine lv_iload hx hb dX0_foldedSize_10 (lv_at hl 3 rfl) ?_
      refine lv_iload_n hx hb dX0_foldedSize_12 rfl (lv_at hl 1 rfl) ?_
      refine lv_icmp_ge (tgt := 60) hx hb dX0_foldedSize_13 (by decide) (fun h13 => ?_) (fun h13 => ?_)
      · rw [if_pos h13] at hf
        refine lv_iload hx hb dX0_foldedSize_60 (lv_at hl 2 rfl) ?_
        exact hret _ _ _ _ _ _ rfl hf hP hS dX0_foldedSize_62
      · rw [if_neg h13] at hf
        refine lv_aload_n hx hb dX0_foldedSize_16 rfl (lv_at hl 0 rfl) ?_
        refine lv_iload hx hb dX0_foldedSize_17 (lv_at hl 3 rfl) ?_
        refine lv_iload_n hx hb dX0_foldedSize_19 rfl (lv_at hl 1 rfl) ?_
        obtain ⟨q20, hq, hf⟩ := ob_bind hf
        refine ax_callSi (k := 3) [.ref (ad r0), .int x5, .int x3] C0 hT hJ hE (met_X0_nextGroup l dC dI cyI cyE tC ad σ r0 x5 x3 (by omega) _ hq) hP hS mc_X0_nextGroup ml_X0_19 mt_X0_nextGroup mz_X0 (by decide +kernel) ⟨rfl, rfl⟩ ⟨by decide, by decide⟩ rfl rfl hl.1 (Nat.le_of_ble_eq_true rfl) dX0_foldedSize_20 ⟨Nat.zero_le _, Nat.zero_le _⟩ (fun H locs hP hS => ?_)
        refine lv_istore (lv' := [(6, .int q20.1), (0, .ref (ad r0)), (3, .int x3), (4, .int x4), (5, .int x5)]) hx hb dX0_foldedSize_23 hl (by decide) rfl (fun ls hl => ?_)
        refine lv_iload hx hb dX0_foldedSize_25 (lv_at hl 3 rfl) ?_
        refine lv_iload hx hb dX0_foldedSize_27 (lv_at hl 0 rfl) ?_
        refine lv_if_le (tgt := 36) hx hb dX0_foldedSize_29 (by decide) (fun h29 => ?_) (fun h29 => ?_)
        · rw [if_pos h29] at hf
          refine lv_iconst (v := 1) hx hb dX0_foldedSize_36 (by decide) ?_
          refine lv_iload hx hb dX0_foldedSize_37 (lv_at hl 0 rfl) ?_
          refine lv_isub hx hb dX0_foldedSize_39 ?_
          exact L40 _ ih _ _ _ _ _ _ _ _ _ hP hS (lv_sub hl [1, 2, 4, 0] rfl) hf
        · rw [if_neg h29] at hf
          refine lv_iconst (v := 2) hx hb dX0_foldedSize_32 (by decide) ?_
          refine lv_goto (tgt := 40) hx hb dX0_foldedSize_33 (by decide) ?_
          exact L40 _ ih _ _ _ _ _ _ _ _ _ hP hS (lv_sub hl [1, 2, 4, 0] rfl) hf
  unfold f_X0_foldedSize at hf
  refine lv_iload_n hx hb dX0_foldedSize_0 rfl (lv_at hl 1 rfl) ?_
  refine lv_iload_n hx hb dX0_foldedSize_1 rfl (lv_at hl 2 rfl) ?_
  refine lv_iadd hx hb dX0_foldedSize_2 ?_
  refine lv_istore_n (lv' := [(3, .int (x1 + x2)), (0, .ref (ad r0)), (1, .int x1), (2, .int x2)]) hx hb dX0_foldedSize_3 rfl hl (by decide) rfl (fun ls hl => ?_)
  refine lv_iconst (v := 0) hx hb dX0_foldedSize_4 (by decide) ?_
  refine lv_istore (lv' := [(4, .int 0), (3, .int (x1 + x2)), (0, .ref (ad r0)), (1, .int x1), (2, .int x2)]) hx hb dX0_foldedSize_5 hl (by decide) rfl (fun ls hl => ?_)
  refine lv_iload_n hx hb dX0_foldedSize_7 rfl (lv_at hl 3 rfl) ?_
  refine lv_istore (lv' := [(5, .int x1), (4, .int 0), (3, .int (x1 + x2)), (0, .ref (ad r0)), (1, .int x1), (2, .int x2)]) hx hb dX0_foldedSize_8 hl (by decide) rfl (fun ls hl => ?_)
  exact L10 fu _ _ _ _ _ _ _ hP hS (lv_sub hl [3, 2, 1, 0] rfl) hf
def f_X4_push (σ : SD) (r0 : Nat) (x1 : Int32) : Option (SD) := if (Int32.ofNat (capD r0)) ≤ (σ.1 0 r0) then (some σ) else (if inb (σ.1 0 r0) (capD r0) = true then (some (SDi (SDc σ r0 (upd (σ.2.2.1 r0) (σ.1 0 r0).toNatClampNeg (x1 &&& 255))) 0 r0 (((SDc σ r0 (upd (σ.2.2.1 r0) (σ.1 0 r0).toNatClampNeg (x1 &&& 255))).1 0 r0) + 1))) else none)
def rm_X4_push : Room := { frames := 0, cells := 0, slots := 0, locals := 0 }
set_option maxHeartbeats 4000000 in
set_option maxRecDepth 100000 in
theorem met_X4_push (l : Launch) (dC : Nat → ClassId) (dI : Nat → Nat → Nat) (cyI cyE : ClassId) (tC : Nat) (ad : Nat → Nat) (σ : SD) (r0 : Nat) (x1 : Int32) (hb_r0 : r0 < 25) (res : SD) (hf : f_X4_push σ r0 x1 = some res) : ax_Mv l dC dI cyI cyE tC 77 (cD cyI cyE ad) ad yX4_push cX4_push 2 none rm_X4_push [.ref (ad r0), .int x1] σ res := by
  intro sz
  refine Met.ofW (cc := cX4_push) (maxL := 2) (ret := none) (by decide) rfl ?_
  intro p e s m args below meth c s₁ B hml hv
  obtain ⟨hargs, hsz, hP, hJ, hE⟩ := hv
  subst hsz
  have hx := B.exec
  have hb := B.bytes
  have hr := B.returns
  have hlocks := B.notSynchronized
  have hts := atoms_spec (ws := wsY yX4_push cX4_push 2 none) B.pre
  have hown : s.vm.findClass RX4 = some m.cls := findClass_of_methodNamed B.named
  have C0 : CallFix p m c cX4_push 2 s args (wsY yX4_push cX4_push 2 none) RX4 := ⟨hx, hb, hml, hown, hts⟩
  have hT : ∀ w ∈ bw, w ∈ wsY yX4_push cX4_push 2 none := fun w h => List.mem_cons_of_mem _ h
  have hS : va_S (ax_A 77 ad s.heap.size) s.heap s.heap [] := va_S.rf
  rw [show entryFrame m args 2 = entryFrame m ([.ref (ad r0), .int x1] : List Value).toArray 2 by rw [hargs]]
  have hl := lv_entry ([.ref (ad r0), .int x1]) (n := 2) (Nat.le_of_ble_eq_true rfl)
  rw [lg_entry_eq]
  generalize (lg_sl ([.ref (ad r0), .int x1]) ++ List.replicate (2 - (lg_sl ([.ref (ad r0), .int x1])).length) Slot.unset).toArray = ls at hl ⊢
  have hl : lv_has ls 2 [(0, .ref (ad r0)), (1, .int x1)] := hl
  obtain ⟨Q, hQ⟩ : ∃ Q : State → Prop, Q = MQ below (va_Qv (fun (u : SD) => u = res) (ax_B dC dI 77 (cD cyI cyE ad) ad) (ax_A 77 ad s.heap.size)) args s 0 0 (ax_A 77 ad s.heap.size) := ⟨_, rfl⟩
  show W p l e rm_X4_push s m args below meth c s.heap [] 0 0 _ _
  rw [← hQ]
  have hret : ∀ (σ : SD) (H : Heap) (locs : List Loc) (ls : Array Slot) (pc : Nat), some σ = some res → va_P (dC, dI) vwCl (ax_w 77 ad (cD cyI cyE ad σ)) H → va_S (ax_A 77 ad s.heap.size) s.heap H locs → decode cX4_push pc = .ok (.return_, 1) → W p l e rm_X4_push s m args below meth c H locs 0 0 Q (F0 m pc ls []) := by
    intro σ H locs ls pc hf hP hS hd
    cases hf
    rw [hQ]
    exact ax_vret hx hb hr hlocks hP hS hd rfl
  unfold f_X4_push at hf
  refine lv_aload_n hx hb dX4_push_0 rfl (lv_at hl 0 rfl) ?_
  refine g_Row_size (r := r0) (by omega) C0 hT hE hP mf_X4_21 dX4_push_1 ?_
  refine lv_aload_n hx hb dX4_push_4 rfl (lv_at hl 0 rfl) ?_
  refine g_Row_cells (r := r0) (by omega) C0 hT hE hP mf_X4_15 dX4_push_5 ?_
  refine aD_len (a := r0) (by omega) C0 hT hE hP dX4_push_8 ?_
  refine lv_icmp_ge (tgt := 36) hx hb dX4_push_9 (by decide) (fun h9 => ?_) (fun h9 => ?_)
  · rw [if_pos h9] at hf
    exact hret _ _ _ _ _ hf hP hS dX4_push_36
  · rw [if_neg h9] at hf
    refine lv_aload_n hx hb dX4_push_12 rfl (lv_at hl 0 rfl) ?_
    refine g_Row_cells (r := r0) (by omega) C0 hT hE hP mf_X4_15 dX4_push_13 ?_
    refine lv_aload_n hx hb dX4_push_16 rfl (lv_at hl 0 rfl) ?_
    refine g_Row_size (r := r0) (by omega) C0 hT hE hP mf_X4_21 dX4_push_17 ?_
    refine lv_iload_n hx hb dX4_push_20 rfl (lv_at hl 1 rfl) ?_
    refine lv_sipush (v := 255) hx hb dX4_push_21 (by decide) ?_
    refine lv_iand hx hb dX4_push_24 ?_
    obtain ⟨hin, hf⟩ := ob_if hf
    refine aD_st (a := r0) (by omega) C0 hT hE hJ hP hS (inb_in hin) dX4_push_25 (fun H locs hP hS => ?_)
    refine lv_aload_n hx hb dX4_push_26 rfl (lv_at hl 0 rfl) ?_
    refine lv_dup hx hb dX4_push_27 rfl ?_
    refine g_Row_size (r := r0) (by omega) C0 hT hE hP mf_X4_21 dX4_push_28 ?_
    refine lv_iconst (v := 1) hx hb dX4_push_31 (by decide) ?_
    refine lv_iadd hx hb dX4_push_32 ?_
    refine p_Row_size (r := r0) (by omega) C0 hT hE hJ hP hS mf_X4_21 dX4_push_33 (fun H locs hP hS => ?_)
    exact hret _ _ _ _ _ hf hP hS dX4_push_36
def f_X4_holds (σ : SD) (r0 : Nat) (x1 : Int32) (x2 : Int32) : Option (Int32 × SD) := if x1 < 0 then (some (0, σ)) else (if x2 < 0 then (some (0, σ)) else (if (σ.1 0 r0) < x2 then (some (0, σ)) else (if ((σ.1 0 r0) - x2) < x1 then (some (0, σ)) else (some (1, σ)))))
def rm_X4_holds : Room := { frames := 0, cells := 0, slots := 0, locals := 0 }
set_option maxHeartbeats 4000000 in
set_option maxRecDepth 100000 in
theorem met_X4_holds (l : Launch) (dC : Nat → ClassId) (dI : Nat → Nat → Nat) (cyI cyE : ClassId) (tC : Nat) (ad : Nat → Nat) (σ : SD) (r0 : Nat) (x1 : Int32) (x2 : Int32) (hb_r0 : r0 < 25) (res : Int32 × SD) (hf : f_X4_holds σ r0 x1 x2 = some res) : ax_Mi l dC dI cyI cyE tC 77 (cD cyI cyE ad) ad yX4_holds cX4_holds 3 (some .boolean) rm_X4_holds [.ref (ad r0), .int x1, .int x2] σ res.1 res.2 := by
  intro sz
  refine Met.ofW (cc := cX4_holds) (maxL := 3) (ret := (some .boolean)) (by decide) rfl ?_
  intro p e s m args below meth c s₁ B hml hv
  obtain ⟨hargs, hsz, hP, hJ, hE⟩ := hv
  subst hsz
  have hx := B.exec
  have hb := B.bytes
  have hr := B.returns
  have hlocks := B.notSynchronized
  have hts := atoms_spec (ws := wsY yX4_holds cX4_holds 3 (some .boolean)) B.pre
  have hown : s.vm.findClass RX4 = some m.cls := findClass_of_methodNamed B.named
  have C0 : CallFix p m c cX4_holds 3 s args (wsY yX4_holds cX4_holds 3 (some .boolean)) RX4 := ⟨hx, hb, hml, hown, hts⟩
  have hT : ∀ w ∈ bw, w ∈ wsY yX4_holds cX4_holds 3 (some .boolean) := fun w h => List.mem_cons_of_mem _ h
  have hS : va_S (ax_A 77 ad s.heap.size) s.heap s.heap [] := va_S.rf
  rw [show entryFrame m args 3 = entryFrame m ([.ref (ad r0), .int x1, .int x2] : List Value).toArray 3 by rw [hargs]]
  have hl := lv_entry ([.ref (ad r0), .int x1, .int x2]) (n := 3) (Nat.le_of_ble_eq_true rfl)
  rw [lg_entry_eq]
  generalize (lg_sl ([.ref (ad r0), .int x1, .int x2]) ++ List.replicate (3 - (lg_sl ([.ref (ad r0), .int x1, .int x2])).length) Slot.unset).toArray = ls at hl ⊢
  have hl : lv_has ls 3 [(0, .ref (ad r0)), (1, .int x1), (2, .int x2)] := hl
  obtain ⟨Q, hQ⟩ : ∃ Q : State → Prop, Q = MQ below (va_Qi (fun (a : Int32) (u : SD) => a = res.1 ∧ u = res.2) (ax_B dC dI 77 (cD cyI cyE ad) ad) (ax_A 77 ad s.heap.size)) args s 0 0 (ax_A 77 ad s.heap.size) := ⟨_, rfl⟩
  show W p l e rm_X4_holds s m args below meth c s.heap [] 0 0 _ _
  rw [← hQ]
  have hret : ∀ (v : Int32) (σ : SD) (H : Heap) (locs : List Loc) (ls : Array Slot) (pc : Nat), narrow .boolean (.int v) = .int v → some (v, σ) = some res → va_P (dC, dI) vwCl (ax_w 77 ad (cD cyI cyE ad σ)) H → va_S (ax_A 77 ad s.heap.size) s.heap H locs → decode cX4_holds pc = .ok (.ireturn, 1) → W p l e rm_X4_holds s m args below meth c H locs 0 0 Q (F0 m pc ls [.int v]) := by
    intro v σ H locs ls pc hn hf hP hS hd
    cases hf
    rw [hQ]
    exact ax_iret hx hb hr hlocks hn hP hS hd rfl rfl
  unfold f_X4_holds at hf
  refine lv_iload_n hx hb dX4_holds_0 rfl (lv_at hl 1 rfl) ?_
  refine lv_if_lt (tgt := 30) hx hb dX4_holds_1 (by decide) (fun h1 => ?_) (fun h1 => ?_)
  · rw [if_pos h1] at hf
    refine lv_iconst (v := 0) hx hb dX4_holds_30 (by decide) ?_
    exact hret _ _ _ _ _ _ rfl hf hP hS dX4_holds_31
  · rw [if_neg h1] at hf
    refine lv_iload_n hx hb dX4_holds_4 rfl (lv_at hl 2 rfl) ?_
    refine lv_if_lt (tgt := 30) hx hb dX4_holds_5 (by decide) (fun h5 => ?_) (fun h5 => ?_)
    · rw [if_pos h5] at hf
      refine lv_iconst (v := 0) hx hb dX4_holds_30 (by decide) ?_
      exact hret _ _ _ _ _ _ rfl hf hP hS dX4_holds_31
    · rw [if_neg h5] at hf
      refine lv_iload_n hx hb dX4_holds_8 rfl (lv_at hl 2 rfl) ?_
      refine lv_aload_n hx hb dX4_holds_9 rfl (lv_at hl 0 rfl) ?_
      refine g_Row_size (r := r0) (by omega) C0 hT hE hP mf_X4_21 dX4_holds_10 ?_
      refine lv_icmp_gt (tgt := 30) hx hb dX4_holds_13 (by decide) (fun h13 => ?_) (fun h13 => ?_)
      · rw [if_pos h13] at hf
        refine lv_iconst (v := 0) hx hb dX4_holds_30 (by decide) ?_
        exact hret _ _ _ _ _ _ rfl hf hP hS dX4_holds_31
      · rw [if_neg h13] at hf
        refine lv_iload_n hx hb dX4_holds_16 rfl (lv_at hl 1 rfl) ?_
        refine lv_aload_n hx hb dX4_holds_17 rfl (lv_at hl 0 rfl) ?_
        refine g_Row_size (r := r0) (by omega) C0 hT hE hP mf_X4_21 dX4_holds_18 ?_
        refine lv_iload_n hx hb dX4_holds_21 rfl (lv_at hl 2 rfl) ?_
        refine lv_isub hx hb dX4_holds_22 ?_
        refine lv_icmp_gt (tgt := 30) hx hb dX4_holds_23 (by decide) (fun h23 => ?_) (fun h23 => ?_)
        · rw [if_pos h23] at hf
          refine lv_iconst (v := 0) hx hb dX4_holds_30 (by decide) ?_
          exact hret _ _ _ _ _ _ rfl hf hP hS dX4_holds_31
        · rw [if_neg h23] at hf
          refine lv_iconst (v := 1) hx hb dX4_holds_26 (by decide) ?_
          refine lv_goto (tgt := 31) hx hb dX4_holds_27 (by decide) ?_
          exact hret _ _ _ _ _ _ rfl hf hP hS dX4_holds_31
def f_X4_room (σ : SD) (r0 : Nat) : Option (Int32 × SD) := some ((Int32.ofNat (capD r0)) - (σ.1 0 r0), σ)
def rm_X4_room : Room := { frames := 0, cells := 0, slots := 0, locals := 0 }
set_option maxHeartbeats 4000000 in
set_option maxRecDepth 100000 in
theorem met_X4_room (l : Launch) (dC : Nat → ClassId) (dI : Nat → Nat → Nat) (cyI cyE : ClassId) (tC : Nat) (ad : Nat → Nat) (σ : SD) (r0 : Nat) (hb_r0 : r0 < 25) (res : Int32 × SD) (hf : f_X4_room σ r0 = some res) : ax_Mi l dC dI cyI cyE tC 77 (cD cyI cyE ad) ad yX4_room cX4_room 1 (some .int) rm_X4_room [.ref (ad r0)] σ res.1 res.2 := by
  intro sz
  refine Met.ofW (cc := cX4_room) (maxL := 1) (ret := (some .int)) (by decide) rfl ?_
  intro p e s m args below meth c s₁ B hml hv
  obtain ⟨hargs, hsz, hP, hJ, hE⟩ := hv
  subst hsz
  have hx := B.exec
  have hb := B.bytes
  have hr := B.returns
  have hlocks := B.notSynchronized
  have hts := atoms_spec (ws := wsY yX4_room cX4_room 1 (some .int)) B.pre
  have hown : s.vm.findClass RX4 = some m.cls := findClass_of_methodNamed B.named
  have C0 : CallFix p m c cX4_room 1 s args (wsY yX4_room cX4_room 1 (some .int)) RX4 := ⟨hx, hb, hml, hown, hts⟩
  have hT : ∀ w ∈ bw, w ∈ wsY yX4_room cX4_room 1 (some .int) := fun w h => List.mem_cons_of_mem _ h
  have hS : va_S (ax_A 77 ad s.heap.size) s.heap s.heap [] := va_S.rf
  rw [show entryFrame m args 1 = entryFrame m ([.ref (ad r0)] : List Value).toArray 1 by rw [hargs]]
  have hl := lv_entry ([.ref (ad r0)]) (n := 1) (Nat.le_of_ble_eq_true rfl)
  rw [lg_entry_eq]
  generalize (lg_sl ([.ref (ad r0)]) ++ List.replicate (1 - (lg_sl ([.ref (ad r0)])).length) Slot.unset).toArray = ls at hl ⊢
  have hl : lv_has ls 1 [(0, .ref (ad r0))] := hl
  obtain ⟨Q, hQ⟩ : ∃ Q : State → Prop, Q = MQ below (va_Qi (fun (a : Int32) (u : SD) => a = res.1 ∧ u = res.2) (ax_B dC dI 77 (cD cyI cyE ad) ad) (ax_A 77 ad s.heap.size)) args s 0 0 (ax_A 77 ad s.heap.size) := ⟨_, rfl⟩
  show W p l e rm_X4_room s m args below meth c s.heap [] 0 0 _ _
  rw [← hQ]
  have hret : ∀ (v : Int32) (σ : SD) (H : Heap) (locs : List Loc) (ls : Array Slot) (pc : Nat), narrow .int (.int v) = .int v → some (v, σ) = some res → va_P (dC, dI) vwCl (ax_w 77 ad (cD cyI cyE ad σ)) H → va_S (ax_A 77 ad s.heap.size) s.heap H locs → decode cX4_room pc = .ok (.ireturn, 1) → W p l e rm_X4_room s m args below meth c H locs 0 0 Q (F0 m pc ls [.int v]) := by
    intro v σ H locs ls pc hn hf hP hS hd
    cases hf
    rw [hQ]
    exact ax_iret hx hb hr hlocks hn hP hS hd rfl rfl
  unfold f_X4_room at hf
  refine lv_aload_n hx hb dX4_room_0 rfl (lv_at hl 0 rfl) ?_
  refine g_Row_cells (r := r0) (by omega) C0 hT hE hP mf_X4_15 dX4_room_1 ?_
  refine aD_len (a := r0) (by omega) C0 hT hE hP dX4_room_4 ?_
  refine lv_aload_n hx hb dX4_room_5 rfl (lv_at hl 0 rfl) ?_
  refine g_Row_size (r := r0) (by omega) C0 hT hE hP mf_X4_21 dX4_room_6 ?_
  refine lv_isub hx hb dX4_room_9 ?_
  exact hret _ _ _ _ _ _ rfl hf hP hS dX4_room_10
def f_X4_append (σ : SD) (r0 : Nat) (r1 : Nat) (x2 : Int32) (x3 : Int32) : Option (SD) := (f_X4_holds σ r1 x2 x3).bind fun q3 => if q3.1 = 0 then (some q3.2) else ((f_X4_room q3.2 r0).bind fun q11 => if q11.1 < x3 then (some q11.2) else (if cpb x2 (q11.2.1 0 r0) x3 (capD r1) (capD r0) = true then (some (SDi (SDc q11.2 r0 (va_cpy (q11.2.2.2.1 r1) (q11.2.2.2.1 r0) x2.toNatClampNeg (q11.2.1 0 r0).toNatClampNeg x3.toNatClampNeg)) 0 r0 (((SDc q11.2 r0 (va_cpy (q11.2.2.2.1 r1) (q11.2.2.2.1 r0) x2.toNatClampNeg (q11.2.1 0 r0).toNatClampNeg x3.toNatClampNeg)).1 0 r0) + x3))) else none))
def rm_X4_append : Room := { frames := 1, cells := 0, slots := 0, locals := 30 }
set_option maxHeartbeats 4000000 in
set_option maxRecDepth 100000 in
theorem met_X4_append (l : Launch) (dC : Nat → ClassId) (dI : Nat → Nat → Nat) (cyI cyE : ClassId) (tC : Nat) (ad : Nat → Nat) (σ : SD) (r0 : Nat) (r1 : Nat) (x2 : Int32) (x3 : Int32) (hb_r0 : r0 < 25) (hb_r1 : r1 < 25) (res : SD) (hf : f_X4_append σ r0 r1 x2 x3 = some res) : ax_Mv l dC dI cyI cyE tC 77 (cD cyI cyE ad) ad yX4_append cX4_append 4 none rm_X4_append [.ref (ad r0), .ref (ad r1), .int x2, .int x3] σ res := by
  intro sz
  refine Met.ofW (cc := cX4_append) (maxL := 4) (ret := none) (by decide) rfl ?_
  intro p e s m args below meth c s₁ B hml hv
  obtain ⟨hargs, hsz, hP, hJ, hE⟩ := hv
  subst hsz
  have hx := B.exec
  have hb := B.bytes
  have hr := B.returns
  have hlocks := B.notSynchronized
  have hts := atoms_spec (ws := wsY yX4_append cX4_append 4 none) B.pre
  have hown : s.vm.findClass RX4 = some m.cls := findClass_of_methodNamed B.named
  have C0 : CallFix p m c cX4_append 4 s args (wsY yX4_append cX4_append 4 none) RX4 := ⟨hx, hb, hml, hown, hts⟩
  have hT : ∀ w ∈ bw, w ∈ wsY yX4_append cX4_append 4 none := fun w h => List.mem_cons_of_mem _ h
  have hS : va_S (ax_A 77 ad s.heap.size) s.heap s.heap [] := va_S.rf
  rw [show entryFrame m args 4 = entryFrame m ([.ref (ad r0), .ref (ad r1), .int x2, .int x3] : List Value).toArray 4 by rw [hargs]]
  have hl := lv_entry ([.ref (ad r0), .ref (ad r1), .int x2, .int x3]) (n := 4) (Nat.le_of_ble_eq_true rfl)
  rw [lg_entry_eq]
  generalize (lg_sl ([.ref (ad r0), .ref (ad r1), .int x2, .int x3]) ++ List.replicate (4 - (lg_sl ([.ref (ad r0), .ref (ad r1), .int x2, .int x3])).length) Slot.unset).toArray = ls at hl ⊢
  have hl : lv_has ls 4 [(0, .ref (ad r0)), (1, .ref (ad r1)), (2, .int x2), (3, .int x3)] := hl
  obtain ⟨Q, hQ⟩ : ∃ Q : State → Prop, Q = MQ below (va_Qv (fun (u : SD) => u = res) (ax_B dC dI 77 (cD cyI cyE ad) ad) (ax_A 77 ad s.heap.size)) args s 0 0 (ax_A 77 ad s.heap.size) := ⟨_, rfl⟩
  show W p l e rm_X4_append s m args below meth c s.heap [] 0 0 _ _
  rw [← hQ]
  have hret : ∀ (σ : SD) (H : Heap) (locs : List Loc) (ls : Array Slot) (pc : Nat), some σ = some res → va_P (dC, dI) vwCl (ax_w 77 ad (cD cyI cyE ad σ)) H → va_S (ax_A 77 ad s.heap.size) s.heap H locs → decode cX4_append pc = .ok (.return_, 1) → W p l e rm_X4_append s m args below meth c H locs 0 0 Q (F0 m pc ls []) := by
    intro σ H locs ls pc hf hP hS hd
    cases hf
    rw [hQ]
    exact ax_vret hx hb hr hlocks hP hS hd rfl
  unfold f_X4_append at hf
  refine lv_aload_n hx hb dX4_append_0 rfl (lv_at hl 1 rfl) ?_
  refine lv_iload_n hx hb dX4_append_1 rfl (lv_at hl 2 rfl) ?_
  refine lv_iload_n hx hb dX4_append_2 rfl (lv_at hl 3 rfl) ?_
  obtain ⟨q3, hq, hf⟩ := ob_bind hf
  refine ax_callVi (C := "") (b := 0) (i := r1) (k := 2) (ci := 3) [.int x2, .int x3] C0 hT hJ hE (met_X4_holds l dC dI cyI cyE tC ad σ r1 x2 x3 (by omega) _ hq) hP hS mc_X4_holds ml_X4_25 mi_X4_holds ms_X4_holds mz_X4 (by decide +kernel) ⟨rfl, rfl⟩ ⟨by decide, by decide⟩ (by omega) (cD_Row (by omega)) rfl rfl rfl hl.1 (Nat.le_of_ble_eq_true rfl) dX4_append_3 ⟨Nat.zero_le _, Nat.zero_le _⟩ (fun H locs hP hS => ?_)
  refine lv_if_eq (tgt := 44) hx hb dX4_append_6 (by decide) (fun h6 => ?_) (fun h6 => ?_)
  · rw [if_pos h6] at hf
    exact hret _ _ _ _ _ hf hP hS dX4_append_44
  · rw [if_neg h6] at hf
    refine lv_iload_n hx hb dX4_append_9 rfl (lv_at hl 3 rfl) ?_
    refine lv_aload_n hx hb dX4_append_10 rfl (lv_at hl 0 rfl) ?_
    obtain ⟨q11, hq, hf⟩ := ob_bind hf
    refine ax_callVi (C := "") (b := 0) (i := r0) (k := 0) (ci := 3) [] C0 hT hJ hE (met_X4_room l dC dI cyI cyE tC ad q3.2 r0 (by omega) _ hq) hP hS mc_X4_room ml_X4_38 mi_X4_room ms_X4_room mz_X4 (by decide +kernel) ⟨rfl, rfl⟩ ⟨by decide, by decide⟩ (by omega) (cD_Row (by omega)) rfl rfl rfl hl.1 (Nat.le_of_ble_eq_true rfl) dX4_append_11 ⟨Nat.zero_le _, Nat.zero_le _⟩ (fun H locs hP hS => ?_)
    refine lv_icmp_gt (tgt := 44) hx hb dX4_append_14 (by decide) (fun h14 => ?_) (fun h14 => ?_)
    · rw [if_pos h14] at hf
      exact hret _ _ _ _ _ hf hP hS dX4_append_44
    · rw [if_neg h14] at hf
      refine lv_aload_n hx hb dX4_append_17 rfl (lv_at hl 1 rfl) ?_
      refine g_Row_cells (r := r1) (by omega) C0 hT hE hP mf_X4_15 dX4_append_18 ?_
      refine lv_iload_n hx hb dX4_append_21 rfl (lv_at hl 2 rfl) ?_
      refine lv_aload_n hx hb dX4_append_22 rfl (lv_at hl 0 rfl) ?_
      refine g_Row_cells (r := r0) (by omega) C0 hT hE hP mf_X4_15 dX4_append_23 ?_
      refine lv_aload_n hx hb dX4_append_26 rfl (lv_at hl 0 rfl) ?_
      refine g_Row_size (r := r0) (by omega) C0 hT hE hP mf_X4_21 dX4_append_27 ?_
      refine lv_iload_n hx hb dX4_append_30 rfl (lv_at hl 3 rfl) ?_
      obtain ⟨hin, hf⟩ := ob_if hf
      refine aD_cp (a := r1) (b := r0) (by omega) (by omega) C0 hT hE hJ hP hS hl.1 ml_X4_42 hin (Nat.le_of_ble_eq_true rfl) (Nat.le_of_ble_eq_true rfl) dX4_append_31 (fun H locs hP hS => ?_)
      refine lv_aload_n hx hb dX4_append_34 rfl (lv_at hl 0 rfl) ?_
      refine lv_dup hx hb dX4_append_35 rfl ?_
      refine g_Row_size (r := r0) (by omega) C0 hT hE hP mf_X4_21 dX4_append_36 ?_
      refine lv_iload_n hx hb dX4_append_39 rfl (lv_at hl 3 rfl) ?_
      refine lv_iadd hx hb dX4_append_40 ?_
      refine p_Row_size (r := r0) (by omega) C0 hT hE hJ hP hS mf_X4_21 dX4_append_41 (fun H locs hP hS => ?_)
      exact hret _ _ _ _ _ hf hP hS dX4_append_44
