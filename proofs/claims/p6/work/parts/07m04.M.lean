def f_X8_crc_58 (x1 : Int32) (k4 : SM → Int32 → Int32 → Option (Int32 × SM)) (k32 : SM → Int32 → Int32 → Int32 → Option (Int32 × SM)) (σ : SM) (x3 : Int32) (x4 : Int32) (s0 : Int32) : Option (Int32 × SM) := k32 σ s0 x3 (x4 + 1)
def f_X8_crc_32 (x1 : Int32) (k4 : SM → Int32 → Int32 → Option (Int32 × SM)) : Nat → SM → Int32 → Int32 → Int32 → Option (Int32 × SM)
  | 0, _, _, _, _ => none
  | n + 1, σ, x2, x3, x4 => if (8 : Int32) ≤ x4 then (k4 σ x2 (x3 + 1)) else (if (x2 &&& 1) = 1 then (f_X8_crc_58 x1 k4 (f_X8_crc_32 x1 k4 n) σ x3 x4 (((x2.toUInt32 >>> ((1 : Int32).toUInt32 &&& Int32.toUInt32 31)).toInt32) ^^^ (-306674912))) else (f_X8_crc_58 x1 k4 (f_X8_crc_32 x1 k4 n) σ x3 x4 ((x2.toUInt32 >>> ((1 : Int32).toUInt32 &&& Int32.toUInt32 31)).toInt32)))
def f_X8_crc_4 (x1 : Int32) : Nat → SM → Int32 → Int32 → Option (Int32 × SM)
  | 0, _, _, _ => none
  | n + 1, σ, x2, x3 => if inb x1 (capM 6) = true then (if (σ.2 6 x1.toNatClampNeg) ≤ x3 then (some (x2 ^^^ (-1), σ)) else (if inb ((1500 * x1) + x3) (capM 5) = true then (f_X8_crc_32 x1 (f_X8_crc_4 x1 n) fu σ (x2 ^^^ (σ.2 5 ((1500 * x1) + x3).toNatClampNeg)) x3 0) else none)) else none
def f_X8_crc (σ : SM) (x1 : Int32) : Option (Int32 × SM) := f_X8_crc_4 x1 fu σ (-1) 0
def rm_X8_crc : Room := { frames := 0, cells := 0, slots := 0, locals := 0 }
set_option maxHeartbeats 4000000 in
set_option maxRecDepth 100000 in
theorem met_X8_crc (l : Launch) (dC : Nat → ClassId) (dI : Nat → Nat → Nat) (cyI cyE : ClassId) (tC : Nat) (ad : Nat → Nat) (σ : SM) (x1 : Int32) (res : Int32 × SM) (hf : f_X8_crc σ x1 = some res) : ax_Mi l dC dI cyI cyE tC 12 (cM cyI ad) ad yX8_crc cX8_crc 5 (some .int) rm_X8_crc [.ref (ad 11), .int x1] σ res.1 res.2 := by
  intro sz
  refine Met.ofW (cc := cX8_crc) (maxL := 5) (ret := (some .int)) (by decide) rfl ?_
  intro p e s m args below meth c s₁ B hml hv
  obtain ⟨hargs, hsz, hP, hJ, hE⟩ := hv
  subst hsz
  have hx := B.exec
  have hb := B.bytes
  have hr := B.returns
  have hlocks := B.notSynchronized
  have hts := atoms_spec (ws := wsY yX8_crc cX8_crc 5 (some .int)) B.pre
  have hown : s.vm.findClass RX8 = some m.cls := findClass_of_methodNamed B.named
  have C0 : CallFix p m c cX8_crc 5 s args (wsY yX8_crc cX8_crc 5 (some .int)) RX8 := ⟨hx, hb, hml, hown, hts⟩
  have hT : ∀ w ∈ bw, w ∈ wsY yX8_crc cX8_crc 5 (some .int) := fun w h => List.mem_cons_of_mem _ h
  have hS : va_S (ax_A 12 ad s.heap.size) s.heap s.heap [] := va_S.rf
  rw [show entryFrame m args 5 = entryFrame m ([.ref (ad 11), .int x1] : List Value).toArray 5 by rw [hargs]]
  have hl := lv_entry ([.ref (ad 11), .int x1]) (n := 5) (Nat.le_of_ble_eq_true rfl)
  rw [lg_entry_eq]
  generalize (lg_sl ([.ref (ad 11), .int x1]) ++ List.replicate (5 - (lg_sl ([.ref (ad 11), .int x1])).length) Slot.unset).toArray = ls at hl ⊢
  have hl : lv_has ls 5 [(0, .ref (ad 11)), (1, .int x1)] := hl
  obtain ⟨Q, hQ⟩ : ∃ Q : State → Prop, Q = MQ below (va_Qi (fun (a : Int32) (u : SM) => a = res.1 ∧ u = res.2) (ax_B dC dI 12 (cM cyI ad) ad) (ax_A 12 ad s.heap.size)) args s 0 0 (ax_A 12 ad s.heap.size) := ⟨_, rfl⟩
  show W p l e rm_X8_crc s m args below meth c s.heap [] 0 0 _ _
  rw [← hQ]
  have hret : ∀ (v : Int32) (σ : SM) (H : Heap) (locs : List Loc) (ls : Array Slot) (pc : Nat), narrow .int (.int v) = .int v → some (v, σ) = some res → va_P (dC, dI) vwCl (ax_w 12 ad (cM cyI ad σ)) H → va_S (ax_A 12 ad s.heap.size) s.heap H locs → decode cX8_crc pc = .ok (.ireturn, 1) → W p l e rm_X8_crc s m args below meth c H locs 0 0 Q (F0 m pc ls [.int v]) := by
    intro v σ H locs ls pc hn hf hP hS hd
    cases hf
    rw [hQ]
    exact ax_iret hx hb hr hlocks hn hP hS hd rfl rfl
  have L58 : ∀ (k4 : SM → Int32 → Int32 → Option (Int32 × SM)), (∀ (σ : SM) (x2 : Int32) (x3 : Int32), ∀ (H : Heap) (locs : List Loc) (ls : Array Slot), va_P (dC, dI) vwCl (ax_w 12 ad (cM cyI ad σ)) H → va_S (ax_A 12 ad s.heap.size) s.heap H locs → lv_has ls 5 [(0, .ref (ad 11)), (1, .int x1), (2, .int x2), (3, .int x3)] → k4 σ x2 x3 = some res → W p l e rm_X8_crc s m args below meth c H locs 0 0 Q (F0 m 4 ls [])) → ∀ (k32 : SM → Int32 → Int32 → Int32 → Option (Int32 × SM)), (∀ (σ : SM) (x2 : Int32) (x3 : Int32) (x4 : Int32), ∀ (H : Heap) (locs : List Loc) (ls : Array Slot), va_P (dC, dI) vwCl (ax_w 12 ad (cM cyI ad σ)) H → va_S (ax_A 12 ad s.heap.size) s.heap H locs → lv_has ls 5 [(0, .ref (ad 11)), (1, .int x1), (2, .int x2), (3, .int x3), (4, .int x4)] → k32 σ x2 x3 x4 = some res → W p l e rm_X8_crc s m args below meth c H locs 0 0 Q (F0 m 32 ls [])) → ∀ (σ : SM) (x3 : Int32) (x4 : Int32) (s0 : Int32), ∀ (H : Heap) (locs : List Loc) (ls : Array Slot), va_P (dC, dI) vwCl (ax_w 12 ad (cM cyI ad σ)) H → va_S (ax_A 12 ad s.heap.size) s.heap H locs → lv_has ls 5 [(0, .ref (ad 11)), (1, .int x1), (3, .int x3), (4, .int x4)] → f_X8_crc_58 x1 k4 k32 σ x3 x4 s0 = some res → W p l e rm_X8_crc s m args below meth c H locs 0 0 Q (F0 m 58 ls [.int s0]) := by
    intro k4 hk4 k32 hk32
    intro σ x3 x4 s0  H locs ls hP hS hl hf
    unfold f_X8_crc_58 at hf
    refine lv_istore_n (lv' := [(2, .int s0), (0, .ref (ad 11)), (1, .int x1), (3, .int x3), (4, .int x4)]) hx hb dX8_crc_58 rfl hl (by decide) rfl (fun ls hl => ?_)
    refine lv_iinc (v := x4 + 1) (lv' := [(4, .int (x4 + 1)), (2, .int s0), (0, .ref (ad 11)), (1, .int x1), (3, .int x3)]) hx hb dX8_crc_59 hl (k := 4) rfl rfl (by decide) rfl (fun ls hl => ?_)
    refine lv_goto (tgt := 32) hx hb dX8_crc_62 (by decide) ?_
    exact hk32 _ _ _ _ _ _ _ hP hS (lv_sub hl [2, 3, 1, 4, 0] rfl) hf
  have L32 : ∀ (k4 : SM → Int32 → Int32 → Option (Int32 × SM)), (∀ (σ : SM) (x2 : Int32) (x3 : Int32), ∀ (H : Heap) (locs : List Loc) (ls : Array Slot), va_P (dC, dI) vwCl (ax_w 12 ad (cM cyI ad σ)) H → va_S (ax_A 12 ad s.heap.size) s.heap H locs → lv_has ls 5 [(0, .ref (ad 11)), (1, .int x1), (2, .int x2), (3, .int x3)] → k4 σ x2 x3 = some res → W p l e rm_X8_crc s m args below meth c H locs 0 0 Q (F0 m 4 ls [])) → ∀ (n : Nat), ∀ (σ : SM) (x2 : Int32) (x3 : Int32) (x4 : Int32), ∀ (H : Heap) (locs : List Loc) (ls : Array Slot), va_P (dC, dI) vwCl (ax_w 12 ad (cM cyI ad σ)) H → va_S (ax_A 12 ad s.heap.size) s.heap H locs → lv_has ls 5 [(0, .ref (ad 11)), (1, .int x1), (2, .int x2), (3, .int x3), (4, .int x4)] → f_X8_crc_32 x1 k4 n σ x2 x3 x4 = some res → W p l e rm_X8_crc s m args below meth c H locs 0 0 Q (F0 m 32 ls []) := by
    intro k4 hk4
    intro n
    induction n with
    | zero =>
      intro σ x2 x3 x4  H locs ls hP hS hl hf
      cases hf
    | succ n ih =>
      intro σ x2 x3 x4  H locs ls hP hS hl hf
      rw [f_X8_crc_32] at hf
      refine lv_iload hx hb dX8_crc_32 (lv_at hl 4 rfl) ?_
      refine lv_bipush (v := 8) hx hb dX8_crc_34 (by decide) ?_
      refine lv_icmp_ge (tgt := 65) hx hb dX8_crc_36 (by decide) (fun h36 => ?_) (fun h36 => ?_)
      · rw [if_pos h36] at hf
        refine lv_iinc (v := x3 + 1) (lv' := [(3, .int (x3 + 1)), (0, .ref (ad 11)), (1, .int x1), (2, .int x2), (4, .int x4)]) hx hb dX8_crc_65 hl (k := 3) rfl rfl (by decide) rfl (fun ls hl => ?_)
        refine lv_goto (tgt := 4) hx hb dX8_crc_68 (by decide) ?_
        exact hk4 _ _ _ _ _ _ hP hS (lv_sub hl [1, 2, 3, 0] rfl) hf
      · rw [if_neg h36] at hf
        refine lv_iload_n hx hb dX8_crc_39 rfl (lv_at hl 2 rfl) ?_
        refine lv_iconst (v := 1) hx hb dX8_crc_40 (by decide) ?_
        refine lv_iand hx hb dX8_crc_41 ?_
        refine lv_iconst (v := 1) hx hb dX8_crc_42 (by decide) ?_
        refine lv_icmp_ne (tgt := 55) hx hb dX8_crc_43 (by decide) (fun h43 => ?_) (fun h43 => ?_)
        · rw [if_neg h43] at hf
          refine lv_iload_n hx hb dX8_crc_55 rfl (lv_at hl 2 rfl) ?_
          refine lv_iconst (v := 1) hx hb dX8_crc_56 (by decide) ?_
          refine lv_iushr hx hb dX8_crc_57 rfl ?_
          exact L58 _ hk4 _ ih _ _ _ _ _ _ _ hP hS (lv_sub hl [0, 1, 3, 4] rfl) hf
        · rw [if_pos h43] at hf
          refine lv_iload_n hx hb dX8_crc_46 rfl (lv_at hl 2 rfl) ?_
          refine lv_iconst (v := 1) hx hb dX8_crc_47 (by decide) ?_
          refine lv_iushr hx hb dX8_crc_48 rfl ?_
          refine lv_ldc (own := RX8) (v := (-306674912)) hx hb hown (C0.2.2.2.2 _ (hT _ mk_X8_113)) dX8_crc_49 ?_
          refine lv_ixor hx hb dX8_crc_51 ?_
          refine lv_goto (tgt := 58) hx hb dX8_crc_52 (by decide) ?_
          exact L58 _ hk4 _ ih _ _ _ _ _ _ _ hP hS (lv_sub hl [0, 1, 3, 4] rfl) hf
  have L4 : ∀ (n : Nat), ∀ (σ : SM) (x2 : Int32) (x3 : Int32), ∀ (H : Heap) (locs : List Loc) (ls : Array Slot), va_P (dC, dI) vwCl (ax_w 12 ad (cM cyI ad σ)) H → va_S (ax_A 12 ad s.heap.size) s.heap H locs → lv_has ls 5 [(0, .ref (ad 11)), (1, .int x1), (2, .int x2), (3, .int x3)] → f_X8_crc_4 x1 n σ x2 x3 = some res → W p l e rm_X8_crc s m args below meth c H locs 0 0 Q (F0 m 4 ls []) := by
    intro n
    induction n with
    | zero =>
      intro σ x2 x3  H locs ls hP hS hl hf
      cases hf
    | succ n ih =>
      intro σ x2 x3  H locs ls hP hS hl hf
      rw [f_X8_crc_4] at hf
      refine lv_iload_n hx hb dX8_crc_4 rfl (lv_at hl 3 rfl) ?_
      refine lv_aload_n hx hb dX8_crc_5 rfl (lv_at hl 0 rfl) ?_
      refine g_Model_many C0 hT hE hP mf_X8_28 dX8_crc_6 ?_
      refine lv_iload_n hx hb dX8_crc_9 rfl (lv_at hl 1 rfl) ?_
      obtain ⟨hin, hf⟩ := ob_if hf
      refine aM_ld (a := 6) (by decide) C0 hT hE hP (inb_in hin) dX8_crc_10 ?_
      refine lv_icmp_ge (tgt := 71) hx hb dX8_crc_11 (by decide) (fun h11 => ?_) (fun h11 => ?_)
      · rw [if_pos h11] at hf
        refine lv_iload_n hx hb dX8_crc_71 rfl (lv_at hl 2 rfl) ?_
        refine lv_iconst (v := (-1)) hx hb dX8_crc_72 (by decide) ?_
        refine lv_ixor hx hb dX8_crc_73 ?_
        exact hret _ _ _ _ _ _ rfl hf hP hS dX8_crc_74
      · rw [if_neg h11] at hf
        refine lv_iload_n hx hb dX8_crc_14 rfl (lv_at hl 2 rfl) ?_
        refine lv_aload_n hx hb dX8_crc_15 rfl (lv_at hl 0 rfl) ?_
        refine g_Model_bytes C0 hT hE hP mf_X8_25 dX8_crc_16 ?_
        refine lv_sipush (v := 1500) hx hb dX8_crc_19 (by decide) ?_
        refine lv_iload_n hx hb dX8_crc_22 rfl (lv_at hl 1 rfl) ?_
        refine lv_imul hx hb dX8_crc_23 ?_
        refine lv_iload_n hx hb dX8_crc_24 rfl (lv_at hl 3 rfl) ?_
        refine lv_iadd hx hb dX8_crc_25 ?_
        obtain ⟨hin, hf⟩ := ob_if hf
        refine aM_ld (a := 5) (by decide) C0 hT hE hP (inb_in hin) dX8_crc_26 ?_
        refine lv_ixor hx hb dX8_crc_27 ?_
        refine lv_istore_n (lv' := [(2, .int (x2 ^^^ (σ.2 5 ((1500 * x1) + x3).toNatClampNeg))), (0, .ref (ad 11)), (1, .int x1), (3, .int x3)]) hx hb dX8_crc_28 rfl hl (by decide) rfl (fun ls hl => ?_)
        refine lv_iconst (v := 0) hx hb dX8_crc_29 (by decide) ?_
        refine lv_istore (lv' := [(4, .int 0), (2, .int (x2 ^^^ (σ.2 5 ((1500 * x1) + x3).toNatClampNeg))), (0, .ref (ad 11)), (1, .int x1), (3, .int x3)]) hx hb dX8_crc_30 hl (by decide) rfl (fun ls hl => ?_)
        exact L32 _ ih fu _ _ _ _ _ _ _ hP hS (lv_sub hl [2, 3, 1, 4, 0] rfl) hf
  unfold f_X8_crc at hf
  refine lv_iconst (v := (-1)) hx hb dX8_crc_0 (by decide) ?_
  refine lv_istore_n (lv' := [(2, .int (-1)), (0, .ref (ad 11)), (1, .int x1)]) hx hb dX8_crc_1 rfl hl (by decide) rfl (fun ls hl => ?_)
  refine lv_iconst (v := 0) hx hb dX8_crc_2 (by decide) ?_
  refine lv_istore_n (lv' := [(3, .int 0), (2, .int (-1)), (0, .ref (ad 11)), (1, .int x1)]) hx hb dX8_crc_3 rfl hl (by decide) rfl (fun ls hl => ?_)
  exact L4 fu _ _ _ _ _ _ hP hS (lv_sub hl [2, 3, 1, 0] rfl) hf
def f_X8_write_2 (x1 : Int32) (x2 : Int32) : Nat → SM → Int32 → Option (SM)
  | 0, _, _ => none
  | n + 1, σ, x3 => if x2 ≤ x3 then (some σ) else (if inb (σ.1 2) (capM 2) = true then (f_X8_write_2 x1 x2 n (SMi (SMc σ 2 (upd (σ.2 2) (σ.1 2).toNatClampNeg ((x1 >>> ((8 * x3) &&& 31)) &&& 255))) 2 (((SMc σ 2 (upd (σ.2 2) (σ.1 2).toNatClampNeg ((x1 >>> ((8 * x3) &&& 31)) &&& 255))).1 2) + 1)) (x3 + 1)) else none)
def f_X8_write (σ : SM) (x1 : Int32) (x2 : Int32) : Option (SM) := f_X8_write_2 x1 x2 fu σ 0
def rm_X8_write : Room := { frames := 0, cells := 0, slots := 0, locals := 0 }
set_option maxHeartbeats 4000000 in
set_option maxRecDepth 100000 in
theorem met_X8_write (l : Launch) (dC : Nat → ClassId) (dI : Nat → Nat → Nat) (cyI cyE : ClassId) (tC : Nat) (ad : Nat → Nat) (σ : SM) (x1 : Int32) (x2 : Int32) (res : SM) (hf : f_X8_write σ x1 x2 = some res) : ax_Mv l dC dI cyI cyE tC 12 (cM cyI ad) ad yX8_write cX8_write 4 none rm_X8_write [.ref (ad 11), .int x1, .int x2] σ res := by
  intro sz
  refine Met.ofW (cc := cX8_write) (maxL := 4) (ret := none) (by decide) rfl ?_
  intro p e s m args below meth c s₁ B hml hv
  obtain ⟨hargs, hsz, hP, hJ, hE⟩ := hv
  subst hsz
  have hx := B.exec
  have hb := B.bytes
  have hr := B.returns
  have hlocks := B.notSynchronized
  have hts := atoms_spec (ws := wsY yX8_write cX8_write 4 none) B.pre
  have hown : s.vm.findClass RX8 = some m.cls := findClass_of_methodNamed B.named
  have C0 : CallFix p m c cX8_write 4 s args (wsY yX8_write cX8_write 4 none) RX8 := ⟨hx, hb, hml, hown, hts⟩
  have hT : ∀ w ∈ bw, w ∈ wsY yX8_write cX8_write 4 none := fun w h => List.mem_cons_of_mem _ h
  have hS : va_S (ax_A 12 ad s.heap.size) s.heap s.heap [] := va_S.rf
  rw [show entryFrame m args 4 = entryFrame m ([.ref (ad 11), .int x1, .int x2] : List Value).toArray 4 by rw [hargs]]
  have hl := lv_entry ([.ref (ad 11), .int x1, .int x2]) (n := 4) (Nat.le_of_ble_eq_true rfl)
  rw [lg_entry_eq]
  generalize (lg_sl ([.ref (ad 11), .int x1, .int x2]) ++ List.replicate (4 - (lg_sl ([.ref (ad 11), .int x1, .int x2])).length) Slot.unset).toArray = ls at hl ⊢
  have hl : lv_has ls 4 [(0, .ref (ad 11)), (1, .int x1), (2, .int x2)] := hl
  obtain ⟨Q, hQ⟩ : ∃ Q : State → Prop, Q = MQ below (va_Qv (fun (u : SM) => u = res) (ax_B dC dI 12 (cM cyI ad) ad) (ax_A 12 ad s.heap.size)) args s 0 0 (ax_A 12 ad s.heap.size) := ⟨_, rfl⟩
  show W p l e rm_X8_write s m args below meth c s.heap [] 0 0 _ _
  rw [← hQ]
  have hret : ∀ (σ : SM) (H : Heap) (locs : List Loc) (ls : Array Slot) (pc : Nat), some σ = some res → va_P (dC, dI) vwCl (ax_w 12 ad (cM cyI ad σ)) H → va_S (ax_A 12 ad s.heap.size) s.heap H locs → decode cX8_write pc = .ok (.return_, 1) → W p l e rm_X8_write s m args below meth c H locs 0 0 Q (F0 m pc ls []) := by
    intro σ H locs ls pc hf hP hS hd
    cases hf
    rw [hQ]
    exact ax_vret hx hb hr hlocks hP hS hd rfl
  have L2 : ∀ (n : Nat), ∀ (σ : SM) (x3 : Int32), ∀ (H : Heap) (locs : List Loc) (ls : Array Slot), va_P (dC, dI) vwCl (ax_w 12 ad (cM cyI ad σ)) H → va_S (ax_A 12 ad s.heap.size) s.heap H locs → lv_has ls 4 [(0, .ref (ad 11)), (1, .int x1), (2, .int x2), (3, .int x3)] → f_X8_write_2 x1 x2 n σ x3 = some res → W p l e rm_X8_write s m args below meth c H locs 0 0 Q (F0 m 2 ls []) := by
    intro n
    induction n with
    | zero =>
      intro σ x3  H locs ls hP hS hl hf
      cases hf
    | succ n ih =>
      intro σ x3  H locs ls hP hS hl hf
      rw [f_X8_write_2] at hf
      refine lv_iload_n hx hb dX8_write_2 rfl (lv_at hl 3 rfl) ?_
      refine lv_iload_n hx hb dX8_write_3 rfl (lv_at hl 2 rfl) ?_
      refine lv_icmp_ge (tgt := 42) hx hb dX8_write_4 (by decide) (fun h4 => ?_) (fun h4 => ?_)
      · rw [if_pos h4] at hf
        exact hret _ _ _ _ _ hf hP hS dX8_write_42
      · rw [if_neg h4] at hf
        refine lv_aload_n hx hb dX8_write_7 rfl (lv_at hl 0 rfl) ?_
        refine g_Model_output C0 hT hE hP mf_X8_16 dX8_write_8 ?_
        refine lv_aload_n hx hb dX8_write_11 rfl (lv_at hl 0 rfl) ?_
        refine g_Model_outputSize C0 hT hE hP mf_X8_56 dX8_write_12 ?_
        refine lv_iload_n hx hb dX8_write_15 rfl (lv_at hl 1 rfl) ?_
        refine lv_bipush (v := 8) hx hb dX8_write_16 (by decide) ?_
        refine lv_iload_n hx hb dX8_write_18 rfl (lv_at hl 3 rfl) ?_
        refine lv_imul hx hb dX8_write_19 ?_
        refine lv_ishr hx hb dX8_write_20 ?_
        refine lv_sipush (v := 255) hx hb dX8_write_21 (by decide) ?_
        refine lv_iand hx hb dX8_write_24 ?_
        obtain ⟨hin, hf⟩ := ob_if hf
        refine aM_st (a := 2) (by decide) C0 hT hE hJ hP hS (inb_in hin) dX8_write_25 (fun H locs hP hS => ?_)
        refine lv_aload_n hx hb dX8_write_26 rfl (lv_at hl 0 rfl) ?_
        refine lv_dup hx hb dX8_write_27 rfl ?_
        refine g_Model_outputSize C0 hT hE hP mf_X8_56 dX8_write_28 ?_
        refine lv_iconst (v := 1) hx hb dX8_write_31 (by decide) ?_
        refine lv_iadd hx hb dX8_write_32 ?_
        refine p_Model_outputSize C0 hT hE hJ hP hS mf_X8_56 dX8_write_33 (fun H locs hP hS => ?_)
        refine lv_iinc (v := x3 + 1) (lv' := [(3, .int (x3 + 1)), (0, .ref (ad 11)), (1, .int x1), (2, .int x2)]) hx hb dX8_write_36 hl (k := 3) rfl rfl (by decide) rfl (fun ls hl => ?_)
        refine lv_goto (tgt := 2) hx hb dX8_write_39 (by decide) ?_
        exact ih _ _ _ _ _ hP hS (lv_sub hl [1, 2, 3, 0] rfl) hf
  unfold f_X8_write at hf
  refine lv_iconst (v := 0) hx hb dX8_write_0 (by decide) ?_
  refine lv_istore_n (lv' := [(3, .int 0), (0, .ref (ad 11)), (1, .int x1), (2, .int x2)]) hx hb dX8_write_1 rfl hl (by decide) rfl (fun ls hl => ?_)
  exact L2 fu _ _ _ _ _ hP hS (lv_sub hl [1, 2, 3, 0] rfl) hf
def f_X8_writeFacts (σ : SM) (x1 : Int32) : Option (SM) := (f_X8_write σ 0 2).bind fun q3 => (f_X8_method q3 x1).bind fun q9 => (f_X8_write q9.2 q9.1 2).bind fun q13 => (f_X8_write q13 0 2).bind fun q19 => (f_X8_write q19 33 2).bind fun q26 => (f_X8_crc q26 x1).bind fun q32 => (f_X8_write q32.2 q32.1 4).bind fun q36 => (f_X8_packedSize q36 x1).bind fun q42 => (f_X8_write q42.2 q42.1 4).bind fun q46 => if inb x1 (capM 6) = true then ((f_X8_write q46 (q46.2 6 x1.toNatClampNeg) 4).bind fun q57 => if inb x1 (capM 4) = true then ((f_X8_write q57 (q57.2 4 x1.toNatClampNeg) 2).bind fun q68 => some q68) else none) else none
def rm_X8_writeFacts : Room := { frames := 4, cells := 0, slots := 0, locals := 91 }
set_option maxHeartbeats 4000000 in
set_option maxRecDepth 100000 in
theorem met_X8_writeFacts (l : Launch) (dC : Nat → ClassId) (dI : Nat → Nat → Nat) (cyI cyE : ClassId) (tC : Nat) (ad : Nat → Nat) (σ : SM) (x1 : Int32) (res : SM) (hf : f_X8_writeFacts σ x1 = some res) : ax_Mv l dC dI cyI cyE tC 12 (cM cyI ad) ad yX8_writeFacts cX8_writeFacts 2 none rm_X8_writeFacts [.ref (ad 11), .int x1] σ res := by
  intro sz
  refine Met.ofW (cc := cX8_writeFacts) (maxL := 2) (ret := none) (by decide) rfl ?_
  intro p e s m args below meth c s₁ B hml hv
  obtain ⟨hargs, hsz, hP, hJ, hE⟩ := hv
  subst hsz
  have hx := B.exec
  have hb := B.bytes
  have hr := B.returns
  have hlocks := B.notSynchronized
  have hts := atoms_spec (ws := wsY yX8_writeFacts cX8_writeFacts 2 none) B.pre
  have hown : s.vm.findClass RX8 = some m.cls := findClass_of_methodNamed B.named
  have C0 : CallFix p m c cX8_writeFacts 2 s args (wsY yX8_writeFacts cX8_writeFacts 2 none) RX8 := ⟨hx, hb, hml, hown, hts⟩
  have hT : ∀ w ∈ bw, w ∈ wsY yX8_writeFacts cX8_writeFacts 2 none := fun w h => List.mem_cons_of_mem _ h
  have hS : va_S (ax_A 12 ad s.heap.size) s.heap s.heap [] := va_S.rf
  rw [show entryFrame m args 2 = entryFrame m ([.ref (ad 11), .int x1] : List Value).toArray 2 by rw [hargs]]
  have hl := lv_entry ([.ref (ad 11), .int x1]) (n := 2) (Nat.le_of_ble_eq_true rfl)
  rw [lg_entry_eq]
  generalize (lg_sl ([.ref (ad 11), .int x1]) ++ List.replicate (2 - (lg_sl ([.ref (ad 11), .int x1])).length) Slot.unset).toArray = ls at hl ⊢
  have hl : lv_has ls 2 [(0, .ref (ad 11)), (1, .int x1)] := hl
  obtain ⟨Q, hQ⟩ : ∃ Q : State → Prop, Q = MQ below (va_Qv (fun (u : SM) => u = res) (ax_B dC dI 12 (cM cyI ad) ad) (ax_A 12 ad s.heap.size)) args s 0 0 (ax_A 12 ad s.heap.size) := ⟨_, rfl⟩
  show W p l e rm_X8_writeFacts s m args below meth c s.heap [] 0 0 _ _
  rw [← hQ]
  have hret : ∀ (σ : SM) (H : Heap) (locs : List Loc) (ls : Array Slot) (pc : Nat), some σ = some res → va_P (dC, dI) vwCl (ax_w 12 ad (cM cyI ad σ)) H → va_S (ax_A 12 ad s.heap.size) s.heap H locs → decode cX8_writeFacts pc = .ok (.return_, 1) → W p l e rm_X8_writeFacts s m args below meth c H locs 0 0 Q (F0 m pc ls []) := by
    intro σ H locs ls pc hf hP hS hd
    cases hf
    rw [hQ]
    exact ax_vret hx hb hr hlocks hP hS hd rfl
  unfold f_X8_writeFacts at hf
  refine lv_aload_n hx hb dX8_writeFacts_0 rfl (lv_at hl 0 rfl) ?_
  refine lv_iconst (v := 0) hx hb dX8_writeFacts_1 (by decide) ?_
  refine lv_iconst (v := 2) hx hb dX8_writeFacts_2 (by decide) ?_
  obtain ⟨q3, hq, hf⟩ := ob_bind hf
  refine ax_callVv (b := 0) (i := 11) (k := 2) (ci := 6) [.int 0, .int 2] C0 hT hJ hE (met_X8_write l dC dI cyI cyE tC ad σ 0 2 _ hq) hP hS mc_X8_write ml_X8_114 mi_X8_write ms_X8_write mz_X8 (by decide +kernel) ⟨rfl, rfl⟩ ⟨by decide, by decide⟩ (by decide) cM_O rfl rfl rfl hl.1 (Nat.le_of_ble_eq_true rfl) dX8_writeFacts_3 ⟨Nat.zero_le _, Nat.zero_le _⟩ (fun H locs hP hS => ?_)
  refine lv_aload_n hx hb dX8_writeFacts_6 rfl (lv_at hl 0 rfl) ?_
  refine lv_aload_n hx hb dX8_writeFacts_7 rfl (lv_at hl 0 rfl) ?_
  refine lv_iload_n hx hb dX8_writeFacts_8 rfl (lv_at hl 1 rfl) ?_
  obtain ⟨q9, hq, hf⟩ := ob_bind hf
  refine ax_callVi (C := "") (b := 0) (i := 11) (k := 1) (ci := 6) [.int x1] C0 hT hJ hE (met_X8_method l dC dI cyI cyE tC ad q3 x1 _ hq) hP hS mc_X8_method ml_X8_109 mi_X8_method ms_X8_method mz_X8 (by decide +kernel) ⟨rfl, rfl⟩ ⟨by decide, by decide⟩ (by decide) cM_O rfl rfl rfl hl.1 (Nat.le_of_ble_eq_true rfl) dX8_writeFacts_9 ⟨Nat.zero_le _, Nat.zero_le _⟩ (fun H locs hP hS => ?_)
  refine lv_iconst (v := 2) hx hb dX8_writeFacts_12 (by decide) ?_
  obtain ⟨q13, hq, hf⟩ := ob_bind hf
  refine ax_callVv (b := 0) (i := 11) (k := 2) (ci := 6) [.int q9.1, .int 2] C0 hT hJ hE (met_X8_write l dC dI cyI cyE tC ad q9.2 q9.1 2 _ hq) hP hS mc_X8_write ml_X8_114 mi_X8_write ms_X8_write mz_X8 (by decide +kernel) ⟨rfl, rfl⟩ ⟨by decide, by decide⟩ (by decide) cM_O rfl rfl rfl hl.1 (Nat.le_of_ble_eq_true rfl) dX8_writeFacts_13 ⟨Nat.zero_le _, Nat.zero_le _⟩ (fun H locs hP hS => ?_)
  refine lv_aload_n hx hb dX8_writeFacts_16 rfl (lv_at hl 0 rfl) ?_
  refine lv_iconst (v := 0) hx hb dX8_writeFacts_17 (by decide) ?_
  refine lv_iconst (v := 2) hx hb dX8_writeFacts_18 (by decide) ?_
  obtain ⟨q19, hq, hf⟩ := ob_bind hf
  refine ax_callVv (b := 0) (i := 11) (k := 2) (ci := 6) [.int 0, .int 2] C0 hT hJ hE (met_X8_write l dC dI cyI cyE tC ad q13 0 2 _ hq) hP hS mc_X8_write ml_X8_114 mi_X8_write ms_X8_write mz_X8 (by decide +kernel) ⟨rfl, rfl⟩ ⟨by decide, by decide⟩ (by decide) cM_O rfl rfl rfl hl.1 (Nat.le_of_ble_eq_true rfl) dX8_writeFacts_19 ⟨Nat.zero_le _, Nat.zero_le _⟩ (fun H locs hP hS => ?_)
  refine lv_aload_n hx hb dX8_writeFacts_22 rfl (lv_at hl 0 rfl) ?_
  refine lv_bipush (v := 33) hx hb dX8_writeFacts_23 (by decide) ?_
  refine lv_iconst (v := 2) hx hb dX8_writeFacts_25 (by decide) ?_
  obtain ⟨q26, hq, hf⟩ := ob_bind hf
  refine ax_callVv (b := 0) (i := 11) (k := 2) (ci := 6) [.int 33, .int 2] C0 hT hJ hE (met_X8_write l dC dI cyI cyE tC ad q19 33 2 _ hq) hP hS mc_X8_write ml_X8_114 mi_X8_write ms_X8_write mz_X8 (by decide +kernel) ⟨rfl, rfl⟩ ⟨by decide, by decide⟩ (by decide) cM_O rfl rfl rfl hl.1 (Nat.le_of_ble_eq_true rfl) dX8_writeFacts_26 ⟨Nat.zero_le _, Nat.zero_le _⟩ (fun H locs hP hS => ?_)
  refine lv_aload_n hx hb dX8_writeFacts_29 rfl (lv_at hl 0 rfl) ?_
  refine lv_aload_n hx hb dX8_writeFacts_30 rfl (lv_at hl 0 rfl) ?_
  refine lv_iload_n hx hb dX8_writeFacts_31 rfl (lv_at hl 1 rfl) ?_
  obtain ⟨q32, hq, hf⟩ := ob_bind hf
  refine ax_callVi (C := "") (b := 0) (i := 11) (k := 1) (ci := 6) [.int x1] C0 hT hJ hE (met_X8_crc l dC dI cyI cyE tC ad q26 x1 _ hq) hP hS mc_X8_crc ml_X8_117 mi_X8_crc ms_X8_crc mz_X8 (by decide +kernel) ⟨rfl, rfl⟩ ⟨by decide, by decide⟩ (by decide) cM_O rfl rfl rfl hl.1 (Nat.le_of_ble_eq_true rfl) dX8_writeFacts_32 ⟨Nat.zero_le _, Nat.zero_le _⟩ (fun H locs hP hS => ?_)
  refine lv_iconst (v := 4) hx hb dX8_writeFacts_35 (by decide) ?_
  obtain ⟨q36, hq, hf⟩ := ob_bind hf
  refine ax_callVv (b := 0) (i := 11) (k := 2) (ci := 6) [.int q32.1, .int 4] C0 hT hJ hE (met_X8_write l dC dI cyI cyE tC ad q32.2 q32.1 4 _ hq) hP hS mc_X8_write ml_X8_114 mi_X8_write ms_X8_write mz_X8 (by decide +kernel) ⟨rfl, rfl⟩ ⟨by decide, by decide⟩ (by decide) cM_O rfl rfl rfl hl.1 (Nat.le_of_ble_eq_true rfl) dX8_writeFacts_36 ⟨Nat.zero_le _, Nat.zero_le _⟩ (fun H locs hP hS => ?_)
  refine lv_aload_n hx hb dX8_writeFacts_39 rfl (lv_at hl 0 rfl) ?_
  refine lv_aload_n hx hb dX8_writeFacts_40 rfl (lv_at hl 0 rfl) ?_
  refine lv_iload_n hx hb dX8_writeFacts_41 rfl (lv_at hl 1 rfl) ?_
  obtain ⟨q42, hq, hf⟩ := ob_bind hf
  refine ax_callVi (C := "") (b := 0) (i := 11) (k := 1) (ci := 6) [.int x1] C0 hT hJ hE (met_X8_packedSize l dC dI cyI cyE tC ad q36 x1 _ hq) hP hS mc_X8_packedSize ml_X8_120 mi_X8_packedSize ms_X8_packedSize mz_X8 (by decide +kernel) ⟨rfl, rfl⟩ ⟨by decide, by decide⟩ (by decide) cM_O rfl rfl rfl hl.1 (Nat.le_of_ble_eq_true rfl) dX8_writeFacts_42 ⟨Nat.zero_le _, Nat.zero_le _⟩ (fun H locs hP hS => ?_)
  refine lv_iconst (v := 4) hx hb dX8_writeFacts_45 (by decide) ?_
  obtain ⟨q46, hq, hf⟩ := ob_bind hf
  refine ax_callVv (b := 0) (i := 11) (k := 2) (ci := 6) [.int q42.1, .int 4] C0 hT hJ hE (met_X8_write l dC dI cyI cyE tC ad q42.2 q42.1 4 _ hq) hP hS mc_X8_write ml_X8_114 mi_X8_write ms_X8_write mz_X8 (by decide +kernel) ⟨rfl, rfl⟩ ⟨by decide, by decide⟩ (by decide) cM_O rfl rfl rfl hl.1 (Nat.le_of_ble_eq_true rfl) dX8_writeFacts_46 ⟨Nat.zero_le _, Nat.zero_le _⟩ (fun H locs hP hS => ?_)
  refine lv_aload_n hx hb dX8_writeFacts_49 rfl (lv_at hl 0 rfl) ?_
  refine lv_aload_n hx hb dX8_writeFacts_50 rfl (lv_at hl 0 rfl) ?_
  refine g_Model_many C0 hT hE hP mf_X8_28 dX8_writeFacts_51 ?_
  refine lv_iload_n hx hb dX8_writeFacts_54 rfl (lv_at hl 1 rfl) ?_
  obtain ⟨hin, hf⟩ := ob_if hf
  refine aM_ld (a := 6) (by decide) C0 hT hE hP (inb_in hin) dX8_writeFacts_55 ?_
  refine lv_iconst (v := 4) hx hb dX8_writeFacts_56 (by decide) ?_
  obtain ⟨q57, hq, hf⟩ := ob_bind hf
  refine ax_callVv (b := 0) (i := 11) (k := 2) (ci := 6) [.int (q46.2 6 x1.toNatClampNeg), .int 4] C0 hT hJ hE (met_X8_write l dC dI cyI cyE tC ad q46 (q46.2 6 x1.toNatClampNeg) 4 _ hq) hP hS mc_X8_write ml_X8_114 mi_X8_write ms_X8_write mz_X8 (by decide +kernel) ⟨rfl, rfl⟩ ⟨by decide, by decide⟩ (by decide) cM_O rfl rfl rfl hl.1 (Nat.le_of_ble_eq_true rfl) dX8_writeFacts_57 ⟨Nat.zero_le _, Nat.zero_le _⟩ (fun H locs hP hS => ?_)
  refine lv_aload_n hx hb dX8_writeFacts_60 rfl (lv_at hl 0 rfl) ?_
  refine lv_aload_n hx hb dX8_writeFacts_61 rfl (lv_at hl 0 rfl) ?_
  refine g_Model_nameSize C0 hT hE hP mf_X8_22 dX8_writeFacts_62 ?_
  refine lv_iload_n hx hb dX8_writeFacts_65 rfl (lv_at hl 1 rfl) ?_
  obtain ⟨hin, hf⟩ := ob_if hf
  refine aM_ld (a := 4) (by decide) C0 hT hE hP (inb_in hin) dX8_writeFacts_66 ?_
  refine lv_iconst (v := 2) hx hb dX8_writeFacts_67 (by decide) ?_
  obtain ⟨q68, hq, hf⟩ := ob_bind hf
  refine ax_callVv (b := 0) (i := 11) (k := 2) (ci := 6) [.int (q57.2 4 x1.toNatClampNeg), .int 2] C0 hT hJ hE (met_X8_write l dC dI cyI cyE tC ad q57 (q57.2 4 x1.toNatClampNeg) 2 _ hq) hP hS mc_X8_write ml_X8_114 mi_X8_write ms_X8_write mz_X8 (by decide +kernel) ⟨rfl, rfl⟩ ⟨by decide, by decide⟩ (by decide) cM_O rfl rfl rfl hl.1 (Nat.le_of_ble_eq_true rfl) dX8_writeFacts_68 ⟨Nat.zero_le _, Nat.zero_le _⟩ (fun H locs hP hS => ?_)
  exact hret _ _ _ _ _ hf hP hS dX8_writeFacts_71
def f_X8_writeName_2 (x1 : Int32) : Nat → SM → Int32 → Option (SM)
  | 0, _, _ => none
  | n + 1, σ, x2 => if inb x1 (capM 4) = true then (if (σ.2 4 x1.toNatClampNeg) ≤ x2 then (some σ) else (if inb ((30 * x1) + x2) (capM 3) = true then ((f_X8_write σ (σ.2 3 ((30 * x1) + x2).toNatClampNeg) 1).bind fun q25 => f_X8_writeName_2 x1 n q25 (x2 + 1)) else none)) else none
def f_X8_writeName (σ : SM) (x1 : Int32) : Option (SM) := f_X8_writeName_2 x1 fu σ 0
def rm_X8_writeName : Room := { frames := 1, cells := 0, slots := 0, locals := 23 }
set_option maxHeartbeats 4000000 in
set_option maxRecDepth 100000 in
theorem met_X8_writeName (l : Launch) (dC : Nat → ClassId) (dI : Nat → Nat → Nat) (cyI cyE : ClassId) (tC : Nat) (ad : Nat → Nat) (σ : SM) (x1 : Int32) (res : SM) (hf : f_X8_writeName σ x1 = some res) : ax_Mv l dC dI cyI cyE tC 12 (cM cyI ad) ad yX8_writeName cX8_writeName 3 none rm_X8_writeName [.ref (ad 11), .int x1] σ res := by
  intro sz
  refine Met.ofW (cc := cX8_writeName) (maxL := 3) (ret := none) (by decide) rfl ?_
  intro p e s m args below meth c s₁ B hml hv
  obtain ⟨hargs, hsz, hP, hJ, hE⟩ := hv
  subst hsz
  have hx := B.exec
  have hb := B.bytes
  have hr := B.returns
  have hlocks := B.notSynchronized
  have hts := atoms_spec (ws := wsY yX8_writeName cX8_writeName 3 none) B.pre
  have hown : s.vm.findClass RX8 = some m.cls := findClass_of_methodNamed B.named
  have C0 : CallFix p m c cX8_writeName 3 s args (wsY yX8_writeName cX8_writeName 3 none) RX8 := ⟨hx, hb, hml, hown, hts⟩
  have hT : ∀ w ∈ bw, w ∈ wsY yX8_writeName cX8_writeName 3 none := fun w h => List.mem_cons_of_mem _ h
  have hS : va_S (ax_A 12 ad s.heap.size) s.heap s.heap [] := va_S.rf
  rw [show entryFrame m args 3 = entryFrame m ([.ref (ad 11), .int x1] : List Value).toArray 3 by rw [hargs]]
  have hl := lv_entry ([.ref (ad 11), .int x1]) (n := 3) (Nat.le_of_ble_eq_true rfl)
  rw [lg_entry_eq]
  generalize (lg_sl ([.ref (ad 11), .int x1]) ++ List.replicate (3 - (lg_sl ([.ref (ad 11), .int x1])).length) Slot.unset).toArray = ls at hl ⊢
  have hl : lv_has ls 3 [(0, .ref (ad 11)), (1, .int x1)] := hl
  obtain ⟨Q, hQ⟩ : ∃ Q : State → Prop, Q = MQ below (va_Qv (fun (u : SM) => u = res) (ax_B dC dI 12 (cM cyI ad) ad) (ax_A 12 ad s.heap.size)) args s 0 0 (ax_A 12 ad s.heap.size) := ⟨_, rfl⟩
  show W p l e rm_X8_writeName s m args below meth c s.heap [] 0 0 _ _
  rw [← hQ]
  have hret : ∀ (σ : SM) (H : Heap) (locs : List Loc) (ls : Array Slot) (pc : Nat), some σ = some res → va_P (dC, dI) vwCl (ax_w 12 ad (cM cyI ad σ)) H → va_S (ax_A 12 ad s.heap.size) s.heap H locs → decode cX8_writeName pc = .ok (.return_, 1) → W p l e rm_X8_writeName s m args below meth c H locs 0 0 Q (F0 m pc ls []) := by
    intro σ H locs ls pc hf hP hS hd
    cases hf
    rw [hQ]
    exact ax_vret hx hb hr hlocks hP hS hd rfl
  have L2 : ∀ (n : Nat), ∀ (σ : SM) (x2 : Int32), ∀ (H : Heap) (locs : List Loc) (ls : Array Slot), va_P (dC, dI) vwCl (ax_w 12 ad (cM cyI ad σ)) H → va_S (ax_A 12 ad s.heap.size) s.heap H locs → lv_has ls 3 [(0, .ref (ad 11)), (1, .int x1), (2, .int x2)] → f_X8_writeName_2 x1 n σ x2 = some res → W p l e rm_X8_writeName s m args below meth c H locs 0 0 Q (F0 m 2 ls []) := by
    intro n
    induction n with
    | zero =>
      intro σ x2  H locs ls hP hS hl hf
      cases hf
    | succ n ih =>
      intro σ x2  H locs ls hP hS hl hf
      rw [f_X8_writeName_2] at hf
      refine lv_iload_n hx hb dX8_writeName_2 rfl (lv_at hl 2 rfl) ?_
      refine lv_aload_n hx hb dX8_writeName_3 rfl (lv_at hl 0 rfl) ?_
      refine g_Model_nameSize C0 hT hE hP mf_X8_22 dX8_writeName_4 ?_
      refine lv_iload_n hx hb dX8_writeName_7 rfl (lv_at hl 1 rfl) ?_
      obtain ⟨hin, hf⟩ := ob_if hf
      refine aM_ld (a := 4) (by decide) C0 hT hE hP (inb_in hin) dX8_writeName_8 ?_
      refine lv_icmp_ge (tgt := 34) hx hb dX8_writeName_9 (by decide) (fun h9 => ?_) (fun h9 => ?_)
      · rw [if_pos h9] at hf
        exact hret _ _ _ _ _ hf hP hS dX8_writeName_34
      · rw [if_neg h9] at hf
        refine lv_aload_n hx hb dX8_writeName_12 rfl (lv_at hl 0 rfl) ?_
        refine lv_aload_n hx hb dX8_writeName_13 rfl (lv_at hl 0 rfl) ?_
        refine g_Model_names C0 hT hE hP mf_X8_19 dX8_writeName_14 ?_
        refine lv_bipush (v := 30) hx hb dX8_writeName_17 (by decide) ?_
        refine lv_iload_n hx hb dX8_writeName_19 rfl (lv_at hl 1 rfl) ?_
        refine lv_imul hx hb dX8_writeName_20 ?_
        refine lv_iload_n hx hb dX8_writeName_21 rfl (lv_at hl 2 rfl) ?_
        refine lv_iadd hx hb dX8_writeName_22 ?_
        obtain ⟨hin, hf⟩ := ob_if hf
        refine aM_ld (a := 3) (by decide) C0 hT hE hP (inb_in hin) dX8_writeName_23 ?_
        refine lv_iconst (v := 1) hx hb dX8_writeName_24 (by decide) ?_
        obtain ⟨q25, hq, hf⟩ := ob_bind hf
        refine ax_callVv (b := 0) (i := 11) (k := 2) (ci := 6) [.int (σ.2 3 ((30 * x1) + x2).toNatClampNeg), .int 1] C0 hT hJ hE (met_X8_write l dC dI cyI cyE tC ad σ (σ.2 3 ((30 * x1) + x2).toNatClampNeg) 1 _ hq) hP hS mc_X8_write ml_X8_114 mi_X8_write ms_X8_write mz_X8 (by decide +kernel) ⟨rfl, rfl⟩ ⟨by decide, by decide⟩ (by decide) cM_O rfl rfl rfl hl.1 (Nat.le_of_ble_eq_true rfl) dX8_writeName_25 ⟨Nat.zero_le _, Nat.zero_le _⟩ (fun H locs hP hS => ?_)
        refine lv_iinc (v := x2 + 1) (lv' := [(2, .int (x2 + 1)), (0, .ref (ad 11)), (1, .int x1)]) hx hb dX8_writeName_28 hl (k := 2) rfl rfl (by decide) rfl (fun ls hl => ?_)
        refine lv_goto (tgt := 2) hx hb dX8_writeName_31 (by decide) ?_
        exact ih _ _ _ _ _ hP hS (lv_sub hl [1, 2, 0] rfl) hf
  unfold f_X8_writeName at hf
  refine lv_iconst (v := 0) hx hb dX8_writeName_0 (by decide) ?_
  refine lv_istore_n (lv' := [(2, .int 0), (0, .ref (ad 11)), (1, .int x1)]) hx hb dX8_writeName_1 rfl hl (by decide) rfl (fun ls hl => ?_)
  exact L2 fu _ _ _ _ _ hP hS (lv_sub hl [1, 2, 0] rfl) hf
def f_X8_sign (σ : SM) (x1 : Int32) (x2 : Int32) : Option (SM) := (f_X8_write σ 80 1).bind fun q4 => (f_X8_write q4 75 1).bind fun q11 => (f_X8_write q11 x1 1).bind fun q17 => (f_X8_write q17 x2 1).bind fun q23 => some q23
def rm_X8_sign : Room := { frames := 1, cells := 0, slots := 0, locals := 23 }
set_option maxHeartbeats 4000000 in
set_option maxRecDepth 100000 in
theorem met_X8_sign (l : Launch) (dC : Nat → ClassId) (dI : Nat → Nat → Nat) (cyI cyE : ClassId) (tC : Nat) (ad : Nat → Nat) (σ : SM) (x1 : Int32) (x2 : Int32) (res : SM) (hf : f_X8_sign σ x1 x2 = some res) : ax_Mv l dC dI cyI cyE tC 12 (cM cyI ad) ad yX8_sign cX8_sign 3 none rm_X8_sign [.ref (ad 11), .int x1, .int x2] σ res := by
  intro sz
  refine Met.ofW (cc := cX8_sign) (maxL := 3) (ret := none) (by decide) rfl ?_
  intro p e s m args below meth c s₁ B hml hv
  obtain ⟨hargs, hsz, hP, hJ, hE⟩ := hv
  subst hsz
  have hx := B.exec
  have hb := B.bytes
  have hr := B.returns
  have hlocks := B.notSynchronized
  have hts := atoms_spec (ws := wsY yX8_sign cX8_sign 3 none) B.pre
  have hown : s.vm.findClass RX8 = some m.cls := findClass_of_methodNamed B.named
  have C0 : CallFix p m c cX8_sign 3 s args (wsY yX8_sign cX8_sign 3 none) RX8 := ⟨hx, hb, hml, hown, hts⟩
  have hT : ∀ w ∈ bw, w ∈ wsY yX8_sign cX8_sign 3 none := fun w h => List.mem_cons_of_mem _ h
  have hS : va_S (ax_A 12 ad s.heap.size) s.heap s.heap [] := va_S.rf
  rw [show entryFrame m args 3 = entryFrame m ([.ref (ad 11), .int x1, .int x2] : List Value).toArray 3 by rw [hargs]]
  have hl := lv_entry ([.ref (ad 11), .int x1, .int x2]) (n := 3) (Nat.le_of_ble_eq_true rfl)
  rw [lg_entry_eq]
  generalize (lg_sl ([.ref (ad 11), .int x1, .int x2]) ++ List.replicate (3 - (lg_sl ([.ref (ad 11), .int x1, .int x2])).length) Slot.unset).toArray = ls at hl ⊢
  have hl : lv_has ls 3 [(0, .ref (ad 11)), (1, .int x1), (2, .int x2)] := hl
  obtain ⟨Q, hQ⟩ : ∃ Q : State → Prop, Q = MQ below (va_Qv (fun (u : SM) => u = res) (ax_B dC dI 12 (cM cyI ad) ad) (ax_A 12 ad s.heap.size)) args s 0 0 (ax_A 12 ad s.heap.size) := ⟨_, rfl⟩
  show W p l e rm_X8_sign s m args below meth c s.heap [] 0 0 _ _
  rw [← hQ]
  have hret : ∀ (σ : SM) (H : Heap) (locs : List Loc) (ls : Array Slot) (pc : Nat), some σ = some res → va_P (dC, dI) vwCl (ax_w 12 ad (cM cyI ad σ)) H → va_S (ax_A 12 ad s.heap.size) s.heap H locs → decode cX8_sign pc = .ok (.return_, 1) → W p l e rm_X8_sign s m args below meth c H locs 0 0 Q (F0 m pc ls []) := by
    intro σ H locs ls pc hf hP hS hd
    cases hf
    rw [hQ]
    exact ax_vret hx hb hr hlocks hP hS hd rfl
  unfold f_X8_sign at hf
  refine lv_aload_n hx hb dX8_sign_0 rfl (lv_at hl 0 rfl) ?_
  refine lv_bipush (v := 80) hx hb dX8_sign_1 (by decide) ?_
  refine lv_iconst (v := 1) hx hb dX8_sign_3 (by decide) ?_
  obtain ⟨q4, hq, hf⟩ := ob_bind hf
  refine ax_callVv (b := 0) (i := 11) (k := 2) (ci := 6) [.int 80, .int 1] C0 hT hJ hE (met_X8_write l dC dI cyI cyE tC ad σ 80 1 _ hq) hP hS mc_X8_write ml_X8_114 mi_X8_write ms_X8_write mz_X8 (by decide +kernel) ⟨rfl, rfl⟩ ⟨by decide, by decide⟩ (by decide) cM_O rfl rfl rfl hl.1 (Nat.le_of_ble_eq_true rfl) dX8_sign_4 ⟨Nat.zero_le _, Nat.zero_le _⟩ (fun H locs hP hS => ?_)
  refine lv_aload_n hx hb dX8_sign_7 rfl (lv_at hl 0 rfl) ?_
  refine lv_bipush (v := 75) hx hb dX8_sign_8 (by decide) ?_
  refine lv_iconst (v := 1) hx hb dX8_sign_10 (by decide) ?_
  obtain ⟨q11, hq, hf⟩ := ob_bind hf
  refine ax_callVv (b := 0) (i := 11) (k := 2) (ci := 6) [.int 75, .int 1] C0 hT hJ hE (met_X8_write l dC dI cyI cyE tC ad q4 75 1 _ hq) hP hS mc_X8_write ml_X8_114 mi_X8_write ms_X8_write mz_X8 (by decide +kernel) ⟨rfl, rfl⟩ ⟨by decide, by decide⟩ (by decide) cM_O rfl rfl rfl hl.1 (Nat.le_of_ble_eq_true rfl) dX8_sign_11 ⟨Nat.zero_le _, Nat.zero_le _⟩ (fun H locs hP hS => ?_)
  refine lv_aload_n hx hb dX8_sign_14 rfl (lv_at hl 0 rfl) ?_
  refine lv_iload_n hx hb dX8_sign_15 rfl (lv_at hl 1 rfl) ?_
  refine lv_iconst (v := 1) hx hb dX8_sign_16 (by decide) ?_
  obtain ⟨q17, hq, hf⟩ := ob_bind hf
  refine ax_callVv (b := 0) (i := 11) (k := 2) (ci := 6) [.int x1, .int 1] C0 hT hJ hE (met_X8_write l dC dI cyI cyE tC ad q11 x1 1 _ hq) hP hS mc_X8_write ml_X8_114 mi_X8_write ms_X8_write mz_X8 (by decide +kernel) ⟨rfl, rfl⟩ ⟨by decide, by decide⟩ (by decide) cM_O rfl rfl rfl hl.1 (Nat.le_of_ble_eq_true rfl) dX8_sign_17 ⟨Nat.zero_le _, Nat.zero_le _⟩ (fun H locs hP hS => ?_)
  refine lv_aload_n hx hb dX8_sign_20 rfl (lv_at hl 0 rfl) ?_
  refine lv_iload_n hx hb dX8_sign_21 rfl (lv_at hl 2 rfl) ?_
  refine lv_iconst (v := 1) hx hb dX8_sign_22 (by decide) ?_
  obtain ⟨q23, hq, hf⟩ := ob_bind hf
  refine ax_callVv (b := 0) (i := 11) (k := 2) (ci := 6) [.int x2, .int 1] C0 hT hJ hE (met_X8_write l dC dI cyI cyE tC ad q17 x2 1 _ hq) hP hS mc_X8_write ml_X8_114 mi_X8_write ms_X8_write mz_X8 (by decide +kernel) ⟨rfl, rfl⟩ ⟨by decide, by decide⟩ (by decide) cM_O rfl rfl rfl hl.1 (Nat.le_of_ble_eq_true rfl) dX8_sign_23 ⟨Nat.zero_le _, Nat.zero_le _⟩ (fun H locs hP hS => ?_)
  exact hret _ _ _ _ _ hf hP hS dX8_sign_26
