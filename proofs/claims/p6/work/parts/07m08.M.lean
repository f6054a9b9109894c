def f_X8_isCrc_53 (x1 : Int32) (k12 : SM → Int32 → Int32 → Int32 → Option (Int32 × SM)) (σ : SM) (x2 : Int32) (x4 : Int32) (s0 : Int32) : Option (Int32 × SM) := k12 σ x2 s0 (x4 + 1)
def f_X8_isCrc_12 (x1 : Int32) : Nat → SM → Int32 → Int32 → Int32 → Option (Int32 × SM)
  | 0, _, _, _, _ => none
  | n + 1, σ, x2, x3, x4 => if (4 : Int32) ≤ x4 then (if nzb x3 = true then some (x3, σ) else none) else (if x3 = 0 then (f_X8_isCrc_53 x1 (f_X8_isCrc_12 x1 n) σ x2 x4 0) else (if inb ((x1 + 6) + x4) (capM 1) = true then (if (σ.2 1 ((x1 + 6) + x4).toNatClampNeg) = ((x2 >>> ((8 * x4) &&& 31)) &&& 255) then (f_X8_isCrc_53 x1 (f_X8_isCrc_12 x1 n) σ x2 x4 1) else (f_X8_isCrc_53 x1 (f_X8_isCrc_12 x1 n) σ x2 x4 0)) else none))
def f_X8_isCrc (σ : SM) (x1 : Int32) : Option (Int32 × SM) := (f_X8_crc σ 20).bind fun q3 => f_X8_isCrc_12 x1 fu q3.2 q3.1 1 0
def rm_X8_isCrc : Room := { frames := 1, cells := 0, slots := 0, locals := 24 }
set_option maxHeartbeats 4000000 in
set_option maxRecDepth 100000 in
theorem met_X8_isCrc (l : Launch) (dC : Nat → ClassId) (dI : Nat → Nat → Nat) (cyI cyE : ClassId) (tC : Nat) (ad : Nat → Nat) (σ : SM) (x1 : Int32) (res : Int32 × SM) (hf : f_X8_isCrc σ x1 = some res) : ax_Mi l dC dI cyI cyE tC 12 (cM cyI ad) ad yX8_isCrc cX8_isCrc 5 (some .boolean) rm_X8_isCrc [.ref (ad 11), .int x1] σ res.1 res.2 := by
  intro sz
  refine Met.ofW (cc := cX8_isCrc) (maxL := 5) (ret := (some .boolean)) (by decide) rfl ?_
  intro p e s m args below meth c s₁ B hml hv
  obtain ⟨hargs, hsz, hP, hJ, hE⟩ := hv
  subst hsz
  have hx := B.exec
  have hb := B.bytes
  have hr := B.returns
  have hlocks := B.notSynchronized
  have hts := atoms_spec (ws := wsY yX8_isCrc cX8_isCrc 5 (some .boolean)) B.pre
  have hown : s.vm.findClass RX8 = some m.cls := findClass_of_methodNamed B.named
  have C0 : CallFix p m c cX8_isCrc 5 s args (wsY yX8_isCrc cX8_isCrc 5 (some .boolean)) RX8 := ⟨hx, hb, hml, hown, hts⟩
  have hT : ∀ w ∈ bw, w ∈ wsY yX8_isCrc cX8_isCrc 5 (some .boolean) := fun w h => List.mem_cons_of_mem _ h
  have hS : va_S (ax_A 12 ad s.heap.size) s.heap s.heap [] := va_S.rf
  rw [show entryFrame m args 5 = entryFrame m ([.ref (ad 11), .int x1] : List Value).toArray 5 by rw [hargs]]
  have hl := lv_entry ([.ref (ad 11), .int x1]) (n := 5) (Nat.le_of_ble_eq_true rfl)
  rw [lg_entry_eq]
  generalize (lg_sl ([.ref (ad 11), .int x1]) ++ List.replicate (5 - (lg_sl ([.ref (ad 11), .int x1])).length) Slot.unset).toArray = ls at hl ⊢
  have hl : lv_has ls 5 [(0, .ref (ad 11)), (1, .int x1)] := hl
  obtain ⟨Q, hQ⟩ : ∃ Q : State → Prop, Q = MQ below (va_Qi (fun (a : Int32) (u : SM) => a = res.1 ∧ u = res.2) (ax_B dC dI 12 (cM cyI ad) ad) (ax_A 12 ad s.heap.size)) args s 0 0 (ax_A 12 ad s.heap.size) := ⟨_, rfl⟩
  show W p l e rm_X8_isCrc s m args below meth c s.heap [] 0 0 _ _
  rw [← hQ]
  have hret : ∀ (v : Int32) (σ : SM) (H : Heap) (locs : List Loc) (ls : Array Slot) (pc : Nat), narrow .boolean (.int v) = .int v → some (v, σ) = some res → va_P (dC, dI) vwCl (ax_w 12 ad (cM cyI ad σ)) H → va_S (ax_A 12 ad s.heap.size) s.heap H locs → decode cX8_isCrc pc = .ok (.ireturn, 1) → W p l e rm_X8_isCrc s m args below meth c H locs 0 0 Q (F0 m pc ls [.int v]) := by
    intro v σ H locs ls pc hn hf hP hS hd
    cases hf
    rw [hQ]
    exact ax_iret hx hb hr hlocks hn hP hS hd rfl rfl
  have L53 : ∀ (k12 : SM → Int32 → Int32 → Int32 → Option (Int32 × SM)), (∀ (σ : SM) (x2 : Int32) (x3 : Int32) (x4 : Int32), ∀ (H : Heap) (locs : List Loc) (ls : Array Slot), va_P (dC, dI) vwCl (ax_w 12 ad (cM cyI ad σ)) H → va_S (ax_A 12 ad s.heap.size) s.heap H locs → lv_has ls 5 [(0, .ref (ad 11)), (1, .int x1), (2, .int x2), (3, .int x3), (4, .int x4)] → k12 σ x2 x3 x4 = some res → W p l e rm_X8_isCrc s m args below meth c H locs 0 0 Q (F0 m 12 ls [])) → ∀ (σ : SM) (x2 : Int32) (x4 : Int32) (s0 : Int32), ∀ (H : Heap) (locs : List Loc) (ls : Array Slot), va_P (dC, dI) vwCl (ax_w 12 ad (cM cyI ad σ)) H → va_S (ax_A 12 ad s.heap.size) s.heap H locs → lv_has ls 5 [(0, .ref (ad 11)), (1, .int x1), (2, .int x2), (4, .int x4)] → f_X8_isCrc_53 x1 k12 σ x2 x4 s0 = some res → W p l e rm_X8_isCrc s m args below meth c H locs 0 0 Q (F0 m 53 ls [.int s0]) := by
    intro k12 hk12
    intro σ x2 x4 s0  H locs ls hP hS hl hf
    unfold f_X8_isCrc_53 at hf
    refine lv_istore_n (lv' := [(3, .int s0), (0, .ref (ad 11)), (1, .int x1), (2, .int x2), (4, .int x4)]) hx hb dX8_isCrc_53 rfl hl (by decide) rfl (fun ls hl => ?_)
    refine lv_iinc (v := x4 + 1) (lv' := [(4, .int (x4 + 1)), (3, .int s0), (0, .ref (ad 11)), (1, .int x1), (2, .int x2)]) hx hb dX8_isCrc_54 hl (k := 4) rfl rfl (by decide) rfl (fun ls hl => ?_)
    refine lv_goto (tgt := 12) hx hb dX8_isCrc_57 (by decide) ?_
    exact hk12 _ _ _ _ _ _ _ hP hS (lv_sub hl [2, 3, 4, 1, 0] rfl) hf
  have L12 : ∀ (n : Nat), ∀ (σ : SM) (x2 : Int32) (x3 : Int32) (x4 : Int32), ∀ (H : Heap) (locs : List Loc) (ls : Array Slot), va_P (dC, dI) vwCl (ax_w 12 ad (cM cyI ad σ)) H → va_S (ax_A 12 ad s.heap.size) s.heap H locs → lv_has ls 5 [(0, .ref (ad 11)), (1, .int x1), (2, .int x2), (3, .int x3), (4, .int x4)] → f_X8_isCrc_12 x1 n σ x2 x3 x4 = some res → W p l e rm_X8_isCrc s m args below meth c H locs 0 0 Q (F0 m 12 ls []) := by
    intro n
    induction n with
    | zero =>
      intro σ x2 x3 x4  H locs ls hP hS hl hf
      cases hf
    | succ n ih =>
      intro σ x2 x3 x4  H locs ls hP hS hl hf
      rw [f_X8_isCrc_12] at hf
      refine lv_iload hx hb dX8_isCrc_12 (lv_at hl 4 rfl) ?_
      refine lv_iconst (v := 4) hx hb dX8_isCrc_14 (by decide) ?_
      refine lv_icmp_ge (tgt := 60) hx hb dX8_isCrc_15 (by decide) (fun h15 => ?_) (fun h15 => ?_)
      · rw [if_pos h15] at hf
        refine lv_iload_n hx hb dX8_isCrc_60 rfl (lv_at hl 3 rfl) ?_
        obtain ⟨hnz, hf⟩ := ob_if hf
        exact hret _ _ _ _ _ _ (nzb_n hnz) hf hP hS dX8_isCrc_61
      · rw [if_neg h15] at hf
        refine lv_iload_n hx hb dX8_isCrc_18 rfl (lv_at hl 3 rfl) ?_
        refine lv_if_eq (tgt := 52) hx hb dX8_isCrc_19 (by decide) (fun h19 => ?_) (fun h19 => ?_)
        · rw [if_pos h19] at hf
          refine lv_iconst (v := 0) hx hb dX8_isCrc_52 (by decide) ?_
          exact L53 _ ih _ _ _ _ _ _ _ hP hS (lv_sub hl [0, 1, 2, 4] rfl) hf
        · rw [if_neg h19] at hf
          refine lv_aload_n hx hb dX8_isCrc_22 rfl (lv_at hl 0 rfl) ?_
          refine g_Model_tape C0 hT hE hP mf_X8_13 dX8_isCrc_23 ?_
          refine lv_iload_n hx hb dX8_isCrc_26 rfl (lv_at hl 1 rfl) ?_
          refine lv_bipush (v := 6) hx hb dX8_isCrc_27 (by decide) ?_
          refine lv_iadd hx hb dX8_isCrc_29 ?_
          refine lv_iload hx hb dX8_isCrc_30 (lv_at hl 4 rfl) ?_
          refine lv_iadd hx hb dX8_isCrc_32 ?_
          obtain ⟨hin, hf⟩ := ob_if hf
          refine aM_ld (a := 1) (by decide) C0 hT hE hP (inb_in hin) dX8_isCrc_33 ?_
          refine lv_iload_n hx hb dX8_isCrc_34 rfl (lv_at hl 2 rfl) ?_
          refine lv_bipush (v := 8) hx hb dX8_isCrc_35 (by decide) ?_
          refine lv_iload hx hb dX8_isCrc_37 (lv_at hl 4 rfl) ?_
          refine lv_imul hx hb dX8_isCrc_39 ?_
          refine lv_ishr hx hb dX8_isCrc_40 ?_
          refine lv_sipush (v := 255) hx hb dX8_isCrc_41 (by decide) ?_
          refine lv_iand hx hb dX8_isCrc_44 ?_
          refine lv_icmp_ne (tgt := 52) hx hb dX8_isCrc_45 (by decide) (fun h45 => ?_) (fun h45 => ?_)
          · rw [if_neg h45] at hf
            refine lv_iconst (v := 0) hx hb dX8_isCrc_52 (by decide) ?_
            exact L53 _ ih _ _ _ _ _ _ _ hP hS (lv_sub hl [0, 1, 2, 4] rfl) hf
          · rw [if_pos h45] at hf
            refine lv_iconst (v := 1) hx hb dX8_isCrc_48 (by decide) ?_
            refine lv_goto (tgt := 53) hx hb dX8_isCrc_49 (by decide) ?_
            exact L53 _ ih _ _ _ _ _ _ _ hP hS (lv_sub hl [0, 1, 2, 4] rfl) hf
  unfold f_X8_isCrc at hf
  refine lv_aload_n hx hb dX8_isCrc_0 rfl (lv_at hl 0 rfl) ?_
  refine lv_bipush (v := 20) hx hb dX8_isCrc_1 (by decide) ?_
  obtain ⟨q3, hq, hf⟩ := ob_bind hf
  refine ax_callVi (C := "") (b := 0) (i := 11) (k := 1) (ci := 6) [.int 20] C0 hT hJ hE (met_X8_crc l dC dI cyI cyE tC ad σ 20 _ hq) hP hS mc_X8_crc ml_X8_117 mi_X8_crc ms_X8_crc mz_X8 (by decide +kernel) ⟨rfl, rfl⟩ ⟨by decide, by decide⟩ (by decide) cM_O rfl rfl rfl hl.1 (Nat.le_of_ble_eq_true rfl) dX8_isCrc_3 ⟨Nat.zero_le _, Nat.zero_le _⟩ (fun H locs hP hS => ?_)
  refine lv_istore_n (lv' := [(2, .int q3.1), (0, .ref (ad 11)), (1, .int x1)]) hx hb dX8_isCrc_6 rfl hl (by decide) rfl (fun ls hl => ?_)
  refine lv_iconst (v := 1) hx hb dX8_isCrc_7 (by decide) ?_
  refine lv_istore_n (lv' := [(3, .int 1), (2, .int q3.1), (0, .ref (ad 11)), (1, .int x1)]) hx hb dX8_isCrc_8 rfl hl (by decide) rfl (fun ls hl => ?_)
  refine lv_iconst (v := 0) hx hb dX8_isCrc_9 (by decide) ?_
  refine lv_istore (lv' := [(4, .int 0), (3, .int 1), (2, .int q3.1), (0, .ref (ad 11)), (1, .int x1)]) hx hb dX8_isCrc_10 hl (by decide) rfl (fun ls hl => ?_)
  exact L12 fu _ _ _ _ _ _ _ hP hS (lv_sub hl [3, 4, 2, 1, 0] rfl) hf
def f_X8_areBytes_54 (x1 : Int32) (σ : SM) (x4 : Int32) : Option (Int32 × SM) := if inb x4 (capM 9) = true then ((f_X8_fails σ 4 x4 (σ.2 9 x4.toNatClampNeg)).bind fun q65 => if nzb q65.1 = true then some (q65.1, q65.2) else none) else none
def f_X8_areBytes_5 (x1 : Int32) : Nat → SM → Int64 → Int32 → Option (Int32 × SM)
  | 0, _, _, _ => none
  | n + 1, σ, x2, x4 => if x1 ≤ x4 then (some (1, σ)) else (if inb x4 (capM 8) = true then ((f_X8_number σ (((σ.2 8 x4.toNatClampNeg) + 10) + 14) 4).bind fun q31 => (f_X8_areSizes q31.2 ((σ.2 8 x4.toNatClampNeg) + 10)).bind fun q40 => if q40.1 = 0 then (f_X8_areBytes_54 x1 q40.2 x4) else (if (lg_cmp (x2 + q31.1.toInt64) 6000) ≤ 0 then (if inb x4 (capM 9) = true then ((f_X8_unfold q40.2 (q40.2.2 9 x4.toNatClampNeg) ((σ.2 8 x4.toNatClampNeg) + 10)).bind fun q79 => if q79.1 = 0 then (if inb x4 (capM 9) = true then ((f_X8_fails q79.2 5 x4 (q79.2.2 9 x4.toNatClampNeg)).bind fun q96 => if nzb q96.1 = true then some (q96.1, q96.2) else none) else none) else ((f_X8_isCrc q79.2 ((σ.2 8 x4.toNatClampNeg) + 10)).bind fun q103 => if q103.1 = 0 then (if inb x4 (capM 9) = true then ((f_X8_fails q103.2 6 x4 (q103.2.2 9 x4.toNatClampNeg)).bind fun q121 => if nzb q121.1 = true then some (q121.1, q121.2) else none) else none) else (f_X8_areBytes_5 x1 n q103.2 (x2 + q31.1.toInt64) (x4 + 1)))) else none) else (f_X8_areBytes_54 x1 q40.2 x4))) else none)
def f_X8_areBytes (σ : SM) (x1 : Int32) : Option (Int32 × SM) := f_X8_areBytes_5 x1 fu σ 0 0
def rm_X8_areBytes : Room := { frames := 3, cells := 0, slots := 0, locals := 79 }
set_option maxHeartbeats 4000000 in
set_option maxRecDepth 100000 in
theorem met_X8_areBytes (l : Launch) (dC : Nat → ClassId) (dI : Nat → Nat → Nat) (cyI cyE : ClassId) (tC : Nat) (ad : Nat → Nat) (σ : SM) (x1 : Int32) (res : Int32 × SM) (hf : f_X8_areBytes σ x1 = some res) : ax_Mi l dC dI cyI cyE tC 12 (cM cyI ad) ad yX8_areBytes cX8_areBytes 6 (some .boolean) rm_X8_areBytes [.ref (ad 11), .int x1] σ res.1 res.2 := by
  intro sz
  refine Met.ofW (cc := cX8_areBytes) (maxL := 6) (ret := (some .boolean)) (by decide) rfl ?_
  intro p e s m args below meth c s₁ B hml hv
  obtain ⟨hargs, hsz, hP, hJ, hE⟩ := hv
  subst hsz
  have hx := B.exec
  have hb := B.bytes
  have hr := B.returns
  have hlocks := B.notSynchronized
  have hts := atoms_spec (ws := wsY yX8_areBytes cX8_areBytes 6 (some .boolean)) B.pre
  have hown : s.vm.findClass RX8 = some m.cls := findClass_of_methodNamed B.named
  have C0 : CallFix p m c cX8_areBytes 6 s args (wsY yX8_areBytes cX8_areBytes 6 (some .boolean)) RX8 := ⟨hx, hb, hml, hown, hts⟩
  have hT : ∀ w ∈ bw, w ∈ wsY yX8_areBytes cX8_areBytes 6 (some .boolean) := fun w h => List.mem_cons_of_mem _ h
  have hS : va_S (ax_A 12 ad s.heap.size) s.heap s.heap [] := va_S.rf
  rw [show entryFrame m args 6 = entryFrame m ([.ref (ad 11), .int x1] : List Value).toArray 6 by rw [hargs]]
  have hl := lv_entry ([.ref (ad 11), .int x1]) (n := 6) (Nat.le_of_ble_eq_true rfl)
  rw [lg_entry_eq]
  generalize (lg_sl ([.ref (ad 11), .int x1]) ++ List.replicate (6 - (lg_sl ([.ref (ad 11), .int x1])).length) Slot.unset).toArray = ls at hl ⊢
  have hl : lv_has ls 6 [(0, .ref (ad 11)), (1, .int x1)] := hl
  obtain ⟨Q, hQ⟩ : ∃ Q : State → Prop, Q = MQ below (va_Qi (fun (a : Int32) (u : SM) => a = res.1 ∧ u = res.2) (ax_B dC dI 12 (cM cyI ad) ad) (ax_A 12 ad s.heap.size)) args s 0 0 (ax_A 12 ad s.heap.size) := ⟨_, rfl⟩
  show W p l e rm_X8_areBytes s m args below meth c s.heap [] 0 0 _ _
  rw [← hQ]
  have hret : ∀ (v : Int32) (σ : SM) (H : Heap) (locs : List Loc) (ls : Array Slot) (pc : Nat), narrow .boolean (.int v) = .int v → some (v, σ) = some res → va_P (dC, dI) vwCl (ax_w 12 ad (cM cyI ad σ)) H → va_S (ax_A 12 ad s.heap.size) s.heap H locs → decode cX8_areBytes pc = .ok (.ireturn, 1) → W p l e rm_X8_areBytes s m args below meth c H locs 0 0 Q (F0 m pc ls [.int v]) := by
    intro v σ H locs ls pc hn hf hP hS hd
    cases hf
    rw [hQ]
    exact ax_iret hx hb hr hlocks hn hP hS hd rfl rfl
  have L54 : ∀ (σ : SM) (x4 : Int32), ∀ (H : Heap) (locs : List Loc) (ls : Array Slot), va_P (dC, dI) vwCl (ax_w 12 ad (cM cyI ad σ)) H → va_S (ax_A 12 ad s.heap.size) s.heap H locs → lv_has ls 6 [(0, .ref (ad 11)), (4, .int x4)] → f_X8_areBytes_54 x1 σ x4 = some res → W p l e rm_X8_areBytes s m args below meth c H locs 0 0 Q (F0 m 54 ls []) := by
    intro σ x4  H locs ls hP hS hl hf
    unfold f_X8_areBytes_54 at hf
    refine lv_aload_n hx hb dX8_areBytes_54 rfl (lv_at hl 0 rfl) ?_
    refine lv_iconst (v := 4) hx hb dX8_areBytes_55 (by decide) ?_
    refine lv_iload hx hb dX8_areBytes_56 (lv_at hl 1 rfl) ?_
    refine lv_aload_n hx hb dX8_areBytes_58 rfl (lv_at hl 0 rfl) ?_
    refine g_Model_bytesAt C0 hT hE hP mf_X8_44 dX8_areBytes_59 ?_
    refine lv_iload hx hb dX8_areBytes_62 (lv_at hl 1 rfl) ?_
    obtain ⟨hin, hf⟩ := ob_if hf
    refine aM_ld (a := 9) (by decide) C0 hT hE hP (inb_in hin) dX8_areBytes_64 ?_
    obtain ⟨q65, hq, hf⟩ := ob_bind hf
    refine ax_callVi (C := "") (b := 0) (i := 11) (k := 3) (ci := 6) [.int 4, .int x4, .int (σ.2 9 x4.toNatClampNeg)] C0 hT hJ hE (met_X8_fails l dC dI cyI cyE tC ad σ 4 x4 (σ.2 9 x4.toNatClampNeg) _ hq) hP hS mc_X8_fails ml_X8_157 mi_X8_fails ms_X8_fails mz_X8 (by decide +kernel) ⟨rfl, rfl⟩ ⟨by decide, by decide⟩ (by decide) cM_O rfl rfl rfl hl.1 (Nat.le_of_ble_eq_true rfl) dX8_areBytes_65 ⟨Nat.zero_le _, Nat.zero_le _⟩ (fun H locs hP hS => ?_)
    obtain ⟨hnz, hf⟩ := ob_if hf
    exact hret _ _ _ _ _ _ (nzb_n hnz) hf hP hS dX8_areBytes_68
  have L5 : ∀ (n : Nat), ∀ (σ : SM) (x2 : Int64) (x4 : Int32), ∀ (H : Heap) (locs : List Loc) (ls : Array Slot), va_P (dC, dI) vwCl (ax_w 12 ad (cM cyI ad σ)) H → va_S (ax_A 12 ad s.heap.size) s.heap H locs → lv_has ls 6 [(0, .ref (ad 11)), (1, .int x1), (2, .long x2), (4, .int x4)] → f_X8_areBytes_5 x1 n σ x2 x4 = some res → W p l e rm_X8_areBytes s m args below meth c H locs 0 0 Q (F0 m 5 ls []) := by
    intro n
    induction n with
    | zero =>
      intro σ x2 x4  H locs ls hP hS hl hf
      cases hf
    | succ n ih =>
      intro σ x2 x4  H locs ls hP hS hl hf
      rw [f_X8_areBytes_5] at hf
      refine lv_iload hx hb dX8_areBytes_5 (lv_at hl 3 rfl) ?_
      refine lv_iload_n hx hb dX8_areBytes_7 rfl (lv_at hl 1 rfl) ?_
      refine lv_icmp_ge (tgt := 131) hx hb dX8_areBytes_8 (by decide) (fun h8 => ?_) (fun h8 => ?_)
      · rw [if_pos h8] at hf
        refine lv_iconst (v := 1) hx hb dX8_areBytes_131 (by decide) ?_
        exact hret _ _ _ _ _ _ rfl hf hP hS dX8_areBytes_132
      · rw [if_neg h8] at hf
        refine lv_aload_n hx hb dX8_areBytes_11 rfl (lv_at hl 0 rfl) ?_
        refine g_Model_centralAt C0 hT hE hP mf_X8_41 dX8_areBytes_12 ?_
        refine lv_iload hx hb dX8_areBytes_15 (lv_at hl 3 rfl) ?_
        obtain ⟨hin, hf⟩ := ob_if hf
        refine aM_ld (a := 8) (by decide) C0 hT hE hP (inb_in hin) dX8_areBytes_17 ?_
        refine lv_bipush (v := 10) hx hb dX8_areBytes_18 (by decide) ?_
        refine lv_iadd hx hb dX8_areBytes_20 ?_
        refine lv_istore (lv' := [(5, .int ((σ.2 8 x4.toNatClampNeg) + 10)), (0, .ref (ad 11)), (1, .int x1), (2, .long x2), (4, .int x4)]) hx hb dX8_areBytes_21 hl (by decide) rfl (fun ls hl => ?_)
        refine lv_lload_n hx hb dX8_areBytes_23 rfl (lv_at hl 3 rfl) ?_
        refine lv_aload_n hx hb dX8_areBytes_24 rfl (lv_at hl 1 rfl) ?_
        refine lv_iload hx hb dX8_areBytes_25 (lv_at hl 0 rfl) ?_
        refine lv_bipush (v := 14) hx hb dX8_areBytes_27 (by decide) ?_
        refine lv_iadd hx hb dX8_areBytes_29 ?_
        refine lv_iconst (v := 4) hx hb dX8_areBytes_30 (by decide) ?_
        obtain ⟨q31, hq, hf⟩ := ob_bind hf
        refine ax_callVi (C := "") (b := 0) (i := 11) (k := 2) (ci := 6) [.int (((σ.2 8 x4.toNatClampNeg) + 10) + 14), .int 4] C0 hT hJ hE (met_X8_number l dC dI cyI cyE tC ad σ (((σ.2 8 x4.toNatClampNeg) + 10) + 14) 4 _ hq) hP hS mc_X8_number ml_X8_135 mi_X8_number ms_X8_number mz_X8 (by decide +kernel) ⟨rfl, rfl⟩ ⟨by decide, by decide⟩ (by decide) cM_O rfl rfl rfl hl.1 (Nat.le_of_ble_eq_true rfl) dX8_areBytes_31 ⟨Nat.zero_le _, Nat.zero_le _⟩ (fun H locs hP hS => ?_)
        refine lv_i2l hx hb dX8_areBytes_34 rfl ?_
        refine lv_ladd hx hb dX8_areBytes_35 ?_
        refine lv_lstore_n (lv' := [(2, .long (x2 + q31.1.toInt64)), (5, .int ((σ.2 8 x4.toNatClampNeg) + 10)), (0, .ref (ad 11)), (1, .int x1), (4, .int x4)]) hx hb dX8_areBytes_36 rfl hl (by decide) rfl (fun ls hl => ?_)
        refine lv_aload_n hx hb dX8_areBytes_37 rfl (lv_at hl 2 rfl) ?_
        refine lv_iload hx hb dX8_areBytes_38 (lv_at hl 1 rfl) ?_
        obtain ⟨q40, hq, hf⟩ := ob_bind hf
        refine ax_callVi (C := "") (b := 0) (i := 11) (k := 1) (ci := 6) [.int ((σ.2 8 x4.toNatClampNeg) + 10)] C0 hT hJ hE (met_X8_areSizes l dC dI cyI cyE tC ad q31.2 ((σ.2 8 x4.toNatClampNeg) + 10) _ hq) hP hS mc_X8_areSizes ml_X8_166 mi_X8_areSizes ms_X8_areSizes mz_X8 (by decide +kernel) ⟨rfl, rfl⟩ ⟨by decide, by decide⟩ (by decide) cM_O rfl rfl rfl hl.1 (Nat.le_of_ble_eq_true rfl) dX8_areBytes_40 ⟨Nat.zero_le _, Nat.zero_le _⟩ (fun H locs hP hS => ?_)
        refine lv_if_eq (tgt := 54) hx hb dX8_areBytes_43 (by decide) (fun h43 => ?_) (fun h43 => ?_)
        · rw [if_pos h43] at hf
          exact L54 _ _ _ _ _ hP hS (lv_sub hl [2, 4] rfl) hf
        · rw [if_neg h43] at hf
          refine lv_lload_n hx hb dX8_areBytes_46 rfl (lv_at hl 0 rfl) ?_
          refine lv_ldc2 (own := RX8) (v := 6000) hx hb hown (C0.2.2.2.2 _ (hT _ mk_X8_169)) dX8_areBytes_47 ?_
          refine W.lcmp hx hb dX8_areBytes_50 ?_
          refine lv_if_le (tgt := 69) hx hb dX8_areBytes_51 (by decide) (fun h51 => ?_) (fun h51 => ?_)
          · rw [if_pos h51] at hf
            refine lv_aload_n hx hb dX8_areBytes_69 rfl (lv_at hl 2 rfl) ?_
            refine lv_aload_n hx hb dX8_areBytes_70 rfl (lv_at hl 2 rfl) ?_
            refine g_Model_bytesAt C0 hT hE hP mf_X8_44 dX8_areBytes_71 ?_
            refine lv_iload hx hb dX8_areBytes_74 (lv_at hl 4 rfl) ?_
            obtain ⟨hin, hf⟩ := ob_if hf
            refine aM_ld (a := 9) (by decide) C0 hT hE hP (inb_in hin) dX8_areBytes_76 ?_
            refine lv_iload hx hb dX8_areBytes_77 (lv_at hl 1 rfl) ?_
            obtain ⟨q79, hq, hf⟩ := ob_bind hf
            refine ax_callVi (C := "") (b := 0) (i := 11) (k := 2) (ci := 6) [.int (q40.2.2 9 x4.toNatClampNeg), .int ((σ.2 8 x4.toNatClampNeg) + 10)] C0 hT hJ hE (met_X8_unfold l dC dI cyI cyE tC ad q40.2 (q40.2.2 9 x4.toNatClampNeg) ((σ.2 8 x4.toNatClampNeg) + 10) _ hq) hP hS mc_X8_unfold ml_X8_171 mi_X8_unfold ms_X8_unfold mz_X8 (by decide +kernel) ⟨rfl, rfl⟩ ⟨by decide, by decide⟩ (by decide) cM_O rfl rfl rfl hl.1 (Nat.le_of_ble_eq_true rfl) dX8_areBytes_79 ⟨Nat.zero_le _, Nat.zero_le _⟩ (fun H locs hP hS => ?_)
            refine lv_if_ne (tgt := 100) hx hb dX8_areBytes_82 (by decide) (fun h82 => ?_) (fun h82 => ?_)
            · rw [if_neg h82] at hf
              refine lv_aload_n hx hb dX8_areBytes_100 rfl (lv_at hl 2 rfl) ?_
              refine lv_iload hx hb dX8_areBytes_101 (lv_at hl 1 rfl) ?_
              obtain ⟨q103, hq, hf⟩ := ob_bind hf
              refine ax_callVi (C := "") (b := 0) (i := 11) (k := 1) (ci := 6) [.int ((σ.2 8 x4.toNatClampNeg) + 10)] C0 hT hJ hE (met_X8_isCrc l dC dI cyI cyE tC ad q79.2 ((σ.2 8 x4.toNatClampNeg) + 10) _ hq) hP hS mc_X8_isCrc ml_X8_174 mi_X8_isCrc ms_X8_isCrc mz_X8 (by decide +kernel) ⟨rfl, rfl⟩ ⟨by decide, by decide⟩ (by decide) cM_O rfl rfl rfl hl.1 (Nat.le_of_ble_eq_true rfl) dX8_areBytes_103 ⟨Nat.zero_le _, Nat.zero_le _⟩ (fun H locs hP hS => ?_)
              refine lv_if_ne (tgt := 125) hx hb dX8_areBytes_106 (by decide) (fun h106 => ?_) (fun h106 => ?_)
              · rw [if_neg h106] at hf
                refine lv_iinc (v := x4 + 1) (lv' := [(4, .int (x4 + 1)), (2, .long (x2 + q31.1.toInt64)), (5, .int ((σ.2 8 x4.toNatClampNeg) + 10)), (0, .ref (ad 11)), (1, .int x1)]) hx hb dX8_areBytes_125 hl (k := 4) rfl rfl (by decide) rfl (fun ls hl => ?_)
                refine lv_goto (tgt := 5) hx hb dX8_areBytes_128 (by decide) ?_
                exact ih _ _ _ _ _ _ hP hS (lv_sub hl [3, 4, 1, 0] rfl) hf
              · rw [if_pos h106] at hf
                refine lv_aload_n hx hb dX8_areBytes_109 rfl (lv_at hl 2 rfl) ?_
                refine lv_bipush (v := 6) hx hb dX8_areBytes_110 (by decide) ?_
                refine lv_iload hx hb dX8_areBytes_112 (lv_at hl 4 rfl) ?_
                refine lv_aload_n hx hb dX8_areBytes_114 rfl (lv_at hl 2 rfl) ?_
                refine g_Model_bytesAt C0 hT hE hP mf_X8_44 dX8_areBytes_115 ?_
                refine lv_iload hx hb dX8_areBytes_118 (lv_at hl 4 rfl) ?_
                obtain ⟨hin, hf⟩ := ob_if hf
                refine aM_ld (a := 9) (by decide) C0 hT hE hP (inb_in hin) dX8_areBytes_120 ?_
                obtain ⟨q121, hq, hf⟩ := ob_bind hf
                refine ax_callVi (C := "") (b := 0) (i := 11) (k := 3) (ci := 6) [.int 6, .int x4, .int (q103.2.2 9 x4.toNatClampNeg)] C0 hT hJ hE (met_X8_fails l dC dI cyI cyE tC ad q103.2 6 x4 (q103.2.2 9 x4.toNatClampNeg) _ hq) hP hS mc_X8_fails ml_X8_157 mi_X8_fails ms_X8_fails mz_X8 (by decide +kernel) ⟨rfl, rfl⟩ ⟨by decide, by decide⟩ (by decide) cM_O rfl rfl rfl hl.1 (Nat.le_of_ble_eq_true rfl) dX8_areBytes_121 ⟨Nat.zero_le _, Nat.zero_le _⟩ (fun H locs hP hS => ?_)
                obtain ⟨hnz, hf⟩ := ob_if hf
                exact hret _ _ _ _ _ _ (nzb_n hnz) hf hP hS dX8_areBytes_124
            · rw [if_pos h82] at hf
              refine lv_aload_n hx hb dX8_areBytes_85 rfl (lv_at hl 2 rfl) ?_
              refine lv_iconst (v := 5) hx hb dX8_areBytes_86 (by decide) ?_
              refine lv_iload hx hb dX8_areBytes_87 (lv_at hl 4 rfl) ?_
              refine lv_aload_n hx hb dX8_areBytes_89 rfl (lv_at hl 2 rfl) ?_
              refine g_Model_bytesAt C0 hT hE hP mf_X8_44 dX8_areBytes_90 ?_
              refine lv_iload hx hb dX8_areBytes_93 (lv_at hl 4 rfl) ?_
              obtain ⟨hin, hf⟩ := ob_if hf
              refine aM_ld (a := 9) (by decide) C0 hT hE hP (inb_in hin) dX8_areBytes_95 ?_
              obtain ⟨q96, hq, hf⟩ := ob_bind hf
              refine ax_callVi (C := "") (b := 0) (i := 11) (k := 3) (ci := 6) [.int 5, .int x4, .int (q79.2.2 9 x4.toNatClampNeg)] C0 hT hJ hE (met_X8_fails l dC dI cyI cyE tC ad q79.2 5 x4 (q79.2.2 9 x4.toNatClampNeg) _ hq) hP hS mc_X8_fails ml_X8_157 mi_X8_fails ms_X8_fails mz_X8 (by decide +kernel) ⟨rfl, rfl⟩ ⟨by decide, by decide⟩ (by decide) cM_O rfl rfl rfl hl.1 (Nat.le_of_ble_eq_true rfl) dX8_areBytes_96 ⟨Nat.zero_le _, Nat.zero_le _⟩ (fun H locs hP hS => ?_)
              obtain ⟨hnz, hf⟩ := ob_if hf
              exact hret _ _ _ _ _ _ (nzb_n hnz) hf hP hS dX8_areBytes_99
          · rw [if_neg h51] at hf
            exact L54 _ _ _ _ _ hP hS (lv_sub hl [2, 4] rfl) hf
  unfold f_X8_areBytes at hf
  refine lv_lconst (v := 0) hx hb dX8_areBytes_0 (by decide) ?_
  refine lv_lstore_n (lv' := [(2, .long 0), (0, .ref (ad 11)), (1, .int x1)]) hx hb dX8_areBytes_1 rfl hl (by decide) rfl (fun ls hl => ?_)
  refine lv_iconst (v := 0) hx hb dX8_areBytes_2 (by decide) ?_
  refine lv_istore (lv' := [(4, .int 0), (2, .long 0), (0, .ref (ad 11)), (1, .int x1)]) hx hb dX8_areBytes_3 hl (by decide) rfl (fun ls hl => ?_)
  exact L5 fu _ _ _ _ _ _ hP hS (lv_sub hl [2, 3, 1, 0] rfl) hf
def f_X8_append (σ : SM) (x1 : Int32) (x2 : Int32) (x3 : Int32) (x4 : Int32) : Option (SM) := (f_X8_unfold σ x3 x4).bind fun q4 => (f_X8_setName q4.2 20 x1 x2).bind fun q14 => (f_X8_copyFile q14 20 (q14.1 3)).bind fun q24 => some (SMi q24 3 ((q24.1 3) + 1))
def rm_X8_append : Room := { frames := 3, cells := 0, slots := 0, locals := 79 }
set_option maxHeartbeats 4000000 in
set_option maxRecDepth 100000 in
theorem met_X8_append (l : Launch) (dC : Nat → ClassId) (dI : Nat → Nat → Nat) (cyI cyE : ClassId) (tC : Nat) (ad : Nat → Nat) (σ : SM) (x1 : Int32) (x2 : Int32) (x3 : Int32) (x4 : Int32) (res : SM) (hf : f_X8_append σ x1 x2 x3 x4 = some res) : ax_Mv l dC dI cyI cyE tC 12 (cM cyI ad) ad yX8_append cX8_append 6 none rm_X8_append [.ref (ad 11), .int x1, .int x2, .int x3, .int x4] σ res := by
  intro sz
  refine Met.ofW (cc := cX8_append) (maxL := 6) (ret := none) (by decide) rfl ?_
  intro p e s m args below meth c s₁ B hml hv
  obtain ⟨hargs, hsz, hP, hJ, hE⟩ := hv
  subst hsz
  have hx := B.exec
  have hb := B.bytes
  have hr := B.returns
  have hlocks := B.notSynchronized
  have hts := atoms_spec (ws := wsY yX8_append cX8_append 6 none) B.pre
  have hown : s.vm.findClass RX8 = some m.cls := findClass_of_methodNamed B.named
  have C0 : CallFix p m c cX8_append 6 s args (wsY yX8_append cX8_append 6 none) RX8 := ⟨hx, hb, hml, hown, hts⟩
  have hT : ∀ w ∈ bw, w ∈ wsY yX8_append cX8_append 6 none := fun w h => List.mem_cons_of_mem _ h
  have hS : va_S (ax_A 12 ad s.heap.size) s.heap s.heap [] := va_S.rf
  rw [show entryFrame m args 6 = entryFrame m ([.ref (ad 11), .int x1, .int x2, .int x3, .int x4] : List Value).toArray 6 by rw [hargs]]
  have hl := lv_entry ([.ref (ad 11), .int x1, .int x2, .int x3, .int x4]) (n := 6) (Nat.le_of_ble_eq_true rfl)
  rw [lg_entry_eq]
  generalize (lg_sl ([.ref (ad 11), .int x1, .int x2, .int x3, .int x4]) ++ List.replicate (6 - (lg_sl ([.ref (ad 11), .int x1, .int x2, .int x3, .int x4])).length) Slot.unset).toArray = ls at hl ⊢
  have hl : lv_has ls 6 [(0, .ref (ad 11)), (1, .int x1), (2, .int x2), (3, .int x3), (4, .int x4)] := hl
  obtain ⟨Q, hQ⟩ : ∃ Q : State → Prop, Q = MQ below (va_Qv (fun (u : SM) => u = res) (ax_B dC dI 12 (cM cyI ad) ad) (ax_A 12 ad s.heap.size)) args s 0 0 (ax_A 12 ad s.heap.size) := ⟨_, rfl⟩
  show W p l e rm_X8_append s m args below meth c s.heap [] 0 0 _ _
  rw [← hQ]
  have hret : ∀ (σ : SM) (H : Heap) (locs : List Loc) (ls : Array Slot) (pc : Nat), some σ = some res → va_P (dC, dI) vwCl (ax_w 12 ad (cM cyI ad σ)) H → va_S (ax_A 12 ad s.heap.size) s.heap H locs → decode cX8_append pc = .ok (.return_, 1) → W p l e rm_X8_append s m args below meth c H locs 0 0 Q (F0 m pc ls []) := by
    intro σ H locs ls pc hf hP hS hd
    cases hf
    rw [hQ]
    exact ax_vret hx hb hr hlocks hP hS hd rfl
  unfold f_X8_append at hf
  refine lv_aload_n hx hb dX8_append_0 rfl (lv_at hl 0 rfl) ?_
  refine lv_iload_n hx hb dX8_append_1 rfl (lv_at hl 3 rfl) ?_
  refine lv_iload hx hb dX8_append_2 (lv_at hl 4 rfl) ?_
  obtain ⟨q4, hq, hf⟩ := ob_bind hf
  refine ax_callVi (C := "") (b := 0) (i := 11) (k := 2) (ci := 6) [.int x3, .int x4] C0 hT hJ hE (met_X8_unfold l dC dI cyI cyE tC ad σ x3 x4 _ hq) hP hS mc_X8_unfold ml_X8_171 mi_X8_unfold ms_X8_unfold mz_X8 (by decide +kernel) ⟨rfl, rfl⟩ ⟨by decide, by decide⟩ (by decide) cM_O rfl rfl rfl hl.1 (Nat.le_of_ble_eq_true rfl) dX8_append_4 ⟨Nat.zero_le _, Nat.zero_le _⟩ (fun H locs hP hS => ?_)
  refine lv_istore (lv' := [(5, .int q4.1), (0, .ref (ad 11)), (1, .int x1), (2, .int x2), (3, .int x3), (4, .int x4)]) hx hb dX8_append_7 hl (by decide) rfl (fun ls hl => ?_)
  refine lv_aload_n hx hb dX8_append_9 rfl (lv_at hl 1 rfl) ?_
  refine lv_bipush (v := 20) hx hb dX8_append_10 (by decide) ?_
  refine lv_iload_n hx hb dX8_append_12 rfl (lv_at hl 2 rfl) ?_
  refine lv_iload_n hx hb dX8_append_13 rfl (lv_at hl 3 rfl) ?_
  obtain ⟨q14, hq, hf⟩ := ob_bind hf
  refine ax_callVv (b := 0) (i := 11) (k := 3) (ci := 6) [.int 20, .int x1, .int x2] C0 hT hJ hE (met_X8_setName l dC dI cyI cyE tC ad q4.2 20 x1 x2 _ hq) hP hS mc_X8_setName ml_X8_78 mi_X8_setName ms_X8_setName mz_X8 (by decide +kernel) ⟨rfl, rfl⟩ ⟨by decide, by decide⟩ (by decide) cM_O rfl rfl rfl hl.1 (Nat.le_of_ble_eq_true rfl) dX8_append_14 ⟨Nat.zero_le _, Nat.zero_le _⟩ (fun H locs hP hS => ?_)
  refine lv_aload_n hx hb dX8_append_17 rfl (lv_at hl 1 rfl) ?_
  refine lv_bipush (v := 20) hx hb dX8_append_18 (by decide) ?_
  refine lv_aload_n hx hb dX8_append_20 rfl (lv_at hl 1 rfl) ?_
  refine g_Model_files C0 hT hE hP mf_X8_59 dX8_append_21 ?_
  obtain ⟨q24, hq, hf⟩ := ob_bind hf
  refine ax_callVv (b := 0) (i := 11) (k := 2) (ci := 6) [.int 20, .int (q14.1 3)] C0 hT hJ hE (met_X8_copyFile l dC dI cyI cyE tC ad q14 20 (q14.1 3) _ hq) hP hS mc_X8_copyFile ml_X8_62 mi_X8_copyFile ms_X8_copyFile mz_X8 (by decide +kernel) ⟨rfl, rfl⟩ ⟨by decide, by decide⟩ (by decide) cM_O rfl rfl rfl hl.1 (Nat.le_of_ble_eq_true rfl) dX8_append_24 ⟨Nat.zero_le _, Nat.zero_le _⟩ (fun H locs hP hS => ?_)
  refine lv_aload_n hx hb dX8_append_27 rfl (lv_at hl 1 rfl) ?_
  refine lv_dup hx hb dX8_append_28 rfl ?_
  refine g_Model_files C0 hT hE hP mf_X8_59 dX8_append_29 ?_
  refine lv_iconst (v := 1) hx hb dX8_append_32 (by decide) ?_
  refine lv_iadd hx hb dX8_append_33 ?_
  refine p_Model_files C0 hT hE hJ hP hS mf_X8_59 dX8_append_34 (fun H locs hP hS => ?_)
  exact hret _ _ _ _ _ hf hP hS dX8_append_37
def f_X8_read_141 : Nat → SM → Int32 → Int32 → Option (Int32 × SM)
  | 0, _, _, _ => none
  | n + 1, σ, x3, x4 => if x3 ≤ x4 then (some (σ.1 3, σ)) else (if inb x4 (capM 8) = true then (if inb x4 (capM 8) = true then ((f_X8_number σ ((σ.2 8 x4.toNatClampNeg) + 28) 2).bind fun q170 => if inb x4 (capM 9) = true then (if inb x4 (capM 8) = true then ((f_X8_append q170.2 ((σ.2 8 x4.toNatClampNeg) + 46) q170.1 (q170.2.2 9 x4.toNatClampNeg) ((q170.2.2 8 x4.toNatClampNeg) + 10)).bind fun q190 => f_X8_read_141 n q190 x3 (x4 + 1)) else none) else none) else none) else none)
def f_X8_read_124 (σ : SM) (x2 : Int32) (x3 : Int32) (s1 : Int32) : Option (Int32 × SM) := if x2 = 0 then (some (0, (SMi σ 0 s1))) else (f_X8_read_141 fu (SMi (SMi σ 0 s1) 3 0) x3 0)
def f_X8_read_113 (σ : SM) (x3 : Int32) (s0 : Int32) : Option (Int32 × SM) := if s0 = 0 then (f_X8_read_124 σ s0 x3 1) else (f_X8_read_124 σ s0 x3 0)
def f_X8_read_77 (σ : SM) (x1 : Int32) (x2 : Int32) (s0 : Int32) : Option (Int32 × SM) := if x2 = 0 then (f_X8_read_113 σ s0 0) else ((f_X8_findCentrals σ s0 x1).bind fun q85 => if q85.1 = 0 then (f_X8_read_113 q85.2 s0 0) else ((f_X8_findLocals q85.2 s0 x1).bind fun q94 => if q94.1 = 0 then (f_X8_read_113 q94.2 s0 0) else ((f_X8_areBytes q94.2 s0).bind fun q102 => if q102.1 = 0 then (f_X8_read_113 q102.2 s0 0) else (f_X8_read_113 q102.2 s0 1))))
def f_X8_read_59 (σ : SM) (x1 : Int32) (s0 : Int32) : Option (Int32 × SM) := if s0 = 0 then (f_X8_read_77 σ x1 s0 0) else ((f_X8_number σ (x1 + 8) 2).bind fun q70 => f_X8_read_77 q70.2 x1 s0 q70.1)
def f_X8_read_48 (σ : SM) (x1 : Int32) (s1 : Int32) (s2 : Int32) (s3 : Int32) : Option (Int32 × SM) := (f_X8_fails σ s1 s2 s3).bind fun q48 => if q48.1 = 0 then (f_X8_read_59 q48.2 x1 0) else (f_X8_read_59 q48.2 x1 1)
def f_X8_read (σ : SM) : Option (Int32 × SM) := (f_X8_findEnd (SMi (SMi (SMi σ 4 0) 5 (-1)) 6 (-1)) ).bind fun q16 => if q16.1 = (-1) then (if (22 : Int32) ≤ (q16.2.1 1) then (f_X8_read_48 q16.2 q16.1 1 (-1) ((q16.2.1 1) - 22)) else (f_X8_read_48 q16.2 q16.1 1 (-1) 0)) else (f_X8_read_59 q16.2 q16.1 1)
def rm_X8_read : Room := { frames := 5, cells := 0, slots := 0, locals := 121 }
set_option maxHeartbeats 4000000 in
set_option maxRecDepth 100000 in
theorem met_X8_read (l : Launch) (dC : Nat → ClassId) (dI : Nat → Nat → Nat) (cyI cyE : ClassId) (tC : Nat) (ad : Nat → Nat) (σ : SM) (res : Int32 × SM) (hf : f_X8_read σ = some res) : ax_Mi l dC dI cyI cyE tC 12 (cM cyI ad) ad yX8_read cX8_read 5 (some .int) rm_X8_read [.ref (ad 11)] σ res.1 res.2 := by
  intro sz
  refine Met.ofW (cc := cX8_read) (maxL := 5) (ret := (some .int)) (by decide) rfl ?_
  intro p e s m args below meth c s₁ B hml hv
  obtain ⟨hargs, hsz, hP, hJ, hE⟩ := hv
  subst hsz
  have hx := B.exec
  have hb := B.bytes
  have hr := B.returns
  have hlocks := B.notSynchronized
  have hts := atoms_spec (ws := wsY yX8_read cX8_read 5 (some .int)) B.pre
  have hown : s.vm.findClass RX8 = some m.cls := findClass_of_methodNamed B.named
  have C0 : CallFix p m c cX8_read 5 s args (wsY yX8_read cX8_read 5 (some .int)) RX8 := ⟨hx, hb, hml, hown, hts⟩
  have hT : ∀ w ∈ bw, w ∈ wsY yX8_read cX8_read 5 (some .int) := fun w h => List.mem_cons_of_mem _ h
  have hS : va_S (ax_A 12 ad s.heap.size) s.heap s.heap [] := va_S.rf
  rw [show entryFrame m args 5 = entryFrame m ([.ref (ad 11)] : List Value).toArray 5 by rw [hargs]]
  have hl := lv_entry ([.ref (ad 11)]) (n := 5) (Nat.le_of_ble_eq_true rfl)
  rw [lg_entry_eq]
  generalize (lg_sl ([.ref (ad 11)]) ++ List.replicate (5 - (lg_sl ([.ref (ad 11)])).length) Slot.unset).toArray = ls at hl ⊢
  have hl : lv_has ls 5 [(0, .ref (ad 11))] := hl
  obtain ⟨Q, hQ⟩ : ∃ Q : State → Prop, Q = MQ below (va_Qi (fun (a : Int32) (u : SM) => a = res.1 ∧ u = res.2) (ax_B dC dI 12 (cM cyI ad) ad) (ax_A 12 ad s.heap.size)) args s 0 0 (ax_A 12 ad s.heap.size) := ⟨_, rfl⟩
  show W p l e rm_X8_read s m args below meth c s.heap [] 0 0 _ _
  rw [← hQ]
  have hret : ∀ (v : Int32) (σ : SM) (H : Heap) (locs : List Loc) (ls : Array Slot) (pc : Nat), narrow .int (.int v) = .int v → some (v, σ) = some res → va_P (dC, dI) vwCl (ax_w 12 ad (cM cyI ad σ)) H → va_S (ax_A 12 ad s.heap.size) s.heap H locs → decode cX8_read pc = .ok (.ireturn, 1) → W p l e rm_X8_read s m args below meth c H locs 0 0 Q (F0 m pc ls [.int v]) := by
    intro v σ H locs ls pc hn hf hP hS hd
    cases hf
    rw [hQ]
    exact ax_iret hx hb hr hlocks hn hP hS hd rfl rfl
  have L141 : ∀ (n : Nat), ∀ (σ : SM) (x3 : Int32) (x4 : Int32), ∀ (H : Heap) (locs : List Loc) (ls : Array Slot), va_P (dC, dI) vwCl (ax_w 12 ad (cM cyI ad σ)) H → va_S (ax_A 12 ad s.heap.size) s.heap H locs → lv_has ls 5 [(0, .ref (ad 11)), (3, .int x3), (4, .int x4)] → f_X8_read_141 n σ x3 x4 = some res → W p l e rm_X8_read s m args below meth c H locs 0 0 Q (F0 m 141 ls []) := by
    intro n
    induction n with
    | zero =>
      intro σ x3 x4  H locs ls hP hS hl hf
      cases hf
    | succ n ih =>
      intro σ x3 x4  H locs ls hP hS hl hf
      rw [f_X8_read_141] at hf
      refine lv_iload hx hb dX8_read_141 (lv_at hl 2 rfl) ?_
      refine lv_iload_n hx hb dX8_read_143 rfl (lv_at hl 1 rfl) ?_
      refine lv_icmp_ge (tgt := 199) hx hb dX8_read_144 (by decide) (fun h144 => ?_) (fun h144 => ?_)
      · rw [if_pos h144] at hf
        refine lv_aload_n hx hb dX8_read_199 rfl (lv_at hl 0 rfl) ?_
        refine g_Model_files C0 hT hE hP mf_X8_59 dX8_read_200 ?_
        exact hret _ _ _ _ _ _ rfl hf hP hS dX8_read_203
      · rw [if_neg h144] at hf
        refine lv_aload_n hx hb dX8_read_147 rfl (lv_at hl 0 rfl) ?_
        refine lv_aload_n hx hb dX8_read_148 rfl (lv_at hl 0 rfl) ?_
        refine g_Model_centralAt C0 hT hE hP mf_X8_41 dX8_read_149 ?_
        refine lv_iload hx hb dX8_read_152 (lv_at hl 2 rfl) ?_
        obtain ⟨hin, hf⟩ := ob_if hf
        refine aM_ld (a := 8) (by decide) C0 hT hE hP (inb_in hin) dX8_read_154 ?_
        refine lv_bipush (v := 46) hx hb dX8_read_155 (by decide) ?_
        refine lv_iadd hx hb dX8_read_157 ?_
        refine lv_aload_n hx hb dX8_read_158 rfl (lv_at hl 0 rfl) ?_
        refine lv_aload_n hx hb dX8_read_159 rfl (lv_at hl 0 rfl) ?_
        refine g_Model_centralAt C0 hT hE hP mf_X8_41 dX8_read_160 ?_
        refine lv_iload hx hb dX8_read_163 (lv_at hl 2 rfl) ?_
        obtain ⟨hin, hf⟩ := ob_if hf
        refine aM_ld (a := 8) (by decide) C0 hT hE hP (inb_in hin) dX8_read_165 ?_
        refine lv_bipush (v := 28) hx hb dX8_read_166 (by decide) ?_
        refine lv_iadd hx hb dX8_read_168 ?_
        refine lv_iconst (v := 2) hx hb dX8_read_169 (by decide) ?_
        obtain ⟨q170, hq, hf⟩ := ob_bind hf
        refine ax_callVi (C := "") (b := 0) (i := 11) (k := 2) (ci := 6) [.int ((σ.2 8 x4.toNatClampNeg) + 28), .int 2] C0 hT hJ hE (met_X8_number l dC dI cyI cyE tC ad σ ((σ.2 8 x4.toNatClampNeg) + 28) 2 _ hq) hP hS mc_X8_number ml_X8_135 mi_X8_number ms_X8_number mz_X8 (by decide +kernel) ⟨rfl, rfl⟩ ⟨by decide, by decide⟩ (by decide) cM_O rfl rfl rfl hl.1 (Nat.le_of_ble_eq_true rfl) dX8_read_170 ⟨Nat.zero_le _, Nat.zero_le _⟩ (fun H locs hP hS => ?_)
        refine lv_aload_n hx hb dX8_read_173 rfl (lv_at hl 0 rfl) ?_
        refine g_Model_bytesAt C0 hT hE hP mf_X8_44 dX8_read_174 ?_
        refine lv_iload hx hb dX8_read_177 (lv_at hl 2 rfl) ?_
        obtain ⟨hin, hf⟩ := ob_if hf
        refine aM_ld (a := 9) (by decide) C0 hT hE hP (inb_in hin) dX8_read_179 ?_
        refine lv_aload_n hx hb dX8_read_180 rfl (lv_at hl 0 rfl) ?_
        refine g_Model_centralAt C0 hT hE hP mf_X8_41 dX8_read_181 ?_
        refine lv_iload hx hb dX8_read_184 (lv_at hl 2 rfl) ?_
        obtain ⟨hin, hf⟩ := ob_if hf
        refine aM_ld (a := 8) (by decide) C0 hT hE hP (inb_in hin) dX8_read_186 ?_
        refine lv_bipush (v := 10) hx hb dX8_read_187 (by decide) ?_
        refine lv_iadd hx hb dX8_read_189 ?_
        obtain ⟨q190, hq, hf⟩ := ob_bind hf
        refine ax_callVv (b := 0) (i := 11) (k := 4) (ci := 6) [.int ((σ.2 8 x4.toNatClampNeg) + 46), .int q170.1, .int (q170.2.2 9 x4.toNatClampNeg), .int ((q170.2.2 8 x4.toNatClampNeg) + 10)] C0 hT hJ hE (met_X8_append l dC dI cyI cyE tC ad q170.2 ((σ.2 8 x4.toNatClampNeg) + 46) q170.1 (q170.2.2 9 x4.toNatClampNeg) ((q170.2.2 8 x4.toNatClampNeg) + 10) _ hq) hP hS mc_X8_append ml_X8_189 mi_X8_append ms_X8_append mz_X8 (by decide +kernel) ⟨rfl, rfl⟩ ⟨by decide, by decide⟩ (by decide) cM_O rfl rfl rfl hl.1 (Nat.le_of_ble_eq_true rfl) dX8_read_190 ⟨Nat.zero_le _, Nat.zero_le _⟩ (fun H locs hP hS => ?_)
        refine lv_iinc (v := x4 + 1) (lv' := [(4, .int (x4 + 1)), (0, .ref (ad 11)), (3, .int x3)]) hx hb dX8_read_193 hl (k := 2) rfl rfl (by decide) rfl (fun ls hl => ?_)
        refine lv_goto (tgt := 141) hx hb dX8_read_196 (by decide) ?_
        exact ih _ _ _ _ _ _ hP hS (lv_sub hl [1, 2, 0] rfl) hf
  have L124 : ∀ (σ : SM) (x2 : Int32) (x3 : Int32) (s1 : Int32), ∀ (H : Heap) (locs : List Loc) (ls : Array Slot), va_P (dC, dI) vwCl (ax_w 12 ad (cM cyI ad σ)) H → va_S (ax_A 12 ad s.heap.size) s.heap H locs → lv_has ls 5 [(0, .ref (ad 11)), (2, .int x2), (3, .int x3)] → f_X8_read_124 σ x2 x3 s1 = some res → W p l e rm_X8_read s m args below meth c H locs 0 0 Q (F0 m 124 ls [.int s1, .ref (ad 11)]) := by
    intro σ x2 x3 s1  H locs ls hP hS hl hf
    unfold f_X8_read_124 at hf
    refine p_Model_thrown C0 hT hE hJ hP hS mf_X8_50 dX8_read_124 (fun H locs hP hS => ?_)
    refine lv_iload_n hx hb dX8_read_127 rfl (lv_at hl 1 rfl) ?_
    refine lv_if_ne (tgt := 133) hx hb dX8_read_128 (by decide) (fun h128 => ?_) (fun h128 => ?_)
    · rw [if_neg h128] at hf
      refine lv_aload_n hx hb dX8_read_133 rfl (lv_at hl 0 rfl) ?_
      refine lv_iconst (v := 0) hx hb dX8_read_134 (by decide) ?_
      refine p_Model_files C0 hT hE hJ hP hS mf_X8_59 dX8_read_135 (fun H locs hP hS => ?_)
      refine lv_iconst (v := 0) hx hb dX8_read_138 (by decide) ?_
      refine lv_istore (lv' := [(4, .int 0), (0, .ref (ad 11)), (2, .int x2), (3, .int x3)]) hx hb dX8_read_139 hl (by decide) rfl (fun ls hl => ?_)
      exact L141 fu _ _ _ _ _ _ hP hS (lv_sub hl [1, 3, 0] rfl) hf
    · rw [if_pos h128] at hf
      refine lv_iconst (v := 0) hx hb dX8_read_131 (by decide) ?_
      exact hret _ _ _ _ _ _ rfl hf hP hS dX8_read_132
  have L113 : ∀ (σ : SM) (x3 : Int32) (s0 : Int32), ∀ (H : Heap) (locs : List Loc) (ls : Array Slot), va_P (dC, dI) vwCl (ax_w 12 ad (cM cyI ad σ)) H → va_S (ax_A 12 ad s.heap.size) s.heap H locs → lv_has ls 5 [(0, .ref (ad 11)), (3, .int x3)] → f_X8_read_113 σ x3 s0 = some res → W p l e rm_X8_read s m args below meth c H locs 0 0 Q (F0 m 113 ls [.int s0]) := by
    intro σ x3 s0  H locs ls hP hS hl hf
    unfold f_X8_read_113 at hf
    refine lv_istore_n (lv' := [(2, .int s0), (0, .ref (ad 11)), (3, .int x3)]) hx hb dX8_read_113 rfl hl (by decide) rfl (fun ls hl => ?_)
    refine lv_aload_n hx hb dX8_read_114 rfl (lv_at hl 1 rfl) ?_
    refine lv_iload_n hx hb dX8_read_115 rfl (lv_at hl 0 rfl) ?_
    refine lv_if_eq (tgt := 123) hx hb dX8_read_116 (by decide) (fun h116 => ?_) (fun h116 => ?_)
    · rw [if_pos h116] at hf
      refine lv_iconst (v := 1) hx hb dX8_read_123 (by decide) ?_
      exact L124 _ _ _ _ _ _ _ hP hS (lv_sub hl [1, 0, 2] rfl) hf
    · rw [if_neg h116] at hf
      refine lv_iconst (v := 0) hx hb dX8_read_119 (by decide) ?_
      refine lv_goto (tgt := 124) hx hb dX8_read_120 (by decide) ?_
      exact L124 _ _ _ _ _ _ _ hP hS (lv_sub hl [1, 0, 2] rfl) hf
  have L77 : ∀ (σ : SM) (x1 : Int32) (x2 : Int32) (s0 : Int32), ∀ (H : Heap) (locs : List Loc) (ls : Array Slot), va_P (dC, dI) vwCl (ax_w 12 ad (cM cyI ad σ)) H → va_S (ax_A 12 ad s.heap.size) s.heap H locs → lv_has ls 5 [(0, .ref (ad 11)), (1, .int x1), (2, .int x2)] → f_X8_read_77 σ x1 x2 s0 = some res → W p l e rm_X8_read s m args below meth c H locs 0 0 Q (F0 m 77 ls [.int s0]) := by
    intro σ x1 x2 s0  H locs ls hP hS hl hf
    unfold f_X8_read_77 at hf
    refine lv_istore_n (lv' := [(3, .int s0), (0, .ref (ad 11)), (1, .int x1), (2, .int x2)]) hx hb dX8_read_77 rfl hl (by decide) rfl (fun ls hl => ?_)
    refine lv_iload_n hx hb dX8_read_78 rfl (lv_at hl 3 rfl) ?_
    refine lv_if_eq (tgt := 112) hx hb dX8_read_79 (by decide) (fun h79 => ?_) (fun h79 => ?_)
    · rw [if_pos h79] at hf
      refine lv_iconst (v := 0) hx hb dX8_read_112 (by decide) ?_
      exact L113 _ _ _ _ _ _ hP hS (lv_sub hl [1, 0] rfl) hf
    · rw [if_neg h79] at hf
      refine lv_aload_n hx hb dX8_read_82 rfl (lv_at hl 1 rfl) ?_
      refine lv_iload_n hx hb dX8_read_83 rfl (lv_at hl 0 rfl) ?_
      refine lv_iload_n hx hb dX8_read_84 rfl (lv_at hl 2 rfl) ?_
      obtain ⟨q85, hq, hf⟩ := ob_bind hf
      refine ax_callVi (C := "") (b := 0) (i := 11) (k := 2) (ci := 6) [.int s0, .int x1] C0 hT hJ hE (met_X8_findCentrals l dC dI cyI cyE tC ad σ s0 x1 _ hq) hP hS mc_X8_findCentrals ml_X8_180 mi_X8_findCentrals ms_X8_findCentrals mz_X8 (by decide +kernel) ⟨rfl, rfl⟩ ⟨by decide, by decide⟩ (by decide) cM_O rfl rfl rfl hl.1 (Nat.le_of_ble_eq_true rfl) dX8_read_85 ⟨Nat.zero_le _, Nat.zero_le _⟩ (fun H locs hP hS => ?_)
      refine lv_if_eq (tgt := 112) hx hb dX8_read_88 (by decide) (fun h88 => ?_) (fun h88 => ?_)
      · rw [if_pos h88] at hf
        refine lv_iconst (v := 0) hx hb dX8_read_112 (by decide) ?_
        exact L113 _ _ _ _ _ _ hP hS (lv_sub hl [1, 0] rfl) hf
      · rw [if_neg h88] at hf
        refine lv_aload_n hx hb dX8_read_91 rfl (lv_at hl 1 rfl) ?_
        refine lv_iload_n hx hb dX8_read_92 rfl (lv_at hl 0 rfl) ?_
        refine lv_iload_n hx hb dX8_read_93 rfl (lv_at hl 2 rfl) ?_
        obtain ⟨q94, hq, hf⟩ := ob_bind hf
        refine ax_callVi (C := "") (b := 0) (i := 11) (k := 2) (ci := 6) [.int s0, .int x1] C0 hT hJ hE (met_X8_findLocals l dC dI cyI cyE tC ad q85.2 s0 x1 _ hq) hP hS mc_X8_findLocals ml_X8_183 mi_X8_findLocals ms_X8_findLocals mz_X8 (by decide +kernel) ⟨rfl, rfl⟩ ⟨by decide, by decide⟩ (by decide) cM_O rfl rfl rfl hl.1 (Nat.le_of_ble_eq_true rfl) dX8_read_94 ⟨Nat.zero_le _, Nat.zero_le _⟩ (fun H locs hP hS => ?_)
        refine lv_if_eq (tgt := 112) hx hb dX8_read_97 (by decide) (fun h97 => ?_) (fun h97 => ?_)
        · rw [if_pos h97] at hf
          refine lv_iconst (v := 0) hx hb dX8_read_112 (by decide) ?_
          exact L113 _ _ _ _ _ _ hP hS (lv_sub hl [1, 0] rfl) hf
        · rw [if_neg h97] at hf
          refine lv_aload_n hx hb dX8_read_100 rfl (lv_at hl 1 rfl) ?_
          refine lv_iload_n hx hb dX8_read_101 rfl (lv_at hl 0 rfl) ?_
          obtain ⟨q102, hq, hf⟩ := ob_bind hf
          refine ax_callVi (C := "") (b := 0) (i := 11) (k := 1) (ci := 6) [.int s0] C0 hT hJ hE (met_X8_areBytes l dC dI cyI cyE tC ad q94.2 s0 _ hq) hP hS mc_X8_areBytes ml_X8_186 mi_X8_areBytes ms_X8_areBytes mz_X8 (by decide +kernel) ⟨rfl, rfl⟩ ⟨by decide, by decide⟩ (by decide) cM_O rfl rfl rfl hl.1 (Nat.le_of_ble_eq_true rfl) dX8_read_102 ⟨Nat.zero_le _, Nat.zero_le _⟩ (fun H locs hP hS => ?_)
          refine lv_if_eq (tgt := 112) hx hb dX8_read_105 (by decide) (fun h105 => ?_) (fun h105 => ?_)
          · rw [if_pos h105] at hf
            refine lv_iconst (v := 0) hx hb dX8_read_112 (by decide) ?_
            exact L113 _ _ _ _ _ _ hP hS (lv_sub hl [1, 0] rfl) hf
          · rw [if_neg h105] at hf
            refine lv_iconst (v := 1) hx hb dX8_read_108 (by decide) ?_
            refine lv_goto (tgt := 113) hx hb dX8_read_109 (by decide) ?_
            exact L113 _ _ _ _ _ _ hP hS (lv_sub hl [1, 0] rfl) hf
  have L59 : ∀ (σ : SM) (x1 : Int32) (s0 : Int32), ∀ (H : Heap) (locs : List Loc) (ls : Array Slot), va_P (dC, dI) vwCl (ax_w 12 ad (cM cyI ad σ)) H → va_S (ax_A 12 ad s.heap.size) s.heap H locs → lv_has ls 5 [(0, .ref (ad 11)), (1, .int x1)] → f_X8_read_59 σ x1 s0 = some res → W p l e rm_X8_read s m args below meth c H locs 0 0 Q (F0 m 59 ls [.int s0]) := by
    intro σ x1 s0  H locs ls hP hS hl hf
    unfold f_X8_read_59 at hf
    refine lv_istore_n (lv' := [(2, .int s0), (0, .ref (ad 11)), (1, .int x1)]) hx hb dX8_read_59 rfl hl (by decide) rfl (fun ls hl => ?_)
    refine lv_iload_n hx hb dX8_read_60 rfl (lv_at hl 0 rfl) ?_
    refine lv_if_eq (tgt := 76) hx hb dX8_read_61 (by decide) (fun h61 => ?_) (fun h61 => ?_)
    · rw [if_pos h61] at hf
      refine lv_iconst (v := 0) hx hb dX8_read_76 (by decide) ?_
      exact L77 _ _ _ _ _ _ _ hP hS (lv_sub hl [1, 2, 0] rfl) hf
    · rw [if_neg h61] at hf
      refine lv_aload_n hx hb dX8_read_64 rfl (lv_at hl 1 rfl) ?_
      refine lv_iload_n hx hb dX8_read_65 rfl (lv_at hl 2 rfl) ?_
      refine lv_bipush (v := 8) hx hb dX8_read_66 (by decide) ?_
      refine lv_iadd hx hb dX8_read_68 ?_
      refine lv_iconst (v := 2) hx hb dX8_read_69 (by decide) ?_
      obtain ⟨q70, hq, hf⟩ := ob_bind hf
      refine ax_callVi (C := "") (b := 0) (i := 11) (k := 2) (ci := 6) [.int (x1 + 8), .int 2] C0 hT hJ hE (met_X8_number l dC dI cyI cyE tC ad σ (x1 + 8) 2 _ hq) hP hS mc_X8_number ml_X8_135 mi_X8_number ms_X8_number mz_X8 (by decide +kernel) ⟨rfl, rfl⟩ ⟨by decide, by decide⟩ (by decide) cM_O rfl rfl rfl hl.1 (Nat.le_of_ble_eq_true rfl) dX8_read_70 ⟨Nat.zero_le _, Nat.zero_le _⟩ (fun H locs hP hS => ?_)
      refine lv_goto (tgt := 77) hx hb dX8_read_73 (by decide) ?_
      exact L77 _ _ _ _ _ _ _ hP hS (lv_sub hl [1, 2, 0] rfl) hf
  have L48 : ∀ (σ : SM) (x1 : Int32) (s1 : Int32) (s2 : Int32) (s3 : Int32), ∀ (H : Heap) (locs : List Loc) (ls : Array Slot), va_P (dC, dI) vwCl (ax_w 12 ad (cM cyI ad σ)) H → va_S (ax_A 12 ad s.heap.size) s.heap H locs → lv_has ls 5 [(0, .ref (ad 11)), (1, .int x1)] → f_X8_read_48 σ x1 s1 s2 s3 = some res → W p l e rm_X8_read s m args below meth c H locs 0 0 Q (F0 m 48 ls [.int s3, .int s2, .int s1, .ref (ad 11)]) := by
    intro σ x1 s1 s2 s3  H locs ls hP hS hl hf
    unfold f_X8_read_48 at hf
    obtain ⟨q48, hq, hf⟩ := ob_bind hf
    refine ax_callVi (C := "") (b := 0) (i := 11) (k := 3) (ci := 6) [.int s1, .int s2, .int s3] C0 hT hJ hE (met_X8_fails l dC dI cyI cyE tC ad σ s1 s2 s3 _ hq) hP hS mc_X8_fails ml_X8_157 mi_X8_fails ms_X8_fails mz_X8 (by decide +kernel) ⟨rfl, rfl⟩ ⟨by decide, by decide⟩ (by decide) cM_O rfl rfl rfl hl.1 (Nat.le_of_ble_eq_true rfl) dX8_read_48 ⟨Nat.zero_le _, Nat.zero_le _⟩ (fun H locs hP hS => ?_)
    refine lv_if_eq (tgt := 58) hx hb dX8_read_51 (by decide) (fun h51 => ?_) (fun h51 => ?_)
    · rw [if_pos h51] at hf
      refine lv_iconst (v := 0) hx hb dX8_read_58 (by decide) ?_
      exact L59 _ _ _ _ _ _ hP hS (lv_sub hl [0, 1] rfl) hf
    · rw [if_neg h51] at hf
      refine lv_iconst (v := 1) hx hb dX8_read_54 (by decide) ?_
      refine lv_goto (tgt := 59) hx hb dX8_read_55 (by decide) ?_
      exact L59 _ _ _ _ _ _ hP hS (lv_sub hl [0, 1] rfl) hf
  unfold f_X8_read at hf
  refine lv_aload_n hx hb dX8_read_0 rfl (lv_at hl 0 rfl) ?_
  refine lv_iconst (v := 0) hx hb dX8_read_1 (by decide) ?_
  refine p_Model_fault C0 hT hE hJ hP hS mf_X8_138 dX8_read_2 (fun H locs hP hS => ?_)
  refine lv_aload_n hx hb dX8_read_5 rfl (lv_at hl 0 rfl) ?_
  refine lv_iconst (v := (-1)) hx hb dX8_read_6 (by decide) ?_
  refine p_Model_faultFile C0 hT hE hJ hP hS mf_X8_31 dX8_read_7 (fun H locs hP hS => ?_)
  refine lv_aload_n hx hb dX8_read_10 rfl (lv_at hl 0 rfl) ?_
  refine lv_iconst (v := (-1)) hx hb dX8_read_11 (by decide) ?_
  refine p_Model_faultPlace C0 hT hE hJ hP hS mf_X8_35 dX8_read_12 (fun H locs hP hS => ?_)
  refine lv_aload_n hx hb dX8_read_15 rfl (lv_at hl 0 rfl) ?_
  obtain ⟨q16, hq, hf⟩ := ob_bind hf
  refine ax_callVi (C := "") (b := 0) (i := 11) (k := 0) (ci := 6) [] C0 hT hJ hE (met_X8_findEnd l dC dI cyI cyE tC ad (SMi (SMi (SMi σ 4 0) 5 (-1)) 6 (-1)) _ hq) hP hS mc_X8_findEnd ml_X8_177 mi_X8_findEnd ms_X8_findEnd mz_X8 (by decide +kernel) ⟨rfl, rfl⟩ ⟨by decide, by decide⟩ (by decide) cM_O rfl rfl rfl hl.1 (Nat.le_of_ble_eq_true rfl) dX8_read_16 ⟨Nat.zero_le _, Nat.zero_le _⟩ (fun H locs hP hS => ?_)
  refine lv_istore_n (lv' := [(1, .int q16.1), (0, .ref (ad 11))]) hx hb dX8_read_19 rfl hl (by decide) rfl (fun ls hl => ?_)
  refine lv_iload_n hx hb dX8_read_20 rfl (lv_at hl 0 rfl) ?_
  refine lv_iconst (v := (-1)) hx hb dX8_read_21 (by decide) ?_
  refine lv_icmp_ne (tgt := 54) hx hb dX8_read_22 (by decide) (fun h22 => ?_) (fun h22 => ?_)
  · rw [if_neg h22] at hf
    refine lv_iconst (v := 1) hx hb dX8_read_54 (by decide) ?_
    refine lv_goto (tgt := 59) hx hb dX8_read_55 (by decide) ?_
    exact L59 _ _ _ _ _ _ hP hS (lv_sub hl [1, 0] rfl) hf
  · rw [if_pos h22] at hf
    refine lv_aload_n hx hb dX8_read_25 rfl (lv_at hl 1 rfl) ?_
    refine lv_iconst (v := 1) hx hb dX8_read_26 (by decide) ?_
    refine lv_iconst (v := (-1)) hx hb dX8_read_27 (by decide) ?_
    refine lv_aload_n hx hb dX8_read_28 rfl (lv_at hl 1 rfl) ?_
    refine g_Model_size C0 hT hE hP mf_X8_53 dX8_read_29 ?_
    refine lv_bipush (v := 22) hx hb dX8_read_32 (by decide) ?_
    refine lv_icmp_ge (tgt := 41) hx hb dX8_read_34 (by decide) (fun h34 => ?_) (fun h34 => ?_)
    · rw [if_pos h34] at hf
      refine lv_aload_n hx hb dX8_read_41 rfl (lv_at hl 1 rfl) ?_
      refine g_Model_size C0 hT hE hP mf_X8_53 dX8_read_42 ?_
      refine lv_bipush (v := 22) hx hb dX8_read_45 (by decide) ?_
      refine lv_isub hx hb dX8_read_47 ?_
      exact L48 _ _ _ _ _ _ _ _ hP hS (lv_sub hl [1, 0] rfl) hf
    · rw [if_neg h34] at hf
      refine lv_iconst (v := 0) hx hb dX8_read_37 (by decide) ?_
      refine lv_goto (tgt := 48) hx hb dX8_read_38 (by decide) ?_
      exact L48 _ _ _ _ _ _ _ _ hP hS (lv_sub hl [1, 0] rfl) hf
def f_X8_fault (σ : SM) (x1 : Int32) : Option (Int32 × SM) := if x1 = 0 then (some ((SMi σ 0 0).1 4, (SMi σ 0 0))) else (if x1 = 1 then (some ((SMi σ 0 0).1 5, (SMi σ 0 0))) else (if x1 = 2 then (some ((SMi σ 0 0).1 6, (SMi σ 0 0))) else (some ((-1), (SMi σ 0 0)))))
def rm_X8_fault : Room := { frames := 0, cells := 0, slots := 0, locals := 0 }
set_option maxHeartbeats 4000000 in
set_option maxRecDepth 100000 in
theorem met_X8_fault (l : Launch) (dC : Nat → ClassId) (dI : Nat → Nat → Nat) (cyI cyE : ClassId) (tC : Nat) (ad : Nat → Nat) (σ : SM) (x1 : Int32) (res : Int32 × SM) (hf : f_X8_fault σ x1 = some res) : ax_Mi l dC dI cyI cyE tC 12 (cM cyI ad) ad yX8_fault cX8_fault 2 (some .int) rm_X8_fault [.ref (ad 11), .int x1] σ res.1 res.2 := by
  intro sz
  refine Met.ofW (cc := cX8_fault) (maxL := 2) (ret := (some .int)) (by decide) rfl ?_
  intro p e s m args below meth c s₁ B hml hv
  obtain ⟨hargs, hsz, hP, hJ, hE⟩ := hv
  subst hsz
  have hx := B.exec
  have hb := B.bytes
  have hr := B.returns
  have hlocks := B.notSynchronized
  have hts := atoms_spec (ws := wsY yX8_fault cX8_fault 2 (some .int)) B.pre
  have hown : s.vm.findClass RX8 = some m.cls := findClass_of_methodNamed B.named
  have C0 : CallFix p m c cX8_fault 2 s args (wsY yX8_fault cX8_fault 2 (some .int)) RX8 := ⟨hx, hb, hml, hown, hts⟩
  have hT : ∀ w ∈ bw, w ∈ wsY yX8_fault cX8_fault 2 (some .int) := fun w h => List.mem_cons_of_mem _ h
  have hS : va_S (ax_A 12 ad s.heap.size) s.heap s.heap [] := va_S.rf
  rw [show entryFrame m args 2 = entryFrame m ([.ref (ad 11), .int x1] : List Value).toArray 2 by rw [hargs]]
  have hl := lv_entry ([.ref (ad 11), .int x1]) (n := 2) (Nat.le_of_ble_eq_true rfl)
  rw [lg_entry_eq]
  generalize (lg_sl ([.ref (ad 11), .int x1]) ++ List.replicate (2 - (lg_sl ([.ref (ad 11), .int x1])).length) Slot.unset).toArray = ls at hl ⊢
  have hl : lv_has ls 2 [(0, .ref (ad 11)), (1, .int x1)] := hl
  obtain ⟨Q, hQ⟩ : ∃ Q : State → Prop, Q = MQ below (va_Qi (fun (a : Int32) (u : SM) => a = res.1 ∧ u = res.2) (ax_B dC dI 12 (cM cyI ad) ad) (ax_A 12 ad s.heap.size)) args s 0 0 (ax_A 12 ad s.heap.size) := ⟨_, rfl⟩
  show W p l e rm_X8_fault s m args below meth c s.heap [] 0 0 _ _
  rw [← hQ]
  have hret : ∀ (v : Int32) (σ : SM) (H : Heap) (locs : List Loc) (ls : Array Slot) (pc : Nat), narrow .int (.int v) = .int v → some (v, σ) = some res → va_P (dC, dI) vwCl (ax_w 12 ad (cM cyI ad σ)) H → va_S (ax_A 12 ad s.heap.size) s.heap H locs → decode cX8_fault pc = .ok (.ireturn, 1) → W p l e rm_X8_fault s m args below meth c H locs 0 0 Q (F0 m pc ls [.int v]) := by
    intro v σ H locs ls pc hn hf hP hS hd
    cases hf
    rw [hQ]
    exact ax_iret hx hb hr hlocks hn hP hS hd rfl rfl
  unfold f_X8_fault at hf
  refine lv_aload_n hx hb dX8_fault_0 rfl (lv_at hl 0 rfl) ?_
  refine lv_iconst (v := 0) hx hb dX8_fault_1 (by decide) ?_
  refine p_Model_thrown C0 hT hE hJ hP hS mf_X8_50 dX8_fault_2 (fun H locs hP hS => ?_)
  refine lv_iload_n hx hb dX8_fault_5 rfl (lv_at hl 1 rfl) ?_
  refine lv_if_ne (tgt := 16) hx hb dX8_fault_6 (by decide) (fun h6 => ?_) (fun h6 => ?_)
  · rw [if_neg h6] at hf
    refine lv_iload_n hx hb dX8_fault_16 rfl (lv_at hl 1 rfl) ?_
    refine lv_iconst (v := 1) hx hb dX8_fault_17 (by decide) ?_
    refine lv_icmp_ne (tgt := 28) hx hb dX8_fault_18 (by decide) (fun h18 => ?_) (fun h18 => ?_)
    · rw [if_neg h18] at hf
      refine lv_iload_n hx hb dX8_fault_28 rfl (lv_at hl 1 rfl) ?_
      refine lv_iconst (v := 2) hx hb dX8_fault_29 (by decide) ?_
      refine lv_icmp_ne (tgt := 40) hx hb dX8_fault_30 (by decide) (fun h30 => ?_) (fun h30 => ?_)
      · rw [if_neg h30] at hf
        refine lv_iconst (v := (-1)) hx hb dX8_fault_40 (by decide) ?_
        exact hret _ _ _ _ _ _ rfl hf hP hS dX8_fault_41
      · rw [if_pos h30] at hf
        refine lv_aload_n hx hb dX8_fault_33 rfl (lv_at hl 0 rfl) ?_
        refine g_Model_faultPlace C0 hT hE hP mf_X8_35 dX8_fault_34 ?_
        refine lv_goto (tgt := 41) hx hb dX8_fault_37 (by decide) ?_
        exact hret _ _ _ _ _ _ rfl hf hP hS dX8_fault_41
    · rw [if_pos h18] at hf
      refine lv_aload_n hx hb dX8_fault_21 rfl (lv_at hl 0 rfl) ?_
      refine g_Model_faultFile C0 hT hE hP mf_X8_31 dX8_fault_22 ?_
      refine lv_goto (tgt := 41) hx hb dX8_fault_25 (by decide) ?_
      exact hret _ _ _ _ _ _ rfl hf hP hS dX8_fault_41
  · rw [if_pos h6] at hf
    refine lv_aload_n hx hb dX8_fault_9 rfl (lv_at hl 0 rfl) ?_
    refine g_Model_fault C0 hT hE hP mf_X8_138 dX8_fault_10 ?_
    refine lv_goto (tgt := 41) hx hb dX8_fault_13 (by decide) ?_
    exact hret _ _ _ _ _ _ rfl hf hP hS dX8_fault_41
