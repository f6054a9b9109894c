def f_X4_four (σ : SD) (r0 : Nat) (x1 : Int32) : Option (Int64 × SD) := (f_X4_holds σ r0 x1 4).bind fun q3 => if q3.1 = 0 then (some ((-1), q3.2)) else (if inb (x1 + 2) (capD r0) = true then (if inb (x1 + 3) (capD r0) = true then (if inb x1 (capD r0) = true then (if inb (x1 + 1) (capD r0) = true then (some ((((((q3.2.2.2.1 r0 (x1 + 2).toNatClampNeg) ||| ((q3.2.2.2.1 r0 (x1 + 3).toNatClampNeg) <<< (8 &&& 31))).toInt64) <<< ((16 : Int32).toInt64 &&& 63)) ||| ((q3.2.2.2.1 r0 x1.toNatClampNeg).toInt64)) ||| (((q3.2.2.2.1 r0 (x1 + 1).toNatClampNeg) <<< (8 &&& 31)).toInt64), q3.2)) else none) else none) else none) else none)
def rm_X4_four : Room := { frames := 1, cells := 0, slots := 0, locals := 22 }
set_option maxHeartbeats 4000000 in
set_option maxRecDepth 100000 in
theorem met_X4_four (l : Launch) (dC : Nat → ClassId) (dI : Nat → Nat → Nat) (cyI cyE : ClassId) (tC : Nat) (ad : Nat → Nat) (σ : SD) (r0 : Nat) (x1 : Int32) (hb_r0 : r0 < 25) (res : Int64 × SD) (hf : f_X4_four σ r0 x1 = some res) : ax_Ml l dC dI cyI cyE tC 77 (cD cyI cyE ad) ad yX4_four cX4_four 4 (some .long) rm_X4_four [.ref (ad r0), .int x1] σ res.1 res.2 := by
  intro sz
  refine Met.ofW (cc := cX4_four) (maxL := 4) (ret := (some .long)) (by decide) rfl ?_
  intro p e s m args below meth c s₁ B hml hv
  obtain ⟨hargs, hsz, hP, hJ, hE⟩ := hv
  subst hsz
  have hx := B.exec
  have hb := B.bytes
  have hr := B.returns
  have hlocks := B.notSynchronized
  have hts := atoms_spec (ws := wsY yX4_four cX4_four 4 (some .long)) B.pre
  have hown : s.vm.findClass RX4 = some m.cls := findClass_of_methodNamed B.named
  have C0 : CallFix p m c cX4_four 4 s args (wsY yX4_four cX4_four 4 (some .long)) RX4 := ⟨hx, hb, hml, hown, hts⟩
  have hT : ∀ w ∈ bw, w ∈ wsY yX4_four cX4_four 4 (some .long) := fun w h => List.mem_cons_of_mem _ h
  have hS : va_S (ax_A 77 ad s.heap.size) s.heap s.heap [] := va_S.rf
  rw [show entryFrame m args 4 = entryFrame m ([.ref (ad r0), .int x1] : List Value).toArray 4 by rw [hargs]]
  have hl := lv_entry ([.ref (ad r0), .int x1]) (n := 4) (Nat.le_of_ble_eq_true rfl)
  rw [lg_entry_eq]
  generalize (lg_sl ([.ref (ad r0), .int x1]) ++ List.replicate (4 - (lg_sl ([.ref (ad r0), .int x1])).length) Slot.unset).toArray = ls at hl ⊢
  have hl : lv_has ls 4 [(0, .ref (ad r0)), (1, .int x1)] := hl
  obtain ⟨Q, hQ⟩ : ∃ Q : State → Prop, Q = MQ below (va_Ql (fun (a : Int64) (u : SD) => a = res.1 ∧ u = res.2) (ax_B dC dI 77 (cD cyI cyE ad) ad) (ax_A 77 ad s.heap.size)) args s 0 0 (ax_A 77 ad s.heap.size) := ⟨_, rfl⟩
  show W p l e rm_X4_four s m args below meth c s.heap [] 0 0 _ _
  rw [← hQ]
  have hret : ∀ (v : Int64) (σ : SD) (H : Heap) (locs : List Loc) (ls : Array Slot) (pc : Nat), some (v, σ) = some res → va_P (dC, dI) vwCl (ax_w 77 ad (cD cyI cyE ad σ)) H → va_S (ax_A 77 ad s.heap.size) s.heap H locs → decode cX4_four pc = .ok (.lreturn, 1) → W p l e rm_X4_four s m args below meth c H locs 0 0 Q (F0 m pc ls [.long v]) := by
    intro v σ H locs ls pc hf hP hS hd
    cases hf
    rw [hQ]
    exact ax_lret hx hb hr hlocks hP hS hd rfl rfl
  unfold f_X4_four at hf
  refine lv_aload_n hx hb dX4_four_0 rfl (lv_at hl 0 rfl) ?_
  refine lv_iload_n hx hb dX4_four_1 rfl (lv_at hl 1 rfl) ?_
  refine lv_iconst (v := 4) hx hb dX4_four_2 (by decide) ?_
  obtain ⟨q3, hq, hf⟩ := ob_bind hf
  refine ax_callVi (C := "") (b := 0) (i := r0) (k := 2) (ci := 3) [.int x1, .int 4] C0 hT hJ hE (met_X4_holds l dC dI cyI cyE tC ad σ r0 x1 4 (by omega) _ hq) hP hS mc_X4_holds ml_X4_25 mi_X4_holds ms_X4_holds mz_X4 (by decide +kernel) ⟨rfl, rfl⟩ ⟨by decide, by decide⟩ (by omega) (cD_Row (by omega)) rfl rfl rfl hl.1 (Nat.le_of_ble_eq_true rfl) dX4_four_3 ⟨Nat.zero_le _, Nat.zero_le _⟩ (fun H locs hP hS => ?_)
  refine lv_if_ne (tgt := 13) hx hb dX4_four_6 (by decide) (fun h6 => ?_) (fun h6 => ?_)
  · rw [if_neg h6] at hf
    refine lv_aload_n hx hb dX4_four_13 rfl (lv_at hl 0 rfl) ?_
    refine g_Row_cells (r := r0) (by omega) C0 hT hE hP mf_X4_15 dX4_four_14 ?_
    refine lv_iload_n hx hb dX4_four_17 rfl (lv_at hl 1 rfl) ?_
    refine lv_iconst (v := 2) hx hb dX4_four_18 (by decide) ?_
    refine lv_iadd hx hb dX4_four_19 ?_
    obtain ⟨hin, hf⟩ := ob_if hf
    refine aD_ld (a := r0) (by omega) C0 hT hE hP (inb_in hin) dX4_four_20 ?_
    refine lv_aload_n hx hb dX4_four_21 rfl (lv_at hl 0 rfl) ?_
    refine g_Row_cells (r := r0) (by omega) C0 hT hE hP mf_X4_15 dX4_four_22 ?_
    refine lv_iload_n hx hb dX4_four_25 rfl (lv_at hl 1 rfl) ?_
    refine lv_iconst (v := 3) hx hb dX4_four_26 (by decide) ?_
    refine lv_iadd hx hb dX4_four_27 ?_
    obtain ⟨hin, hf⟩ := ob_if hf
    refine aD_ld (a := r0) (by omega) C0 hT hE hP (inb_in hin) dX4_four_28 ?_
    refine lv_bipush (v := 8) hx hb dX4_four_29 (by decide) ?_
    refine lv_ishl hx hb dX4_four_31 ?_
    refine lv_ior hx hb dX4_four_32 ?_
    refine lv_i2l hx hb dX4_four_33 rfl ?_
    refine lv_lstore_n (lv' := [(2, .long (((q3.2.2.2.1 r0 (x1 + 2).toNatClampNeg) ||| ((q3.2.2.2.1 r0 (x1 + 3).toNatClampNeg) <<< (8 &&& 31))).toInt64)), (0, .ref (ad r0)), (1, .int x1)]) hx hb dX4_four_34 rfl hl (by decide) rfl (fun ls hl => ?_)
    refine lv_lload_n hx hb dX4_four_35 rfl (lv_at hl 0 rfl) ?_
    refine lv_bipush (v := 16) hx hb dX4_four_36 (by decide) ?_
    refine lv_lshl hx hb dX4_four_38 rfl ?_
    refine lv_aload_n hx hb dX4_four_39 rfl (lv_at hl 1 rfl) ?_
    refine g_Row_cells (r := r0) (by omega) C0 hT hE hP mf_X4_15 dX4_four_40 ?_
    refine lv_iload_n hx hb dX4_four_43 rfl (lv_at hl 2 rfl) ?_
    obtain ⟨hin, hf⟩ := ob_if hf
    refine aD_ld (a := r0) (by omega) C0 hT hE hP (inb_in hin) dX4_four_44 ?_
    refine lv_i2l hx hb dX4_four_45 rfl ?_
    refine lv_lor hx hb dX4_four_46 ?_
    refine lv_aload_n hx hb dX4_four_47 rfl (lv_at hl 1 rfl) ?_
    refine g_Row_cells (r := r0) (by omega) C0 hT hE hP mf_X4_15 dX4_four_48 ?_
    refine lv_iload_n hx hb dX4_four_51 rfl (lv_at hl 2 rfl) ?_
    refine lv_iconst (v := 1) hx hb dX4_four_52 (by decide) ?_
    refine lv_iadd hx hb dX4_four_53 ?_
    obtain ⟨hin, hf⟩ := ob_if hf
    refine aD_ld (a := r0) (by omega) C0 hT hE hP (inb_in hin) dX4_four_54 ?_
    refine lv_bipush (v := 8) hx hb dX4_four_55 (by decide) ?_
    refine lv_ishl hx hb dX4_four_57 ?_
    refine lv_i2l hx hb dX4_four_58 rfl ?_
    refine lv_lor hx hb dX4_four_59 ?_
    exact hret _ _ _ _ _ _ hf hP hS dX4_four_60
  · rw [if_pos h6] at hf
    refine lv_ldc2 (own := RX4) (v := (-1)) hx hb hown (C0.2.2.2.2 _ (hT _ mk_X4_29)) dX4_four_9 ?_
    exact hret _ _ _ _ _ _ hf hP hS dX4_four_12
def f_X2_parse_108 (r1 : Nat) (x2 : Int32) (σ : SD)  : Option (Int32 × SD) := (f_X4_two σ r1 (x2 + 6)).bind fun q113 => if q113.1 = 0 then ((f_X4_two q113.2 r1 (x2 + 8)).bind fun q124 => if q124.1 = 33 then (if (q124.2.1 14 0) < 1 then (some (0, q124.2)) else (if (30 : Int32) < (q124.2.1 14 0) then (some (0, q124.2)) else ((f_X4_two q124.2 r1 (x2 + 24)).bind fun q154 => if q154.1 = 0 then (some (1, q154.2)) else (some (0, q154.2))))) else (some (0, q124.2))) else (some (0, q113.2))
def f_X2_parse (σ : SD) (r1 : Nat) (x2 : Int32) : Option (Int32 × SD) := (f_X4_holds σ r1 x2 26).bind fun q4 => if q4.1 = 0 then (some (0, q4.2)) else ((f_X4_two q4.2 r1 (x2 + 4)).bind fun q17 => (f_X4_four (SDi q17.2 12 0 q17.1) r1 (x2 + 10)).bind fun q29 => (f_X4_four (SDi q29.2 13 0 q29.1.toInt32) r1 (x2 + 14)).bind fun q42 => (f_X4_four (SDj q42.2 0 q42.1) r1 (x2 + 18)).bind fun q54 => (f_X4_two (SDj q54.2 1 q54.1) r1 (x2 + 22)).bind fun q66 => (f_X4_two (SDi q66.2 14 0 q66.1) r1 x2).bind fun q74 => if q74.1 = 20 then ((f_X4_two q74.2 r1 (x2 + 2)).bind fun q86 => if q86.1 = 0 then (if (q86.2.1 12 0) = 0 then (f_X2_parse_108 r1 x2 q86.2 ) else (if (q86.2.1 12 0) = 99 then (f_X2_parse_108 r1 x2 q86.2 ) else (some (0, q86.2)))) else (some (0, q86.2))) else (some (0, q74.2)))
def rm_X2_parse : Room := { frames := 2, cells := 0, slots := 0, locals := 45 }
set_option maxHeartbeats 4000000 in
set_option maxRecDepth 100000 in
theorem met_X2_parse (l : Launch) (dC : Nat → ClassId) (dI : Nat → Nat → Nat) (cyI cyE : ClassId) (tC : Nat) (ad : Nat → Nat) (σ : SD) (r1 : Nat) (x2 : Int32) (hb_r1 : r1 < 25) (res : Int32 × SD) (hf : f_X2_parse σ r1 x2 = some res) : ax_Mi l dC dI cyI cyE tC 77 (cD cyI cyE ad) ad yX2_parse cX2_parse 3 (some .boolean) rm_X2_parse [.ref (ad 73), .ref (ad r1), .int x2] σ res.1 res.2 := by
  intro sz
  refine Met.ofW (cc := cX2_parse) (maxL := 3) (ret := (some .boolean)) (by decide) rfl ?_
  intro p e s m args below meth c s₁ B hml hv
  obtain ⟨hargs, hsz, hP, hJ, hE⟩ := hv
  subst hsz
  have hx := B.exec
  have hb := B.bytes
  have hr := B.returns
  have hlocks := B.notSynchronized
  have hts := atoms_spec (ws := wsY yX2_parse cX2_parse 3 (some .boolean)) B.pre
  have hown : s.vm.findClass RX2 = some m.cls := findClass_of_methodNamed B.named
  have C0 : CallFix p m c cX2_parse 3 s args (wsY yX2_parse cX2_parse 3 (some .boolean)) RX2 := ⟨hx, hb, hml, hown, hts⟩
  have hT : ∀ w ∈ bw, w ∈ wsY yX2_parse cX2_parse 3 (some .boolean) := fun w h => List.mem_cons_of_mem _ h
  have hS : va_S (ax_A 77 ad s.heap.size) s.heap s.heap [] := va_S.rf
  rw [show entryFrame m args 3 = entryFrame m ([.ref (ad 73), .ref (ad r1), .int x2] : List Value).toArray 3 by rw [hargs]]
  have hl := lv_entry ([.ref (ad 73), .ref (ad r1), .int x2]) (n := 3) (Nat.le_of_ble_eq_true rfl)
  rw [lg_entry_eq]
  generalize (lg_sl ([.ref (ad 73), .ref (ad r1), .int x2]) ++ List.replicate (3 - (lg_sl ([.ref (ad 73), .ref (ad r1), .int x2])).length) Slot.unset).toArray = ls at hl ⊢
  have hl : lv_has ls 3 [(0, .ref (ad 73)), (1, .ref (ad r1)), (2, .int x2)] := hl
  obtain ⟨Q, hQ⟩ : ∃ Q : State → Prop, Q = MQ below (va_Qi (fun (a : Int32) (u : SD) => a = res.1 ∧ u = res.2) (ax_B dC dI 77 (cD cyI cyE ad) ad) (ax_A 77 ad s.heap.size)) args s 0 0 (ax_A 77 ad s.heap.size) := ⟨_, rfl⟩
  show W p l e rm_X2_parse s m args below meth c s.heap [] 0 0 _ _
  rw [← hQ]
  have hret : ∀ (v : Int32) (σ : SD) (H : Heap) (locs : List Loc) (ls : Array Slot) (pc : Nat), narrow .boolean (.int v) = .int v → some (v, σ) = some res → va_P (dC, dI) vwCl (ax_w 77 ad (cD cyI cyE ad σ)) H → va_S (ax_A 77 ad s.heap.size) s.heap H locs → decode cX2_parse pc = .ok (.ireturn, 1) → W p l e rm_X2_parse s m args below meth c H locs 0 0 Q (F0 m pc ls [.int v]) := by
    intro v σ H locs ls pc hn hf hP hS hd
    cases hf
    rw [hQ]
    exact ax_iret hx hb hr hlocks hn hP hS hd rfl rfl
  have L108 : ∀ (σ : SD) , ∀ (H : Heap) (locs : List Loc) (ls : Array Slot), va_P (dC, dI) vwCl (ax_w 77 ad (cD cyI cyE ad σ)) H → va_S (ax_A 77 ad s.heap.size) s.heap H locs → lv_has ls 3 [(0, .ref (ad 73)), (1, .ref (ad r1)), (2, .int x2)] → f_X2_parse_108 r1 x2 σ  = some res → W p l e rm_X2_parse s m args below meth c H locs 0 0 Q (F0 m 108 ls []) := by
    intro σ   H locs ls hP hS hl hf
    unfold f_X2_parse_108 at hf
    refine lv_aload_n hx hb dX2_parse_108 rfl (lv_at hl 1 rfl) ?_
    refine lv_iload_n hx hb dX2_parse_109 rfl (lv_at hl 2 rfl) ?_
    refine lv_bipush (v := 6) hx hb dX2_parse_110 (by decide) ?_
    refine lv_iadd hx hb dX2_parse_112 ?_
    obtain ⟨q113, hq, hf⟩ := ob_bind hf
    refine ax_callVi (C := "") (b := 0) (i := r1) (k := 1) (ci := 3) [.int (x2 + 6)] C0 hT hJ hE (met_X4_two l dC dI cyI cyE tC ad σ r1 (x2 + 6) (by omega) _ hq) hP hS mc_X4_two ml_X2_15 mi_X4_two ms_X4_two mz_X4 (by decide +kernel) ⟨rfl, rfl⟩ ⟨by decide, by decide⟩ (by omega) (cD_Row (by omega)) rfl rfl rfl hl.1 (Nat.le_of_ble_eq_true rfl) dX2_parse_113 ⟨Nat.zero_le _, Nat.zero_le _⟩ (fun H locs hP hS => ?_)
    refine lv_if_ne (tgt := 164) hx hb dX2_parse_116 (by decide) (fun h116 => ?_) (fun h116 => ?_)
    · rw [if_neg h116] at hf
      refine lv_iconst (v := 0) hx hb dX2_parse_164 (by decide) ?_
      exact hret _ _ _ _ _ _ rfl hf hP hS dX2_parse_165
    · rw [if_pos h116] at hf
      refine lv_aload_n hx hb dX2_parse_119 rfl (lv_at hl 1 rfl) ?_
      refine lv_iload_n hx hb dX2_parse_120 rfl (lv_at hl 2 rfl) ?_
      refine lv_bipush (v := 8) hx hb dX2_parse_121 (by decide) ?_
      refine lv_iadd hx hb dX2_parse_123 ?_
      obtain ⟨q124, hq, hf⟩ := ob_bind hf
      refine ax_callVi (C := "") (b := 0) (i := r1) (k := 1) (ci := 3) [.int (x2 + 8)] C0 hT hJ hE (met_X4_two l dC dI cyI cyE tC ad q113.2 r1 (x2 + 8) (by omega) _ hq) hP hS mc_X4_two ml_X2_15 mi_X4_two ms_X4_two mz_X4 (by decide +kernel) ⟨rfl, rfl⟩ ⟨by decide, by decide⟩ (by omega) (cD_Row (by omega)) rfl rfl rfl hl.1 (Nat.le_of_ble_eq_true rfl) dX2_parse_124 ⟨Nat.zero_le _, Nat.zero_le _⟩ (fun H locs hP hS => ?_)
      refine lv_bipush (v := 33) hx hb dX2_parse_127 (by decide) ?_
      refine lv_icmp_ne (tgt := 164) hx hb dX2_parse_129 (by decide) (fun h129 => ?_) (fun h129 => ?_)
      · rw [if_neg h129] at hf
        refine lv_iconst (v := 0) hx hb dX2_parse_164 (by decide) ?_
        exact hret _ _ _ _ _ _ rfl hf hP hS dX2_parse_165
      · rw [if_pos h129] at hf
        refine lv_aload_n hx hb dX2_parse_132 rfl (lv_at hl 0 rfl) ?_
        refine g_Header_nameSize C0 hT hE hP mf_X2_39 dX2_parse_133 ?_
        refine lv_iconst (v := 1) hx hb dX2_parse_136 (by decide) ?_
        refine lv_icmp_lt (tgt := 164) hx hb dX2_parse_137 (by decide) (fun h137 => ?_) (fun h137 => ?_)
        · rw [if_pos h137] at hf
          refine lv_iconst (v := 0) hx hb dX2_parse_164 (by decide) ?_
          exact hret _ _ _ _ _ _ rfl hf hP hS dX2_parse_165
        · rw [if_neg h137] at hf
          refine lv_aload_n hx hb dX2_parse_140 rfl (lv_at hl 0 rfl) ?_
          refine g_Header_nameSize C0 hT hE hP mf_X2_39 dX2_parse_141 ?_
          refine lv_bipush (v := 30) hx hb dX2_parse_144 (by decide) ?_
          refine lv_icmp_gt (tgt := 164) hx hb dX2_parse_146 (by decide) (fun h146 => ?_) (fun h146 => ?_)
          · rw [if_pos h146] at hf
            refine lv_iconst (v := 0) hx hb dX2_parse_164 (by decide) ?_
            exact hret _ _ _ _ _ _ rfl hf hP hS dX2_parse_165
          · rw [if_neg h146] at hf
            refine lv_aload_n hx hb dX2_parse_149 rfl (lv_at hl 1 rfl) ?_
            refine lv_iload_n hx hb dX2_parse_150 rfl (lv_at hl 2 rfl) ?_
            refine lv_bipush (v := 24) hx hb dX2_parse_151 (by decide) ?_
            refine lv_iadd hx hb dX2_parse_153 ?_
            obtain ⟨q154, hq, hf⟩ := ob_bind hf
            refine ax_callVi (C := "") (b := 0) (i := r1) (k := 1) (ci := 3) [.int (x2 + 24)] C0 hT hJ hE (met_X4_two l dC dI cyI cyE tC ad q124.2 r1 (x2 + 24) (by omega) _ hq) hP hS mc_X4_two ml_X2_15 mi_X4_two ms_X4_two mz_X4 (by decide +kernel) ⟨rfl, rfl⟩ ⟨by decide, by decide⟩ (by omega) (cD_Row (by omega)) rfl rfl rfl hl.1 (Nat.le_of_ble_eq_true rfl) dX2_parse_154 ⟨Nat.zero_le _, Nat.zero_le _⟩ (fun H locs hP hS => ?_)
            refine lv_if_ne (tgt := 164) hx hb dX2_parse_157 (by decide) (fun h157 => ?_) (fun h157 => ?_)
            · rw [if_neg h157] at hf
              refine lv_iconst (v := 0) hx hb dX2_parse_164 (by decide) ?_
              exact hret _ _ _ _ _ _ rfl hf hP hS dX2_parse_165
            · rw [if_pos h157] at hf
              refine lv_iconst (v := 1) hx hb dX2_parse_160 (by decide) ?_
              refine lv_goto (tgt := 165) hx hb dX2_parse_161 (by decide) ?_
              exact hret _ _ _ _ _ _ rfl hf hP hS dX2_parse_165
  unfold f_X2_parse at hf
  refine lv_aload_n hx hb dX2_parse_0 rfl (lv_at hl 1 rfl) ?_
  refine lv_iload_n hx hb dX2_parse_1 rfl (lv_at hl 2 rfl) ?_
  refine lv_bipush (v := 26) hx hb dX2_parse_2 (by decide) ?_
  obtain ⟨q4, hq, hf⟩ := ob_bind hf
  refine ax_callVi (C := "") (b := 0) (i := r1) (k := 2) (ci := 3) [.int x2, .int 26] C0 hT hJ hE (met_X4_holds l dC dI cyI cyE tC ad σ r1 x2 26 (by omega) _ hq) hP hS mc_X4_holds ml_X2_9 mi_X4_holds ms_X4_holds mz_X4 (by decide +kernel) ⟨rfl, rfl⟩ ⟨by decide, by decide⟩ (by omega) (cD_Row (by omega)) rfl rfl rfl hl.1 (Nat.le_of_ble_eq_true rfl) dX2_parse_4 ⟨Nat.zero_le _, Nat.zero_le _⟩ (fun H locs hP hS => ?_)
  refine lv_if_ne (tgt := 12) hx hb dX2_parse_7 (by decide) (fun h7 => ?_) (fun h7 => ?_)
  · rw [if_neg h7] at hf
    refine lv_aload_n hx hb dX2_parse_12 rfl (lv_at hl 0 rfl) ?_
    refine lv_aload_n hx hb dX2_parse_13 rfl (lv_at hl 1 rfl) ?_
    refine lv_iload_n hx hb dX2_parse_14 rfl (lv_at hl 2 rfl) ?_
    refine lv_iconst (v := 4) hx hb dX2_parse_15 (by decide) ?_
    refine lv_iadd hx hb dX2_parse_16 ?_
    obtain ⟨q17, hq, hf⟩ := ob_bind hf
    refine ax_callVi (C := "") (b := 0) (i := r1) (k := 1) (ci := 3) [.int (x2 + 4)] C0 hT hJ hE (met_X4_two l dC dI cyI cyE tC ad q4.2 r1 (x2 + 4) (by omega) _ hq) hP hS mc_X4_two ml_X2_15 mi_X4_two ms_X4_two mz_X4 (by decide +kernel) ⟨rfl, rfl⟩ ⟨by decide, by decide⟩ (by omega) (cD_Row (by omega)) rfl rfl rfl hl.1 (Nat.le_of_ble_eq_true rfl) dX2_parse_17 ⟨Nat.zero_le _, Nat.zero_le _⟩ (fun H locs hP hS => ?_)
    refine p_Header_method C0 hT hE hJ hP hS mf_X2_19 dX2_parse_20 (fun H locs hP hS => ?_)
    refine lv_aload_n hx hb dX2_parse_23 rfl (lv_at hl 0 rfl) ?_
    refine lv_aload_n hx hb dX2_parse_24 rfl (lv_at hl 1 rfl) ?_
    refine lv_iload_n hx hb dX2_parse_25 rfl (lv_at hl 2 rfl) ?_
    refine lv_bipush (v := 10) hx hb dX2_parse_26 (by decide) ?_
    refine lv_iadd hx hb dX2_parse_28 ?_
    obtain ⟨q29, hq, hf⟩ := ob_bind hf
    refine ax_callVl (b := 0) (i := r1) (k := 1) (ci := 3) [.int (x2 + 10)] C0 hT hJ hE (met_X4_four l dC dI cyI cyE tC ad (SDi q17.2 12 0 q17.1) r1 (x2 + 10) (by omega) _ hq) hP hS mc_X4_four ml_X2_25 mi_X4_four ms_X4_four mz_X4 (by decide +kernel) ⟨rfl, rfl⟩ ⟨by decide, by decide⟩ (by omega) (cD_Row (by omega)) rfl rfl rfl hl.1 (Nat.le_of_ble_eq_true rfl) dX2_parse_29 ⟨Nat.zero_le _, Nat.zero_le _⟩ (fun H locs hP hS => ?_)
    refine lv_l2i hx hb dX2_parse_32 rfl ?_
    refine p_Header_crc C0 hT hE hJ hP hS mf_X2_29 dX2_parse_33 (fun H locs hP hS => ?_)
    refine lv_aload_n hx hb dX2_parse_36 rfl (lv_at hl 0 rfl) ?_
    refine lv_aload_n hx hb dX2_parse_37 rfl (lv_at hl 1 rfl) ?_
    refine lv_iload_n hx hb dX2_parse_38 rfl (lv_at hl 2 rfl) ?_
    refine lv_bipush (v := 14) hx hb dX2_parse_39 (by decide) ?_
    refine lv_iadd hx hb dX2_parse_41 ?_
    obtain ⟨q42, hq, hf⟩ := ob_bind hf
    refine ax_callVl (b := 0) (i := r1) (k := 1) (ci := 3) [.int (x2 + 14)] C0 hT hJ hE (met_X4_four l dC dI cyI cyE tC ad (SDi q29.2 13 0 q29.1.toInt32) r1 (x2 + 14) (by omega) _ hq) hP hS mc_X4_four ml_X2_25 mi_X4_four ms_X4_four mz_X4 (by decide +kernel) ⟨rfl, rfl⟩ ⟨by decide, by decide⟩ (by omega) (cD_Row (by omega)) rfl rfl rfl hl.1 (Nat.le_of_ble_eq_true rfl) dX2_parse_42 ⟨Nat.zero_le _, Nat.zero_le _⟩ (fun H locs hP hS => ?_)
    refine p_Header_packed C0 hT hE hJ hP hS mf_X2_32 dX2_parse_45 (fun H locs hP hS => ?_)
    refine lv_aload_n hx hb dX2_parse_48 rfl (lv_at hl 0 rfl) ?_
    refine lv_aload_n hx hb dX2_parse_49 rfl (lv_at hl 1 rfl) ?_
    refine lv_iload_n hx hb dX2_parse_50 rfl (lv_at hl 2 rfl) ?_
    refine lv_bipush (v := 18) hx hb dX2_parse_51 (by decide) ?_
    refine lv_iadd hx hb dX2_parse_53 ?_
    obtain ⟨q54, hq, hf⟩ := ob_bind hf
    refine ax_callVl (b := 0) (i := r1) (k := 1) (ci := 3) [.int (x2 + 18)] C0 hT hJ hE (met_X4_four l dC dI cyI cyE tC ad (SDj q42.2 0 q42.1) r1 (x2 + 18) (by omega) _ hq) hP hS mc_X4_four ml_X2_25 mi_X4_four ms_X4_four mz_X4 (by decide +kernel) ⟨rfl, rfl⟩ ⟨by decide, by decide⟩ (by omega) (cD_Row (by omega)) rfl rfl rfl hl.1 (Nat.le_of_ble_eq_true rfl) dX2_parse_54 ⟨Nat.zero_le _, Nat.zero_le _⟩ (fun H locs hP hS => ?_)
    refine p_Header_size C0 hT hE hJ hP hS mf_X2_36 dX2_parse_57 (fun H locs hP hS => ?_)
    refine lv_aload_n hx hb dX2_parse_60 rfl (lv_at hl 0 rfl) ?_
    refine lv_aload_n hx hb dX2_parse_61 rfl (lv_at hl 1 rfl) ?_
    refine lv_iload_n hx hb dX2_parse_62 rfl (lv_at hl 2 rfl) ?_
    refine lv_bipush (v := 22) hx hb dX2_parse_63 (by decide) ?_
    refine lv_iadd hx hb dX2_parse_65 ?_
    obtain ⟨q66, hq, hf⟩ := ob_bind hf
    refine ax_callVi (C := "") (b := 0) (i := r1) (k := 1) (ci := 3) [.int (x2 + 22)] C0 hT hJ hE (met_X4_two l dC dI cyI cyE tC ad (SDj q54.2 1 q54.1) r1 (x2 + 22) (by omega) _ hq) hP hS mc_X4_two ml_X2_15 mi_X4_two ms_X4_two mz_X4 (by decide +kernel) ⟨rfl, rfl⟩ ⟨by decide, by decide⟩ (by omega) (cD_Row (by omega)) rfl rfl rfl hl.1 (Nat.le_of_ble_eq_true rfl) dX2_parse_66 ⟨Nat.zero_le _, Nat.zero_le _⟩ (fun H locs hP hS => ?_)
    refine p_Header_nameSize C0 hT hE hJ hP hS mf_X2_39 dX2_parse_69 (fun H locs hP hS => ?_)
    refine lv_aload_n hx hb dX2_parse_72 rfl (lv_at hl 1 rfl) ?_
    refine lv_iload_n hx hb dX2_parse_73 rfl (lv_at hl 2 rfl) ?_
    obtain ⟨q74, hq, hf⟩ := ob_bind hf
    refine ax_callVi (C := "") (b := 0) (i := r1) (k := 1) (ci := 3) [.int x2] C0 hT hJ hE (met_X4_two l dC dI cyI cyE tC ad (SDi q66.2 14 0 q66.1) r1 x2 (by omega) _ hq) hP hS mc_X4_two ml_X2_15 mi_X4_two ms_X4_two mz_X4 (by decide +kernel) ⟨rfl, rfl⟩ ⟨by decide, by decide⟩ (by omega) (cD_Row (by omega)) rfl rfl rfl hl.1 (Nat.le_of_ble_eq_true rfl) dX2_parse_74 ⟨Nat.zero_le _, Nat.zero_le _⟩ (fun H locs hP hS => ?_)
    refine lv_bipush (v := 20) hx hb dX2_parse_77 (by decide) ?_
    refine lv_icmp_ne (tgt := 164) hx hb dX2_parse_79 (by decide) (fun h79 => ?_) (fun h79 => ?_)
    · rw [if_neg h79] at hf
      refine lv_iconst (v := 0) hx hb dX2_parse_164 (by decide) ?_
      exact hret _ _ _ _ _ _ rfl hf hP hS dX2_parse_165
    · rw [if_pos h79] at hf
      refine lv_aload_n hx hb dX2_parse_82 rfl (lv_at hl 1 rfl) ?_
      refine lv_iload_n hx hb dX2_parse_83 rfl (lv_at hl 2 rfl) ?_
      refine lv_iconst (v := 2) hx hb dX2_parse_84 (by decide) ?_
      refine lv_iadd hx hb dX2_parse_85 ?_
      obtain ⟨q86, hq, hf⟩ := ob_bind hf
      refine ax_callVi (C := "") (b := 0) (i := r1) (k := 1) (ci := 3) [.int (x2 + 2)] C0 hT hJ hE (met_X4_two l dC dI cyI cyE tC ad q74.2 r1 (x2 + 2) (by omega) _ hq) hP hS mc_X4_two ml_X2_15 mi_X4_two ms_X4_two mz_X4 (by decide +kernel) ⟨rfl, rfl⟩ ⟨by decide, by decide⟩ (by omega) (cD_Row (by omega)) rfl rfl rfl hl.1 (Nat.le_of_ble_eq_true rfl) dX2_parse_86 ⟨Nat.zero_le _, Nat.zero_le _⟩ (fun H locs hP hS => ?_)
      refine lv_if_ne (tgt := 164) hx hb dX2_parse_89 (by decide) (fun h89 => ?_) (fun h89 => ?_)
      · rw [if_neg h89] at hf
        refine lv_iconst (v := 0) hx hb dX2_parse_164 (by decide) ?_
        exact hret _ _ _ _ _ _ rfl hf hP hS dX2_parse_165
      · rw [if_pos h89] at hf
        refine lv_aload_n hx hb dX2_parse_92 rfl (lv_at hl 0 rfl) ?_
        refine g_Header_method C0 hT hE hP mf_X2_19 dX2_parse_93 ?_
        refine lv_if_eq (tgt := 108) hx hb dX2_parse_96 (by decide) (fun h96 => ?_) (fun h96 => ?_)
        · rw [if_pos h96] at hf
          exact L108 _  _ _ _ hP hS (lv_sub hl [0, 1, 2] rfl) hf
        · rw [if_neg h96] at hf
          refine lv_aload_n hx hb dX2_parse_99 rfl (lv_at hl 0 rfl) ?_
          refine g_Header_method C0 hT hE hP mf_X2_19 dX2_parse_100 ?_
          refine lv_bipush (v := 99) hx hb dX2_parse_103 (by decide) ?_
          refine lv_icmp_ne (tgt := 164) hx hb dX2_parse_105 (by decide) (fun h105 => ?_) (fun h105 => ?_)
          · rw [if_neg h105] at hf
            refine lv_iconst (v := 0) hx hb dX2_parse_164 (by decide) ?_
            exact hret _ _ _ _ _ _ rfl hf hP hS dX2_parse_165
          · rw [if_pos h105] at hf
            exact L108 _  _ _ _ hP hS (lv_sub hl [0, 1, 2] rfl) hf
  · rw [if_pos h7] at hf
    refine lv_iconst (v := 0) hx hb dX2_parse_10 (by decide) ?_
    exact hret _ _ _ _ _ _ rfl hf hP hS dX2_parse_11
def f_X2_sizesFit (σ : SD) : Option (Int32 × SD) := if (0 : Int32) < (lg_cmp (σ.2.1 1) 1500) then (some (0, σ)) else (if (σ.1 12 0) = 0 then (if (lg_cmp (σ.2.1 0) (σ.2.1 1)) = 0 then (some (1, σ)) else (some (0, σ))) else (some (1, σ)))
def rm_X2_sizesFit : Room := { frames := 0, cells := 0, slots := 0, locals := 0 }
set_option maxHeartbeats 4000000 in
set_option maxRecDepth 100000 in
theorem met_X2_sizesFit (l : Launch) (dC : Nat → ClassId) (dI : Nat → Nat → Nat) (cyI cyE : ClassId) (tC : Nat) (ad : Nat → Nat) (σ : SD) (res : Int32 × SD) (hf : f_X2_sizesFit σ = some res) : ax_Mi l dC dI cyI cyE tC 77 (cD cyI cyE ad) ad yX2_sizesFit cX2_sizesFit 1 (some .boolean) rm_X2_sizesFit [.ref (ad 73)] σ res.1 res.2 := by
  intro sz
  refine Met.ofW (cc := cX2_sizesFit) (maxL := 1) (ret := (some .boolean)) (by decide) rfl ?_
  intro p e s m args below meth c s₁ B hml hv
  obtain ⟨hargs, hsz, hP, hJ, hE⟩ := hv
  subst hsz
  have hx := B.exec
  have hb := B.bytes
  have hr := B.returns
  have hlocks := B.notSynchronized
  have hts := atoms_spec (ws := wsY yX2_sizesFit cX2_sizesFit 1 (some .boolean)) B.pre
  have hown : s.vm.findClass RX2 = some m.cls := findClass_of_methodNamed B.named
  have C0 : CallFix p m c cX2_sizesFit 1 s args (wsY yX2_sizesFit cX2_sizesFit 1 (some .boolean)) RX2 := ⟨hx, hb, hml, hown, hts⟩
  have hT : ∀ w ∈ bw, w ∈ wsY yX2_sizesFit cX2_sizesFit 1 (some .boolean) := fun w h => List.mem_cons_of_mem _ h
  have hS : va_S (ax_A 77 ad s.heap.size) s.heap s.heap [] := va_S.rf
  rw [show entryFrame m args 1 = entryFrame m ([.ref (ad 73)] : List Value).toArray 1 by rw [hargs]]
  have hl := lv_entry ([.ref (ad 73)]) (n := 1) (Nat.le_of_ble_eq_true rfl)
  rw [lg_entry_eq]
  generalize (lg_sl ([.ref (ad 73)]) ++ List.replicate (1 - (lg_sl ([.ref (ad 73)])).length) Slot.unset).toArray = ls at hl ⊢
  have hl : lv_has ls 1 [(0, .ref (ad 73))] := hl
  obtain ⟨Q, hQ⟩ : ∃ Q : State → Prop, Q = MQ below (va_Qi (fun (a : Int32) (u : SD) => a = res.1 ∧ u = res.2) (ax_B dC dI 77 (cD cyI cyE ad) ad) (ax_A 77 ad s.heap.size)) args s 0 0 (ax_A 77 ad s.heap.size) := ⟨_, rfl⟩
  show W p l e rm_X2_sizesFit s m args below meth c s.heap [] 0 0 _ _
  rw [← hQ]
  have hret : ∀ (v : Int32) (σ : SD) (H : Heap) (locs : List Loc) (ls : Array Slot) (pc : Nat), narrow .boolean (.int v) = .int v → some (v, σ) = some res → va_P (dC, dI) vwCl (ax_w 77 ad (cD cyI cyE ad σ)) H → va_S (ax_A 77 ad s.heap.size) s.heap H locs → decode cX2_sizesFit pc = .ok (.ireturn, 1) → W p l e rm_X2_sizesFit s m args below meth c H locs 0 0 Q (F0 m pc ls [.int v]) := by
    intro v σ H locs ls pc hn hf hP hS hd
    cases hf
    rw [hQ]
    exact ax_iret hx hb hr hlocks hn hP hS hd rfl rfl
  unfold f_X2_sizesFit at hf
  refine lv_aload_n hx hb dX2_sizesFit_0 rfl (lv_at hl 0 rfl) ?_
  refine g_Header_size C0 hT hE hP mf_X2_36 dX2_sizesFit_1 ?_
  refine lv_ldc2 (own := RX2) (v := 1500) hx hb hown (C0.2.2.2.2 _ (hT _ mk_X2_42)) dX2_sizesFit_4 ?_
  refine W.lcmp hx hb dX2_sizesFit_7 ?_
  refine lv_if_gt (tgt := 34) hx hb dX2_sizesFit_8 (by decide) (fun h8 => ?_) (fun h8 => ?_)
  · rw [if_pos h8] at hf
    refine lv_iconst (v := 0) hx hb dX2_sizesFit_34 (by decide) ?_
    exact hret _ _ _ _ _ _ rfl hf hP hS dX2_sizesFit_35
  · rw [if_neg h8] at hf
    refine lv_aload_n hx hb dX2_sizesFit_11 rfl (lv_at hl 0 rfl) ?_
    refine g_Header_method C0 hT hE hP mf_X2_19 dX2_sizesFit_12 ?_
    refine lv_if_ne (tgt := 30) hx hb dX2_sizesFit_15 (by decide) (fun h15 => ?_) (fun h15 => ?_)
    · rw [if_neg h15] at hf
      refine lv_iconst (v := 1) hx hb dX2_sizesFit_30 (by decide) ?_
      refine lv_goto (tgt := 35) hx hb dX2_sizesFit_31 (by decide) ?_
      exact hret _ _ _ _ _ _ rfl hf hP hS dX2_sizesFit_35
    · rw [if_pos h15] at hf
      refine lv_aload_n hx hb dX2_sizesFit_18 rfl (lv_at hl 0 rfl) ?_
      refine g_Header_packed C0 hT hE hP mf_X2_32 dX2_sizesFit_19 ?_
      refine lv_aload_n hx hb dX2_sizesFit_22 rfl (lv_at hl 0 rfl) ?_
      refine g_Header_size C0 hT hE hP mf_X2_36 dX2_sizesFit_23 ?_
      refine W.lcmp hx hb dX2_sizesFit_26 ?_
      refine lv_if_ne (tgt := 34) hx hb dX2_sizesFit_27 (by decide) (fun h27 => ?_) (fun h27 => ?_)
      · rw [if_neg h27] at hf
        refine lv_iconst (v := 0) hx hb dX2_sizesFit_34 (by decide) ?_
        exact hret _ _ _ _ _ _ rfl hf hP hS dX2_sizesFit_35
      · rw [if_pos h27] at hf
        refine lv_iconst (v := 1) hx hb dX2_sizesFit_30 (by decide) ?_
        refine lv_goto (tgt := 35) hx hb dX2_sizesFit_31 (by decide) ?_
        exact hret _ _ _ _ _ _ rfl hf hP hS dX2_sizesFit_35
def f_X3_faultNumber (σ : SD) : Option (Int32 × SD) := some (σ.1 9 0, σ)
def rm_X3_faultNumber : Room := { frames := 0, cells := 0, slots := 0, locals := 0 }
set_option maxHeartbeats 4000000 in
set_option maxRecDepth 100000 in
theorem met_X3_faultNumber (l : Launch) (dC : Nat → ClassId) (dI : Nat → Nat → Nat) (cyI cyE : ClassId) (tC : Nat) (ad : Nat → Nat) (σ : SD) (res : Int32 × SD) (hf : f_X3_faultNumber σ = some res) : ax_Mi l dC dI cyI cyE tC 77 (cD cyI cyE ad) ad yX3_faultNumber cX3_faultNumber 1 (some .int) rm_X3_faultNumber [.ref (ad 74)] σ res.1 res.2 := by
  intro sz
  refine Met.ofW (cc := cX3_faultNumber) (maxL := 1) (ret := (some .int)) (by decide) rfl ?_
  intro p e s m args below meth c s₁ B hml hv
  obtain ⟨hargs, hsz, hP, hJ, hE⟩ := hv
  subst hsz
  have hx := B.exec
  have hb := B.bytes
  have hr := B.returns
  have hlocks := B.notSynchronized
  have hts := atoms_spec (ws := wsY yX3_faultNumber cX3_faultNumber 1 (some .int)) B.pre
  have hown : s.vm.findClass RX3 = some m.cls := findClass_of_methodNamed B.named
  have C0 : CallFix p m c cX3_faultNumber 1 s args (wsY yX3_faultNumber cX3_faultNumber 1 (some .int)) RX3 := ⟨hx, hb, hml, hown, hts⟩
  have hT : ∀ w ∈ bw, w ∈ wsY yX3_faultNumber cX3_faultNumber 1 (some .int) := fun w h => List.mem_cons_of_mem _ h
  have hS : va_S (ax_A 77 ad s.heap.size) s.heap s.heap [] := va_S.rf
  rw [show entryFrame m args 1 = entryFrame m ([.ref (ad 74)] : List Value).toArray 1 by rw [hargs]]
  have hl := lv_entry ([.ref (ad 74)]) (n := 1) (Nat.le_of_ble_eq_true rfl)
  rw [lg_entry_eq]
  generalize (lg_sl ([.ref (ad 74)]) ++ List.replicate (1 - (lg_sl ([.ref (ad 74)])).length) Slot.unset).toArray = ls at hl ⊢
  have hl : lv_has ls 1 [(0, .ref (ad 74))] := hl
  obtain ⟨Q, hQ⟩ : ∃ Q : State → Prop, Q = MQ below (va_Qi (fun (a : Int32) (u : SD) => a = res.1 ∧ u = res.2) (ax_B dC dI 77 (cD cyI cyE ad) ad) (ax_A 77 ad s.heap.size)) args s 0 0 (ax_A 77 ad s.heap.size) := ⟨_, rfl⟩
  show W p l e rm_X3_faultNumber s m args below meth c s.heap [] 0 0 _ _
  rw [← hQ]
  have hret : ∀ (v : Int32) (σ : SD) (H : Heap) (locs : List Loc) (ls : Array Slot) (pc : Nat), narrow .int (.int v) = .int v → some (v, σ) = some res → va_P (dC, dI) vwCl (ax_w 77 ad (cD cyI cyE ad σ)) H → va_S (ax_A 77 ad s.heap.size) s.heap H locs → decode cX3_faultNumber pc = .ok (.ireturn, 1) → W p l e rm_X3_faultNumber s m args below meth c H locs 0 0 Q (F0 m pc ls [.int v]) := by
    intro v σ H locs ls pc hn hf hP hS hd
    cases hf
    rw [hQ]
    exact ax_iret hx hb hr hlocks hn hP hS hd rfl rfl
  unfold f_X3_faultNumber at hf
  refine lv_aload_n hx hb dX3_faultNumber_0 rfl (lv_at hl 0 rfl) ?_
  refine g_Reader_faultNumber C0 hT hE hP mf_X3_34 dX3_faultNumber_1 ?_
  exact hret _ _ _ _ _ _ rfl hf hP hS dX3_faultNumber_4
def f_X3_faultFile (σ : SD) : Option (Int32 × SD) := some (σ.1 10 0, σ)
def rm_X3_faultFile : Room := { frames := 0, cells := 0, slots := 0, locals := 0 }
set_option maxHeartbeats 4000000 in
set_option maxRecDepth 100000 in
theorem met_X3_faultFile (l : Launch) (dC : Nat → ClassId) (dI : Nat → Nat → Nat) (cyI cyE : ClassId) (tC : Nat) (ad : Nat → Nat) (σ : SD) (res : Int32 × SD) (hf : f_X3_faultFile σ = some res) : ax_Mi l dC dI cyI cyE tC 77 (cD cyI cyE ad) ad yX3_faultFile cX3_faultFile 1 (some .int) rm_X3_faultFile [.ref (ad 74)] σ res.1 res.2 := by
  intro sz
  refine Met.ofW (cc := cX3_faultFile) (maxL := 1) (ret := (some .int)) (by decide) rfl ?_
  intro p e s m args below meth c s₁ B hml hv
  obtain ⟨hargs, hsz, hP, hJ, hE⟩ := hv
  subst hsz
  have hx := B.exec
  have hb := B.bytes
  have hr := B.returns
  have hlocks := B.notSynchronized
  have hts := atoms_spec (ws := wsY yX3_faultFile cX3_faultFile 1 (some .int)) B.pre
  have hown : s.vm.findClass RX3 = some m.cls := findClass_of_methodNamed B.named
  have C0 : CallFix p m c cX3_faultFile 1 s args (wsY yX3_faultFile cX3_faultFile 1 (some .int)) RX3 := ⟨hx, hb, hml, hown, hts⟩
  have hT : ∀ w ∈ bw, w ∈ wsY yX3_faultFile cX3_faultFile 1 (some .int) := fun w h => List.mem_cons_of_mem _ h
  have hS : va_S (ax_A 77 ad s.heap.size) s.heap s.heap [] := va_S.rf
  rw [show entryFrame m args 1 = entryFrame m ([.ref (ad 74)] : List Value).toArray 1 by rw [hargs]]
  have hl := lv_entry ([.ref (ad 74)]) (n := 1) (Nat.le_of_ble_eq_true rfl)
  rw [lg_entry_eq]
  generalize (lg_sl ([.ref (ad 74)]) ++ List.replicate (1 - (lg_sl ([.ref (ad 74)])).length) Slot.unset).toArray = ls at hl ⊢
  have hl : lv_has ls 1 [(0, .ref (ad 74))] := hl
  obtain ⟨Q, hQ⟩ : ∃ Q : State → Prop, Q = MQ below (va_Qi (fun (a : Int32) (u : SD) => a = res.1 ∧ u = res.2) (ax_B dC dI 77 (cD cyI cyE ad) ad) (ax_A 77 ad s.heap.size)) args s 0 0 (ax_A 77 ad s.heap.size) := ⟨_, rfl⟩
  show W p l e rm_X3_faultFile s m args below meth c s.heap [] 0 0 _ _
  rw [← hQ]
  have hret : ∀ (v : Int32) (σ : SD) (H : Heap) (locs : List Loc) (ls : Array Slot) (pc : Nat), narrow .int (.int v) = .int v → some (v, σ) = some res → va_P (dC, dI) vwCl (ax_w 77 ad (cD cyI cyE ad σ)) H → va_S (ax_A 77 ad s.heap.size) s.heap H locs → decode cX3_faultFile pc = .ok (.ireturn, 1) → W p l e rm_X3_faultFile s m args below meth c H locs 0 0 Q (F0 m pc ls [.int v]) := by
    intro v σ H locs ls pc hn hf hP hS hd
    cases hf
    rw [hQ]
    exact ax_iret hx hb hr hlocks hn hP hS hd rfl rfl
  unfold f_X3_faultFile at hf
  refine lv_aload_n hx hb dX3_faultFile_0 rfl (lv_at hl 0 rfl) ?_
  refine g_Reader_faultFile C0 hT hE hP mf_X3_38 dX3_faultFile_1 ?_
  exact hret _ _ _ _ _ _ rfl hf hP hS dX3_faultFile_4
def f_X3_faultPlace (σ : SD) : Option (Int32 × SD) := some (σ.1 11 0, σ)
def rm_X3_faultPlace : Room := { frames := 0, cells := 0, slots := 0, locals := 0 }
set_option maxHeartbeats 4000000 in
set_option maxRecDepth 100000 in
theorem met_X3_faultPlace (l : Launch) (dC : Nat → ClassId) (dI : Nat → Nat → Nat) (cyI cyE : ClassId) (tC : Nat) (ad : Nat → Nat) (σ : SD) (res : Int32 × SD) (hf : f_X3_faultPlace σ = some res) : ax_Mi l dC dI cyI cyE tC 77 (cD cyI cyE ad) ad yX3_faultPlace cX3_faultPlace 1 (some .int) rm_X3_faultPlace [.ref (ad 74)] σ res.1 res.2 := by
  intro sz
  refine Met.ofW (cc := cX3_faultPlace) (maxL := 1) (ret := (some .int)) (by decide) rfl ?_
  intro p e s m args below meth c s₁ B hml hv
  obtain ⟨hargs, hsz, hP, hJ, hE⟩ := hv
  subst hsz
  have hx := B.exec
  have hb := B.bytes
  have hr := B.returns
  have hlocks := B.notSynchronized
  have hts := atoms_spec (ws := wsY yX3_faultPlace cX3_faultPlace 1 (some .int)) B.pre
  have hown : s.vm.findClass RX3 = some m.cls := findClass_of_methodNamed B.named
  have C0 : CallFix p m c cX3_faultPlace 1 s args (wsY yX3_faultPlace cX3_faultPlace 1 (some .int)) RX3 := ⟨hx, hb, hml, hown, hts⟩
  have hT : ∀ w ∈ bw, w ∈ wsY yX3_faultPlace cX3_faultPlace 1 (some .int) := fun w h => List.mem_cons_of_mem _ h
  have hS : va_S (ax_A 77 ad s.heap.size) s.heap s.heap [] := va_S.rf
  rw [show entryFrame m args 1 = entryFrame m ([.ref (ad 74)] : List Value).toArray 1 by rw [hargs]]
  have hl := lv_entry ([.ref (ad 74)]) (n := 1) (Nat.le_of_ble_eq_true rfl)
  rw [lg_entry_eq]
  generalize (lg_sl ([.ref (ad 74)]) ++ List.replicate (1 - (lg_sl ([.ref (ad 74)])).length) Slot.unset).toArray = ls at hl ⊢
  have hl : lv_has ls 1 [(0, .ref (ad 74))] := hl
  obtain ⟨Q, hQ⟩ : ∃ Q : State → Prop, Q = MQ below (va_Qi (fun (a : Int32) (u : SD) => a = res.1 ∧ u = res.2) (ax_B dC dI 77 (cD cyI cyE ad) ad) (ax_A 77 ad s.heap.size)) args s 0 0 (ax_A 77 ad s.heap.size) := ⟨_, rfl⟩
  show W p l e rm_X3_faultPlace s m args below meth c s.heap [] 0 0 _ _
  rw [← hQ]
  have hret : ∀ (v : Int32) (σ : SD) (H : Heap) (locs : List Loc) (ls : Array Slot) (pc : Nat), narrow .int (.int v) = .int v → some (v, σ) = some res → va_P (dC, dI) vwCl (ax_w 77 ad (cD cyI cyE ad σ)) H → va_S (ax_A 77 ad s.heap.size) s.heap H locs → decode cX3_faultPlace pc = .ok (.ireturn, 1) → W p l e rm_X3_faultPlace s m args below meth c H locs 0 0 Q (F0 m pc ls [.int v]) := by
    intro v σ H locs ls pc hn hf hP hS hd
    cases hf
    rw [hQ]
    exact ax_iret hx hb hr hlocks hn hP hS hd rfl rfl
  unfold f_X3_faultPlace at hf
  refine lv_aload_n hx hb dX3_faultPlace_0 rfl (lv_at hl 0 rfl) ?_
  refine g_Reader_faultPlace C0 hT hE hP mf_X3_41 dX3_faultPlace_1 ?_
  exact hret _ _ _ _ _ _ rfl hf hP hS dX3_faultPlace_4
def f_X3_nameSize (σ : SD) : Option (Int32 × SD) := some (σ.1 14 0, σ)
def rm_X3_nameSize : Room := { frames := 0, cells := 0, slots := 0, locals := 0 }
set_option maxHeartbeats 4000000 in
set_option maxRecDepth 100000 in
theorem met_X3_nameSize (l : Launch) (dC : Nat → ClassId) (dI : Nat → Nat → Nat) (cyI cyE : ClassId) (tC : Nat) (ad : Nat → Nat) (σ : SD) (res : Int32 × SD) (hf : f_X3_nameSize σ = some res) : ax_Mi l dC dI cyI cyE tC 77 (cD cyI cyE ad) ad yX3_nameSize cX3_nameSize 1 (some .int) rm_X3_nameSize [.ref (ad 74)] σ res.1 res.2 := by
  intro sz
  refine Met.ofW (cc := cX3_nameSize) (maxL := 1) (ret := (some .int)) (by decide) rfl ?_
  intro p e s m args below meth c s₁ B hml hv
  obtain ⟨hargs, hsz, hP, hJ, hE⟩ := hv
  subst hsz
  have hx := B.exec
  have hb := B.bytes
  have hr := B.returns
  have hlocks := B.notSynchronized
  have hts := atoms_spec (ws := wsY yX3_nameSize cX3_nameSize 1 (some .int)) B.pre
  have hown : s.vm.findClass RX3 = some m.cls := findClass_of_methodNamed B.named
  have C0 : CallFix p m c cX3_nameSize 1 s args (wsY yX3_nameSize cX3_nameSize 1 (some .int)) RX3 := ⟨hx, hb, hml, hown, hts⟩
  have hT : ∀ w ∈ bw, w ∈ wsY yX3_nameSize cX3_nameSize 1 (some .int) := fun w h => List.mem_cons_of_mem _ h
  have hS : va_S (ax_A 77 ad s.heap.size) s.heap s.heap [] := va_S.rf
  rw [show entryFrame m args 1 = entryFrame m ([.ref (ad 74)] : List Value).toArray 1 by rw [hargs]]
  have hl := lv_entry ([.ref (ad 74)]) (n := 1) (Nat.le_of_ble_eq_true rfl)
  rw [lg_entry_eq]
  generalize (lg_sl ([.ref (ad 74)]) ++ List.replicate (1 - (lg_sl ([.ref (ad 74)])).length) Slot.unset).toArray = ls at hl ⊢
  have hl : lv_has ls 1 [(0, .ref (ad 74))] := hl
  obtain ⟨Q, hQ⟩ : ∃ Q : State → Prop, Q = MQ below (va_Qi (fun (a : Int32) (u : SD) => a = res.1 ∧ u = res.2) (ax_B dC dI 77 (cD cyI cyE ad) ad) (ax_A 77 ad s.heap.size)) args s 0 0 (ax_A 77 ad s.heap.size) := ⟨_, rfl⟩
  show W p l e rm_X3_nameSize s m args below meth c s.heap [] 0 0 _ _
  rw [← hQ]
  have hret : ∀ (v : Int32) (σ : SD) (H : Heap) (locs : List Loc) (ls : Array Slot) (pc : Nat), narrow .int (.int v) = .int v → some (v, σ) = some res → va_P (dC, dI) vwCl (ax_w 77 ad (cD cyI cyE ad σ)) H → va_S (ax_A 77 ad s.heap.size) s.heap H locs → decode cX3_nameSize pc = .ok (.ireturn, 1) → W p l e rm_X3_nameSize s m args below meth c H locs 0 0 Q (F0 m pc ls [.int v]) := by
    intro v σ H locs ls pc hn hf hP hS hd
    cases hf
    rw [hQ]
    exact ax_iret hx hb hr hlocks hn hP hS hd rfl rfl
  unfold f_X3_nameSize at hf
  refine lv_aload_n hx hb dX3_nameSize_0 rfl (lv_at hl 0 rfl) ?_
  refine g_Reader_header C0 hT hE hP mf_X3_21 dX3_nameSize_1 ?_
  refine gN_Header_nameSize C0 hT hE hP (by decide) dX3_nameSize_4 ?_
  exact hret _ _ _ _ _ _ rfl hf hP hS dX3_nameSize_7
def f_X3_packedSize (σ : SD) : Option (Int32 × SD) := some ((σ.2.1 0).toInt32, σ)
def rm_X3_packedSize : Room := { frames := 0, cells := 0, slots := 0, locals := 0 }
set_option maxHeartbeats 4000000 in
set_option maxRecDepth 100000 in
theorem met_X3_packedSize (l : Launch) (dC : Nat → ClassId) (dI : Nat → Nat → Nat) (cyI cyE : ClassId) (tC : Nat) (ad : Nat → Nat) (σ : SD) (res : Int32 × SD) (hf : f_X3_packedSize σ = some res) : ax_Mi l dC dI cyI cyE tC 77 (cD cyI cyE ad) ad yX3_packedSize cX3_packedSize 1 (some .int) rm_X3_packedSize [.ref (ad 74)] σ res.1 res.2 := by
  intro sz
  refine Met.ofW (cc := cX3_packedSize) (maxL := 1) (ret := (some .int)) (by decide) rfl ?_
  intro p e s m args below meth c s₁ B hml hv
  obtain ⟨hargs, hsz, hP, hJ, hE⟩ := hv
  subst hsz
  have hx := B.exec
  have hb := B.bytes
  have hr := B.returns
  have hlocks := B.notSynchronized
  have hts := atoms_spec (ws := wsY yX3_packedSize cX3_packedSize 1 (some .int)) B.pre
  have hown : s.vm.findClass RX3 = some m.cls := findClass_of_methodNamed B.named
  have C0 : CallFix p m c cX3_packedSize 1 s args (wsY yX3_packedSize cX3_packedSize 1 (some .int)) RX3 := ⟨hx, hb, hml, hown, hts⟩
  have hT : ∀ w ∈ bw, w ∈ wsY yX3_packedSize cX3_packedSize 1 (some .int) := fun w h => List.mem_cons_of_mem _ h
  have hS : va_S (ax_A 77 ad s.heap.size) s.heap s.heap [] := va_S.rf
  rw [show entryFrame m args 1 = entryFrame m ([.ref (ad 74)] : List Value).toArray 1 by rw [hargs]]
  have hl := lv_entry ([.ref (ad 74)]) (n := 1) (Nat.le_of_ble_eq_true rfl)
  rw [lg_entry_eq]
  generalize (lg_sl ([.ref (ad 74)]) ++ List.replicate (1 - (lg_sl ([.ref (ad 74)])).length) Slot.unset).toArray = ls at hl ⊢
  have hl : lv_has ls 1 [(0, .ref (ad 74))] := hl
  obtain ⟨Q, hQ⟩ : ∃ Q : State → Prop, Q = MQ below (va_Qi (fun (a : Int32) (u : SD) => a = res.1 ∧ u = res.2) (ax_B dC dI 77 (cD cyI cyE ad) ad) (ax_A 77 ad s.heap.size)) args s 0 0 (ax_A 77 ad s.heap.size) := ⟨_, rfl⟩
  show W p l e rm_X3_packedSize s m args below meth c s.heap [] 0 0 _ _
  rw [← hQ]
  have hret : ∀ (v : Int32) (σ : SD) (H : Heap) (locs : List Loc) (ls : Array Slot) (pc : Nat), narrow .int (.int v) = .int v → some (v, σ) = some res → va_P (dC, dI) vwCl (ax_w 77 ad (cD cyI cyE ad σ)) H → va_S (ax_A 77 ad s.heap.size) s.heap H locs → decode cX3_packedSize pc = .ok (.ireturn, 1) → W p l e rm_X3_packedSize s m args below meth c H locs 0 0 Q (F0 m pc ls [.int v]) := by
    intro v σ H locs ls pc hn hf hP hS hd
    cases hf
    rw [hQ]
    exact ax_iret hx hb hr hlocks hn hP hS hd rfl rfl
  unfold f_X3_packedSize at hf
  refine lv_aload_n hx hb dX3_packedSize_0 rfl (lv_at hl 0 rfl) ?_
  refine g_Reader_header C0 hT hE hP mf_X3_21 dX3_packedSize_1 ?_
  refine gN_Header_packed C0 hT hE hP (by decide) dX3_packedSize_4 ?_
  refine lv_l2i hx hb dX3_packedSize_7 rfl ?_
  exact hret _ _ _ _ _ _ rfl hf hP hS dX3_packedSize_8
def f_X3_unpacked (σ : SD) : Option (Nat × SD) := some (4, σ)
def rm_X3_unpacked : Room := { frames := 0, cells := 0, slots := 0, locals := 0 }
set_option maxHeartbeats 4000000 in
set_option maxRecDepth 100000 in
theorem met_X3_unpacked (l : Launch) (dC : Nat → ClassId) (dI : Nat → Nat → Nat) (cyI cyE : ClassId) (tC : Nat) (ad : Nat → Nat) (σ : SD) (res : Nat × SD) (hf : f_X3_unpacked σ = some res) : ax_Mq l dC dI cyI cyE tC 77 (cD cyI cyE ad) ad yX3_unpacked cX3_unpacked 1 (some (.object "ArchiveDesk$Row")) rm_X3_unpacked [.ref (ad 74)] σ (some (ad res.1)) res.2 := by
  intro sz
  refine Met.ofW (cc := cX3_unpacked) (maxL := 1) (ret := (some (.object "ArchiveDesk$Row"))) (by decide) rfl ?_
  intro p e s m args below meth c s₁ B hml hv
  obtain ⟨hargs, hsz, hP, hJ, hE⟩ := hv
  subst hsz
  have hx := B.exec
  have hb := B.bytes
  have hr := B.returns
  have hlocks := B.notSynchronized
  have hts := atoms_spec (ws := wsY yX3_unpacked cX3_unpacked 1 (some (.object "ArchiveDesk$Row"))) B.pre
  have hown : s.vm.findClass RX3 = some m.cls := findClass_of_methodNamed B.named
  have C0 : CallFix p m c cX3_unpacked 1 s args (wsY yX3_unpacked cX3_unpacked 1 (some (.object "ArchiveDesk$Row"))) RX3 := ⟨hx, hb, hml, hown, hts⟩
  have hT : ∀ w ∈ bw, w ∈ wsY yX3_unpacked cX3_unpacked 1 (some (.object "ArchiveDesk$Row")) := fun w h => List.mem_cons_of_mem _ h
  have hS : va_S (ax_A 77 ad s.heap.size) s.heap s.heap [] := va_S.rf
  rw [show entryFrame m args 1 = entryFrame m ([.ref (ad 74)] : List Value).toArray 1 by rw [hargs]]
  have hl := lv_entry ([.ref (ad 74)]) (n := 1) (Nat.le_of_ble_eq_true rfl)
  rw [lg_entry_eq]
  generalize (lg_sl ([.ref (ad 74)]) ++ List.replicate (1 - (lg_sl ([.ref (ad 74)])).length) Slot.unset).toArray = ls at hl ⊢
  have hl : lv_has ls 1 [(0, .ref (ad 74))] := hl
  obtain ⟨Q, hQ⟩ : ∃ Q : State → Prop, Q = MQ below (va_Qq (fun (a : Option Nat) (u : SD) => a = (some (ad res.1)) ∧ u = res.2) (ax_B dC dI 77 (cD cyI cyE ad) ad) (ax_A 77 ad s.heap.size)) args s 0 0 (ax_A 77 ad s.heap.size) := ⟨_, rfl⟩
  show W p l e rm_X3_unpacked s m args below meth c s.heap [] 0 0 _ _
  rw [← hQ]
  have hret : ∀ (v : Nat) (σ : SD) (H : Heap) (locs : List Loc) (ls : Array Slot) (pc : Nat), some (v, σ) = some res → va_P (dC, dI) vwCl (ax_w 77 ad (cD cyI cyE ad σ)) H → va_S (ax_A 77 ad s.heap.size) s.heap H locs → decode cX3_unpacked pc = .ok (.areturn, 1) → W p l e rm_X3_unpacked s m args below meth c H locs 0 0 Q (F0 m pc ls [.ref (ad v)]) := by
    intro v σ H locs ls pc hf hP hS hd
    cases hf
    rw [hQ]
    exact ax_aret hx hb hr hlocks hP hS hd rfl rfl
  unfold f_X3_unpacked at hf
  refine lv_aload_n hx hb dX3_unpacked_0 rfl (lv_at hl 0 rfl) ?_
  refine g_Reader_unpacked C0 hT hE hP mf_X3_30 dX3_unpacked_1 ?_
  exact hret _ _ _ _ _ _ hf hP hS dX3_unpacked_4
def f_X4_hasSignature (σ : SD) (r0 : Nat) (x1 : Int32) (x2 : Int32) (x3 : Int32) : Option (Int32 × SD) := (f_X4_at σ r0 x1).bind fun q2 => if q2.1 = 80 then ((f_X4_at q2.2 r0 (x1 + 1)).bind fun q14 => if q14.1 = 75 then ((f_X4_at q14.2 r0 (x1 + 2)).bind fun q26 => if q26.1 = x2 then ((f_X4_at q26.2 r0 (x1 + 3)).bind fun q37 => if q37.1 = x3 then (some (1, q37.2)) else (some (0, q37.2))) else (some (0, q26.2))) else (some (0, q14.2))) else (some (0, q2.2))
def rm_X4_hasSignature : Room := { frames := 1, cells := 0, slots := 0, locals := 21 }
set_option maxHeartbeats 4000000 in
set_option maxRecDepth 100000 in
theorem met_X4_hasSignature (l : Launch) (dC : Nat → ClassId) (dI : Nat → Nat → Nat) (cyI cyE : ClassId) (tC : Nat) (ad : Nat → Nat) (σ : SD) (r0 : Nat) (x1 : Int32) (x2 : Int32) (x3 : Int32) (hb_r0 : r0 < 25) (res : Int32 × SD) (hf : f_X4_hasSignature σ r0 x1 x2 x3 = some res) : ax_Mi l dC dI cyI cyE tC 77 (cD cyI cyE ad) ad yX4_hasSignature cX4_hasSignature 4 (some .boolean) rm_X4_hasSignature [.ref (ad r0), .int x1, .int x2, .int x3] σ res.1 res.2 := by
  intro sz
  refine Met.ofW (cc := cX4_hasSignature) (maxL := 4) (ret := (some .boolean)) (by decide) rfl ?_
  intro p e s m args below meth c s₁ B hml hv
  obtain ⟨hargs, hsz, hP, hJ, hE⟩ := hv
  subst hsz
  have hx := B.exec
  have hb := B.bytes
  have hr := B.returns
  have hlocks := B.notSynchronized
  have hts := atoms_spec (ws := wsY yX4_hasSignature cX4_hasSignature 4 (some .boolean)) B.pre
  have hown : s.vm.findClass RX4 = some m.cls := findClass_of_methodNamed B.named
  have C0 : CallFix p m c cX4_hasSignature 4 s args (wsY yX4_hasSignature cX4_hasSignature 4 (some .boolean)) RX4 := ⟨hx, hb, hml, hown, hts⟩
  have hT : ∀ w ∈ bw, w ∈ wsY yX4_hasSignature cX4_hasSignature 4 (some .boolean) := fun w h => List.mem_cons_of_mem _ h
  have hS : va_S (ax_A 77 ad s.heap.size) s.heap s.heap [] := va_S.rf
  rw [show entryFrame m args 4 = entryFrame m ([.ref (ad r0), .int x1, .int x2, .int x3] : List Value).toArray 4 by rw [hargs]]
  have hl := lv_entry ([.ref (ad r0), .int x1, .int x2, .int x3]) (n := 4) (Nat.le_of_ble_eq_true rfl)
  rw [lg_entry_eq]
  generalize (lg_sl ([.ref (ad r0), .int x1, .int x2, .int x3]) ++ List.replicate (4 - (lg_sl ([.ref (ad r0), .int x1, .int x2, .int x3])).length) Slot.unset).toArray = ls at hl ⊢
  have hl : lv_has ls 4 [(0, .ref (ad r0)), (1, .int x1), (2, .int x2), (3, .int x3)] := hl
  obtain ⟨Q, hQ⟩ : ∃ Q : State → Prop, Q = MQ below (va_Qi (fun (a : Int32) (u : SD) => a = res.1 ∧ u = res.2) (ax_B dC dI 77 (cD cyI cyE ad) ad) (ax_A 77 ad s.heap.size)) args s 0 0 (ax_A 77 ad s.heap.size) := ⟨_, rfl⟩
  show W p l e rm_X4_hasSignature s m args below meth c s.heap [] 0 0 _ _
  rw [← hQ]
  have hret : ∀ (v : Int32) (σ : SD) (H : Heap) (locs : List Loc) (ls : Array Slot) (pc : Nat), narrow .boolean (.int v) = .int v → some (v, σ) = some res → va_P (dC, dI) vwCl (ax_w 77 ad (cD cyI cyE ad σ)) H → va_S (ax_A 77 ad s.heap.size) s.heap H locs → decode cX4_hasSignature pc = .ok (.ireturn, 1) → W p l e rm_X4_hasSignature s m args below meth c H locs 0 0 Q (F0 m pc ls [.int v]) := by
    intro v σ H locs ls pc hn hf hP hS hd
    cases hf
    rw [hQ]
    exact ax_iret hx hb hr hlocks hn hP hS hd rfl rfl
  unfold f_X4_hasSignature at hf
  refine lv_aload_n hx hb dX4_hasSignature_0 rfl (lv_at hl 0 rfl) ?_
  refine lv_iload_n hx hb dX4_hasSignature_1 rfl (lv_at hl 1 rfl) ?_
  obtain ⟨q2, hq, hf⟩ := ob_bind hf
  refine ax_callVi (C := "") (b := 0) (i := r0) (k := 1) (ci := 3) [.int x1] C0 hT hJ hE (met_X4_at l dC dI cyI cyE tC ad σ r0 x1 (by omega) _ hq) hP hS mc_X4_at ml_X4_48 mi_X4_at ms_X4_at mz_X4 (by decide +kernel) ⟨rfl, rfl⟩ ⟨by decide, by decide⟩ (by omega) (cD_Row (by omega)) rfl rfl rfl hl.1 (Nat.le_of_ble_eq_true rfl) dX4_hasSignature_2 ⟨Nat.zero_le _, Nat.zero_le _⟩ (fun H locs hP hS => ?_)
  refine lv_bipush (v := 80) hx hb dX4_hasSignature_5 (by decide) ?_
  refine lv_icmp_ne (tgt := 48) hx hb dX4_hasSignature_7 (by decide) (fun h7 => ?_) (fun h7 => ?_)
  · rw [if_neg h7] at hf
    refine lv_iconst (v := 0) hx hb dX4_hasSignature_48 (by decide) ?_
    exact hret _ _ _ _ _ _ rfl hf hP hS dX4_hasSignature_49
  · rw [if_pos h7] at hf
    refine lv_aload_n hx hb dX4_hasSignature_10 rfl (lv_at hl 0 rfl) ?_
    refine lv_iload_n hx hb dX4_hasSignature_11 rfl (lv_at hl 1 rfl) ?_
    refine lv_iconst (v := 1) hx hb dX4_hasSignature_12 (by decide) ?_
    refine lv_iadd hx hb dX4_hasSignature_13 ?_
    obtain ⟨q14, hq, hf⟩ := ob_bind hf
    refine ax_callVi (C := "") (b := 0) (i := r0) (k := 1) (ci := 3) [.int (x1 + 1)] C0 hT hJ hE (met_X4_at l dC dI cyI cyE tC ad q2.2 r0 (x1 + 1) (by omega) _ hq) hP hS mc_X4_at ml_X4_48 mi_X4_at ms_X4_at mz_X4 (by decide +kernel) ⟨rfl, rfl⟩ ⟨by decide, by decide⟩ (by omega) (cD_Row (by omega)) rfl rfl rfl hl.1 (Nat.le_of_ble_eq_true rfl) dX4_hasSignature_14 ⟨Nat.zero_le _, Nat.zero_le _⟩ (fun H locs hP hS => ?_)
    refine lv_bipush (v := 75) hx hb dX4_hasSignature_17 (by decide) ?_
    refine lv_icmp_ne (tgt := 48) hx hb dX4_hasSignature_19 (by decide) (fun h19 => ?_) (fun h19 => ?_)
    · rw [if_neg h19] at hf
      refine lv_iconst (v := 0) hx hb dX4_hasSignature_48 (by decide) ?_
      exact hret _ _ _ _ _ _ rfl hf hP hS dX4_hasSignature_49
    · rw [if_pos h19] at hf
      refine lv_aload_n hx hb dX4_hasSignature_22 rfl (lv_at hl 0 rfl) ?_
      refine lv_iload_n hx hb dX4_hasSignature_23 rfl (lv_at hl 1 rfl) ?_
      refine lv_iconst (v := 2) hx hb dX4_hasSignature_24 (by decide) ?_
      refine lv_iadd hx hb dX4_hasSignature_25 ?_
      obtain ⟨q26, hq, hf⟩ := ob_bind hf
      refine ax_callVi (C := "") (b := 0) (i := r0) (k := 1) (ci := 3) [.int (x1 + 2)] C0 hT hJ hE (met_X4_at l dC dI cyI cyE tC ad q14.2 r0 (x1 + 2) (by omega) _ hq) hP hS mc_X4_at ml_X4_48 mi_X4_at ms_X4_at mz_X4 (by decide +kernel) ⟨rfl, rfl⟩ ⟨by decide, by decide⟩ (by omega) (cD_Row (by omega)) rfl rfl rfl hl.1 (Nat.le_of_ble_eq_true rfl) dX4_hasSignature_26 ⟨Nat.zero_le _, Nat.zero_le _⟩ (fun H locs hP hS => ?_)
      refine lv_iload_n hx hb dX4_hasSignature_29 rfl (lv_at hl 2 rfl) ?_
      refine lv_icmp_ne (tgt := 48) hx hb dX4_hasSignature_30 (by decide) (fun h30 => ?_) (fun h30 => ?_)
      · rw [if_neg h30] at hf
        refine lv_iconst (v := 0) hx hb dX4_hasSignature_48 (by decide) ?_
        exact hret _ _ _ _ _ _ rfl hf hP hS dX4_hasSignature_49
      · rw [if_pos h30] at hf
        refine lv_aload_n hx hb dX4_hasSignature_33 rfl (lv_at hl 0 rfl) ?_
        refine lv_iload_n hx hb dX4_hasSignature_34 rfl (lv_at hl 1 rfl) ?_
        refine lv_iconst (v := 3) hx hb dX4_hasSignature_35 (by decide) ?_
        refine lv_iadd hx hb dX4_hasSignature_36 ?_
        obtain ⟨q37, hq, hf⟩ := ob_bind hf
        refine ax_callVi (C := "") (b := 0) (i := r0) (k := 1) (ci := 3) [.int (x1 + 3)] C0 hT hJ hE (met_X4_at l dC dI cyI cyE tC ad q26.2 r0 (x1 + 3) (by omega) _ hq) hP hS mc_X4_at ml_X4_48 mi_X4_at ms_X4_at mz_X4 (by decide +kernel) ⟨rfl, rfl⟩ ⟨by decide, by decide⟩ (by omega) (cD_Row (by omega)) rfl rfl rfl hl.1 (Nat.le_of_ble_eq_true rfl) dX4_hasSignature_37 ⟨Nat.zero_le _, Nat.zero_le _⟩ (fun H locs hP hS => ?_)
        refine lv_iload_n hx hb dX4_hasSignature_40 rfl (lv_at hl 3 rfl) ?_
        refine lv_icmp_ne (tgt := 48) hx hb dX4_hasSignature_41 (by decide) (fun h41 => ?_) (fun h41 => ?_)
        · rw [if_neg h41] at hf
          refine lv_iconst (v := 0) hx hb dX4_hasSignature_48 (by decide) ?_
          exact hret _ _ _ _ _ _ rfl hf hP hS dX4_hasSignature_49
        · rw [if_pos h41] at hf
          refine lv_iconst (v := 1) hx hb dX4_hasSignature_44 (by decide) ?_
          refine lv_goto (tgt := 49) hx hb dX4_hasSignature_45 (by decide) ?_
          exact hret _ _ _ _ _ _ rfl hf hP hS dX4_hasSignature_49
