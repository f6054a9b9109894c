def f_X8_isLocal (σ : SM) (x1 : Int32) (x2 : Int32) (x3 : Int32) (x4 : Int32) : Option (Int32 × SM) := if inb x1 (capM 8) = true then ((f_X8_number σ ((σ.2 8 x1.toNatClampNeg) + 28) 2).bind fun q15 => (f_X8_is q15.2 ((σ.2 8 x1.toNatClampNeg) + 42) 4 x2).bind fun q28 => if q28.1 = 0 then (some (0, q28.2)) else (if ((x2 + 30) + q15.1) ≤ x3 then ((f_X8_isSign q28.2 x2 3 4).bind fun q51 => if q51.1 = 0 then (some (0, q51.2)) else ((f_X8_is q51.2 (x2 + 4) 2 20).bind fun q64 => if q64.1 = 0 then (some (0, q64.2)) else ((f_X8_isSame q64.2 (x2 + 6) ((σ.2 8 x1.toNatClampNeg) + 8) 22).bind fun q82 => if q82.1 = 0 then (some (0, q82.2)) else ((f_X8_is q82.2 (x2 + 28) 2 0).bind fun q95 => if q95.1 = 0 then (some (0, q95.2)) else ((f_X8_isSame q95.2 (x2 + 30) ((σ.2 8 x1.toNatClampNeg) + 46) q15.1).bind fun q113 => if q113.1 = 0 then (some (0, q113.2)) else ((f_X8_number q113.2 ((σ.2 8 x1.toNatClampNeg) + 20) 4).bind fun q138 => if x4 = 0 then (if (0 : Int32) < (lg_cmp (((x2.toInt64 + 30) + q15.1.toInt64) + q138.1.toInt64) x3.toInt64) then (some (0, q138.2)) else (some (1, q138.2))) else (if (lg_cmp (((x2.toInt64 + 30) + q15.1.toInt64) + q138.1.toInt64) x3.toInt64) = 0 then (some (1, q138.2)) else (some (0, q138.2))))))))) else (some (0, q28.2)))) else none
def rm_X8_isLocal : Room := { frames := 2, cells := 0, slots := 0, locals := 48 }
set_option maxHeartbeats 4000000 in
set_option maxRecDepth 100000 in
theorem met_X8_isLocal (l : Launch) (dC : Nat → ClassId) (dI : Nat → Nat → Nat) (cyI cyE : ClassId) (tC : Nat) (ad : Nat → Nat) (σ : SM) (x1 : Int32) (x2 : Int32) (x3 : Int32) (x4 : Int32) (res : Int32 × SM) (hf : f_X8_isLocal σ x1 x2 x3 x4 = some res) : ax_Mi l dC dI cyI cyE tC 12 (cM cyI ad) ad yX8_isLocal cX8_isLocal 9 (some .boolean) rm_X8_isLocal [.ref (ad 11), .int x1, .int x2, .int x3, .int x4] σ res.1 res.2 := by
  intro sz
  refine Met.ofW (cc := cX8_isLocal) (maxL := 9) (ret := (some .boolean)) (by decide) rfl ?_
  intro p e s m args below meth c s₁ B hml hv
  obtain ⟨hargs, hsz, hP, hJ, hE⟩ := hv
  subst hsz
  have hx := B.exec
  have hb := B.bytes
  have hr := B.returns
  have hlocks := B.notSynchronized
  have hts := atoms_spec (ws := wsY yX8_isLocal cX8_isLocal 9 (some .boolean)) B.pre
  have hown : s.vm.findClass RX8 = some m.cls := findClass_of_methodNamed B.named
  have C0 : CallFix p m c cX8_isLocal 9 s args (wsY yX8_isLocal cX8_isLocal 9 (some .boolean)) RX8 := ⟨hx, hb, hml, hown, hts⟩
  have hT : ∀ w ∈ bw, w ∈ wsY yX8_isLocal cX8_isLocal 9 (some .boolean) := fun w h => List.mem_cons_of_mem _ h
  have hS : va_S (ax_A 12 ad s.heap.size) s.heap s.heap [] := va_S.rf
  rw [show entryFrame m args 9 = entryFrame m ([.ref (ad 11), .int x1, .int x2, .int x3, .int x4] : List Value).toArray 9 by rw [hargs]]
  have hl := lv_entry ([.ref (ad 11), .int x1, .int x2, .int x3, .int x4]) (n := 9) (Nat.le_of_ble_eq_true rfl)
  rw [lg_entry_eq]
  generalize (lg_sl ([.ref (ad 11), .int x1, .int x2, .int x3, .int x4]) ++ List.replicate (9 - (lg_sl ([.ref (ad 11), .int x1, .int x2, .int x3, .int x4])).length) Slot.unset).toArray = ls at hl ⊢
  have hl : lv_has ls 9 [(0, .ref (ad 11)), (1, .int x1), (2, .int x2), (3, .int x3), (4, .int x4)] := hl
  obtain ⟨Q, hQ⟩ : ∃ Q : State → Prop, Q = MQ below (va_Qi (fun (a : Int32) (u : SM) => a = res.1 ∧ u = res.2) (ax_B dC dI 12 (cM cyI ad) ad) (ax_A 12 ad s.heap.size)) args s 0 0 (ax_A 12 ad s.heap.size) := ⟨_, rfl⟩
  show W p l e rm_X8_isLocal s m args below meth c s.heap [] 0 0 _ _
  rw [← hQ]
  have hret : ∀ (v : Int32) (σ : SM) (H : Heap) (locs : List Loc) (ls : Array Slot) (pc : Nat), narrow .boolean (.int v) = .int v → some (v, σ) = some res → va_P (dC, dI) vwCl (ax_w 12 ad (cM cyI ad σ)) H → va_S (ax_A 12 ad s.heap.size) s.heap H locs → decode cX8_isLocal pc = .ok (.ireturn, 1) → W p l e rm_X8_isLocal s m args below meth c H locs 0 0 Q (F0 m pc ls [.int v]) := by
    intro v σ H locs ls pc hn hf hP hS hd
    cases hf
    rw [hQ]
    exact ax_iret hx hb hr hlocks hn hP hS hd rfl rfl
  unfold f_X8_isLocal at hf
  refine lv_aload_n hx hb dX8_isLocal_0 rfl (lv_at hl 0 rfl) ?_
  refine g_Model_centralAt C0 hT hE hP mf_X8_41 dX8_isLocal_1 ?_
  refine lv_iload_n hx hb dX8_isLocal_4 rfl (lv_at hl 1 rfl) ?_
  obtain ⟨hin, hf⟩ := ob_if hf
  refine aM_ld (a := 8) (by decide) C0 hT hE hP (inb_in hin) dX8_isLocal_5 ?_
  refine lv_istore (lv' := [(5, .int (σ.2 8 x1.toNatClampNeg)), (0, .ref (ad 11)), (1, .int x1), (2, .int x2), (3, .int x3), (4, .int x4)]) hx hb dX8_isLocal_6 hl (by decide) rfl (fun ls hl => ?_)
  refine lv_aload_n hx hb dX8_isLocal_8 rfl (lv_at hl 1 rfl) ?_
  refine lv_iload hx hb dX8_isLocal_9 (lv_at hl 0 rfl) ?_
  refine lv_bipush (v := 28) hx hb dX8_isLocal_11 (by decide) ?_
  refine lv_iadd hx hb dX8_isLocal_13 ?_
  refine lv_iconst (v := 2) hx hb dX8_isLocal_14 (by decide) ?_
  obtain ⟨q15, hq, hf⟩ := ob_bind hf
  refine ax_callVi (C := "") (b := 0) (i := 11) (k := 2) (ci := 6) [.int ((σ.2 8 x1.toNatClampNeg) + 28), .int 2] C0 hT hJ hE (met_X8_number l dC dI cyI cyE tC ad σ ((σ.2 8 x1.toNatClampNeg) + 28) 2 _ hq) hP hS mc_X8_number ml_X8_135 mi_X8_number ms_X8_number mz_X8 (by decide +kernel) ⟨rfl, rfl⟩ ⟨by decide, by decide⟩ (by decide) cM_O rfl rfl rfl hl.1 (Nat.le_of_ble_eq_true rfl) dX8_isLocal_15 ⟨Nat.zero_le _, Nat.zero_le _⟩ (fun H locs hP hS => ?_)
  refine lv_istore (lv' := [(6, .int q15.1), (5, .int (σ.2 8 x1.toNatClampNeg)), (0, .ref (ad 11)), (1, .int x1), (2, .int x2), (3, .int x3), (4, .int x4)]) hx hb dX8_isLocal_18 hl (by decide) rfl (fun ls hl => ?_)
  refine lv_aload_n hx hb dX8_isLocal_20 rfl (lv_at hl 2 rfl) ?_
  refine lv_iload hx hb dX8_isLocal_21 (lv_at hl 1 rfl) ?_
  refine lv_bipush (v := 42) hx hb dX8_isLocal_23 (by decide) ?_
  refine lv_iadd hx hb dX8_isLocal_25 ?_
  refine lv_iconst (v := 4) hx hb dX8_isLocal_26 (by decide) ?_
  refine lv_iload_n hx hb dX8_isLocal_27 rfl (lv_at hl 4 rfl) ?_
  obtain ⟨q28, hq, hf⟩ := ob_bind hf
  refine ax_callVi (C := "") (b := 0) (i := 11) (k := 3) (ci := 6) [.int ((σ.2 8 x1.toNatClampNeg) + 42), .int 4, .int x2] C0 hT hJ hE (met_X8_is l dC dI cyI cyE tC ad q15.2 ((σ.2 8 x1.toNatClampNeg) + 42) 4 x2 _ hq) hP hS mc_X8_is ml_X8_141 mi_X8_is ms_X8_is mz_X8 (by decide +kernel) ⟨rfl, rfl⟩ ⟨by decide, by decide⟩ (by decide) cM_O rfl rfl rfl hl.1 (Nat.le_of_ble_eq_true rfl) dX8_isLocal_28 ⟨Nat.zero_le _, Nat.zero_le _⟩ (fun H locs hP hS => ?_)
  refine lv_if_eq (tgt := 45) hx hb dX8_isLocal_31 (by decide) (fun h31 => ?_) (fun h31 => ?_)
  · rw [if_pos h31] at hf
    refine lv_iconst (v := 0) hx hb dX8_isLocal_45 (by decide) ?_
    exact hret _ _ _ _ _ _ rfl hf hP hS dX8_isLocal_46
  · rw [if_neg h31] at hf
    refine lv_iload_n hx hb dX8_isLocal_34 rfl (lv_at hl 4 rfl) ?_
    refine lv_bipush (v := 30) hx hb dX8_isLocal_35 (by decide) ?_
    refine lv_iadd hx hb dX8_isLocal_37 ?_
    refine lv_iload hx hb dX8_isLocal_38 (lv_at hl 0 rfl) ?_
    refine lv_iadd hx hb dX8_isLocal_40 ?_
    refine lv_iload_n hx hb dX8_isLocal_41 rfl (lv_at hl 5 rfl) ?_
    refine lv_icmp_le (tgt := 47) hx hb dX8_isLocal_42 (by decide) (fun h42 => ?_) (fun h42 => ?_)
    · rw [if_pos h42] at hf
      refine lv_aload_n hx hb dX8_isLocal_47 rfl (lv_at hl 2 rfl) ?_
      refine lv_iload_n hx hb dX8_isLocal_48 rfl (lv_at hl 4 rfl) ?_
      refine lv_iconst (v := 3) hx hb dX8_isLocal_49 (by decide) ?_
      refine lv_iconst (v := 4) hx hb dX8_isLocal_50 (by decide) ?_
      obtain ⟨q51, hq, hf⟩ := ob_bind hf
      refine ax_callVi (C := "") (b := 0) (i := 11) (k := 3) (ci := 6) [.int x2, .int 3, .int 4] C0 hT hJ hE (met_X8_isSign l dC dI cyI cyE tC ad q28.2 x2 3 4 _ hq) hP hS mc_X8_isSign ml_X8_145 mi_X8_isSign ms_X8_isSign mz_X8 (by decide +kernel) ⟨rfl, rfl⟩ ⟨by decide, by decide⟩ (by decide) cM_O rfl rfl rfl hl.1 (Nat.le_of_ble_eq_true rfl) dX8_isLocal_51 ⟨Nat.zero_le _, Nat.zero_le _⟩ (fun H locs hP hS => ?_)
      refine lv_if_eq (tgt := 119) hx hb dX8_isLocal_54 (by decide) (fun h54 => ?_) (fun h54 => ?_)
      · rw [if_pos h54] at hf
        refine lv_iconst (v := 0) hx hb dX8_isLocal_119 (by decide) ?_
        exact hret _ _ _ _ _ _ rfl hf hP hS dX8_isLocal_120
      · rw [if_neg h54] at hf
        refine lv_aload_n hx hb dX8_isLocal_57 rfl (lv_at hl 2 rfl) ?_
        refine lv_iload_n hx hb dX8_isLocal_58 rfl (lv_at hl 4 rfl) ?_
        refine lv_iconst (v := 4) hx hb dX8_isLocal_59 (by decide) ?_
        refine lv_iadd hx hb dX8_isLocal_60 ?_
        refine lv_iconst (v := 2) hx hb dX8_isLocal_61 (by decide) ?_
        refine lv_bipush (v := 20) hx hb dX8_isLocal_62 (by decide) ?_
        obtain ⟨q64, hq, hf⟩ := ob_bind hf
        refine ax_callVi (C := "") (b := 0) (i := 11) (k := 3) (ci := 6) [.int (x2 + 4), .int 2, .int 20] C0 hT hJ hE (met_X8_is l dC dI cyI cyE tC ad q51.2 (x2 + 4) 2 20 _ hq) hP hS mc_X8_is ml_X8_141 mi_X8_is ms_X8_is mz_X8 (by decide +kernel) ⟨rfl, rfl⟩ ⟨by decide, by decide⟩ (by decide) cM_O rfl rfl rfl hl.1 (Nat.le_of_ble_eq_true rfl) dX8_isLocal_64 ⟨Nat.zero_le _, Nat.zero_le _⟩ (fun H locs hP hS => ?_)
        refine lv_if_eq (tgt := 119) hx hb dX8_isLocal_67 (by decide) (fun h67 => ?_) (fun h67 => ?_)
        · rw [if_pos h67] at hf
          refine lv_iconst (v := 0) hx hb dX8_isLocal_119 (by decide) ?_
          exact hret _ _ _ _ _ _ rfl hf hP hS dX8_isLocal_120
        · rw [if_neg h67] at hf
          refine lv_aload_n hx hb dX8_isLocal_70 rfl (lv_at hl 2 rfl) ?_
          refine lv_iload_n hx hb dX8_isLocal_71 rfl (lv_at hl 4 rfl) ?_
          refine lv_bipush (v := 6) hx hb dX8_isLocal_72 (by decide) ?_
          refine lv_iadd hx hb dX8_isLocal_74 ?_
          refine lv_iload hx hb dX8_isLocal_75 (lv_at hl 1 rfl) ?_
          refine lv_bipush (v := 8) hx hb dX8_isLocal_77 (by decide) ?_
          refine lv_iadd hx hb dX8_isLocal_79 ?_
          refine lv_bipush (v := 22) hx hb dX8_isLocal_80 (by decide) ?_
          obtain ⟨q82, hq, hf⟩ := ob_bind hf
          refine ax_callVi (C := "") (b := 0) (i := 11) (k := 3) (ci := 6) [.int (x2 + 6), .int ((σ.2 8 x1.toNatClampNeg) + 8), .int 22] C0 hT hJ hE (met_X8_isSame l dC dI cyI cyE tC ad q64.2 (x2 + 6) ((σ.2 8 x1.toNatClampNeg) + 8) 22 _ hq) hP hS mc_X8_isSame ml_X8_151 mi_X8_isSame ms_X8_isSame mz_X8 (by decide +kernel) ⟨rfl, rfl⟩ ⟨by decide, by decide⟩ (by decide) cM_O rfl rfl rfl hl.1 (Nat.le_of_ble_eq_true rfl) dX8_isLocal_82 ⟨Nat.zero_le _, Nat.zero_le _⟩ (fun H locs hP hS => ?_)
          refine lv_if_eq (tgt := 119) hx hb dX8_isLocal_85 (by decide) (fun h85 => ?_) (fun h85 => ?_)
          · rw [if_pos h85] at hf
            refine lv_iconst (v := 0) hx hb dX8_isLocal_119 (by decide) ?_
            exact hret _ _ _ _ _ _ rfl hf hP hS dX8_isLocal_120
          · rw [if_neg h85] at hf
            refine lv_aload_n hx hb dX8_isLocal_88 rfl (lv_at hl 2 rfl) ?_
            refine lv_iload_n hx hb dX8_isLocal_89 rfl (lv_at hl 4 rfl) ?_
            refine lv_bipush (v := 28) hx hb dX8_isLocal_90 (by decide) ?_
            refine lv_iadd hx hb dX8_isLocal_92 ?_
            refine lv_iconst (v := 2) hx hb dX8_isLocal_93 (by decide) ?_
            refine lv_iconst (v := 0) hx hb dX8_isLocal_94 (by decide) ?_
            obtain ⟨q95, hq, hf⟩ := ob_bind hf
            refine ax_callVi (C := "") (b := 0) (i := 11) (k := 3) (ci := 6) [.int (x2 + 28), .int 2, .int 0] C0 hT hJ hE (met_X8_is l dC dI cyI cyE tC ad q82.2 (x2 + 28) 2 0 _ hq) hP hS mc_X8_is ml_X8_141 mi_X8_is ms_X8_is mz_X8 (by decide +kernel) ⟨rfl, rfl⟩ ⟨by decide, by decide⟩ (by decide) cM_O rfl rfl rfl hl.1 (Nat.le_of_ble_eq_true rfl) dX8_isLocal_95 ⟨Nat.zero_le _, Nat.zero_le _⟩ (fun H locs hP hS => ?_)
            refine lv_if_eq (tgt := 119) hx hb dX8_isLocal_98 (by decide) (fun h98 => ?_) (fun h98 => ?_)
            · rw [if_pos h98] at hf
              refine lv_iconst (v := 0) hx hb dX8_isLocal_119 (by decide) ?_
              exact hret _ _ _ _ _ _ rfl hf hP hS dX8_isLocal_120
            · rw [if_neg h98] at hf
              refine lv_aload_n hx hb dX8_isLocal_101 rfl (lv_at hl 2 rfl) ?_
              refine lv_iload_n hx hb dX8_isLocal_102 rfl (lv_at hl 4 rfl) ?_
              refine lv_bipush (v := 30) hx hb dX8_isLocal_103 (by decide) ?_
              refine lv_iadd hx hb dX8_isLocal_105 ?_
              refine lv_iload hx hb dX8_isLocal_106 (lv_at hl 1 rfl) ?_
              refine lv_bipush (v := 46) hx hb dX8_isLocal_108 (by decide) ?_
              refine lv_iadd hx hb dX8_isLocal_110 ?_
              refine lv_iload hx hb dX8_isLocal_111 (lv_at hl 0 rfl) ?_
              obtain ⟨q113, hq, hf⟩ := ob_bind hf
              refine ax_callVi (C := "") (b := 0) (i := 11) (k := 3) (ci := 6) [.int (x2 + 30), .int ((σ.2 8 x1.toNatClampNeg) + 46), .int q15.1] C0 hT hJ hE (met_X8_isSame l dC dI cyI cyE tC ad q95.2 (x2 + 30) ((σ.2 8 x1.toNatClampNeg) + 46) q15.1 _ hq) hP hS mc_X8_isSame ml_X8_151 mi_X8_isSame ms_X8_isSame mz_X8 (by decide +kernel) ⟨rfl, rfl⟩ ⟨by decide, by decide⟩ (by decide) cM_O rfl rfl rfl hl.1 (Nat.le_of_ble_eq_true rfl) dX8_isLocal_113 ⟨Nat.zero_le _, Nat.zero_le _⟩ (fun H locs hP hS => ?_)
              refine lv_if_ne (tgt := 121) hx hb dX8_isLocal_116 (by decide) (fun h116 => ?_) (fun h116 => ?_)
              · rw [if_neg h116] at hf
                refine lv_iload_n hx hb dX8_isLocal_121 rfl (lv_at hl 4 rfl) ?_
                refine lv_i2l hx hb dX8_isLocal_122 rfl ?_
                refine lv_ldc2 (own := RX8) (v := 30) hx hb hown (C0.2.2.2.2 _ (hT _ mk_X8_160)) dX8_isLocal_123 ?_
                refine lv_ladd hx hb dX8_isLocal_126 ?_
                refine lv_iload hx hb dX8_isLocal_127 (lv_at hl 0 rfl) ?_
                refine lv_i2l hx hb dX8_isLocal_129 rfl ?_
                refine lv_ladd hx hb dX8_isLocal_130 ?_
                refine lv_aload_n hx hb dX8_isLocal_131 rfl (lv_at hl 2 rfl) ?_
                refine lv_iload hx hb dX8_isLocal_132 (lv_at hl 1 rfl) ?_
                refine lv_bipush (v := 20) hx hb dX8_isLocal_134 (by decide) ?_
                refine lv_iadd hx hb dX8_isLocal_136 ?_
                refine lv_iconst (v := 4) hx hb dX8_isLocal_137 (by decide) ?_
                obtain ⟨q138, hq, hf⟩ := ob_bind hf
                refine ax_callVi (C := "") (b := 0) (i := 11) (k := 2) (ci := 6) [.int ((σ.2 8 x1.toNatClampNeg) + 20), .int 4] C0 hT hJ hE (met_X8_number l dC dI cyI cyE tC ad q113.2 ((σ.2 8 x1.toNatClampNeg) + 20) 4 _ hq) hP hS mc_X8_number ml_X8_135 mi_X8_number ms_X8_number mz_X8 (by decide +kernel) ⟨rfl, rfl⟩ ⟨by decide, by decide⟩ (by decide) cM_O rfl rfl rfl hl.1 (Nat.le_of_ble_eq_true rfl) dX8_isLocal_138 ⟨Nat.zero_le _, Nat.zero_le _⟩ (fun H locs hP hS => ?_)
                refine lv_i2l hx hb dX8_isLocal_141 rfl ?_
                refine lv_ladd hx hb dX8_isLocal_142 ?_
                refine lv_lstore (lv' := [(7, .long (((x2.toInt64 + 30) + q15.1.toInt64) + q138.1.toInt64)), (6, .int q15.1), (5, .int (σ.2 8 x1.toNatClampNeg)), (0, .ref (ad 11)), (1, .int x1), (2, .int x2), (3, .int x3), (4, .int x4)]) hx hb dX8_isLocal_143 hl (by decide) rfl (fun ls hl => ?_)
                refine lv_iload hx hb dX8_isLocal_145 (lv_at hl 7 rfl) ?_
                refine lv_if_eq (tgt := 166) hx hb dX8_isLocal_147 (by decide) (fun h147 => ?_) (fun h147 => ?_)
                · rw [if_pos h147] at hf
                  refine lv_lload hx hb dX8_isLocal_166 (lv_at hl 0 rfl) ?_
                  refine lv_iload_n hx hb dX8_isLocal_168 rfl (lv_at hl 6 rfl) ?_
                  refine lv_i2l hx hb dX8_isLocal_169 rfl ?_
                  refine W.lcmp hx hb dX8_isLocal_170 ?_
                  refine lv_if_gt (tgt := 178) hx hb dX8_isLocal_171 (by decide) (fun h171 => ?_) (fun h171 => ?_)
                  · rw [if_pos h171] at hf
                    refine lv_iconst (v := 0) hx hb dX8_isLocal_178 (by decide) ?_
                    exact hret _ _ _ _ _ _ rfl hf hP hS dX8_isLocal_179
                  · rw [if_neg h171] at hf
                    refine lv_iconst (v := 1) hx hb dX8_isLocal_174 (by decide) ?_
                    refine lv_goto (tgt := 179) hx hb dX8_isLocal_175 (by decide) ?_
                    exact hret _ _ _ _ _ _ rfl hf hP hS dX8_isLocal_179
                · rw [if_neg h147] at hf
                  refine lv_lload hx hb dX8_isLocal_150 (lv_at hl 0 rfl) ?_
                  refine lv_iload_n hx hb dX8_isLocal_152 rfl (lv_at hl 6 rfl) ?_
                  refine lv_i2l hx hb dX8_isLocal_153 rfl ?_
                  refine W.lcmp hx hb dX8_isLocal_154 ?_
                  refine lv_if_ne (tgt := 162) hx hb dX8_isLocal_155 (by decide) (fun h155 => ?_) (fun h155 => ?_)
                  · rw [if_neg h155] at hf
                    refine lv_iconst (v := 0) hx hb dX8_isLocal_162 (by decide) ?_
                    refine lv_goto (tgt := 179) hx hb dX8_isLocal_163 (by decide) ?_
                    exact hret _ _ _ _ _ _ rfl hf hP hS dX8_isLocal_179
                  · rw [if_pos h155] at hf
                    refine lv_iconst (v := 1) hx hb dX8_isLocal_158 (by decide) ?_
                    refine lv_goto (tgt := 179) hx hb dX8_isLocal_159 (by decide) ?_
                    exact hret _ _ _ _ _ _ rfl hf hP hS dX8_isLocal_179
              · rw [if_pos h116] at hf
                refine lv_iconst (v := 0) hx hb dX8_isLocal_119 (by decide) ?_
                exact hret _ _ _ _ _ _ rfl hf hP hS dX8_isLocal_120
    · rw [if_neg h42] at hf
      refine lv_iconst (v := 0) hx hb dX8_isLocal_45 (by decide) ?_
      exact hret _ _ _ _ _ _ rfl hf hP hS dX8_isLocal_46
def f_X8_findLocals_46 (x1 : Int32) (x2 : Int32) (k21 : SM → Int32 → Int32 → Int32 → Option (Int32 × SM)) (σ : SM) (x3 : Int32) (x4 : Int32) (x5 : Int32) (s1 : Int32) (s2 : Int32) (s3 : Int32) (s4 : Int32) : Option (Int32 × SM) := (f_X8_isLocal σ s1 s2 s3 s4).bind fun q46 => if q46.1 = 0 then ((f_X8_fails q46.2 3 x5 x3).bind fun q57 => if nzb q57.1 = true then some (q57.1, q57.2) else none) else ((f_X8_number q46.2 (x3 + 26) 2).bind fun q77 => if inb x5 (capM 9) = true then (if inb x5 (capM 9) = true then ((f_X8_number (SMc q77.2 9 (upd (q77.2.2 9) x5.toNatClampNeg ((x3 + 30) + q77.1))) (x3 + 18) 4).bind fun q95 => k21 q95.2 (((SMc q77.2 9 (upd (q77.2.2 9) x5.toNatClampNeg ((x3 + 30) + q77.1))).2 9 x5.toNatClampNeg) + q95.1) x4 (x5 + 1)) else none) else none)
def f_X8_findLocals_21 (x1 : Int32) (x2 : Int32) : Nat → SM → Int32 → Int32 → Int32 → Option (Int32 × SM)
  | 0, _, _, _, _ => none
  | n + 1, σ, x3, x4, x5 => if x1 ≤ x5 then (some (1, σ)) else (if x5 = (x1 - 1) then (f_X8_findLocals_46 x1 x2 (f_X8_findLocals_21 x1 x2 n) σ x3 x4 x5 x5 x3 x4 1) else (f_X8_findLocals_46 x1 x2 (f_X8_findLocals_21 x1 x2 n) σ x3 x4 x5 x5 x3 x4 0))
def f_X8_findLocals_16 (x1 : Int32) (x2 : Int32) (σ : SM) (x3 : Int32) (s0 : Int32) : Option (Int32 × SM) := f_X8_findLocals_21 x1 x2 fu σ x3 s0 0
def f_X8_findLocals (σ : SM) (x1 : Int32) (x2 : Int32) : Option (Int32 × SM) := if x1 ≤ 0 then (f_X8_findLocals_16 x1 x2 σ 0 x2) else (if inb 0 (capM 8) = true then (f_X8_findLocals_16 x1 x2 σ 0 (σ.2 8 (0 : Int32).toNatClampNeg)) else none)
def rm_X8_findLocals : Room := { frames := 3, cells := 0, slots := 0, locals := 76 }
set_option maxHeartbeats 4000000 in
set_option maxRecDepth 100000 in
theorem met_X8_findLocals (l : Launch) (dC : Nat → ClassId) (dI : Nat → Nat → Nat) (cyI cyE : ClassId) (tC : Nat) (ad : Nat → Nat) (σ : SM) (x1 : Int32) (x2 : Int32) (res : Int32 × SM) (hf : f_X8_findLocals σ x1 x2 = some res) : ax_Mi l dC dI cyI cyE tC 12 (cM cyI ad) ad yX8_findLocals cX8_findLocals 6 (some .boolean) rm_X8_findLocals [.ref (ad 11), .int x1, .int x2] σ res.1 res.2 := by
  intro sz
  refine Met.ofW (cc := cX8_findLocals) (maxL := 6) (ret := (some .boolean)) (by decide) rfl ?_
  intro p e s m args below meth c s₁ B hml hv
  obtain ⟨hargs, hsz, hP, hJ, hE⟩ := hv
  subst hsz
  have hx := B.exec
  have hb := B.bytes
  have hr := B.returns
  have hlocks := B.notSynchronized
  have hts := atoms_spec (ws := wsY yX8_findLocals cX8_findLocals 6 (some .boolean)) B.pre
  have hown : s.vm.findClass RX8 = some m.cls := findClass_of_methodNamed B.named
  have C0 : CallFix p m c cX8_findLocals 6 s args (wsY yX8_findLocals cX8_findLocals 6 (some .boolean)) RX8 := ⟨hx, hb, hml, hown, hts⟩
  have hT : ∀ w ∈ bw, w ∈ wsY yX8_findLocals cX8_findLocals 6 (some .boolean) := fun w h => List.mem_cons_of_mem _ h
  have hS : va_S (ax_A 12 ad s.heap.size) s.heap s.heap [] := va_S.rf
  rw [show entryFrame m args 6 = entryFrame m ([.ref (ad 11), .int x1, .int x2] : List Value).toArray 6 by rw [hargs]]
  have hl := lv_entry ([.ref (ad 11), .int x1, .int x2]) (n := 6) (Nat.le_of_ble_eq_true rfl)
  rw [lg_entry_eq]
  generalize (lg_sl ([.ref (ad 11), .int x1, .int x2]) ++ List.replicate (6 - (lg_sl ([.ref (ad 11), .int x1, .int x2])).length) Slot.unset).toArray = ls at hl ⊢
  have hl : lv_has ls 6 [(0, .ref (ad 11)), (1, .int x1), (2, .int x2)] := hl
  obtain ⟨Q, hQ⟩ : ∃ Q : State → Prop, Q = MQ below (va_Qi (fun (a : Int32) (u : SM) => a = res.1 ∧ u = res.2) (ax_B dC dI 12 (cM cyI ad) ad) (ax_A 12 ad s.heap.size)) args s 0 0 (ax_A 12 ad s.heap.size) := ⟨_, rfl⟩
  show W p l e rm_X8_findLocals s m args below meth c s.heap [] 0 0 _ _
  rw [← hQ]
  have hret : ∀ (v : Int32) (σ : SM) (H : Heap) (locs : List Loc) (ls : Array Slot) (pc : Nat), narrow .boolean (.int v) = .int v → some (v, σ) = some res → va_P (dC, dI) vwCl (ax_w 12 ad (cM cyI ad σ)) H → va_S (ax_A 12 ad s.heap.size) s.heap H locs → decode cX8_findLocals pc = .ok (.ireturn, 1) → W p l e rm_X8_findLocals s m args below meth c H locs 0 0 Q (F0 m pc ls [.int v]) := by
    intro v σ H locs ls pc hn hf hP hS hd
    cases hf
    rw [hQ]
    exact ax_iret hx hb hr hlocks hn hP hS hd rfl rfl
  have L46 : ∀ (k21 : SM → Int32 → Int32 → Int32 → Option (Int32 × SM)), (∀ (σ : SM) (x3 : Int32) (x4 : Int32) (x5 : Int32), ∀ (H : Heap) (locs : List Loc) (ls : Array Slot), va_P (dC, dI) vwCl (ax_w 12 ad (cM cyI ad σ)) H → va_S (ax_A 12 ad s.heap.size) s.heap H locs → lv_has ls 6 [(0, .ref (ad 11)), (1, .int x1), (3, .int x3), (4, .int x4), (5, .int x5)] → k21 σ x3 x4 x5 = some res → W p l e rm_X8_findLocals s m args below meth c H locs 0 0 Q (F0 m 21 ls [])) → ∀ (σ : SM) (x3 : Int32) (x4 : Int32) (x5 : Int32) (s1 : Int32) (s2 : Int32) (s3 : Int32) (s4 : Int32), ∀ (H : Heap) (locs : List Loc) (ls : Array Slot), va_P (dC, dI) vwCl (ax_w 12 ad (cM cyI ad σ)) H → va_S (ax_A 12 ad s.heap.size) s.heap H locs → lv_has ls 6 [(0, .ref (ad 11)), (1, .int x1), (3, .int x3), (4, .int x4), (5, .int x5)] → f_X8_findLocals_46 x1 x2 k21 σ x3 x4 x5 s1 s2 s3 s4 = some res → W p l e rm_X8_findLocals s m args below meth c H locs 0 0 Q (F0 m 46 ls [.int s4, .int s3, .int s2, .int s1, .ref (ad 11)]) := by
    intro k21 hk21
    intro σ x3 x4 x5 s1 s2 s3 s4  H locs ls hP hS hl hf
    unfold f_X8_findLocals_46 at hf
    obtain ⟨q46, hq, hf⟩ := ob_bind hf
    refine ax_callVi (C := "") (b := 0) (i := 11) (k := 4) (ci := 6) [.int s1, .int s2, .int s3, .int s4] C0 hT hJ hE (met_X8_isLocal l dC dI cyI cyE tC ad σ s1 s2 s3 s4 _ hq) hP hS mc_X8_isLocal ml_X8_162 mi_X8_isLocal ms_X8_isLocal mz_X8 (by decide +kernel) ⟨rfl, rfl⟩ ⟨by decide, by decide⟩ (by decide) cM_O rfl rfl rfl hl.1 (Nat.le_of_ble_eq_true rfl) dX8_findLocals_46 ⟨Nat.zero_le _, Nat.zero_le _⟩ (fun H locs hP hS => ?_)
    refine lv_if_ne (tgt := 61) hx hb dX8_findLocals_49 (by decide) (fun h49 => ?_) (fun h49 => ?_)
    · rw [if_neg h49] at hf
      refine lv_aload_n hx hb dX8_findLocals_61 rfl (lv_at hl 0 rfl) ?_
      refine g_Model_bytesAt C0 hT hE hP mf_X8_44 dX8_findLocals_62 ?_
      refine lv_iload hx hb dX8_findLocals_65 (lv_at hl 4 rfl) ?_
      refine lv_iload_n hx hb dX8_findLocals_67 rfl (lv_at hl 2 rfl) ?_
      refine lv_bipush (v := 30) hx hb dX8_findLocals_68 (by decide) ?_
      refine lv_iadd hx hb dX8_findLocals_70 ?_
      refine lv_aload_n hx hb dX8_findLocals_71 rfl (lv_at hl 0 rfl) ?_
      refine lv_iload_n hx hb dX8_findLocals_72 rfl (lv_at hl 2 rfl) ?_
      refine lv_bipush (v := 26) hx hb dX8_findLocals_73 (by decide) ?_
      refine lv_iadd hx hb dX8_findLocals_75 ?_
      refine lv_iconst (v := 2) hx hb dX8_findLocals_76 (by decide) ?_
      obtain ⟨q77, hq, hf⟩ := ob_bind hf
      refine ax_callVi (C := "") (b := 0) (i := 11) (k := 2) (ci := 6) [.int (x3 + 26), .int 2] C0 hT hJ hE (met_X8_number l dC dI cyI cyE tC ad q46.2 (x3 + 26) 2 _ hq) hP hS mc_X8_number ml_X8_135 mi_X8_number ms_X8_number mz_X8 (by decide +kernel) ⟨rfl, rfl⟩ ⟨by decide, by decide⟩ (by decide) cM_O rfl rfl rfl hl.1 (Nat.le_of_ble_eq_true rfl) dX8_findLocals_77 ⟨Nat.zero_le _, Nat.zero_le _⟩ (fun H locs hP hS => ?_)
      refine lv_iadd hx hb dX8_findLocals_80 ?_
      obtain ⟨hin, hf⟩ := ob_if hf
      refine aM_st (a := 9) (by decide) C0 hT hE hJ hP hS (inb_in hin) dX8_findLocals_81 (fun H locs hP hS => ?_)
      refine lv_aload_n hx hb dX8_findLocals_82 rfl (lv_at hl 0 rfl) ?_
      refine g_Model_bytesAt C0 hT hE hP mf_X8_44 dX8_findLocals_83 ?_
      refine lv_iload hx hb dX8_findLocals_86 (lv_at hl 4 rfl) ?_
      obtain ⟨hin, hf⟩ := ob_if hf
      refine aM_ld (a := 9) (by decide) C0 hT hE hP (inb_in hin) dX8_findLocals_88 ?_
      refine lv_aload_n hx hb dX8_findLocals_89 rfl (lv_at hl 0 rfl) ?_
      refine lv_iload_n hx hb dX8_findLocals_90 rfl (lv_at hl 2 rfl) ?_
      refine lv_bipush (v := 18) hx hb dX8_findLocals_91 (by decide) ?_
      refine lv_iadd hx hb dX8_findLocals_93 ?_
      refine lv_iconst (v := 4) hx hb dX8_findLocals_94 (by decide) ?_
      obtain ⟨q95, hq, hf⟩ := ob_bind hf
      refine ax_callVi (C := "") (b := 0) (i := 11) (k := 2) (ci := 6) [.int (x3 + 18), .int 4] C0 hT hJ hE (met_X8_number l dC dI cyI cyE tC ad (SMc q77.2 9 (upd (q77.2.2 9) x5.toNatClampNeg ((x3 + 30) + q77.1))) (x3 + 18) 4 _ hq) hP hS mc_X8_number ml_X8_135 mi_X8_number ms_X8_number mz_X8 (by decide +kernel) ⟨rfl, rfl⟩ ⟨by decide, by decide⟩ (by decide) cM_O rfl rfl rfl hl.1 (Nat.le_of_ble_eq_true rfl) dX8_findLocals_95 ⟨Nat.zero_le _, Nat.zero_le _⟩ (fun H locs hP hS => ?_)
      refine lv_iadd hx hb dX8_findLocals_98 ?_
      refine lv_istore_n (lv' := [(3, .int (((SMc q77.2 9 (upd (q77.2.2 9) x5.toNatClampNeg ((x3 + 30) + q77.1))).2 9 x5.toNatClampNeg) + q95.1)), (0, .ref (ad 11)), (1, .int x1), (4, .int x4), (5, .int x5)]) hx hb dX8_findLocals_99 rfl hl (by decide) rfl (fun ls hl => ?_)
      refine lv_iinc (v := x5 + 1) (lv' := [(5, .int (x5 + 1)), (3, .int (((SMc q77.2 9 (upd (q77.2.2 9) x5.toNatClampNeg ((x3 + 30) + q77.1))).2 9 x5.toNatClampNeg) + q95.1)), (0, .ref (ad 11)), (1, .int x1), (4, .int x4)]) hx hb dX8_findLocals_100 hl (k := 4) rfl rfl (by decide) rfl (fun ls hl => ?_)
      refine lv_goto (tgt := 21) hx hb dX8_findLocals_103 (by decide) ?_
      exact hk21 _ _ _ _ _ _ _ hP hS (lv_sub hl [2, 3, 1, 4, 0] rfl) hf
    · rw [if_pos h49] at hf
      refine lv_aload_n hx hb dX8_findLocals_52 rfl (lv_at hl 0 rfl) ?_
      refine lv_iconst (v := 3) hx hb dX8_findLocals_53 (by decide) ?_
      refine lv_iload hx hb dX8_findLocals_54 (lv_at hl 4 rfl) ?_
      refine lv_iload_n hx hb dX8_findLocals_56 rfl (lv_at hl 2 rfl) ?_
      obtain ⟨q57, hq, hf⟩ := ob_bind hf
      refine ax_callVi (C := "") (b := 0) (i := 11) (k := 3) (ci := 6) [.int 3, .int x5, .int x3] C0 hT hJ hE (met_X8_fails l dC dI cyI cyE tC ad q46.2 3 x5 x3 _ hq) hP hS mc_X8_fails ml_X8_157 mi_X8_fails ms_X8_fails mz_X8 (by decide +kernel) ⟨rfl, rfl⟩ ⟨by decide, by decide⟩ (by decide) cM_O rfl rfl rfl hl.1 (Nat.le_of_ble_eq_true rfl) dX8_findLocals_57 ⟨Nat.zero_le _, Nat.zero_le _⟩ (fun H locs hP hS => ?_)
      obtain ⟨hnz, hf⟩ := ob_if hf
      exact hret _ _ _ _ _ _ (nzb_n hnz) hf hP hS dX8_findLocals_60
  have L21 : ∀ (n : Nat), ∀ (σ : SM) (x3 : Int32) (x4 : Int32) (x5 : Int32), ∀ (H : Heap) (locs : List Loc) (ls : Array Slot), va_P (dC, dI) vwCl (ax_w 12 ad (cM cyI ad σ)) H → va_S (ax_A 12 ad s.heap.size) s.heap H locs → lv_has ls 6 [(0, .ref (ad 11)), (1, .int x1), (3, .int x3), (4, .int x4), (5, .int x5)] → f_X8_findLocals_21 x1 x2 n σ x3 x4 x5 = some res → W p l e rm_X8_findLocals s m args below meth c H locs 0 0 Q (F0 m 21 ls []) := by
    intro n
    induction n with
    | zero =>
      intro σ x3 x4 x5  H locs ls hP hS hl hf
      cases hf
    | succ n ih =>
      intro σ x3 x4 x5  H locs ls hP hS hl hf
      rw [f_X8_findLocals_21] at hf
      refine lv_iload hx hb dX8_findLocals_21 (lv_at hl 4 rfl) ?_
      refine lv_iload_n hx hb dX8_findLocals_23 rfl (lv_at hl 1 rfl) ?_
      refine lv_icmp_ge (tgt := 106) hx hb dX8_findLocals_24 (by decide) (fun h24 => ?_) (fun h24 => ?_)
      · rw [if_pos h24] at hf
        refine lv_iconst (v := 1) hx hb dX8_findLocals_106 (by decide) ?_
        exact hret _ _ _ _ _ _ rfl hf hP hS dX8_findLocals_107
      · rw [if_neg h24] at hf
        refine lv_aload_n hx hb dX8_findLocals_27 rfl (lv_at hl 0 rfl) ?_
        refine lv_iload hx hb dX8_findLocals_28 (lv_at hl 4 rfl) ?_
        refine lv_iload_n hx hb dX8_findLocals_30 rfl (lv_at hl 2 rfl) ?_
        refine lv_iload hx hb dX8_findLocals_31 (lv_at hl 3 rfl) ?_
        refine lv_iload hx hb dX8_findLocals_33 (lv_at hl 4 rfl) ?_
        refine lv_iload_n hx hb dX8_findLocals_35 rfl (lv_at hl 1 rfl) ?_
        refine lv_iconst (v := 1) hx hb dX8_findLocals_36 (by decide) ?_
        refine lv_isub hx hb dX8_findLocals_37 ?_
        refine lv_icmp_ne (tgt := 45) hx hb dX8_findLocals_38 (by decide) (fun h38 => ?_) (fun h38 => ?_)
        · rw [if_neg h38] at hf
          refine lv_iconst (v := 0) hx hb dX8_findLocals_45 (by decide) ?_
          exact L46 _ ih _ _ _ _ _ _ _ _ _ _ _ hP hS (lv_sub hl [0, 1, 2, 3, 4] rfl) hf
        · rw [if_pos h38] at hf
          refine lv_iconst (v := 1) hx hb dX8_findLocals_41 (by decide) ?_
          refine lv_goto (tgt := 46) hx hb dX8_findLocals_42 (by decide) ?_
          exact L46 _ ih _ _ _ _ _ _ _ _ _ _ _ hP hS (lv_sub hl [0, 1, 2, 3, 4] rfl) hf
  have L16 : ∀ (σ : SM) (x3 : Int32) (s0 : Int32), ∀ (H : Heap) (locs : List Loc) (ls : Array Slot), va_P (dC, dI) vwCl (ax_w 12 ad (cM cyI ad σ)) H → va_S (ax_A 12 ad s.heap.size) s.heap H locs → lv_has ls 6 [(0, .ref (ad 11)), (1, .int x1), (3, .int x3)] → f_X8_findLocals_16 x1 x2 σ x3 s0 = some res → W p l e rm_X8_findLocals s m args below meth c H locs 0 0 Q (F0 m 16 ls [.int s0]) := by
    intro σ x3 s0  H locs ls hP hS hl hf
    unfold f_X8_findLocals_16 at hf
    refine lv_istore (lv' := [(4, .int s0), (0, .ref (ad 11)), (1, .int x1), (3, .int x3)]) hx hb dX8_findLocals_16 hl (by decide) rfl (fun ls hl => ?_)
    refine lv_iconst (v := 0) hx hb dX8_findLocals_18 (by decide) ?_
    refine lv_istore (lv' := [(5, .int 0), (4, .int s0), (0, .ref (ad 11)), (1, .int x1), (3, .int x3)]) hx hb dX8_findLocals_19 hl (by decide) rfl (fun ls hl => ?_)
    exact L21 fu _ _ _ _ _ _ _ hP hS (lv_sub hl [2, 3, 4, 1, 0] rfl) hf
  unfold f_X8_findLocals at hf
  refine lv_iconst (v := 0) hx hb dX8_findLocals_0 (by decide) ?_
  refine lv_istore_n (lv' := [(3, .int 0), (0, .ref (ad 11)), (1, .int x1), (2, .int x2)]) hx hb dX8_findLocals_1 rfl hl (by decide) rfl (fun ls hl => ?_)
  refine lv_iload_n hx hb dX8_findLocals_2 rfl (lv_at hl 2 rfl) ?_
  refine lv_if_le (tgt := 15) hx hb dX8_findLocals_3 (by decide) (fun h3 => ?_) (fun h3 => ?_)
  · rw [if_pos h3] at hf
    refine lv_iload_n hx hb dX8_findLocals_15 rfl (lv_at hl 3 rfl) ?_
    exact L16 _ _ _ _ _ _ hP hS (lv_sub hl [1, 2, 0] rfl) hf
  · rw [if_neg h3] at hf
    refine lv_aload_n hx hb dX8_findLocals_6 rfl (lv_at hl 1 rfl) ?_
    refine g_Model_centralAt C0 hT hE hP mf_X8_41 dX8_findLocals_7 ?_
    refine lv_iconst (v := 0) hx hb dX8_findLocals_10 (by decide) ?_
    obtain ⟨hin, hf⟩ := ob_if hf
    refine aM_ld (a := 8) (by decide) C0 hT hE hP (inb_in hin) dX8_findLocals_11 ?_
    refine lv_goto (tgt := 16) hx hb dX8_findLocals_12 (by decide) ?_
    exact L16 _ _ _ _ _ _ hP hS (lv_sub hl [1, 2, 0] rfl) hf
def f_X8_areSizes (σ : SM) (x1 : Int32) : Option (Int32 × SM) := (f_X8_number σ (x1 + 10) 4).bind fun q6 => (f_X8_number q6.2 (x1 + 14) 4).bind fun q16 => if (1500 : Int32) < q16.1 then (some (0, q16.2)) else ((f_X8_is q16.2 x1 2 99).bind fun q32 => if q32.1 = 0 then (if q6.1 = q16.1 then ((f_X8_isSame q32.2 (x1 + 10) (x1 + 14) 4).bind fun q53 => if q53.1 = 0 then (some (0, q53.2)) else (some (1, q53.2))) else (some (0, q32.2))) else (some (1, q32.2)))
def rm_X8_areSizes : Room := { frames := 2, cells := 0, slots := 0, locals := 48 }
set_option maxHeartbeats 4000000 in
set_option maxRecDepth 100000 in
theorem met_X8_areSizes (l : Launch) (dC : Nat → ClassId) (dI : Nat → Nat → Nat) (cyI cyE : ClassId) (tC : Nat) (ad : Nat → Nat) (σ : SM) (x1 : Int32) (res : Int32 × SM) (hf : f_X8_areSizes σ x1 = some res) : ax_Mi l dC dI cyI cyE tC 12 (cM cyI ad) ad yX8_areSizes cX8_areSizes 4 (some .boolean) rm_X8_areSizes [.ref (ad 11), .int x1] σ res.1 res.2 := by
  intro sz
  refine Met.ofW (cc := cX8_areSizes) (maxL := 4) (ret := (some .boolean)) (by decide) rfl ?_
  intro p e s m args below meth c s₁ B hml hv
  obtain ⟨hargs, hsz, hP, hJ, hE⟩ := hv
  subst hsz
  have hx := B.exec
  have hb := B.bytes
  have hr := B.returns
  have hlocks := B.notSynchronized
  have hts := atoms_spec (ws := wsY yX8_areSizes cX8_areSizes 4 (some .boolean)) B.pre
  have hown : s.vm.findClass RX8 = some m.cls := findClass_of_methodNamed B.named
  have C0 : CallFix p m c cX8_areSizes 4 s args (wsY yX8_areSizes cX8_areSizes 4 (some .boolean)) RX8 := ⟨hx, hb, hml, hown, hts⟩
  have hT : ∀ w ∈ bw, w ∈ wsY yX8_areSizes cX8_areSizes 4 (some .boolean) := fun w h => List.mem_cons_of_mem _ h
  have hS : va_S (ax_A 12 ad s.heap.size) s.heap s.heap [] := va_S.rf
  rw [show entryFrame m args 4 = entryFrame m ([.ref (ad 11), .int x1] : List Value).toArray 4 by rw [hargs]]
  have hl := lv_entry ([.ref (ad 11), .int x1]) (n := 4) (Nat.le_of_ble_eq_true rfl)
  rw [lg_entry_eq]
  generalize (lg_sl ([.ref (ad 11), .int x1]) ++ List.replicate (4 - (lg_sl ([.ref (ad 11), .int x1])).length) Slot.unset).toArray = ls at hl ⊢
  have hl : lv_has ls 4 [(0, .ref (ad 11)), (1, .int x1)] := hl
  obtain ⟨Q, hQ⟩ : ∃ Q : State → Prop, Q = MQ below (va_Qi (fun (a : Int32) (u : SM) => a = res.1 ∧ u = res.2) (ax_B dC dI 12 (cM cyI ad) ad) (ax_A 12 ad s.heap.size)) args s 0 0 (ax_A 12 ad s.heap.size) := ⟨_, rfl⟩
  show W p l e rm_X8_areSizes s m args below meth c s.heap [] 0 0 _ _
  rw [← hQ]
  have hret : ∀ (v : Int32) (σ : SM) (H : Heap) (locs : List Loc) (ls : Array Slot) (pc : Nat), narrow .boolean (.int v) = .int v → some (v, σ) = some res → va_P (dC, dI) vwCl (ax_w 12 ad (cM cyI ad σ)) H → va_S (ax_A 12 ad s.heap.size) s.heap H locs → decode cX8_areSizes pc = .ok (.ireturn, 1) → W p l e rm_X8_areSizes s m args below meth c H locs 0 0 Q (F0 m pc ls [.int v]) := by
    intro v σ H locs ls pc hn hf hP hS hd
    cases hf
    rw [hQ]
    exact ax_iret hx hb hr hlocks hn hP hS hd rfl rfl
  unfold f_X8_areSizes at hf
  refine lv_aload_n hx hb dX8_areSizes_0 rfl (lv_at hl 0 rfl) ?_
  refine lv_iload_n hx hb dX8_areSizes_1 rfl (lv_at hl 1 rfl) ?_
  refine lv_bipush (v := 10) hx hb dX8_areSizes_2 (by decide) ?_
  refine lv_iadd hx hb dX8_areSizes_4 ?_
  refine lv_iconst (v := 4) hx hb dX8_areSizes_5 (by decide) ?_
  obtain ⟨q6, hq, hf⟩ := ob_bind hf
  refine ax_callVi (C := "") (b := 0) (i := 11) (k := 2) (ci := 6) [.int (x1 + 10), .int 4] C0 hT hJ hE (met_X8_number l dC dI cyI cyE tC ad σ (x1 + 10) 4 _ hq) hP hS mc_X8_number ml_X8_135 mi_X8_number ms_X8_number mz_X8 (by decide +kernel) ⟨rfl, rfl⟩ ⟨by decide, by decide⟩ (by decide) cM_O rfl rfl rfl hl.1 (Nat.le_of_ble_eq_true rfl) dX8_areSizes_6 ⟨Nat.zero_le _, Nat.zero_le _⟩ (fun H locs hP hS => ?_)
  refine lv_istore_n (lv' := [(2, .int q6.1), (0, .ref (ad 11)), (1, .int x1)]) hx hb dX8_areSizes_9 rfl hl (by decide) rfl (fun ls hl => ?_)
  refine lv_aload_n hx hb dX8_areSizes_10 rfl (lv_at hl 1 rfl) ?_
  refine lv_iload_n hx hb dX8_areSizes_11 rfl (lv_at hl 2 rfl) ?_
  refine lv_bipush (v := 14) hx hb dX8_areSizes_12 (by decide) ?_
  refine lv_iadd hx hb dX8_areSizes_14 ?_
  refine lv_iconst (v := 4) hx hb dX8_areSizes_15 (by decide) ?_
  obtain ⟨q16, hq, hf⟩ := ob_bind hf
  refine ax_callVi (C := "") (b := 0) (i := 11) (k := 2) (ci := 6) [.int (x1 + 14), .int 4] C0 hT hJ hE (met_X8_number l dC dI cyI cyE tC ad q6.2 (x1 + 14) 4 _ hq) hP hS mc_X8_number ml_X8_135 mi_X8_number ms_X8_number mz_X8 (by decide +kernel) ⟨rfl, rfl⟩ ⟨by decide, by decide⟩ (by decide) cM_O rfl rfl rfl hl.1 (Nat.le_of_ble_eq_true rfl) dX8_areSizes_16 ⟨Nat.zero_le _, Nat.zero_le _⟩ (fun H locs hP hS => ?_)
  refine lv_istore_n (lv' := [(3, .int q16.1), (2, .int q6.1), (0, .ref (ad 11)), (1, .int x1)]) hx hb dX8_areSizes_19 rfl hl (by decide) rfl (fun ls hl => ?_)
  refine lv_iload_n hx hb dX8_areSizes_20 rfl (lv_at hl 0 rfl) ?_
  refine lv_sipush (v := 1500) hx hb dX8_areSizes_21 (by decide) ?_
  refine lv_icmp_gt (tgt := 63) hx hb dX8_areSizes_24 (by decide) (fun h24 => ?_) (fun h24 => ?_)
  · rw [if_pos h24] at hf
    refine lv_iconst (v := 0) hx hb dX8_areSizes_63 (by decide) ?_
    exact hret _ _ _ _ _ _ rfl hf hP hS dX8_areSizes_64
  · rw [if_neg h24] at hf
    refine lv_aload_n hx hb dX8_areSizes_27 rfl (lv_at hl 2 rfl) ?_
    refine lv_iload_n hx hb dX8_areSizes_28 rfl (lv_at hl 3 rfl) ?_
    refine lv_iconst (v := 2) hx hb dX8_areSizes_29 (by decide) ?_
    refine lv_bipush (v := 99) hx hb dX8_areSizes_30 (by decide) ?_
    obtain ⟨q32, hq, hf⟩ := ob_bind hf
    refine ax_callVi (C := "") (b := 0) (i := 11) (k := 3) (ci := 6) [.int x1, .int 2, .int 99] C0 hT hJ hE (met_X8_is l dC dI cyI cyE tC ad q16.2 x1 2 99 _ hq) hP hS mc_X8_is ml_X8_141 mi_X8_is ms_X8_is mz_X8 (by decide +kernel) ⟨rfl, rfl⟩ ⟨by decide, by decide⟩ (by decide) cM_O rfl rfl rfl hl.1 (Nat.le_of_ble_eq_true rfl) dX8_areSizes_32 ⟨Nat.zero_le _, Nat.zero_le _⟩ (fun H locs hP hS => ?_)
    refine lv_if_ne (tgt := 59) hx hb dX8_areSizes_35 (by decide) (fun h35 => ?_) (fun h35 => ?_)
    · rw [if_neg h35] at hf
      refine lv_iconst (v := 1) hx hb dX8_areSizes_59 (by decide) ?_
      refine lv_goto (tgt := 64) hx hb dX8_areSizes_60 (by decide) ?_
      exact hret _ _ _ _ _ _ rfl hf hP hS dX8_areSizes_64
    · rw [if_pos h35] at hf
      refine lv_iload_n hx hb dX8_areSizes_38 rfl (lv_at hl 1 rfl) ?_
      refine lv_iload_n hx hb dX8_areSizes_39 rfl (lv_at hl 0 rfl) ?_
      refine lv_icmp_ne (tgt := 63) hx hb dX8_areSizes_40 (by decide) (fun h40 => ?_) (fun h40 => ?_)
      · rw [if_neg h40] at hf
        refine lv_iconst (v := 0) hx hb dX8_areSizes_63 (by decide) ?_
        exact hret _ _ _ _ _ _ rfl hf hP hS dX8_areSizes_64
      · rw [if_pos h40] at hf
        refine lv_aload_n hx hb dX8_areSizes_43 rfl (lv_at hl 2 rfl) ?_
        refine lv_iload_n hx hb dX8_areSizes_44 rfl (lv_at hl 3 rfl) ?_
        refine lv_bipush (v := 10) hx hb dX8_areSizes_45 (by decide) ?_
        refine lv_iadd hx hb dX8_areSizes_47 ?_
        refine lv_iload_n hx hb dX8_areSizes_48 rfl (lv_at hl 3 rfl) ?_
        refine lv_bipush (v := 14) hx hb dX8_areSizes_49 (by decide) ?_
        refine lv_iadd hx hb dX8_areSizes_51 ?_
        refine lv_iconst (v := 4) hx hb dX8_areSizes_52 (by decide) ?_
        obtain ⟨q53, hq, hf⟩ := ob_bind hf
        refine ax_callVi (C := "") (b := 0) (i := 11) (k := 3) (ci := 6) [.int (x1 + 10), .int (x1 + 14), .int 4] C0 hT hJ hE (met_X8_isSame l dC dI cyI cyE tC ad q32.2 (x1 + 10) (x1 + 14) 4 _ hq) hP hS mc_X8_isSame ml_X8_151 mi_X8_isSame ms_X8_isSame mz_X8 (by decide +kernel) ⟨rfl, rfl⟩ ⟨by decide, by decide⟩ (by decide) cM_O rfl rfl rfl hl.1 (Nat.le_of_ble_eq_true rfl) dX8_areSizes_53 ⟨Nat.zero_le _, Nat.zero_le _⟩ (fun H locs hP hS => ?_)
        refine lv_if_eq (tgt := 63) hx hb dX8_areSizes_56 (by decide) (fun h56 => ?_) (fun h56 => ?_)
        · rw [if_pos h56] at hf
          refine lv_iconst (v := 0) hx hb dX8_areSizes_63 (by decide) ?_
          exact hret _ _ _ _ _ _ rfl hf hP hS dX8_areSizes_64
        · rw [if_neg h56] at hf
          refine lv_iconst (v := 1) hx hb dX8_areSizes_59 (by decide) ?_
          refine lv_goto (tgt := 64) hx hb dX8_areSizes_60 (by decide) ?_
          exact hret _ _ _ _ _ _ rfl hf hP hS dX8_areSizes_64
def f_X8_unfold_200 (x1 : Int32) (x2 : Int32) (k53 : SM → Int32 → Int32 → Int32 → Int32 → Option (Int32 × SM)) (k158 : SM → Int32 → Int32 → Int32 → Int32 → Int32 → Int32 → Int32 → Int32 → Option (Int32 × SM)) (σ : SM) (x3 : Int32) (x5 : Int32) (x6 : Int32) (x7 : Int32) (x8 : Int32) (x9 : Int32) (x10 : Int32) (x11 : Int32) (s1 : Int32) (s3 : Int32) (s4 : Int32) : Option (Int32 × SM) := if inb (s3 + s4) (capM 1) = true then (if inb s1 (capM 5) = true then (k158 (SMc σ 5 (upd (σ.2 5) s1.toNatClampNeg (σ.2 1 (s3 + s4).toNatClampNeg))) x3 x5 x6 x7 x8 x9 x10 (x11 + 1)) else none) else none
def f_X8_unfold_158 (x1 : Int32) (x2 : Int32) (k53 : SM → Int32 → Int32 → Int32 → Int32 → Option (Int32 × SM)) : Nat → SM → Int32 → Int32 → Int32 → Int32 → Int32 → Int32 → Int32 → Int32 → Option (Int32 × SM)
  | 0, _, _, _, _, _, _, _, _, _ => none
  | n + 1, σ, x3, x5, x6, x7, x8, x9, x10, x11 => if x9 ≤ x11 then (k53 σ x3 (x5 + x9) (x6 + (1 + x10)) x7) else (if (128 : Int32) ≤ x8 then (f_X8_unfold_200 x1 x2 k53 (f_X8_unfold_158 x1 x2 k53 n) σ x3 x5 x6 x7 x8 x9 x10 x11 ((30000 + x5) + x11) (x6 + 1) 0) else (f_X8_unfold_200 x1 x2 k53 (f_X8_unfold_158 x1 x2 k53 n) σ x3 x5 x6 x7 x8 x9 x10 x11 ((30000 + x5) + x11) (x6 + 1) x11))
def f_X8_unfold_130 (x1 : Int32) (x2 : Int32) (k53 : SM → Int32 → Int32 → Int32 → Int32 → Option (Int32 × SM)) (σ : SM) (x3 : Int32) (x5 : Int32) (x6 : Int32) (x7 : Int32) (x8 : Int32) (x9 : Int32) (s0 : Int32) : Option (Int32 × SM) := if x7 < ((x6 + 1) + s0) then (some (0, σ)) else (if (x5 + x9) ≤ x3 then (f_X8_unfold_158 x1 x2 k53 fu σ x3 x5 x6 x7 x8 x9 s0 0) else (some (0, σ)))
def f_X8_unfold_102 (x1 : Int32) (x2 : Int32) (k53 : SM → Int32 → Int32 → Int32 → Int32 → Option (Int32 × SM)) (σ : SM) (x3 : Int32) (x5 : Int32) (x6 : Int32) (x7 : Int32) (x8 : Int32) (s0 : Int32) : Option (Int32 × SM) := if (128 : Int32) ≤ x8 then (if x8 = 128 then (f_X8_unfold_130 x1 x2 k53 σ x3 x5 x6 x7 x8 s0 0) else (f_X8_unfold_130 x1 x2 k53 σ x3 x5 x6 x7 x8 s0 1)) else (f_X8_unfold_130 x1 x2 k53 σ x3 x5 x6 x7 x8 s0 s0)
def f_X8_unfold_53 (x1 : Int32) (x2 : Int32) : Nat → SM → Int32 → Int32 → Int32 → Int32 → Option (Int32 × SM)
  | 0, _, _, _, _, _ => none
  | n + 1, σ, x3, x5, x6, x7 => if x7 ≤ x6 then (if inb 20 (capM 6) = true then (if x5 = x3 then (some (1, (SMc σ 6 (upd (σ.2 6) (20 : Int32).toNatClampNeg x5)))) else (some (0, (SMc σ 6 (upd (σ.2 6) (20 : Int32).toNatClampNeg x5))))) else none) else (if inb x6 (capM 1) = true then (if (128 : Int32) ≤ (σ.2 1 x6.toNatClampNeg) then (if (σ.2 1 x6.toNatClampNeg) = 128 then (f_X8_unfold_102 x1 x2 (f_X8_unfold_53 x1 x2 n) σ x3 x5 x6 x7 (σ.2 1 x6.toNatClampNeg) 0) else (f_X8_unfold_102 x1 x2 (f_X8_unfold_53 x1 x2 n) σ x3 x5 x6 x7 (σ.2 1 x6.toNatClampNeg) (257 - (σ.2 1 x6.toNatClampNeg)))) else (f_X8_unfold_102 x1 x2 (f_X8_unfold_53 x1 x2 n) σ x3 x5 x6 x7 (σ.2 1 x6.toNatClampNeg) ((σ.2 1 x6.toNatClampNeg) + 1))) else none)
def f_X8_unfold (σ : SM) (x1 : Int32) (x2 : Int32) : Option (Int32 × SM) := (f_X8_number σ (x2 + 14) 4).bind fun q6 => (f_X8_number q6.2 (x2 + 10) 4).bind fun q16 => (f_X8_is q16.2 x2 2 0).bind fun q25 => if q25.1 = 0 then (f_X8_unfold_53 x1 x2 fu q25.2 q6.1 0 x1 (x1 + q16.1)) else ((f_X8_setBytes q25.2 20 x1 q6.1).bind fun q36 => some (1, q36))
def rm_X8_unfold : Room := { frames := 2, cells := 0, slots := 0, locals := 48 }
set_option maxHeartbeats 4000000 in
set_option maxRecDepth 100000 in
theorem met_X8_unfold (l : Launch) (dC : Nat → ClassId) (dI : Nat → Nat → Nat) (cyI cyE : ClassId) (tC : Nat) (ad : Nat → Nat) (σ : SM) (x1 : Int32) (x2 : Int32) (res : Int32 × SM) (hf : f_X8_unfold σ x1 x2 = some res) : ax_Mi l dC dI cyI cyE tC 12 (cM cyI ad) ad yX8_unfold cX8_unfold 12 (some .boolean) rm_X8_unfold [.ref (ad 11), .int x1, .int x2] σ res.1 res.2 := by
  intro sz
  refine Met.ofW (cc := cX8_unfold) (maxL := 12) (ret := (some .boolean)) (by decide) rfl ?_
  intro p e s m args below meth c s₁ B hml hv
  obtain ⟨hargs, hsz, hP, hJ, hE⟩ := hv
  subst hsz
  have hx := B.exec
  have hb := B.bytes
  have hr := B.returns
  have hlocks := B.notSynchronized
  have hts := atoms_spec (ws := wsY yX8_unfold cX8_unfold 12 (some .boolean)) B.pre
  have hown : s.vm.findClass RX8 = some m.cls := findClass_of_methodNamed B.named
  have C0 : CallFix p m c cX8_unfold 12 s args (wsY yX8_unfold cX8_unfold 12 (some .boolean)) RX8 := ⟨hx, hb, hml, hown, hts⟩
  have hT : ∀ w ∈ bw, w ∈ wsY yX8_unfold cX8_unfold 12 (some .boolean) := fun w h => List.mem_cons_of_mem _ h
  have hS : va_S (ax_A 12 ad s.heap.size) s.heap s.heap [] := va_S.rf
  rw [show entryFrame m args 12 = entryFrame m ([.ref (ad 11), .int x1, .int x2] : List Value).toArray 12 by rw [hargs]]
  have hl := lv_entry ([.ref (ad 11), .int x1, .int x2]) (n := 12) (Nat.le_of_ble_eq_true rfl)
  rw [lg_entry_eq]
  generalize (lg_sl ([.ref (ad 11), .int x1, .int x2]) ++ List.replicate (12 - (lg_sl ([.ref (ad 11), .int x1, .int x2])).length) Slot.unset).toArray = ls at hl ⊢
  have hl : lv_has ls 12 [(0, .ref (ad 11)), (1, .int x1), (2, .int x2)] := hl
  obtain ⟨Q, hQ⟩ : ∃ Q : State → Prop, Q = MQ below (va_Qi (fun (a : Int32) (u : SM) => a = res.1 ∧ u = res.2) (ax_B dC dI 12 (cM cyI ad) ad) (ax_A 12 ad s.heap.size)) args s 0 0 (ax_A 12 ad s.heap.size) := ⟨_, rfl⟩
  show W p l e rm_X8_unfold s m args below meth c s.heap [] 0 0 _ _
  rw [← hQ]
  have hret : ∀ (v : Int32) (σ : SM) (H : Heap) (locs : List Loc) (ls : Array Slot) (pc : Nat), narrow .boolean (.int v) = .int v → some (v, σ) = some res → va_P (dC, dI) vwCl (ax_w 12 ad (cM cyI ad σ)) H → va_S (ax_A 12 ad s.heap.size) s.heap H locs → decode cX8_unfold pc = .ok (.ireturn, 1) → W p l e rm_X8_unfold s m args below meth c H locs 0 0 Q (F0 m pc ls [.int v]) := by
    intro v σ H locs ls pc hn hf hP hS hd
    cases hf
    rw [hQ]
    exact ax_iret hx hb hr hlocks hn hP hS hd rfl rfl
  have L200 : ∀ (k53 : SM → Int32 → Int32 → Int32 → Int32 → Option (Int32 × SM)), (∀ (σ : SM) (x3 : Int32) (x5 : Int32) (x6 : Int32) (x7 : Int32), ∀ (H : Heap) (locs : List Loc) (ls : Array Slot), va_P (dC, dI) vwCl (ax_w 12 ad (cM cyI ad σ)) H → va_S (ax_A 12 ad s.heap.size) s.heap H locs → lv_has ls 12 [(0, .ref (ad 11)), (3, .int x3), (5, .int x5), (6, .int x6), (7, .int x7)] → k53 σ x3 x5 x6 x7 = some res → W p l e rm_X8_unfold s m args below meth c H locs 0 0 Q (F0 m 53 ls [])) → ∀ (k158 : SM → Int32 → Int32 → Int32 → Int32 → Int32 → Int32 → Int32 → Int32 → Option (Int32 × SM)), (∀ (σ : SM) (x3 : Int32) (x5 : Int32) (x6 : Int32) (x7 : Int32) (x8 : Int32) (x9 : Int32) (x10 : Int32) (x11 : Int32), ∀ (H : Heap) (locs : List Loc) (ls : Array Slot), va_P (dC, dI) vwCl (ax_w 12 ad (cM cyI ad σ)) H → va_S (ax_A 12 ad s.heap.size) s.heap H locs → lv_has ls 12 [(0, .ref (ad 11)), (3, .int x3), (5, .int x5), (6, .int x6), (7, .int x7), (8, .int x8), (9, .int x9), (10, .int x10), (11, .int x11)] → k158 σ x3 x5 x6 x7 x8 x9 x10 x11 = some res → W p l e rm_X8_unfold s m args below meth c H locs 0 0 Q (F0 m 158 ls [])) → ∀ (σ : SM) (x3 : Int32) (x5 : Int32) (x6 : Int32) (x7 : Int32) (x8 : Int32) (x9 : Int32) (x10 : Int32) (x11 : Int32) (s1 : Int32) (s3 : Int32) (s4 : Int32), ∀ (H : Heap) (locs : List Loc) (ls : Array Slot), va_P (dC, dI) vwCl (ax_w 12 ad (cM cyI ad σ)) H → va_S (ax_A 12 ad s.heap.size) s.heap H locs → lv_has ls 12 [(0, .ref (ad 11)), (3, .int x3), (5, .int x5), (6, .int x6), (7, .int x7), (8, .int x8), (9, .int x9), (10, .int x10), (11, .int x11)] → f_X8_unfold_200 x1 x2 k53 k158 σ x3 x5 x6 x7 x8 x9 x10 x11 s1 s3 s4 = some res → W p l e rm_X8_unfold s m args below meth c H locs 0 0 Q (F0 m 200 ls [.int s4, .int s3, .ref (ad 1), .int s1, .ref (ad 5)]) := by
    intro k53 hk53 k158 hk158
    intro σ x3 x5 x6 x7 x8 x9 x10 x11 s1 s3 s4  H locs ls hP hS hl hf
    unfold f_X8_unfold_200 at hf
    refine lv_iadd hx hb dX8_unfold_200 ?_
    obtain ⟨hin, hf⟩ := ob_if hf
    refine aM_ld (a := 1) (by decide) C0 hT hE hP (inb_in hin) dX8_unfold_201 ?_
    obtain ⟨hin, hf⟩ := ob_if hf
    refine aM_st (a := 5) (by decide) C0 hT hE hJ hP hS (inb_in hin) dX8_unfold_202 (fun H locs hP hS => ?_)
    refine lv_iinc (v := x11 + 1) (lv' := [(11, .int (x11 + 1)), (0, .ref (ad 11)), (3, .int x3), (5, .int x5), (6, .int x6), (7, .int x7), (8, .int x8), (9, .int x9), (10, .int x10)]) hx hb dX8_unfold_203 hl (k := 8) rfl rfl (by decide) rfl (fun ls hl => ?_)
    refine lv_goto (tgt := 158) hx hb dX8_unfold_206 (by decide) ?_
    exact hk158 _ _ _ _ _ _ _ _ _ _ _ _ hP hS (lv_sub hl [1, 2, 3, 4, 5, 6, 7, 8, 0] rfl) hf
  have L158 : ∀ (k53 : SM → Int32 → Int32 → Int32 → Int32 → Option (Int32 × SM)), (∀ (σ : SM) (x3 : Int32) (x5 : Int32) (x6 : Int32) (x7 : Int32), ∀ (H : Heap) (locs : List Loc) (ls : Array Slot), va_P (dC, dI) vwCl (ax_w 12 ad (cM cyI ad σ)) H → va_S (ax_A 12 ad s.heap.size) s.heap H locs → lv_has ls 12 [(0, .ref (ad 11)), (3, .int x3), (5, .int x5), (6, .int x6), (7, .int x7)] → k53 σ x3 x5 x6 x7 = some res → W p l e rm_X8_unfold s m args below meth c H locs 0 0 Q (F0 m 53 ls [])) → ∀ (n : Nat), ∀ (σ : SM) (x3 : Int32) (x5 : Int32) (x6 : Int32) (x7 : Int32) (x8 : Int32) (x9 : Int32) (x10 : Int32) (x11 : Int32), ∀ (H : Heap) (locs : List Loc) (ls : Array Slot), va_P (dC, dI) vwCl (ax_w 12 ad (cM cyI ad σ)) H → va_S (ax_A 12 ad s.heap.size) s.heap H locs → lv_has ls 12 [(0, .ref (ad 11)), (3, .int x3), (5, .int x5), (6, .int x6), (7, .int x7), (8, .int x8), (9, .int x9), (10, .int x10), (11, .int x11)] → f_X8_unfold_158 x1 x2 k53 n σ x3 x5 x6 x7 x8 x9 x10 x11 = some res → W p l e rm_X8_unfold s m args below meth c H locs 0 0 Q (F0 m 158 ls []) := by
    intro k53 hk53
    intro n
    induction n with
    | zero =>
      intro σ x3 x5 x6 x7 x8 x9 x10 x11  H locs ls hP hS hl hf
      cases hf
    | succ n ih =>
      intro σ x3 x5 x6 x7 x8 x9 x10 x11  H locs ls hP hS hl hf
      rw [f_X8_unfold_158] at hf
      refine lv_iload hx hb dX8_unfold_158 (lv_at hl 8 rfl) ?_
      refine lv_iload hx hb dX8_unfold_160 (lv_at hl 6 rfl) ?_
      refine lv_icmp_ge (tgt := 209) hx hb dX8_unfold_162 (by decide) (fun h162 => ?_) (fun h162 => ?_)
      · rw [if_pos h162] at hf
        refine lv_iload hx hb dX8_unfold_209 (lv_at hl 2 rfl) ?_
        refine lv_iload hx hb dX8_unfold_211 (lv_at hl 6 rfl) ?_
        refine lv_iadd hx hb dX8_unfold_213 ?_
        refine lv_istore (lv' := [(5, .int (x5 + x9)), (0, .ref (ad 11)), (3, .int x3), (6, .int x6), (7, .int x7), (8, .int x8), (9, .int x9), (10, .int x10), (11, .int x11)]) hx hb dX8_unfold_214 hl (by decide) rfl (fun ls hl => ?_)
        refine lv_iload hx hb dX8_unfold_216 (lv_at hl 3 rfl) ?_
        refine lv_iconst (v := 1) hx hb dX8_unfold_218 (by decide) ?_
        refine lv_iload hx hb dX8_unfold_219 (lv_at hl 7 rfl) ?_
        refine lv_iadd hx hb dX8_unfold_221 ?_
        refine lv_iadd hx hb dX8_unfold_222 ?_
        refine lv_istore (lv' := [(6, .int (x6 + (1 + x10))), (5, .int (x5 + x9)), (0, .ref (ad 11)), (3, .int x3), (7, .int x7), (8, .int x8), (9, .int x9), (10, .int x10), (11, .int x11)]) hx hb dX8_unfold_223 hl (by decide) rfl (fun ls hl => ?_)
        refine lv_goto (tgt := 53) hx hb dX8_unfold_225 (by decide) ?_
        exact hk53 _ _ _ _ _ _ _ _ hP hS (lv_sub hl [2, 3, 1, 0, 4] rfl) hf
      · rw [if_neg h162] at hf
        refine lv_aload_n hx hb dX8_unfold_165 rfl (lv_at hl 0 rfl) ?_
        refine g_Model_bytes C0 hT hE hP mf_X8_25 dX8_unfold_166 ?_
        refine lv_sipush (v := 30000) hx hb dX8_unfold_169 (by decide) ?_
        refine lv_iload hx hb dX8_unfold_172 (lv_at hl 2 rfl) ?_
        refine lv_iadd hx hb dX8_unfold_174 ?_
        refine lv_iload hx hb dX8_unfold_175 (lv_at hl 8 rfl) ?_
        refine lv_iadd hx hb dX8_unfold_177 ?_
        refine lv_aload_n hx hb dX8_unfold_178 rfl (lv_at hl 0 rfl) ?_
        refine g_Model_tape C0 hT hE hP mf_X8_13 dX8_unfold_179 ?_
        refine lv_iload hx hb dX8_unfold_182 (lv_at hl 3 rfl) ?_
        refine lv_iconst (v := 1) hx hb dX8_unfold_184 (by decide) ?_
        refine lv_iadd hx hb dX8_unfold_185 ?_
        refine lv_iload hx hb dX8_unfold_186 (lv_at hl 5 rfl) ?_
        refine lv_sipush (v := 128) hx hb dX8_unfold_188 (by decide) ?_
        refine lv_icmp_ge (tgt := 199) hx hb dX8_unfold_191 (by decide) (fun h191 => ?_) (fun h191 => ?_)
        · rw [if_pos h191] at hf
          refine lv_iconst (v := 0) hx hb dX8_unfold_199 (by decide) ?_
          exact L200 _ hk53 _ ih _ _ _ _ _ _ _ _ _ _ _ _ _ _ _ hP hS (lv_sub hl [0, 1, 2, 3, 4, 5, 6, 7, 8] rfl) hf
        · rw [if_neg h191] at hf
          refine lv_iload hx hb dX8_unfold_194 (lv_at hl 8 rfl) ?_
          refine lv_goto (tgt := 200) hx hb dX8_unfold_196 (by decide) ?_
          exact L200 _ hk53 _ ih _ _ _ _ _ _ _ _ _ _ _ _ _ _ _ hP hS (lv_sub hl [0, 1, 2, 3, 4, 5, 6, 7, 8] rfl) hf
  have L130 : ∀ (k53 : SM → Int32 → Int32 → Int32 → Int32 → Option (Int32 × SM)), (∀ (σ : SM) (x3 : Int32) (x5 : Int32) (x6 : Int32) (x7 : Int32), ∀ (H : Heap) (locs : List Loc) (ls : Array Slot), va_P (dC, dI) vwCl (ax_w 12 ad (cM cyI ad σ)) H → va_S (ax_A 12 ad s.heap.size) s.heap H locs → lv_has ls 12 [(0, .ref (ad 11)), (3, .int x3), (5, .int x5), (6, .int x6), (7, .int x7)] → k53 σ x3 x5 x6 x7 = some res → W p l e rm_X8_unfold s m args below meth c H locs 0 0 Q (F0 m 53 ls [])) → ∀ (σ : SM) (x3 : Int32) (x5 : Int32) (x6 : Int32) (x7 : Int32) (x8 : Int32) (x9 : Int32) (s0 : Int32), ∀ (H : Heap) (locs : List Loc) (ls : Array Slot), va_P (dC, dI) vwCl (ax_w 12 ad (cM cyI ad σ)) H → va_S (ax_A 12 ad s.heap.size) s.heap H locs → lv_has ls 12 [(0, .ref (ad 11)), (3, .int x3), (5, .int x5), (6, .int x6), (7, .int x7), (8, .int x8), (9, .int x9)] → f_X8_unfold_130 x1 x2 k53 σ x3 x5 x6 x7 x8 x9 s0 = some res → W p l e rm_X8_unfold s m args below meth c H locs 0 0 Q (F0 m 130 ls [.int s0]) := by
    intro k53 hk53
    intro σ x3 x5 x6 x7 x8 x9 s0  H locs ls hP hS hl hf
    unfold f_X8_unfold_130 at hf
    refine lv_istore (lv' := [(10, .int s0), (0, .ref (ad 11)), (3, .int x3), (5, .int x5), (6, .int x6), (7, .int x7), (8, .int x8), (9, .int x9)]) hx hb dX8_unfold_130 hl (by decide) rfl (fun ls hl => ?_)
    refine lv_iload hx hb dX8_unfold_132 (lv_at hl 4 rfl) ?_
    refine lv_iconst (v := 1) hx hb dX8_unfold_134 (by decide) ?_
    refine lv_iadd hx hb dX8_unfold_135 ?_
    refine lv_iload hx hb dX8_unfold_136 (lv_at hl 0 rfl) ?_
    refine lv_iadd hx hb dX8_unfold_138 ?_
    refine lv_iload hx hb dX8_unfold_139 (lv_at hl 5 rfl) ?_
    refine lv_icmp_gt (tgt := 153) hx hb dX8_unfold_141 (by decide) (fun h141 => ?_) (fun h141 => ?_)
    · rw [if_pos h141] at hf
      refine lv_iconst (v := 0) hx hb dX8_unfold_153 (by decide) ?_
      exact hret _ _ _ _ _ _ rfl hf hP hS dX8_unfold_154
    · rw [if_neg h141] at hf
      refine lv_iload hx hb dX8_unfold_144 (lv_at hl 3 rfl) ?_
      refine lv_iload hx hb dX8_unfold_146 (lv_at hl 7 rfl) ?_
      refine lv_iadd hx hb dX8_unfold_148 ?_
      refine lv_iload_n hx hb dX8_unfold_149 rfl (lv_at hl 2 rfl) ?_
      refine lv_icmp_le (tgt := 155) hx hb dX8_unfold_150 (by decide) (fun h150 => ?_) (fun h150 => ?_)
      · rw [if_pos h150] at hf
        refine lv_iconst (v := 0) hx hb dX8_unfold_155 (by decide) ?_
        refine lv_istore (lv' := [(11, .int 0), (10, .int s0), (0, .ref (ad 11)), (3, .int x3), (5, .int x5), (6, .int x6), (7, .int x7), (8, .int x8), (9, .int x9)]) hx hb dX8_unfold_156 hl (by decide) rfl (fun ls hl => ?_)
        exact L158 _ hk53 fu _ _ _ _ _ _ _ _ _ _ _ _ hP hS (lv_sub hl [2, 3, 4, 5, 6, 7, 8, 1, 0] rfl) hf
      · rw [if_neg h150] at hf
        refine lv_iconst (v := 0) hx hb dX8_unfold_153 (by decide) ?_
        exact hret _ _ _ _ _ _ rfl hf hP hS dX8_unfold_154
  have L102 : ∀ (k53 : SM → Int32 → Int32 → Int32 → Int32 → Option (Int32 × SM)), (∀ (σ : SM) (x3 : Int32) (x5 : Int32) (x6 : Int32) (x7 : Int32), ∀ (H : Heap) (locs : List Loc) (ls : Array Slot), va_P (dC, dI) vwCl (ax_w 12 ad (cM cyI ad σ)) H → va_S (ax_A 12 ad s.heap.size) s.heap H locs → lv_has ls 12 [(0, .ref (ad 11)), (3, .int x3), (5, .int x5), (6, .int x6), (7, .int x7)] → k53 σ x3 x5 x6 x7 = some res → W p l e rm_X8_unfold s m args below meth c H locs 0 0 Q (F0 m 53 ls [])) → ∀ (σ : SM) (x3 : Int32) (x5 : Int32) (x6 : Int32) (x7 : Int32) (x8 : Int32) (s0 : Int32), ∀ (H : Heap) (locs : List Loc) (ls : Array Slot), va_P (dC, dI) vwCl (ax_w 12 ad (cM cyI ad σ)) H → va_S (ax_A 12 ad s.heap.size) s.heap H locs → lv_has ls 12 [(0, .ref (ad 11)), (3, .int x3), (5, .int x5), (6, .int x6), (7, .int x7), (8, .int x8)] → f_X8_unfold_102 x1 x2 k53 σ x3 x5 x6 x7 x8 s0 = some res → W p l e rm_X8_unfold s m args below meth c H locs 0 0 Q (F0 m 102 ls [.int s0]) := by
    intro k53 hk53
    intro σ x3 x5 x6 x7 x8 s0  H locs ls hP hS hl hf
    unfold f_X8_unfold_102 at hf
    refine lv_istore (lv' := [(9, .int s0), (0, .ref (ad 11)), (3, .int x3), (5, .int x5), (6, .int x6), (7, .int x7), (8, .int x8)]) hx hb dX8_unfold_102 hl (by decide) rfl (fun ls hl => ?_)
    refine lv_iload hx hb dX8_unfold_104 (lv_at hl 6 rfl) ?_
    refine lv_sipush (v := 128) hx hb dX8_unfold_106 (by decide) ?_
    refine lv_icmp_ge (tgt := 117) hx hb dX8_unfold_109 (by decide) (fun h109 => ?_) (fun h109 => ?_)
    · rw [if_pos h109] at hf
      refine lv_iload hx hb dX8_unfold_117 (lv_at hl 6 rfl) ?_
      refine lv_sipush (v := 128) hx hb dX8_unfold_119 (by decide) ?_
      refine lv_icmp_ne (tgt := 129) hx hb dX8_unfold_122 (by decide) (fun h122 => ?_) (fun h122 => ?_)
      · rw [if_neg h122] at hf
        refine lv_iconst (v := 1) hx hb dX8_unfold_129 (by decide) ?_
        exact L130 _ hk53 _ _ _ _ _ _ _ _ _ _ _ hP hS (lv_sub hl [1, 2, 3, 4, 5, 6, 0] rfl) hf
      · rw [if_pos h122] at hf
        refine lv_iconst (v := 0) hx hb dX8_unfold_125 (by decide) ?_
        refine lv_goto (tgt := 130) hx hb dX8_unfold_126 (by decide) ?_
        exact L130 _ hk53 _ _ _ _ _ _ _ _ _ _ _ hP hS (lv_sub hl [1, 2, 3, 4, 5, 6, 0] rfl) hf
    · rw [if_neg h109] at hf
      refine lv_iload hx hb dX8_unfold_112 (lv_at hl 0 rfl) ?_
      refine lv_goto (tgt := 130) hx hb dX8_unfold_114 (by decide) ?_
      exact L130 _ hk53 _ _ _ _ _ _ _ _ _ _ _ hP hS (lv_sub hl [1, 2, 3, 4, 5, 6, 0] rfl) hf
  have L53 : ∀ (n : Nat), ∀ (σ : SM) (x3 : Int32) (x5 : Int32) (x6 : Int32) (x7 : Int32), ∀ (H : Heap) (locs : List Loc) (ls : Array Slot), va_P (dC, dI) vwCl (ax_w 12 ad (cM cyI ad σ)) H → va_S (ax_A 12 ad s.heap.size) s.heap H locs → lv_has ls 12 [(0, .ref (ad 11)), (3, .int x3), (5, .int x5), (6, .int x6), (7, .int x7)] → f_X8_unfold_53 x1 x2 n σ x3 x5 x6 x7 = some res → W p l e rm_X8_unfold s m args below meth c H locs 0 0 Q (F0 m 53 ls []) := by
    intro n
    induction n with
    | zero =>
      intro σ x3 x5 x6 x7  H locs ls hP hS hl hf
      cases hf
    | succ n ih =>
      intro σ x3 x5 x6 x7  H locs ls hP hS hl hf
      rw [f_X8_unfold_53] at hf
      refine lv_iload hx hb dX8_unfold_53 (lv_at hl 3 rfl) ?_
      refine lv_iload hx hb dX8_unfold_55 (lv_at hl 4 rfl) ?_
      refine lv_icmp_ge (tgt := 228) hx hb dX8_unfold_57 (by decide) (fun h57 => ?_) (fun h57 => ?_)
      · rw [if_pos h57] at hf
        refine lv_aload_n hx hb dX8_unfold_228 rfl (lv_at hl 0 rfl) ?_
        refine g_Model_many C0 hT hE hP mf_X8_28 dX8_unfold_229 ?_
        refine lv_bipush (v := 20) hx hb dX8_unfold_232 (by decide) ?_
        refine lv_iload hx hb dX8_unfold_234 (lv_at hl 2 rfl) ?_
        obtain ⟨hin, hf⟩ := ob_if hf
        refine aM_st (a := 6) (by decide) C0 hT hE hJ hP hS (inb_in hin) dX8_unfold_236 (fun H locs hP hS => ?_)
        refine lv_iload hx hb dX8_unfold_237 (lv_at hl 2 rfl) ?_
        refine lv_iload_n hx hb dX8_unfold_239 rfl (lv_at hl 1 rfl) ?_
        refine lv_icmp_ne (tgt := 247) hx hb dX8_unfold_240 (by decide) (fun h240 => ?_) (fun h240 => ?_)
        · rw [if_neg h240] at hf
          refine lv_iconst (v := 0) hx hb dX8_unfold_247 (by decide) ?_
          exact hret _ _ _ _ _ _ rfl hf hP hS dX8_unfold_248
        · rw [if_pos h240] at hf
          refine lv_iconst (v := 1) hx hb dX8_unfold_243 (by decide) ?_
          refine lv_goto (tgt := 248) hx hb dX8_unfold_244 (by decide) ?_
          exact hret _ _ _ _ _ _ rfl hf hP hS dX8_unfold_248
      · rw [if_neg h57] at hf
        refine lv_aload_n hx hb dX8_unfold_60 rfl (lv_at hl 0 rfl) ?_
        refine g_Model_tape C0 hT hE hP mf_X8_13 dX8_unfold_61 ?_
        refine lv_iload hx hb dX8_unfold_64 (lv_at hl 3 rfl) ?_
        obtain ⟨hin, hf⟩ := ob_if hf
        refine aM_ld (a := 1) (by decide) C0 hT hE hP (inb_in hin) dX8_unfold_66 ?_
        refine lv_istore (lv' := [(8, .int (σ.2 1 x6.toNatClampNeg)), (0, .ref (ad 11)), (3, .int x3), (5, .int x5), (6, .int x6), (7, .int x7)]) hx hb dX8_unfold_67 hl (by decide) rfl (fun ls hl => ?_)
        refine lv_iload hx hb dX8_unfold_69 (lv_at hl 0 rfl) ?_
        refine lv_sipush (v := 128) hx hb dX8_unfold_71 (by decide) ?_
        refine lv_icmp_ge (tgt := 84) hx hb dX8_unfold_74 (by decide) (fun h74 => ?_) (fun h74 => ?_)
        · rw [if_pos h74] at hf
          refine lv_iload hx hb dX8_unfold_84 (lv_at hl 0 rfl) ?_
          refine lv_sipush (v := 128) hx hb dX8_unfold_86 (by decide) ?_
          refine lv_icmp_ne (tgt := 96) hx hb dX8_unfold_89 (by decide) (fun h89 => ?_) (fun h89 => ?_)
          · rw [if_neg h89] at hf
            refine lv_sipush (v := 257) hx hb dX8_unfold_96 (by decide) ?_
            refine lv_iload hx hb dX8_unfold_99 (lv_at hl 0 rfl) ?_
            refine lv_isub hx hb dX8_unfold_101 ?_
            exact L102 _ ih _ _ _ _ _ _ _ _ _ _ hP hS (lv_sub hl [1, 2, 3, 4, 5, 0] rfl) hf
          · rw [if_pos h89] at hf
            refine lv_iconst (v := 0) hx hb dX8_unfold_92 (by decide) ?_
            refine lv_goto (tgt := 102) hx hb dX8_unfold_93 (by decide) ?_
            exact L102 _ ih _ _ _ _ _ _ _ _ _ _ hP hS (lv_sub hl [1, 2, 3, 4, 5, 0] rfl) hf
        · rw [if_neg h74] at hf
          refine lv_iload hx hb dX8_unfold_77 (lv_at hl 0 rfl) ?_
          refine lv_iconst (v := 1) hx hb dX8_unfold_79 (by decide) ?_
          refine lv_iadd hx hb dX8_unfold_80 ?_
          refine lv_goto (tgt := 102) hx hb dX8_unfold_81 (by decide) ?_
          exact L102 _ ih _ _ _ _ _ _ _ _ _ _ hP hS (lv_sub hl [1, 2, 3, 4, 5, 0] rfl) hf
  unfold f_X8_unfold at hf
  refine lv_aload_n hx hb dX8_unfold_0 rfl (lv_at hl 0 rfl) ?_
  refine lv_iload_n hx hb dX8_unfold_1 rfl (lv_at hl 2 rfl) ?_
  refine lv_bipush (v := 14) hx hb dX8_unfold_2 (by decide) ?_
  refine lv_iadd hx hb dX8_unfold_4 ?_
  refine lv_iconst (v := 4) hx hb dX8_unfold_5 (by decide) ?_
  obtain ⟨q6, hq, hf⟩ := ob_bind hf
  refine ax_callVi (C := "") (b := 0) (i := 11) (k := 2) (ci := 6) [.int (x2 + 14), .int 4] C0 hT hJ hE (met_X8_number l dC dI cyI cyE tC ad σ (x2 + 14) 4 _ hq) hP hS mc_X8_number ml_X8_135 mi_X8_number ms_X8_number mz_X8 (by decide +kernel) ⟨rfl, rfl⟩ ⟨by decide, by decide⟩ (by decide) cM_O rfl rfl rfl hl.1 (Nat.le_of_ble_eq_true rfl) dX8_unfold_6 ⟨Nat.zero_le _, Nat.zero_le _⟩ (fun H locs hP hS => ?_)
  refine lv_istore_n (lv' := [(3, .int q6.1), (0, .ref (ad 11)), (1, .int x1), (2, .int x2)]) hx hb dX8_unfold_9 rfl hl (by decide) rfl (fun ls hl => ?_)
  refine lv_aload_n hx hb dX8_unfold_10 rfl (lv_at hl 1 rfl) ?_
  refine lv_iload_n hx hb dX8_unfold_11 rfl (lv_at hl 3 rfl) ?_
  refine lv_bipush (v := 10) hx hb dX8_unfold_12 (by decide) ?_
  refine lv_iadd hx hb dX8_unfold_14 ?_
  refine lv_iconst (v := 4) hx hb dX8_unfold_15 (by decide) ?_
  obtain ⟨q16, hq, hf⟩ := ob_bind hf
  refine ax_callVi (C := "") (b := 0) (i := 11) (k := 2) (ci := 6) [.int (x2 + 10), .int 4] C0 hT hJ hE (met_X8_number l dC dI cyI cyE tC ad q6.2 (x2 + 10) 4 _ hq) hP hS mc_X8_number ml_X8_135 mi_X8_number ms_X8_number mz_X8 (by decide +kernel) ⟨rfl, rfl⟩ ⟨by decide, by decide⟩ (by decide) cM_O rfl rfl rfl hl.1 (Nat.le_of_ble_eq_true rfl) dX8_unfold_16 ⟨Nat.zero_le _, Nat.zero_le _⟩ (fun H locs hP hS => ?_)
  refine lv_istore (lv' := [(4, .int q16.1), (3, .int q6.1), (0, .ref (ad 11)), (1, .int x1), (2, .int x2)]) hx hb dX8_unfold_19 hl (by decide) rfl (fun ls hl => ?_)
  refine lv_aload_n hx hb dX8_unfold_21 rfl (lv_at hl 2 rfl) ?_
  refine lv_iload_n hx hb dX8_unfold_22 rfl (lv_at hl 4 rfl) ?_
  refine lv_iconst (v := 2) hx hb dX8_unfold_23 (by decide) ?_
  refine lv_iconst (v := 0) hx hb dX8_unfold_24 (by decide) ?_
  obtain ⟨q25, hq, hf⟩ := ob_bind hf
  refine ax_callVi (C := "") (b := 0) (i := 11) (k := 3) (ci := 6) [.int x2, .int 2, .int 0] C0 hT hJ hE (met_X8_is l dC dI cyI cyE tC ad q16.2 x2 2 0 _ hq) hP hS mc_X8_is ml_X8_141 mi_X8_is ms_X8_is mz_X8 (by decide +kernel) ⟨rfl, rfl⟩ ⟨by decide, by decide⟩ (by decide) cM_O rfl rfl rfl hl.1 (Nat.le_of_ble_eq_true rfl) dX8_unfold_25 ⟨Nat.zero_le _, Nat.zero_le _⟩ (fun H locs hP hS => ?_)
  refine lv_if_eq (tgt := 41) hx hb dX8_unfold_28 (by decide) (fun h28 => ?_) (fun h28 => ?_)
  · rw [if_pos h28] at hf
    refine lv_iconst (v := 0) hx hb dX8_unfold_41 (by decide) ?_
    refine lv_istore (lv' := [(5, .int 0), (4, .int q16.1), (3, .int q6.1), (0, .ref (ad 11)), (1, .int x1), (2, .int x2)]) hx hb dX8_unfold_42 hl (by decide) rfl (fun ls hl => ?_)
    refine lv_iload_n hx hb dX8_unfold_44 rfl (lv_at hl 4 rfl) ?_
    refine lv_istore (lv' := [(6, .int x1), (5, .int 0), (4, .int q16.1), (3, .int q6.1), (0, .ref (ad 11)), (1, .int x1), (2, .int x2)]) hx hb dX8_unfold_45 hl (by decide) rfl (fun ls hl => ?_)
    refine lv_iload_n hx hb dX8_unfold_47 rfl (lv_at hl 5 rfl) ?_
    refine lv_iload hx hb dX8_unfold_48 (lv_at hl 2 rfl) ?_
    refine lv_iadd hx hb dX8_unfold_50 ?_
    refine lv_istore (lv' := [(7, .int (x1 + q16.1)), (6, .int x1), (5, .int 0), (4, .int q16.1), (3, .int q6.1), (0, .ref (ad 11)), (1, .int x1), (2, .int x2)]) hx hb dX8_unfold_51 hl (by decide) rfl (fun ls hl => ?_)
    exact L53 fu _ _ _ _ _ _ _ _ hP hS (lv_sub hl [5, 4, 2, 1, 0] rfl) hf
  · rw [if_neg h28] at hf
    refine lv_aload_n hx hb dX8_unfold_31 rfl (lv_at hl 2 rfl) ?_
    refine lv_bipush (v := 20) hx hb dX8_unfold_32 (by decide) ?_
    refine lv_iload_n hx hb dX8_unfold_34 rfl (lv_at hl 3 rfl) ?_
    refine lv_iload_n hx hb dX8_unfold_35 rfl (lv_at hl 1 rfl) ?_
    obtain ⟨q36, hq, hf⟩ := ob_bind hf
    refine ax_callVv (b := 0) (i := 11) (k := 3) (ci := 6) [.int 20, .int x1, .int q6.1] C0 hT hJ hE (met_X8_setBytes l dC dI cyI cyE tC ad q25.2 20 x1 q6.1 _ hq) hP hS mc_X8_setBytes ml_X8_82 mi_X8_setBytes ms_X8_setBytes mz_X8 (by decide +kernel) ⟨rfl, rfl⟩ ⟨by decide, by decide⟩ (by decide) cM_O rfl rfl rfl hl.1 (Nat.le_of_ble_eq_true rfl) dX8_unfold_36 ⟨Nat.zero_le _, Nat.zero_le _⟩ (fun H locs hP hS => ?_)
    refine lv_iconst (v := 1) hx hb dX8_unfold_39 (by decide) ?_
    exact hret _ _ _ _ _ _ rfl hf hP hS dX8_unfold_40
