def f_X3_endStands (σ : SD) (r1 : Nat) (x2 : Int32) : Option (Int32 × SD) := (f_X4_holds σ r1 x2 22).bind fun q4 => if q4.1 = 0 then (some (0, q4.2)) else ((f_X4_hasSignature q4.2 r1 x2 5 6).bind fun q15 => if q15.1 = 0 then (some (0, q15.2)) else ((f_X4_two q15.2 r1 (x2 + 4)).bind fun q25 => if q25.1 = 0 then ((f_X4_two q25.2 r1 (x2 + 6)).bind fun q36 => if q36.1 = 0 then ((f_X4_two q36.2 r1 (x2 + 20)).bind fun q47 => if q47.1 = 0 then ((f_X4_two q47.2 r1 (x2 + 8)).bind fun q60 => (f_X4_four q60.2 r1 (x2 + 12)).bind fun q69 => (f_X4_four q69.2 r1 (x2 + 16)).bind fun q79 => if (20 : Int32) < q60.1 then (some (0, q79.2)) else ((f_X4_two q79.2 r1 (x2 + 10)).bind fun q96 => if q60.1 = q96.1 then (if (lg_cmp (q79.1 + q69.1) x2.toInt64) = 0 then (if (0 : Int32) < q60.1 then (some (1, (SDi (SDi q96.2 6 0 q60.1) 7 0 q79.1.toInt32))) else (if x2 = 0 then (some (1, (SDi (SDi q96.2 6 0 q60.1) 7 0 q79.1.toInt32))) else (some (0, (SDi (SDi q96.2 6 0 q60.1) 7 0 q79.1.toInt32))))) else (some (0, q96.2))) else (some (0, q96.2)))) else (some (0, q47.2))) else (some (0, q36.2))) else (some (0, q25.2))))
def rm_X3_endStands : Room := { frames := 2, cells := 0, slots := 0, locals := 45 }
set_option maxHeartbeats 4000000 in
set_option maxRecDepth 100000 in
theorem met_X3_endStands (l : Launch) (dC : Nat → ClassId) (dI : Nat → Nat → Nat) (cyI cyE : ClassId) (tC : Nat) (ad : Nat → Nat) (σ : SD) (r1 : Nat) (x2 : Int32) (hb_r1 : r1 < 25) (res : Int32 × SD) (hf : f_X3_endStands σ r1 x2 = some res) : ax_Mi l dC dI cyI cyE tC 77 (cD cyI cyE ad) ad yX3_endStands cX3_endStands 8 (some .boolean) rm_X3_endStands [.ref (ad 74), .ref (ad r1), .int x2] σ res.1 res.2 := by
  intro sz
  refine Met.ofW (cc := cX3_endStands) (maxL := 8) (ret := (some .boolean)) (by decide) rfl ?_
  intro p e s m args below meth c s₁ B hml hv
  obtain ⟨hargs, hsz, hP, hJ, hE⟩ := hv
  subst hsz
  have hx := B.exec
  have hb := B.bytes
  have hr := B.returns
  have hlocks := B.notSynchronized
  have hts := atoms_spec (ws := wsY yX3_endStands cX3_endStands 8 (some .boolean)) B.pre
  have hown : s.vm.findClass RX3 = some m.cls := findClass_of_methodNamed B.named
  have C0 : CallFix p m c cX3_endStands 8 s args (wsY yX3_endStands cX3_endStands 8 (some .boolean)) RX3 := ⟨hx, hb, hml, hown, hts⟩
  have hT : ∀ w ∈ bw, w ∈ wsY yX3_endStands cX3_endStands 8 (some .boolean) := fun w h => List.mem_cons_of_mem _ h
  have hS : va_S (ax_A 77 ad s.heap.size) s.heap s.heap [] := va_S.rf
  rw [show entryFrame m args 8 = entryFrame m ([.ref (ad 74), .ref (ad r1), .int x2] : List Value).toArray 8 by rw [hargs]]
  have hl := lv_entry ([.ref (ad 74), .ref (ad r1), .int x2]) (n := 8) (Nat.le_of_ble_eq_true rfl)
  rw [lg_entry_eq]
  generalize (lg_sl ([.ref (ad 74), .ref (ad r1), .int x2]) ++ List.replicate (8 - (lg_sl ([.ref (ad 74), .ref (ad r1), .int x2])).length) Slot.unset).toArray = ls at hl ⊢
  have hl : lv_has ls 8 [(0, .ref (ad 74)), (1, .ref (ad r1)), (2, .int x2)] := hl
  obtain ⟨Q, hQ⟩ : ∃ Q : State → Prop, Q = MQ below (va_Qi (fun (a : Int32) (u : SD) => a = res.1 ∧ u = res.2) (ax_B dC dI 77 (cD cyI cyE ad) ad) (ax_A 77 ad s.heap.size)) args s 0 0 (ax_A 77 ad s.heap.size) := ⟨_, rfl⟩
  show W p l e rm_X3_endStands s m args below meth c s.heap [] 0 0 _ _
  rw [← hQ]
  have hret : ∀ (v : Int32) (σ : SD) (H : Heap) (locs : List Loc) (ls : Array Slot) (pc : Nat), narrow .boolean (.int v) = .int v → some (v, σ) = some res → va_P (dC, dI) vwCl (ax_w 77 ad (cD cyI cyE ad σ)) H → va_S (ax_A 77 ad s.heap.size) s.heap H locs → decode cX3_endStands pc = .ok (.ireturn, 1) → W p l e rm_X3_endStands s m args below meth c H locs 0 0 Q (F0 m pc ls [.int v]) := by
    intro v σ H locs ls pc hn hf hP hS hd
    cases hf
    rw [hQ]
    exact ax_iret hx hb hr hlocks hn hP hS hd rfl rfl
  unfold f_X3_endStands at hf
  refine lv_aload_n hx hb dX3_endStands_0 rfl (lv_at hl 1 rfl) ?_
  refine lv_iload_n hx hb dX3_endStands_1 rfl (lv_at hl 2 rfl) ?_
  refine lv_bipush (v := 22) hx hb dX3_endStands_2 (by decide) ?_
  obtain ⟨q4, hq, hf⟩ := ob_bind hf
  refine ax_callVi (C := "") (b := 0) (i := r1) (k := 2) (ci := 3) [.int x2, .int 22] C0 hT hJ hE (met_X4_holds l dC dI cyI cyE tC ad σ r1 x2 22 (by omega) _ hq) hP hS mc_X4_holds ml_X3_85 mi_X4_holds ms_X4_holds mz_X4 (by decide +kernel) ⟨rfl, rfl⟩ ⟨by decide, by decide⟩ (by omega) (cD_Row (by omega)) rfl rfl rfl hl.1 (Nat.le_of_ble_eq_true rfl) dX3_endStands_4 ⟨Nat.zero_le _, Nat.zero_le _⟩ (fun H locs hP hS => ?_)
  refine lv_if_eq (tgt := 53) hx hb dX3_endStands_7 (by decide) (fun h7 => ?_) (fun h7 => ?_)
  · rw [if_pos h7] at hf
    refine lv_iconst (v := 0) hx hb dX3_endStands_53 (by decide) ?_
    exact hret _ _ _ _ _ _ rfl hf hP hS dX3_endStands_54
  · rw [if_neg h7] at hf
    refine lv_aload_n hx hb dX3_endStands_10 rfl (lv_at hl 1 rfl) ?_
    refine lv_iload_n hx hb dX3_endStands_11 rfl (lv_at hl 2 rfl) ?_
    refine lv_iconst (v := 5) hx hb dX3_endStands_12 (by decide) ?_
    refine lv_bipush (v := 6) hx hb dX3_endStands_13 (by decide) ?_
    obtain ⟨q15, hq, hf⟩ := ob_bind hf
    refine ax_callVi (C := "") (b := 0) (i := r1) (k := 3) (ci := 3) [.int x2, .int 5, .int 6] C0 hT hJ hE (met_X4_hasSignature l dC dI cyI cyE tC ad q4.2 r1 x2 5 6 (by omega) _ hq) hP hS mc_X4_hasSignature ml_X3_89 mi_X4_hasSignature ms_X4_hasSignature mz_X4 (by decide +kernel) ⟨rfl, rfl⟩ ⟨by decide, by decide⟩ (by omega) (cD_Row (by omega)) rfl rfl rfl hl.1 (Nat.le_of_ble_eq_true rfl) dX3_endStands_15 ⟨Nat.zero_le _, Nat.zero_le _⟩ (fun H locs hP hS => ?_)
    refine lv_if_eq (tgt := 53) hx hb dX3_endStands_18 (by decide) (fun h18 => ?_) (fun h18 => ?_)
    · rw [if_pos h18] at hf
      refine lv_iconst (v := 0) hx hb dX3_endStands_53 (by decide) ?_
      exact hret _ _ _ _ _ _ rfl hf hP hS dX3_endStands_54
    · rw [if_neg h18] at hf
      refine lv_aload_n hx hb dX3_endStands_21 rfl (lv_at hl 1 rfl) ?_
      refine lv_iload_n hx hb dX3_endStands_22 rfl (lv_at hl 2 rfl) ?_
      refine lv_iconst (v := 4) hx hb dX3_endStands_23 (by decide) ?_
      refine lv_iadd hx hb dX3_endStands_24 ?_
      obtain ⟨q25, hq, hf⟩ := ob_bind hf
      refine ax_callVi (C := "") (b := 0) (i := r1) (k := 1) (ci := 3) [.int (x2 + 4)] C0 hT hJ hE (met_X4_two l dC dI cyI cyE tC ad q15.2 r1 (x2 + 4) (by omega) _ hq) hP hS mc_X4_two ml_X3_92 mi_X4_two ms_X4_two mz_X4 (by decide +kernel) ⟨rfl, rfl⟩ ⟨by decide, by decide⟩ (by omega) (cD_Row (by omega)) rfl rfl rfl hl.1 (Nat.le_of_ble_eq_true rfl) dX3_endStands_25 ⟨Nat.zero_le _, Nat.zero_le _⟩ (fun H locs hP hS => ?_)
      refine lv_if_ne (tgt := 53) hx hb dX3_endStands_28 (by decide) (fun h28 => ?_) (fun h28 => ?_)
      · rw [if_neg h28] at hf
        refine lv_iconst (v := 0) hx hb dX3_endStands_53 (by decide) ?_
        exact hret _ _ _ _ _ _ rfl hf hP hS dX3_endStands_54
      · rw [if_pos h28] at hf
        refine lv_aload_n hx hb dX3_endStands_31 rfl (lv_at hl 1 rfl) ?_
        refine lv_iload_n hx hb dX3_endStands_32 rfl (lv_at hl 2 rfl) ?_
        refine lv_bipush (v := 6) hx hb dX3_endStands_33 (by decide) ?_
        refine lv_iadd hx hb dX3_endStands_35 ?_
        obtain ⟨q36, hq, hf⟩ := ob_bind hf
        refine ax_callVi (C := "") (b := 0) (i := r1) (k := 1) (ci := 3) [.int (x2 + 6)] C0 hT hJ hE (met_X4_two l dC dI cyI cyE tC ad q25.2 r1 (x2 + 6) (by omega) _ hq) hP hS mc_X4_two ml_X3_92 mi_X4_two ms_X4_two mz_X4 (by decide +kernel) ⟨rfl, rfl⟩ ⟨by decide, by decide⟩ (by omega) (cD_Row (by omega)) rfl rfl rfl hl.1 (Nat.le_of_ble_eq_true rfl) dX3_endStands_36 ⟨Nat.zero_le _, Nat.zero_le _⟩ (fun H locs hP hS => ?_)
        refine lv_if_ne (tgt := 53) hx hb dX3_endStands_39 (by decide) (fun h39 => ?_) (fun h39 => ?_)
        · rw [if_neg h39] at hf
          refine lv_iconst (v := 0) hx hb dX3_endStands_53 (by decide) ?_
          exact hret _ _ _ _ _ _ rfl hf hP hS dX3_endStands_54
        · rw [if_pos h39] at hf
          refine lv_aload_n hx hb dX3_endStands_42 rfl (lv_at hl 1 rfl) ?_
          refine lv_iload_n hx hb dX3_endStands_43 rfl (lv_at hl 2 rfl) ?_
          refine lv_bipush (v := 20) hx hb dX3_endStands_44 (by decide) ?_
          refine lv_iadd hx hb dX3_endStands_46 ?_
          obtain ⟨q47, hq, hf⟩ := ob_bind hf
          refine ax_callVi (C := "") (b := 0) (i := r1) (k := 1) (ci := 3) [.int (x2 + 20)] C0 hT hJ hE (met_X4_two l dC dI cyI cyE tC ad q36.2 r1 (x2 + 20) (by omega) _ hq) hP hS mc_X4_two ml_X3_92 mi_X4_two ms_X4_two mz_X4 (by decide +kernel) ⟨rfl, rfl⟩ ⟨by decide, by decide⟩ (by omega) (cD_Row (by omega)) rfl rfl rfl hl.1 (Nat.le_of_ble_eq_true rfl) dX3_endStands_47 ⟨Nat.zero_le _, Nat.zero_le _⟩ (fun H locs hP hS => ?_)
          refine lv_if_eq (tgt := 55) hx hb dX3_endStands_50 (by decide) (fun h50 => ?_) (fun h50 => ?_)
          · rw [if_pos h50] at hf
            refine lv_aload_n hx hb dX3_endStands_55 rfl (lv_at hl 1 rfl) ?_
            refine lv_iload_n hx hb dX3_endStands_56 rfl (lv_at hl 2 rfl) ?_
            refine lv_bipush (v := 8) hx hb dX3_endStands_57 (by decide) ?_
            refine lv_iadd hx hb dX3_endStands_59 ?_
            obtain ⟨q60, hq, hf⟩ := ob_bind hf
            refine ax_callVi (C := "") (b := 0) (i := r1) (k := 1) (ci := 3) [.int (x2 + 8)] C0 hT hJ hE (met_X4_two l dC dI cyI cyE tC ad q47.2 r1 (x2 + 8) (by omega) _ hq) hP hS mc_X4_two ml_X3_92 mi_X4_two ms_X4_two mz_X4 (by decide +kernel) ⟨rfl, rfl⟩ ⟨by decide, by decide⟩ (by omega) (cD_Row (by omega)) rfl rfl rfl hl.1 (Nat.le_of_ble_eq_true rfl) dX3_endStands_60 ⟨Nat.zero_le _, Nat.zero_le _⟩ (fun H locs hP hS => ?_)
            refine lv_istore_n (lv' := [(3, .int q60.1), (0, .ref (ad 74)), (1, .ref (ad r1)), (2, .int x2)]) hx hb dX3_endStands_63 rfl hl (by decide) rfl (fun ls hl => ?_)
            refine lv_aload_n hx hb dX3_endStands_64 rfl (lv_at hl 2 rfl) ?_
            refine lv_iload_n hx hb dX3_endStands_65 rfl (lv_at hl 3 rfl) ?_
            refine lv_bipush (v := 12) hx hb dX3_endStands_66 (by decide) ?_
            refine lv_iadd hx hb dX3_endStands_68 ?_
            obtain ⟨q69, hq, hf⟩ := ob_bind hf
            refine ax_callVl (b := 0) (i := r1) (k := 1) (ci := 3) [.int (x2 + 12)] C0 hT hJ hE (met_X4_four l dC dI cyI cyE tC ad q60.2 r1 (x2 + 12) (by omega) _ hq) hP hS mc_X4_four ml_X3_96 mi_X4_four ms_X4_four mz_X4 (by decide +kernel) ⟨rfl, rfl⟩ ⟨by decide, by decide⟩ (by omega) (cD_Row (by omega)) rfl rfl rfl hl.1 (Nat.le_of_ble_eq_true rfl) dX3_endStands_69 ⟨Nat.zero_le _, Nat.zero_le _⟩ (fun H locs hP hS => ?_)
            refine lv_lstore (lv' := [(4, .long q69.1), (3, .int q60.1), (0, .ref (ad 74)), (1, .ref (ad r1)), (2, .int x2)]) hx hb dX3_endStands_72 hl (by decide) rfl (fun ls hl => ?_)
            refine lv_aload_n hx hb dX3_endStands_74 rfl (lv_at hl 3 rfl) ?_
            refine lv_iload_n hx hb dX3_endStands_75 rfl (lv_at hl 4 rfl) ?_
            refine lv_bipush (v := 16) hx hb dX3_endStands_76 (by decide) ?_
            refine lv_iadd hx hb dX3_endStands_78 ?_
            obtain ⟨q79, hq, hf⟩ := ob_bind hf
            refine ax_callVl (b := 0) (i := r1) (k := 1) (ci := 3) [.int (x2 + 16)] C0 hT hJ hE (met_X4_four l dC dI cyI cyE tC ad q69.2 r1 (x2 + 16) (by omega) _ hq) hP hS mc_X4_four ml_X3_96 mi_X4_four ms_X4_four mz_X4 (by decide +kernel) ⟨rfl, rfl⟩ ⟨by decide, by decide⟩ (by omega) (cD_Row (by omega)) rfl rfl rfl hl.1 (Nat.le_of_ble_eq_true rfl) dX3_endStands_79 ⟨Nat.zero_le _, Nat.zero_le _⟩ (fun H locs hP hS => ?_)
            refine lv_lstore (lv' := [(6, .long q79.1), (4, .long q69.1), (3, .int q60.1), (0, .ref (ad 74)), (1, .ref (ad r1)), (2, .int x2)]) hx hb dX3_endStands_82 hl (by decide) rfl (fun ls hl => ?_)
            refine lv_iload_n hx hb dX3_endStands_84 rfl (lv_at hl 2 rfl) ?_
            refine lv_bipush (v := 20) hx hb dX3_endStands_85 (by decide) ?_
            refine lv_icmp_gt (tgt := 113) hx hb dX3_endStands_87 (by decide) (fun h87 => ?_) (fun h87 => ?_)
            · rw [if_pos h87] at hf
              refine lv_iconst (v := 0) hx hb dX3_endStands_113 (by decide) ?_
              exact hret _ _ _ _ _ _ rfl hf hP hS dX3_endStands_114
            · rw [if_neg h87] at hf
              refine lv_iload_n hx hb dX3_endStands_90 rfl (lv_at hl 2 rfl) ?_
              refine lv_aload_n hx hb dX3_endStands_91 rfl (lv_at hl 4 rfl) ?_
              refine lv_iload_n hx hb dX3_endStands_92 rfl (lv_at hl 5 rfl) ?_
              refine lv_bipush (v := 10) hx hb dX3_endStands_93 (by decide) ?_
              refine lv_iadd hx hb dX3_endStands_95 ?_
              obtain ⟨q96, hq, hf⟩ := ob_bind hf
              refine ax_callVi (C := "") (b := 0) (i := r1) (k := 1) (ci := 3) [.int (x2 + 10)] C0 hT hJ hE (met_X4_two l dC dI cyI cyE tC ad q79.2 r1 (x2 + 10) (by omega) _ hq) hP hS mc_X4_two ml_X3_92 mi_X4_two ms_X4_two mz_X4 (by decide +kernel) ⟨rfl, rfl⟩ ⟨by decide, by decide⟩ (by omega) (cD_Row (by omega)) rfl rfl rfl hl.1 (Nat.le_of_ble_eq_true rfl) dX3_endStands_96 ⟨Nat.zero_le _, Nat.zero_le _⟩ (fun H locs hP hS => ?_)
              refine lv_icmp_ne (tgt := 113) hx hb dX3_endStands_99 (by decide) (fun h99 => ?_) (fun h99 => ?_)
              · rw [if_neg h99] at hf
                refine lv_iconst (v := 0) hx hb dX3_endStands_113 (by decide) ?_
                exact hret _ _ _ _ _ _ rfl hf hP hS dX3_endStands_114
              · rw [if_pos h99] at hf
                refine lv_lload hx hb dX3_endStands_102 (lv_at hl 0 rfl) ?_
                refine lv_lload hx hb dX3_endStands_104 (lv_at hl 1 rfl) ?_
                refine lv_ladd hx hb dX3_endStands_106 ?_
                refine lv_iload_n hx hb dX3_endStands_107 rfl (lv_at hl 5 rfl) ?_
                refine lv_i2l hx hb dX3_endStands_108 rfl ?_
                refine W.lcmp hx hb dX3_endStands_109 ?_
                refine lv_if_eq (tgt := 115) hx hb dX3_endStands_110 (by decide) (fun h110 => ?_) (fun h110 => ?_)
                · rw [if_pos h110] at hf
                  refine lv_aload_n hx hb dX3_endStands_115 rfl (lv_at hl 3 rfl) ?_
                  refine lv_iload_n hx hb dX3_endStands_116 rfl (lv_at hl 2 rfl) ?_
                  refine p_Reader_count C0 hT hE hJ hP hS mf_X3_100 dX3_endStands_117 (fun H locs hP hS => ?_)
                  refine lv_aload_n hx hb dX3_endStands_120 rfl (lv_at hl 3 rfl) ?_
                  refine lv_lload hx hb dX3_endStands_121 (lv_at hl 0 rfl) ?_
                  refine lv_l2i hx hb dX3_endStands_123 rfl ?_
                  refine p_Reader_firstCentral C0 hT hE hJ hP hS mf_X3_103 dX3_endStands_124 (fun H locs hP hS => ?_)
                  refine lv_iload_n hx hb dX3_endStands_127 rfl (lv_at hl 2 rfl) ?_
                  refine lv_if_gt (tgt := 135) hx hb dX3_endStands_128 (by decide) (fun h128 => ?_) (fun h128 => ?_)
                  · rw [if_pos h128] at hf
                    refine lv_iconst (v := 1) hx hb dX3_endStands_135 (by decide) ?_
                    refine lv_goto (tgt := 140) hx hb dX3_endStands_136 (by decide) ?_
                    exact hret _ _ _ _ _ _ rfl hf hP hS dX3_endStands_140
                  · rw [if_neg h128] at hf
                    refine lv_iload_n hx hb dX3_endStands_131 rfl (lv_at hl 5 rfl) ?_
                    refine lv_if_ne (tgt := 139) hx hb dX3_endStands_132 (by decide) (fun h132 => ?_) (fun h132 => ?_)
                    · rw [if_neg h132] at hf
                      refine lv_iconst (v := 0) hx hb dX3_endStands_139 (by decide) ?_
                      exact hret _ _ _ _ _ _ rfl hf hP hS dX3_endStands_140
                    · rw [if_pos h132] at hf
                      refine lv_iconst (v := 1) hx hb dX3_endStands_135 (by decide) ?_
                      refine lv_goto (tgt := 140) hx hb dX3_endStands_136 (by decide) ?_
                      exact hret _ _ _ _ _ _ rfl hf hP hS dX3_endStands_140
                · rw [if_neg h110] at hf
                  refine lv_iconst (v := 0) hx hb dX3_endStands_113 (by decide) ?_
                  exact hret _ _ _ _ _ _ rfl hf hP hS dX3_endStands_114
          · rw [if_neg h50] at hf
            refine lv_iconst (v := 0) hx hb dX3_endStands_53 (by decide) ?_
            exact hret _ _ _ _ _ _ rfl hf hP hS dX3_endStands_54
def f_X3_fails (σ : SD) (x1 : Int32) (x2 : Int32) (x3 : Int32) : Option (Int32 × SD) := some (0, (SDi (SDi (SDi σ 9 0 x1) 10 0 x2) 11 0 x3))
def rm_X3_fails : Room := { frames := 0, cells := 0, slots := 0, locals := 0 }
set_option maxHeartbeats 4000000 in
set_option maxRecDepth 100000 in
theorem met_X3_fails (l : Launch) (dC : Nat → ClassId) (dI : Nat → Nat → Nat) (cyI cyE : ClassId) (tC : Nat) (ad : Nat → Nat) (σ : SD) (x1 : Int32) (x2 : Int32) (x3 : Int32) (res : Int32 × SD) (hf : f_X3_fails σ x1 x2 x3 = some res) : ax_Mi l dC dI cyI cyE tC 77 (cD cyI cyE ad) ad yX3_fails cX3_fails 4 (some .boolean) rm_X3_fails [.ref (ad 74), .int x1, .int x2, .int x3] σ res.1 res.2 := by
  intro sz
  refine Met.ofW (cc := cX3_fails) (maxL := 4) (ret := (some .boolean)) (by decide) rfl ?_
  intro p e s m args below meth c s₁ B hml hv
  obtain ⟨hargs, hsz, hP, hJ, hE⟩ := hv
  subst hsz
  have hx := B.exec
  have hb := B.bytes
  have hr := B.returns
  have hlocks := B.notSynchronized
  have hts := atoms_spec (ws := wsY yX3_fails cX3_fails 4 (some .boolean)) B.pre
  have hown : s.vm.findClass RX3 = some m.cls := findClass_of_methodNamed B.named
  have C0 : CallFix p m c cX3_fails 4 s args (wsY yX3_fails cX3_fails 4 (some .boolean)) RX3 := ⟨hx, hb, hml, hown, hts⟩
  have hT : ∀ w ∈ bw, w ∈ wsY yX3_fails cX3_fails 4 (some .boolean) := fun w h => List.mem_cons_of_mem _ h
  have hS : va_S (ax_A 77 ad s.heap.size) s.heap s.heap [] := va_S.rf
  rw [show entryFrame m args 4 = entryFrame m ([.ref (ad 74), .int x1, .int x2, .int x3] : List Value).toArray 4 by rw [hargs]]
  have hl := lv_entry ([.ref (ad 74), .int x1, .int x2, .int x3]) (n := 4) (Nat.le_of_ble_eq_true rfl)
  rw [lg_entry_eq]
  generalize (lg_sl ([.ref (ad 74), .int x1, .int x2, .int x3]) ++ List.replicate (4 - (lg_sl ([.ref (ad 74), .int x1, .int x2, .int x3])).length) Slot.unset).toArray = ls at hl ⊢
  have hl : lv_has ls 4 [(0, .ref (ad 74)), (1, .int x1), (2, .int x2), (3, .int x3)] := hl
  obtain ⟨Q, hQ⟩ : ∃ Q : State → Prop, Q = MQ below (va_Qi (fun (a : Int32) (u : SD) => a = res.1 ∧ u = res.2) (ax_B dC dI 77 (cD cyI cyE ad) ad) (ax_A 77 ad s.heap.size)) args s 0 0 (ax_A 77 ad s.heap.size) := ⟨_, rfl⟩
  show W p l e rm_X3_fails s m args below meth c s.heap [] 0 0 _ _
  rw [← hQ]
  have hret : ∀ (v : Int32) (σ : SD) (H : Heap) (locs : List Loc) (ls : Array Slot) (pc : Nat), narrow .boolean (.int v) = .int v → some (v, σ) = some res → va_P (dC, dI) vwCl (ax_w 77 ad (cD cyI cyE ad σ)) H → va_S (ax_A 77 ad s.heap.size) s.heap H locs → decode cX3_fails pc = .ok (.ireturn, 1) → W p l e rm_X3_fails s m args below meth c H locs 0 0 Q (F0 m pc ls [.int v]) := by
    intro v σ H locs ls pc hn hf hP hS hd
    cases hf
    rw [hQ]
    exact ax_iret hx hb hr hlocks hn hP hS hd rfl rfl
  unfold f_X3_fails at hf
  refine lv_aload_n hx hb dX3_fails_0 rfl (lv_at hl 0 rfl) ?_
  refine lv_iload_n hx hb dX3_fails_1 rfl (lv_at hl 1 rfl) ?_
  refine p_Reader_faultNumber C0 hT hE hJ hP hS mf_X3_34 dX3_fails_2 (fun H locs hP hS => ?_)
  refine lv_aload_n hx hb dX3_fails_5 rfl (lv_at hl 0 rfl) ?_
  refine lv_iload_n hx hb dX3_fails_6 rfl (lv_at hl 2 rfl) ?_
  refine p_Reader_faultFile C0 hT hE hJ hP hS mf_X3_38 dX3_fails_7 (fun H locs hP hS => ?_)
  refine lv_aload_n hx hb dX3_fails_10 rfl (lv_at hl 0 rfl) ?_
  refine lv_iload_n hx hb dX3_fails_11 rfl (lv_at hl 3 rfl) ?_
  refine p_Reader_faultPlace C0 hT hE hJ hP hS mf_X3_41 dX3_fails_12 (fun H locs hP hS => ?_)
  refine lv_iconst (v := 0) hx hb dX3_fails_15 (by decide) ?_
  exact hret _ _ _ _ _ _ rfl hf hP hS dX3_fails_16
def f_X3_endPasses (σ : SD) (r1 : Nat) : Option (Int32 × SD) := (f_X4_size σ r1).bind fun q3 => (f_X3_endStands (SDi q3.2 8 0 (if (0 : Int32) < (q3.1 - 22) then (q3.1 - 22) else 0)) r1 ((SDi q3.2 8 0 (if (0 : Int32) < (q3.1 - 22) then (q3.1 - 22) else 0)).1 8 0)).bind fun q21 => if q21.1 = 0 then ((f_X3_fails q21.2 1 (-1) (q21.2.1 8 0)).bind fun q34 => if q34.1 = 0 then (some (0, q34.2)) else (some (1, q34.2))) else (some (1, q21.2))
def rm_X3_endPasses : Room := { frames := 3, cells := 0, slots := 0, locals := 72 }
set_option maxHeartbeats 4000000 in
set_option maxRecDepth 100000 in
theorem met_X3_endPasses (l : Launch) (dC : Nat → ClassId) (dI : Nat → Nat → Nat) (cyI cyE : ClassId) (tC : Nat) (ad : Nat → Nat) (σ : SD) (r1 : Nat) (hb_r1 : r1 < 25) (res : Int32 × SD) (hf : f_X3_endPasses σ r1 = some res) : ax_Mi l dC dI cyI cyE tC 77 (cD cyI cyE ad) ad yX3_endPasses cX3_endPasses 2 (some .boolean) rm_X3_endPasses [.ref (ad 74), .ref (ad r1)] σ res.1 res.2 := by
  intro sz
  refine Met.ofW (cc := cX3_endPasses) (maxL := 2) (ret := (some .boolean)) (by decide) rfl ?_
  intro p e s m args below meth c s₁ B hml hv
  obtain ⟨hargs, hsz, hP, hJ, hE⟩ := hv
  subst hsz
  have hx := B.exec
  have hb := B.bytes
  have hr := B.returns
  have hlocks := B.notSynchronized
  have hts := atoms_spec (ws := wsY yX3_endPasses cX3_endPasses 2 (some .boolean)) B.pre
  have hown : s.vm.findClass RX3 = some m.cls := findClass_of_methodNamed B.named
  have C0 : CallFix p m c cX3_endPasses 2 s args (wsY yX3_endPasses cX3_endPasses 2 (some .boolean)) RX3 := ⟨hx, hb, hml, hown, hts⟩
  have hT : ∀ w ∈ bw, w ∈ wsY yX3_endPasses cX3_endPasses 2 (some .boolean) := fun w h => List.mem_cons_of_mem _ h
  have hS : va_S (ax_A 77 ad s.heap.size) s.heap s.heap [] := va_S.rf
  rw [show entryFrame m args 2 = entryFrame m ([.ref (ad 74), .ref (ad r1)] : List Value).toArray 2 by rw [hargs]]
  have hl := lv_entry ([.ref (ad 74), .ref (ad r1)]) (n := 2) (Nat.le_of_ble_eq_true rfl)
  rw [lg_entry_eq]
  generalize (lg_sl ([.ref (ad 74), .ref (ad r1)]) ++ List.replicate (2 - (lg_sl ([.ref (ad 74), .ref (ad r1)])).length) Slot.unset).toArray = ls at hl ⊢
  have hl : lv_has ls 2 [(0, .ref (ad 74)), (1, .ref (ad r1))] := hl
  obtain ⟨Q, hQ⟩ : ∃ Q : State → Prop, Q = MQ below (va_Qi (fun (a : Int32) (u : SD) => a = res.1 ∧ u = res.2) (ax_B dC dI 77 (cD cyI cyE ad) ad) (ax_A 77 ad s.heap.size)) args s 0 0 (ax_A 77 ad s.heap.size) := ⟨_, rfl⟩
  show W p l e rm_X3_endPasses s m args below meth c s.heap [] 0 0 _ _
  rw [← hQ]
  have hret : ∀ (v : Int32) (σ : SD) (H : Heap) (locs : List Loc) (ls : Array Slot) (pc : Nat), narrow .boolean (.int v) = .int v → some (v, σ) = some res → va_P (dC, dI) vwCl (ax_w 77 ad (cD cyI cyE ad σ)) H → va_S (ax_A 77 ad s.heap.size) s.heap H locs → decode cX3_endPasses pc = .ok (.ireturn, 1) → W p l e rm_X3_endPasses s m args below meth c H locs 0 0 Q (F0 m pc ls [.int v]) := by
    intro v σ H locs ls pc hn hf hP hS hd
    cases hf
    rw [hQ]
    exact ax_iret hx hb hr hlocks hn hP hS hd rfl rfl
  unfold f_X3_endPasses at hf
  refine lv_aload_n hx hb dX3_endPasses_0 rfl (lv_at hl 0 rfl) ?_
  refine lv_iconst (v := 0) hx hb dX3_endPasses_1 (by decide) ?_
  refine lv_aload_n hx hb dX3_endPasses_2 rfl (lv_at hl 1 rfl) ?_
  obtain ⟨q3, hq, hf⟩ := ob_bind hf
  refine ax_callVi (C := "") (b := 0) (i := r1) (k := 0) (ci := 3) [] C0 hT hJ hE (met_X4_size l dC dI cyI cyE tC ad σ r1 (by omega) _ hq) hP hS mc_X4_size ml_X3_64 mi_X4_size ms_X4_size mz_X4 (by decide +kernel) ⟨rfl, rfl⟩ ⟨by decide, by decide⟩ (by omega) (cD_Row (by omega)) rfl rfl rfl hl.1 (Nat.le_of_ble_eq_true rfl) dX3_endPasses_3 ⟨Nat.zero_le _, Nat.zero_le _⟩ (fun H locs hP hS => ?_)
  refine lv_bipush (v := 22) hx hb dX3_endPasses_6 (by decide) ?_
  refine lv_isub hx hb dX3_endPasses_8 ?_
  refine va_mmax hx hb (C0.2.2.1.trans hl.1.symm) hown (C0.2.2.2.2 _ (hT _ ml_X3_68)) (C0.2.2.2.2 _ (hT _ mt_J9_max_7cf53)) (C0.2.2.2.2 _ (hT _ mz_J9)) (C0.2.2.2.2 _ (hT _ mc_J9_max_7cf53)) (Nat.le_of_ble_eq_true rfl) (Nat.le_of_ble_eq_true rfl) (Nat.zero_le _) (Nat.zero_le _) dX3_endPasses_9 ?_
  refine p_Reader_endAt C0 hT hE hJ hP hS mf_X3_74 dX3_endPasses_12 (fun H locs hP hS => ?_)
  refine lv_aload_n hx hb dX3_endPasses_15 rfl (lv_at hl 0 rfl) ?_
  refine lv_aload_n hx hb dX3_endPasses_16 rfl (lv_at hl 1 rfl) ?_
  refine lv_aload_n hx hb dX3_endPasses_17 rfl (lv_at hl 0 rfl) ?_
  refine g_Reader_endAt C0 hT hE hP mf_X3_74 dX3_endPasses_18 ?_
  obtain ⟨q21, hq, hf⟩ := ob_bind hf
  refine ax_callVi (C := "") (b := 0) (i := 74) (k := 2) (ci := 2) [.ref (ad r1), .int ((SDi q3.2 8 0 (if (0 : Int32) < (q3.1 - 22) then (q3.1 - 22) else 0)).1 8 0)] C0 hT hJ hE (met_X3_endStands l dC dI cyI cyE tC ad (SDi q3.2 8 0 (if (0 : Int32) < (q3.1 - 22) then (q3.1 - 22) else 0)) r1 ((SDi q3.2 8 0 (if (0 : Int32) < (q3.1 - 22) then (q3.1 - 22) else 0)).1 8 0) (by omega) _ hq) hP hS mc_X3_endStands ml_X3_77 mi_X3_endStands ms_X3_endStands mz_X3 (by decide +kernel) ⟨rfl, rfl⟩ ⟨by decide, by decide⟩ (by decide) cD_Reader rfl rfl rfl hl.1 (Nat.le_of_ble_eq_true rfl) dX3_endPasses_21 ⟨Nat.zero_le _, Nat.zero_le _⟩ (fun H locs hP hS => ?_)
  refine lv_if_ne (tgt := 40) hx hb dX3_endPasses_24 (by decide) (fun h24 => ?_) (fun h24 => ?_)
  · rw [if_neg h24] at hf
    refine lv_iconst (v := 1) hx hb dX3_endPasses_40 (by decide) ?_
    refine lv_goto (tgt := 45) hx hb dX3_endPasses_41 (by decide) ?_
    exact hret _ _ _ _ _ _ rfl hf hP hS dX3_endPasses_45
  · rw [if_pos h24] at hf
    refine lv_aload_n hx hb dX3_endPasses_27 rfl (lv_at hl 0 rfl) ?_
    refine lv_iconst (v := 1) hx hb dX3_endPasses_28 (by decide) ?_
    refine lv_iconst (v := (-1)) hx hb dX3_endPasses_29 (by decide) ?_
    refine lv_aload_n hx hb dX3_endPasses_30 rfl (lv_at hl 0 rfl) ?_
    refine g_Reader_endAt C0 hT hE hP mf_X3_74 dX3_endPasses_31 ?_
    obtain ⟨q34, hq, hf⟩ := ob_bind hf
    refine ax_callVi (C := "") (b := 0) (i := 74) (k := 3) (ci := 2) [.int 1, .int (-1), .int (q21.2.1 8 0)] C0 hT hJ hE (met_X3_fails l dC dI cyI cyE tC ad q21.2 1 (-1) (q21.2.1 8 0) _ hq) hP hS mc_X3_fails ml_X3_81 mi_X3_fails ms_X3_fails mz_X3 (by decide +kernel) ⟨rfl, rfl⟩ ⟨by decide, by decide⟩ (by decide) cD_Reader rfl rfl rfl hl.1 (Nat.le_of_ble_eq_true rfl) dX3_endPasses_34 ⟨Nat.zero_le _, Nat.zero_le _⟩ (fun H locs hP hS => ?_)
    refine lv_if_eq (tgt := 44) hx hb dX3_endPasses_37 (by decide) (fun h37 => ?_) (fun h37 => ?_)
    · rw [if_pos h37] at hf
      refine lv_iconst (v := 0) hx hb dX3_endPasses_44 (by decide) ?_
      exact hret _ _ _ _ _ _ rfl hf hP hS dX3_endPasses_45
    · rw [if_neg h37] at hf
      refine lv_iconst (v := 1) hx hb dX3_endPasses_40 (by decide) ?_
      refine lv_goto (tgt := 45) hx hb dX3_endPasses_41 (by decide) ?_
      exact hret _ _ _ _ _ _ rfl hf hP hS dX3_endPasses_45
def f_X4_isName_24 (r0 : Nat) (x1 : Int32) (x2 : Int32) : Nat → SD → Int32 → Option (Int32 × SD)
  | 0, _, _ => none
  | n + 1, σ, x3 => if x2 ≤ x3 then (some (1, σ)) else ((f_X4_at σ r0 (x1 + x3)).bind fun q33 => if q33.1 < 33 then (some (0, q33.2)) else (if q33.1 ≤ 126 then (f_X4_isName_24 r0 x1 x2 n q33.2 (x3 + 1)) else (some (0, q33.2))))
def f_X4_isName (σ : SD) (r0 : Nat) (x1 : Int32) (x2 : Int32) : Option (Int32 × SD) := if x2 < 1 then (some (0, σ)) else (if (30 : Int32) < x2 then (some (0, σ)) else ((f_X4_holds σ r0 x1 x2).bind fun q14 => if q14.1 = 0 then (some (0, q14.2)) else (f_X4_isName_24 r0 x1 x2 fu q14.2 0)))
def rm_X4_isName : Room := { frames := 1, cells := 0, slots := 0, locals := 22 }
set_option maxHeartbeats 4000000 in
set_option maxRecDepth 100000 in
theorem met_X4_isName (l : Launch) (dC : Nat → ClassId) (dI : Nat → Nat → Nat) (cyI cyE : ClassId) (tC : Nat) (ad : Nat → Nat) (σ : SD) (r0 : Nat) (x1 : Int32) (x2 : Int32) (hb_r0 : r0 < 25) (res : Int32 × SD) (hf : f_X4_isName σ r0 x1 x2 = some res) : ax_Mi l dC dI cyI cyE tC 77 (cD cyI cyE ad) ad yX4_isName cX4_isName 5 (some .boolean) rm_X4_isName [.ref (ad r0), .int x1, .int x2] σ res.1 res.2 := by
  intro sz
  refine Met.ofW (cc := cX4_isName) (maxL := 5) (ret := (some .boolean)) (by decide) rfl ?_
  intro p e s m args below meth c s₁ B hml hv
  obtain ⟨hargs, hsz, hP, hJ, hE⟩ := hv
  subst hsz
  have hx := B.exec
  have hb := B.bytes
  have hr := B.returns
  have hlocks := B.notSynchronized
  have hts := atoms_spec (ws := wsY yX4_isName cX4_isName 5 (some .boolean)) B.pre
  have hown : s.vm.findClass RX4 = some m.cls := findClass_of_methodNamed B.named
  have C0 : CallFix p m c cX4_isName 5 s args (wsY yX4_isName cX4_isName 5 (some .boolean)) RX4 := ⟨hx, hb, hml, hown, hts⟩
  have hT : ∀ w ∈ bw, w ∈ wsY yX4_isName cX4_isName 5 (some .boolean) := fun w h => List.mem_cons_of_mem _ h
  have hS : va_S (ax_A 77 ad s.heap.size) s.heap s.heap [] := va_S.rf
  rw [show entryFrame m args 5 = entryFrame m ([.ref (ad r0), .int x1, .int x2] : List Value).toArray 5 by rw [hargs]]
  have hl := lv_entry ([.ref (ad r0), .int x1, .int x2]) (n := 5) (Nat.le_of_ble_eq_true rfl)
  rw [lg_entry_eq]
  generalize (lg_sl ([.ref (ad r0), .int x1, .int x2]) ++ List.replicate (5 - (lg_sl ([.ref (ad r0), .int x1, .int x2])).length) Slot.unset).toArray = ls at hl ⊢
  have hl : lv_has ls 5 [(0, .ref (ad r0)), (1, .int x1), (2, .int x2)] := hl
  obtain ⟨Q, hQ⟩ : ∃ Q : State → Prop, Q = MQ below (va_Qi (fun (a : Int32) (u : SD) => a = res.1 ∧ u = res.2) (ax_B dC dI 77 (cD cyI cyE ad) ad) (ax_A 77 ad s.heap.size)) args s 0 0 (ax_A 77 ad s.heap.size) := ⟨_, rfl⟩
  show W p l e rm_X4_isName s m args below meth c s.heap [] 0 0 _ _
  rw [← hQ]
  have hret : ∀ (v : Int32) (σ : SD) (H : Heap) (locs : List Loc) (ls : Array Slot) (pc : Nat), narrow .boolean (.int v) = .int v → some (v, σ) = some res → va_P (dC, dI) vwCl (ax_w 77 ad (cD cyI cyE ad σ)) H → va_S (ax_A 77 ad s.heap.size) s.heap H locs → decode cX4_isName pc = .ok (.ireturn, 1) → W p l e rm_X4_isName s m args below meth c H locs 0 0 Q (F0 m pc ls [.int v]) := by
    intro v σ H locs ls pc hn hf hP hS hd
    cases hf
    rw [hQ]
    exact ax_iret hx hb hr hlocks hn hP hS hd rfl rfl
  have L24 : ∀ (n : Nat), ∀ (σ : SD) (x3 : Int32), ∀ (H : Heap) (locs : List Loc) (ls : Array Slot), va_P (dC, dI) vwCl (ax_w 77 ad (cD cyI cyE ad σ)) H → va_S (ax_A 77 ad s.heap.size) s.heap H locs → lv_has ls 5 [(0, .ref (ad r0)), (1, .int x1), (2, .int x2), (3, .int x3)] → f_X4_isName_24 r0 x1 x2 n σ x3 = some res → W p l e rm_X4_isName s m args below meth c H locs 0 0 Q (F0 m 24 ls []) := by
    intro n
    induction n with
    | zero =>
      intro σ x3  H locs ls hP hS hl hf
      cases hf
    | succ n ih =>
      intro σ x3  H locs ls hP hS hl hf
      rw [f_X4_isName_24] at hf
      refine lv_iload_n hx hb dX4_isName_24 rfl (lv_at hl 3 rfl) ?_
      refine lv_iload_n hx hb dX4_isName_25 rfl (lv_at hl 2 rfl) ?_
      refine lv_icmp_ge (tgt := 60) hx hb dX4_isName_26 (by decide) (fun h26 => ?_) (fun h26 => ?_)
      · rw [if_pos h26] at hf
        refine lv_iconst (v := 1) hx hb dX4_isName_60 (by decide) ?_
        exact hret _ _ _ _ _ _ rfl hf hP hS dX4_isName_61
      · rw [if_neg h26] at hf
        refine lv_aload_n hx hb dX4_isName_29 rfl (lv_at hl 0 rfl) ?_
        refine lv_iload_n hx hb dX4_isName_30 rfl (lv_at hl 1 rfl) ?_
        refine lv_iload_n hx hb dX4_isName_31 rfl (lv_at hl 3 rfl) ?_
        refine lv_iadd hx hb dX4_isName_32 ?_
        obtain ⟨q33, hq, hf⟩ := ob_bind hf
        refine ax_callVi (C := "") (b := 0) (i := r0) (k := 1) (ci := 3) [.int (x1 + x3)] C0 hT hJ hE (met_X4_at l dC dI cyI cyE tC ad σ r0 (x1 + x3) (by omega) _ hq) hP hS mc_X4_at ml_X4_48 mi_X4_at ms_X4_at mz_X4 (by decide +kernel) ⟨rfl, rfl⟩ ⟨by decide, by decide⟩ (by omega) (cD_Row (by omega)) rfl rfl rfl hl.1 (Nat.le_of_ble_eq_true rfl) dX4_isName_33 ⟨Nat.zero_le _, Nat.zero_le _⟩ (fun H locs hP hS => ?_)
        refine lv_istore (lv' := [(4, .int q33.1), (0, .ref (ad r0)), (1, .int x1), (2, .int x2), (3, .int x3)]) hx hb dX4_isName_36 hl (by decide) rfl (fun ls hl => ?_)
        refine lv_iload hx hb dX4_isName_38 (lv_at hl 0 rfl) ?_
        refine lv_bipush (v := 33) hx hb dX4_isName_40 (by decide) ?_
        refine lv_icmp_lt (tgt := 52) hx hb dX4_isName_42 (by decide) (fun h42 => ?_) (fun h42 => ?_)
        · rw [if_pos h42] at hf
          refine lv_iconst (v := 0) hx hb dX4_isName_52 (by decide) ?_
          exact hret _ _ _ _ _ _ rfl hf hP hS dX4_isName_53
        · rw [if_neg h42] at hf
          refine lv_iload hx hb dX4_isName_45 (lv_at hl 0 rfl) ?_
          refine lv_bipush (v := 126) hx hb dX4_isName_47 (by decide) ?_
          refine lv_icmp_le (tgt := 54) hx hb dX4_isName_49 (by decide) (fun h49 => ?_) (fun h49 => ?_)
          · rw [if_pos h49] at hf
            refine lv_iinc (v := x3 + 1) (lv' := [(3, .int (x3 + 1)), (4, .int q33.1), (0, .ref (ad r0)), (1, .int x1), (2, .int x2)]) hx hb dX4_isName_54 hl (k := 4) rfl rfl (by decide) rfl (fun ls hl => ?_)
            refine lv_goto (tgt := 24) hx hb dX4_isName_57 (by decide) ?_
            exact ih _ _ _ _ _ hP hS (lv_sub hl [2, 3, 4, 0] rfl) hf
          · rw [if_neg h49] at hf
            refine lv_iconst (v := 0) hx hb dX4_isName_52 (by decide) ?_
            exact hret _ _ _ _ _ _ rfl hf hP hS dX4_isName_53
  unfold f_X4_isName at hf
  refine lv_iload_n hx hb dX4_isName_0 rfl (lv_at hl 2 rfl) ?_
  refine lv_iconst (v := 1) hx hb dX4_isName_1 (by decide) ?_
  refine lv_icmp_lt (tgt := 20) hx hb dX4_isName_2 (by decide) (fun h2 => ?_) (fun h2 => ?_)
  · rw [if_pos h2] at hf
    refine lv_iconst (v := 0) hx hb dX4_isName_20 (by decide) ?_
    exact hret _ _ _ _ _ _ rfl hf hP hS dX4_isName_21
  · rw [if_neg h2] at hf
    refine lv_iload_n hx hb dX4_isName_5 rfl (lv_at hl 2 rfl) ?_
    refine lv_bipush (v := 30) hx hb dX4_isName_6 (by decide) ?_
    refine lv_icmp_gt (tgt := 20) hx hb dX4_isName_8 (by decide) (fun h8 => ?_) (fun h8 => ?_)
    · rw [if_pos h8] at hf
      refine lv_iconst (v := 0) hx hb dX4_isName_20 (by decide) ?_
      exact hret _ _ _ _ _ _ rfl hf hP hS dX4_isName_21
    · rw [if_neg h8] at hf
      refine lv_aload_n hx hb dX4_isName_11 rfl (lv_at hl 0 rfl) ?_
      refine lv_iload_n hx hb dX4_isName_12 rfl (lv_at hl 1 rfl) ?_
      refine lv_iload_n hx hb dX4_isName_13 rfl (lv_at hl 2 rfl) ?_
      obtain ⟨q14, hq, hf⟩ := ob_bind hf
      refine ax_callVi (C := "") (b := 0) (i := r0) (k := 2) (ci := 3) [.int x1, .int x2] C0 hT hJ hE (met_X4_holds l dC dI cyI cyE tC ad σ r0 x1 x2 (by omega) _ hq) hP hS mc_X4_holds ml_X4_25 mi_X4_holds ms_X4_holds mz_X4 (by decide +kernel) ⟨rfl, rfl⟩ ⟨by decide, by decide⟩ (by omega) (cD_Row (by omega)) rfl rfl rfl hl.1 (Nat.le_of_ble_eq_true rfl) dX4_isName_14 ⟨Nat.zero_le _, Nat.zero_le _⟩ (fun H locs hP hS => ?_)
      refine lv_if_ne (tgt := 22) hx hb dX4_isName_17 (by decide) (fun h17 => ?_) (fun h17 => ?_)
      · rw [if_neg h17] at hf
        refine lv_iconst (v := 0) hx hb dX4_isName_22 (by decide) ?_
        refine lv_istore_n (lv' := [(3, .int 0), (0, .ref (ad r0)), (1, .int x1), (2, .int x2)]) hx hb dX4_isName_23 rfl hl (by decide) rfl (fun ls hl => ?_)
        exact L24 fu _ _ _ _ _ hP hS (lv_sub hl [1, 2, 3, 0] rfl) hf
      · rw [if_pos h17] at hf
        refine lv_iconst (v := 0) hx hb dX4_isName_20 (by decide) ?_
        exact hret _ _ _ _ _ _ rfl hf hP hS dX4_isName_21
def f_X4_agrees_25 (r0 : Nat) (x1 : Int32) (r2 : Nat) (x3 : Int32) (x4 : Int32) : Nat → SD → Int32 → Option (Int32 × SD)
  | 0, _, _ => none
  | n + 1, σ, x5 => if x4 ≤ x5 then (some (1, σ)) else ((f_X4_at σ r0 (x1 + x5)).bind fun q37 => (f_X4_at q37.2 r2 (x3 + x5)).bind fun q45 => if q37.1 = q45.1 then (f_X4_agrees_25 r0 x1 r2 x3 x4 n q45.2 (x5 + 1)) else (some (0, q45.2)))
def f_X4_agrees (σ : SD) (r0 : Nat) (x1 : Int32) (r2 : Nat) (x3 : Int32) (x4 : Int32) : Option (Int32 × SD) := (f_X4_holds σ r0 x1 x4).bind fun q4 => if q4.1 = 0 then (some (0, q4.2)) else ((f_X4_holds q4.2 r2 x3 x4).bind fun q14 => if q14.1 = 0 then (some (0, q14.2)) else (f_X4_agrees_25 r0 x1 r2 x3 x4 fu q14.2 0))
def rm_X4_agrees : Room := { frames := 1, cells := 0, slots := 0, locals := 22 }
set_option maxHeartbeats 4000000 in
set_option maxRecDepth 100000 in
theorem met_X4_agrees (l : Launch) (dC : Nat → ClassId) (dI : Nat → Nat → Nat) (cyI cyE : ClassId) (tC : Nat) (ad : Nat → Nat) (σ : SD) (r0 : Nat) (x1 : Int32) (r2 : Nat) (x3 : Int32) (x4 : Int32) (hb_r0 : r0 < 25) (hb_r2 : r2 < 25) (res : Int32 × SD) (hf : f_X4_agrees σ r0 x1 r2 x3 x4 = some res) : ax_Mi l dC dI cyI cyE tC 77 (cD cyI cyE ad) ad yX4_agrees cX4_agrees 6 (some .boolean) rm_X4_agrees [.ref (ad r0), .int x1, .ref (ad r2), .int x3, .int x4] σ res.1 res.2 := by
  intro sz
  refine Met.ofW (cc := cX4_agrees) (maxL := 6) (ret := (some .boolean)) (by decide) rfl ?_
  intro p e s m args below meth c s₁ B hml hv
  obtain ⟨hargs, hsz, hP, hJ, hE⟩ := hv
  subst hsz
  have hx := B.exec
  have hb := B.bytes
  have hr := B.returns
  have hlocks := B.notSynchronized
  have hts := atoms_spec (ws := wsY yX4_agrees cX4_agrees 6 (some .boolean)) B.pre
  have hown : s.vm.findClass RX4 = some m.cls := findClass_of_methodNamed B.named
  have C0 : CallFix p m c cX4_agrees 6 s args (wsY yX4_agrees cX4_agrees 6 (some .boolean)) RX4 := ⟨hx, hb, hml, hown, hts⟩
  have hT : ∀ w ∈ bw, w ∈ wsY yX4_agrees cX4_agrees 6 (some .boolean) := fun w h => List.mem_cons_of_mem _ h
  have hS : va_S (ax_A 77 ad s.heap.size) s.heap s.heap [] := va_S.rf
  rw [show entryFrame m args 6 = entryFrame m ([.ref (ad r0), .int x1, .ref (ad r2), .int x3, .int x4] : List Value).toArray 6 by rw [hargs]]
  have hl := lv_entry ([.ref (ad r0), .int x1, .ref (ad r2), .int x3, .int x4]) (n := 6) (Nat.le_of_ble_eq_true rfl)
  rw [lg_entry_eq]
  generalize (lg_sl ([.ref (ad r0), .int x1, .ref (ad r2), .int x3, .int x4]) ++ List.replicate (6 - (lg_sl ([.ref (ad r0), .int x1, .ref (ad r2), .int x3, .int x4])).length) Slot.unset).toArray = ls at hl ⊢
  have hl : lv_has ls 6 [(0, .ref (ad r0)), (1, .int x1), (2, .ref (ad r2)), (3, .int x3), (4, .int x4)] := hl
  obtain ⟨Q, hQ⟩ : ∃ Q : State → Prop, Q = MQ below (va_Qi (fun (a : Int32) (u : SD) => a = res.1 ∧ u = res.2) (ax_B dC dI 77 (cD cyI cyE ad) ad) (ax_A 77 ad s.heap.size)) args s 0 0 (ax_A 77 ad s.heap.size) := ⟨_, rfl⟩
  show W p l e rm_X4_agrees s m args below meth c s.heap [] 0 0 _ _
  rw [← hQ]
  have hret : ∀ (v : Int32) (σ : SD) (H : Heap) (locs : List Loc) (ls : Array Slot) (pc : Nat), narrow .boolean (.int v) = .int v → some (v, σ) = some res → va_P (dC, dI) vwCl (ax_w 77 ad (cD cyI cyE ad σ)) H → va_S (ax_A 77 ad s.heap.size) s.heap H locs → decode cX4_agrees pc = .ok (.ireturn, 1) → W p l e rm_X4_agrees s m args below meth c H locs 0 0 Q (F0 m pc ls [.int v]) := by
    intro v σ H locs ls pc hn hf hP hS hd
    cases hf
    rw [hQ]
    exact ax_iret hx hb hr hlocks hn hP hS hd rfl rfl
  have L25 : ∀ (n : Nat), ∀ (σ : SD) (x5 : Int32), ∀ (H : Heap) (locs : List Loc) (ls : Array Slot), va_P (dC, dI) vwCl (ax_w 77 ad (cD cyI cyE ad σ)) H → va_S (ax_A 77 ad s.heap.size) s.heap H locs → lv_has ls 6 [(0, .ref (ad r0)), (1, .int x1), (2, .ref (ad r2)), (3, .int x3), (4, .int x4), (5, .int x5)] → f_X4_agrees_25 r0 x1 r2 x3 x4 n σ x5 = some res → W p l e rm_X4_agrees s m args below meth c H locs 0 0 Q (F0 m 25 ls []) := by
    intro n
    induction n with
    | zero =>
      intro σ x5  H locs ls hP hS hl hf
      cases hf
    | succ n ih =>
      intro σ x5  H locs ls hP hS hl hf
      rw [f_X4_agrees_25] at hf
      refine lv_iload hx hb dX4_agrees_25 (lv_at hl 5 rfl) ?_
      refine lv_iload hx hb dX4_agrees_27 (lv_at hl 4 rfl) ?_
      refine lv_icmp_ge (tgt := 59) hx hb dX4_agrees_29 (by decide) (fun h29 => ?_) (fun h29 => ?_)
      · rw [if_pos h29] at hf
        refine lv_iconst (v := 1) hx hb dX4_agrees_59 (by decide) ?_
        exact hret _ _ _ _ _ _ rfl hf hP hS dX4_agrees_60
      · rw [if_neg h29] at hf
        refine lv_aload_n hx hb dX4_agrees_32 rfl (lv_at hl 0 rfl) ?_
        refine lv_iload_n hx hb dX4_agrees_33 rfl (lv_at hl 1 rfl) ?_
        refine lv_iload hx hb dX4_agrees_34 (lv_at hl 5 rfl) ?_
        refine lv_iadd hx hb dX4_agrees_36 ?_
        obtain ⟨q37, hq, hf⟩ := ob_bind hf
        refine ax_callVi (C := "") (b := 0) (i := r0) (k := 1) (ci := 3) [.int (x1 + x5)] C0 hT hJ hE (met_X4_at l dC dI cyI cyE tC ad σ r0 (x1 + x5) (by omega) _ hq) hP hS mc_X4_at ml_X4_48 mi_X4_at ms_X4_at mz_X4 (by decide +kernel) ⟨rfl, rfl⟩ ⟨by decide, by decide⟩ (by omega) (cD_Row (by omega)) rfl rfl rfl hl.1 (Nat.le_of_ble_eq_true rfl) dX4_agrees_37 ⟨Nat.zero_le _, Nat.zero_le _⟩ (fun H locs hP hS => ?_)
        refine lv_aload_n hx hb dX4_agrees_40 rfl (lv_at hl 2 rfl) ?_
        refine lv_iload_n hx hb dX4_agrees_41 rfl (lv_at hl 3 rfl) ?_
        refine lv_iload hx hb dX4_agrees_42 (lv_at hl 5 rfl) ?_
        refine lv_iadd hx hb dX4_agrees_44 ?_
        obtain ⟨q45, hq, hf⟩ := ob_bind hf
        refine ax_callVi (C := "") (b := 0) (i := r2) (k := 1) (ci := 3) [.int (x3 + x5)] C0 hT hJ hE (met_X4_at l dC dI cyI cyE tC ad q37.2 r2 (x3 + x5) (by omega) _ hq) hP hS mc_X4_at ml_X4_48 mi_X4_at ms_X4_at mz_X4 (by decide +kernel) ⟨rfl, rfl⟩ ⟨by decide, by decide⟩ (by omega) (cD_Row (by omega)) rfl rfl rfl hl.1 (Nat.le_of_ble_eq_true rfl) dX4_agrees_45 ⟨Nat.zero_le _, Nat.zero_le _⟩ (fun H locs hP hS => ?_)
        refine lv_icmp_eq (tgt := 53) hx hb dX4_agrees_48 (by decide) (fun h48 => ?_) (fun h48 => ?_)
        · rw [if_pos h48] at hf
          refine lv_iinc (v := x5 + 1) (lv' := [(5, .int (x5 + 1)), (0, .ref (ad r0)), (1, .int x1), (2, .ref (ad r2)), (3, .int x3), (4, .int x4)]) hx hb dX4_agrees_53 hl (k := 5) rfl rfl (by decide) rfl (fun ls hl => ?_)
          refine lv_goto (tgt := 25) hx hb dX4_agrees_56 (by decide) ?_
          exact ih _ _ _ _ _ hP hS (lv_sub hl [1, 2, 3, 4, 5, 0] rfl) hf
        · rw [if_neg h48] at hf
          refine lv_iconst (v := 0) hx hb dX4_agrees_51 (by decide) ?_
          exact hret _ _ _ _ _ _ rfl hf hP hS dX4_agrees_52
  unfold f_X4_agrees at hf
  refine lv_aload_n hx hb dX4_agrees_0 rfl (lv_at hl 0 rfl) ?_
  refine lv_iload_n hx hb dX4_agrees_1 rfl (lv_at hl 1 rfl) ?_
  refine lv_iload hx hb dX4_agrees_2 (lv_at hl 4 rfl) ?_
  obtain ⟨q4, hq, hf⟩ := ob_bind hf
  refine ax_callVi (C := "") (b := 0) (i := r0) (k := 2) (ci := 3) [.int x1, .int x4] C0 hT hJ hE (met_X4_holds l dC dI cyI cyE tC ad σ r0 x1 x4 (by omega) _ hq) hP hS mc_X4_holds ml_X4_25 mi_X4_holds ms_X4_holds mz_X4 (by decide +kernel) ⟨rfl, rfl⟩ ⟨by decide, by decide⟩ (by omega) (cD_Row (by omega)) rfl rfl rfl hl.1 (Nat.le_of_ble_eq_true rfl) dX4_agrees_4 ⟨Nat.zero_le _, Nat.zero_le _⟩ (fun H locs hP hS => ?_)
  refine lv_if_eq (tgt := 20) hx hb dX4_agrees_7 (by decide) (fun h7 => ?_) (fun h7 => ?_)
  · rw [if_pos h7] at hf
    refine lv_iconst (v := 0) hx hb dX4_agrees_20 (by decide) ?_
    exact hret _ _ _ _ _ _ rfl hf hP hS dX4_agrees_21
  · rw [if_neg h7] at hf
    refine lv_aload_n hx hb dX4_agrees_10 rfl (lv_at hl 2 rfl) ?_
    refine lv_iload_n hx hb dX4_agrees_11 rfl (lv_at hl 3 rfl) ?_
    refine lv_iload hx hb dX4_agrees_12 (lv_at hl 4 rfl) ?_
    obtain ⟨q14, hq, hf⟩ := ob_bind hf
    refine ax_callVi (C := "") (b := 0) (i := r2) (k := 2) (ci := 3) [.int x3, .int x4] C0 hT hJ hE (met_X4_holds l dC dI cyI cyE tC ad q4.2 r2 x3 x4 (by omega) _ hq) hP hS mc_X4_holds ml_X4_25 mi_X4_holds ms_X4_holds mz_X4 (by decide +kernel) ⟨rfl, rfl⟩ ⟨by decide, by decide⟩ (by omega) (cD_Row (by omega)) rfl rfl rfl hl.1 (Nat.le_of_ble_eq_true rfl) dX4_agrees_14 ⟨Nat.zero_le _, Nat.zero_le _⟩ (fun H locs hP hS => ?_)
    refine lv_if_ne (tgt := 22) hx hb dX4_agrees_17 (by decide) (fun h17 => ?_) (fun h17 => ?_)
    · rw [if_neg h17] at hf
      refine lv_iconst (v := 0) hx hb dX4_agrees_22 (by decide) ?_
      refine lv_istore (lv' := [(5, .int 0), (0, .ref (ad r0)), (1, .int x1), (2, .ref (ad r2)), (3, .int x3), (4, .int x4)]) hx hb dX4_agrees_23 hl (by decide) rfl (fun ls hl => ?_)
      exact L25 fu _ _ _ _ _ hP hS (lv_sub hl [1, 2, 3, 4, 5, 0] rfl) hf
    · rw [if_pos h17] at hf
      refine lv_iconst (v := 0) hx hb dX4_agrees_20 (by decide) ?_
      exact hret _ _ _ _ _ _ rfl hf hP hS dX4_agrees_21
def f_X3_isEarlierName_63 (r1 : Nat) (x2 : Int32) (x3 : Int32) (k3 : SD → Int32 → Option (Int32 × SD)) (σ : SD) (x4 : Int32) : Option (Int32 × SD) := k3 σ (x4 + 1)
def f_X3_isEarlierName_3 (r1 : Nat) (x2 : Int32) (x3 : Int32) : Nat → SD → Int32 → Option (Int32 × SD)
  | 0, _, _ => none
  | n + 1, σ, x4 => if x3 ≤ x4 then (some (0, σ)) else (if inb x4 (capD 25) = true then ((f_X4_two σ r1 (((σ.2.2.1 25 x4.toNatClampNeg) + 6) + 22)).bind fun q27 => if q27.1 = (q27.2.1 14 0) then ((f_X4_agrees q27.2 r1 ((σ.2.2.1 25 x4.toNatClampNeg) + 46) r1 x2 (q27.2.1 14 0)).bind fun q55 => if q55.1 = 0 then (f_X3_isEarlierName_63 r1 x2 x3 (f_X3_isEarlierName_3 r1 x2 x3 n) q55.2 x4) else (some (1, q55.2))) else (f_X3_isEarlierName_63 r1 x2 x3 (f_X3_isEarlierName_3 r1 x2 x3 n) q27.2 x4)) else none)
def f_X3_isEarlierName (σ : SD) (r1 : Nat) (x2 : Int32) (x3 : Int32) : Option (Int32 × SD) := f_X3_isEarlierName_3 r1 x2 x3 fu σ 0
def rm_X3_isEarlierName : Room := { frames := 2, cells := 0, slots := 0, locals := 47 }
set_option maxHeartbeats 4000000 in
set_option maxRecDepth 100000 in
theorem met_X3_isEarlierName (l : Launch) (dC : Nat → ClassId) (dI : Nat → Nat → Nat) (cyI cyE : ClassId) (tC : Nat) (ad : Nat → Nat) (σ : SD) (r1 : Nat) (x2 : Int32) (x3 : Int32) (hb_r1 : r1 < 25) (res : Int32 × SD) (hf : f_X3_isEarlierName σ r1 x2 x3 = some res) : ax_Mi l dC dI cyI cyE tC 77 (cD cyI cyE ad) ad yX3_isEarlierName cX3_isEarlierName 6 (some .boolean) rm_X3_isEarlierName [.ref (ad 74), .ref (ad r1), .int x2, .int x3] σ res.1 res.2 := by
  intro sz
  refine Met.ofW (cc := cX3_isEarlierName) (maxL := 6) (ret := (some .boolean)) (by decide) rfl ?_
  intro p e s m args below meth c s₁ B hml hv
  obtain ⟨hargs, hsz, hP, hJ, hE⟩ := hv
  subst hsz
  have hx := B.exec
  have hb := B.bytes
  have hr := B.returns
  have hlocks := B.notSynchronized
  have hts := atoms_spec (ws := wsY yX3_isEarlierName cX3_isEarlierName 6 (some .boolean)) B.pre
  have hown : s.vm.findClass RX3 = some m.cls := findClass_of_methodNamed B.named
  have C0 : CallFix p m c cX3_isEarlierName 6 s args (wsY yX3_isEarlierName cX3_isEarlierName 6 (some .boolean)) RX3 := ⟨hx, hb, hml, hown, hts⟩
  have hT : ∀ w ∈ bw, w ∈ wsY yX3_isEarlierName cX3_isEarlierName 6 (some .boolean) := fun w h => List.mem_cons_of_mem _ h
  have hS : va_S (ax_A 77 ad s.heap.size) s.heap s.heap [] := va_S.rf
  rw [show entryFrame m args 6 = entryFrame m ([.ref (ad 74), .ref (ad r1), .int x2, .int x3] : List Value).toArray 6 by rw [hargs]]
  have hl := lv_entry ([.ref (ad 74), .ref (ad r1), .int x2, .int x3]) (n := 6) (Nat.le_of_ble_eq_true rfl)
  rw [lg_entry_eq]
  generalize (lg_sl ([.ref (ad 74), .ref (ad r1), .int x2, .int x3]) ++ List.replicate (6 - (lg_sl ([.ref (ad 74), .ref (ad r1), .int x2, .int x3])).length) Slot.unset).toArray = ls at hl ⊢
  have hl : lv_has ls 6 [(0, .ref (ad 74)), (1, .ref (ad r1)), (2, .int x2), (3, .int x3)] := hl
  obtain ⟨Q, hQ⟩ : ∃ Q : State → Prop, Q = MQ below (va_Qi (fun (a : Int32) (u : SD) => a = res.1 ∧ u = res.2) (ax_B dC dI 77 (cD cyI cyE ad) ad) (ax_A 77 ad s.heap.size)) args s 0 0 (ax_A 77 ad s.heap.size) := ⟨_, rfl⟩
  show W p l e rm_X3_isEarlierName s m args below meth c s.heap [] 0 0 _ _
  rw [← hQ]
  have hret : ∀ (v : Int32) (σ : SD) (H : Heap) (locs : List Loc) (ls : Array Slot) (pc : Nat), narrow .boolean (.int v) = .int v → some (v, σ) = some res → va_P (dC, dI) vwCl (ax_w 77 ad (cD cyI cyE ad σ)) H → va_S (ax_A 77 ad s.heap.size) s.heap H locs → decode cX3_isEarlierName pc = .ok (.ireturn, 1) → W p l e rm_X3_isEarlierName s m args below meth c H locs 0 0 Q (F0 m pc ls [.int v]) := by
    intro v σ H locs ls pc hn hf hP hS hd
    cases hf
    rw [hQ]
    exact ax_iret hx hb hr hlocks hn hP hS hd rfl rfl
  have L63 : ∀ (k3 : SD → Int32 → Option (Int32 × SD)), (∀ (σ : SD) (x4 : Int32), ∀ (H : Heap) (locs : List Loc) (ls : Array Slot), va_P (dC, dI) vwCl (ax_w 77 ad (cD cyI cyE ad σ)) H → va_S (ax_A 77 ad s.heap.size) s.heap H locs → lv_has ls 6 [(0, .ref (ad 74)), (1, .ref (ad r1)), (2, .int x2), (3, .int x3), (4, .int x4)] → k3 σ x4 = some res → W p l e rm_X3_isEarlierName s m args below meth c H locs 0 0 Q (F0 m 3 ls [])) → ∀ (σ : SD) (x4 : Int32), ∀ (H : Heap) (locs : List Loc) (ls : Array Slot), va_P (dC, dI) vwCl (ax_w 77 ad (cD cyI cyE ad σ)) H → va_S (ax_A 77 ad s.heap.size) s.heap H locs → lv_has ls 6 [(0, .ref (ad 74)), (1, .ref (ad r1)), (2, .int x2), (3, .int x3), (4, .int x4)] → f_X3_isEarlierName_63 r1 x2 x3 k3 σ x4 = some res → W p l e rm_X3_isEarlierName s m args below meth c H locs 0 0 Q (F0 m 63 ls []) := by
    intro k3 hk3
    intro σ x4  H locs ls hP hS hl hf
    unfold f_X3_isEarlierName_63 at hf
    refine lv_iinc (v := x4 + 1) (lv' := [(4, .int (x4 + 1)), (0, .ref (ad 74)), (1, .ref (ad r1)), (2, .int x2), (3, .int x3)]) hx hb dX3_isEarlierName_63 hl (k := 4) rfl rfl (by decide) rfl (fun ls hl => ?_)
    refine lv_goto (tgt := 3) hx hb dX3_isEarlierName_66 (by decide) ?_
    exact hk3 _ _ _ _ _ hP hS (lv_sub hl [1, 2, 3, 4, 0] rfl) hf
  have L3 : ∀ (n : Nat), ∀ (σ : SD) (x4 : Int32), ∀ (H : Heap) (locs : List Loc) (ls : Array Slot), va_P (dC, dI) vwCl (ax_w 77 ad (cD cyI cyE ad σ)) H → va_S (ax_A 77 ad s.heap.size) s.heap H locs → lv_has ls 6 [(0, .ref (ad 74)), (1, .ref (ad r1)), (2, .int x2), (3, .int x3), (4, .int x4)] → f_X3_isEarlierName_3 r1 x2 x3 n σ x4 = some res → W p l e rm_X3_isEarlierName s m args below meth c H locs 0 0 Q (F0 m 3 ls []) := by
    intro n
    induction n with
    | zero =>
      intro σ x4  H locs ls hP hS hl hf
      cases hf
    | succ n ih =>
      intro σ x4  H locs ls hP hS hl hf
      rw [f_X3_isEarlierName_3] at hf
      refine lv_iload hx hb dX3_isEarlierName_3 (lv_at hl 4 rfl) ?_
      refine lv_iload_n hx hb dX3_isEarlierName_5 rfl (lv_at hl 3 rfl) ?_
      refine lv_icmp_ge (tgt := 69) hx hb dX3_isEarlierName_6 (by decide) (fun h6 => ?_) (fun h6 => ?_)
      · rw [if_pos h6] at hf
        refine lv_iconst (v := 0) hx hb dX3_isEarlierName_69 (by decide) ?_
        exact hret _ _ _ _ _ _ rfl hf hP hS dX3_isEarlierName_70
      · rw [if_neg h6] at hf
        refine lv_aload_n hx hb dX3_isEarlierName_9 rfl (lv_at hl 0 rfl) ?_
        refine g_Reader_centralAt C0 hT hE hP mf_X3_9 dX3_isEarlierName_10 ?_
        refine lv_iload hx hb dX3_isEarlierName_13 (lv_at hl 4 rfl) ?_
        obtain ⟨hin, hf⟩ := ob_if hf
        refine aD_ld (a := 25) (by decide) C0 hT hE hP (inb_in hin) dX3_isEarlierName_15 ?_
        refine lv_istore (lv' := [(5, .int (σ.2.2.1 25 x4.toNatClampNeg)), (0, .ref (ad 74)), (1, .ref (ad r1)), (2, .int x2), (3, .int x3), (4, .int x4)]) hx hb dX3_isEarlierName_16 hl (by decide) rfl (fun ls hl => ?_)
        refine lv_aload_n hx hb dX3_isEarlierName_18 rfl (lv_at hl 2 rfl) ?_
        refine lv_iload hx hb dX3_isEarlierName_19 (lv_at hl 0 rfl) ?_
        refine lv_bipush (v := 6) hx hb dX3_isEarlierName_21 (by decide) ?_
        refine lv_iadd hx hb dX3_isEarlierName_23 ?_
        refine lv_bipush (v := 22) hx hb dX3_isEarlierName_24 (by decide) ?_
        refine lv_iadd hx hb dX3_isEarlierName_26 ?_
        obtain ⟨q27, hq, hf⟩ := ob_bind hf
        refine ax_callVi (C := "") (b := 0) (i := r1) (k := 1) (ci := 3) [.int (((σ.2.2.1 25 x4.toNatClampNeg) + 6) + 22)] C0 hT hJ hE (met_X4_two l dC dI cyI cyE tC ad σ r1 (((σ.2.2.1 25 x4.toNatClampNeg) + 6) + 22) (by omega) _ hq) hP hS mc_X4_two ml_X3_92 mi_X4_two ms_X4_two mz_X4 (by decide +kernel) ⟨rfl, rfl⟩ ⟨by decide, by decide⟩ (by omega) (cD_Row (by omega)) rfl rfl rfl hl.1 (Nat.le_of_ble_eq_true rfl) dX3_isEarlierName_27 ⟨Nat.zero_le _, Nat.zero_le _⟩ (fun H locs hP hS => ?_)
        refine lv_aload_n hx hb dX3_isEarlierName_30 rfl (lv_at hl 1 rfl) ?_
        refine g_Reader_header C0 hT hE hP mf_X3_21 dX3_isEarlierName_31 ?_
        refine gN_Header_nameSize C0 hT hE hP (by decide) dX3_isEarlierName_34 ?_
        refine lv_icmp_ne (tgt := 63) hx hb dX3_isEarlierName_37 (by decide) (fun h37 => ?_) (fun h37 => ?_)
        · rw [if_neg h37] at hf
          exact L63 _ ih _ _ _ _ _ hP hS (lv_sub hl [1, 2, 3, 4, 5] rfl) hf
        · rw [if_pos h37] at hf
          refine lv_aload_n hx hb dX3_isEarlierName_40 rfl (lv_at hl 2 rfl) ?_
          refine lv_iload hx hb dX3_isEarlierName_41 (lv_at hl 0 rfl) ?_
          refine lv_bipush (v := 46) hx hb dX3_isEarlierName_43 (by decide) ?_
          refine lv_iadd hx hb dX3_isEarlierName_45 ?_
          refine lv_aload_n hx hb dX3_isEarlierName_46 rfl (lv_at hl 2 rfl) ?_
          refine lv_iload_n hx hb dX3_isEarlierName_47 rfl (lv_at hl 3 rfl) ?_
          refine lv_aload_n hx hb dX3_isEarlierName_48 rfl (lv_at hl 1 rfl) ?_
          refine g_Reader_header C0 hT hE hP mf_X3_21 dX3_isEarlierName_49 ?_
          refine gN_Header_nameSize C0 hT hE hP (by decide) dX3_isEarlierName_52 ?_
          obtain ⟨q55, hq, hf⟩ := ob_bind hf
          refine ax_callVi (C := "") (b := 0) (i := r1) (k := 4) (ci := 3) [.int ((σ.2.2.1 25 x4.toNatClampNeg) + 46), .ref (ad r1), .int x2, .int (q27.2.1 14 0)] C0 hT hJ hE (met_X4_agrees l dC dI cyI cyE tC ad q27.2 r1 ((σ.2.2.1 25 x4.toNatClampNeg) + 46) r1 x2 (q27.2.1 14 0) (by omega) (by omega) _ hq) hP hS mc_X4_agrees ml_X3_119 mi_X4_agrees ms_X4_agrees mz_X4 (by decide +kernel) ⟨rfl, rfl⟩ ⟨by decide, by decide⟩ (by omega) (cD_Row (by omega)) rfl rfl rfl hl.1 (Nat.le_of_ble_eq_true rfl) dX3_isEarlierName_55 ⟨Nat.zero_le _, Nat.zero_le _⟩ (fun H locs hP hS => ?_)
          refine lv_if_eq (tgt := 63) hx hb dX3_isEarlierName_58 (by decide) (fun h58 => ?_) (fun h58 => ?_)
          · rw [if_pos h58] at hf
            exact L63 _ ih _ _ _ _ _ hP hS (lv_sub hl [1, 2, 3, 4, 5] rfl) hf
          · rw [if_neg h58] at hf
            refine lv_iconst (v := 1) hx hb dX3_isEarlierName_61 (by decide) ?_
            exact hret _ _ _ _ _ _ rfl hf hP hS dX3_isEarlierName_62
  unfold f_X3_isEarlierName at hf
  refine lv_iconst (v := 0) hx hb dX3_isEarlierName_0 (by decide) ?_
  refine lv_istore (lv' := [(4, .int 0), (0, .ref (ad 74)), (1, .ref (ad r1)), (2, .int x2), (3, .int x3)]) hx hb dX3_isEarlierName_1 hl (by decide) rfl (fun ls hl => ?_)
  exact L3 fu _ _ _ _ _ hP hS (lv_sub hl [1, 2, 3, 4, 0] rfl) hf
