def f_X3_centralStands (σ : SD) (r1 : Nat) (x2 : Int32) (x3 : Int32) : Option (Int32 × SD) := (f_X4_hasSignature σ r1 x2 1 2).bind fun q4 => if q4.1 = 0 then (some (0, q4.2)) else ((f_X4_two q4.2 r1 (x2 + 4)).bind fun q14 => if q14.1 = 20 then ((f_X2_parse q14.2 r1 (x2 + 6)).bind fun q31 => if q31.1 = 0 then (some (0, q31.2)) else ((f_X4_two q31.2 r1 (x2 + 32)).bind fun q42 => if q42.1 = 0 then ((f_X4_two q42.2 r1 (x2 + 34)).bind fun q53 => if q53.1 = 0 then ((f_X4_two q53.2 r1 (x2 + 36)).bind fun q64 => if q64.1 = 0 then ((f_X4_four q64.2 r1 (x2 + 38)).bind fun q75 => if (lg_cmp q75.1 0) = 0 then (if (q75.2.1 8 0) < ((x2 + 46) + (q75.2.1 14 0)) then (some (0, q75.2)) else ((f_X4_isName q75.2 r1 (x2 + 46) (q75.2.1 14 0)).bind fun q114 => if q114.1 = 0 then (some (0, q114.2)) else ((f_X3_isEarlierName q114.2 r1 (x2 + 46) x3).bind fun q127 => if q127.1 = 0 then (some (1, q127.2)) else (some (0, q127.2))))) else (some (0, q75.2))) else (some (0, q64.2))) else (some (0, q53.2))) else (some (0, q42.2)))) else (some (0, q14.2)))
def rm_X3_centralStands : Room := { frames := 3, cells := 0, slots := 0, locals := 72 }
set_option maxHeartbeats 4000000 in
set_option maxRecDepth 100000 in
theorem met_X3_centralStands (l : Launch) (dC : Nat → ClassId) (dI : Nat → Nat → Nat) (cyI cyE : ClassId) (tC : Nat) (ad : Nat → Nat) (σ : SD) (r1 : Nat) (x2 : Int32) (x3 : Int32) (hb_r1 : r1 < 25) (res : Int32 × SD) (hf : f_X3_centralStands σ r1 x2 x3 = some res) : ax_Mi l dC dI cyI cyE tC 77 (cD cyI cyE ad) ad yX3_centralStands cX3_centralStands 4 (some .boolean) rm_X3_centralStands [.ref (ad 74), .ref (ad r1), .int x2, .int x3] σ res.1 res.2 := by
  intro sz
  refine Met.ofW (cc := cX3_centralStands) (maxL := 4) (ret := (some .boolean)) (by decide) rfl ?_
  intro p e s m args below meth c s₁ B hml hv
  obtain ⟨hargs, hsz, hP, hJ, hE⟩ := hv
  subst hsz
  have hx := B.exec
  have hb := B.bytes
  have hr := B.returns
  have hlocks := B.notSynchronized
  have hts := atoms_spec (ws := wsY yX3_centralStands cX3_centralStands 4 (some .boolean)) B.pre
  have hown : s.vm.findClass RX3 = some m.cls := findClass_of_methodNamed B.named
  have C0 : CallFix p m c cX3_centralStands 4 s args (wsY yX3_centralStands cX3_centralStands 4 (some .boolean)) RX3 := ⟨hx, hb, hml, hown, hts⟩
  have hT : ∀ w ∈ bw, w ∈ wsY yX3_centralStands cX3_centralStands 4 (some .boolean) := fun w h => List.mem_cons_of_mem _ h
  have hS : va_S (ax_A 77 ad s.heap.size) s.heap s.heap [] := va_S.rf
  rw [show entryFrame m args 4 = entryFrame m ([.ref (ad 74), .ref (ad r1), .int x2, .int x3] : List Value).toArray 4 by rw [hargs]]
  have hl := lv_entry ([.ref (ad 74), .ref (ad r1), .int x2, .int x3]) (n := 4) (Nat.le_of_ble_eq_true rfl)
  rw [lg_entry_eq]
  generalize (lg_sl ([.ref (ad 74), .ref (ad r1), .int x2, .int x3]) ++ List.replicate (4 - (lg_sl ([.ref (ad 74), .ref (ad r1), .int x2, .int x3])).length) Slot.unset).toArray = ls at hl ⊢
  have hl : lv_has ls 4 [(0, .ref (ad 74)), (1, .ref (ad r1)), (2, .int x2), (3, .int x3)] := hl
  obtain ⟨Q, hQ⟩ : ∃ Q : State → Prop, Q = MQ below (va_Qi (fun (a : Int32) (u : SD) => a = res.1 ∧ u = res.2) (ax_B dC dI 77 (cD cyI cyE ad) ad) (ax_A 77 ad s.heap.size)) args s 0 0 (ax_A 77 ad s.heap.size) := ⟨_, rfl⟩
  show W p l e rm_X3_centralStands s m args below meth c s.heap [] 0 0 _ _
  rw [← hQ]
  have hret : ∀ (v : Int32) (σ : SD) (H : Heap) (locs : List Loc) (ls : Array Slot) (pc : Nat), narrow .boolean (.int v) = .int v → some (v, σ) = some res → va_P (dC, dI) vwCl (ax_w 77 ad (cD cyI cyE ad σ)) H → va_S (ax_A 77 ad s.heap.size) s.heap H locs → decode cX3_centralStands pc = .ok (.ireturn, 1) → W p l e rm_X3_centralStands s m args below meth c H locs 0 0 Q (F0 m pc ls [.int v]) := by
    intro v σ H locs ls pc hn hf hP hS hd
    cases hf
    rw [hQ]
    exact ax_iret hx hb hr hlocks hn hP hS hd rfl rfl
  unfold f_X3_centralStands at hf
  refine lv_aload_n hx hb dX3_centralStands_0 rfl (lv_at hl 1 rfl) ?_
  refine lv_iload_n hx hb dX3_centralStands_1 rfl (lv_at hl 2 rfl) ?_
  refine lv_iconst (v := 1) hx hb dX3_centralStands_2 (by decide) ?_
  refine lv_iconst (v := 2) hx hb dX3_centralStands_3 (by decide) ?_
  obtain ⟨q4, hq, hf⟩ := ob_bind hf
  refine ax_callVi (C := "") (b := 0) (i := r1) (k := 3) (ci := 3) [.int x2, .int 1, .int 2] C0 hT hJ hE (met_X4_hasSignature l dC dI cyI cyE tC ad σ r1 x2 1 2 (by omega) _ hq) hP hS mc_X4_hasSignature ml_X3_89 mi_X4_hasSignature ms_X4_hasSignature mz_X4 (by decide +kernel) ⟨rfl, rfl⟩ ⟨by decide, by decide⟩ (by omega) (cD_Row (by omega)) rfl rfl rfl hl.1 (Nat.le_of_ble_eq_true rfl) dX3_centralStands_4 ⟨Nat.zero_le _, Nat.zero_le _⟩ (fun H locs hP hS => ?_)
  refine lv_if_eq (tgt := 137) hx hb dX3_centralStands_7 (by decide) (fun h7 => ?_) (fun h7 => ?_)
  · rw [if_pos h7] at hf
    refine lv_iconst (v := 0) hx hb dX3_centralStands_137 (by decide) ?_
    exact hret _ _ _ _ _ _ rfl hf hP hS dX3_centralStands_138
  · rw [if_neg h7] at hf
    refine lv_aload_n hx hb dX3_centralStands_10 rfl (lv_at hl 1 rfl) ?_
    refine lv_iload_n hx hb dX3_centralStands_11 rfl (lv_at hl 2 rfl) ?_
    refine lv_iconst (v := 4) hx hb dX3_centralStands_12 (by decide) ?_
    refine lv_iadd hx hb dX3_centralStands_13 ?_
    obtain ⟨q14, hq, hf⟩ := ob_bind hf
    refine ax_callVi (C := "") (b := 0) (i := r1) (k := 1) (ci := 3) [.int (x2 + 4)] C0 hT hJ hE (met_X4_two l dC dI cyI cyE tC ad q4.2 r1 (x2 + 4) (by omega) _ hq) hP hS mc_X4_two ml_X3_92 mi_X4_two ms_X4_two mz_X4 (by decide +kernel) ⟨rfl, rfl⟩ ⟨by decide, by decide⟩ (by omega) (cD_Row (by omega)) rfl rfl rfl hl.1 (Nat.le_of_ble_eq_true rfl) dX3_centralStands_14 ⟨Nat.zero_le _, Nat.zero_le _⟩ (fun H locs hP hS => ?_)
    refine lv_bipush (v := 20) hx hb dX3_centralStands_17 (by decide) ?_
    refine lv_icmp_ne (tgt := 137) hx hb dX3_centralStands_19 (by decide) (fun h19 => ?_) (fun h19 => ?_)
    · rw [if_neg h19] at hf
      refine lv_iconst (v := 0) hx hb dX3_centralStands_137 (by decide) ?_
      exact hret _ _ _ _ _ _ rfl hf hP hS dX3_centralStands_138
    · rw [if_pos h19] at hf
      refine lv_aload_n hx hb dX3_centralStands_22 rfl (lv_at hl 0 rfl) ?_
      refine g_Reader_header C0 hT hE hP mf_X3_21 dX3_centralStands_23 ?_
      refine lv_aload_n hx hb dX3_centralStands_26 rfl (lv_at hl 1 rfl) ?_
      refine lv_iload_n hx hb dX3_centralStands_27 rfl (lv_at hl 2 rfl) ?_
      refine lv_bipush (v := 6) hx hb dX3_centralStands_28 (by decide) ?_
      refine lv_iadd hx hb dX3_centralStands_30 ?_
      obtain ⟨q31, hq, hf⟩ := ob_bind hf
      refine ax_callVi (C := "") (b := 0) (i := 73) (k := 2) (ci := 1) [.ref (ad r1), .int (x2 + 6)] C0 hT hJ hE (met_X2_parse l dC dI cyI cyE tC ad q14.2 r1 (x2 + 6) (by omega) _ hq) hP hS mc_X2_parse ml_X3_110 mi_X2_parse ms_X2_parse mz_X2 (by decide +kernel) ⟨rfl, rfl⟩ ⟨by decide, by decide⟩ (by decide) cD_Header rfl rfl rfl hl.1 (Nat.le_of_ble_eq_true rfl) dX3_centralStands_31 ⟨Nat.zero_le _, Nat.zero_le _⟩ (fun H locs hP hS => ?_)
      refine lv_if_eq (tgt := 137) hx hb dX3_centralStands_34 (by decide) (fun h34 => ?_) (fun h34 => ?_)
      · rw [if_pos h34] at hf
        refine lv_iconst (v := 0) hx hb dX3_centralStands_137 (by decide) ?_
        exact hret _ _ _ _ _ _ rfl hf hP hS dX3_centralStands_138
      · rw [if_neg h34] at hf
        refine lv_aload_n hx hb dX3_centralStands_37 rfl (lv_at hl 1 rfl) ?_
        refine lv_iload_n hx hb dX3_centralStands_38 rfl (lv_at hl 2 rfl) ?_
        refine lv_bipush (v := 32) hx hb dX3_centralStands_39 (by decide) ?_
        refine lv_iadd hx hb dX3_centralStands_41 ?_
        obtain ⟨q42, hq, hf⟩ := ob_bind hf
        refine ax_callVi (C := "") (b := 0) (i := r1) (k := 1) (ci := 3) [.int (x2 + 32)] C0 hT hJ hE (met_X4_two l dC dI cyI cyE tC ad q31.2 r1 (x2 + 32) (by omega) _ hq) hP hS mc_X4_two ml_X3_92 mi_X4_two ms_X4_two mz_X4 (by decide +kernel) ⟨rfl, rfl⟩ ⟨by decide, by decide⟩ (by omega) (cD_Row (by omega)) rfl rfl rfl hl.1 (Nat.le_of_ble_eq_true rfl) dX3_centralStands_42 ⟨Nat.zero_le _, Nat.zero_le _⟩ (fun H locs hP hS => ?_)
        refine lv_if_ne (tgt := 137) hx hb dX3_centralStands_45 (by decide) (fun h45 => ?_) (fun h45 => ?_)
        · rw [if_neg h45] at hf
          refine lv_iconst (v := 0) hx hb dX3_centralStands_137 (by decide) ?_
          exact hret _ _ _ _ _ _ rfl hf hP hS dX3_centralStands_138
        · rw [if_pos h45] at hf
          refine lv_aload_n hx hb dX3_centralStands_48 rfl (lv_at hl 1 rfl) ?_
          refine lv_iload_n hx hb dX3_centralStands_49 rfl (lv_at hl 2 rfl) ?_
          refine lv_bipush (v := 34) hx hb dX3_centralStands_50 (by decide) ?_
          refine lv_iadd hx hb dX3_centralStands_52 ?_
          obtain ⟨q53, hq, hf⟩ := ob_bind hf
          refine ax_callVi (C := "") (b := 0) (i := r1) (k := 1) (ci := 3) [.int (x2 + 34)] C0 hT hJ hE (met_X4_two l dC dI cyI cyE tC ad q42.2 r1 (x2 + 34) (by omega) _ hq) hP hS mc_X4_two ml_X3_92 mi_X4_two ms_X4_two mz_X4 (by decide +kernel) ⟨rfl, rfl⟩ ⟨by decide, by decide⟩ (by omega) (cD_Row (by omega)) rfl rfl rfl hl.1 (Nat.le_of_ble_eq_true rfl) dX3_centralStands_53 ⟨Nat.zero_le _, Nat.zero_le _⟩ (fun H locs hP hS => ?_)
          refine lv_if_ne (tgt := 137) hx hb dX3_centralStands_56 (by decide) (fun h56 => ?_) (fun h56 => ?_)
          · rw [if_neg h56] at hf
            refine lv_iconst (v := 0) hx hb dX3_centralStands_137 (by decide) ?_
            exact hret _ _ _ _ _ _ rfl hf hP hS dX3_centralStands_138
          · rw [if_pos h56] at hf
            refine lv_aload_n hx hb dX3_centralStands_59 rfl (lv_at hl 1 rfl) ?_
            refine lv_iload_n hx hb dX3_centralStands_60 rfl (lv_at hl 2 rfl) ?_
            refine lv_bipush (v := 36) hx hb dX3_centralStands_61 (by decide) ?_
            refine lv_iadd hx hb dX3_centralStands_63 ?_
            obtain ⟨q64, hq, hf⟩ := ob_bind hf
            refine ax_callVi (C := "") (b := 0) (i := r1) (k := 1) (ci := 3) [.int (x2 + 36)] C0 hT hJ hE (met_X4_two l dC dI cyI cyE tC ad q53.2 r1 (x2 + 36) (by omega) _ hq) hP hS mc_X4_two ml_X3_92 mi_X4_two ms_X4_two mz_X4 (by decide +kernel) ⟨rfl, rfl⟩ ⟨by decide, by decide⟩ (by omega) (cD_Row (by omega)) rfl rfl rfl hl.1 (Nat.le_of_ble_eq_true rfl) dX3_centralStands_64 ⟨Nat.zero_le _, Nat.zero_le _⟩ (fun H locs hP hS => ?_)
            refine lv_if_ne (tgt := 137) hx hb dX3_centralStands_67 (by decide) (fun h67 => ?_) (fun h67 => ?_)
            · rw [if_neg h67] at hf
              refine lv_iconst (v := 0) hx hb dX3_centralStands_137 (by decide) ?_
              exact hret _ _ _ _ _ _ rfl hf hP hS dX3_centralStands_138
            · rw [if_pos h67] at hf
              refine lv_aload_n hx hb dX3_centralStands_70 rfl (lv_at hl 1 rfl) ?_
              refine lv_iload_n hx hb dX3_centralStands_71 rfl (lv_at hl 2 rfl) ?_
              refine lv_bipush (v := 38) hx hb dX3_centralStands_72 (by decide) ?_
              refine lv_iadd hx hb dX3_centralStands_74 ?_
              obtain ⟨q75, hq, hf⟩ := ob_bind hf
              refine ax_callVl (b := 0) (i := r1) (k := 1) (ci := 3) [.int (x2 + 38)] C0 hT hJ hE (met_X4_four l dC dI cyI cyE tC ad q64.2 r1 (x2 + 38) (by omega) _ hq) hP hS mc_X4_four ml_X3_96 mi_X4_four ms_X4_four mz_X4 (by decide +kernel) ⟨rfl, rfl⟩ ⟨by decide, by decide⟩ (by omega) (cD_Row (by omega)) rfl rfl rfl hl.1 (Nat.le_of_ble_eq_true rfl) dX3_centralStands_75 ⟨Nat.zero_le _, Nat.zero_le _⟩ (fun H locs hP hS => ?_)
              refine lv_lconst (v := 0) hx hb dX3_centralStands_78 (by decide) ?_
              refine W.lcmp hx hb dX3_centralStands_79 ?_
              refine lv_if_ne (tgt := 137) hx hb dX3_centralStands_80 (by decide) (fun h80 => ?_) (fun h80 => ?_)
              · rw [if_neg h80] at hf
                refine lv_iconst (v := 0) hx hb dX3_centralStands_137 (by decide) ?_
                exact hret _ _ _ _ _ _ rfl hf hP hS dX3_centralStands_138
              · rw [if_pos h80] at hf
                refine lv_iload_n hx hb dX3_centralStands_83 rfl (lv_at hl 2 rfl) ?_
                refine lv_bipush (v := 46) hx hb dX3_centralStands_84 (by decide) ?_
                refine lv_iadd hx hb dX3_centralStands_86 ?_
                refine lv_aload_n hx hb dX3_centralStands_87 rfl (lv_at hl 0 rfl) ?_
                refine g_Reader_header C0 hT hE hP mf_X3_21 dX3_centralStands_88 ?_
                refine gN_Header_nameSize C0 hT hE hP (by decide) dX3_centralStands_91 ?_
                refine lv_iadd hx hb dX3_centralStands_94 ?_
                refine lv_aload_n hx hb dX3_centralStands_95 rfl (lv_at hl 0 rfl) ?_
                refine g_Reader_endAt C0 hT hE hP mf_X3_74 dX3_centralStands_96 ?_
                refine lv_icmp_gt (tgt := 137) hx hb dX3_centralStands_99 (by decide) (fun h99 => ?_) (fun h99 => ?_)
                · rw [if_pos h99] at hf
                  refine lv_iconst (v := 0) hx hb dX3_centralStands_137 (by decide) ?_
                  exact hret _ _ _ _ _ _ rfl hf hP hS dX3_centralStands_138
                · rw [if_neg h99] at hf
                  refine lv_aload_n hx hb dX3_centralStands_102 rfl (lv_at hl 1 rfl) ?_
                  refine lv_iload_n hx hb dX3_centralStands_103 rfl (lv_at hl 2 rfl) ?_
                  refine lv_bipush (v := 46) hx hb dX3_centralStands_104 (by decide) ?_
                  refine lv_iadd hx hb dX3_centralStands_106 ?_
                  refine lv_aload_n hx hb dX3_centralStands_107 rfl (lv_at hl 0 rfl) ?_
                  refine g_Reader_header C0 hT hE hP mf_X3_21 dX3_centralStands_108 ?_
                  refine gN_Header_nameSize C0 hT hE hP (by decide) dX3_centralStands_111 ?_
                  obtain ⟨q114, hq, hf⟩ := ob_bind hf
                  refine ax_callVi (C := "") (b := 0) (i := r1) (k := 2) (ci := 3) [.int (x2 + 46), .int (q75.2.1 14 0)] C0 hT hJ hE (met_X4_isName l dC dI cyI cyE tC ad q75.2 r1 (x2 + 46) (q75.2.1 14 0) (by omega) _ hq) hP hS mc_X4_isName ml_X3_113 mi_X4_isName ms_X4_isName mz_X4 (by decide +kernel) ⟨rfl, rfl⟩ ⟨by decide, by decide⟩ (by omega) (cD_Row (by omega)) rfl rfl rfl hl.1 (Nat.le_of_ble_eq_true rfl) dX3_centralStands_114 ⟨Nat.zero_le _, Nat.zero_le _⟩ (fun H locs hP hS => ?_)
                  refine lv_if_eq (tgt := 137) hx hb dX3_centralStands_117 (by decide) (fun h117 => ?_) (fun h117 => ?_)
                  · rw [if_pos h117] at hf
                    refine lv_iconst (v := 0) hx hb dX3_centralStands_137 (by decide) ?_
                    exact hret _ _ _ _ _ _ rfl hf hP hS dX3_centralStands_138
                  · rw [if_neg h117] at hf
                    refine lv_aload_n hx hb dX3_centralStands_120 rfl (lv_at hl 0 rfl) ?_
                    refine lv_aload_n hx hb dX3_centralStands_121 rfl (lv_at hl 1 rfl) ?_
                    refine lv_iload_n hx hb dX3_centralStands_122 rfl (lv_at hl 2 rfl) ?_
                    refine lv_bipush (v := 46) hx hb dX3_centralStands_123 (by decide) ?_
                    refine lv_iadd hx hb dX3_centralStands_125 ?_
                    refine lv_iload_n hx hb dX3_centralStands_126 rfl (lv_at hl 3 rfl) ?_
                    obtain ⟨q127, hq, hf⟩ := ob_bind hf
                    refine ax_callVi (C := "") (b := 0) (i := 74) (k := 3) (ci := 2) [.ref (ad r1), .int (x2 + 46), .int x3] C0 hT hJ hE (met_X3_isEarlierName l dC dI cyI cyE tC ad q114.2 r1 (x2 + 46) x3 (by omega) _ hq) hP hS mc_X3_isEarlierName ml_X3_116 mi_X3_isEarlierName ms_X3_isEarlierName mz_X3 (by decide +kernel) ⟨rfl, rfl⟩ ⟨by decide, by decide⟩ (by decide) cD_Reader rfl rfl rfl hl.1 (Nat.le_of_ble_eq_true rfl) dX3_centralStands_127 ⟨Nat.zero_le _, Nat.zero_le _⟩ (fun H locs hP hS => ?_)
                    refine lv_if_ne (tgt := 137) hx hb dX3_centralStands_130 (by decide) (fun h130 => ?_) (fun h130 => ?_)
                    · rw [if_neg h130] at hf
                      refine lv_iconst (v := 0) hx hb dX3_centralStands_137 (by decide) ?_
                      exact hret _ _ _ _ _ _ rfl hf hP hS dX3_centralStands_138
                    · rw [if_pos h130] at hf
                      refine lv_iconst (v := 1) hx hb dX3_centralStands_133 (by decide) ?_
                      refine lv_goto (tgt := 138) hx hb dX3_centralStands_134 (by decide) ?_
                      exact hret _ _ _ _ _ _ rfl hf hP hS dX3_centralStands_138
def f_X3_centralsPass_74 (r1 : Nat) (k7 : SD → Int32 → Int32 → Option (Int32 × SD)) (σ : SD) (x2 : Int32) (x3 : Int32) (x4 : Int32) : Option (Int32 × SD) := if inb x3 (capD 25) = true then (k7 (SDc σ 25 (upd (σ.2.2.1 25) x3.toNatClampNeg x2)) x4 (x3 + 1)) else none
def f_X3_centralsPass_7 (r1 : Nat) : Nat → SD → Int32 → Int32 → Option (Int32 × SD)
  | 0, _, _, _ => none
  | n + 1, σ, x2, x3 => if (σ.1 6 0) ≤ x3 then (some (1, σ)) else ((f_X3_centralStands σ r1 x2 x3).bind fun q19 => if q19.1 = 0 then ((f_X3_fails q19.2 2 x3 x2).bind fun q29 => if nzb q29.1 = true then some (q29.1, q29.2) else none) else (if x3 = ((q19.2.1 6 0) - 1) then (if ((x2 + 46) + (q19.2.1 14 0)) = (q19.2.1 8 0) then (f_X3_centralsPass_74 r1 (f_X3_centralsPass_7 r1 n) q19.2 x2 x3 ((x2 + 46) + (q19.2.1 14 0))) else ((f_X3_fails q19.2 2 x3 x2).bind fun q70 => if nzb q70.1 = true then some (q70.1, q70.2) else none)) else (f_X3_centralsPass_74 r1 (f_X3_centralsPass_7 r1 n) q19.2 x2 x3 ((x2 + 46) + (q19.2.1 14 0)))))
def f_X3_centralsPass (σ : SD) (r1 : Nat) : Option (Int32 × SD) := f_X3_centralsPass_7 r1 fu σ (σ.1 7 0) 0
def rm_X3_centralsPass : Room := { frames := 4, cells := 0, slots := 0, locals := 95 }
set_option maxHeartbeats 4000000 in
set_option maxRecDepth 100000 in
theorem met_X3_centralsPass (l : Launch) (dC : Nat → ClassId) (dI : Nat → Nat → Nat) (cyI cyE : ClassId) (tC : Nat) (ad : Nat → Nat) (σ : SD) (r1 : Nat) (hb_r1 : r1 < 25) (res : Int32 × SD) (hf : f_X3_centralsPass σ r1 = some res) : ax_Mi l dC dI cyI cyE tC 77 (cD cyI cyE ad) ad yX3_centralsPass cX3_centralsPass 5 (some .boolean) rm_X3_centralsPass [.ref (ad 74), .ref (ad r1)] σ res.1 res.2 := by
  intro sz
  refine Met.ofW (cc := cX3_centralsPass) (maxL := 5) (ret := (some .boolean)) (by decide) rfl ?_
  intro p e s m args below meth c s₁ B hml hv
  obtain ⟨hargs, hsz, hP, hJ, hE⟩ := hv
  subst hsz
  have hx := B.exec
  have hb := B.bytes
  have hr := B.returns
  have hlocks := B.notSynchronized
  have hts := atoms_spec (ws := wsY yX3_centralsPass cX3_centralsPass 5 (some .boolean)) B.pre
  have hown : s.vm.findClass RX3 = some m.cls := findClass_of_methodNamed B.named
  have C0 : CallFix p m c cX3_centralsPass 5 s args (wsY yX3_centralsPass cX3_centralsPass 5 (some .boolean)) RX3 := ⟨hx, hb, hml, hown, hts⟩
  have hT : ∀ w ∈ bw, w ∈ wsY yX3_centralsPass cX3_centralsPass 5 (some .boolean) := fun w h => List.mem_cons_of_mem _ h
  have hS : va_S (ax_A 77 ad s.heap.size) s.heap s.heap [] := va_S.rf
  rw [show entryFrame m args 5 = entryFrame m ([.ref (ad 74), .ref (ad r1)] : List Value).toArray 5 by rw [hargs]]
  have hl := lv_entry ([.ref (ad 74), .ref (ad r1)]) (n := 5) (Nat.le_of_ble_eq_true rfl)
  rw [lg_entry_eq]
  generalize (lg_sl ([.ref (ad 74), .ref (ad r1)]) ++ List.replicate (5 - (lg_sl ([.ref (ad 74), .ref (ad r1)])).length) Slot.unset).toArray = ls at hl ⊢
  have hl : lv_has ls 5 [(0, .ref (ad 74)), (1, .ref (ad r1))] := hl
  obtain ⟨Q, hQ⟩ : ∃ Q : State → Prop, Q = MQ below (va_Qi (fun (a : Int32) (u : SD) => a = res.1 ∧ u = res.2) (ax_B dC dI 77 (cD cyI cyE ad) ad) (ax_A 77 ad s.heap.size)) args s 0 0 (ax_A 77 ad s.heap.size) := ⟨_, rfl⟩
  show W p l e rm_X3_centralsPass s m args below meth c s.heap [] 0 0 _ _
  rw [← hQ]
  have hret : ∀ (v : Int32) (σ : SD) (H : Heap) (locs : List Loc) (ls : Array Slot) (pc : Nat), narrow .boolean (.int v) = .int v → some (v, σ) = some res → va_P (dC, dI) vwCl (ax_w 77 ad (cD cyI cyE ad σ)) H → va_S (ax_A 77 ad s.heap.size) s.heap H locs → decode cX3_centralsPass pc = .ok (.ireturn, 1) → W p l e rm_X3_centralsPass s m args below meth c H locs 0 0 Q (F0 m pc ls [.int v]) := by
    intro v σ H locs ls pc hn hf hP hS hd
    cases hf
    rw [hQ]
    exact ax_iret hx hb hr hlocks hn hP hS hd rfl rfl
  have L74 : ∀ (k7 : SD → Int32 → Int32 → Option (Int32 × SD)), (∀ (σ : SD) (x2 : Int32) (x3 : Int32), ∀ (H : Heap) (locs : List Loc) (ls : Array Slot), va_P (dC, dI) vwCl (ax_w 77 ad (cD cyI cyE ad σ)) H → va_S (ax_A 77 ad s.heap.size) s.heap H locs → lv_has ls 5 [(0, .ref (ad 74)), (1, .ref (ad r1)), (2, .int x2), (3, .int x3)] → k7 σ x2 x3 = some res → W p l e rm_X3_centralsPass s m args below meth c H locs 0 0 Q (F0 m 7 ls [])) → ∀ (σ : SD) (x2 : Int32) (x3 : Int32) (x4 : Int32), ∀ (H : Heap) (locs : List Loc) (ls : Array Slot), va_P (dC, dI) vwCl (ax_w 77 ad (cD cyI cyE ad σ)) H → va_S (ax_A 77 ad s.heap.size) s.heap H locs → lv_has ls 5 [(0, .ref (ad 74)), (1, .ref (ad r1)), (2, .int x2), (3, .int x3), (4, .int x4)] → f_X3_centralsPass_74 r1 k7 σ x2 x3 x4 = some res → W p l e rm_X3_centralsPass s m args below meth c H locs 0 0 Q (F0 m 74 ls []) := by
    intro k7 hk7
    intro σ x2 x3 x4  H locs ls hP hS hl hf
    unfold f_X3_centralsPass_74 at hf
    refine lv_aload_n hx hb dX3_centralsPass_74 rfl (lv_at hl 0 rfl) ?_
    refine g_Reader_centralAt C0 hT hE hP mf_X3_9 dX3_centralsPass_75 ?_
    refine lv_iload_n hx hb dX3_centralsPass_78 rfl (lv_at hl 3 rfl) ?_
    refine lv_iload_n hx hb dX3_centralsPass_79 rfl (lv_at hl 2 rfl) ?_
    obtain ⟨hin, hf⟩ := ob_if hf
    refine aD_st (a := 25) (by decide) C0 hT hE hJ hP hS (inb_in hin) dX3_centralsPass_80 (fun H locs hP hS => ?_)
    refine lv_iload hx hb dX3_centralsPass_81 (lv_at hl 4 rfl) ?_
    refine lv_istore_n (lv' := [(2, .int x4), (0, .ref (ad 74)), (1, .ref (ad r1)), (3, .int x3), (4, .int x4)]) hx hb dX3_centralsPass_83 rfl hl (by decide) rfl (fun ls hl => ?_)
    refine lv_iinc (v := x3 + 1) (lv' := [(3, .int (x3 + 1)), (2, .int x4), (0, .ref (ad 74)), (1, .ref (ad r1)), (4, .int x4)]) hx hb dX3_centralsPass_84 hl (k := 3) rfl rfl (by decide) rfl (fun ls hl => ?_)
    refine lv_goto (tgt := 7) hx hb dX3_centralsPass_87 (by decide) ?_
    exact hk7 _ _ _ _ _ _ hP hS (lv_sub hl [2, 3, 1, 0] rfl) hf
  have L7 : ∀ (n : Nat), ∀ (σ : SD) (x2 : Int32) (x3 : Int32), ∀ (H : Heap) (locs : List Loc) (ls : Array Slot), va_P (dC, dI) vwCl (ax_w 77 ad (cD cyI cyE ad σ)) H → va_S (ax_A 77 ad s.heap.size) s.heap H locs → lv_has ls 5 [(0, .ref (ad 74)), (1, .ref (ad r1)), (2, .int x2), (3, .int x3)] → f_X3_centralsPass_7 r1 n σ x2 x3 = some res → W p l e rm_X3_centralsPass s m args below meth c H locs 0 0 Q (F0 m 7 ls []) := by
    intro n
    induction n with
    | zero =>
      intro σ x2 x3  H locs ls hP hS hl hf
      cases hf
    | succ n ih =>
      intro σ x2 x3  H locs ls hP hS hl hf
      rw [f_X3_centralsPass_7] at hf
      refine lv_iload_n hx hb dX3_centralsPass_7 rfl (lv_at hl 3 rfl) ?_
      refine lv_aload_n hx hb dX3_centralsPass_8 rfl (lv_at hl 0 rfl) ?_
      refine g_Reader_count C0 hT hE hP mf_X3_100 dX3_centralsPass_9 ?_
      refine lv_icmp_ge (tgt := 90) hx hb dX3_centralsPass_12 (by decide) (fun h12 => ?_) (fun h12 => ?_)
      · rw [if_pos h12] at hf
        refine lv_iconst (v := 1) hx hb dX3_centralsPass_90 (by decide) ?_
        exact hret _ _ _ _ _ _ rfl hf hP hS dX3_centralsPass_91
      · rw [if_neg h12] at hf
        refine lv_aload_n hx hb dX3_centralsPass_15 rfl (lv_at hl 0 rfl) ?_
        refine lv_aload_n hx hb dX3_centralsPass_16 rfl (lv_at hl 1 rfl) ?_
        refine lv_iload_n hx hb dX3_centralsPass_17 rfl (lv_at hl 2 rfl) ?_
        refine lv_iload_n hx hb dX3_centralsPass_18 rfl (lv_at hl 3 rfl) ?_
        obtain ⟨q19, hq, hf⟩ := ob_bind hf
        refine ax_callVi (C := "") (b := 0) (i := 74) (k := 3) (ci := 2) [.ref (ad r1), .int x2, .int x3] C0 hT hJ hE (met_X3_centralStands l dC dI cyI cyE tC ad σ r1 x2 x3 (by omega) _ hq) hP hS mc_X3_centralStands ml_X3_106 mi_X3_centralStands ms_X3_centralStands mz_X3 (by decide +kernel) ⟨rfl, rfl⟩ ⟨by decide, by decide⟩ (by decide) cD_Reader rfl rfl rfl hl.1 (Nat.le_of_ble_eq_true rfl) dX3_centralsPass_19 ⟨Nat.zero_le _, Nat.zero_le _⟩ (fun H locs hP hS => ?_)
        refine lv_if_ne (tgt := 33) hx hb dX3_centralsPass_22 (by decide) (fun h22 => ?_) (fun h22 => ?_)
        · rw [if_neg h22] at hf
          refine lv_iload_n hx hb dX3_centralsPass_33 rfl (lv_at hl 2 rfl) ?_
          refine lv_bipush (v := 46) hx hb dX3_centralsPass_34 (by decide) ?_
          refine lv_iadd hx hb dX3_centralsPass_36 ?_
          refine lv_aload_n hx hb dX3_centralsPass_37 rfl (lv_at hl 0 rfl) ?_
          refine g_Reader_header C0 hT hE hP mf_X3_21 dX3_centralsPass_38 ?_
          refine gN_Header_nameSize C0 hT hE hP (by decide) dX3_centralsPass_41 ?_
          refine lv_iadd hx hb dX3_centralsPass_44 ?_
          refine lv_istore (lv' := [(4, .int ((x2 + 46) + (q19.2.1 14 0))), (0, .ref (ad 74)), (1, .ref (ad r1)), (2, .int x2), (3, .int x3)]) hx hb dX3_centralsPass_45 hl (by decide) rfl (fun ls hl => ?_)
          refine lv_iload_n hx hb dX3_centralsPass_47 rfl (lv_at hl 4 rfl) ?_
          refine lv_aload_n hx hb dX3_centralsPass_48 rfl (lv_at hl 1 rfl) ?_
          refine g_Reader_count C0 hT hE hP mf_X3_100 dX3_centralsPass_49 ?_
          refine lv_iconst (v := 1) hx hb dX3_centralsPass_52 (by decide) ?_
          refine lv_isub hx hb dX3_centralsPass_53 ?_
          refine lv_icmp_ne (tgt := 74) hx hb dX3_centralsPass_54 (by decide) (fun h54 => ?_) (fun h54 => ?_)
          · rw [if_neg h54] at hf
            exact L74 _ ih _ _ _ _ _ _ _ hP hS (lv_sub hl [1, 2, 3, 4, 0] rfl) hf
          · rw [if_pos h54] at hf
            refine lv_iload hx hb dX3_centralsPass_57 (lv_at hl 0 rfl) ?_
            refine lv_aload_n hx hb dX3_centralsPass_59 rfl (lv_at hl 1 rfl) ?_
            refine g_Reader_endAt C0 hT hE hP mf_X3_74 dX3_centralsPass_60 ?_
            refine lv_icmp_eq (tgt := 74) hx hb dX3_centralsPass_63 (by decide) (fun h63 => ?_) (fun h63 => ?_)
            · rw [if_pos h63] at hf
              exact L74 _ ih _ _ _ _ _ _ _ hP hS (lv_sub hl [1, 2, 3, 4, 0] rfl) hf
            · rw [if_neg h63] at hf
              refine lv_aload_n hx hb dX3_centralsPass_66 rfl (lv_at hl 1 rfl) ?_
              refine lv_iconst (v := 2) hx hb dX3_centralsPass_67 (by decide) ?_
              refine lv_iload_n hx hb dX3_centralsPass_68 rfl (lv_at hl 4 rfl) ?_
              refine lv_iload_n hx hb dX3_centralsPass_69 rfl (lv_at hl 3 rfl) ?_
              obtain ⟨q70, hq, hf⟩ := ob_bind hf
              refine ax_callVi (C := "") (b := 0) (i := 74) (k := 3) (ci := 2) [.int 2, .int x3, .int x2] C0 hT hJ hE (met_X3_fails l dC dI cyI cyE tC ad q19.2 2 x3 x2 _ hq) hP hS mc_X3_fails ml_X3_81 mi_X3_fails ms_X3_fails mz_X3 (by decide +kernel) ⟨rfl, rfl⟩ ⟨by decide, by decide⟩ (by decide) cD_Reader rfl rfl rfl hl.1 (Nat.le_of_ble_eq_true rfl) dX3_centralsPass_70 ⟨Nat.zero_le _, Nat.zero_le _⟩ (fun H locs hP hS => ?_)
              obtain ⟨hnz, hf⟩ := ob_if hf
              exact hret _ _ _ _ _ _ (nzb_n hnz) hf hP hS dX3_centralsPass_73
        · rw [if_pos h22] at hf
          refine lv_aload_n hx hb dX3_centralsPass_25 rfl (lv_at hl 0 rfl) ?_
          refine lv_iconst (v := 2) hx hb dX3_centralsPass_26 (by decide) ?_
          refine lv_iload_n hx hb dX3_centralsPass_27 rfl (lv_at hl 3 rfl) ?_
          refine lv_iload_n hx hb dX3_centralsPass_28 rfl (lv_at hl 2 rfl) ?_
          obtain ⟨q29, hq, hf⟩ := ob_bind hf
          refine ax_callVi (C := "") (b := 0) (i := 74) (k := 3) (ci := 2) [.int 2, .int x3, .int x2] C0 hT hJ hE (met_X3_fails l dC dI cyI cyE tC ad q19.2 2 x3 x2 _ hq) hP hS mc_X3_fails ml_X3_81 mi_X3_fails ms_X3_fails mz_X3 (by decide +kernel) ⟨rfl, rfl⟩ ⟨by decide, by decide⟩ (by decide) cD_Reader rfl rfl rfl hl.1 (Nat.le_of_ble_eq_true rfl) dX3_centralsPass_29 ⟨Nat.zero_le _, Nat.zero_le _⟩ (fun H locs hP hS => ?_)
          obtain ⟨hnz, hf⟩ := ob_if hf
          exact hret _ _ _ _ _ _ (nzb_n hnz) hf hP hS dX3_centralsPass_32
  unfold f_X3_centralsPass at hf
  refine lv_aload_n hx hb dX3_centralsPass_0 rfl (lv_at hl 0 rfl) ?_
  refine g_Reader_firstCentral C0 hT hE hP mf_X3_103 dX3_centralsPass_1 ?_
  refine lv_istore_n (lv' := [(2, .int (σ.1 7 0)), (0, .ref (ad 74)), (1, .ref (ad r1))]) hx hb dX3_centralsPass_4 rfl hl (by decide) rfl (fun ls hl => ?_)
  refine lv_iconst (v := 0) hx hb dX3_centralsPass_5 (by decide) ?_
  refine lv_istore_n (lv' := [(3, .int 0), (2, .int (σ.1 7 0)), (0, .ref (ad 74)), (1, .ref (ad r1))]) hx hb dX3_centralsPass_6 rfl hl (by decide) rfl (fun ls hl => ?_)
  exact L7 fu _ _ _ _ _ _ hP hS (lv_sub hl [2, 3, 1, 0] rfl) hf
def f_X3_localStands (σ : SD) (r1 : Nat) (x2 : Int32) (x3 : Int32) : Option (Int32 × SD) := (f_X2_parse σ r1 (x3 + 6)).bind fun q9 => if q9.1 = 0 then (some (0, q9.2)) else ((f_X4_four q9.2 r1 (x3 + 42)).bind fun q20 => if (lg_cmp q20.1 x2.toInt64) = 0 then ((f_X4_hasSignature q20.2 r1 x2 3 4).bind fun q33 => if q33.1 = 0 then (some (0, q33.2)) else ((f_X4_agrees q33.2 r1 (x2 + 4) r1 (x3 + 6) 26).bind fun q50 => if q50.1 = 0 then (some (0, q50.2)) else ((f_X4_agrees q50.2 r1 (x2 + 30) r1 (x3 + 46) (q50.2.1 14 0)).bind fun q73 => if q73.1 = 0 then (some (0, q73.2)) else (if (0 : Int32) < (lg_cmp ((((x2 + 30) + (q73.2.1 14 0)).toInt64) + (q73.2.2.1 0)) ((q73.2.1 7 0).toInt64)) then (some (0, q73.2)) else (some (1, q73.2)))))) else (some (0, q20.2)))
def rm_X3_localStands : Room := { frames := 3, cells := 0, slots := 0, locals := 67 }
set_option maxHeartbeats 4000000 in
set_option maxRecDepth 100000 in
theorem met_X3_localStands (l : Launch) (dC : Nat → ClassId) (dI : Nat → Nat → Nat) (cyI cyE : ClassId) (tC : Nat) (ad : Nat → Nat) (σ : SD) (r1 : Nat) (x2 : Int32) (x3 : Int32) (hb_r1 : r1 < 25) (res : Int32 × SD) (hf : f_X3_localStands σ r1 x2 x3 = some res) : ax_Mi l dC dI cyI cyE tC 77 (cD cyI cyE ad) ad yX3_localStands cX3_localStands 4 (some .boolean) rm_X3_localStands [.ref (ad 74), .ref (ad r1), .int x2, .int x3] σ res.1 res.2 := by
  intro sz
  refine Met.ofW (cc := cX3_localStands) (maxL := 4) (ret := (some .boolean)) (by decide) rfl ?_
  intro p e s m args below meth c s₁ B hml hv
  obtain ⟨hargs, hsz, hP, hJ, hE⟩ := hv
  subst hsz
  have hx := B.exec
  have hb := B.bytes
  have hr := B.returns
  have hlocks := B.notSynchronized
  have hts := atoms_spec (ws := wsY yX3_localStands cX3_localStands 4 (some .boolean)) B.pre
  have hown : s.vm.findClass RX3 = some m.cls := findClass_of_methodNamed B.named
  have C0 : CallFix p m c cX3_localStands 4 s args (wsY yX3_localStands cX3_localStands 4 (some .boolean)) RX3 := ⟨hx, hb, hml, hown, hts⟩
  have hT : ∀ w ∈ bw, w ∈ wsY yX3_localStands cX3_localStands 4 (some .boolean) := fun w h => List.mem_cons_of_mem _ h
  have hS : va_S (ax_A 77 ad s.heap.size) s.heap s.heap [] := va_S.rf
  rw [show entryFrame m args 4 = entryFrame m ([.ref (ad 74), .ref (ad r1), .int x2, .int x3] : List Value).toArray 4 by rw [hargs]]
  have hl := lv_entry ([.ref (ad 74), .ref (ad r1), .int x2, .int x3]) (n := 4) (Nat.le_of_ble_eq_true rfl)
  rw [lg_entry_eq]
  generalize (lg_sl ([.ref (ad 74), .ref (ad r1), .int x2, .int x3]) ++ List.replicate (4 - (lg_sl ([.ref (ad 74), .ref (ad r1), .int x2, .int x3])).length) Slot.unset).toArray = ls at hl ⊢
  have hl : lv_has ls 4 [(0, .ref (ad 74)), (1, .ref (ad r1)), (2, .int x2), (3, .int x3)] := hl
  obtain ⟨Q, hQ⟩ : ∃ Q : State → Prop, Q = MQ below (va_Qi (fun (a : Int32) (u : SD) => a = res.1 ∧ u = res.2) (ax_B dC dI 77 (cD cyI cyE ad) ad) (ax_A 77 ad s.heap.size)) args s 0 0 (ax_A 77 ad s.heap.size) := ⟨_, rfl⟩
  show W p l e rm_X3_localStands s m args below meth c s.heap [] 0 0 _ _
  rw [← hQ]
  have hret : ∀ (v : Int32) (σ : SD) (H : Heap) (locs : List Loc) (ls : Array Slot) (pc : Nat), narrow .boolean (.int v) = .int v → some (v, σ) = some res → va_P (dC, dI) vwCl (ax_w 77 ad (cD cyI cyE ad σ)) H → va_S (ax_A 77 ad s.heap.size) s.heap H locs → decode cX3_localStands pc = .ok (.ireturn, 1) → W p l e rm_X3_localStands s m args below meth c H locs 0 0 Q (F0 m pc ls [.int v]) := by
    intro v σ H locs ls pc hn hf hP hS hd
    cases hf
    rw [hQ]
    exact ax_iret hx hb hr hlocks hn hP hS hd rfl rfl
  unfold f_X3_localStands at hf
  refine lv_aload_n hx hb dX3_localStands_0 rfl (lv_at hl 0 rfl) ?_
  refine g_Reader_header C0 hT hE hP mf_X3_21 dX3_localStands_1 ?_
  refine lv_aload_n hx hb dX3_localStands_4 rfl (lv_at hl 1 rfl) ?_
  refine lv_iload_n hx hb dX3_localStands_5 rfl (lv_at hl 3 rfl) ?_
  refine lv_bipush (v := 6) hx hb dX3_localStands_6 (by decide) ?_
  refine lv_iadd hx hb dX3_localStands_8 ?_
  obtain ⟨q9, hq, hf⟩ := ob_bind hf
  refine ax_callVi (C := "") (b := 0) (i := 73) (k := 2) (ci := 1) [.ref (ad r1), .int (x3 + 6)] C0 hT hJ hE (met_X2_parse l dC dI cyI cyE tC ad σ r1 (x3 + 6) (by omega) _ hq) hP hS mc_X2_parse ml_X3_110 mi_X2_parse ms_X2_parse mz_X2 (by decide +kernel) ⟨rfl, rfl⟩ ⟨by decide, by decide⟩ (by decide) cD_Header rfl rfl rfl hl.1 (Nat.le_of_ble_eq_true rfl) dX3_localStands_9 ⟨Nat.zero_le _, Nat.zero_le _⟩ (fun H locs hP hS => ?_)
  refine lv_if_eq (tgt := 113) hx hb dX3_localStands_12 (by decide) (fun h12 => ?_) (fun h12 => ?_)
  · rw [if_pos h12] at hf
    refine lv_iconst (v := 0) hx hb dX3_localStands_113 (by decide) ?_
    exact hret _ _ _ _ _ _ rfl hf hP hS dX3_localStands_114
  · rw [if_neg h12] at hf
    refine lv_aload_n hx hb dX3_localStands_15 rfl (lv_at hl 1 rfl) ?_
    refine lv_iload_n hx hb dX3_localStands_16 rfl (lv_at hl 3 rfl) ?_
    refine lv_bipush (v := 42) hx hb dX3_localStands_17 (by decide) ?_
    refine lv_iadd hx hb dX3_localStands_19 ?_
    obtain ⟨q20, hq, hf⟩ := ob_bind hf
    refine ax_callVl (b := 0) (i := r1) (k := 1) (ci := 3) [.int (x3 + 42)] C0 hT hJ hE (met_X4_four l dC dI cyI cyE tC ad q9.2 r1 (x3 + 42) (by omega) _ hq) hP hS mc_X4_four ml_X3_96 mi_X4_four ms_X4_four mz_X4 (by decide +kernel) ⟨rfl, rfl⟩ ⟨by decide, by decide⟩ (by omega) (cD_Row (by omega)) rfl rfl rfl hl.1 (Nat.le_of_ble_eq_true rfl) dX3_localStands_20 ⟨Nat.zero_le _, Nat.zero_le _⟩ (fun H locs hP hS => ?_)
    refine lv_iload_n hx hb dX3_localStands_23 rfl (lv_at hl 2 rfl) ?_
    refine lv_i2l hx hb dX3_localStands_24 rfl ?_
    refine W.lcmp hx hb dX3_localStands_25 ?_
    refine lv_if_ne (tgt := 113) hx hb dX3_localStands_26 (by decide) (fun h26 => ?_) (fun h26 => ?_)
    · rw [if_neg h26] at hf
      refine lv_iconst (v := 0) hx hb dX3_localStands_113 (by decide) ?_
      exact hret _ _ _ _ _ _ rfl hf hP hS dX3_localStands_114
    · rw [if_pos h26] at hf
      refine lv_aload_n hx hb dX3_localStands_29 rfl (lv_at hl 1 rfl) ?_
      refine lv_iload_n hx hb dX3_localStands_30 rfl (lv_at hl 2 rfl) ?_
      refine lv_iconst (v := 3) hx hb dX3_localStands_31 (by decide) ?_
      refine lv_iconst (v := 4) hx hb dX3_localStands_32 (by decide) ?_
      obtain ⟨q33, hq, hf⟩ := ob_bind hf
      refine ax_callVi (C := "") (b := 0) (i := r1) (k := 3) (ci := 3) [.int x2, .int 3, .int 4] C0 hT hJ hE (met_X4_hasSignature l dC dI cyI cyE tC ad q20.2 r1 x2 3 4 (by omega) _ hq) hP hS mc_X4_hasSignature ml_X3_89 mi_X4_hasSignature ms_X4_hasSignature mz_X4 (by decide +kernel) ⟨rfl, rfl⟩ ⟨by decide, by decide⟩ (by omega) (cD_Row (by omega)) rfl rfl rfl hl.1 (Nat.le_of_ble_eq_true rfl) dX3_localStands_33 ⟨Nat.zero_le _, Nat.zero_le _⟩ (fun H locs hP hS => ?_)
      refine lv_if_eq (tgt := 113) hx hb dX3_localStands_36 (by decide) (fun h36 => ?_) (fun h36 => ?_)
      · rw [if_pos h36] at hf
        refine lv_iconst (v := 0) hx hb dX3_localStands_113 (by decide) ?_
        exact hret _ _ _ _ _ _ rfl hf hP hS dX3_localStands_114
      · rw [if_neg h36] at hf
        refine lv_aload_n hx hb dX3_localStands_39 rfl (lv_at hl 1 rfl) ?_
        refine lv_iload_n hx hb dX3_localStands_40 rfl (lv_at hl 2 rfl) ?_
        refine lv_iconst (v := 4) hx hb dX3_localStands_41 (by decide) ?_
        refine lv_iadd hx hb dX3_localStands_42 ?_
        refine lv_aload_n hx hb dX3_localStands_43 rfl (lv_at hl 1 rfl) ?_
        refine lv_iload_n hx hb dX3_localStands_44 rfl (lv_at hl 3 rfl) ?_
        refine lv_bipush (v := 6) hx hb dX3_localStands_45 (by decide) ?_
        refine lv_iadd hx hb dX3_localStands_47 ?_
        refine lv_bipush (v := 26) hx hb dX3_localStands_48 (by decide) ?_
        obtain ⟨q50, hq, hf⟩ := ob_bind hf
        refine ax_callVi (C := "") (b := 0) (i := r1) (k := 4) (ci := 3) [.int (x2 + 4), .ref (ad r1), .int (x3 + 6), .int 26] C0 hT hJ hE (met_X4_agrees l dC dI cyI cyE tC ad q33.2 r1 (x2 + 4) r1 (x3 + 6) 26 (by omega) (by omega) _ hq) hP hS mc_X4_agrees ml_X3_119 mi_X4_agrees ms_X4_agrees mz_X4 (by decide +kernel) ⟨rfl, rfl⟩ ⟨by decide, by decide⟩ (by omega) (cD_Row (by omega)) rfl rfl rfl hl.1 (Nat.le_of_ble_eq_true rfl) dX3_localStands_50 ⟨Nat.zero_le _, Nat.zero_le _⟩ (fun H locs hP hS => ?_)
        refine lv_if_eq (tgt := 113) hx hb dX3_localStands_53 (by decide) (fun h53 => ?_) (fun h53 => ?_)
        · rw [if_pos h53] at hf
          refine lv_iconst (v := 0) hx hb dX3_localStands_113 (by decide) ?_
          exact hret _ _ _ _ _ _ rfl hf hP hS dX3_localStands_114
        · rw [if_neg h53] at hf
          refine lv_aload_n hx hb dX3_localStands_56 rfl (lv_at hl 1 rfl) ?_
          refine lv_iload_n hx hb dX3_localStands_57 rfl (lv_at hl 2 rfl) ?_
          refine lv_bipush (v := 30) hx hb dX3_localStands_58 (by decide) ?_
          refine lv_iadd hx hb dX3_localStands_60 ?_
          refine lv_aload_n hx hb dX3_localStands_61 rfl (lv_at hl 1 rfl) ?_
          refine lv_iload_n hx hb dX3_localStands_62 rfl (lv_at hl 3 rfl) ?_
          refine lv_bipush (v := 46) hx hb dX3_localStands_63 (by decide) ?_
          refine lv_iadd hx hb dX3_localStands_65 ?_
          refine lv_aload_n hx hb dX3_localStands_66 rfl (lv_at hl 0 rfl) ?_
          refine g_Reader_header C0 hT hE hP mf_X3_21 dX3_localStands_67 ?_
          refine gN_Header_nameSize C0 hT hE hP (by decide) dX3_localStands_70 ?_
          obtain ⟨q73, hq, hf⟩ := ob_bind hf
          refine ax_callVi (C := "") (b := 0) (i := r1) (k := 4) (ci := 3) [.int (x2 + 30), .ref (ad r1), .int (x3 + 46), .int (q50.2.1 14 0)] C0 hT hJ hE (met_X4_agrees l dC dI cyI cyE tC ad q50.2 r1 (x2 + 30) r1 (x3 + 46) (q50.2.1 14 0) (by omega) (by omega) _ hq) hP hS mc_X4_agrees ml_X3_119 mi_X4_agrees ms_X4_agrees mz_X4 (by decide +kernel) ⟨rfl, rfl⟩ ⟨by decide, by decide⟩ (by omega) (cD_Row (by omega)) rfl rfl rfl hl.1 (Nat.le_of_ble_eq_true rfl) dX3_localStands_73 ⟨Nat.zero_le _, Nat.zero_le _⟩ (fun H locs hP hS => ?_)
          refine lv_if_eq (tgt := 113) hx hb dX3_localStands_76 (by decide) (fun h76 => ?_) (fun h76 => ?_)
          · rw [if_pos h76] at hf
            refine lv_iconst (v := 0) hx hb dX3_localStands_113 (by decide) ?_
            exact hret _ _ _ _ _ _ rfl hf hP hS dX3_localStands_114
          · rw [if_neg h76] at hf
            refine lv_iload_n hx hb dX3_localStands_79 rfl (lv_at hl 2 rfl) ?_
            refine lv_bipush (v := 30) hx hb dX3_localStands_80 (by decide) ?_
            refine lv_iadd hx hb dX3_localStands_82 ?_
            refine lv_aload_n hx hb dX3_localStands_83 rfl (lv_at hl 0 rfl) ?_
            refine g_Reader_header C0 hT hE hP mf_X3_21 dX3_localStands_84 ?_
            refine gN_Header_nameSize C0 hT hE hP (by decide) dX3_localStands_87 ?_
            refine lv_iadd hx hb dX3_localStands_90 ?_
            refine lv_i2l hx hb dX3_localStands_91 rfl ?_
            refine lv_aload_n hx hb dX3_localStands_92 rfl (lv_at hl 0 rfl) ?_
            refine g_Reader_header C0 hT hE hP mf_X3_21 dX3_localStands_93 ?_
            refine gN_Header_packed C0 hT hE hP (by decide) dX3_localStands_96 ?_
            refine lv_ladd hx hb dX3_localStands_99 ?_
            refine lv_aload_n hx hb dX3_localStands_100 rfl (lv_at hl 0 rfl) ?_
            refine g_Reader_firstCentral C0 hT hE hP mf_X3_103 dX3_localStands_101 ?_
            refine lv_i2l hx hb dX3_localStands_104 rfl ?_
            refine W.lcmp hx hb dX3_localStands_105 ?_
            refine lv_if_gt (tgt := 113) hx hb dX3_localStands_106 (by decide) (fun h106 => ?_) (fun h106 => ?_)
            · rw [if_pos h106] at hf
              refine lv_iconst (v := 0) hx hb dX3_localStands_113 (by decide) ?_
              exact hret _ _ _ _ _ _ rfl hf hP hS dX3_localStands_114
            · rw [if_neg h106] at hf
              refine lv_iconst (v := 1) hx hb dX3_localStands_109 (by decide) ?_
              refine lv_goto (tgt := 114) hx hb dX3_localStands_110 (by decide) ?_
              exact hret _ _ _ _ _ _ rfl hf hP hS dX3_localStands_114
def f_X3_localsPass_93 (r1 : Nat) (k4 : SD → Int32 → Int32 → Option (Int32 × SD)) (σ : SD) (x3 : Int32) (x4 : Int32) : Option (Int32 × SD) := k4 σ x4 (x3 + 1)
def f_X3_localsPass_4 (r1 : Nat) : Nat → SD → Int32 → Int32 → Option (Int32 × SD)
  | 0, _, _, _ => none
  | n + 1, σ, x2, x3 => if (σ.1 6 0) ≤ x3 then (some (1, σ)) else (if inb x3 (capD 25) = true then ((f_X3_localStands σ r1 x2 (σ.2.2.1 25 x3.toNatClampNeg)).bind fun q21 => if q21.1 = 0 then ((f_X3_fails q21.2 3 x3 x2).bind fun q31 => if nzb q31.1 = true then some (q31.1, q31.2) else none) else (if inb x3 (capD 26) = true then (if inb x3 (capD 26) = true then ((f_X3_packedSize (SDc q21.2 26 (upd (q21.2.2.2.1 26) x3.toNatClampNeg ((x2 + 30) + (q21.2.1 14 0)))) ).bind fun q60 => if x3 = ((q60.2.1 6 0) - 1) then (if (((SDc q21.2 26 (upd (q21.2.2.2.1 26) x3.toNatClampNeg ((x2 + 30) + (q21.2.1 14 0)))).2.2.1 26 x3.toNatClampNeg) + q60.1) = (q60.2.1 7 0) then (f_X3_localsPass_93 r1 (f_X3_localsPass_4 r1 n) q60.2 x3 (((SDc q21.2 26 (upd (q21.2.2.2.1 26) x3.toNatClampNeg ((x2 + 30) + (q21.2.1 14 0)))).2.2.1 26 x3.toNatClampNeg) + q60.1)) else ((f_X3_fails q60.2 3 x3 x2).bind fun q89 => if nzb q89.1 = true then some (q89.1, q89.2) else none)) else (f_X3_localsPass_93 r1 (f_X3_localsPass_4 r1 n) q60.2 x3 (((SDc q21.2 26 (upd (q21.2.2.2.1 26) x3.toNatClampNeg ((x2 + 30) + (q21.2.1 14 0)))).2.2.1 26 x3.toNatClampNeg) + q60.1))) else none) else none)) else none)
def f_X3_localsPass (σ : SD) (r1 : Nat) : Option (Int32 × SD) := f_X3_localsPass_4 r1 fu σ 0 0
def rm_X3_localsPass : Room := { frames := 4, cells := 0, slots := 0, locals := 90 }
set_option maxHeartbeats 4000000 in
set_option maxRecDepth 100000 in
theorem met_X3_localsPass (l : Launch) (dC : Nat → ClassId) (dI : Nat → Nat → Nat) (cyI cyE : ClassId) (tC : Nat) (ad : Nat → Nat) (σ : SD) (r1 : Nat) (hb_r1 : r1 < 25) (res : Int32 × SD) (hf : f_X3_localsPass σ r1 = some res) : ax_Mi l dC dI cyI cyE tC 77 (cD cyI cyE ad) ad yX3_localsPass cX3_localsPass 5 (some .boolean) rm_X3_localsPass [.ref (ad 74), .ref (ad r1)] σ res.1 res.2 := by
  intro sz
  refine Met.ofW (cc := cX3_localsPass) (maxL := 5) (ret := (some .boolean)) (by decide) rfl ?_
  intro p e s m args below meth c s₁ B hml hv
  obtain ⟨hargs, hsz, hP, hJ, hE⟩ := hv
  subst hsz
  have hx := B.exec
  have hb := B.bytes
  have hr := B.returns
  have hlocks := B.notSynchronized
  have hts := atoms_spec (ws := wsY yX3_localsPass cX3_localsPass 5 (some .boolean)) B.pre
  have hown : s.vm.findClass RX3 = some m.cls := findClass_of_methodNamed B.named
  have C0 : CallFix p m c cX3_localsPass 5 s args (wsY yX3_localsPass cX3_localsPass 5 (some .boolean)) RX3 := ⟨hx, hb, hml, hown, hts⟩
  have hT : ∀ w ∈ bw, w ∈ wsY yX3_localsPass cX3_localsPass 5 (some .boolean) := fun w h => List.mem_cons_of_mem _ h
  have hS : va_S (ax_A 77 ad s.heap.size) s.heap s.heap [] := va_S.rf
  rw [show entryFrame m args 5 = entryFrame m ([.ref (ad 74), .ref (ad r1)] : List Value).toArray 5 by rw [hargs]]
  have hl := lv_entry ([.ref (ad 74), .ref (ad r1)]) (n := 5) (Nat.le_of_ble_eq_true rfl)
  rw [lg_entry_eq]
  generalize (lg_sl ([.ref (ad 74), .ref (ad r1)]) ++ List.replicate (5 - (lg_sl ([.ref (ad 74), .ref (ad r1)])).length) Slot.unset).toArray = ls at hl ⊢
  have hl : lv_has ls 5 [(0, .ref (ad 74)), (1, .ref (ad r1))] := hl
  obtain ⟨Q, hQ⟩ : ∃ Q : State → Prop, Q = MQ below (va_Qi (fun (a : Int32) (u : SD) => a = res.1 ∧ u = res.2) (ax_B dC dI 77 (cD cyI cyE ad) ad) (ax_A 77 ad s.heap.size)) args s 0 0 (ax_A 77 ad s.heap.size) := ⟨_, rfl⟩
  show W p l e rm_X3_localsPass s m args below meth c s.heap [] 0 0 _ _
  rw [← hQ]
  have hret : ∀ (v : Int32) (σ : SD) (H : Heap) (locs : List Loc) (ls : Array Slot) (pc : Nat), narrow .boolean (.int v) = .int v → some (v, σ) = some res → va_P (dC, dI) vwCl (ax_w 77 ad (cD cyI cyE ad σ)) H → va_S (ax_A 77 ad s.heap.size) s.heap H locs → decode cX3_localsPass pc = .ok (.ireturn, 1) → W p l e rm_X3_localsPass s m args below meth c H locs 0 0 Q (F0 m pc ls [.int v]) := by
    intro v σ H locs ls pc hn hf hP hS hd
    cases hf
    rw [hQ]
    exact ax_iret hx hb hr hlocks hn hP hS hd rfl rfl
  have L93 : ∀ (k4 : SD → Int32 → Int32 → Option (Int32 × SD)), (∀ (σ : SD) (x2 : Int32) (x3 : Int32), ∀ (H : Heap) (locs : List Loc) (ls : Array Slot), va_P (dC, dI) vwCl (ax_w 77 ad (cD cyI cyE ad σ)) H → va_S (ax_A 77 ad s.heap.size) s.heap H locs → lv_has ls 5 [(0, .ref (ad 74)), (1, .ref (ad r1)), (2, .int x2), (3, .int x3)] → k4 σ x2 x3 = some res → W p l e rm_X3_localsPass s m args below meth c H locs 0 0 Q (F0 m 4 ls [])) → ∀ (σ : SD) (x3 : Int32) (x4 : Int32), ∀ (H : Heap) (locs : List Loc) (ls : Array Slot), va_P (dC, dI) vwCl (ax_w 77 ad (cD cyI cyE ad σ)) H → va_S (ax_A 77 ad s.heap.size) s.heap H locs → lv_has ls 5 [(0, .ref (ad 74)), (1, .ref (ad r1)), (3, .int x3), (4, .int x4)] → f_X3_localsPass_93 r1 k4 σ x3 x4 = some res → W p l e rm_X3_localsPass s m args below meth c H locs 0 0 Q (F0 m 93 ls []) := by
    intro k4 hk4
    intro σ x3 x4  H locs ls hP hS hl hf
    unfold f_X3_localsPass_93 at hf
    refine lv_iload hx hb dX3_localsPass_93 (lv_at hl 3 rfl) ?_
    refine lv_istore_n (lv' := [(2, .int x4), (0, .ref (ad 74)), (1, .ref (ad r1)), (3, .int x3), (4, .int x4)]) hx hb dX3_localsPass_95 rfl hl (by decide) rfl (fun ls hl => ?_)
    refine lv_iinc (v := x3 + 1) (lv' := [(3, .int (x3 + 1)), (2, .int x4), (0, .ref (ad 74)), (1, .ref (ad r1)), (4, .int x4)]) hx hb dX3_localsPass_96 hl (k := 3) rfl rfl (by decide) rfl (fun ls hl => ?_)
    refine lv_goto (tgt := 4) hx hb dX3_localsPass_99 (by decide) ?_
    exact hk4 _ _ _ _ _ _ hP hS (lv_sub hl [2, 3, 1, 0] rfl) hf
  have L4 : ∀ (n : Nat), ∀ (σ : SD) (x2 : Int32) (x3 : Int32), ∀ (H : Heap) (locs : List Loc) (ls : Array Slot), va_P (dC, dI) vwCl (ax_w 77 ad (cD cyI cyE ad σ)) H → va_S (ax_A 77 ad s.heap.size) s.heap H locs → lv_has ls 5 [(0, .ref (ad 74)), (1, .ref (ad r1)), (2, .int x2), (3, .int x3)] → f_X3_localsPass_4 r1 n σ x2 x3 = some res → W p l e rm_X3_localsPass s m args below meth c H locs 0 0 Q (F0 m 4 ls []) := by
    intro n
    induction n with
    | zero =>
      intro σ x2 x3  H locs ls hP hS hl hf
      cases hf
    | succ n ih =>
      intro σ x2 x3  H locs ls hP hS hl hf
      rw [f_X3_localsPass_4] at hf
      refine lv_iload_n hx hb dX3_localsPass_4 rfl (lv_at hl 3 rfl) ?_
      refine lv_aload_n hx hb dX3_localsPass_5 rfl (lv_at hl 0 rfl) ?_
      refine g_Reader_count C0 hT hE hP mf_X3_100 dX3_localsPass_6 ?_
      refine lv_icmp_ge (tgt := 102) hx hb dX3_localsPass_9 (by decide) (fun h9 => ?_) (fun h9 => ?_)
      · rw [if_pos h9] at hf
        refine lv_iconst (v := 1) hx hb dX3_localsPass_102 (by decide) ?_
        exact hret _ _ _ _ _ _ rfl hf hP hS dX3_localsPass_103
      · rw [if_neg h9] at hf
        refine lv_aload_n hx hb dX3_localsPass_12 rfl (lv_at hl 0 rfl) ?_
        refine lv_aload_n hx hb dX3_localsPass_13 rfl (lv_at hl 1 rfl) ?_
        refine lv_iload_n hx hb dX3_localsPass_14 rfl (lv_at hl 2 rfl) ?_
        refine lv_aload_n hx hb dX3_localsPass_15 rfl (lv_at hl 0 rfl) ?_
        refine g_Reader_centralAt C0 hT hE hP mf_X3_9 dX3_localsPass_16 ?_
        refine lv_iload_n hx hb dX3_localsPass_19 rfl (lv_at hl 3 rfl) ?_
        obtain ⟨hin, hf⟩ := ob_if hf
        refine aD_ld (a := 25) (by decide) C0 hT hE hP (inb_in hin) dX3_localsPass_20 ?_
        obtain ⟨q21, hq, hf⟩ := ob_bind hf
        refine ax_callVi (C := "") (b := 0) (i := 74) (k := 3) (ci := 2) [.ref (ad r1), .int x2, .int (σ.2.2.1 25 x3.toNatClampNeg)] C0 hT hJ hE (met_X3_localStands l dC dI cyI cyE tC ad σ r1 x2 (σ.2.2.1 25 x3.toNatClampNeg) (by omega) _ hq) hP hS mc_X3_localStands ml_X3_123 mi_X3_localStands ms_X3_localStands mz_X3 (by decide +kernel) ⟨rfl, rfl⟩ ⟨by decide, by decide⟩ (by decide) cD_Reader rfl rfl rfl hl.1 (Nat.le_of_ble_eq_true rfl) dX3_localsPass_21 ⟨Nat.zero_le _, Nat.zero_le _⟩ (fun H locs hP hS => ?_)
        refine lv_if_ne (tgt := 35) hx hb dX3_localsPass_24 (by decide) (fun h24 => ?_) (fun h24 => ?_)
        · rw [if_neg h24] at hf
          refine lv_aload_n hx hb dX3_localsPass_35 rfl (lv_at hl 0 rfl) ?_
          refine g_Reader_packedAt C0 hT hE hP mf_X3_15 dX3_localsPass_36 ?_
          refine lv_iload_n hx hb dX3_localsPass_39 rfl (lv_at hl 3 rfl) ?_
          refine lv_iload_n hx hb dX3_localsPass_40 rfl (lv_at hl 2 rfl) ?_
          refine lv_bipush (v := 30) hx hb dX3_localsPass_41 (by decide) ?_
          refine lv_iadd hx hb dX3_localsPass_43 ?_
          refine lv_aload_n hx hb dX3_localsPass_44 rfl (lv_at hl 0 rfl) ?_
          refine g_Reader_header C0 hT hE hP mf_X3_21 dX3_localsPass_45 ?_
          refine gN_Header_nameSize C0 hT hE hP (by decide) dX3_localsPass_48 ?_
          refine lv_iadd hx hb dX3_localsPass_51 ?_
          obtain ⟨hin, hf⟩ := ob_if hf
          refine aD_st (a := 26) (by decide) C0 hT hE hJ hP hS (inb_in hin) dX3_localsPass_52 (fun H locs hP hS => ?_)
          refine lv_aload_n hx hb dX3_localsPass_53 rfl (lv_at hl 0 rfl) ?_
          refine g_Reader_packedAt C0 hT hE hP mf_X3_15 dX3_localsPass_54 ?_
          refine lv_iload_n hx hb dX3_localsPass_57 rfl (lv_at hl 3 rfl) ?_
          obtain ⟨hin, hf⟩ := ob_if hf
          refine aD_ld (a := 26) (by decide) C0 hT hE hP (inb_in hin) dX3_localsPass_58 ?_
          refine lv_aload_n hx hb dX3_localsPass_59 rfl (lv_at hl 0 rfl) ?_
          obtain ⟨q60, hq, hf⟩ := ob_bind hf
          refine ax_callVi (C := "") (b := 0) (i := 74) (k := 0) (ci := 2) [] C0 hT hJ hE (met_X3_packedSize l dC dI cyI cyE tC ad (SDc q21.2 26 (upd (q21.2.2.2.1 26) x3.toNatClampNeg ((x2 + 30) + (q21.2.1 14 0)))) _ hq) hP hS mc_X3_packedSize ml_X3_126 mi_X3_packedSize ms_X3_packedSize mz_X3 (by decide +kernel) ⟨rfl, rfl⟩ ⟨by decide, by decide⟩ (by decide) cD_Reader rfl rfl rfl hl.1 (Nat.le_of_ble_eq_true rfl) dX3_localsPass_60 ⟨Nat.zero_le _, Nat.zero_le _⟩ (fun H locs hP hS => ?_)
          refine lv_iadd hx hb dX3_localsPass_63 ?_
          refine lv_istore (lv' := [(4, .int (((SDc q21.2 26 (upd (q21.2.2.2.1 26) x3.toNatClampNeg ((x2 + 30) + (q21.2.1 14 0)))).2.2.1 26 x3.toNatClampNeg) + q60.1)), (0, .ref (ad 74)), (1, .ref (ad r1)), (2, .int x2), (3, .int x3)]) hx hb dX3_localsPass_64 hl (by decide) rfl (fun ls hl => ?_)
          refine lv_iload_n hx hb dX3_localsPass_66 rfl (lv_at hl 4 rfl) ?_
          refine lv_aload_n hx hb dX3_localsPass_67 rfl (lv_at hl 1 rfl) ?_
          refine g_Reader_count C0 hT hE hP mf_X3_100 dX3_localsPass_68 ?_
          refine lv_iconst (v := 1) hx hb dX3_localsPass_71 (by decide) ?_
          refine lv_isub hx hb dX3_localsPass_72 ?_
          refine lv_icmp_ne (tgt := 93) hx hb dX3_localsPass_73 (by decide) (fun h73 => ?_) (fun h73 => ?_)
          · rw [if_neg h73] at hf
            exact L93 _ ih _ _ _ _ _ _ hP hS (lv_sub hl [1, 2, 4, 0] rfl) hf
          · rw [if_pos h73] at hf
            refine lv_iload hx hb dX3_localsPass_76 (lv_at hl 0 rfl) ?_
            refine lv_aload_n hx hb dX3_localsPass_78 rfl (lv_at hl 1 rfl) ?_
            refine g_Reader_firstCentral C0 hT hE hP mf_X3_103 dX3_localsPass_79 ?_
            refine lv_icmp_eq (tgt := 93) hx hb dX3_localsPass_82 (by decide) (fun h82 => ?_) (fun h82 => ?_)
            · rw [if_pos h82] at hf
              exact L93 _ ih _ _ _ _ _ _ hP hS (lv_sub hl [1, 2, 4, 0] rfl) hf
            · rw [if_neg h82] at hf
              refine lv_aload_n hx hb dX3_localsPass_85 rfl (lv_at hl 1 rfl) ?_
              refine lv_iconst (v := 3) hx hb dX3_localsPass_86 (by decide) ?_
              refine lv_iload_n hx hb dX3_localsPass_87 rfl (lv_at hl 4 rfl) ?_
              refine lv_iload_n hx hb dX3_localsPass_88 rfl (lv_at hl 3 rfl) ?_
              obtain ⟨q89, hq, hf⟩ := ob_bind hf
              refine ax_callVi (C := "") (b := 0) (i := 74) (k := 3) (ci := 2) [.int 3, .int x3, .int x2] C0 hT hJ hE (met_X3_fails l dC dI cyI cyE tC ad q60.2 3 x3 x2 _ hq) hP hS mc_X3_fails ml_X3_81 mi_X3_fails ms_X3_fails mz_X3 (by decide +kernel) ⟨rfl, rfl⟩ ⟨by decide, by decide⟩ (by decide) cD_Reader rfl rfl rfl hl.1 (Nat.le_of_ble_eq_true rfl) dX3_localsPass_89 ⟨Nat.zero_le _, Nat.zero_le _⟩ (fun H locs hP hS => ?_)
              obtain ⟨hnz, hf⟩ := ob_if hf
              exact hret _ _ _ _ _ _ (nzb_n hnz) hf hP hS dX3_localsPass_92
        · rw [if_pos h24] at hf
          refine lv_aload_n hx hb dX3_localsPass_27 rfl (lv_at hl 0 rfl) ?_
          refine lv_iconst (v := 3) hx hb dX3_localsPass_28 (by decide) ?_
          refine lv_iload_n hx hb dX3_localsPass_29 rfl (lv_at hl 3 rfl) ?_
          refine lv_iload_n hx hb dX3_localsPass_30 rfl (lv_at hl 2 rfl) ?_
          obtain ⟨q31, hq, hf⟩ := ob_bind hf
          refine ax_callVi (C := "") (b := 0) (i := 74) (k := 3) (ci := 2) [.int 3, .int x3, .int x2] C0 hT hJ hE (met_X3_fails l dC dI cyI cyE tC ad q21.2 3 x3 x2 _ hq) hP hS mc_X3_fails ml_X3_81 mi_X3_fails ms_X3_fails mz_X3 (by decide +kernel) ⟨rfl, rfl⟩ ⟨by decide, by decide⟩ (by decide) cD_Reader rfl rfl rfl hl.1 (Nat.le_of_ble_eq_true rfl) dX3_localsPass_31 ⟨Nat.zero_le _, Nat.zero_le _⟩ (fun H locs hP hS => ?_)
          obtain ⟨hnz, hf⟩ := ob_if hf
          exact hret _ _ _ _ _ _ (nzb_n hnz) hf hP hS dX3_localsPass_34
  unfold f_X3_localsPass at hf
  refine lv_iconst (v := 0) hx hb dX3_localsPass_0 (by decide) ?_
  refine lv_istore_n (lv' := [(2, .int 0), (0, .ref (ad 74)), (1, .ref (ad r1))]) hx hb dX3_localsPass_1 rfl hl (by decide) rfl (fun ls hl => ?_)
  refine lv_iconst (v := 0) hx hb dX3_localsPass_2 (by decide) ?_
  refine lv_istore_n (lv' := [(3, .int 0), (2, .int 0), (0, .ref (ad 74)), (1, .ref (ad r1))]) hx hb dX3_localsPass_3 rfl hl (by decide) rfl (fun ls hl => ?_)
  exact L4 fu _ _ _ _ _ _ hP hS (lv_sub hl [2, 3, 1, 0] rfl) hf
def f_X3_unpack_53 (r1 : Nat) (x2 : Int32) (σ : SD)  : Option (Int32 × SD) := (f_X4_size σ 4).bind fun q57 => if (lg_cmp q57.1.toInt64 (q57.2.2.1 1)) = 0 then (some (1, q57.2)) else (some (0, q57.2))
def f_X3_unpack (σ : SD) (r1 : Nat) (x2 : Int32) : Option (Int32 × SD) := (f_X4_shorten σ 4 0).bind fun q5 => if (q5.2.1 12 0) = 0 then ((f_X3_packedSize q5.2 ).bind fun q26 => (f_X4_append q26.2 4 r1 x2 q26.1).bind fun q29 => f_X3_unpack_53 r1 x2 q29 ) else ((f_X3_packedSize q5.2 ).bind fun q38 => (f_X0_unfold q38.2 r1 x2 q38.1 4).bind fun q45 => if q45.1 = 0 then (some (0, q45.2)) else (f_X3_unpack_53 r1 x2 q45.2 ))
def rm_X3_unpack : Room := { frames := 3, cells := 0, slots := 0, locals := 81 }
set_option maxHeartbeats 4000000 in
set_option maxRecDepth 100000 in
theorem met_X3_unpack (l : Launch) (dC : Nat → ClassId) (dI : Nat → Nat → Nat) (cyI cyE : ClassId) (tC : Nat) (ad : Nat → Nat) (σ : SD) (r1 : Nat) (x2 : Int32) (hb_r1 : r1 < 25) (res : Int32 × SD) (hf : f_X3_unpack σ r1 x2 = some res) : ax_Mi l dC dI cyI cyE tC 77 (cD cyI cyE ad) ad yX3_unpack cX3_unpack 3 (some .boolean) rm_X3_unpack [.ref (ad 74), .ref (ad r1), .int x2] σ res.1 res.2 := by
  intro sz
  refine Met.ofW (cc := cX3_unpack) (maxL := 3) (ret := (some .boolean)) (by decide) rfl ?_
  intro p e s m args below meth c s₁ B hml hv
  obtain ⟨hargs, hsz, hP, hJ, hE⟩ := hv
  subst hsz
  have hx := B.exec
  have hb := B.bytes
  have hr := B.returns
  have hlocks := B.notSynchronized
  have hts := atoms_spec (ws := wsY yX3_unpack cX3_unpack 3 (some .boolean)) B.pre
  have hown : s.vm.findClass RX3 = some m.cls := findClass_of_methodNamed B.named
  have C0 : CallFix p m c cX3_unpack 3 s args (wsY yX3_unpack cX3_unpack 3 (some .boolean)) RX3 := ⟨hx, hb, hml, hown, hts⟩
  have hT : ∀ w ∈ bw, w ∈ wsY yX3_unpack cX3_unpack 3 (some .boolean) := fun w h => List.mem_cons_of_mem _ h
  have hS : va_S (ax_A 77 ad s.heap.size) s.heap s.heap [] := va_S.rf
  rw [show entryFrame m args 3 = entryFrame m ([.ref (ad 74), .ref (ad r1), .int x2] : List Value).toArray 3 by rw [hargs]]
  have hl := lv_entry ([.ref (ad 74), .ref (ad r1), .int x2]) (n := 3) (Nat.le_of_ble_eq_true rfl)
  rw [lg_entry_eq]
  generalize (lg_sl ([.ref (ad 74), .ref (ad r1), .int x2]) ++ List.replicate (3 - (lg_sl ([.ref (ad 74), .ref (ad r1), .int x2])).length) Slot.unset).toArray = ls at hl ⊢
  have hl : lv_has ls 3 [(0, .ref (ad 74)), (1, .ref (ad r1)), (2, .int x2)] := hl
  obtain ⟨Q, hQ⟩ : ∃ Q : State → Prop, Q = MQ below (va_Qi (fun (a : Int32) (u : SD) => a = res.1 ∧ u = res.2) (ax_B dC dI 77 (cD cyI cyE ad) ad) (ax_A 77 ad s.heap.size)) args s 0 0 (ax_A 77 ad s.heap.size) := ⟨_, rfl⟩
  show W p l e rm_X3_unpack s m args below meth c s.heap [] 0 0 _ _
  rw [← hQ]
  have hret : ∀ (v : Int32) (σ : SD) (H : Heap) (locs : List Loc) (ls : Array Slot) (pc : Nat), narrow .boolean (.int v) = .int v → some (v, σ) = some res → va_P (dC, dI) vwCl (ax_w 77 ad (cD cyI cyE ad σ)) H → va_S (ax_A 77 ad s.heap.size) s.heap H locs → decode cX3_unpack pc = .ok (.ireturn, 1) → W p l e rm_X3_unpack s m args below meth c H locs 0 0 Q (F0 m pc ls [.int v]) := by
    intro v σ H locs ls pc hn hf hP hS hd
    cases hf
    rw [hQ]
    exact ax_iret hx hb hr hlocks hn hP hS hd rfl rfl
  have L53 : ∀ (σ : SD) , ∀ (H : Heap) (locs : List Loc) (ls : Array Slot), va_P (dC, dI) vwCl (ax_w 77 ad (cD cyI cyE ad σ)) H → va_S (ax_A 77 ad s.heap.size) s.heap H locs → lv_has ls 3 [(0, .ref (ad 74))] → f_X3_unpack_53 r1 x2 σ  = some res → W p l e rm_X3_unpack s m args below meth c H locs 0 0 Q (F0 m 53 ls []) := by
    intro σ   H locs ls hP hS hl hf
    unfold f_X3_unpack_53 at hf
    refine lv_aload_n hx hb dX3_unpack_53 rfl (lv_at hl 0 rfl) ?_
    refine g_Reader_unpacked C0 hT hE hP mf_X3_30 dX3_unpack_54 ?_
    obtain ⟨q57, hq, hf⟩ := ob_bind hf
    refine ax_callVi (C := "") (b := 0) (i := 4) (k := 0) (ci := 3) [] C0 hT hJ hE (met_X4_size l dC dI cyI cyE tC ad σ 4 (by decide) _ hq) hP hS mc_X4_size ml_X3_64 mi_X4_size ms_X4_size mz_X4 (by decide +kernel) ⟨rfl, rfl⟩ ⟨by decide, by decide⟩ (by decide) (cD_Row (by decide)) rfl rfl rfl hl.1 (Nat.le_of_ble_eq_true rfl) dX3_unpack_57 ⟨Nat.zero_le _, Nat.zero_le _⟩ (fun H locs hP hS => ?_)
    refine lv_i2l hx hb dX3_unpack_60 rfl ?_
    refine lv_aload_n hx hb dX3_unpack_61 rfl (lv_at hl 0 rfl) ?_
    refine g_Reader_header C0 hT hE hP mf_X3_21 dX3_unpack_62 ?_
    refine gN_Header_size C0 hT hE hP (by decide) dX3_unpack_65 ?_
    refine W.lcmp hx hb dX3_unpack_68 ?_
    refine lv_if_ne (tgt := 76) hx hb dX3_unpack_69 (by decide) (fun h69 => ?_) (fun h69 => ?_)
    · rw [if_neg h69] at hf
      refine lv_iconst (v := 0) hx hb dX3_unpack_76 (by decide) ?_
      exact hret _ _ _ _ _ _ rfl hf hP hS dX3_unpack_77
    · rw [if_pos h69] at hf
      refine lv_iconst (v := 1) hx hb dX3_unpack_72 (by decide) ?_
      refine lv_goto (tgt := 77) hx hb dX3_unpack_73 (by decide) ?_
      exact hret _ _ _ _ _ _ rfl hf hP hS dX3_unpack_77
  unfold f_X3_unpack at hf
  refine lv_aload_n hx hb dX3_unpack_0 rfl (lv_at hl 0 rfl) ?_
  refine g_Reader_unpacked C0 hT hE hP mf_X3_30 dX3_unpack_1 ?_
  refine lv_iconst (v := 0) hx hb dX3_unpack_4 (by decide) ?_
  obtain ⟨q5, hq, hf⟩ := ob_bind hf
  refine ax_callVi (C := "") (b := 0) (i := 4) (k := 1) (ci := 3) [.int 0] C0 hT hJ hE (met_X4_shorten l dC dI cyI cyE tC ad σ 4 0 (by decide) _ hq) hP hS mc_X4_shorten ml_X3_143 mi_X4_shorten ms_X4_shorten mz_X4 (by decide +kernel) ⟨rfl, rfl⟩ ⟨by decide, by decide⟩ (by decide) (cD_Row (by decide)) rfl rfl rfl hl.1 (Nat.le_of_ble_eq_true rfl) dX3_unpack_5 ⟨Nat.zero_le _, Nat.zero_le _⟩ (fun H locs hP hS => ?_)
  refine lv_pop hx hb dX3_unpack_8 rfl ?_
  refine lv_aload_n hx hb dX3_unpack_9 rfl (lv_at hl 0 rfl) ?_
  refine g_Reader_header C0 hT hE hP mf_X3_21 dX3_unpack_10 ?_
  refine gN_Header_method C0 hT hE hP (by decide) dX3_unpack_13 ?_
  refine lv_if_ne (tgt := 35) hx hb dX3_unpack_16 (by decide) (fun h16 => ?_) (fun h16 => ?_)
  · rw [if_neg h16] at hf
    refine lv_aload_n hx hb dX3_unpack_35 rfl (lv_at hl 1 rfl) ?_
    refine lv_iload_n hx hb dX3_unpack_36 rfl (lv_at hl 2 rfl) ?_
    refine lv_aload_n hx hb dX3_unpack_37 rfl (lv_at hl 0 rfl) ?_
    obtain ⟨q38, hq, hf⟩ := ob_bind hf
    refine ax_callVi (C := "") (b := 0) (i := 74) (k := 0) (ci := 2) [] C0 hT hJ hE (met_X3_packedSize l dC dI cyI cyE tC ad q5.2 _ hq) hP hS mc_X3_packedSize ml_X3_126 mi_X3_packedSize ms_X3_packedSize mz_X3 (by decide +kernel) ⟨rfl, rfl⟩ ⟨by decide, by decide⟩ (by decide) cD_Reader rfl rfl rfl hl.1 (Nat.le_of_ble_eq_true rfl) dX3_unpack_38 ⟨Nat.zero_le _, Nat.zero_le _⟩ (fun H locs hP hS => ?_)
    refine lv_aload_n hx hb dX3_unpack_41 rfl (lv_at hl 0 rfl) ?_
    refine g_Reader_unpacked C0 hT hE hP mf_X3_30 dX3_unpack_42 ?_
    obtain ⟨q45, hq, hf⟩ := ob_bind hf
    refine ax_callSi (k := 4) [.ref (ad r1), .int x2, .int q38.1, .ref (ad 4)] C0 hT hJ hE (met_X0_unfold l dC dI cyI cyE tC ad q38.2 r1 x2 q38.1 4 (by omega) (by decide) _ hq) hP hS mc_X0_unfold ml_X3_154 mt_X0_unfold mz_X0 (by decide +kernel) ⟨rfl, rfl⟩ ⟨by decide, by decide⟩ rfl rfl hl.1 (Nat.le_of_ble_eq_true rfl) dX3_unpack_45 ⟨Nat.zero_le _, Nat.zero_le _⟩ (fun H locs hP hS => ?_)
    refine lv_if_ne (tgt := 53) hx hb dX3_unpack_48 (by decide) (fun h48 => ?_) (fun h48 => ?_)
    · rw [if_neg h48] at hf
      exact L53 _  _ _ _ hP hS (lv_sub hl [0] rfl) hf
    · rw [if_pos h48] at hf
      refine lv_iconst (v := 0) hx hb dX3_unpack_51 (by decide) ?_
      exact hret _ _ _ _ _ _ rfl hf hP hS dX3_unpack_52
  · rw [if_pos h16] at hf
    refine lv_aload_n hx hb dX3_unpack_19 rfl (lv_at hl 0 rfl) ?_
    refine g_Reader_unpacked C0 hT hE hP mf_X3_30 dX3_unpack_20 ?_
    refine lv_aload_n hx hb dX3_unpack_23 rfl (lv_at hl 1 rfl) ?_
    refine lv_iload_n hx hb dX3_unpack_24 rfl (lv_at hl 2 rfl) ?_
    refine lv_aload_n hx hb dX3_unpack_25 rfl (lv_at hl 0 rfl) ?_
    obtain ⟨q26, hq, hf⟩ := ob_bind hf
    refine ax_callVi (C := "") (b := 0) (i := 74) (k := 0) (ci := 2) [] C0 hT hJ hE (met_X3_packedSize l dC dI cyI cyE tC ad q5.2 _ hq) hP hS mc_X3_packedSize ml_X3_126 mi_X3_packedSize ms_X3_packedSize mz_X3 (by decide +kernel) ⟨rfl, rfl⟩ ⟨by decide, by decide⟩ (by decide) cD_Reader rfl rfl rfl hl.1 (Nat.le_of_ble_eq_true rfl) dX3_unpack_26 ⟨Nat.zero_le _, Nat.zero_le _⟩ (fun H locs hP hS => ?_)
    obtain ⟨q29, hq, hf⟩ := ob_bind hf
    refine ax_callVv (b := 0) (i := 4) (k := 3) (ci := 3) [.ref (ad r1), .int x2, .int q26.1] C0 hT hJ hE (met_X4_append l dC dI cyI cyE tC ad q26.2 4 r1 x2 q26.1 (by decide) (by omega) _ hq) hP hS mc_X4_append ml_X3_150 mi_X4_append ms_X4_append mz_X4 (by decide +kernel) ⟨rfl, rfl⟩ ⟨by decide, by decide⟩ (by decide) (cD_Row (by decide)) rfl rfl rfl hl.1 (Nat.le_of_ble_eq_true rfl) dX3_unpack_29 ⟨Nat.zero_le _, Nat.zero_le _⟩ (fun H locs hP hS => ?_)
    refine lv_goto (tgt := 53) hx hb dX3_unpack_32 (by decide) ?_
    exact L53 _  _ _ _ hP hS (lv_sub hl [0] rfl) hf
def f_X3_crcAgrees (σ : SD) : Option (Int32 × SD) := (f_X4_size σ 4).bind fun q9 => (f_X0_crc q9.2 4 0 q9.1).bind fun q12 => if q12.1 = (q12.2.1 13 0) then (some (1, q12.2)) else (some (0, q12.2))
def rm_X3_crcAgrees : Room := { frames := 2, cells := 0, slots := 0, locals := 45 }
set_option maxHeartbeats 4000000 in
set_option maxRecDepth 100000 in
theorem met_X3_crcAgrees (l : Launch) (dC : Nat → ClassId) (dI : Nat → Nat → Nat) (cyI cyE : ClassId) (tC : Nat) (ad : Nat → Nat) (σ : SD) (res : Int32 × SD) (hf : f_X3_crcAgrees σ = some res) : ax_Mi l dC dI cyI cyE tC 77 (cD cyI cyE ad) ad yX3_crcAgrees cX3_crcAgrees 1 (some .boolean) rm_X3_crcAgrees [.ref (ad 74)] σ res.1 res.2 := by
  intro sz
  refine Met.ofW (cc := cX3_crcAgrees) (maxL := 1) (ret := (some .boolean)) (by decide) rfl ?_
  intro p e s m args below meth c s₁ B hml hv
  obtain ⟨hargs, hsz, hP, hJ, hE⟩ := hv
  subst hsz
  have hx := B.exec
  have hb := B.bytes
  have hr := B.returns
  have hlocks := B.notSynchronized
  have hts := atoms_spec (ws := wsY yX3_crcAgrees cX3_crcAgrees 1 (some .boolean)) B.pre
  have hown : s.vm.findClass RX3 = some m.cls := findClass_of_methodNamed B.named
  have C0 : CallFix p m c cX3_crcAgrees 1 s args (wsY yX3_crcAgrees cX3_crcAgrees 1 (some .boolean)) RX3 := ⟨hx, hb, hml, hown, hts⟩
  have hT : ∀ w ∈ bw, w ∈ wsY yX3_crcAgrees cX3_crcAgrees 1 (some .boolean) := fun w h => List.mem_cons_of_mem _ h
  have hS : va_S (ax_A 77 ad s.heap.size) s.heap s.heap [] := va_S.rf
  rw [show entryFrame m args 1 = entryFrame m ([.ref (ad 74)] : List Value).toArray 1 by rw [hargs]]
  have hl := lv_entry ([.ref (ad 74)]) (n := 1) (Nat.le_of_ble_eq_true rfl)
  rw [lg_entry_eq]
  generalize (lg_sl ([.ref (ad 74)]) ++ List.replicate (1 - (lg_sl ([.ref (ad 74)])).length) Slot.unset).toArray = ls at hl ⊢
  have hl : lv_has ls 1 [(0, .ref (ad 74))] := hl
  obtain ⟨Q, hQ⟩ : ∃ Q : State → Prop, Q = MQ below (va_Qi (fun (a : Int32) (u : SD) => a = res.1 ∧ u = res.2) (ax_B dC dI 77 (cD cyI cyE ad) ad) (ax_A 77 ad s.heap.size)) args s 0 0 (ax_A 77 ad s.heap.size) := ⟨_, rfl⟩
  show W p l e rm_X3_crcAgrees s m args below meth c s.heap [] 0 0 _ _
  rw [← hQ]
  have hret : ∀ (v : Int32) (σ : SD) (H : Heap) (locs : List Loc) (ls : Array Slot) (pc : Nat), narrow .boolean (.int v) = .int v → some (v, σ) = some res → va_P (dC, dI) vwCl (ax_w 77 ad (cD cyI cyE ad σ)) H → va_S (ax_A 77 ad s.heap.size) s.heap H locs → decode cX3_crcAgrees pc = .ok (.ireturn, 1) → W p l e rm_X3_crcAgrees s m args below meth c H locs 0 0 Q (F0 m pc ls [.int v]) := by
    intro v σ H locs ls pc hn hf hP hS hd
    cases hf
    rw [hQ]
    exact ax_iret hx hb hr hlocks hn hP hS hd rfl rfl
  unfold f_X3_crcAgrees at hf
  refine lv_aload_n hx hb dX3_crcAgrees_0 rfl (lv_at hl 0 rfl) ?_
  refine g_Reader_unpacked C0 hT hE hP mf_X3_30 dX3_crcAgrees_1 ?_
  refine lv_iconst (v := 0) hx hb dX3_crcAgrees_4 (by decide) ?_
  refine lv_aload_n hx hb dX3_crcAgrees_5 rfl (lv_at hl 0 rfl) ?_
  refine g_Reader_unpacked C0 hT hE hP mf_X3_30 dX3_crcAgrees_6 ?_
  obtain ⟨q9, hq, hf⟩ := ob_bind hf
  refine ax_callVi (C := "") (b := 0) (i := 4) (k := 0) (ci := 3) [] C0 hT hJ hE (met_X4_size l dC dI cyI cyE tC ad σ 4 (by decide) _ hq) hP hS mc_X4_size ml_X3_64 mi_X4_size ms_X4_size mz_X4 (by decide +kernel) ⟨rfl, rfl⟩ ⟨by decide, by decide⟩ (by decide) (cD_Row (by decide)) rfl rfl rfl hl.1 (Nat.le_of_ble_eq_true rfl) dX3_crcAgrees_9 ⟨Nat.zero_le _, Nat.zero_le _⟩ (fun H locs hP hS => ?_)
  obtain ⟨q12, hq, hf⟩ := ob_bind hf
  refine ax_callSi (k := 3) [.ref (ad 4), .int 0, .int q9.1] C0 hT hJ hE (met_X0_crc l dC dI cyI cyE tC ad q9.2 4 0 q9.1 (by decide) _ hq) hP hS mc_X0_crc ml_X3_160 mt_X0_crc mz_X0 (by decide +kernel) ⟨rfl, rfl⟩ ⟨by decide, by decide⟩ rfl rfl hl.1 (Nat.le_of_ble_eq_true rfl) dX3_crcAgrees_12 ⟨Nat.zero_le _, Nat.zero_le _⟩ (fun H locs hP hS => ?_)
  refine lv_aload_n hx hb dX3_crcAgrees_15 rfl (lv_at hl 0 rfl) ?_
  refine g_Reader_header C0 hT hE hP mf_X3_21 dX3_crcAgrees_16 ?_
  refine gN_Header_crc C0 hT hE hP (by decide) dX3_crcAgrees_19 ?_
  refine lv_icmp_ne (tgt := 29) hx hb dX3_crcAgrees_22 (by decide) (fun h22 => ?_) (fun h22 => ?_)
  · rw [if_neg h22] at hf
    refine lv_iconst (v := 0) hx hb dX3_crcAgrees_29 (by decide) ?_
    exact hret _ _ _ _ _ _ rfl hf hP hS dX3_crcAgrees_30
  · rw [if_pos h22] at hf
    refine lv_iconst (v := 1) hx hb dX3_crcAgrees_25 (by decide) ?_
    refine lv_goto (tgt := 30) hx hb dX3_crcAgrees_26 (by decide) ?_
    exact hret _ _ _ _ _ _ rfl hf hP hS dX3_crcAgrees_30
