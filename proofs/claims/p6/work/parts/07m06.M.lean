def f_X8_findEnd_135 (σ : SM) (x1 : Int32) (x2 : Int32) (x3 : Int64) (s0 : Int32) : Option (Int32 × SM) := if x2 = 0 then (some ((-1), σ)) else (if (lg_cmp x3 x1.toInt64) = 0 then (if s0 = 0 then (some (x1, σ)) else (if x1 = 0 then (some (x1, σ)) else (some ((-1), σ)))) else (some ((-1), σ)))
def f_X8_findEnd_90 (σ : SM) (x1 : Int32) (s0 : Int32) : Option (Int32 × SM) := (f_X8_number σ (x1 + 12) 4).bind fun q97 => (f_X8_number q97.2 (x1 + 16) 4).bind fun q107 => if s0 = 0 then (f_X8_findEnd_135 q107.2 x1 s0 (q97.1.toInt64 + q107.1.toInt64) 0) else ((f_X8_is q107.2 (x1 + 8) 2 0).bind fun q124 => if q124.1 = 0 then (f_X8_findEnd_135 q124.2 x1 s0 (q97.1.toInt64 + q107.1.toInt64) 0) else (f_X8_findEnd_135 q124.2 x1 s0 (q97.1.toInt64 + q107.1.toInt64) 1))
def f_X8_findEnd (σ : SM) : Option (Int32 × SM) := if (0 : Int32) ≤ ((σ.1 1) - 22) then ((f_X8_isSign σ ((σ.1 1) - 22) 5 6).bind fun q19 => if q19.1 = 0 then (f_X8_findEnd_90 q19.2 ((σ.1 1) - 22) 0) else ((f_X8_is q19.2 (((σ.1 1) - 22) + 4) 4 0).bind fun q31 => if q31.1 = 0 then (f_X8_findEnd_90 q31.2 ((σ.1 1) - 22) 0) else ((f_X8_number q31.2 (((σ.1 1) - 22) + 8) 2).bind fun q43 => if (20 : Int32) < q43.1 then (f_X8_findEnd_90 q43.2 ((σ.1 1) - 22) 0) else ((f_X8_number q43.2 (((σ.1 1) - 22) + 8) 2).bind fun q57 => (f_X8_number q57.2 (((σ.1 1) - 22) + 10) 2).bind fun q66 => if q57.1 = q66.1 then ((f_X8_is q66.2 (((σ.1 1) - 22) + 20) 2 0).bind fun q79 => if q79.1 = 0 then (f_X8_findEnd_90 q79.2 ((σ.1 1) - 22) 0) else (f_X8_findEnd_90 q79.2 ((σ.1 1) - 22) 1)) else (f_X8_findEnd_90 q66.2 ((σ.1 1) - 22) 0))))) else (some ((-1), σ))
def rm_X8_findEnd : Room := { frames := 2, cells := 0, slots := 0, locals := 48 }
set_option maxHeartbeats 4000000 in
set_option maxRecDepth 100000 in
theorem met_X8_findEnd (l : Launch) (dC : Nat → ClassId) (dI : Nat → Nat → Nat) (cyI cyE : ClassId) (tC : Nat) (ad : Nat → Nat) (σ : SM) (res : Int32 × SM) (hf : f_X8_findEnd σ = some res) : ax_Mi l dC dI cyI cyE tC 12 (cM cyI ad) ad yX8_findEnd cX8_findEnd 6 (some .int) rm_X8_findEnd [.ref (ad 11)] σ res.1 res.2 := by
  intro sz
  refine Met.ofW (cc := cX8_findEnd) (maxL := 6) (ret := (some .int)) (by decide) rfl ?_
  intro p e s m args below meth c s₁ B hml hv
  obtain ⟨hargs, hsz, hP, hJ, hE⟩ := hv
  subst hsz
  have hx := B.exec
  have hb := B.bytes
  have hr := B.returns
  have hlocks := B.notSynchronized
  have hts := atoms_spec (ws := wsY yX8_findEnd cX8_findEnd 6 (some .int)) B.pre
  have hown : s.vm.findClass RX8 = some m.cls := findClass_of_methodNamed B.named
  have C0 : CallFix p m c cX8_findEnd 6 s args (wsY yX8_findEnd cX8_findEnd 6 (some .int)) RX8 := ⟨hx, hb, hml, hown, hts⟩
  have hT : ∀ w ∈ bw, w ∈ wsY yX8_findEnd cX8_findEnd 6 (some .int) := fun w h => List.mem_cons_of_mem _ h
  have hS : va_S (ax_A 12 ad s.heap.size) s.heap s.heap [] := va_S.rf
  rw [show entryFrame m args 6 = entryFrame m ([.ref (ad 11)] : List Value).toArray 6 by rw [hargs]]
  have hl := lv_entry ([.ref (ad 11)]) (n := 6) (Nat.le_of_ble_eq_true rfl)
  rw [lg_entry_eq]
  generalize (lg_sl ([.ref (ad 11)]) ++ List.replicate (6 - (lg_sl ([.ref (ad 11)])).length) Slot.unset).toArray = ls at hl ⊢
  have hl : lv_has ls 6 [(0, .ref (ad 11))] := hl
  obtain ⟨Q, hQ⟩ : ∃ Q : State → Prop, Q = MQ below (va_Qi (fun (a : Int32) (u : SM) => a = res.1 ∧ u = res.2) (ax_B dC dI 12 (cM cyI ad) ad) (ax_A 12 ad s.heap.size)) args s 0 0 (ax_A 12 ad s.heap.size) := ⟨_, rfl⟩
  show W p l e rm_X8_findEnd s m args below meth c s.heap [] 0 0 _ _
  rw [← hQ]
  have hret : ∀ (v : Int32) (σ : SM) (H : Heap) (locs : List Loc) (ls : Array Slot) (pc : Nat), narrow .int (.int v) = .int v → some (v, σ) = some res → va_P (dC, dI) vwCl (ax_w 12 ad (cM cyI ad σ)) H → va_S (ax_A 12 ad s.heap.size) s.heap H locs → decode cX8_findEnd pc = .ok (.ireturn, 1) → W p l e rm_X8_findEnd s m args below meth c H locs 0 0 Q (F0 m pc ls [.int v]) := by
    intro v σ H locs ls pc hn hf hP hS hd
    cases hf
    rw [hQ]
    exact ax_iret hx hb hr hlocks hn hP hS hd rfl rfl
  have L135 : ∀ (σ : SM) (x1 : Int32) (x2 : Int32) (x3 : Int64) (s0 : Int32), ∀ (H : Heap) (locs : List Loc) (ls : Array Slot), va_P (dC, dI) vwCl (ax_w 12 ad (cM cyI ad σ)) H → va_S (ax_A 12 ad s.heap.size) s.heap H locs → lv_has ls 6 [(1, .int x1), (2, .int x2), (3, .long x3)] → f_X8_findEnd_135 σ x1 x2 x3 s0 = some res → W p l e rm_X8_findEnd s m args below meth c H locs 0 0 Q (F0 m 135 ls [.int s0]) := by
    intro σ x1 x2 x3 s0  H locs ls hP hS hl hf
    unfold f_X8_findEnd_135 at hf
    refine lv_istore (lv' := [(5, .int s0), (1, .int x1), (2, .int x2), (3, .long x3)]) hx hb dX8_findEnd_135 hl (by decide) rfl (fun ls hl => ?_)
    refine lv_iload_n hx hb dX8_findEnd_137 rfl (lv_at hl 2 rfl) ?_
    refine lv_if_eq (tgt := 161) hx hb dX8_findEnd_138 (by decide) (fun h138 => ?_) (fun h138 => ?_)
    · rw [if_pos h138] at hf
      refine lv_iconst (v := (-1)) hx hb dX8_findEnd_161 (by decide) ?_
      exact hret _ _ _ _ _ _ rfl hf hP hS dX8_findEnd_162
    · rw [if_neg h138] at hf
      refine lv_lload_n hx hb dX8_findEnd_141 rfl (lv_at hl 3 rfl) ?_
      refine lv_iload_n hx hb dX8_findEnd_142 rfl (lv_at hl 1 rfl) ?_
      refine lv_i2l hx hb dX8_findEnd_143 rfl ?_
      refine W.lcmp hx hb dX8_findEnd_144 ?_
      refine lv_if_ne (tgt := 161) hx hb dX8_findEnd_145 (by decide) (fun h145 => ?_) (fun h145 => ?_)
      · rw [if_neg h145] at hf
        refine lv_iconst (v := (-1)) hx hb dX8_findEnd_161 (by decide) ?_
        exact hret _ _ _ _ _ _ rfl hf hP hS dX8_findEnd_162
      · rw [if_pos h145] at hf
        refine lv_iload hx hb dX8_findEnd_148 (lv_at hl 0 rfl) ?_
        refine lv_if_eq (tgt := 157) hx hb dX8_findEnd_150 (by decide) (fun h150 => ?_) (fun h150 => ?_)
        · rw [if_pos h150] at hf
          refine lv_iload_n hx hb dX8_findEnd_157 rfl (lv_at hl 1 rfl) ?_
          refine lv_goto (tgt := 162) hx hb dX8_findEnd_158 (by decide) ?_
          exact hret _ _ _ _ _ _ rfl hf hP hS dX8_findEnd_162
        · rw [if_neg h150] at hf
          refine lv_iload_n hx hb dX8_findEnd_153 rfl (lv_at hl 1 rfl) ?_
          refine lv_if_ne (tgt := 161) hx hb dX8_findEnd_154 (by decide) (fun h154 => ?_) (fun h154 => ?_)
          · rw [if_neg h154] at hf
            refine lv_iconst (v := (-1)) hx hb dX8_findEnd_161 (by decide) ?_
            exact hret _ _ _ _ _ _ rfl hf hP hS dX8_findEnd_162
          · rw [if_pos h154] at hf
            refine lv_iload_n hx hb dX8_findEnd_157 rfl (lv_at hl 1 rfl) ?_
            refine lv_goto (tgt := 162) hx hb dX8_findEnd_158 (by decide) ?_
            exact hret _ _ _ _ _ _ rfl hf hP hS dX8_findEnd_162
  have L90 : ∀ (σ : SM) (x1 : Int32) (s0 : Int32), ∀ (H : Heap) (locs : List Loc) (ls : Array Slot), va_P (dC, dI) vwCl (ax_w 12 ad (cM cyI ad σ)) H → va_S (ax_A 12 ad s.heap.size) s.heap H locs → lv_has ls 6 [(0, .ref (ad 11)), (1, .int x1)] → f_X8_findEnd_90 σ x1 s0 = some res → W p l e rm_X8_findEnd s m args below meth c H locs 0 0 Q (F0 m 90 ls [.int s0]) := by
    intro σ x1 s0  H locs ls hP hS hl hf
    unfold f_X8_findEnd_90 at hf
    refine lv_istore_n (lv' := [(2, .int s0), (0, .ref (ad 11)), (1, .int x1)]) hx hb dX8_findEnd_90 rfl hl (by decide) rfl (fun ls hl => ?_)
    refine lv_aload_n hx hb dX8_findEnd_91 rfl (lv_at hl 1 rfl) ?_
    refine lv_iload_n hx hb dX8_findEnd_92 rfl (lv_at hl 2 rfl) ?_
    refine lv_bipush (v := 12) hx hb dX8_findEnd_93 (by decide) ?_
    refine lv_iadd hx hb dX8_findEnd_95 ?_
    refine lv_iconst (v := 4) hx hb dX8_findEnd_96 (by decide) ?_
    obtain ⟨q97, hq, hf⟩ := ob_bind hf
    refine ax_callVi (C := "") (b := 0) (i := 11) (k := 2) (ci := 6) [.int (x1 + 12), .int 4] C0 hT hJ hE (met_X8_number l dC dI cyI cyE tC ad σ (x1 + 12) 4 _ hq) hP hS mc_X8_number ml_X8_135 mi_X8_number ms_X8_number mz_X8 (by decide +kernel) ⟨rfl, rfl⟩ ⟨by decide, by decide⟩ (by decide) cM_O rfl rfl rfl hl.1 (Nat.le_of_ble_eq_true rfl) dX8_findEnd_97 ⟨Nat.zero_le _, Nat.zero_le _⟩ (fun H locs hP hS => ?_)
    refine lv_i2l hx hb dX8_findEnd_100 rfl ?_
    refine lv_aload_n hx hb dX8_findEnd_101 rfl (lv_at hl 1 rfl) ?_
    refine lv_iload_n hx hb dX8_findEnd_102 rfl (lv_at hl 2 rfl) ?_
    refine lv_bipush (v := 16) hx hb dX8_findEnd_103 (by decide) ?_
    refine lv_iadd hx hb dX8_findEnd_105 ?_
    refine lv_iconst (v := 4) hx hb dX8_findEnd_106 (by decide) ?_
    obtain ⟨q107, hq, hf⟩ := ob_bind hf
    refine ax_callVi (C := "") (b := 0) (i := 11) (k := 2) (ci := 6) [.int (x1 + 16), .int 4] C0 hT hJ hE (met_X8_number l dC dI cyI cyE tC ad q97.2 (x1 + 16) 4 _ hq) hP hS mc_X8_number ml_X8_135 mi_X8_number ms_X8_number mz_X8 (by decide +kernel) ⟨rfl, rfl⟩ ⟨by decide, by decide⟩ (by decide) cM_O rfl rfl rfl hl.1 (Nat.le_of_ble_eq_true rfl) dX8_findEnd_107 ⟨Nat.zero_le _, Nat.zero_le _⟩ (fun H locs hP hS => ?_)
    refine lv_i2l hx hb dX8_findEnd_110 rfl ?_
    refine lv_ladd hx hb dX8_findEnd_111 ?_
    refine lv_lstore_n (lv' := [(3, .long (q97.1.toInt64 + q107.1.toInt64)), (2, .int s0), (0, .ref (ad 11)), (1, .int x1)]) hx hb dX8_findEnd_112 rfl hl (by decide) rfl (fun ls hl => ?_)
    refine lv_iload_n hx hb dX8_findEnd_113 rfl (lv_at hl 1 rfl) ?_
    refine lv_if_eq (tgt := 134) hx hb dX8_findEnd_114 (by decide) (fun h114 => ?_) (fun h114 => ?_)
    · rw [if_pos h114] at hf
      refine lv_iconst (v := 0) hx hb dX8_findEnd_134 (by decide) ?_
      exact L135 _ _ _ _ _ _ _ _ hP hS (lv_sub hl [3, 1, 0] rfl) hf
    · rw [if_neg h114] at hf
      refine lv_aload_n hx hb dX8_findEnd_117 rfl (lv_at hl 2 rfl) ?_
      refine lv_iload_n hx hb dX8_findEnd_118 rfl (lv_at hl 3 rfl) ?_
      refine lv_bipush (v := 8) hx hb dX8_findEnd_119 (by decide) ?_
      refine lv_iadd hx hb dX8_findEnd_121 ?_
      refine lv_iconst (v := 2) hx hb dX8_findEnd_122 (by decide) ?_
      refine lv_iconst (v := 0) hx hb dX8_findEnd_123 (by decide) ?_
      obtain ⟨q124, hq, hf⟩ := ob_bind hf
      refine ax_callVi (C := "") (b := 0) (i := 11) (k := 3) (ci := 6) [.int (x1 + 8), .int 2, .int 0] C0 hT hJ hE (met_X8_is l dC dI cyI cyE tC ad q107.2 (x1 + 8) 2 0 _ hq) hP hS mc_X8_is ml_X8_141 mi_X8_is ms_X8_is mz_X8 (by decide +kernel) ⟨rfl, rfl⟩ ⟨by decide, by decide⟩ (by decide) cM_O rfl rfl rfl hl.1 (Nat.le_of_ble_eq_true rfl) dX8_findEnd_124 ⟨Nat.zero_le _, Nat.zero_le _⟩ (fun H locs hP hS => ?_)
      refine lv_if_eq (tgt := 134) hx hb dX8_findEnd_127 (by decide) (fun h127 => ?_) (fun h127 => ?_)
      · rw [if_pos h127] at hf
        refine lv_iconst (v := 0) hx hb dX8_findEnd_134 (by decide) ?_
        exact L135 _ _ _ _ _ _ _ _ hP hS (lv_sub hl [3, 1, 0] rfl) hf
      · rw [if_neg h127] at hf
        refine lv_iconst (v := 1) hx hb dX8_findEnd_130 (by decide) ?_
        refine lv_goto (tgt := 135) hx hb dX8_findEnd_131 (by decide) ?_
        exact L135 _ _ _ _ _ _ _ _ hP hS (lv_sub hl [3, 1, 0] rfl) hf
  unfold f_X8_findEnd at hf
  refine lv_aload_n hx hb dX8_findEnd_0 rfl (lv_at hl 0 rfl) ?_
  refine g_Model_size C0 hT hE hP mf_X8_53 dX8_findEnd_1 ?_
  refine lv_bipush (v := 22) hx hb dX8_findEnd_4 (by decide) ?_
  refine lv_isub hx hb dX8_findEnd_6 ?_
  refine lv_istore_n (lv' := [(1, .int ((σ.1 1) - 22)), (0, .ref (ad 11))]) hx hb dX8_findEnd_7 rfl hl (by decide) rfl (fun ls hl => ?_)
  refine lv_iload_n hx hb dX8_findEnd_8 rfl (lv_at hl 0 rfl) ?_
  refine lv_if_ge (tgt := 14) hx hb dX8_findEnd_9 (by decide) (fun h9 => ?_) (fun h9 => ?_)
  · rw [if_pos h9] at hf
    refine lv_aload_n hx hb dX8_findEnd_14 rfl (lv_at hl 1 rfl) ?_
    refine lv_iload_n hx hb dX8_findEnd_15 rfl (lv_at hl 0 rfl) ?_
    refine lv_iconst (v := 5) hx hb dX8_findEnd_16 (by decide) ?_
    refine lv_bipush (v := 6) hx hb dX8_findEnd_17 (by decide) ?_
    obtain ⟨q19, hq, hf⟩ := ob_bind hf
    refine ax_callVi (C := "") (b := 0) (i := 11) (k := 3) (ci := 6) [.int ((σ.1 1) - 22), .int 5, .int 6] C0 hT hJ hE (met_X8_isSign l dC dI cyI cyE tC ad σ ((σ.1 1) - 22) 5 6 _ hq) hP hS mc_X8_isSign ml_X8_145 mi_X8_isSign ms_X8_isSign mz_X8 (by decide +kernel) ⟨rfl, rfl⟩ ⟨by decide, by decide⟩ (by decide) cM_O rfl rfl rfl hl.1 (Nat.le_of_ble_eq_true rfl) dX8_findEnd_19 ⟨Nat.zero_le _, Nat.zero_le _⟩ (fun H locs hP hS => ?_)
    refine lv_if_eq (tgt := 89) hx hb dX8_findEnd_22 (by decide) (fun h22 => ?_) (fun h22 => ?_)
    · rw [if_pos h22] at hf
      refine lv_iconst (v := 0) hx hb dX8_findEnd_89 (by decide) ?_
      exact L90 _ _ _ _ _ _ hP hS (lv_sub hl [1, 0] rfl) hf
    · rw [if_neg h22] at hf
      refine lv_aload_n hx hb dX8_findEnd_25 rfl (lv_at hl 1 rfl) ?_
      refine lv_iload_n hx hb dX8_findEnd_26 rfl (lv_at hl 0 rfl) ?_
      refine lv_iconst (v := 4) hx hb dX8_findEnd_27 (by decide) ?_
      refine lv_iadd hx hb dX8_findEnd_28 ?_
      refine lv_iconst (v := 4) hx hb dX8_findEnd_29 (by decide) ?_
      refine lv_iconst (v := 0) hx hb dX8_findEnd_30 (by decide) ?_
      obtain ⟨q31, hq, hf⟩ := ob_bind hf
      refine ax_callVi (C := "") (b := 0) (i := 11) (k := 3) (ci := 6) [.int (((σ.1 1) - 22) + 4), .int 4, .int 0] C0 hT hJ hE (met_X8_is l dC dI cyI cyE tC ad q19.2 (((σ.1 1) - 22) + 4) 4 0 _ hq) hP hS mc_X8_is ml_X8_141 mi_X8_is ms_X8_is mz_X8 (by decide +kernel) ⟨rfl, rfl⟩ ⟨by decide, by decide⟩ (by decide) cM_O rfl rfl rfl hl.1 (Nat.le_of_ble_eq_true rfl) dX8_findEnd_31 ⟨Nat.zero_le _, Nat.zero_le _⟩ (fun H locs hP hS => ?_)
      refine lv_if_eq (tgt := 89) hx hb dX8_findEnd_34 (by decide) (fun h34 => ?_) (fun h34 => ?_)
      · rw [if_pos h34] at hf
        refine lv_iconst (v := 0) hx hb dX8_findEnd_89 (by decide) ?_
        exact L90 _ _ _ _ _ _ hP hS (lv_sub hl [1, 0] rfl) hf
      · rw [if_neg h34] at hf
        refine lv_aload_n hx hb dX8_findEnd_37 rfl (lv_at hl 1 rfl) ?_
        refine lv_iload_n hx hb dX8_findEnd_38 rfl (lv_at hl 0 rfl) ?_
        refine lv_bipush (v := 8) hx hb dX8_findEnd_39 (by decide) ?_
        refine lv_iadd hx hb dX8_findEnd_41 ?_
        refine lv_iconst (v := 2) hx hb dX8_findEnd_42 (by decide) ?_
        obtain ⟨q43, hq, hf⟩ := ob_bind hf
        refine ax_callVi (C := "") (b := 0) (i := 11) (k := 2) (ci := 6) [.int (((σ.1 1) - 22) + 8), .int 2] C0 hT hJ hE (met_X8_number l dC dI cyI cyE tC ad q31.2 (((σ.1 1) - 22) + 8) 2 _ hq) hP hS mc_X8_number ml_X8_135 mi_X8_number ms_X8_number mz_X8 (by decide +kernel) ⟨rfl, rfl⟩ ⟨by decide, by decide⟩ (by decide) cM_O rfl rfl rfl hl.1 (Nat.le_of_ble_eq_true rfl) dX8_findEnd_43 ⟨Nat.zero_le _, Nat.zero_le _⟩ (fun H locs hP hS => ?_)
        refine lv_bipush (v := 20) hx hb dX8_findEnd_46 (by decide) ?_
        refine lv_icmp_gt (tgt := 89) hx hb dX8_findEnd_48 (by decide) (fun h48 => ?_) (fun h48 => ?_)
        · rw [if_pos h48] at hf
          refine lv_iconst (v := 0) hx hb dX8_findEnd_89 (by decide) ?_
          exact L90 _ _ _ _ _ _ hP hS (lv_sub hl [1, 0] rfl) hf
        · rw [if_neg h48] at hf
          refine lv_aload_n hx hb dX8_findEnd_51 rfl (lv_at hl 1 rfl) ?_
          refine lv_iload_n hx hb dX8_findEnd_52 rfl (lv_at hl 0 rfl) ?_
          refine lv_bipush (v := 8) hx hb dX8_findEnd_53 (by decide) ?_
          refine lv_iadd hx hb dX8_findEnd_55 ?_
          refine lv_iconst (v := 2) hx hb dX8_findEnd_56 (by decide) ?_
          obtain ⟨q57, hq, hf⟩ := ob_bind hf
          refine ax_callVi (C := "") (b := 0) (i := 11) (k := 2) (ci := 6) [.int (((σ.1 1) - 22) + 8), .int 2] C0 hT hJ hE (met_X8_number l dC dI cyI cyE tC ad q43.2 (((σ.1 1) - 22) + 8) 2 _ hq) hP hS mc_X8_number ml_X8_135 mi_X8_number ms_X8_number mz_X8 (by decide +kernel) ⟨rfl, rfl⟩ ⟨by decide, by decide⟩ (by decide) cM_O rfl rfl rfl hl.1 (Nat.le_of_ble_eq_true rfl) dX8_findEnd_57 ⟨Nat.zero_le _, Nat.zero_le _⟩ (fun H locs hP hS => ?_)
          refine lv_aload_n hx hb dX8_findEnd_60 rfl (lv_at hl 1 rfl) ?_
          refine lv_iload_n hx hb dX8_findEnd_61 rfl (lv_at hl 0 rfl) ?_
          refine lv_bipush (v := 10) hx hb dX8_findEnd_62 (by decide) ?_
          refine lv_iadd hx hb dX8_findEnd_64 ?_
          refine lv_iconst (v := 2) hx hb dX8_findEnd_65 (by decide) ?_
          obtain ⟨q66, hq, hf⟩ := ob_bind hf
          refine ax_callVi (C := "") (b := 0) (i := 11) (k := 2) (ci := 6) [.int (((σ.1 1) - 22) + 10), .int 2] C0 hT hJ hE (met_X8_number l dC dI cyI cyE tC ad q57.2 (((σ.1 1) - 22) + 10) 2 _ hq) hP hS mc_X8_number ml_X8_135 mi_X8_number ms_X8_number mz_X8 (by decide +kernel) ⟨rfl, rfl⟩ ⟨by decide, by decide⟩ (by decide) cM_O rfl rfl rfl hl.1 (Nat.le_of_ble_eq_true rfl) dX8_findEnd_66 ⟨Nat.zero_le _, Nat.zero_le _⟩ (fun H locs hP hS => ?_)
          refine lv_icmp_ne (tgt := 89) hx hb dX8_findEnd_69 (by decide) (fun h69 => ?_) (fun h69 => ?_)
          · rw [if_neg h69] at hf
            refine lv_iconst (v := 0) hx hb dX8_findEnd_89 (by decide) ?_
            exact L90 _ _ _ _ _ _ hP hS (lv_sub hl [1, 0] rfl) hf
          · rw [if_pos h69] at hf
            refine lv_aload_n hx hb dX8_findEnd_72 rfl (lv_at hl 1 rfl) ?_
            refine lv_iload_n hx hb dX8_findEnd_73 rfl (lv_at hl 0 rfl) ?_
            refine lv_bipush (v := 20) hx hb dX8_findEnd_74 (by decide) ?_
            refine lv_iadd hx hb dX8_findEnd_76 ?_
            refine lv_iconst (v := 2) hx hb dX8_findEnd_77 (by decide) ?_
            refine lv_iconst (v := 0) hx hb dX8_findEnd_78 (by decide) ?_
            obtain ⟨q79, hq, hf⟩ := ob_bind hf
            refine ax_callVi (C := "") (b := 0) (i := 11) (k := 3) (ci := 6) [.int (((σ.1 1) - 22) + 20), .int 2, .int 0] C0 hT hJ hE (met_X8_is l dC dI cyI cyE tC ad q66.2 (((σ.1 1) - 22) + 20) 2 0 _ hq) hP hS mc_X8_is ml_X8_141 mi_X8_is ms_X8_is mz_X8 (by decide +kernel) ⟨rfl, rfl⟩ ⟨by decide, by decide⟩ (by decide) cM_O rfl rfl rfl hl.1 (Nat.le_of_ble_eq_true rfl) dX8_findEnd_79 ⟨Nat.zero_le _, Nat.zero_le _⟩ (fun H locs hP hS => ?_)
            refine lv_if_eq (tgt := 89) hx hb dX8_findEnd_82 (by decide) (fun h82 => ?_) (fun h82 => ?_)
            · rw [if_pos h82] at hf
              refine lv_iconst (v := 0) hx hb dX8_findEnd_89 (by decide) ?_
              exact L90 _ _ _ _ _ _ hP hS (lv_sub hl [1, 0] rfl) hf
            · rw [if_neg h82] at hf
              refine lv_iconst (v := 1) hx hb dX8_findEnd_85 (by decide) ?_
              refine lv_goto (tgt := 90) hx hb dX8_findEnd_86 (by decide) ?_
              exact L90 _ _ _ _ _ _ hP hS (lv_sub hl [1, 0] rfl) hf
  · rw [if_neg h9] at hf
    refine lv_iconst (v := (-1)) hx hb dX8_findEnd_12 (by decide) ?_
    exact hret _ _ _ _ _ _ rfl hf hP hS dX8_findEnd_13
def f_X8_isSame_43 (x1 : Int32) (x2 : Int32) (x3 : Int32) (k6 : SM → Int32 → Int32 → Option (Int32 × SM)) (σ : SM) (x5 : Int32) (s0 : Int32) : Option (Int32 × SM) := k6 σ s0 (x5 + 1)
def f_X8_isSame_6 (x1 : Int32) (x2 : Int32) (x3 : Int32) : Nat → SM → Int32 → Int32 → Option (Int32 × SM)
  | 0, _, _, _ => none
  | n + 1, σ, x4, x5 => if x3 ≤ x5 then (if nzb x4 = true then some (x4, σ) else none) else (if x4 = 0 then (if nzb x4 = true then some (x4, σ) else none) else (if inb (x1 + x5) (capM 1) = true then (if inb (x2 + x5) (capM 1) = true then (if (σ.2 1 (x1 + x5).toNatClampNeg) = (σ.2 1 (x2 + x5).toNatClampNeg) then (f_X8_isSame_43 x1 x2 x3 (f_X8_isSame_6 x1 x2 x3 n) σ x5 1) else (f_X8_isSame_43 x1 x2 x3 (f_X8_isSame_6 x1 x2 x3 n) σ x5 0)) else none) else none))
def f_X8_isSame (σ : SM) (x1 : Int32) (x2 : Int32) (x3 : Int32) : Option (Int32 × SM) := f_X8_isSame_6 x1 x2 x3 fu σ 1 0
def rm_X8_isSame : Room := { frames := 0, cells := 0, slots := 0, locals := 0 }
set_option maxHeartbeats 4000000 in
set_option maxRecDepth 100000 in
theorem met_X8_isSame (l : Launch) (dC : Nat → ClassId) (dI : Nat → Nat → Nat) (cyI cyE : ClassId) (tC : Nat) (ad : Nat → Nat) (σ : SM) (x1 : Int32) (x2 : Int32) (x3 : Int32) (res : Int32 × SM) (hf : f_X8_isSame σ x1 x2 x3 = some res) : ax_Mi l dC dI cyI cyE tC 12 (cM cyI ad) ad yX8_isSame cX8_isSame 6 (some .boolean) rm_X8_isSame [.ref (ad 11), .int x1, .int x2, .int x3] σ res.1 res.2 := by
  intro sz
  refine Met.ofW (cc := cX8_isSame) (maxL := 6) (ret := (some .boolean)) (by decide) rfl ?_
  intro p e s m args below meth c s₁ B hml hv
  obtain ⟨hargs, hsz, hP, hJ, hE⟩ := hv
  subst hsz
  have hx := B.exec
  have hb := B.bytes
  have hr := B.returns
  have hlocks := B.notSynchronized
  have hts := atoms_spec (ws := wsY yX8_isSame cX8_isSame 6 (some .boolean)) B.pre
  have hown : s.vm.findClass RX8 = some m.cls := findClass_of_methodNamed B.named
  have C0 : CallFix p m c cX8_isSame 6 s args (wsY yX8_isSame cX8_isSame 6 (some .boolean)) RX8 := ⟨hx, hb, hml, hown, hts⟩
  have hT : ∀ w ∈ bw, w ∈ wsY yX8_isSame cX8_isSame 6 (some .boolean) := fun w h => List.mem_cons_of_mem _ h
  have hS : va_S (ax_A 12 ad s.heap.size) s.heap s.heap [] := va_S.rf
  rw [show entryFrame m args 6 = entryFrame m ([.ref (ad 11), .int x1, .int x2, .int x3] : List Value).toArray 6 by rw [hargs]]
  have hl := lv_entry ([.ref (ad 11), .int x1, .int x2, .int x3]) (n := 6) (Nat.le_of_ble_eq_true rfl)
  rw [lg_entry_eq]
  generalize (lg_sl ([.ref (ad 11), .int x1, .int x2, .int x3]) ++ List.replicate (6 - (lg_sl ([.ref (ad 11), .int x1, .int x2, .int x3])).length) Slot.unset).toArray = ls at hl ⊢
  have hl : lv_has ls 6 [(0, .ref (ad 11)), (1, .int x1), (2, .int x2), (3, .int x3)] := hl
  obtain ⟨Q, hQ⟩ : ∃ Q : State → Prop, Q = MQ below (va_Qi (fun (a : Int32) (u : SM) => a = res.1 ∧ u = res.2) (ax_B dC dI 12 (cM cyI ad) ad) (ax_A 12 ad s.heap.size)) args s 0 0 (ax_A 12 ad s.heap.size) := ⟨_, rfl⟩
  show W p l e rm_X8_isSame s m args below meth c s.heap [] 0 0 _ _
  rw [← hQ]
  have hret : ∀ (v : Int32) (σ : SM) (H : Heap) (locs : List Loc) (ls : Array Slot) (pc : Nat), narrow .boolean (.int v) = .int v → some (v, σ) = some res → va_P (dC, dI) vwCl (ax_w 12 ad (cM cyI ad σ)) H → va_S (ax_A 12 ad s.heap.size) s.heap H locs → decode cX8_isSame pc = .ok (.ireturn, 1) → W p l e rm_X8_isSame s m args below meth c H locs 0 0 Q (F0 m pc ls [.int v]) := by
    intro v σ H locs ls pc hn hf hP hS hd
    cases hf
    rw [hQ]
    exact ax_iret hx hb hr hlocks hn hP hS hd rfl rfl
  have L43 : ∀ (k6 : SM → Int32 → Int32 → Option (Int32 × SM)), (∀ (σ : SM) (x4 : Int32) (x5 : Int32), ∀ (H : Heap) (locs : List Loc) (ls : Array Slot), va_P (dC, dI) vwCl (ax_w 12 ad (cM cyI ad σ)) H → va_S (ax_A 12 ad s.heap.size) s.heap H locs → lv_has ls 6 [(0, .ref (ad 11)), (1, .int x1), (2, .int x2), (3, .int x3), (4, .int x4), (5, .int x5)] → k6 σ x4 x5 = some res → W p l e rm_X8_isSame s m args below meth c H locs 0 0 Q (F0 m 6 ls [])) → ∀ (σ : SM) (x5 : Int32) (s0 : Int32), ∀ (H : Heap) (locs : List Loc) (ls : Array Slot), va_P (dC, dI) vwCl (ax_w 12 ad (cM cyI ad σ)) H → va_S (ax_A 12 ad s.heap.size) s.heap H locs → lv_has ls 6 [(0, .ref (ad 11)), (1, .int x1), (2, .int x2), (3, .int x3), (5, .int x5)] → f_X8_isSame_43 x1 x2 x3 k6 σ x5 s0 = some res → W p l e rm_X8_isSame s m args below meth c H locs 0 0 Q (F0 m 43 ls [.int s0]) := by
    intro k6 hk6
    intro σ x5 s0  H locs ls hP hS hl hf
    unfold f_X8_isSame_43 at hf
    refine lv_istore (lv' := [(4, .int s0), (0, .ref (ad 11)), (1, .int x1), (2, .int x2), (3, .int x3), (5, .int x5)]) hx hb dX8_isSame_43 hl (by decide) rfl (fun ls hl => ?_)
    refine lv_iinc (v := x5 + 1) (lv' := [(5, .int (x5 + 1)), (4, .int s0), (0, .ref (ad 11)), (1, .int x1), (2, .int x2), (3, .int x3)]) hx hb dX8_isSame_45 hl (k := 5) rfl rfl (by decide) rfl (fun ls hl => ?_)
    refine lv_goto (tgt := 6) hx hb dX8_isSame_48 (by decide) ?_
    exact hk6 _ _ _ _ _ _ hP hS (lv_sub hl [2, 3, 4, 5, 1, 0] rfl) hf
  have L6 : ∀ (n : Nat), ∀ (σ : SM) (x4 : Int32) (x5 : Int32), ∀ (H : Heap) (locs : List Loc) (ls : Array Slot), va_P (dC, dI) vwCl (ax_w 12 ad (cM cyI ad σ)) H → va_S (ax_A 12 ad s.heap.size) s.heap H locs → lv_has ls 6 [(0, .ref (ad 11)), (1, .int x1), (2, .int x2), (3, .int x3), (4, .int x4), (5, .int x5)] → f_X8_isSame_6 x1 x2 x3 n σ x4 x5 = some res → W p l e rm_X8_isSame s m args below meth c H locs 0 0 Q (F0 m 6 ls []) := by
    intro n
    induction n with
    | zero =>
      intro σ x4 x5  H locs ls hP hS hl hf
      cases hf
    | succ n ih =>
      intro σ x4 x5  H locs ls hP hS hl hf
      rw [f_X8_isSame_6] at hf
      refine lv_iload hx hb dX8_isSame_6 (lv_at hl 5 rfl) ?_
      refine lv_iload_n hx hb dX8_isSame_8 rfl (lv_at hl 3 rfl) ?_
      refine lv_icmp_ge (tgt := 51) hx hb dX8_isSame_9 (by decide) (fun h9 => ?_) (fun h9 => ?_)
      · rw [if_pos h9] at hf
        refine lv_iload hx hb dX8_isSame_51 (lv_at hl 4 rfl) ?_
        obtain ⟨hnz, hf⟩ := ob_if hf
        exact hret _ _ _ _ _ _ (nzb_n hnz) hf hP hS dX8_isSame_53
      · rw [if_neg h9] at hf
        refine lv_iload hx hb dX8_isSame_12 (lv_at hl 4 rfl) ?_
        refine lv_if_eq (tgt := 51) hx hb dX8_isSame_14 (by decide) (fun h14 => ?_) (fun h14 => ?_)
        · rw [if_pos h14] at hf
          refine lv_iload hx hb dX8_isSame_51 (lv_at hl 4 rfl) ?_
          obtain ⟨hnz, hf⟩ := ob_if hf
          exact hret _ _ _ _ _ _ (nzb_n hnz) hf hP hS dX8_isSame_53
        · rw [if_neg h14] at hf
          refine lv_aload_n hx hb dX8_isSame_17 rfl (lv_at hl 0 rfl) ?_
          refine g_Model_tape C0 hT hE hP mf_X8_13 dX8_isSame_18 ?_
          refine lv_iload_n hx hb dX8_isSame_21 rfl (lv_at hl 1 rfl) ?_
          refine lv_iload hx hb dX8_isSame_22 (lv_at hl 5 rfl) ?_
          refine lv_iadd hx hb dX8_isSame_24 ?_
          obtain ⟨hin, hf⟩ := ob_if hf
          refine aM_ld (a := 1) (by decide) C0 hT hE hP (inb_in hin) dX8_isSame_25 ?_
          refine lv_aload_n hx hb dX8_isSame_26 rfl (lv_at hl 0 rfl) ?_
          refine g_Model_tape C0 hT hE hP mf_X8_13 dX8_isSame_27 ?_
          refine lv_iload_n hx hb dX8_isSame_30 rfl (lv_at hl 2 rfl) ?_
          refine lv_iload hx hb dX8_isSame_31 (lv_at hl 5 rfl) ?_
          refine lv_iadd hx hb dX8_isSame_33 ?_
          obtain ⟨hin, hf⟩ := ob_if hf
          refine aM_ld (a := 1) (by decide) C0 hT hE hP (inb_in hin) dX8_isSame_34 ?_
          refine lv_icmp_ne (tgt := 42) hx hb dX8_isSame_35 (by decide) (fun h35 => ?_) (fun h35 => ?_)
          · rw [if_neg h35] at hf
            refine lv_iconst (v := 0) hx hb dX8_isSame_42 (by decide) ?_
            exact L43 _ ih _ _ _ _ _ _ hP hS (lv_sub hl [0, 1, 2, 3, 5] rfl) hf
          · rw [if_pos h35] at hf
            refine lv_iconst (v := 1) hx hb dX8_isSame_38 (by decide) ?_
            refine lv_goto (tgt := 43) hx hb dX8_isSame_39 (by decide) ?_
            exact L43 _ ih _ _ _ _ _ _ hP hS (lv_sub hl [0, 1, 2, 3, 5] rfl) hf
  unfold f_X8_isSame at hf
  refine lv_iconst (v := 1) hx hb dX8_isSame_0 (by decide) ?_
  refine lv_istore (lv' := [(4, .int 1), (0, .ref (ad 11)), (1, .int x1), (2, .int x2), (3, .int x3)]) hx hb dX8_isSame_1 hl (by decide) rfl (fun ls hl => ?_)
  refine lv_iconst (v := 0) hx hb dX8_isSame_3 (by decide) ?_
  refine lv_istore (lv' := [(5, .int 0), (4, .int 1), (0, .ref (ad 11)), (1, .int x1), (2, .int x2), (3, .int x3)]) hx hb dX8_isSame_4 hl (by decide) rfl (fun ls hl => ?_)
  exact L6 fu _ _ _ _ _ _ hP hS (lv_sub hl [2, 3, 4, 5, 1, 0] rfl) hf
def f_X8_isCentral_199 (x1 : Int32) (x2 : Int32) (x3 : Int32) (k140 : SM → Int32 → Int32 → Int32 → Option (Int32 × SM)) (σ : SM) (x4 : Int32) (x6 : Int32) (s0 : Int32) : Option (Int32 × SM) := k140 σ x4 s0 (x6 + 1)
def f_X8_isCentral_140 (x1 : Int32) (x2 : Int32) (x3 : Int32) : Nat → SM → Int32 → Int32 → Int32 → Option (Int32 × SM)
  | 0, _, _, _, _ => none
  | n + 1, σ, x4, x5, x6 => if x1 ≤ x6 then (if x5 = 0 then (some (1, σ)) else (some (0, σ))) else (if x5 = 0 then (if inb x6 (capM 8) = true then ((f_X8_isSame σ ((σ.2 8 x6.toNatClampNeg) + 46) (x2 + 46) x4).bind fun q168 => if q168.1 = 0 then (f_X8_isCentral_199 x1 x2 x3 (f_X8_isCentral_140 x1 x2 x3 n) q168.2 x4 x6 0) else (if inb x6 (capM 8) = true then ((f_X8_is q168.2 ((q168.2.2 8 x6.toNatClampNeg) + 28) 2 x4).bind fun q188 => if q188.1 = 0 then (f_X8_isCentral_199 x1 x2 x3 (f_X8_isCentral_140 x1 x2 x3 n) q188.2 x4 x6 0) else (f_X8_isCentral_199 x1 x2 x3 (f_X8_isCentral_140 x1 x2 x3 n) q188.2 x4 x6 1)) else none)) else none) else (f_X8_isCentral_199 x1 x2 x3 (f_X8_isCentral_140 x1 x2 x3 n) σ x4 x6 1))
def f_X8_isCentral (σ : SM) (x1 : Int32) (x2 : Int32) (x3 : Int32) : Option (Int32 × SM) := if x3 < (x2 + 46) then (some (0, σ)) else ((f_X8_isSign σ x2 1 2).bind fun q12 => if q12.1 = 0 then (some (0, q12.2)) else ((f_X8_is q12.2 (x2 + 4) 2 20).bind fun q25 => if q25.1 = 0 then (some (0, q25.2)) else ((f_X8_is q25.2 (x2 + 6) 2 20).bind fun q39 => if q39.1 = 0 then (some (0, q39.2)) else ((f_X8_areFacts q39.2 (x2 + 8)).bind fun q50 => if q50.1 = 0 then (some (0, q50.2)) else ((f_X8_number q50.2 (x2 + 28) 2).bind fun q64 => if x3 < ((x2 + 46) + q64.1) then (some (0, q64.2)) else ((f_X8_isName q64.2 (x2 + 46) q64.1).bind fun q87 => if q87.1 = 0 then (some (0, q87.2)) else ((f_X8_is q87.2 (x2 + 30) 4 0).bind fun q100 => if q100.1 = 0 then (some (0, q100.2)) else ((f_X8_is q100.2 (x2 + 34) 4 0).bind fun q113 => if q113.1 = 0 then (some (0, q113.2)) else ((f_X8_is q113.2 (x2 + 38) 4 0).bind fun q126 => if q126.1 = 0 then (some (0, q126.2)) else (f_X8_isCentral_140 x1 x2 x3 fu q126.2 q64.1 0 0))))))))))
def rm_X8_isCentral : Room := { frames := 3, cells := 0, slots := 0, locals := 70 }
set_option maxHeartbeats 4000000 in
set_option maxRecDepth 100000 in
theorem met_X8_isCentral (l : Launch) (dC : Nat → ClassId) (dI : Nat → Nat → Nat) (cyI cyE : ClassId) (tC : Nat) (ad : Nat → Nat) (σ : SM) (x1 : Int32) (x2 : Int32) (x3 : Int32) (res : Int32 × SM) (hf : f_X8_isCentral σ x1 x2 x3 = some res) : ax_Mi l dC dI cyI cyE tC 12 (cM cyI ad) ad yX8_isCentral cX8_isCentral 7 (some .boolean) rm_X8_isCentral [.ref (ad 11), .int x1, .int x2, .int x3] σ res.1 res.2 := by
  intro sz
  refine Met.ofW (cc := cX8_isCentral) (maxL := 7) (ret := (some .boolean)) (by decide) rfl ?_
  intro p e s m args below meth c s₁ B hml hv
  obtain ⟨hargs, hsz, hP, hJ, hE⟩ := hv
  subst hsz
  have hx := B.exec
  have hb := B.bytes
  have hr := B.returns
  have hlocks := B.notSynchronized
  have hts := atoms_spec (ws := wsY yX8_isCentral cX8_isCentral 7 (some .boolean)) B.pre
  have hown : s.vm.findClass RX8 = some m.cls := findClass_of_methodNamed B.named
  have C0 : CallFix p m c cX8_isCentral 7 s args (wsY yX8_isCentral cX8_isCentral 7 (some .boolean)) RX8 := ⟨hx, hb, hml, hown, hts⟩
  have hT : ∀ w ∈ bw, w ∈ wsY yX8_isCentral cX8_isCentral 7 (some .boolean) := fun w h => List.mem_cons_of_mem _ h
  have hS : va_S (ax_A 12 ad s.heap.size) s.heap s.heap [] := va_S.rf
  rw [show entryFrame m args 7 = entryFrame m ([.ref (ad 11), .int x1, .int x2, .int x3] : List Value).toArray 7 by rw [hargs]]
  have hl := lv_entry ([.ref (ad 11), .int x1, .int x2, .int x3]) (n := 7) (Nat.le_of_ble_eq_true rfl)
  rw [lg_entry_eq]
  generalize (lg_sl ([.ref (ad 11), .int x1, .int x2, .int x3]) ++ List.replicate (7 - (lg_sl ([.ref (ad 11), .int x1, .int x2, .int x3])).length) Slot.unset).toArray = ls at hl ⊢
  have hl : lv_has ls 7 [(0, .ref (ad 11)), (1, .int x1), (2, .int x2), (3, .int x3)] := hl
  obtain ⟨Q, hQ⟩ : ∃ Q : State → Prop, Q = MQ below (va_Qi (fun (a : Int32) (u : SM) => a = res.1 ∧ u = res.2) (ax_B dC dI 12 (cM cyI ad) ad) (ax_A 12 ad s.heap.size)) args s 0 0 (ax_A 12 ad s.heap.size) := ⟨_, rfl⟩
  show W p l e rm_X8_isCentral s m args below meth c s.heap [] 0 0 _ _
  rw [← hQ]
  have hret : ∀ (v : Int32) (σ : SM) (H : Heap) (locs : List Loc) (ls : Array Slot) (pc : Nat), narrow .boolean (.int v) = .int v → some (v, σ) = some res → va_P (dC, dI) vwCl (ax_w 12 ad (cM cyI ad σ)) H → va_S (ax_A 12 ad s.heap.size) s.heap H locs → decode cX8_isCentral pc = .ok (.ireturn, 1) → W p l e rm_X8_isCentral s m args below meth c H locs 0 0 Q (F0 m pc ls [.int v]) := by
    intro v σ H locs ls pc hn hf hP hS hd
    cases hf
    rw [hQ]
    exact ax_iret hx hb hr hlocks hn hP hS hd rfl rfl
  have L199 : ∀ (k140 : SM → Int32 → Int32 → Int32 → Option (Int32 × SM)), (∀ (σ : SM) (x4 : Int32) (x5 : Int32) (x6 : Int32), ∀ (H : Heap) (locs : List Loc) (ls : Array Slot), va_P (dC, dI) vwCl (ax_w 12 ad (cM cyI ad σ)) H → va_S (ax_A 12 ad s.heap.size) s.heap H locs → lv_has ls 7 [(0, .ref (ad 11)), (1, .int x1), (2, .int x2), (4, .int x4), (5, .int x5), (6, .int x6)] → k140 σ x4 x5 x6 = some res → W p l e rm_X8_isCentral s m args below meth c H locs 0 0 Q (F0 m 140 ls [])) → ∀ (σ : SM) (x4 : Int32) (x6 : Int32) (s0 : Int32), ∀ (H : Heap) (locs : List Loc) (ls : Array Slot), va_P (dC, dI) vwCl (ax_w 12 ad (cM cyI ad σ)) H → va_S (ax_A 12 ad s.heap.size) s.heap H locs → lv_has ls 7 [(0, .ref (ad 11)), (1, .int x1), (2, .int x2), (4, .int x4), (6, .int x6)] → f_X8_isCentral_199 x1 x2 x3 k140 σ x4 x6 s0 = some res → W p l e rm_X8_isCentral s m args below meth c H locs 0 0 Q (F0 m 199 ls [.int s0]) := by
    intro k140 hk140
    intro σ x4 x6 s0  H locs ls hP hS hl hf
    unfold f_X8_isCentral_199 at hf
    refine lv_istore (lv' := [(5, .int s0), (0, .ref (ad 11)), (1, .int x1), (2, .int x2), (4, .int x4), (6, .int x6)]) hx hb dX8_isCentral_199 hl (by decide) rfl (fun ls hl => ?_)
    refine lv_iinc (v := x6 + 1) (lv' := [(6, .int (x6 + 1)), (5, .int s0), (0, .ref (ad 11)), (1, .int x1), (2, .int x2), (4, .int x4)]) hx hb dX8_isCentral_201 hl (k := 5) rfl rfl (by decide) rfl (fun ls hl => ?_)
    refine lv_goto (tgt := 140) hx hb dX8_isCentral_204 (by decide) ?_
    exact hk140 _ _ _ _ _ _ _ hP hS (lv_sub hl [2, 3, 4, 5, 1, 0] rfl) hf
  have L140 : ∀ (n : Nat), ∀ (σ : SM) (x4 : Int32) (x5 : Int32) (x6 : Int32), ∀ (H : Heap) (locs : List Loc) (ls : Array Slot), va_P (dC, dI) vwCl (ax_w 12 ad (cM cyI ad σ)) H → va_S (ax_A 12 ad s.heap.size) s.heap H locs → lv_has ls 7 [(0, .ref (ad 11)), (1, .int x1), (2, .int x2), (4, .int x4), (5, .int x5), (6, .int x6)] → f_X8_isCentral_140 x1 x2 x3 n σ x4 x5 x6 = some res → W p l e rm_X8_isCentral s m args below meth c H locs 0 0 Q (F0 m 140 ls []) := by
    intro n
    induction n with
    | zero =>
      intro σ x4 x5 x6  H locs ls hP hS hl hf
      cases hf
    | succ n ih =>
      intro σ x4 x5 x6  H locs ls hP hS hl hf
      rw [f_X8_isCentral_140] at hf
      refine lv_iload hx hb dX8_isCentral_140 (lv_at hl 5 rfl) ?_
      refine lv_iload_n hx hb dX8_isCentral_142 rfl (lv_at hl 1 rfl) ?_
      refine lv_icmp_ge (tgt := 207) hx hb dX8_isCentral_143 (by decide) (fun h143 => ?_) (fun h143 => ?_)
      · rw [if_pos h143] at hf
        refine lv_iload hx hb dX8_isCentral_207 (lv_at hl 4 rfl) ?_
        refine lv_if_ne (tgt := 216) hx hb dX8_isCentral_209 (by decide) (fun h209 => ?_) (fun h209 => ?_)
        · rw [if_neg h209] at hf
          refine lv_iconst (v := 0) hx hb dX8_isCentral_216 (by decide) ?_
          exact hret _ _ _ _ _ _ rfl hf hP hS dX8_isCentral_217
        · rw [if_pos h209] at hf
          refine lv_iconst (v := 1) hx hb dX8_isCentral_212 (by decide) ?_
          refine lv_goto (tgt := 217) hx hb dX8_isCentral_213 (by decide) ?_
          exact hret _ _ _ _ _ _ rfl hf hP hS dX8_isCentral_217
      · rw [if_neg h143] at hf
        refine lv_iload hx hb dX8_isCentral_146 (lv_at hl 4 rfl) ?_
        refine lv_if_ne (tgt := 194) hx hb dX8_isCentral_148 (by decide) (fun h148 => ?_) (fun h148 => ?_)
        · rw [if_neg h148] at hf
          refine lv_iconst (v := 1) hx hb dX8_isCentral_194 (by decide) ?_
          refine lv_goto (tgt := 199) hx hb dX8_isCentral_195 (by decide) ?_
          exact L199 _ ih _ _ _ _ _ _ _ hP hS (lv_sub hl [0, 1, 2, 3, 5] rfl) hf
        · rw [if_pos h148] at hf
          refine lv_aload_n hx hb dX8_isCentral_151 rfl (lv_at hl 0 rfl) ?_
          refine lv_aload_n hx hb dX8_isCentral_152 rfl (lv_at hl 0 rfl) ?_
          refine g_Model_centralAt C0 hT hE hP mf_X8_41 dX8_isCentral_153 ?_
          refine lv_iload hx hb dX8_isCentral_156 (lv_at hl 5 rfl) ?_
          obtain ⟨hin, hf⟩ := ob_if hf
          refine aM_ld (a := 8) (by decide) C0 hT hE hP (inb_in hin) dX8_isCentral_158 ?_
          refine lv_bipush (v := 46) hx hb dX8_isCentral_159 (by decide) ?_
          refine lv_iadd hx hb dX8_isCentral_161 ?_
          refine lv_iload_n hx hb dX8_isCentral_162 rfl (lv_at hl 2 rfl) ?_
          refine lv_bipush (v := 46) hx hb dX8_isCentral_163 (by decide) ?_
          refine lv_iadd hx hb dX8_isCentral_165 ?_
          refine lv_iload hx hb dX8_isCentral_166 (lv_at hl 3 rfl) ?_
          obtain ⟨q168, hq, hf⟩ := ob_bind hf
          refine ax_callVi (C := "") (b := 0) (i := 11) (k := 3) (ci := 6) [.int ((σ.2 8 x6.toNatClampNeg) + 46), .int (x2 + 46), .int x4] C0 hT hJ hE (met_X8_isSame l dC dI cyI cyE tC ad σ ((σ.2 8 x6.toNatClampNeg) + 46) (x2 + 46) x4 _ hq) hP hS mc_X8_isSame ml_X8_151 mi_X8_isSame ms_X8_isSame mz_X8 (by decide +kernel) ⟨rfl, rfl⟩ ⟨by decide, by decide⟩ (by decide) cM_O rfl rfl rfl hl.1 (Nat.le_of_ble_eq_true rfl) dX8_isCentral_168 ⟨Nat.zero_le _, Nat.zero_le _⟩ (fun H locs hP hS => ?_)
          refine lv_if_eq (tgt := 198) hx hb dX8_isCentral_171 (by decide) (fun h171 => ?_) (fun h171 => ?_)
          · rw [if_pos h171] at hf
            refine lv_iconst (v := 0) hx hb dX8_isCentral_198 (by decide) ?_
            exact L199 _ ih _ _ _ _ _ _ _ hP hS (lv_sub hl [0, 1, 2, 3, 5] rfl) hf
          · rw [if_neg h171] at hf
            refine lv_aload_n hx hb dX8_isCentral_174 rfl (lv_at hl 0 rfl) ?_
            refine lv_aload_n hx hb dX8_isCentral_175 rfl (lv_at hl 0 rfl) ?_
            refine g_Model_centralAt C0 hT hE hP mf_X8_41 dX8_isCentral_176 ?_
            refine lv_iload hx hb dX8_isCentral_179 (lv_at hl 5 rfl) ?_
            obtain ⟨hin, hf⟩ := ob_if hf
            refine aM_ld (a := 8) (by decide) C0 hT hE hP (inb_in hin) dX8_isCentral_181 ?_
            refine lv_bipush (v := 28) hx hb dX8_isCentral_182 (by decide) ?_
            refine lv_iadd hx hb dX8_isCentral_184 ?_
            refine lv_iconst (v := 2) hx hb dX8_isCentral_185 (by decide) ?_
            refine lv_iload hx hb dX8_isCentral_186 (lv_at hl 3 rfl) ?_
            obtain ⟨q188, hq, hf⟩ := ob_bind hf
            refine ax_callVi (C := "") (b := 0) (i := 11) (k := 3) (ci := 6) [.int ((q168.2.2 8 x6.toNatClampNeg) + 28), .int 2, .int x4] C0 hT hJ hE (met_X8_is l dC dI cyI cyE tC ad q168.2 ((q168.2.2 8 x6.toNatClampNeg) + 28) 2 x4 _ hq) hP hS mc_X8_is ml_X8_141 mi_X8_is ms_X8_is mz_X8 (by decide +kernel) ⟨rfl, rfl⟩ ⟨by decide, by decide⟩ (by decide) cM_O rfl rfl rfl hl.1 (Nat.le_of_ble_eq_true rfl) dX8_isCentral_188 ⟨Nat.zero_le _, Nat.zero_le _⟩ (fun H locs hP hS => ?_)
            refine lv_if_eq (tgt := 198) hx hb dX8_isCentral_191 (by decide) (fun h191 => ?_) (fun h191 => ?_)
            · rw [if_pos h191] at hf
              refine lv_iconst (v := 0) hx hb dX8_isCentral_198 (by decide) ?_
              exact L199 _ ih _ _ _ _ _ _ _ hP hS (lv_sub hl [0, 1, 2, 3, 5] rfl) hf
            · rw [if_neg h191] at hf
              refine lv_iconst (v := 1) hx hb dX8_isCentral_194 (by decide) ?_
              refine lv_goto (tgt := 199) hx hb dX8_isCentral_195 (by decide) ?_
              exact L199 _ ih _ _ _ _ _ _ _ hP hS (lv_sub hl [0, 1, 2, 3, 5] rfl) hf
  unfold f_X8_isCentral at hf
  refine lv_iload_n hx hb dX8_isCentral_0 rfl (lv_at hl 2 rfl) ?_
  refine lv_bipush (v := 46) hx hb dX8_isCentral_1 (by decide) ?_
  refine lv_iadd hx hb dX8_isCentral_3 ?_
  refine lv_iload_n hx hb dX8_isCentral_4 rfl (lv_at hl 3 rfl) ?_
  refine lv_icmp_gt (tgt := 56) hx hb dX8_isCentral_5 (by decide) (fun h5 => ?_) (fun h5 => ?_)
  · rw [if_pos h5] at hf
    refine lv_iconst (v := 0) hx hb dX8_isCentral_56 (by decide) ?_
    exact hret _ _ _ _ _ _ rfl hf hP hS dX8_isCentral_57
  · rw [if_neg h5] at hf
    refine lv_aload_n hx hb dX8_isCentral_8 rfl (lv_at hl 0 rfl) ?_
    refine lv_iload_n hx hb dX8_isCentral_9 rfl (lv_at hl 2 rfl) ?_
    refine lv_iconst (v := 1) hx hb dX8_isCentral_10 (by decide) ?_
    refine lv_iconst (v := 2) hx hb dX8_isCentral_11 (by decide) ?_
    obtain ⟨q12, hq, hf⟩ := ob_bind hf
    refine ax_callVi (C := "") (b := 0) (i := 11) (k := 3) (ci := 6) [.int x2, .int 1, .int 2] C0 hT hJ hE (met_X8_isSign l dC dI cyI cyE tC ad σ x2 1 2 _ hq) hP hS mc_X8_isSign ml_X8_145 mi_X8_isSign ms_X8_isSign mz_X8 (by decide +kernel) ⟨rfl, rfl⟩ ⟨by decide, by decide⟩ (by decide) cM_O rfl rfl rfl hl.1 (Nat.le_of_ble_eq_true rfl) dX8_isCentral_12 ⟨Nat.zero_le _, Nat.zero_le _⟩ (fun H locs hP hS => ?_)
    refine lv_if_eq (tgt := 56) hx hb dX8_isCentral_15 (by decide) (fun h15 => ?_) (fun h15 => ?_)
    · rw [if_pos h15] at hf
      refine lv_iconst (v := 0) hx hb dX8_isCentral_56 (by decide) ?_
      exact hret _ _ _ _ _ _ rfl hf hP hS dX8_isCentral_57
    · rw [if_neg h15] at hf
      refine lv_aload_n hx hb dX8_isCentral_18 rfl (lv_at hl 0 rfl) ?_
      refine lv_iload_n hx hb dX8_isCentral_19 rfl (lv_at hl 2 rfl) ?_
      refine lv_iconst (v := 4) hx hb dX8_isCentral_20 (by decide) ?_
      refine lv_iadd hx hb dX8_isCentral_21 ?_
      refine lv_iconst (v := 2) hx hb dX8_isCentral_22 (by decide) ?_
      refine lv_bipush (v := 20) hx hb dX8_isCentral_23 (by decide) ?_
      obtain ⟨q25, hq, hf⟩ := ob_bind hf
      refine ax_callVi (C := "") (b := 0) (i := 11) (k := 3) (ci := 6) [.int (x2 + 4), .int 2, .int 20] C0 hT hJ hE (met_X8_is l dC dI cyI cyE tC ad q12.2 (x2 + 4) 2 20 _ hq) hP hS mc_X8_is ml_X8_141 mi_X8_is ms_X8_is mz_X8 (by decide +kernel) ⟨rfl, rfl⟩ ⟨by decide, by decide⟩ (by decide) cM_O rfl rfl rfl hl.1 (Nat.le_of_ble_eq_true rfl) dX8_isCentral_25 ⟨Nat.zero_le _, Nat.zero_le _⟩ (fun H locs hP hS => ?_)
      refine lv_if_eq (tgt := 56) hx hb dX8_isCentral_28 (by decide) (fun h28 => ?_) (fun h28 => ?_)
      · rw [if_pos h28] at hf
        refine lv_iconst (v := 0) hx hb dX8_isCentral_56 (by decide) ?_
        exact hret _ _ _ _ _ _ rfl hf hP hS dX8_isCentral_57
      · rw [if_neg h28] at hf
        refine lv_aload_n hx hb dX8_isCentral_31 rfl (lv_at hl 0 rfl) ?_
        refine lv_iload_n hx hb dX8_isCentral_32 rfl (lv_at hl 2 rfl) ?_
        refine lv_bipush (v := 6) hx hb dX8_isCentral_33 (by decide) ?_
        refine lv_iadd hx hb dX8_isCentral_35 ?_
        refine lv_iconst (v := 2) hx hb dX8_isCentral_36 (by decide) ?_
        refine lv_bipush (v := 20) hx hb dX8_isCentral_37 (by decide) ?_
        obtain ⟨q39, hq, hf⟩ := ob_bind hf
        refine ax_callVi (C := "") (b := 0) (i := 11) (k := 3) (ci := 6) [.int (x2 + 6), .int 2, .int 20] C0 hT hJ hE (met_X8_is l dC dI cyI cyE tC ad q25.2 (x2 + 6) 2 20 _ hq) hP hS mc_X8_is ml_X8_141 mi_X8_is ms_X8_is mz_X8 (by decide +kernel) ⟨rfl, rfl⟩ ⟨by decide, by decide⟩ (by decide) cM_O rfl rfl rfl hl.1 (Nat.le_of_ble_eq_true rfl) dX8_isCentral_39 ⟨Nat.zero_le _, Nat.zero_le _⟩ (fun H locs hP hS => ?_)
        refine lv_if_eq (tgt := 56) hx hb dX8_isCentral_42 (by decide) (fun h42 => ?_) (fun h42 => ?_)
        · rw [if_pos h42] at hf
          refine lv_iconst (v := 0) hx hb dX8_isCentral_56 (by decide) ?_
          exact hret _ _ _ _ _ _ rfl hf hP hS dX8_isCentral_57
        · rw [if_neg h42] at hf
          refine lv_aload_n hx hb dX8_isCentral_45 rfl (lv_at hl 0 rfl) ?_
          refine lv_iload_n hx hb dX8_isCentral_46 rfl (lv_at hl 2 rfl) ?_
          refine lv_bipush (v := 8) hx hb dX8_isCentral_47 (by decide) ?_
          refine lv_iadd hx hb dX8_isCentral_49 ?_
          obtain ⟨q50, hq, hf⟩ := ob_bind hf
          refine ax_callVi (C := "") (b := 0) (i := 11) (k := 1) (ci := 6) [.int (x2 + 8)] C0 hT hJ hE (met_X8_areFacts l dC dI cyI cyE tC ad q39.2 (x2 + 8) _ hq) hP hS mc_X8_areFacts ml_X8_148 mi_X8_areFacts ms_X8_areFacts mz_X8 (by decide +kernel) ⟨rfl, rfl⟩ ⟨by decide, by decide⟩ (by decide) cM_O rfl rfl rfl hl.1 (Nat.le_of_ble_eq_true rfl) dX8_isCentral_50 ⟨Nat.zero_le _, Nat.zero_le _⟩ (fun H locs hP hS => ?_)
          refine lv_if_ne (tgt := 58) hx hb dX8_isCentral_53 (by decide) (fun h53 => ?_) (fun h53 => ?_)
          · rw [if_neg h53] at hf
            refine lv_aload_n hx hb dX8_isCentral_58 rfl (lv_at hl 0 rfl) ?_
            refine lv_iload_n hx hb dX8_isCentral_59 rfl (lv_at hl 2 rfl) ?_
            refine lv_bipush (v := 28) hx hb dX8_isCentral_60 (by decide) ?_
            refine lv_iadd hx hb dX8_isCentral_62 ?_
            refine lv_iconst (v := 2) hx hb dX8_isCentral_63 (by decide) ?_
            obtain ⟨q64, hq, hf⟩ := ob_bind hf
            refine ax_callVi (C := "") (b := 0) (i := 11) (k := 2) (ci := 6) [.int (x2 + 28), .int 2] C0 hT hJ hE (met_X8_number l dC dI cyI cyE tC ad q50.2 (x2 + 28) 2 _ hq) hP hS mc_X8_number ml_X8_135 mi_X8_number ms_X8_number mz_X8 (by decide +kernel) ⟨rfl, rfl⟩ ⟨by decide, by decide⟩ (by decide) cM_O rfl rfl rfl hl.1 (Nat.le_of_ble_eq_true rfl) dX8_isCentral_64 ⟨Nat.zero_le _, Nat.zero_le _⟩ (fun H locs hP hS => ?_)
            refine lv_istore (lv' := [(4, .int q64.1), (0, .ref (ad 11)), (1, .int x1), (2, .int x2), (3, .int x3)]) hx hb dX8_isCentral_67 hl (by decide) rfl (fun ls hl => ?_)
            refine lv_iload_n hx hb dX8_isCentral_69 rfl (lv_at hl 3 rfl) ?_
            refine lv_bipush (v := 46) hx hb dX8_isCentral_70 (by decide) ?_
            refine lv_iadd hx hb dX8_isCentral_72 ?_
            refine lv_iload hx hb dX8_isCentral_73 (lv_at hl 0 rfl) ?_
            refine lv_iadd hx hb dX8_isCentral_75 ?_
            refine lv_iload_n hx hb dX8_isCentral_76 rfl (lv_at hl 4 rfl) ?_
            refine lv_icmp_gt (tgt := 132) hx hb dX8_isCentral_77 (by decide) (fun h77 => ?_) (fun h77 => ?_)
            · rw [if_pos h77] at hf
              refine lv_iconst (v := 0) hx hb dX8_isCentral_132 (by decide) ?_
              exact hret _ _ _ _ _ _ rfl hf hP hS dX8_isCentral_133
            · rw [if_neg h77] at hf
              refine lv_aload_n hx hb dX8_isCentral_80 rfl (lv_at hl 1 rfl) ?_
              refine lv_iload_n hx hb dX8_isCentral_81 rfl (lv_at hl 3 rfl) ?_
              refine lv_bipush (v := 46) hx hb dX8_isCentral_82 (by decide) ?_
              refine lv_iadd hx hb dX8_isCentral_84 ?_
              refine lv_iload hx hb dX8_isCentral_85 (lv_at hl 0 rfl) ?_
              obtain ⟨q87, hq, hf⟩ := ob_bind hf
              refine ax_callVi (C := "") (b := 0) (i := 11) (k := 2) (ci := 6) [.int (x2 + 46), .int q64.1] C0 hT hJ hE (met_X8_isName l dC dI cyI cyE tC ad q64.2 (x2 + 46) q64.1 _ hq) hP hS mc_X8_isName ml_X8_66 mi_X8_isName ms_X8_isName mz_X8 (by decide +kernel) ⟨rfl, rfl⟩ ⟨by decide, by decide⟩ (by decide) cM_O rfl rfl rfl hl.1 (Nat.le_of_ble_eq_true rfl) dX8_isCentral_87 ⟨Nat.zero_le _, Nat.zero_le _⟩ (fun H locs hP hS => ?_)
              refine lv_if_eq (tgt := 132) hx hb dX8_isCentral_90 (by decide) (fun h90 => ?_) (fun h90 => ?_)
              · rw [if_pos h90] at hf
                refine lv_iconst (v := 0) hx hb dX8_isCentral_132 (by decide) ?_
                exact hret _ _ _ _ _ _ rfl hf hP hS dX8_isCentral_133
              · rw [if_neg h90] at hf
                refine lv_aload_n hx hb dX8_isCentral_93 rfl (lv_at hl 1 rfl) ?_
                refine lv_iload_n hx hb dX8_isCentral_94 rfl (lv_at hl 3 rfl) ?_
                refine lv_bipush (v := 30) hx hb dX8_isCentral_95 (by decide) ?_
                refine lv_iadd hx hb dX8_isCentral_97 ?_
                refine lv_iconst (v := 4) hx hb dX8_isCentral_98 (by decide) ?_
                refine lv_iconst (v := 0) hx hb dX8_isCentral_99 (by decide) ?_
                obtain ⟨q100, hq, hf⟩ := ob_bind hf
                refine ax_callVi (C := "") (b := 0) (i := 11) (k := 3) (ci := 6) [.int (x2 + 30), .int 4, .int 0] C0 hT hJ hE (met_X8_is l dC dI cyI cyE tC ad q87.2 (x2 + 30) 4 0 _ hq) hP hS mc_X8_is ml_X8_141 mi_X8_is ms_X8_is mz_X8 (by decide +kernel) ⟨rfl, rfl⟩ ⟨by decide, by decide⟩ (by decide) cM_O rfl rfl rfl hl.1 (Nat.le_of_ble_eq_true rfl) dX8_isCentral_100 ⟨Nat.zero_le _, Nat.zero_le _⟩ (fun H locs hP hS => ?_)
                refine lv_if_eq (tgt := 132) hx hb dX8_isCentral_103 (by decide) (fun h103 => ?_) (fun h103 => ?_)
                · rw [if_pos h103] at hf
                  refine lv_iconst (v := 0) hx hb dX8_isCentral_132 (by decide) ?_
                  exact hret _ _ _ _ _ _ rfl hf hP hS dX8_isCentral_133
                · rw [if_neg h103] at hf
                  refine lv_aload_n hx hb dX8_isCentral_106 rfl (lv_at hl 1 rfl) ?_
                  refine lv_iload_n hx hb dX8_isCentral_107 rfl (lv_at hl 3 rfl) ?_
                  refine lv_bipush (v := 34) hx hb dX8_isCentral_108 (by decide) ?_
                  refine lv_iadd hx hb dX8_isCentral_110 ?_
                  refine lv_iconst (v := 4) hx hb dX8_isCentral_111 (by decide) ?_
                  refine lv_iconst (v := 0) hx hb dX8_isCentral_112 (by decide) ?_
                  obtain ⟨q113, hq, hf⟩ := ob_bind hf
                  refine ax_callVi (C := "") (b := 0) (i := 11) (k := 3) (ci := 6) [.int (x2 + 34), .int 4, .int 0] C0 hT hJ hE (met_X8_is l dC dI cyI cyE tC ad q100.2 (x2 + 34) 4 0 _ hq) hP hS mc_X8_is ml_X8_141 mi_X8_is ms_X8_is mz_X8 (by decide +kernel) ⟨rfl, rfl⟩ ⟨by decide, by decide⟩ (by decide) cM_O rfl rfl rfl hl.1 (Nat.le_of_ble_eq_true rfl) dX8_isCentral_113 ⟨Nat.zero_le _, Nat.zero_le _⟩ (fun H locs hP hS => ?_)
                  refine lv_if_eq (tgt := 132) hx hb dX8_isCentral_116 (by decide) (fun h116 => ?_) (fun h116 => ?_)
                  · rw [if_pos h116] at hf
                    refine lv_iconst (v := 0) hx hb dX8_isCentral_132 (by decide) ?_
                    exact hret _ _ _ _ _ _ rfl hf hP hS dX8_isCentral_133
                  · rw [if_neg h116] at hf
                    refine lv_aload_n hx hb dX8_isCentral_119 rfl (lv_at hl 1 rfl) ?_
                    refine lv_iload_n hx hb dX8_isCentral_120 rfl (lv_at hl 3 rfl) ?_
                    refine lv_bipush (v := 38) hx hb dX8_isCentral_121 (by decide) ?_
                    refine lv_iadd hx hb dX8_isCentral_123 ?_
                    refine lv_iconst (v := 4) hx hb dX8_isCentral_124 (by decide) ?_
                    refine lv_iconst (v := 0) hx hb dX8_isCentral_125 (by decide) ?_
                    obtain ⟨q126, hq, hf⟩ := ob_bind hf
                    refine ax_callVi (C := "") (b := 0) (i := 11) (k := 3) (ci := 6) [.int (x2 + 38), .int 4, .int 0] C0 hT hJ hE (met_X8_is l dC dI cyI cyE tC ad q113.2 (x2 + 38) 4 0 _ hq) hP hS mc_X8_is ml_X8_141 mi_X8_is ms_X8_is mz_X8 (by decide +kernel) ⟨rfl, rfl⟩ ⟨by decide, by decide⟩ (by decide) cM_O rfl rfl rfl hl.1 (Nat.le_of_ble_eq_true rfl) dX8_isCentral_126 ⟨Nat.zero_le _, Nat.zero_le _⟩ (fun H locs hP hS => ?_)
                    refine lv_if_ne (tgt := 134) hx hb dX8_isCentral_129 (by decide) (fun h129 => ?_) (fun h129 => ?_)
                    · rw [if_neg h129] at hf
                      refine lv_iconst (v := 0) hx hb dX8_isCentral_134 (by decide) ?_
                      refine lv_istore (lv' := [(5, .int 0), (4, .int q64.1), (0, .ref (ad 11)), (1, .int x1), (2, .int x2), (3, .int x3)]) hx hb dX8_isCentral_135 hl (by decide) rfl (fun ls hl => ?_)
                      refine lv_iconst (v := 0) hx hb dX8_isCentral_137 (by decide) ?_
                      refine lv_istore (lv' := [(6, .int 0), (5, .int 0), (4, .int q64.1), (0, .ref (ad 11)), (1, .int x1), (2, .int x2), (3, .int x3)]) hx hb dX8_isCentral_138 hl (by decide) rfl (fun ls hl => ?_)
                      exact L140 fu _ _ _ _ _ _ _ hP hS (lv_sub hl [3, 4, 5, 2, 1, 0] rfl) hf
                    · rw [if_pos h129] at hf
                      refine lv_iconst (v := 0) hx hb dX8_isCentral_132 (by decide) ?_
                      exact hret _ _ _ _ _ _ rfl hf hP hS dX8_isCentral_133
          · rw [if_pos h53] at hf
            refine lv_iconst (v := 0) hx hb dX8_isCentral_56 (by decide) ?_
            exact hret _ _ _ _ _ _ rfl hf hP hS dX8_isCentral_57
def f_X8_findCentrals_71 (x1 : Int32) (x2 : Int32) (σ : SM) (x3 : Int32) (x4 : Int32) : Option (Int32 × SM) := (f_X8_fails σ 2 x4 x3).bind fun q76 => if nzb q76.1 = true then some (q76.1, q76.2) else none
def f_X8_findCentrals_80 (x1 : Int32) (x2 : Int32) (k15 : SM → Int32 → Int32 → Option (Int32 × SM)) (σ : SM) (x3 : Int32) (x4 : Int32) (x5 : Int32) : Option (Int32 × SM) := if inb x4 (capM 8) = true then (k15 (SMc σ 8 (upd (σ.2 8) x4.toNatClampNeg x3)) (x3 + x5) (x4 + 1)) else none
def f_X8_findCentrals_48 (x1 : Int32) (x2 : Int32) (k15 : SM → Int32 → Int32 → Option (Int32 × SM)) (σ : SM) (x3 : Int32) (x4 : Int32) (s0 : Int32) : Option (Int32 × SM) := if s0 = 0 then (f_X8_findCentrals_71 x1 x2 σ x3 x4) else (if x4 = (x1 - 1) then (if (x3 + s0) = x2 then (f_X8_findCentrals_80 x1 x2 k15 σ x3 x4 s0) else (f_X8_findCentrals_71 x1 x2 σ x3 x4)) else (f_X8_findCentrals_80 x1 x2 k15 σ x3 x4 s0))
def f_X8_findCentrals_15 (x1 : Int32) (x2 : Int32) : Nat → SM → Int32 → Int32 → Option (Int32 × SM)
  | 0, _, _, _ => none
  | n + 1, σ, x3, x4 => if x1 ≤ x4 then (some (1, σ)) else ((f_X8_isCentral σ x4 x3 x2).bind fun q26 => if q26.1 = 0 then (f_X8_findCentrals_48 x1 x2 (f_X8_findCentrals_15 x1 x2 n) q26.2 x3 x4 0) else ((f_X8_number q26.2 (x3 + 28) 2).bind fun q40 => f_X8_findCentrals_48 x1 x2 (f_X8_findCentrals_15 x1 x2 n) q40.2 x3 x4 (46 + q40.1)))
def f_X8_findCentrals (σ : SM) (x1 : Int32) (x2 : Int32) : Option (Int32 × SM) := (f_X8_number σ (x2 + 12) 4).bind fun q7 => f_X8_findCentrals_15 x1 x2 fu q7.2 (x2 - q7.1) 0
def rm_X8_findCentrals : Room := { frames := 4, cells := 0, slots := 0, locals := 96 }
set_option maxHeartbeats 4000000 in
set_option maxRecDepth 100000 in
theorem met_X8_findCentrals (l : Launch) (dC : Nat → ClassId) (dI : Nat → Nat → Nat) (cyI cyE : ClassId) (tC : Nat) (ad : Nat → Nat) (σ : SM) (x1 : Int32) (x2 : Int32) (res : Int32 × SM) (hf : f_X8_findCentrals σ x1 x2 = some res) : ax_Mi l dC dI cyI cyE tC 12 (cM cyI ad) ad yX8_findCentrals cX8_findCentrals 6 (some .boolean) rm_X8_findCentrals [.ref (ad 11), .int x1, .int x2] σ res.1 res.2 := by
  intro sz
  refine Met.ofW (cc := cX8_findCentrals) (maxL := 6) (ret := (some .boolean)) (by decide) rfl ?_
  intro p e s m args below meth c s₁ B hml hv
  obtain ⟨hargs, hsz, hP, hJ, hE⟩ := hv
  subst hsz
  have hx := B.exec
  have hb := B.bytes
  have hr := B.returns
  have hlocks := B.notSynchronized
  have hts := atoms_spec (ws := wsY yX8_findCentrals cX8_findCentrals 6 (some .boolean)) B.pre
  have hown : s.vm.findClass RX8 = some m.cls := findClass_of_methodNamed B.named
  have C0 : CallFix p m c cX8_findCentrals 6 s args (wsY yX8_findCentrals cX8_findCentrals 6 (some .boolean)) RX8 := ⟨hx, hb, hml, hown, hts⟩
  have hT : ∀ w ∈ bw, w ∈ wsY yX8_findCentrals cX8_findCentrals 6 (some .boolean) := fun w h => List.mem_cons_of_mem _ h
  have hS : va_S (ax_A 12 ad s.heap.size) s.heap s.heap [] := va_S.rf
  rw [show entryFrame m args 6 = entryFrame m ([.ref (ad 11), .int x1, .int x2] : List Value).toArray 6 by rw [hargs]]
  have hl := lv_entry ([.ref (ad 11), .int x1, .int x2]) (n := 6) (Nat.le_of_ble_eq_true rfl)
  rw [lg_entry_eq]
  generalize (lg_sl ([.ref (ad 11), .int x1, .int x2]) ++ List.replicate (6 - (lg_sl ([.ref (ad 11), .int x1, .int x2])).length) Slot.unset).toArray = ls at hl ⊢
  have hl : lv_has ls 6 [(0, .ref (ad 11)), (1, .int x1), (2, .int x2)] := hl
  obtain ⟨Q, hQ⟩ : ∃ Q : State → Prop, Q = MQ below (va_Qi (fun (a : Int32) (u : SM) => a = res.1 ∧ u = res.2) (ax_B dC dI 12 (cM cyI ad) ad) (ax_A 12 ad s.heap.size)) args s 0 0 (ax_A 12 ad s.heap.size) := ⟨_, rfl⟩
  show W p l e rm_X8_findCentrals s m args below meth c s.heap [] 0 0 _ _
  rw [← hQ]
  have hret : ∀ (v : Int32) (σ : SM) (H : Heap) (locs : List Loc) (ls : Array Slot) (pc : Nat), narrow .boolean (.int v) = .int v → some (v, σ) = some res → va_P (dC, dI) vwCl (ax_w 12 ad (cM cyI ad σ)) H → va_S (ax_A 12 ad s.heap.size) s.heap H locs → decode cX8_findCentrals pc = .ok (.ireturn, 1) → W p l e rm_X8_findCentrals s m args below meth c H locs 0 0 Q (F0 m pc ls [.int v]) := by
    intro v σ H locs ls pc hn hf hP hS hd
    cases hf
    rw [hQ]
    exact ax_iret hx hb hr hlocks hn hP hS hd rfl rfl
  have L71 : ∀ (σ : SM) (x3 : Int32) (x4 : Int32), ∀ (H : Heap) (locs : List Loc) (ls : Array Slot), va_P (dC, dI) vwCl (ax_w 12 ad (cM cyI ad σ)) H → va_S (ax_A 12 ad s.heap.size) s.heap H locs → lv_has ls 6 [(0, .ref (ad 11)), (3, .int x3), (4, .int x4)] → f_X8_findCentrals_71 x1 x2 σ x3 x4 = some res → W p l e rm_X8_findCentrals s m args below meth c H locs 0 0 Q (F0 m 71 ls []) := by
    intro σ x3 x4  H locs ls hP hS hl hf
    unfold f_X8_findCentrals_71 at hf
    refine lv_aload_n hx hb dX8_findCentrals_71 rfl (lv_at hl 0 rfl) ?_
    refine lv_iconst (v := 2) hx hb dX8_findCentrals_72 (by decide) ?_
    refine lv_iload hx hb dX8_findCentrals_73 (lv_at hl 2 rfl) ?_
    refine lv_iload_n hx hb dX8_findCentrals_75 rfl (lv_at hl 1 rfl) ?_
    obtain ⟨q76, hq, hf⟩ := ob_bind hf
    refine ax_callVi (C := "") (b := 0) (i := 11) (k := 3) (ci := 6) [.int 2, .int x4, .int x3] C0 hT hJ hE (met_X8_fails l dC dI cyI cyE tC ad σ 2 x4 x3 _ hq) hP hS mc_X8_fails ml_X8_157 mi_X8_fails ms_X8_fails mz_X8 (by decide +kernel) ⟨rfl, rfl⟩ ⟨by decide, by decide⟩ (by decide) cM_O rfl rfl rfl hl.1 (Nat.le_of_ble_eq_true rfl) dX8_findCentrals_76 ⟨Nat.zero_le _, Nat.zero_le _⟩ (fun H locs hP hS => ?_)
    obtain ⟨hnz, hf⟩ := ob_if hf
    exact hret _ _ _ _ _ _ (nzb_n hnz) hf hP hS dX8_findCentrals_79
  have L80 : ∀ (k15 : SM → Int32 → Int32 → Option (Int32 × SM)), (∀ (σ : SM) (x3 : Int32) (x4 : Int32), ∀ (H : Heap) (locs : List Loc) (ls : Array Slot), va_P (dC, dI) vwCl (ax_w 12 ad (cM cyI ad σ)) H → va_S (ax_A 12 ad s.heap.size) s.heap H locs → lv_has ls 6 [(0, .ref (ad 11)), (1, .int x1), (2, .int x2), (3, .int x3), (4, .int x4)] → k15 σ x3 x4 = some res → W p l e rm_X8_findCentrals s m args below meth c H locs 0 0 Q (F0 m 15 ls [])) → ∀ (σ : SM) (x3 : Int32) (x4 : Int32) (x5 : Int32), ∀ (H : Heap) (locs : List Loc) (ls : Array Slot), va_P (dC, dI) vwCl (ax_w 12 ad (cM cyI ad σ)) H → va_S (ax_A 12 ad s.heap.size) s.heap H locs → lv_has ls 6 [(0, .ref (ad 11)), (1, .int x1), (2, .int x2), (3, .int x3), (4, .int x4), (5, .int x5)] → f_X8_findCentrals_80 x1 x2 k15 σ x3 x4 x5 = some res → W p l e rm_X8_findCentrals s m args below meth c H locs 0 0 Q (F0 m 80 ls []) := by
    intro k15 hk15
    intro σ x3 x4 x5  H locs ls hP hS hl hf
    unfold f_X8_findCentrals_80 at hf
    refine lv_aload_n hx hb dX8_findCentrals_80 rfl (lv_at hl 0 rfl) ?_
    refine g_Model_centralAt C0 hT hE hP mf_X8_41 dX8_findCentrals_81 ?_
    refine lv_iload hx hb dX8_findCentrals_84 (lv_at hl 4 rfl) ?_
    refine lv_iload_n hx hb dX8_findCentrals_86 rfl (lv_at hl 3 rfl) ?_
    obtain ⟨hin, hf⟩ := ob_if hf
    refine aM_st (a := 8) (by decide) C0 hT hE hJ hP hS (inb_in hin) dX8_findCentrals_87 (fun H locs hP hS => ?_)
    refine lv_iload_n hx hb dX8_findCentrals_88 rfl (lv_at hl 3 rfl) ?_
    refine lv_iload hx hb dX8_findCentrals_89 (lv_at hl 5 rfl) ?_
    refine lv_iadd hx hb dX8_findCentrals_91 ?_
    refine lv_istore_n (lv' := [(3, .int (x3 + x5)), (0, .ref (ad 11)), (1, .int x1), (2, .int x2), (4, .int x4), (5, .int x5)]) hx hb dX8_findCentrals_92 rfl hl (by decide) rfl (fun ls hl => ?_)
    refine lv_iinc (v := x4 + 1) (lv' := [(4, .int (x4 + 1)), (3, .int (x3 + x5)), (0, .ref (ad 11)), (1, .int x1), (2, .int x2), (5, .int x5)]) hx hb dX8_findCentrals_93 hl (k := 4) rfl rfl (by decide) rfl (fun ls hl => ?_)
    refine lv_goto (tgt := 15) hx hb dX8_findCentrals_96 (by decide) ?_
    exact hk15 _ _ _ _ _ _ hP hS (lv_sub hl [2, 3, 4, 1, 0] rfl) hf
  have L48 : ∀ (k15 : SM → Int32 → Int32 → Option (Int32 × SM)), (∀ (σ : SM) (x3 : Int32) (x4 : Int32), ∀ (H : Heap) (locs : List Loc) (ls : Array Slot), va_P (dC, dI) vwCl (ax_w 12 ad (cM cyI ad σ)) H → va_S (ax_A 12 ad s.heap.size) s.heap H locs → lv_has ls 6 [(0, .ref (ad 11)), (1, .int x1), (2, .int x2), (3, .int x3), (4, .int x4)] → k15 σ x3 x4 = some res → W p l e rm_X8_findCentrals s m args below meth c H locs 0 0 Q (F0 m 15 ls [])) → ∀ (σ : SM) (x3 : Int32) (x4 : Int32) (s0 : Int32), ∀ (H : Heap) (locs : List Loc) (ls : Array Slot), va_P (dC, dI) vwCl (ax_w 12 ad (cM cyI ad σ)) H → va_S (ax_A 12 ad s.heap.size) s.heap H locs → lv_has ls 6 [(0, .ref (ad 11)), (1, .int x1), (2, .int x2), (3, .int x3), (4, .int x4)] → f_X8_findCentrals_48 x1 x2 k15 σ x3 x4 s0 = some res → W p l e rm_X8_findCentrals s m args below meth c H locs 0 0 Q (F0 m 48 ls [.int s0]) := by
    intro k15 hk15
    intro σ x3 x4 s0  H locs ls hP hS hl hf
    unfold f_X8_findCentrals_48 at hf
    refine lv_istore (lv' := [(5, .int s0), (0, .ref (ad 11)), (1, .int x1), (2, .int x2), (3, .int x3), (4, .int x4)]) hx hb dX8_findCentrals_48 hl (by decide) rfl (fun ls hl => ?_)
    refine lv_iload hx hb dX8_findCentrals_50 (lv_at hl 0 rfl) ?_
    refine lv_if_eq (tgt := 71) hx hb dX8_findCentrals_52 (by decide) (fun h52 => ?_) (fun h52 => ?_)
    · rw [if_pos h52] at hf
      exact L71 _ _ _ _ _ _ hP hS (lv_sub hl [1, 4, 5] rfl) hf
    · rw [if_neg h52] at hf
      refine lv_iload hx hb dX8_findCentrals_55 (lv_at hl 5 rfl) ?_
      refine lv_iload_n hx hb dX8_findCentrals_57 rfl (lv_at hl 2 rfl) ?_
      refine lv_iconst (v := 1) hx hb dX8_findCentrals_58 (by decide) ?_
      refine lv_isub hx hb dX8_findCentrals_59 ?_
      refine lv_icmp_ne (tgt := 80) hx hb dX8_findCentrals_60 (by decide) (fun h60 => ?_) (fun h60 => ?_)
      · rw [if_neg h60] at hf
        exact L80 _ hk15 _ _ _ _ _ _ _ hP hS (lv_sub hl [1, 2, 3, 4, 5, 0] rfl) hf
      · rw [if_pos h60] at hf
        refine lv_iload_n hx hb dX8_findCentrals_63 rfl (lv_at hl 4 rfl) ?_
        refine lv_iload hx hb dX8_findCentrals_64 (lv_at hl 0 rfl) ?_
        refine lv_iadd hx hb dX8_findCentrals_66 ?_
        refine lv_iload_n hx hb dX8_findCentrals_67 rfl (lv_at hl 3 rfl) ?_
        refine lv_icmp_eq (tgt := 80) hx hb dX8_findCentrals_68 (by decide) (fun h68 => ?_) (fun h68 => ?_)
        · rw [if_pos h68] at hf
          exact L80 _ hk15 _ _ _ _ _ _ _ hP hS (lv_sub hl [1, 2, 3, 4, 5, 0] rfl) hf
        · rw [if_neg h68] at hf
          exact L71 _ _ _ _ _ _ hP hS (lv_sub hl [1, 4, 5] rfl) hf
  have L15 : ∀ (n : Nat), ∀ (σ : SM) (x3 : Int32) (x4 : Int32), ∀ (H : Heap) (locs : List Loc) (ls : Array Slot), va_P (dC, dI) vwCl (ax_w 12 ad (cM cyI ad σ)) H → va_S (ax_A 12 ad s.heap.size) s.heap H locs → lv_has ls 6 [(0, .ref (ad 11)), (1, .int x1), (2, .int x2), (3, .int x3), (4, .int x4)] → f_X8_findCentrals_15 x1 x2 n σ x3 x4 = some res → W p l e rm_X8_findCentrals s m args below meth c H locs 0 0 Q (F0 m 15 ls []) := by
    intro n
    induction n with
    | zero =>
      intro σ x3 x4  H locs ls hP hS hl hf
      cases hf
    | succ n ih =>
      intro σ x3 x4  H locs ls hP hS hl hf
      rw [f_X8_findCentrals_15] at hf
      refine lv_iload hx hb dX8_findCentrals_15 (lv_at hl 4 rfl) ?_
      refine lv_iload_n hx hb dX8_findCentrals_17 rfl (lv_at hl 1 rfl) ?_
      refine lv_icmp_ge (tgt := 99) hx hb dX8_findCentrals_18 (by decide) (fun h18 => ?_) (fun h18 => ?_)
      · rw [if_pos h18] at hf
        refine lv_iconst (v := 1) hx hb dX8_findCentrals_99 (by decide) ?_
        exact hret _ _ _ _ _ _ rfl hf hP hS dX8_findCentrals_100
      · rw [if_neg h18] at hf
        refine lv_aload_n hx hb dX8_findCentrals_21 rfl (lv_at hl 0 rfl) ?_
        refine lv_iload hx hb dX8_findCentrals_22 (lv_at hl 4 rfl) ?_
        refine lv_iload_n hx hb dX8_findCentrals_24 rfl (lv_at hl 3 rfl) ?_
        refine lv_iload_n hx hb dX8_findCentrals_25 rfl (lv_at hl 2 rfl) ?_
        obtain ⟨q26, hq, hf⟩ := ob_bind hf
        refine ax_callVi (C := "") (b := 0) (i := 11) (k := 3) (ci := 6) [.int x4, .int x3, .int x2] C0 hT hJ hE (met_X8_isCentral l dC dI cyI cyE tC ad σ x4 x3 x2 _ hq) hP hS mc_X8_isCentral ml_X8_154 mi_X8_isCentral ms_X8_isCentral mz_X8 (by decide +kernel) ⟨rfl, rfl⟩ ⟨by decide, by decide⟩ (by decide) cM_O rfl rfl rfl hl.1 (Nat.le_of_ble_eq_true rfl) dX8_findCentrals_26 ⟨Nat.zero_le _, Nat.zero_le _⟩ (fun H locs hP hS => ?_)
        refine lv_if_eq (tgt := 47) hx hb dX8_findCentrals_29 (by decide) (fun h29 => ?_) (fun h29 => ?_)
        · rw [if_pos h29] at hf
          refine lv_iconst (v := 0) hx hb dX8_findCentrals_47 (by decide) ?_
          exact L48 _ ih _ _ _ _ _ _ _ hP hS (lv_sub hl [0, 1, 2, 3, 4] rfl) hf
        · rw [if_neg h29] at hf
          refine lv_bipush (v := 46) hx hb dX8_findCentrals_32 (by decide) ?_
          refine lv_aload_n hx hb dX8_findCentrals_34 rfl (lv_at hl 0 rfl) ?_
          refine lv_iload_n hx hb dX8_findCentrals_35 rfl (lv_at hl 3 rfl) ?_
          refine lv_bipush (v := 28) hx hb dX8_findCentrals_36 (by decide) ?_
          refine lv_iadd hx hb dX8_findCentrals_38 ?_
          refine lv_iconst (v := 2) hx hb dX8_findCentrals_39 (by decide) ?_
          obtain ⟨q40, hq, hf⟩ := ob_bind hf
          refine ax_callVi (C := "") (b := 0) (i := 11) (k := 2) (ci := 6) [.int (x3 + 28), .int 2] C0 hT hJ hE (met_X8_number l dC dI cyI cyE tC ad q26.2 (x3 + 28) 2 _ hq) hP hS mc_X8_number ml_X8_135 mi_X8_number ms_X8_number mz_X8 (by decide +kernel) ⟨rfl, rfl⟩ ⟨by decide, by decide⟩ (by decide) cM_O rfl rfl rfl hl.1 (Nat.le_of_ble_eq_true rfl) dX8_findCentrals_40 ⟨Nat.zero_le _, Nat.zero_le _⟩ (fun H locs hP hS => ?_)
          refine lv_iadd hx hb dX8_findCentrals_43 ?_
          refine lv_goto (tgt := 48) hx hb dX8_findCentrals_44 (by decide) ?_
          exact L48 _ ih _ _ _ _ _ _ _ hP hS (lv_sub hl [0, 1, 2, 3, 4] rfl) hf
  unfold f_X8_findCentrals at hf
  refine lv_iload_n hx hb dX8_findCentrals_0 rfl (lv_at hl 2 rfl) ?_
  refine lv_aload_n hx hb dX8_findCentrals_1 rfl (lv_at hl 0 rfl) ?_
  refine lv_iload_n hx hb dX8_findCentrals_2 rfl (lv_at hl 2 rfl) ?_
  refine lv_bipush (v := 12) hx hb dX8_findCentrals_3 (by decide) ?_
  refine lv_iadd hx hb dX8_findCentrals_5 ?_
  refine lv_iconst (v := 4) hx hb dX8_findCentrals_6 (by decide) ?_
  obtain ⟨q7, hq, hf⟩ := ob_bind hf
  refine ax_callVi (C := "") (b := 0) (i := 11) (k := 2) (ci := 6) [.int (x2 + 12), .int 4] C0 hT hJ hE (met_X8_number l dC dI cyI cyE tC ad σ (x2 + 12) 4 _ hq) hP hS mc_X8_number ml_X8_135 mi_X8_number ms_X8_number mz_X8 (by decide +kernel) ⟨rfl, rfl⟩ ⟨by decide, by decide⟩ (by decide) cM_O rfl rfl rfl hl.1 (Nat.le_of_ble_eq_true rfl) dX8_findCentrals_7 ⟨Nat.zero_le _, Nat.zero_le _⟩ (fun H locs hP hS => ?_)
  refine lv_isub hx hb dX8_findCentrals_10 ?_
  refine lv_istore_n (lv' := [(3, .int (x2 - q7.1)), (0, .ref (ad 11)), (1, .int x1), (2, .int x2)]) hx hb dX8_findCentrals_11 rfl hl (by decide) rfl (fun ls hl => ?_)
  refine lv_iconst (v := 0) hx hb dX8_findCentrals_12 (by decide) ?_
  refine lv_istore (lv' := [(4, .int 0), (3, .int (x2 - q7.1)), (0, .ref (ad 11)), (1, .int x1), (2, .int x2)]) hx hb dX8_findCentrals_13 hl (by decide) rfl (fun ls hl => ?_)
  exact L15 fu _ _ _ _ _ _ hP hS (lv_sub hl [2, 3, 4, 1, 0] rfl) hf
