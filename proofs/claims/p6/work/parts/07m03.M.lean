def f_X8_sort_40 (k7 : SM → Int32 → Option (SM)) (k21 : SM → Int32 → Int32 → Int32 → Option (SM)) (σ : SM) (x1 : Int32) (x2 : Int32) (x3 : Int32) : Option (SM) := k21 σ x1 x2 (x3 + 1)
def f_X8_sort_74 (k7 : SM → Int32 → Option (SM)) (σ : SM) (x1 : Int32) : Option (SM) := k7 σ (x1 + 1)
def f_X8_sort_21 (k7 : SM → Int32 → Option (SM)) : Nat → SM → Int32 → Int32 → Int32 → Option (SM)
  | 0, _, _, _, _ => none
  | n + 1, σ, x1, x2, x3 => if (σ.1 3) ≤ x3 then (if x2 = x1 then (f_X8_sort_74 k7 σ x1) else ((f_X8_copyFile σ x1 20).bind fun q58 => (f_X8_copyFile q58 x2 x1).bind fun q64 => (f_X8_copyFile q64 20 x2).bind fun q71 => f_X8_sort_74 k7 q71 x1)) else ((f_X8_isAhead σ x3 x2).bind fun q32 => if q32.1 = 0 then (f_X8_sort_40 k7 (f_X8_sort_21 k7 n) q32.2 x1 x2 x3) else (f_X8_sort_40 k7 (f_X8_sort_21 k7 n) q32.2 x1 x3 x3))
def f_X8_sort_7 : Nat → SM → Int32 → Option (SM)
  | 0, _, _ => none
  | n + 1, σ, x1 => if (σ.1 3) ≤ x1 then (some σ) else (f_X8_sort_21 (f_X8_sort_7 n) fu σ x1 x1 (x1 + 1))
def f_X8_sort (σ : SM) : Option (SM) := f_X8_sort_7 fu (SMi σ 0 0) 0
def rm_X8_sort : Room := { frames := 1, cells := 0, slots := 0, locals := 23 }
set_option maxHeartbeats 4000000 in
set_option maxRecDepth 100000 in
theorem met_X8_sort (l : Launch) (dC : Nat → ClassId) (dI : Nat → Nat → Nat) (cyI cyE : ClassId) (tC : Nat) (ad : Nat → Nat) (σ : SM) (res : SM) (hf : f_X8_sort σ = some res) : ax_Mv l dC dI cyI cyE tC 12 (cM cyI ad) ad yX8_sort cX8_sort 4 none rm_X8_sort [.ref (ad 11)] σ res := by
  intro sz
  refine Met.ofW (cc := cX8_sort) (maxL := 4) (ret := none) (by decide) rfl ?_
  intro p e s m args below meth c s₁ B hml hv
  obtain ⟨hargs, hsz, hP, hJ, hE⟩ := hv
  subst hsz
  have hx := B.exec
  have hb := B.bytes
  have hr := B.returns
  have hlocks := B.notSynchronized
  have hts := atoms_spec (ws := wsY yX8_sort cX8_sort 4 none) B.pre
  have hown : s.vm.findClass RX8 = some m.cls := findClass_of_methodNamed B.named
  have C0 : CallFix p m c cX8_sort 4 s args (wsY yX8_sort cX8_sort 4 none) RX8 := ⟨hx, hb, hml, hown, hts⟩
  have hT : ∀ w ∈ bw, w ∈ wsY yX8_sort cX8_sort 4 none := fun w h => List.mem_cons_of_mem _ h
  have hS : va_S (ax_A 12 ad s.heap.size) s.heap s.heap [] := va_S.rf
  rw [show entryFrame m args 4 = entryFrame m ([.ref (ad 11)] : List Value).toArray 4 by rw [hargs]]
  have hl := lv_entry ([.ref (ad 11)]) (n := 4) (Nat.le_of_ble_eq_true rfl)
  rw [lg_entry_eq]
  generalize (lg_sl ([.ref (ad 11)]) ++ List.replicate (4 - (lg_sl ([.ref (ad 11)])).length) Slot.unset).toArray = ls at hl ⊢
  have hl : lv_has ls 4 [(0, .ref (ad 11))] := hl
  obtain ⟨Q, hQ⟩ : ∃ Q : State → Prop, Q = MQ below (va_Qv (fun (u : SM) => u = res) (ax_B dC dI 12 (cM cyI ad) ad) (ax_A 12 ad s.heap.size)) args s 0 0 (ax_A 12 ad s.heap.size) := ⟨_, rfl⟩
  show W p l e rm_X8_sort s m args below meth c s.heap [] 0 0 _ _
  rw [← hQ]
  have hret : ∀ (σ : SM) (H : Heap) (locs : List Loc) (ls : Array Slot) (pc : Nat), some σ = some res → va_P (dC, dI) vwCl (ax_w 12 ad (cM cyI ad σ)) H → va_S (ax_A 12 ad s.heap.size) s.heap H locs → decode cX8_sort pc = .ok (.return_, 1) → W p l e rm_X8_sort s m args below meth c H locs 0 0 Q (F0 m pc ls []) := by
    intro σ H locs ls pc hf hP hS hd
    cases hf
    rw [hQ]
    exact ax_vret hx hb hr hlocks hP hS hd rfl
  have L40 : ∀ (k7 : SM → Int32 → Option (SM)), (∀ (σ : SM) (x1 : Int32), ∀ (H : Heap) (locs : List Loc) (ls : Array Slot), va_P (dC, dI) vwCl (ax_w 12 ad (cM cyI ad σ)) H → va_S (ax_A 12 ad s.heap.size) s.heap H locs → lv_has ls 4 [(0, .ref (ad 11)), (1, .int x1)] → k7 σ x1 = some res → W p l e rm_X8_sort s m args below meth c H locs 0 0 Q (F0 m 7 ls [])) → ∀ (k21 : SM → Int32 → Int32 → Int32 → Option (SM)), (∀ (σ : SM) (x1 : Int32) (x2 : Int32) (x3 : Int32), ∀ (H : Heap) (locs : List Loc) (ls : Array Slot), va_P (dC, dI) vwCl (ax_w 12 ad (cM cyI ad σ)) H → va_S (ax_A 12 ad s.heap.size) s.heap H locs → lv_has ls 4 [(0, .ref (ad 11)), (1, .int x1), (2, .int x2), (3, .int x3)] → k21 σ x1 x2 x3 = some res → W p l e rm_X8_sort s m args below meth c H locs 0 0 Q (F0 m 21 ls [])) → ∀ (σ : SM) (x1 : Int32) (x2 : Int32) (x3 : Int32), ∀ (H : Heap) (locs : List Loc) (ls : Array Slot), va_P (dC, dI) vwCl (ax_w 12 ad (cM cyI ad σ)) H → va_S (ax_A 12 ad s.heap.size) s.heap H locs → lv_has ls 4 [(0, .ref (ad 11)), (1, .int x1), (2, .int x2), (3, .int x3)] → f_X8_sort_40 k7 k21 σ x1 x2 x3 = some res → W p l e rm_X8_sort s m args below meth c H locs 0 0 Q (F0 m 40 ls []) := by
    intro k7 hk7 k21 hk21
    intro σ x1 x2 x3  H locs ls hP hS hl hf
    unfold f_X8_sort_40 at hf
    refine lv_iinc (v := x3 + 1) (lv' := [(3, .int (x3 + 1)), (0, .ref (ad 11)), (1, .int x1), (2, .int x2)]) hx hb dX8_sort_40 hl (k := 3) rfl rfl (by decide) rfl (fun ls hl => ?_)
    refine lv_goto (tgt := 21) hx hb dX8_sort_43 (by decide) ?_
    exact hk21 _ _ _ _ _ _ _ hP hS (lv_sub hl [1, 2, 3, 0] rfl) hf
  have L74 : ∀ (k7 : SM → Int32 → Option (SM)), (∀ (σ : SM) (x1 : Int32), ∀ (H : Heap) (locs : List Loc) (ls : Array Slot), va_P (dC, dI) vwCl (ax_w 12 ad (cM cyI ad σ)) H → va_S (ax_A 12 ad s.heap.size) s.heap H locs → lv_has ls 4 [(0, .ref (ad 11)), (1, .int x1)] → k7 σ x1 = some res → W p l e rm_X8_sort s m args below meth c H locs 0 0 Q (F0 m 7 ls [])) → ∀ (σ : SM) (x1 : Int32), ∀ (H : Heap) (locs : List Loc) (ls : Array Slot), va_P (dC, dI) vwCl (ax_w 12 ad (cM cyI ad σ)) H → va_S (ax_A 12 ad s.heap.size) s.heap H locs → lv_has ls 4 [(0, .ref (ad 11)), (1, .int x1)] → f_X8_sort_74 k7 σ x1 = some res → W p l e rm_X8_sort s m args below meth c H locs 0 0 Q (F0 m 74 ls []) := by
    intro k7 hk7
    intro σ x1  H locs ls hP hS hl hf
    unfold f_X8_sort_74 at hf
    refine lv_iinc (v := x1 + 1) (lv' := [(1, .int (x1 + 1)), (0, .ref (ad 11))]) hx hb dX8_sort_74 hl (k := 1) rfl rfl (by decide) rfl (fun ls hl => ?_)
    refine lv_goto (tgt := 7) hx hb dX8_sort_77 (by decide) ?_
    exact hk7 _ _ _ _ _ hP hS (lv_sub hl [1, 0] rfl) hf
  have L21 : ∀ (k7 : SM → Int32 → Option (SM)), (∀ (σ : SM) (x1 : Int32), ∀ (H : Heap) (locs : List Loc) (ls : Array Slot), va_P (dC, dI) vwCl (ax_w 12 ad (cM cyI ad σ)) H → va_S (ax_A 12 ad s.heap.size) s.heap H locs → lv_has ls 4 [(0, .ref (ad 11)), (1, .int x1)] → k7 σ x1 = some res → W p l e rm_X8_sort s m args below meth c H locs 0 0 Q (F0 m 7 ls [])) → ∀ (n : Nat), ∀ (σ : SM) (x1 : Int32) (x2 : Int32) (x3 : Int32), ∀ (H : Heap) (locs : List Loc) (ls : Array Slot), va_P (dC, dI) vwCl (ax_w 12 ad (cM cyI ad σ)) H → va_S (ax_A 12 ad s.heap.size) s.heap H locs → lv_has ls 4 [(0, .ref (ad 11)), (1, .int x1), (2, .int x2), (3, .int x3)] → f_X8_sort_21 k7 n σ x1 x2 x3 = some res → W p l e rm_X8_sort s m args below meth c H locs 0 0 Q (F0 m 21 ls []) := by
    intro k7 hk7
    intro n
    induction n with
    | zero =>
      intro σ x1 x2 x3  H locs ls hP hS hl hf
      cases hf
    | succ n ih =>
      intro σ x1 x2 x3  H locs ls hP hS hl hf
      rw [f_X8_sort_21] at hf
      refine lv_iload_n hx hb dX8_sort_21 rfl (lv_at hl 3 rfl) ?_
      refine lv_aload_n hx hb dX8_sort_22 rfl (lv_at hl 0 rfl) ?_
      refine g_Model_files C0 hT hE hP mf_X8_59 dX8_sort_23 ?_
      refine lv_icmp_ge (tgt := 46) hx hb dX8_sort_26 (by decide) (fun h26 => ?_) (fun h26 => ?_)
      · rw [if_pos h26] at hf
        refine lv_iload_n hx hb dX8_sort_46 rfl (lv_at hl 2 rfl) ?_
        refine lv_iload_n hx hb dX8_sort_47 rfl (lv_at hl 1 rfl) ?_
        refine lv_icmp_ne (tgt := 54) hx hb dX8_sort_48 (by decide) (fun h48 => ?_) (fun h48 => ?_)
        · rw [if_neg h48] at hf
          refine lv_aload_n hx hb dX8_sort_54 rfl (lv_at hl 0 rfl) ?_
          refine lv_iload_n hx hb dX8_sort_55 rfl (lv_at hl 1 rfl) ?_
          refine lv_bipush (v := 20) hx hb dX8_sort_56 (by decide) ?_
          obtain ⟨q58, hq, hf⟩ := ob_bind hf
          refine ax_callVv (b := 0) (i := 11) (k := 2) (ci := 6) [.int x1, .int 20] C0 hT hJ hE (met_X8_copyFile l dC dI cyI cyE tC ad σ x1 20 _ hq) hP hS mc_X8_copyFile ml_X8_62 mi_X8_copyFile ms_X8_copyFile mz_X8 (by decide +kernel) ⟨rfl, rfl⟩ ⟨by decide, by decide⟩ (by decide) cM_O rfl rfl rfl hl.1 (Nat.le_of_ble_eq_true rfl) dX8_sort_58 ⟨Nat.zero_le _, Nat.zero_le _⟩ (fun H locs hP hS => ?_)
          refine lv_aload_n hx hb dX8_sort_61 rfl (lv_at hl 0 rfl) ?_
          refine lv_iload_n hx hb dX8_sort_62 rfl (lv_at hl 2 rfl) ?_
          refine lv_iload_n hx hb dX8_sort_63 rfl (lv_at hl 1 rfl) ?_
          obtain ⟨q64, hq, hf⟩ := ob_bind hf
          refine ax_callVv (b := 0) (i := 11) (k := 2) (ci := 6) [.int x2, .int x1] C0 hT hJ hE (met_X8_copyFile l dC dI cyI cyE tC ad q58 x2 x1 _ hq) hP hS mc_X8_copyFile ml_X8_62 mi_X8_copyFile ms_X8_copyFile mz_X8 (by decide +kernel) ⟨rfl, rfl⟩ ⟨by decide, by decide⟩ (by decide) cM_O rfl rfl rfl hl.1 (Nat.le_of_ble_eq_true rfl) dX8_sort_64 ⟨Nat.zero_le _, Nat.zero_le _⟩ (fun H locs hP hS => ?_)
          refine lv_aload_n hx hb dX8_sort_67 rfl (lv_at hl 0 rfl) ?_
          refine lv_bipush (v := 20) hx hb dX8_sort_68 (by decide) ?_
          refine lv_iload_n hx hb dX8_sort_70 rfl (lv_at hl 2 rfl) ?_
          obtain ⟨q71, hq, hf⟩ := ob_bind hf
          refine ax_callVv (b := 0) (i := 11) (k := 2) (ci := 6) [.int 20, .int x2] C0 hT hJ hE (met_X8_copyFile l dC dI cyI cyE tC ad q64 20 x2 _ hq) hP hS mc_X8_copyFile ml_X8_62 mi_X8_copyFile ms_X8_copyFile mz_X8 (by decide +kernel) ⟨rfl, rfl⟩ ⟨by decide, by decide⟩ (by decide) cM_O rfl rfl rfl hl.1 (Nat.le_of_ble_eq_true rfl) dX8_sort_71 ⟨Nat.zero_le _, Nat.zero_le _⟩ (fun H locs hP hS => ?_)
          exact L74 _ hk7 _ _ _ _ _ hP hS (lv_sub hl [0, 1] rfl) hf
        · rw [if_pos h48] at hf
          refine lv_goto (tgt := 74) hx hb dX8_sort_51 (by decide) ?_
          exact L74 _ hk7 _ _ _ _ _ hP hS (lv_sub hl [0, 1] rfl) hf
      · rw [if_neg h26] at hf
        refine lv_aload_n hx hb dX8_sort_29 rfl (lv_at hl 0 rfl) ?_
        refine lv_iload_n hx hb dX8_sort_30 rfl (lv_at hl 3 rfl) ?_
        refine lv_iload_n hx hb dX8_sort_31 rfl (lv_at hl 2 rfl) ?_
        obtain ⟨q32, hq, hf⟩ := ob_bind hf
        refine ax_callVi (C := "") (b := 0) (i := 11) (k := 2) (ci := 6) [.int x3, .int x2] C0 hT hJ hE (met_X8_isAhead l dC dI cyI cyE tC ad σ x3 x2 _ hq) hP hS mc_X8_isAhead ml_X8_93 mi_X8_isAhead ms_X8_isAhead mz_X8 (by decide +kernel) ⟨rfl, rfl⟩ ⟨by decide, by decide⟩ (by decide) cM_O rfl rfl rfl hl.1 (Nat.le_of_ble_eq_true rfl) dX8_sort_32 ⟨Nat.zero_le _, Nat.zero_le _⟩ (fun H locs hP hS => ?_)
        refine lv_if_eq (tgt := 40) hx hb dX8_sort_35 (by decide) (fun h35 => ?_) (fun h35 => ?_)
        · rw [if_pos h35] at hf
          exact L40 _ hk7 _ ih _ _ _ _ _ _ _ hP hS (lv_sub hl [0, 1, 2, 3] rfl) hf
        · rw [if_neg h35] at hf
          refine lv_iload_n hx hb dX8_sort_38 rfl (lv_at hl 3 rfl) ?_
          refine lv_istore_n (lv' := [(2, .int x3), (0, .ref (ad 11)), (1, .int x1), (3, .int x3)]) hx hb dX8_sort_39 rfl hl (by decide) rfl (fun ls hl => ?_)
          exact L40 _ hk7 _ ih _ _ _ _ _ _ _ hP hS (lv_sub hl [1, 2, 0, 3] rfl) hf
  have L7 : ∀ (n : Nat), ∀ (σ : SM) (x1 : Int32), ∀ (H : Heap) (locs : List Loc) (ls : Array Slot), va_P (dC, dI) vwCl (ax_w 12 ad (cM cyI ad σ)) H → va_S (ax_A 12 ad s.heap.size) s.heap H locs → lv_has ls 4 [(0, .ref (ad 11)), (1, .int x1)] → f_X8_sort_7 n σ x1 = some res → W p l e rm_X8_sort s m args below meth c H locs 0 0 Q (F0 m 7 ls []) := by
    intro n
    induction n with
    | zero =>
      intro σ x1  H locs ls hP hS hl hf
      cases hf
    | succ n ih =>
      intro σ x1  H locs ls hP hS hl hf
      rw [f_X8_sort_7] at hf
      refine lv_iload_n hx hb dX8_sort_7 rfl (lv_at hl 1 rfl) ?_
      refine lv_aload_n hx hb dX8_sort_8 rfl (lv_at hl 0 rfl) ?_
      refine g_Model_files C0 hT hE hP mf_X8_59 dX8_sort_9 ?_
      refine lv_icmp_ge (tgt := 80) hx hb dX8_sort_12 (by decide) (fun h12 => ?_) (fun h12 => ?_)
      · rw [if_pos h12] at hf
        exact hret _ _ _ _ _ hf hP hS dX8_sort_80
      · rw [if_neg h12] at hf
        refine lv_iload_n hx hb dX8_sort_15 rfl (lv_at hl 1 rfl) ?_
        refine lv_istore_n (lv' := [(2, .int x1), (0, .ref (ad 11)), (1, .int x1)]) hx hb dX8_sort_16 rfl hl (by decide) rfl (fun ls hl => ?_)
        refine lv_iload_n hx hb dX8_sort_17 rfl (lv_at hl 2 rfl) ?_
        refine lv_iconst (v := 1) hx hb dX8_sort_18 (by decide) ?_
        refine lv_iadd hx hb dX8_sort_19 ?_
        refine lv_istore_n (lv' := [(3, .int (x1 + 1)), (2, .int x1), (0, .ref (ad 11)), (1, .int x1)]) hx hb dX8_sort_20 rfl hl (by decide) rfl (fun ls hl => ?_)
        exact L21 _ ih fu _ _ _ _ _ _ _ hP hS (lv_sub hl [2, 3, 1, 0] rfl) hf
  unfold f_X8_sort at hf
  refine lv_aload_n hx hb dX8_sort_0 rfl (lv_at hl 0 rfl) ?_
  refine lv_iconst (v := 0) hx hb dX8_sort_1 (by decide) ?_
  refine p_Model_thrown C0 hT hE hJ hP hS mf_X8_50 dX8_sort_2 (fun H locs hP hS => ?_)
  refine lv_iconst (v := 0) hx hb dX8_sort_5 (by decide) ?_
  refine lv_istore_n (lv' := [(1, .int 0), (0, .ref (ad 11))]) hx hb dX8_sort_6 rfl hl (by decide) rfl (fun ls hl => ?_)
  exact L7 fu _ _ _ _ _ hP hS (lv_sub hl [1, 0] rfl) hf
def f_X8_clear (σ : SM) : Option (SM) := some (SMi (SMi σ 0 0) 3 0)
def rm_X8_clear : Room := { frames := 0, cells := 0, slots := 0, locals := 0 }
set_option maxHeartbeats 4000000 in
set_option maxRecDepth 100000 in
theorem met_X8_clear (l : Launch) (dC : Nat → ClassId) (dI : Nat → Nat → Nat) (cyI cyE : ClassId) (tC : Nat) (ad : Nat → Nat) (σ : SM) (res : SM) (hf : f_X8_clear σ = some res) : ax_Mv l dC dI cyI cyE tC 12 (cM cyI ad) ad yX8_clear cX8_clear 1 none rm_X8_clear [.ref (ad 11)] σ res := by
  intro sz
  refine Met.ofW (cc := cX8_clear) (maxL := 1) (ret := none) (by decide) rfl ?_
  intro p e s m args below meth c s₁ B hml hv
  obtain ⟨hargs, hsz, hP, hJ, hE⟩ := hv
  subst hsz
  have hx := B.exec
  have hb := B.bytes
  have hr := B.returns
  have hlocks := B.notSynchronized
  have hts := atoms_spec (ws := wsY yX8_clear cX8_clear 1 none) B.pre
  have hown : s.vm.findClass RX8 = some m.cls := findClass_of_methodNamed B.named
  have C0 : CallFix p m c cX8_clear 1 s args (wsY yX8_clear cX8_clear 1 none) RX8 := ⟨hx, hb, hml, hown, hts⟩
  have hT : ∀ w ∈ bw, w ∈ wsY yX8_clear cX8_clear 1 none := fun w h => List.mem_cons_of_mem _ h
  have hS : va_S (ax_A 12 ad s.heap.size) s.heap s.heap [] := va_S.rf
  rw [show entryFrame m args 1 = entryFrame m ([.ref (ad 11)] : List Value).toArray 1 by rw [hargs]]
  have hl := lv_entry ([.ref (ad 11)]) (n := 1) (Nat.le_of_ble_eq_true rfl)
  rw [lg_entry_eq]
  generalize (lg_sl ([.ref (ad 11)]) ++ List.replicate (1 - (lg_sl ([.ref (ad 11)])).length) Slot.unset).toArray = ls at hl ⊢
  have hl : lv_has ls 1 [(0, .ref (ad 11))] := hl
  obtain ⟨Q, hQ⟩ : ∃ Q : State → Prop, Q = MQ below (va_Qv (fun (u : SM) => u = res) (ax_B dC dI 12 (cM cyI ad) ad) (ax_A 12 ad s.heap.size)) args s 0 0 (ax_A 12 ad s.heap.size) := ⟨_, rfl⟩
  show W p l e rm_X8_clear s m args below meth c s.heap [] 0 0 _ _
  rw [← hQ]
  have hret : ∀ (σ : SM) (H : Heap) (locs : List Loc) (ls : Array Slot) (pc : Nat), some σ = some res → va_P (dC, dI) vwCl (ax_w 12 ad (cM cyI ad σ)) H → va_S (ax_A 12 ad s.heap.size) s.heap H locs → decode cX8_clear pc = .ok (.return_, 1) → W p l e rm_X8_clear s m args below meth c H locs 0 0 Q (F0 m pc ls []) := by
    intro σ H locs ls pc hf hP hS hd
    cases hf
    rw [hQ]
    exact ax_vret hx hb hr hlocks hP hS hd rfl
  unfold f_X8_clear at hf
  refine lv_aload_n hx hb dX8_clear_0 rfl (lv_at hl 0 rfl) ?_
  refine lv_iconst (v := 0) hx hb dX8_clear_1 (by decide) ?_
  refine p_Model_thrown C0 hT hE hJ hP hS mf_X8_50 dX8_clear_2 (fun H locs hP hS => ?_)
  refine lv_aload_n hx hb dX8_clear_5 rfl (lv_at hl 0 rfl) ?_
  refine lv_iconst (v := 0) hx hb dX8_clear_6 (by decide) ?_
  refine p_Model_files C0 hT hE hJ hP hS mf_X8_59 dX8_clear_7 (fun H locs hP hS => ?_)
  exact hret _ _ _ _ _ hf hP hS dX8_clear_10
def f_X8_alike_2 (x1 : Int32) (x2 : Int32) : Nat → SM → Int32 → Option (Int32 × SM)
  | 0, _, _ => none
  | n + 1, σ, x3 => if (128 : Int32) ≤ x3 then (some (x3, σ)) else (if inb x1 (capM 6) = true then (if (σ.2 6 x1.toNatClampNeg) ≤ (x2 + x3) then (some (x3, σ)) else (if inb (((1500 * x1) + x2) + x3) (capM 5) = true then (if inb ((1500 * x1) + x2) (capM 5) = true then (if (σ.2 5 (((1500 * x1) + x2) + x3).toNatClampNeg) = (σ.2 5 ((1500 * x1) + x2).toNatClampNeg) then (f_X8_alike_2 x1 x2 n σ (x3 + 1)) else (some (x3, σ))) else none) else none)) else none)
def f_X8_alike (σ : SM) (x1 : Int32) (x2 : Int32) : Option (Int32 × SM) := f_X8_alike_2 x1 x2 fu σ 1
def rm_X8_alike : Room := { frames := 0, cells := 0, slots := 0, locals := 0 }
set_option maxHeartbeats 4000000 in
set_option maxRecDepth 100000 in
theorem met_X8_alike (l : Launch) (dC : Nat → ClassId) (dI : Nat → Nat → Nat) (cyI cyE : ClassId) (tC : Nat) (ad : Nat → Nat) (σ : SM) (x1 : Int32) (x2 : Int32) (res : Int32 × SM) (hf : f_X8_alike σ x1 x2 = some res) : ax_Mi l dC dI cyI cyE tC 12 (cM cyI ad) ad yX8_alike cX8_alike 4 (some .int) rm_X8_alike [.ref (ad 11), .int x1, .int x2] σ res.1 res.2 := by
  intro sz
  refine Met.ofW (cc := cX8_alike) (maxL := 4) (ret := (some .int)) (by decide) rfl ?_
  intro p e s m args below meth c s₁ B hml hv
  obtain ⟨hargs, hsz, hP, hJ, hE⟩ := hv
  subst hsz
  have hx := B.exec
  have hb := B.bytes
  have hr := B.returns
  have hlocks := B.notSynchronized
  have hts := atoms_spec (ws := wsY yX8_alike cX8_alike 4 (some .int)) B.pre
  have hown : s.vm.findClass RX8 = some m.cls := findClass_of_methodNamed B.named
  have C0 : CallFix p m c cX8_alike 4 s args (wsY yX8_alike cX8_alike 4 (some .int)) RX8 := ⟨hx, hb, hml, hown, hts⟩
  have hT : ∀ w ∈ bw, w ∈ wsY yX8_alike cX8_alike 4 (some .int) := fun w h => List.mem_cons_of_mem _ h
  have hS : va_S (ax_A 12 ad s.heap.size) s.heap s.heap [] := va_S.rf
  rw [show entryFrame m args 4 = entryFrame m ([.ref (ad 11), .int x1, .int x2] : List Value).toArray 4 by rw [hargs]]
  have hl := lv_entry ([.ref (ad 11), .int x1, .int x2]) (n := 4) (Nat.le_of_ble_eq_true rfl)
  rw [lg_entry_eq]
  generalize (lg_sl ([.ref (ad 11), .int x1, .int x2]) ++ List.replicate (4 - (lg_sl ([.ref (ad 11), .int x1, .int x2])).length) Slot.unset).toArray = ls at hl ⊢
  have hl : lv_has ls 4 [(0, .ref (ad 11)), (1, .int x1), (2, .int x2)] := hl
  obtain ⟨Q, hQ⟩ : ∃ Q : State → Prop, Q = MQ below (va_Qi (fun (a : Int32) (u : SM) => a = res.1 ∧ u = res.2) (ax_B dC dI 12 (cM cyI ad) ad) (ax_A 12 ad s.heap.size)) args s 0 0 (ax_A 12 ad s.heap.size) := ⟨_, rfl⟩
  show W p l e rm_X8_alike s m args below meth c s.heap [] 0 0 _ _
  rw [← hQ]
  have hret : ∀ (v : Int32) (σ : SM) (H : Heap) (locs : List Loc) (ls : Array Slot) (pc : Nat), narrow .int (.int v) = .int v → some (v, σ) = some res → va_P (dC, dI) vwCl (ax_w 12 ad (cM cyI ad σ)) H → va_S (ax_A 12 ad s.heap.size) s.heap H locs → decode cX8_alike pc = .ok (.ireturn, 1) → W p l e rm_X8_alike s m args below meth c H locs 0 0 Q (F0 m pc ls [.int v]) := by
    intro v σ H locs ls pc hn hf hP hS hd
    cases hf
    rw [hQ]
    exact ax_iret hx hb hr hlocks hn hP hS hd rfl rfl
  have L2 : ∀ (n : Nat), ∀ (σ : SM) (x3 : Int32), ∀ (H : Heap) (locs : List Loc) (ls : Array Slot), va_P (dC, dI) vwCl (ax_w 12 ad (cM cyI ad σ)) H → va_S (ax_A 12 ad s.heap.size) s.heap H locs → lv_has ls 4 [(0, .ref (ad 11)), (1, .int x1), (2, .int x2), (3, .int x3)] → f_X8_alike_2 x1 x2 n σ x3 = some res → W p l e rm_X8_alike s m args below meth c H locs 0 0 Q (F0 m 2 ls []) := by
    intro n
    induction n with
    | zero =>
      intro σ x3  H locs ls hP hS hl hf
      cases hf
    | succ n ih =>
      intro σ x3  H locs ls hP hS hl hf
      rw [f_X8_alike_2] at hf
      refine lv_iload_n hx hb dX8_alike_2 rfl (lv_at hl 3 rfl) ?_
      refine lv_sipush (v := 128) hx hb dX8_alike_3 (by decide) ?_
      refine lv_icmp_ge (tgt := 56) hx hb dX8_alike_6 (by decide) (fun h6 => ?_) (fun h6 => ?_)
      · rw [if_pos h6] at hf
        refine lv_iload_n hx hb dX8_alike_56 rfl (lv_at hl 3 rfl) ?_
        exact hret _ _ _ _ _ _ rfl hf hP hS dX8_alike_57
      · rw [if_neg h6] at hf
        refine lv_iload_n hx hb dX8_alike_9 rfl (lv_at hl 2 rfl) ?_
        refine lv_iload_n hx hb dX8_alike_10 rfl (lv_at hl 3 rfl) ?_
        refine lv_iadd hx hb dX8_alike_11 ?_
        refine lv_aload_n hx hb dX8_alike_12 rfl (lv_at hl 0 rfl) ?_
        refine g_Model_many C0 hT hE hP mf_X8_28 dX8_alike_13 ?_
        refine lv_iload_n hx hb dX8_alike_16 rfl (lv_at hl 1 rfl) ?_
        obtain ⟨hin, hf⟩ := ob_if hf
        refine aM_ld (a := 6) (by decide) C0 hT hE hP (inb_in hin) dX8_alike_17 ?_
        refine lv_icmp_ge (tgt := 56) hx hb dX8_alike_18 (by decide) (fun h18 => ?_) (fun h18 => ?_)
        · rw [if_pos h18] at hf
          refine lv_iload_n hx hb dX8_alike_56 rfl (lv_at hl 3 rfl) ?_
          exact hret _ _ _ _ _ _ rfl hf hP hS dX8_alike_57
        · rw [if_neg h18] at hf
          refine lv_aload_n hx hb dX8_alike_21 rfl (lv_at hl 0 rfl) ?_
          refine g_Model_bytes C0 hT hE hP mf_X8_25 dX8_alike_22 ?_
          refine lv_sipush (v := 1500) hx hb dX8_alike_25 (by decide) ?_
          refine lv_iload_n hx hb dX8_alike_28 rfl (lv_at hl 1 rfl) ?_
          refine lv_imul hx hb dX8_alike_29 ?_
          refine lv_iload_n hx hb dX8_alike_30 rfl (lv_at hl 2 rfl) ?_
          refine lv_iadd hx hb dX8_alike_31 ?_
          refine lv_iload_n hx hb dX8_alike_32 rfl (lv_at hl 3 rfl) ?_
          refine lv_iadd hx hb dX8_alike_33 ?_
          obtain ⟨hin, hf⟩ := ob_if hf
          refine aM_ld (a := 5) (by decide) C0 hT hE hP (inb_in hin) dX8_alike_34 ?_
          refine lv_aload_n hx hb dX8_alike_35 rfl (lv_at hl 0 rfl) ?_
          refine g_Model_bytes C0 hT hE hP mf_X8_25 dX8_alike_36 ?_
          refine lv_sipush (v := 1500) hx hb dX8_alike_39 (by decide) ?_
          refine lv_iload_n hx hb dX8_alike_42 rfl (lv_at hl 1 rfl) ?_
          refine lv_imul hx hb dX8_alike_43 ?_
          refine lv_iload_n hx hb dX8_alike_44 rfl (lv_at hl 2 rfl) ?_
          refine lv_iadd hx hb dX8_alike_45 ?_
          obtain ⟨hin, hf⟩ := ob_if hf
          refine aM_ld (a := 5) (by decide) C0 hT hE hP (inb_in hin) dX8_alike_46 ?_
          refine lv_icmp_ne (tgt := 56) hx hb dX8_alike_47 (by decide) (fun h47 => ?_) (fun h47 => ?_)
          · rw [if_neg h47] at hf
            refine lv_iload_n hx hb dX8_alike_56 rfl (lv_at hl 3 rfl) ?_
            exact hret _ _ _ _ _ _ rfl hf hP hS dX8_alike_57
          · rw [if_pos h47] at hf
            refine lv_iinc (v := x3 + 1) (lv' := [(3, .int (x3 + 1)), (0, .ref (ad 11)), (1, .int x1), (2, .int x2)]) hx hb dX8_alike_50 hl (k := 3) rfl rfl (by decide) rfl (fun ls hl => ?_)
            refine lv_goto (tgt := 2) hx hb dX8_alike_53 (by decide) ?_
            exact ih _ _ _ _ _ hP hS (lv_sub hl [1, 2, 3, 0] rfl) hf
  unfold f_X8_alike at hf
  refine lv_iconst (v := 1) hx hb dX8_alike_0 (by decide) ?_
  refine lv_istore_n (lv' := [(3, .int 1), (0, .ref (ad 11)), (1, .int x1), (2, .int x2)]) hx hb dX8_alike_1 rfl hl (by decide) rfl (fun ls hl => ?_)
  exact L2 fu _ _ _ _ _ hP hS (lv_sub hl [1, 2, 3, 0] rfl) hf
def f_X8_put (σ : SM) (x1 : Int32) : Option (SM) := if inb (σ.1 7) (capM 7) = true then (some (SMi (SMc σ 7 (upd (σ.2 7) (σ.1 7).toNatClampNeg x1)) 7 (((SMc σ 7 (upd (σ.2 7) (σ.1 7).toNatClampNeg x1)).1 7) + 1))) else none
def rm_X8_put : Room := { frames := 0, cells := 0, slots := 0, locals := 0 }
set_option maxHeartbeats 4000000 in
set_option maxRecDepth 100000 in
theorem met_X8_put (l : Launch) (dC : Nat → ClassId) (dI : Nat → Nat → Nat) (cyI cyE : ClassId) (tC : Nat) (ad : Nat → Nat) (σ : SM) (x1 : Int32) (res : SM) (hf : f_X8_put σ x1 = some res) : ax_Mv l dC dI cyI cyE tC 12 (cM cyI ad) ad yX8_put cX8_put 2 none rm_X8_put [.ref (ad 11), .int x1] σ res := by
  intro sz
  refine Met.ofW (cc := cX8_put) (maxL := 2) (ret := none) (by decide) rfl ?_
  intro p e s m args below meth c s₁ B hml hv
  obtain ⟨hargs, hsz, hP, hJ, hE⟩ := hv
  subst hsz
  have hx := B.exec
  have hb := B.bytes
  have hr := B.returns
  have hlocks := B.notSynchronized
  have hts := atoms_spec (ws := wsY yX8_put cX8_put 2 none) B.pre
  have hown : s.vm.findClass RX8 = some m.cls := findClass_of_methodNamed B.named
  have C0 : CallFix p m c cX8_put 2 s args (wsY yX8_put cX8_put 2 none) RX8 := ⟨hx, hb, hml, hown, hts⟩
  have hT : ∀ w ∈ bw, w ∈ wsY yX8_put cX8_put 2 none := fun w h => List.mem_cons_of_mem _ h
  have hS : va_S (ax_A 12 ad s.heap.size) s.heap s.heap [] := va_S.rf
  rw [show entryFrame m args 2 = entryFrame m ([.ref (ad 11), .int x1] : List Value).toArray 2 by rw [hargs]]
  have hl := lv_entry ([.ref (ad 11), .int x1]) (n := 2) (Nat.le_of_ble_eq_true rfl)
  rw [lg_entry_eq]
  generalize (lg_sl ([.ref (ad 11), .int x1]) ++ List.replicate (2 - (lg_sl ([.ref (ad 11), .int x1])).length) Slot.unset).toArray = ls at hl ⊢
  have hl : lv_has ls 2 [(0, .ref (ad 11)), (1, .int x1)] := hl
  obtain ⟨Q, hQ⟩ : ∃ Q : State → Prop, Q = MQ below (va_Qv (fun (u : SM) => u = res) (ax_B dC dI 12 (cM cyI ad) ad) (ax_A 12 ad s.heap.size)) args s 0 0 (ax_A 12 ad s.heap.size) := ⟨_, rfl⟩
  show W p l e rm_X8_put s m args below meth c s.heap [] 0 0 _ _
  rw [← hQ]
  have hret : ∀ (σ : SM) (H : Heap) (locs : List Loc) (ls : Array Slot) (pc : Nat), some σ = some res → va_P (dC, dI) vwCl (ax_w 12 ad (cM cyI ad σ)) H → va_S (ax_A 12 ad s.heap.size) s.heap H locs → decode cX8_put pc = .ok (.return_, 1) → W p l e rm_X8_put s m args below meth c H locs 0 0 Q (F0 m pc ls []) := by
    intro σ H locs ls pc hf hP hS hd
    cases hf
    rw [hQ]
    exact ax_vret hx hb hr hlocks hP hS hd rfl
  unfold f_X8_put at hf
  refine lv_aload_n hx hb dX8_put_0 rfl (lv_at hl 0 rfl) ?_
  refine g_Model_folded C0 hT hE hP mf_X8_38 dX8_put_1 ?_
  refine lv_aload_n hx hb dX8_put_4 rfl (lv_at hl 0 rfl) ?_
  refine g_Model_foldedSize C0 hT hE hP mf_X8_96 dX8_put_5 ?_
  refine lv_iload_n hx hb dX8_put_8 rfl (lv_at hl 1 rfl) ?_
  obtain ⟨hin, hf⟩ := ob_if hf
  refine aM_st (a := 7) (by decide) C0 hT hE hJ hP hS (inb_in hin) dX8_put_9 (fun H locs hP hS => ?_)
  refine lv_aload_n hx hb dX8_put_10 rfl (lv_at hl 0 rfl) ?_
  refine lv_dup hx hb dX8_put_11 rfl ?_
  refine g_Model_foldedSize C0 hT hE hP mf_X8_96 dX8_put_12 ?_
  refine lv_iconst (v := 1) hx hb dX8_put_15 (by decide) ?_
  refine lv_iadd hx hb dX8_put_16 ?_
  refine p_Model_foldedSize C0 hT hE hJ hP hS mf_X8_96 dX8_put_17 (fun H locs hP hS => ?_)
  exact hret _ _ _ _ _ hf hP hS dX8_put_20
def f_X8_fold_133 (x1 : Int32) (k7 : SM → Int32 → Option (SM)) (k94 : SM → Int32 → Int32 → Option (SM)) : Nat → SM → Int32 → Int32 → Int32 → Int32 → Option (SM)
  | 0, _, _, _, _, _ => none
  | n + 1, σ, x2, x4, x5, x6 => if x5 ≤ x6 then (k94 σ (x2 + x5) x4) else (if inb (((1500 * x1) + x2) + x6) (capM 5) = true then ((f_X8_put σ (σ.2 5 (((1500 * x1) + x2) + x6).toNatClampNeg)).bind fun q156 => f_X8_fold_133 x1 k7 k94 n q156 x2 x4 x5 (x6 + 1)) else none)
def f_X8_fold_120 (x1 : Int32) (k7 : SM → Int32 → Option (SM)) (k94 : SM → Int32 → Int32 → Option (SM)) (σ : SM) (x2 : Int32) (x4 : Int32) (s0 : Int32) : Option (SM) := (f_X8_put σ (s0 - 1)).bind fun q127 => f_X8_fold_133 x1 k7 k94 fu q127 x2 x4 s0 0
def f_X8_fold_94 (x1 : Int32) (k7 : SM → Int32 → Option (SM)) : Nat → SM → Int32 → Int32 → Option (SM)
  | 0, _, _, _ => none
  | n + 1, σ, x2, x4 => if x4 ≤ x2 then (k7 σ x2) else (if (128 : Int32) ≤ (x4 - x2) then (f_X8_fold_120 x1 k7 (f_X8_fold_94 x1 k7 n) σ x2 x4 128) else (f_X8_fold_120 x1 k7 (f_X8_fold_94 x1 k7 n) σ x2 x4 (x4 - x2)))
def f_X8_fold_66 (x1 : Int32) (k7 : SM → Int32 → Option (SM)) : Nat → SM → Int32 → Int32 → Option (SM)
  | 0, _, _, _ => none
  | n + 1, σ, x2, x4 => if inb x1 (capM 6) = true then (if (σ.2 6 x1.toNatClampNeg) ≤ x4 then (f_X8_fold_94 x1 k7 fu σ x2 x4) else ((f_X8_alike σ x1 x4).bind fun q81 => if (3 : Int32) ≤ q81.1 then (f_X8_fold_94 x1 k7 fu q81.2 x2 x4) else (f_X8_fold_66 x1 k7 n q81.2 x2 (x4 + 1)))) else none
def f_X8_fold_7 (x1 : Int32) : Nat → SM → Int32 → Option (SM)
  | 0, _, _ => none
  | n + 1, σ, x2 => if inb x1 (capM 6) = true then (if (σ.2 6 x1.toNatClampNeg) ≤ x2 then (some σ) else ((f_X8_alike σ x1 x2).bind fun q20 => if q20.1 ≤ 2 then (f_X8_fold_66 x1 (f_X8_fold_7 x1 n) fu q20.2 x2 (x2 + 1)) else ((f_X8_put q20.2 (257 - q20.1)).bind fun q35 => if inb ((1500 * x1) + x2) (capM 5) = true then ((f_X8_put q35 (q35.2 5 ((1500 * x1) + x2).toNatClampNeg)).bind fun q51 => f_X8_fold_7 x1 n q51 (x2 + q20.1)) else none))) else none
def f_X8_fold (σ : SM) (x1 : Int32) : Option (SM) := f_X8_fold_7 x1 fu (SMi σ 7 0) 0
def rm_X8_fold : Room := { frames := 1, cells := 0, slots := 0, locals := 23 }
set_option maxHeartbeats 4000000 in
set_option maxRecDepth 100000 in
theorem met_X8_fold (l : Launch) (dC : Nat → ClassId) (dI : Nat → Nat → Nat) (cyI cyE : ClassId) (tC : Nat) (ad : Nat → Nat) (σ : SM) (x1 : Int32) (res : SM) (hf : f_X8_fold σ x1 = some res) : ax_Mv l dC dI cyI cyE tC 12 (cM cyI ad) ad yX8_fold cX8_fold 7 none rm_X8_fold [.ref (ad 11), .int x1] σ res := by
  intro sz
  refine Met.ofW (cc := cX8_fold) (maxL := 7) (ret := none) (by decide) rfl ?_
  intro p e s m args below meth c s₁ B hml hv
  obtain ⟨hargs, hsz, hP, hJ, hE⟩ := hv
  subst hsz
  have hx := B.exec
  have hb := B.bytes
  have hr := B.returns
  have hlocks := B.notSynchronized
  have hts := atoms_spec (ws := wsY yX8_fold cX8_fold 7 none) B.pre
  have hown : s.vm.findClass RX8 = some m.cls := findClass_of_methodNamed B.named
  have C0 : CallFix p m c cX8_fold 7 s args (wsY yX8_fold cX8_fold 7 none) RX8 := ⟨hx, hb, hml, hown, hts⟩
  have hT : ∀ w ∈ bw, w ∈ wsY yX8_fold cX8_fold 7 none := fun w h => List.mem_cons_of_mem _ h
  have hS : va_S (ax_A 12 ad s.heap.size) s.heap s.heap [] := va_S.rf
  rw [show entryFrame m args 7 = entryFrame m ([.ref (ad 11), .int x1] : List Value).toArray 7 by rw [hargs]]
  have hl := lv_entry ([.ref (ad 11), .int x1]) (n := 7) (Nat.le_of_ble_eq_true rfl)
  rw [lg_entry_eq]
  generalize (lg_sl ([.ref (ad 11), .int x1]) ++ List.replicate (7 - (lg_sl ([.ref (ad 11), .int x1])).length) Slot.unset).toArray = ls at hl ⊢
  have hl : lv_has ls 7 [(0, .ref (ad 11)), (1, .int x1)] := hl
  obtain ⟨Q, hQ⟩ : ∃ Q : State → Prop, Q = MQ below (va_Qv (fun (u : SM) => u = res) (ax_B dC dI 12 (cM cyI ad) ad) (ax_A 12 ad s.heap.size)) args s 0 0 (ax_A 12 ad s.heap.size) := ⟨_, rfl⟩
  show W p l e rm_X8_fold s m args below meth c s.heap [] 0 0 _ _
  rw [← hQ]
  have hret : ∀ (σ : SM) (H : Heap) (locs : List Loc) (ls : Array Slot) (pc : Nat), some σ = some res → va_P (dC, dI) vwCl (ax_w 12 ad (cM cyI ad σ)) H → va_S (ax_A 12 ad s.heap.size) s.heap H locs → decode cX8_fold pc = .ok (.return_, 1) → W p l e rm_X8_fold s m args below meth c H locs 0 0 Q (F0 m pc ls []) := by
    intro σ H locs ls pc hf hP hS hd
    cases hf
    rw [hQ]
    exact ax_vret hx hb hr hlocks hP hS hd rfl
  have L133 : ∀ (k7 : SM → Int32 → Option (SM)), (∀ (σ : SM) (x2 : Int32), ∀ (H : Heap) (locs : List Loc) (ls : Array Slot), va_P (dC, dI) vwCl (ax_w 12 ad (cM cyI ad σ)) H → va_S (ax_A 12 ad s.heap.size) s.heap H locs → lv_has ls 7 [(0, .ref (ad 11)), (1, .int x1), (2, .int x2)] → k7 σ x2 = some res → W p l e rm_X8_fold s m args below meth c H locs 0 0 Q (F0 m 7 ls [])) → ∀ (k94 : SM → Int32 → Int32 → Option (SM)), (∀ (σ : SM) (x2 : Int32) (x4 : Int32), ∀ (H : Heap) (locs : List Loc) (ls : Array Slot), va_P (dC, dI) vwCl (ax_w 12 ad (cM cyI ad σ)) H → va_S (ax_A 12 ad s.heap.size) s.heap H locs → lv_has ls 7 [(0, .ref (ad 11)), (1, .int x1), (2, .int x2), (4, .int x4)] → k94 σ x2 x4 = some res → W p l e rm_X8_fold s m args below meth c H locs 0 0 Q (F0 m 94 ls [])) → ∀ (n : Nat), ∀ (σ : SM) (x2 : Int32) (x4 : Int32) (x5 : Int32) (x6 : Int32), ∀ (H : Heap) (locs : List Loc) (ls : Array Slot), va_P (dC, dI) vwCl (ax_w 12 ad (cM cyI ad σ)) H → va_S (ax_A 12 ad s.heap.size) s.heap H locs → lv_has ls 7 [(0, .ref (ad 11)), (1, .int x1), (2, .int x2), (4, .int x4), (5, .int x5), (6, .int x6)] → f_X8_fold_133 x1 k7 k94 n σ x2 x4 x5 x6 = some res → W p l e rm_X8_fold s m args below meth c H locs 0 0 Q (F0 m 133 ls []) := by
    intro k7 hk7 k94 hk94
    intro n
    induction n with
    | zero =>
      intro σ x2 x4 x5 x6  H locs ls hP hS hl hf
      cases hf
    | succ n ih =>
      intro σ x2 x4 x5 x6  H locs ls hP hS hl hf
      rw [f_X8_fold_133] at hf
      refine lv_iload hx hb dX8_fold_133 (lv_at hl 5 rfl) ?_
      refine lv_iload hx hb dX8_fold_135 (lv_at hl 4 rfl) ?_
      refine lv_icmp_ge (tgt := 165) hx hb dX8_fold_137 (by decide) (fun h137 => ?_) (fun h137 => ?_)
      · rw [if_pos h137] at hf
        refine lv_iload_n hx hb dX8_fold_165 rfl (lv_at hl 2 rfl) ?_
        refine lv_iload hx hb dX8_fold_166 (lv_at hl 4 rfl) ?_
        refine lv_iadd hx hb dX8_fold_168 ?_
        refine lv_istore_n (lv' := [(2, .int (x2 + x5)), (0, .ref (ad 11)), (1, .int x1), (4, .int x4), (5, .int x5), (6, .int x6)]) hx hb dX8_fold_169 rfl hl (by decide) rfl (fun ls hl => ?_)
        refine lv_goto (tgt := 94) hx hb dX8_fold_170 (by decide) ?_
        exact hk94 _ _ _ _ _ _ hP hS (lv_sub hl [1, 2, 0, 3] rfl) hf
      · rw [if_neg h137] at hf
        refine lv_aload_n hx hb dX8_fold_140 rfl (lv_at hl 0 rfl) ?_
        refine lv_aload_n hx hb dX8_fold_141 rfl (lv_at hl 0 rfl) ?_
        refine g_Model_bytes C0 hT hE hP mf_X8_25 dX8_fold_142 ?_
        refine lv_sipush (v := 1500) hx hb dX8_fold_145 (by decide) ?_
        refine lv_iload_n hx hb dX8_fold_148 rfl (lv_at hl 1 rfl) ?_
        refine lv_imul hx hb dX8_fold_149 ?_
        refine lv_iload_n hx hb dX8_fold_150 rfl (lv_at hl 2 rfl) ?_
        refine lv_iadd hx hb dX8_fold_151 ?_
        refine lv_iload hx hb dX8_fold_152 (lv_at hl 5 rfl) ?_
        refine lv_iadd hx hb dX8_fold_154 ?_
        obtain ⟨hin, hf⟩ := ob_if hf
        refine aM_ld (a := 5) (by decide) C0 hT hE hP (inb_in hin) dX8_fold_155 ?_
        obtain ⟨q156, hq, hf⟩ := ob_bind hf
        refine ax_callVv (b := 0) (i := 11) (k := 1) (ci := 6) [.int (σ.2 5 (((1500 * x1) + x2) + x6).toNatClampNeg)] C0 hT hJ hE (met_X8_put l dC dI cyI cyE tC ad σ (σ.2 5 (((1500 * x1) + x2) + x6).toNatClampNeg) _ hq) hP hS mc_X8_put ml_X8_103 mi_X8_put ms_X8_put mz_X8 (by decide +kernel) ⟨rfl, rfl⟩ ⟨by decide, by decide⟩ (by decide) cM_O rfl rfl rfl hl.1 (Nat.le_of_ble_eq_true rfl) dX8_fold_156 ⟨Nat.zero_le _, Nat.zero_le _⟩ (fun H locs hP hS => ?_)
        refine lv_iinc (v := x6 + 1) (lv' := [(6, .int (x6 + 1)), (0, .ref (ad 11)), (1, .int x1), (2, .int x2), (4, .int x4), (5, .int x5)]) hx hb dX8_fold_159 hl (k := 5) rfl rfl (by decide) rfl (fun ls hl => ?_)
        refine lv_goto (tgt := 133) hx hb dX8_fold_162 (by decide) ?_
        exact ih _ _ _ _ _ _ _ _ hP hS (lv_sub hl [1, 2, 3, 4, 5, 0] rfl) hf
  have L120 : ∀ (k7 : SM → Int32 → Option (SM)), (∀ (σ : SM) (x2 : Int32), ∀ (H : Heap) (locs : List Loc) (ls : Array Slot), va_P (dC, dI) vwCl (ax_w 12 ad (cM cyI ad σ)) H → va_S (ax_A 12 ad s.heap.size) s.heap H locs → lv_has ls 7 [(0, .ref (ad 11)), (1, .int x1), (2, .int x2)] → k7 σ x2 = some res → W p l e rm_X8_fold s m args below meth c H locs 0 0 Q (F0 m 7 ls [])) → ∀ (k94 : SM → Int32 → Int32 → Option (SM)), (∀ (σ : SM) (x2 : Int32) (x4 : Int32), ∀ (H : Heap) (locs : List Loc) (ls : Array Slot), va_P (dC, dI) vwCl (ax_w 12 ad (cM cyI ad σ)) H → va_S (ax_A 12 ad s.heap.size) s.heap H locs → lv_has ls 7 [(0, .ref (ad 11)), (1, .int x1), (2, .int x2), (4, .int x4)] → k94 σ x2 x4 = some res → W p l e rm_X8_fold s m args below meth c H locs 0 0 Q (F0 m 94 ls [])) → ∀ (σ : SM) (x2 : Int32) (x4 : Int32) (s0 : Int32), ∀ (H : Heap) (locs : List Loc) (ls : Array Slot), va_P (dC, dI) vwCl (ax_w 12 ad (cM cyI ad σ)) H → va_S (ax_A 12 ad s.heap.size) s.heap H locs → lv_has ls 7 [(0, .ref (ad 11)), (1, .int x1), (2, .int x2), (4, .int x4)] → f_X8_fold_120 x1 k7 k94 σ x2 x4 s0 = some res → W p l e rm_X8_fold s m args below meth c H locs 0 0 Q (F0 m 120 ls [.int s0]) := by
    intro k7 hk7 k94 hk94
    intro σ x2 x4 s0  H locs ls hP hS hl hf
    unfold f_X8_fold_120 at hf
    refine lv_istore (lv' := [(5, .int s0), (0, .ref (ad 11)), (1, .int x1), (2, .int x2), (4, .int x4)]) hx hb dX8_fold_120 hl (by decide) rfl (fun ls hl => ?_)
    refine lv_aload_n hx hb dX8_fold_122 rfl (lv_at hl 1 rfl) ?_
    refine lv_iload hx hb dX8_fold_123 (lv_at hl 0 rfl) ?_
    refine lv_iconst (v := 1) hx hb dX8_fold_125 (by decide) ?_
    refine lv_isub hx hb dX8_fold_126 ?_
    obtain ⟨q127, hq, hf⟩ := ob_bind hf
    refine ax_callVv (b := 0) (i := 11) (k := 1) (ci := 6) [.int (s0 - 1)] C0 hT hJ hE (met_X8_put l dC dI cyI cyE tC ad σ (s0 - 1) _ hq) hP hS mc_X8_put ml_X8_103 mi_X8_put ms_X8_put mz_X8 (by decide +kernel) ⟨rfl, rfl⟩ ⟨by decide, by decide⟩ (by decide) cM_O rfl rfl rfl hl.1 (Nat.le_of_ble_eq_true rfl) dX8_fold_127 ⟨Nat.zero_le _, Nat.zero_le _⟩ (fun H locs hP hS => ?_)
    refine lv_iconst (v := 0) hx hb dX8_fold_130 (by decide) ?_
    refine lv_istore (lv' := [(6, .int 0), (5, .int s0), (0, .ref (ad 11)), (1, .int x1), (2, .int x2), (4, .int x4)]) hx hb dX8_fold_131 hl (by decide) rfl (fun ls hl => ?_)
    exact L133 _ hk7 _ hk94 fu _ _ _ _ _ _ _ _ hP hS (lv_sub hl [2, 3, 4, 5, 1, 0] rfl) hf
  have L94 : ∀ (k7 : SM → Int32 → Option (SM)), (∀ (σ : SM) (x2 : Int32), ∀ (H : Heap) (locs : List Loc) (ls : Array Slot), va_P (dC, dI) vwCl (ax_w 12 ad (cM cyI ad σ)) H → va_S (ax_A 12 ad s.heap.size) s.heap H locs → lv_has ls 7 [(0, .ref (ad 11)), (1, .int x1), (2, .int x2)] → k7 σ x2 = some res → W p l e rm_X8_fold s m args below meth c H locs 0 0 Q (F0 m 7 ls [])) → ∀ (n : Nat), ∀ (σ : SM) (x2 : Int32) (x4 : Int32), ∀ (H : Heap) (locs : List Loc) (ls : Array Slot), va_P (dC, dI) vwCl (ax_w 12 ad (cM cyI ad σ)) H → va_S (ax_A 12 ad s.heap.size) s.heap H locs → lv_has ls 7 [(0, .ref (ad 11)), (1, .int x1), (2, .int x2), (4, .int x4)] → f_X8_fold_94 x1 k7 n σ x2 x4 = some res → W p l e rm_X8_fold s m args below meth c H locs 0 0 Q (F0 m 94 ls []) := by
    intro k7 hk7
    intro n
    induction n with
    | zero =>
      intro σ x2 x4  H locs ls hP hS hl hf
      cases hf
    | succ n ih =>
      intro σ x2 x4  H locs ls hP hS hl hf
      rw [f_X8_fold_94] at hf
      refine lv_iload_n hx hb dX8_fold_94 rfl (lv_at hl 2 rfl) ?_
      refine lv_iload hx hb dX8_fold_95 (lv_at hl 3 rfl) ?_
      refine lv_icmp_ge (tgt := 173) hx hb dX8_fold_97 (by decide) (fun h97 => ?_) (fun h97 => ?_)
      · rw [if_pos h97] at hf
        refine lv_goto (tgt := 7) hx hb dX8_fold_173 (by decide) ?_
        exact hk7 _ _ _ _ _ hP hS (lv_sub hl [0, 1, 2] rfl) hf
      · rw [if_neg h97] at hf
        refine lv_iload hx hb dX8_fold_100 (lv_at hl 3 rfl) ?_
        refine lv_iload_n hx hb dX8_fold_102 rfl (lv_at hl 2 rfl) ?_
        refine lv_isub hx hb dX8_fold_103 ?_
        refine lv_sipush (v := 128) hx hb dX8_fold_104 (by decide) ?_
        refine lv_icmp_ge (tgt := 117) hx hb dX8_fold_107 (by decide) (fun h107 => ?_) (fun h107 => ?_)
        · rw [if_pos h107] at hf
          refine lv_sipush (v := 128) hx hb dX8_fold_117 (by decide) ?_
          exact L120 _ hk7 _ ih _ _ _ _ _ _ _ hP hS (lv_sub hl [0, 1, 2, 3] rfl) hf
        · rw [if_neg h107] at hf
          refine lv_iload hx hb dX8_fold_110 (lv_at hl 3 rfl) ?_
          refine lv_iload_n hx hb dX8_fold_112 rfl (lv_at hl 2 rfl) ?_
          refine lv_isub hx hb dX8_fold_113 ?_
          refine lv_goto (tgt := 120) hx hb dX8_fold_114 (by decide) ?_
          exact L120 _ hk7 _ ih _ _ _ _ _ _ _ hP hS (lv_sub hl [0, 1, 2, 3] rfl) hf
  have L66 : ∀ (k7 : SM → Int32 → Option (SM)), (∀ (σ : SM) (x2 : Int32), ∀ (H : Heap) (locs : List Loc) (ls : Array Slot), va_P (dC, dI) vwCl (ax_w 12 ad (cM cyI ad σ)) H → va_S (ax_A 12 ad s.heap.size) s.heap H locs → lv_has ls 7 [(0, .ref (ad 11)), (1, .int x1), (2, .int x2)] → k7 σ x2 = some res → W p l e rm_X8_fold s m args below meth c H locs 0 0 Q (F0 m 7 ls [])) → ∀ (n : Nat), ∀ (σ : SM) (x2 : Int32) (x4 : Int32), ∀ (H : Heap) (locs : List Loc) (ls : Array Slot), va_P (dC, dI) vwCl (ax_w 12 ad (cM cyI ad σ)) H → va_S (ax_A 12 ad s.heap.size) s.heap H locs → lv_has ls 7 [(0, .ref (ad 11)), (1, .int x1), (2, .int x2), (4, .int x4)] → f_X8_fold_66 x1 k7 n σ x2 x4 = some res → W p l e rm_X8_fold s m args below meth c H locs 0 0 Q (F0 m 66 ls []) := by
    intro k7 hk7
    intro n
    induction n with
    | zero =>
      intro σ x2 x4  H locs ls hP hS hl hf
      cases hf
    | succ n ih =>
      intro σ x2 x4  H locs ls hP hS hl hf
      rw [f_X8_fold_66] at hf
      refine lv_iload hx hb dX8_fold_66 (lv_at hl 3 rfl) ?_
      refine lv_aload_n hx hb dX8_fold_68 rfl (lv_at hl 0 rfl) ?_
      refine g_Model_many C0 hT hE hP mf_X8_28 dX8_fold_69 ?_
      refine lv_iload_n hx hb dX8_fold_72 rfl (lv_at hl 1 rfl) ?_
      obtain ⟨hin, hf⟩ := ob_if hf
      refine aM_ld (a := 6) (by decide) C0 hT hE hP (inb_in hin) dX8_fold_73 ?_
      refine lv_icmp_ge (tgt := 94) hx hb dX8_fold_74 (by decide) (fun h74 => ?_) (fun h74 => ?_)
      · rw [if_pos h74] at hf
        exact L94 _ hk7 fu _ _ _ _ _ _ hP hS (lv_sub hl [0, 1, 2, 3] rfl) hf
      · rw [if_neg h74] at hf
        refine lv_aload_n hx hb dX8_fold_77 rfl (lv_at hl 0 rfl) ?_
        refine lv_iload_n hx hb dX8_fold_78 rfl (lv_at hl 1 rfl) ?_
        refine lv_iload hx hb dX8_fold_79 (lv_at hl 3 rfl) ?_
        obtain ⟨q81, hq, hf⟩ := ob_bind hf
        refine ax_callVi (C := "") (b := 0) (i := 11) (k := 2) (ci := 6) [.int x1, .int x4] C0 hT hJ hE (met_X8_alike l dC dI cyI cyE tC ad σ x1 x4 _ hq) hP hS mc_X8_alike ml_X8_99 mi_X8_alike ms_X8_alike mz_X8 (by decide +kernel) ⟨rfl, rfl⟩ ⟨by decide, by decide⟩ (by decide) cM_O rfl rfl rfl hl.1 (Nat.le_of_ble_eq_true rfl) dX8_fold_81 ⟨Nat.zero_le _, Nat.zero_le _⟩ (fun H locs hP hS => ?_)
        refine lv_iconst (v := 3) hx hb dX8_fold_84 (by decide) ?_
        refine lv_icmp_ge (tgt := 94) hx hb dX8_fold_85 (by decide) (fun h85 => ?_) (fun h85 => ?_)
        · rw [if_pos h85] at hf
          exact L94 _ hk7 fu _ _ _ _ _ _ hP hS (lv_sub hl [0, 1, 2, 3] rfl) hf
        · rw [if_neg h85] at hf
          refine lv_iinc (v := x4 + 1) (lv' := [(4, .int (x4 + 1)), (0, .ref (ad 11)), (1, .int x1), (2, .int x2)]) hx hb dX8_fold_88 hl (k := 3) rfl rfl (by decide) rfl (fun ls hl => ?_)
          refine lv_goto (tgt := 66) hx hb dX8_fold_91 (by decide) ?_
          exact ih _ _ _ _ _ _ hP hS (lv_sub hl [1, 2, 3, 0] rfl) hf
  have L7 : ∀ (n : Nat), ∀ (σ : SM) (x2 : Int32), ∀ (H : Heap) (locs : List Loc) (ls : Array Slot), va_P (dC, dI) vwCl (ax_w 12 ad (cM cyI ad σ)) H → va_S (ax_A 12 ad s.heap.size) s.heap H locs → lv_has ls 7 [(0, .ref (ad 11)), (1, .int x1), (2, .int x2)] → f_X8_fold_7 x1 n σ x2 = some res → W p l e rm_X8_fold s m args below meth c H locs 0 0 Q (F0 m 7 ls []) := by
    intro n
    induction n with
    | zero =>
      intro σ x2  H locs ls hP hS hl hf
      cases hf
    | succ n ih =>
      intro σ x2  H locs ls hP hS hl hf
      rw [f_X8_fold_7] at hf
      refine lv_iload_n hx hb dX8_fold_7 rfl (lv_at hl 2 rfl) ?_
      refine lv_aload_n hx hb dX8_fold_8 rfl (lv_at hl 0 rfl) ?_
      refine g_Model_many C0 hT hE hP mf_X8_28 dX8_fold_9 ?_
      refine lv_iload_n hx hb dX8_fold_12 rfl (lv_at hl 1 rfl) ?_
      obtain ⟨hin, hf⟩ := ob_if hf
      refine aM_ld (a := 6) (by decide) C0 hT hE hP (inb_in hin) dX8_fold_13 ?_
      refine lv_icmp_ge (tgt := 176) hx hb dX8_fold_14 (by decide) (fun h14 => ?_) (fun h14 => ?_)
      · rw [if_pos h14] at hf
        exact hret _ _ _ _ _ hf hP hS dX8_fold_176
      · rw [if_neg h14] at hf
        refine lv_aload_n hx hb dX8_fold_17 rfl (lv_at hl 0 rfl) ?_
        refine lv_iload_n hx hb dX8_fold_18 rfl (lv_at hl 1 rfl) ?_
        refine lv_iload_n hx hb dX8_fold_19 rfl (lv_at hl 2 rfl) ?_
        obtain ⟨q20, hq, hf⟩ := ob_bind hf
        refine ax_callVi (C := "") (b := 0) (i := 11) (k := 2) (ci := 6) [.int x1, .int x2] C0 hT hJ hE (met_X8_alike l dC dI cyI cyE tC ad σ x1 x2 _ hq) hP hS mc_X8_alike ml_X8_99 mi_X8_alike ms_X8_alike mz_X8 (by decide +kernel) ⟨rfl, rfl⟩ ⟨by decide, by decide⟩ (by decide) cM_O rfl rfl rfl hl.1 (Nat.le_of_ble_eq_true rfl) dX8_fold_20 ⟨Nat.zero_le _, Nat.zero_le _⟩ (fun H locs hP hS => ?_)
        refine lv_istore_n (lv' := [(3, .int q20.1), (0, .ref (ad 11)), (1, .int x1), (2, .int x2)]) hx hb dX8_fold_23 rfl hl (by decide) rfl (fun ls hl => ?_)
        refine lv_iload_n hx hb dX8_fold_24 rfl (lv_at hl 0 rfl) ?_
        refine lv_iconst (v := 2) hx hb dX8_fold_25 (by decide) ?_
        refine lv_icmp_le (tgt := 61) hx hb dX8_fold_26 (by decide) (fun h26 => ?_) (fun h26 => ?_)
        · rw [if_pos h26] at hf
          refine lv_iload_n hx hb dX8_fold_61 rfl (lv_at hl 3 rfl) ?_
          refine lv_iconst (v := 1) hx hb dX8_fold_62 (by decide) ?_
          refine lv_iadd hx hb dX8_fold_63 ?_
          refine lv_istore (lv' := [(4, .int (x2 + 1)), (3, .int q20.1), (0, .ref (ad 11)), (1, .int x1), (2, .int x2)]) hx hb dX8_fold_64 hl (by decide) rfl (fun ls hl => ?_)
          exact L66 _ ih fu _ _ _ _ _ _ hP hS (lv_sub hl [2, 3, 4, 0] rfl) hf
        · rw [if_neg h26] at hf
          refine lv_aload_n hx hb dX8_fold_29 rfl (lv_at hl 1 rfl) ?_
          refine lv_sipush (v := 257) hx hb dX8_fold_30 (by decide) ?_
          refine lv_iload_n hx hb dX8_fold_33 rfl (lv_at hl 0 rfl) ?_
          refine lv_isub hx hb dX8_fold_34 ?_
          obtain ⟨q35, hq, hf⟩ := ob_bind hf
          refine ax_callVv (b := 0) (i := 11) (k := 1) (ci := 6) [.int (257 - q20.1)] C0 hT hJ hE (met_X8_put l dC dI cyI cyE tC ad q20.2 (257 - q20.1) _ hq) hP hS mc_X8_put ml_X8_103 mi_X8_put ms_X8_put mz_X8 (by decide +kernel) ⟨rfl, rfl⟩ ⟨by decide, by decide⟩ (by decide) cM_O rfl rfl rfl hl.1 (Nat.le_of_ble_eq_true rfl) dX8_fold_35 ⟨Nat.zero_le _, Nat.zero_le _⟩ (fun H locs hP hS => ?_)
          refine lv_aload_n hx hb dX8_fold_38 rfl (lv_at hl 1 rfl) ?_
          refine lv_aload_n hx hb dX8_fold_39 rfl (lv_at hl 1 rfl) ?_
          refine g_Model_bytes C0 hT hE hP mf_X8_25 dX8_fold_40 ?_
          refine lv_sipush (v := 1500) hx hb dX8_fold_43 (by decide) ?_
          refine lv_iload_n hx hb dX8_fold_46 rfl (lv_at hl 2 rfl) ?_
          refine lv_imul hx hb dX8_fold_47 ?_
          refine lv_iload_n hx hb dX8_fold_48 rfl (lv_at hl 3 rfl) ?_
          refine lv_iadd hx hb dX8_fold_49 ?_
          obtain ⟨hin, hf⟩ := ob_if hf
          refine aM_ld (a := 5) (by decide) C0 hT hE hP (inb_in hin) dX8_fold_50 ?_
          obtain ⟨q51, hq, hf⟩ := ob_bind hf
          refine ax_callVv (b := 0) (i := 11) (k := 1) (ci := 6) [.int (q35.2 5 ((1500 * x1) + x2).toNatClampNeg)] C0 hT hJ hE (met_X8_put l dC dI cyI cyE tC ad q35 (q35.2 5 ((1500 * x1) + x2).toNatClampNeg) _ hq) hP hS mc_X8_put ml_X8_103 mi_X8_put ms_X8_put mz_X8 (by decide +kernel) ⟨rfl, rfl⟩ ⟨by decide, by decide⟩ (by decide) cM_O rfl rfl rfl hl.1 (Nat.le_of_ble_eq_true rfl) dX8_fold_51 ⟨Nat.zero_le _, Nat.zero_le _⟩ (fun H locs hP hS => ?_)
          refine lv_iload_n hx hb dX8_fold_54 rfl (lv_at hl 3 rfl) ?_
          refine lv_iload_n hx hb dX8_fold_55 rfl (lv_at hl 0 rfl) ?_
          refine lv_iadd hx hb dX8_fold_56 ?_
          refine lv_istore_n (lv' := [(2, .int (x2 + q20.1)), (3, .int q20.1), (0, .ref (ad 11)), (1, .int x1)]) hx hb dX8_fold_57 rfl hl (by decide) rfl (fun ls hl => ?_)
          refine lv_goto (tgt := 7) hx hb dX8_fold_58 (by decide) ?_
          exact ih _ _ _ _ _ hP hS (lv_sub hl [2, 3, 0] rfl) hf
  unfold f_X8_fold at hf
  refine lv_aload_n hx hb dX8_fold_0 rfl (lv_at hl 0 rfl) ?_
  refine lv_iconst (v := 0) hx hb dX8_fold_1 (by decide) ?_
  refine p_Model_foldedSize C0 hT hE hJ hP hS mf_X8_96 dX8_fold_2 (fun H locs hP hS => ?_)
  refine lv_iconst (v := 0) hx hb dX8_fold_5 (by decide) ?_
  refine lv_istore_n (lv' := [(2, .int 0), (0, .ref (ad 11)), (1, .int x1)]) hx hb dX8_fold_6 rfl hl (by decide) rfl (fun ls hl => ?_)
  exact L7 fu _ _ _ _ _ hP hS (lv_sub hl [1, 2, 0] rfl) hf
def f_X8_method (σ : SM) (x1 : Int32) : Option (Int32 × SM) := (f_X8_fold σ x1).bind fun q2 => if inb x1 (capM 6) = true then (if (q2.2 6 x1.toNatClampNeg) ≤ (q2.1 7) then (some (0, q2)) else (some (99, q2))) else none
def rm_X8_method : Room := { frames := 2, cells := 0, slots := 0, locals := 49 }
set_option maxHeartbeats 4000000 in
set_option maxRecDepth 100000 in
theorem met_X8_method (l : Launch) (dC : Nat → ClassId) (dI : Nat → Nat → Nat) (cyI cyE : ClassId) (tC : Nat) (ad : Nat → Nat) (σ : SM) (x1 : Int32) (res : Int32 × SM) (hf : f_X8_method σ x1 = some res) : ax_Mi l dC dI cyI cyE tC 12 (cM cyI ad) ad yX8_method cX8_method 2 (some .int) rm_X8_method [.ref (ad 11), .int x1] σ res.1 res.2 := by
  intro sz
  refine Met.ofW (cc := cX8_method) (maxL := 2) (ret := (some .int)) (by decide) rfl ?_
  intro p e s m args below meth c s₁ B hml hv
  obtain ⟨hargs, hsz, hP, hJ, hE⟩ := hv
  subst hsz
  have hx := B.exec
  have hb := B.bytes
  have hr := B.returns
  have hlocks := B.notSynchronized
  have hts := atoms_spec (ws := wsY yX8_method cX8_method 2 (some .int)) B.pre
  have hown : s.vm.findClass RX8 = some m.cls := findClass_of_methodNamed B.named
  have C0 : CallFix p m c cX8_method 2 s args (wsY yX8_method cX8_method 2 (some .int)) RX8 := ⟨hx, hb, hml, hown, hts⟩
  have hT : ∀ w ∈ bw, w ∈ wsY yX8_method cX8_method 2 (some .int) := fun w h => List.mem_cons_of_mem _ h
  have hS : va_S (ax_A 12 ad s.heap.size) s.heap s.heap [] := va_S.rf
  rw [show entryFrame m args 2 = entryFrame m ([.ref (ad 11), .int x1] : List Value).toArray 2 by rw [hargs]]
  have hl := lv_entry ([.ref (ad 11), .int x1]) (n := 2) (Nat.le_of_ble_eq_true rfl)
  rw [lg_entry_eq]
  generalize (lg_sl ([.ref (ad 11), .int x1]) ++ List.replicate (2 - (lg_sl ([.ref (ad 11), .int x1])).length) Slot.unset).toArray = ls at hl ⊢
  have hl : lv_has ls 2 [(0, .ref (ad 11)), (1, .int x1)] := hl
  obtain ⟨Q, hQ⟩ : ∃ Q : State → Prop, Q = MQ below (va_Qi (fun (a : Int32) (u : SM) => a = res.1 ∧ u = res.2) (ax_B dC dI 12 (cM cyI ad) ad) (ax_A 12 ad s.heap.size)) args s 0 0 (ax_A 12 ad s.heap.size) := ⟨_, rfl⟩
  show W p l e rm_X8_method s m args below meth c s.heap [] 0 0 _ _
  rw [← hQ]
  have hret : ∀ (v : Int32) (σ : SM) (H : Heap) (locs : List Loc) (ls : Array Slot) (pc : Nat), narrow .int (.int v) = .int v → some (v, σ) = some res → va_P (dC, dI) vwCl (ax_w 12 ad (cM cyI ad σ)) H → va_S (ax_A 12 ad s.heap.size) s.heap H locs → decode cX8_method pc = .ok (.ireturn, 1) → W p l e rm_X8_method s m args below meth c H locs 0 0 Q (F0 m pc ls [.int v]) := by
    intro v σ H locs ls pc hn hf hP hS hd
    cases hf
    rw [hQ]
    exact ax_iret hx hb hr hlocks hn hP hS hd rfl rfl
  unfold f_X8_method at hf
  refine lv_aload_n hx hb dX8_method_0 rfl (lv_at hl 0 rfl) ?_
  refine lv_iload_n hx hb dX8_method_1 rfl (lv_at hl 1 rfl) ?_
  obtain ⟨q2, hq, hf⟩ := ob_bind hf
  refine ax_callVv (b := 0) (i := 11) (k := 1) (ci := 6) [.int x1] C0 hT hJ hE (met_X8_fold l dC dI cyI cyE tC ad σ x1 _ hq) hP hS mc_X8_fold ml_X8_106 mi_X8_fold ms_X8_fold mz_X8 (by decide +kernel) ⟨rfl, rfl⟩ ⟨by decide, by decide⟩ (by decide) cM_O rfl rfl rfl hl.1 (Nat.le_of_ble_eq_true rfl) dX8_method_2 ⟨Nat.zero_le _, Nat.zero_le _⟩ (fun H locs hP hS => ?_)
  refine lv_aload_n hx hb dX8_method_5 rfl (lv_at hl 0 rfl) ?_
  refine g_Model_foldedSize C0 hT hE hP mf_X8_96 dX8_method_6 ?_
  refine lv_aload_n hx hb dX8_method_9 rfl (lv_at hl 0 rfl) ?_
  refine g_Model_many C0 hT hE hP mf_X8_28 dX8_method_10 ?_
  refine lv_iload_n hx hb dX8_method_13 rfl (lv_at hl 1 rfl) ?_
  obtain ⟨hin, hf⟩ := ob_if hf
  refine aM_ld (a := 6) (by decide) C0 hT hE hP (inb_in hin) dX8_method_14 ?_
  refine lv_icmp_ge (tgt := 23) hx hb dX8_method_15 (by decide) (fun h15 => ?_) (fun h15 => ?_)
  · rw [if_pos h15] at hf
    refine lv_iconst (v := 0) hx hb dX8_method_23 (by decide) ?_
    exact hret _ _ _ _ _ _ rfl hf hP hS dX8_method_24
  · rw [if_neg h15] at hf
    refine lv_bipush (v := 99) hx hb dX8_method_18 (by decide) ?_
    refine lv_goto (tgt := 24) hx hb dX8_method_20 (by decide) ?_
    exact hret _ _ _ _ _ _ rfl hf hP hS dX8_method_24
def f_X8_packedSize (σ : SM) (x1 : Int32) : Option (Int32 × SM) := (f_X8_method σ x1).bind fun q2 => if q2.1 = 99 then (some (q2.2.1 7, q2.2)) else (if inb x1 (capM 6) = true then (some (q2.2.2 6 x1.toNatClampNeg, q2.2)) else none)
def rm_X8_packedSize : Room := { frames := 3, cells := 0, slots := 0, locals := 70 }
set_option maxHeartbeats 4000000 in
set_option maxRecDepth 100000 in
theorem met_X8_packedSize (l : Launch) (dC : Nat → ClassId) (dI : Nat → Nat → Nat) (cyI cyE : ClassId) (tC : Nat) (ad : Nat → Nat) (σ : SM) (x1 : Int32) (res : Int32 × SM) (hf : f_X8_packedSize σ x1 = some res) : ax_Mi l dC dI cyI cyE tC 12 (cM cyI ad) ad yX8_packedSize cX8_packedSize 2 (some .int) rm_X8_packedSize [.ref (ad 11), .int x1] σ res.1 res.2 := by
  intro sz
  refine Met.ofW (cc := cX8_packedSize) (maxL := 2) (ret := (some .int)) (by decide) rfl ?_
  intro p e s m args below meth c s₁ B hml hv
  obtain ⟨hargs, hsz, hP, hJ, hE⟩ := hv
  subst hsz
  have hx := B.exec
  have hb := B.bytes
  have hr := B.returns
  have hlocks := B.notSynchronized
  have hts := atoms_spec (ws := wsY yX8_packedSize cX8_packedSize 2 (some .int)) B.pre
  have hown : s.vm.findClass RX8 = some m.cls := findClass_of_methodNamed B.named
  have C0 : CallFix p m c cX8_packedSize 2 s args (wsY yX8_packedSize cX8_packedSize 2 (some .int)) RX8 := ⟨hx, hb, hml, hown, hts⟩
  have hT : ∀ w ∈ bw, w ∈ wsY yX8_packedSize cX8_packedSize 2 (some .int) := fun w h => List.mem_cons_of_mem _ h
  have hS : va_S (ax_A 12 ad s.heap.size) s.heap s.heap [] := va_S.rf
  rw [show entryFrame m args 2 = entryFrame m ([.ref (ad 11), .int x1] : List Value).toArray 2 by rw [hargs]]
  have hl := lv_entry ([.ref (ad 11), .int x1]) (n := 2) (Nat.le_of_ble_eq_true rfl)
  rw [lg_entry_eq]
  generalize (lg_sl ([.ref (ad 11), .int x1]) ++ List.replicate (2 - (lg_sl ([.ref (ad 11), .int x1])).length) Slot.unset).toArray = ls at hl ⊢
  have hl : lv_has ls 2 [(0, .ref (ad 11)), (1, .int x1)] := hl
  obtain ⟨Q, hQ⟩ : ∃ Q : State → Prop, Q = MQ below (va_Qi (fun (a : Int32) (u : SM) => a = res.1 ∧ u = res.2) (ax_B dC dI 12 (cM cyI ad) ad) (ax_A 12 ad s.heap.size)) args s 0 0 (ax_A 12 ad s.heap.size) := ⟨_, rfl⟩
  show W p l e rm_X8_packedSize s m args below meth c s.heap [] 0 0 _ _
  rw [← hQ]
  have hret : ∀ (v : Int32) (σ : SM) (H : Heap) (locs : List Loc) (ls : Array Slot) (pc : Nat), narrow .int (.int v) = .int v → some (v, σ) = some res → va_P (dC, dI) vwCl (ax_w 12 ad (cM cyI ad σ)) H → va_S (ax_A 12 ad s.heap.size) s.heap H locs → decode cX8_packedSize pc = .ok (.ireturn, 1) → W p l e rm_X8_packedSize s m args below meth c H locs 0 0 Q (F0 m pc ls [.int v]) := by
    intro v σ H locs ls pc hn hf hP hS hd
    cases hf
    rw [hQ]
    exact ax_iret hx hb hr hlocks hn hP hS hd rfl rfl
  unfold f_X8_packedSize at hf
  refine lv_aload_n hx hb dX8_packedSize_0 rfl (lv_at hl 0 rfl) ?_
  refine lv_iload_n hx hb dX8_packedSize_1 rfl (lv_at hl 1 rfl) ?_
  obtain ⟨q2, hq, hf⟩ := ob_bind hf
  refine ax_callVi (C := "") (b := 0) (i := 11) (k := 1) (ci := 6) [.int x1] C0 hT hJ hE (met_X8_method l dC dI cyI cyE tC ad σ x1 _ hq) hP hS mc_X8_method ml_X8_109 mi_X8_method ms_X8_method mz_X8 (by decide +kernel) ⟨rfl, rfl⟩ ⟨by decide, by decide⟩ (by decide) cM_O rfl rfl rfl hl.1 (Nat.le_of_ble_eq_true rfl) dX8_packedSize_2 ⟨Nat.zero_le _, Nat.zero_le _⟩ (fun H locs hP hS => ?_)
  refine lv_bipush (v := 99) hx hb dX8_packedSize_5 (by decide) ?_
  refine lv_icmp_ne (tgt := 17) hx hb dX8_packedSize_7 (by decide) (fun h7 => ?_) (fun h7 => ?_)
  · rw [if_neg h7] at hf
    refine lv_aload_n hx hb dX8_packedSize_17 rfl (lv_at hl 0 rfl) ?_
    refine g_Model_many C0 hT hE hP mf_X8_28 dX8_packedSize_18 ?_
    refine lv_iload_n hx hb dX8_packedSize_21 rfl (lv_at hl 1 rfl) ?_
    obtain ⟨hin, hf⟩ := ob_if hf
    refine aM_ld (a := 6) (by decide) C0 hT hE hP (inb_in hin) dX8_packedSize_22 ?_
    exact hret _ _ _ _ _ _ rfl hf hP hS dX8_packedSize_23
  · rw [if_pos h7] at hf
    refine lv_aload_n hx hb dX8_packedSize_10 rfl (lv_at hl 0 rfl) ?_
    refine g_Model_foldedSize C0 hT hE hP mf_X8_96 dX8_packedSize_11 ?_
    refine lv_goto (tgt := 23) hx hb dX8_packedSize_14 (by decide) ?_
    exact hret _ _ _ _ _ _ rfl hf hP hS dX8_packedSize_23
